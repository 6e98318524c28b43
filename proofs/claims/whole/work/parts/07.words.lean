/-! ===== the words of the tables ===== -/
abbrev y_Ci_init : MethodName := ⟨"FavoursGoOff$Circle", "<init>", "()V"⟩
abbrev y_Ci_find : MethodName := ⟨"FavoursGoOff$Circle", "find", "(LFavoursGoOff$Debts;)V"⟩
abbrev y_Ci_member : MethodName := ⟨"FavoursGoOff$Circle", "member", "(I)I"⟩
abbrev y_Ci_closes : MethodName := ⟨"FavoursGoOff$Circle", "closes", "(LFavoursGoOff$Circle;LFavoursGoOff$Debts;II)Z"⟩
abbrev y_Ci_holds : MethodName := ⟨"FavoursGoOff$Circle", "holds", "(II)Z"⟩
abbrev y_De_init : MethodName := ⟨"FavoursGoOff$Debts", "<init>", "()V"⟩
abbrev y_De_addUp : MethodName := ⟨"FavoursGoOff$Debts", "addUp", "(LFavoursGoOff$Street;I)V"⟩
abbrev y_De_between : MethodName := ⟨"FavoursGoOff$Debts", "between", "(II)I"⟩
abbrev y_De_balance : MethodName := ⟨"FavoursGoOff$Debts", "balance", "(I)I"⟩
abbrev y_De_fewestPayments : MethodName := ⟨"FavoursGoOff$Debts", "fewestPayments", "()I"⟩
abbrev y_De_mostGroups : MethodName := ⟨"FavoursGoOff$Debts", "mostGroups", "(I)I"⟩
abbrev y_De_callAllIn : MethodName := ⟨"FavoursGoOff$Debts", "callAllIn", "(LFavoursGoOff$Table;)V"⟩
abbrev y_De_dueFrom : MethodName := ⟨"FavoursGoOff$Debts", "dueFrom", "(I)I"⟩
abbrev y_De_doneFor : MethodName := ⟨"FavoursGoOff$Debts", "doneFor", "(II)I"⟩
abbrev y_Fr_init : MethodName := ⟨"FavoursGoOff$Fraction", "<init>", "()V"⟩
abbrev y_Fr_become : MethodName := ⟨"FavoursGoOff$Fraction", "become", "(JJ)V"⟩
abbrev y_Fr_commonDivisor : MethodName := ⟨"FavoursGoOff$Fraction", "commonDivisor", "(JJ)J"⟩
abbrev y_Hi_init : MethodName := ⟨"FavoursGoOff$History", "<init>", "()V"⟩
abbrev y_Hi_keepNight : MethodName := ⟨"FavoursGoOff$History", "keepNight", "()V"⟩
abbrev y_Hi_goBack : MethodName := ⟨"FavoursGoOff$History", "goBack", "()V"⟩
abbrev y_Hi_copyFrom : MethodName := ⟨"FavoursGoOff$History", "copyFrom", "(LFavoursGoOff$History;)V"⟩
abbrev y_Pl_init : MethodName := ⟨"FavoursGoOff$Plan", "<init>", "()V"⟩
abbrev y_Pl_make : MethodName := ⟨"FavoursGoOff$Plan", "make", "(LFavoursGoOff$Street;)V"⟩
abbrev y_Pl_favourOf : MethodName := ⟨"FavoursGoOff$Plan", "favourOf", "(I)I"⟩
abbrev y_Pl_layOut : MethodName := ⟨"FavoursGoOff$Plan", "layOut", "(LFavoursGoOff$Street;I)V"⟩
abbrev y_Pl_lookAhead : MethodName := ⟨"FavoursGoOff$Plan", "lookAhead", "()V"⟩
abbrev y_Pl_search : MethodName := ⟨"FavoursGoOff$Plan", "search", "(LFavoursGoOff$Plan;IIII)V"⟩
abbrev y_Pl_isNoBetter : MethodName := ⟨"FavoursGoOff$Plan", "isNoBetter", "(II)Z"⟩
abbrev y_Pl_keepIfBetter : MethodName := ⟨"FavoursGoOff$Plan", "keepIfBetter", "(II)V"⟩
abbrev y_Re_init : MethodName := ⟨"FavoursGoOff$Reader", "<init>", "()V"⟩
abbrev y_Re_readStreet : MethodName := ⟨"FavoursGoOff$Reader", "readStreet", "()I"⟩
abbrev y_Re_readPeople : MethodName := ⟨"FavoursGoOff$Reader", "readPeople", "()V"⟩
abbrev y_Re_readItem : MethodName := ⟨"FavoursGoOff$Reader", "readItem", "()V"⟩
abbrev y_Re_readStrong : MethodName := ⟨"FavoursGoOff$Reader", "readStrong", "()V"⟩
abbrev y_Re_readFavour : MethodName := ⟨"FavoursGoOff$Reader", "readFavour", "()V"⟩
abbrev y_Re_readNeed : MethodName := ⟨"FavoursGoOff$Reader", "readNeed", "()V"⟩
abbrev y_Re_refuse : MethodName := ⟨"FavoursGoOff$Reader", "refuse", "(I)V"⟩
abbrev y_Re_takeNumber : MethodName := ⟨"FavoursGoOff$Reader", "takeNumber", "(II)I"⟩
abbrev y_Re_takeStop : MethodName := ⟨"FavoursGoOff$Reader", "takeStop", "()V"⟩
abbrev y_Re_fail : MethodName := ⟨"FavoursGoOff$Reader", "fail", "()V"⟩
abbrev y_Re_step : MethodName := ⟨"FavoursGoOff$Reader", "step", "()V"⟩
abbrev y_Re_endOfRun : MethodName := ⟨"FavoursGoOff$Reader", "endOfRun", "(II)I"⟩
abbrev y_Re_takeFigures : MethodName := ⟨"FavoursGoOff$Reader", "takeFigures", "()V"⟩
abbrev y_Re_isWord : MethodName := ⟨"FavoursGoOff$Reader", "isWord", "(Ljava/lang/String;)Z"⟩
abbrev y_St_init : MethodName := ⟨"FavoursGoOff$Street", "<init>", "()V"⟩
abbrev y_St_open : MethodName := ⟨"FavoursGoOff$Street", "open", "(I)V"⟩
abbrev y_St_copyFrom : MethodName := ⟨"FavoursGoOff$Street", "copyFrom", "(LFavoursGoOff$Street;)V"⟩
abbrev y_St_takeAllButRates : MethodName := ⟨"FavoursGoOff$Street", "takeAllButRates", "(LFavoursGoOff$Street;)V"⟩
abbrev y_St_addFavour : MethodName := ⟨"FavoursGoOff$Street", "addFavour", "(IIIIII)I"⟩
abbrev y_St_addNeed : MethodName := ⟨"FavoursGoOff$Street", "addNeed", "(IIII)I"⟩
abbrev y_St_addPass : MethodName := ⟨"FavoursGoOff$Street", "addPass", "(III)I"⟩
abbrev y_St_wake : MethodName := ⟨"FavoursGoOff$Street", "wake", "()V"⟩
abbrev y_St_valueNow : MethodName := ⟨"FavoursGoOff$Street", "valueNow", "(I)I"⟩
abbrev y_St_valueOn : MethodName := ⟨"FavoursGoOff$Street", "valueOn", "(II)I"⟩
abbrev y_St_areAlike : MethodName := ⟨"FavoursGoOff$Street", "areAlike", "(II)Z"⟩
abbrev y_St_merge : MethodName := ⟨"FavoursGoOff$Street", "merge", "(II)I"⟩
abbrev y_St_cheapest : MethodName := ⟨"FavoursGoOff$Street", "cheapest", "(II)I"⟩
abbrev y_St_holderAhead : MethodName := ⟨"FavoursGoOff$Street", "holderAhead", "(I)I"⟩
abbrev y_St_rateNow : MethodName := ⟨"FavoursGoOff$Street", "rateNow", "(I)I"⟩
abbrev y_St_setRate : MethodName := ⟨"FavoursGoOff$Street", "setRate", "(II)V"⟩
abbrev y_St_drift : MethodName := ⟨"FavoursGoOff$Street", "drift", "(I)I"⟩
abbrev y_Ta_init : MethodName := ⟨"FavoursGoOff$Table", "<init>", "(II)V"⟩
abbrev y_Ta_has : MethodName := ⟨"FavoursGoOff$Table", "has", "(I)Z"⟩
abbrev y_Ta_isFull : MethodName := ⟨"FavoursGoOff$Table", "isFull", "()Z"⟩
abbrev y_Ta_at : MethodName := ⟨"FavoursGoOff$Table", "at", "(II)I"⟩
abbrev y_Ta_put : MethodName := ⟨"FavoursGoOff$Table", "put", "(III)V"⟩
abbrev y_Ta_more : MethodName := ⟨"FavoursGoOff$Table", "more", "(III)V"⟩
abbrev y_Ta_fillRow : MethodName := ⟨"FavoursGoOff$Table", "fillRow", "(II)V"⟩
abbrev y_Ta_add : MethodName := ⟨"FavoursGoOff$Table", "add", "()I"⟩
abbrev y_Ta_empty : MethodName := ⟨"FavoursGoOff$Table", "empty", "()I"⟩
abbrev y_Ta_copyFrom : MethodName := ⟨"FavoursGoOff$Table", "copyFrom", "(LFavoursGoOff$Table;)V"⟩
abbrev y_Ta_mixedInto : MethodName := ⟨"FavoursGoOff$Table", "mixedInto", "(J)J"⟩
abbrev y_Ta_placeOf : MethodName := ⟨"FavoursGoOff$Table", "placeOf", "(II)I"⟩
abbrev y_Te_init : MethodName := ⟨"FavoursGoOff$Text", "<init>", "()V"⟩
abbrev y_Te_add : MethodName := ⟨"FavoursGoOff$Text", "add", "(I)V"⟩
abbrev y_Te_at : MethodName := ⟨"FavoursGoOff$Text", "at", "(I)I"⟩
abbrev y_Fa_init : MethodName := ⟨"FavoursGoOff", "<init>", "()V"⟩
abbrev y_Fa_people : MethodName := ⟨"FavoursGoOff", "people", "(I)I"⟩
abbrev y_Fa_strong : MethodName := ⟨"FavoursGoOff", "strong", "(II)I"⟩
abbrev y_Fa_favour : MethodName := ⟨"FavoursGoOff", "favour", "(IIIIII)I"⟩
abbrev y_Fa_need : MethodName := ⟨"FavoursGoOff", "need", "(IIII)I"⟩
abbrev y_Fa_contented : MethodName := ⟨"FavoursGoOff", "contented", "()I"⟩
abbrev y_Fa_type : MethodName := ⟨"FavoursGoOff", "type", "(JI)I"⟩
abbrev y_Fa_clear : MethodName := ⟨"FavoursGoOff", "clear", "()I"⟩
abbrev y_Fa_read : MethodName := ⟨"FavoursGoOff", "read", "()I"⟩
abbrev y_Fa_value : MethodName := ⟨"FavoursGoOff", "value", "(II)I"⟩
abbrev y_Fa_of : MethodName := ⟨"FavoursGoOff", "of", "(I)I"⟩
abbrev y_Fa_pass : MethodName := ⟨"FavoursGoOff", "pass", "(II)I"⟩
abbrev y_Fa_join : MethodName := ⟨"FavoursGoOff", "join", "(II)I"⟩
abbrev y_Fa_ask : MethodName := ⟨"FavoursGoOff", "ask", "(I)I"⟩
abbrev y_Fa_night : MethodName := ⟨"FavoursGoOff", "night", "()I"⟩
abbrev y_Fa_undo : MethodName := ⟨"FavoursGoOff", "undo", "()I"⟩
abbrev y_Fa_owes : MethodName := ⟨"FavoursGoOff", "owes", "(II)I"⟩
abbrev y_Fa_ring : MethodName := ⟨"FavoursGoOff", "ring", "(I)I"⟩
abbrev y_Fa_cancel : MethodName := ⟨"FavoursGoOff", "cancel", "()I"⟩
abbrev y_Fa_net : MethodName := ⟨"FavoursGoOff", "net", "(I)I"⟩
abbrev y_Fa_fewest : MethodName := ⟨"FavoursGoOff", "fewest", "()I"⟩
abbrev y_Fa_met : MethodName := ⟨"FavoursGoOff", "met", "(I)I"⟩
abbrev y_Fa_plan : MethodName := ⟨"FavoursGoOff", "plan", "(I)I"⟩
abbrev y_Fa_fire : MethodName := ⟨"FavoursGoOff", "fire", "(II)I"⟩
abbrev y_Fa_rate : MethodName := ⟨"FavoursGoOff", "rate", "(II)I"⟩
abbrev y_Fa_set : MethodName := ⟨"FavoursGoOff", "set", "(II)I"⟩
abbrev y_Fa_settles : MethodName := ⟨"FavoursGoOff", "settles", "()I"⟩
abbrev y_Fa_told : MethodName := ⟨"FavoursGoOff", "told", "(III)I"⟩
abbrev y_Fa_forged : MethodName := ⟨"FavoursGoOff", "forged", "()I"⟩
abbrev y_Fa_forget : MethodName := ⟨"FavoursGoOff", "forget", "()I"⟩
abbrev y_Fa_goesOff : MethodName := ⟨"FavoursGoOff", "goesOff", "(I)I"⟩
abbrev y_Fa_kept : MethodName := ⟨"FavoursGoOff", "kept", "(II)I"⟩
abbrev y_Fa_part : MethodName := ⟨"FavoursGoOff", "part", "(I)J"⟩
abbrev y_Fa_image : MethodName := ⟨"FavoursGoOff", "image", "(I)I"⟩
abbrev y_Fa_from : MethodName := ⟨"FavoursGoOff", "from", "(I)I"⟩
abbrev y_Fa_status : MethodName := ⟨"FavoursGoOff", "status", "(I)I"⟩
abbrev y_Fa_count : MethodName := ⟨"FavoursGoOff", "count", "(I)I"⟩
abbrev y_Fa_digest : MethodName := ⟨"FavoursGoOff", "digest", "()J"⟩
abbrev y_Fa_howMany : MethodName := ⟨"FavoursGoOff", "howMany", "(I)I"⟩
abbrev y_Fa_imageAt : MethodName := ⟨"FavoursGoOff", "imageAt", "(I)LFavoursGoOff$History;"⟩
abbrev y_Fa_findRing : MethodName := ⟨"FavoursGoOff", "findRing", "()V"⟩
abbrev y_Fa_bad : MethodName := ⟨"FavoursGoOff", "bad", "(I)I"⟩
abbrev y_Fa_no : MethodName := ⟨"FavoursGoOff", "no", "(I)I"⟩
abbrev y_Fa_full : MethodName := ⟨"FavoursGoOff", "full", "()I"⟩
abbrev y_Fa_isDayToCome : MethodName := ⟨"FavoursGoOff", "isDayToCome", "(I)Z"⟩
abbrev y_Fa_isDay : MethodName := ⟨"FavoursGoOff", "isDay", "(I)Z"⟩
abbrev y_Fa_isThing : MethodName := ⟨"FavoursGoOff", "isThing", "(I)Z"⟩
abbrev y_Fa_isWithin : MethodName := ⟨"FavoursGoOff", "isWithin", "(III)Z"⟩
abbrev y_Fa_heldRate : MethodName := ⟨"FavoursGoOff", "heldRate", "(I)I"⟩
abbrev y_Fa_lastChange : MethodName := ⟨"FavoursGoOff", "lastChange", "(II)I"⟩
abbrev y_Fa_power : MethodName := ⟨"FavoursGoOff", "power", "(II)J"⟩
abbrev y_Fa_choices : MethodName := ⟨"FavoursGoOff", "choices", "(II)J"⟩
abbrev y_Mo_init : MethodName := ⟨"FavoursGoOffModel", "<init>", "()V"⟩
abbrev y_Mo_in : MethodName := ⟨"FavoursGoOffModel", "in", "(JJJ)Z"⟩
abbrev y_Mo_bad : MethodName := ⟨"FavoursGoOffModel", "bad", "(I)I"⟩
abbrev y_Mo_no : MethodName := ⟨"FavoursGoOffModel", "no", "(I)I"⟩
abbrev y_Mo_full : MethodName := ⟨"FavoursGoOffModel", "full", "()I"⟩
abbrev y_Mo_tells : MethodName := ⟨"FavoursGoOffModel", "tells", "(JJ)I"⟩
abbrev y_Mo_begin : MethodName := ⟨"FavoursGoOffModel", "begin", "([II)V"⟩
abbrev y_Mo_day : MethodName := ⟨"FavoursGoOffModel", "day", "()I"⟩
abbrev y_Mo_many : MethodName := ⟨"FavoursGoOffModel", "many", "()I"⟩
abbrev y_Mo_isOne : MethodName := ⟨"FavoursGoOffModel", "isOne", "(I)Z"⟩
abbrev y_Mo_isDay : MethodName := ⟨"FavoursGoOffModel", "isDay", "(I)Z"⟩
abbrev y_Mo_isThing : MethodName := ⟨"FavoursGoOffModel", "isThing", "(I)Z"⟩
abbrev y_Mo_isFavour : MethodName := ⟨"FavoursGoOffModel", "isFavour", "(I)Z"⟩
abbrev y_Mo_told0 : MethodName := ⟨"FavoursGoOffModel", "told0", "(II)I"⟩
abbrev y_Mo_people : MethodName := ⟨"FavoursGoOffModel", "people", "(I)I"⟩
abbrev y_Mo_strong : MethodName := ⟨"FavoursGoOffModel", "strong", "(II)I"⟩
abbrev y_Mo_layFavour : MethodName := ⟨"FavoursGoOffModel", "layFavour", "([IIIIIIIII)V"⟩
abbrev y_Mo_favour : MethodName := ⟨"FavoursGoOffModel", "favour", "(IIIIII)I"⟩
abbrev y_Mo_layNeed : MethodName := ⟨"FavoursGoOffModel", "layNeed", "([IIIIII)V"⟩
abbrev y_Mo_need : MethodName := ⟨"FavoursGoOffModel", "need", "(IIII)I"⟩
abbrev y_Mo_contented : MethodName := ⟨"FavoursGoOffModel", "contented", "()I"⟩
abbrev y_Mo_notBelow0 : MethodName := ⟨"FavoursGoOffModel", "notBelow0", "(I)I"⟩
abbrev y_Mo_valueOf : MethodName := ⟨"FavoursGoOffModel", "valueOf", "(II)I"⟩
abbrev y_Mo_valueNow : MethodName := ⟨"FavoursGoOffModel", "valueNow", "(I)I"⟩
abbrev y_Mo_value : MethodName := ⟨"FavoursGoOffModel", "value", "(II)I"⟩
abbrev y_Mo_of : MethodName := ⟨"FavoursGoOffModel", "of", "(I)I"⟩
abbrev y_Mo_lose : MethodName := ⟨"FavoursGoOffModel", "lose", "(I)V"⟩
abbrev y_Mo_pass : MethodName := ⟨"FavoursGoOffModel", "pass", "(II)I"⟩
abbrev y_Mo_join : MethodName := ⟨"FavoursGoOffModel", "join", "(II)I"⟩
abbrev y_Mo_ask : MethodName := ⟨"FavoursGoOffModel", "ask", "(I)I"⟩
abbrev y_Mo_night : MethodName := ⟨"FavoursGoOffModel", "night", "()I"⟩
abbrev y_Mo_undo : MethodName := ⟨"FavoursGoOffModel", "undo", "()I"⟩
abbrev y_Mo_owesTo : MethodName := ⟨"FavoursGoOffModel", "owesTo", "(II)I"⟩
abbrev y_Mo_owes : MethodName := ⟨"FavoursGoOffModel", "owes", "(II)I"⟩
abbrev y_Mo_layRing : MethodName := ⟨"FavoursGoOffModel", "layRing", "(II)Z"⟩
abbrev y_Mo_findRing : MethodName := ⟨"FavoursGoOffModel", "findRing", "()V"⟩
abbrev y_Mo_ring : MethodName := ⟨"FavoursGoOffModel", "ring", "(I)I"⟩
abbrev y_Mo_leastOf : MethodName := ⟨"FavoursGoOffModel", "leastOf", "(II)I"⟩
abbrev y_Mo_cancel : MethodName := ⟨"FavoursGoOffModel", "cancel", "()I"⟩
abbrev y_Mo_netOf : MethodName := ⟨"FavoursGoOffModel", "netOf", "(I)I"⟩
abbrev y_Mo_net : MethodName := ⟨"FavoursGoOffModel", "net", "(I)I"⟩
abbrev y_Mo_fewest : MethodName := ⟨"FavoursGoOffModel", "fewest", "()I"⟩
abbrev y_Mo_need0 : MethodName := ⟨"FavoursGoOffModel", "need0", "(II)I"⟩
abbrev y_Mo_mayMeet : MethodName := ⟨"FavoursGoOffModel", "mayMeet", "(II)Z"⟩
abbrev y_Mo_fits : MethodName := ⟨"FavoursGoOffModel", "fits", "(I)Z"⟩
abbrev y_Mo_look : MethodName := ⟨"FavoursGoOffModel", "look", "()V"⟩
abbrev y_Mo_findMet : MethodName := ⟨"FavoursGoOffModel", "findMet", "()V"⟩
abbrev y_Mo_met : MethodName := ⟨"FavoursGoOffModel", "met", "(I)I"⟩
abbrev y_Mo_plan : MethodName := ⟨"FavoursGoOffModel", "plan", "(I)I"⟩
abbrev y_Mo_toDo : MethodName := ⟨"FavoursGoOffModel", "toDo", "(II)I"⟩
abbrev y_Mo_doneFor : MethodName := ⟨"FavoursGoOffModel", "doneFor", "(III)I"⟩
abbrev y_Mo_fire : MethodName := ⟨"FavoursGoOffModel", "fire", "(II)I"⟩
abbrev y_Mo_ratesBy : MethodName := ⟨"FavoursGoOffModel", "ratesBy", "(I)I"⟩
abbrev y_Mo_hold : MethodName := ⟨"FavoursGoOffModel", "hold", "(I)I"⟩
abbrev y_Mo_rate : MethodName := ⟨"FavoursGoOffModel", "rate", "(II)I"⟩
abbrev y_Mo_set : MethodName := ⟨"FavoursGoOffModel", "set", "(II)I"⟩
abbrev y_Mo_settles : MethodName := ⟨"FavoursGoOffModel", "settles", "()I"⟩
abbrev y_Mo_told : MethodName := ⟨"FavoursGoOffModel", "told", "(III)I"⟩
abbrev y_Mo_forged : MethodName := ⟨"FavoursGoOffModel", "forged", "()I"⟩
abbrev y_Mo_forget : MethodName := ⟨"FavoursGoOffModel", "forget", "()I"⟩
abbrev y_Mo_goesOff : MethodName := ⟨"FavoursGoOffModel", "goesOff", "(I)I"⟩
abbrev y_Mo_kept : MethodName := ⟨"FavoursGoOffModel", "kept", "(II)I"⟩
abbrev y_Mo_type : MethodName := ⟨"FavoursGoOffModel", "type", "(JI)I"⟩
abbrev y_Mo_clear : MethodName := ⟨"FavoursGoOffModel", "clear", "()I"⟩
abbrev y_Mo_isSmall : MethodName := ⟨"FavoursGoOffModel", "isSmall", "(I)Z"⟩
abbrev y_Mo_isFigure : MethodName := ⟨"FavoursGoOffModel", "isFigure", "(I)Z"⟩
abbrev y_Mo_lookAt : MethodName := ⟨"FavoursGoOffModel", "lookAt", "(I)V"⟩
abbrev y_Mo_goOn : MethodName := ⟨"FavoursGoOffModel", "goOn", "()V"⟩
abbrev y_Mo_isWord : MethodName := ⟨"FavoursGoOffModel", "isWord", "(IIIIII)Z"⟩
abbrev y_Mo_takes : MethodName := ⟨"FavoursGoOffModel", "takes", "(III)Z"⟩
abbrev y_Mo_readsStrong : MethodName := ⟨"FavoursGoOffModel", "readsStrong", "()Z"⟩
abbrev y_Mo_readsFavour : MethodName := ⟨"FavoursGoOffModel", "readsFavour", "()Z"⟩
abbrev y_Mo_readsNeed : MethodName := ⟨"FavoursGoOffModel", "readsNeed", "()Z"⟩
abbrev y_Mo_readsItem : MethodName := ⟨"FavoursGoOffModel", "readsItem", "(Z)Z"⟩
abbrev y_Mo_read : MethodName := ⟨"FavoursGoOffModel", "read", "()I"⟩
abbrev y_Mo_part : MethodName := ⟨"FavoursGoOffModel", "part", "(I)J"⟩
abbrev y_Mo_image : MethodName := ⟨"FavoursGoOffModel", "image", "(I)I"⟩
abbrev y_Mo_from : MethodName := ⟨"FavoursGoOffModel", "from", "(I)I"⟩
abbrev y_Mo_status : MethodName := ⟨"FavoursGoOffModel", "status", "(I)I"⟩
abbrev y_Mo_counted : MethodName := ⟨"FavoursGoOffModel", "counted", "(I)I"⟩
abbrev y_Mo_count : MethodName := ⟨"FavoursGoOffModel", "count", "(I)I"⟩
abbrev y_Mo_sums : MethodName := ⟨"FavoursGoOffModel", "sums", "(JII)J"⟩
abbrev y_Mo_digest : MethodName := ⟨"FavoursGoOffModel", "digest", "()J"⟩
abbrev y_JS_length_8abf5 : MethodName := ⟨"java/lang/String", "length", "()I"⟩
abbrev y_JS_charAt_5068e : MethodName := ⟨"java/lang/String", "charAt", "(I)C"⟩
abbrev y_JS_coder_7d493 : MethodName := ⟨"java/lang/String", "coder", "()B"⟩
abbrev y_JS_isLatin1_aae02 : MethodName := ⟨"java/lang/String", "isLatin1", "()Z"⟩
abbrev y_JS_checkIndex_df160 : MethodName := ⟨"java/lang/String", "checkIndex", "(II)V"⟩
abbrev y_JL_charAt_3b067 : MethodName := ⟨"java/lang/StringLatin1", "charAt", "([BI)C"⟩
abbrev y_JU_getChar_3b067 : MethodName := ⟨"java/lang/StringUTF16", "getChar", "([BI)C"⟩
abbrev y_JU_length_9d52b : MethodName := ⟨"java/lang/StringUTF16", "length", "([B)I"⟩
abbrev y_JU_charAt_3b067 : MethodName := ⟨"java/lang/StringUTF16", "charAt", "([BI)C"⟩
abbrev y_JU_checkIndex_2214a : MethodName := ⟨"java/lang/StringUTF16", "checkIndex", "(I[B)V"⟩
abbrev y_JP_checkIndex_8e157 : MethodName := ⟨"jdk/internal/util/Preconditions", "checkIndex", "(IILjava/util/function/BiFunction;)I"⟩
abbrev y_La_law : MethodName := ⟨"FavoursGoOffLaw", "law", "([I)Z"⟩
theorem ul_0 : ∀ w ∈ u_ws RX0 TX0 2, w ∈ TB := tb_all (by decide +kernel) (by decide +kernel)
theorem ft_0 : ∀ j t, (fty 0)[j]? = some t → defaultValue (tyX0 j) = if t = 0 then .int 0 else if t = 1 then .long 0 else .null := by
  intro j t h
  have hj : j < 2 := (List.getElem?_eq_some_iff.mp h).1
  match j, hj, h with
  | 0, _, h => cases h; rfl
  | 1, _, h => cases h; rfl
  | j + 2, hj, _ => omega
theorem ul_1 : ∀ w ∈ u_ws RX1 TX1 6, w ∈ TB := tb_all (by decide +kernel) (by decide +kernel)
theorem ft_1 : ∀ j t, (fty 1)[j]? = some t → defaultValue (tyX1 j) = if t = 0 then .int 0 else if t = 1 then .long 0 else .null := by
  intro j t h
  have hj : j < 6 := (List.getElem?_eq_some_iff.mp h).1
  match j, hj, h with
  | 0, _, h => cases h; rfl
  | 1, _, h => cases h; rfl
  | 2, _, h => cases h; rfl
  | 3, _, h => cases h; rfl
  | 4, _, h => cases h; rfl
  | 5, _, h => cases h; rfl
  | j + 6, hj, _ => omega
theorem ul_2 : ∀ w ∈ u_ws RX2 TX2 2, w ∈ TB := tb_all (by decide +kernel) (by decide +kernel)
theorem ft_2 : ∀ j t, (fty 2)[j]? = some t → defaultValue (tyX2 j) = if t = 0 then .int 0 else if t = 1 then .long 0 else .null := by
  intro j t h
  have hj : j < 2 := (List.getElem?_eq_some_iff.mp h).1
  match j, hj, h with
  | 0, _, h => cases h; rfl
  | 1, _, h => cases h; rfl
  | j + 2, hj, _ => omega
theorem ul_3 : ∀ w ∈ u_ws RX3 TX3 5, w ∈ TB := tb_all (by decide +kernel) (by decide +kernel)
theorem ft_3 : ∀ j t, (fty 3)[j]? = some t → defaultValue (tyX3 j) = if t = 0 then .int 0 else if t = 1 then .long 0 else .null := by
  intro j t h
  have hj : j < 5 := (List.getElem?_eq_some_iff.mp h).1
  match j, hj, h with
  | 0, _, h => cases h; rfl
  | 1, _, h => cases h; rfl
  | 2, _, h => cases h; rfl
  | 3, _, h => cases h; rfl
  | 4, _, h => cases h; rfl
  | j + 5, hj, _ => omega
theorem ul_4 : ∀ w ∈ u_ws RX4 TX4 13, w ∈ TB := tb_all (by decide +kernel) (by decide +kernel)
theorem ft_4 : ∀ j t, (fty 4)[j]? = some t → defaultValue (tyX4 j) = if t = 0 then .int 0 else if t = 1 then .long 0 else .null := by
  intro j t h
  have hj : j < 13 := (List.getElem?_eq_some_iff.mp h).1
  match j, hj, h with
  | 0, _, h => cases h; rfl
  | 1, _, h => cases h; rfl
  | 2, _, h => cases h; rfl
  | 3, _, h => cases h; rfl
  | 4, _, h => cases h; rfl
  | 5, _, h => cases h; rfl
  | 6, _, h => cases h; rfl
  | 7, _, h => cases h; rfl
  | 8, _, h => cases h; rfl
  | 9, _, h => cases h; rfl
  | 10, _, h => cases h; rfl
  | 11, _, h => cases h; rfl
  | 12, _, h => cases h; rfl
  | j + 13, hj, _ => omega
theorem ul_5 : ∀ w ∈ u_ws RX5 TX5 8, w ∈ TB := tb_all (by decide +kernel) (by decide +kernel)
theorem ft_5 : ∀ j t, (fty 5)[j]? = some t → defaultValue (tyX5 j) = if t = 0 then .int 0 else if t = 1 then .long 0 else .null := by
  intro j t h
  have hj : j < 8 := (List.getElem?_eq_some_iff.mp h).1
  match j, hj, h with
  | 0, _, h => cases h; rfl
  | 1, _, h => cases h; rfl
  | 2, _, h => cases h; rfl
  | 3, _, h => cases h; rfl
  | 4, _, h => cases h; rfl
  | 5, _, h => cases h; rfl
  | 6, _, h => cases h; rfl
  | 7, _, h => cases h; rfl
  | j + 8, hj, _ => omega
theorem ul_6 : ∀ w ∈ u_ws RX6 TX6 6, w ∈ TB := tb_all (by decide +kernel) (by decide +kernel)
theorem ft_6 : ∀ j t, (fty 6)[j]? = some t → defaultValue (tyX6 j) = if t = 0 then .int 0 else if t = 1 then .long 0 else .null := by
  intro j t h
  have hj : j < 6 := (List.getElem?_eq_some_iff.mp h).1
  match j, hj, h with
  | 0, _, h => cases h; rfl
  | 1, _, h => cases h; rfl
  | 2, _, h => cases h; rfl
  | 3, _, h => cases h; rfl
  | 4, _, h => cases h; rfl
  | 5, _, h => cases h; rfl
  | j + 6, hj, _ => omega
theorem ul_7 : ∀ w ∈ u_ws RX7 TX7 3, w ∈ TB := tb_all (by decide +kernel) (by decide +kernel)
theorem ft_7 : ∀ j t, (fty 7)[j]? = some t → defaultValue (tyX7 j) = if t = 0 then .int 0 else if t = 1 then .long 0 else .null := by
  intro j t h
  have hj : j < 3 := (List.getElem?_eq_some_iff.mp h).1
  match j, hj, h with
  | 0, _, h => cases h; rfl
  | 1, _, h => cases h; rfl
  | 2, _, h => cases h; rfl
  | j + 3, hj, _ => omega
theorem ul_8 : ∀ w ∈ u_ws RX8 TX8 2, w ∈ TB := tb_all (by decide +kernel) (by decide +kernel)
theorem ft_8 : ∀ j t, (fty 8)[j]? = some t → defaultValue (tyX8 j) = if t = 0 then .int 0 else if t = 1 then .long 0 else .null := by
  intro j t h
  have hj : j < 2 := (List.getElem?_eq_some_iff.mp h).1
  match j, hj, h with
  | 0, _, h => cases h; rfl
  | 1, _, h => cases h; rfl
  | j + 2, hj, _ => omega
theorem ul_9 : ∀ w ∈ u_ws RX9 TX9 13, w ∈ TB := tb_all (by decide +kernel) (by decide +kernel)
theorem ft_9 : ∀ j t, (fty 9)[j]? = some t → defaultValue (tyX9 j) = if t = 0 then .int 0 else if t = 1 then .long 0 else .null := by
  intro j t h
  have hj : j < 13 := (List.getElem?_eq_some_iff.mp h).1
  match j, hj, h with
  | 0, _, h => cases h; rfl
  | 1, _, h => cases h; rfl
  | 2, _, h => cases h; rfl
  | 3, _, h => cases h; rfl
  | 4, _, h => cases h; rfl
  | 5, _, h => cases h; rfl
  | 6, _, h => cases h; rfl
  | 7, _, h => cases h; rfl
  | 8, _, h => cases h; rfl
  | 9, _, h => cases h; rfl
  | 10, _, h => cases h; rfl
  | 11, _, h => cases h; rfl
  | 12, _, h => cases h; rfl
  | j + 13, hj, _ => omega
theorem ul_10 : ∀ w ∈ u_ws RX10 TX10 24, w ∈ TB := tb_all (by decide +kernel) (by decide +kernel)
theorem ft_10 : ∀ j t, (fty 10)[j]? = some t → defaultValue (tyX10 j) = if t = 0 then .int 0 else if t = 1 then .long 0 else .null := by
  intro j t h
  have hj : j < 24 := (List.getElem?_eq_some_iff.mp h).1
  match j, hj, h with
  | 0, _, h => cases h; rfl
  | 1, _, h => cases h; rfl
  | 2, _, h => cases h; rfl
  | 3, _, h => cases h; rfl
  | 4, _, h => cases h; rfl
  | 5, _, h => cases h; rfl
  | 6, _, h => cases h; rfl
  | 7, _, h => cases h; rfl
  | 8, _, h => cases h; rfl
  | 9, _, h => cases h; rfl
  | 10, _, h => cases h; rfl
  | 11, _, h => cases h; rfl
  | 12, _, h => cases h; rfl
  | 13, _, h => cases h; rfl
  | 14, _, h => cases h; rfl
  | 15, _, h => cases h; rfl
  | 16, _, h => cases h; rfl
  | 17, _, h => cases h; rfl
  | 18, _, h => cases h; rfl
  | 19, _, h => cases h; rfl
  | 20, _, h => cases h; rfl
  | 21, _, h => cases h; rfl
  | 22, _, h => cases h; rfl
  | 23, _, h => cases h; rfl
  | j + 24, hj, _ => omega
theorem it_La : Cond.initialized "FavoursGoOffLaw" ∈ TB := tb_t 0 (by decide +kernel) (by decide +kernel)
theorem it_Fa : Cond.initialized "FavoursGoOff" ∈ TB := tb_t 1 (by decide +kernel) (by decide +kernel)
theorem it_Hi : Cond.initialized "FavoursGoOff$History" ∈ TB := tb_t 2 (by decide +kernel) (by decide +kernel)
theorem it_St : Cond.initialized "FavoursGoOff$Street" ∈ TB := tb_t 3 (by decide +kernel) (by decide +kernel)
theorem it_Ta : Cond.initialized "FavoursGoOff$Table" ∈ TB := tb_t 4 (by decide +kernel) (by decide +kernel)
theorem it_JM : Cond.initialized "java/lang/Math" ∈ TB := tb_t 5 (by decide +kernel) (by decide +kernel)
theorem it_Re : Cond.initialized "FavoursGoOff$Reader" ∈ TB := tb_t 6 (by decide +kernel) (by decide +kernel)
theorem it_Te : Cond.initialized "FavoursGoOff$Text" ∈ TB := tb_t 7 (by decide +kernel) (by decide +kernel)
theorem it_De : Cond.initialized "FavoursGoOff$Debts" ∈ TB := tb_t 8 (by decide +kernel) (by decide +kernel)
theorem it_Ci : Cond.initialized "FavoursGoOff$Circle" ∈ TB := tb_t 9 (by decide +kernel) (by decide +kernel)
theorem it_Pl : Cond.initialized "FavoursGoOff$Plan" ∈ TB := tb_t 10 (by decide +kernel) (by decide +kernel)
theorem it_Fr : Cond.initialized "FavoursGoOff$Fraction" ∈ TB := tb_t 11 (by decide +kernel) (by decide +kernel)
theorem it_Mo : Cond.initialized "FavoursGoOffModel" ∈ TB := tb_t 12 (by decide +kernel) (by decide +kernel)
theorem it_JS : Cond.initialized "java/lang/String" ∈ TB := tb_t 13 (by decide +kernel) (by decide +kernel)
theorem it_JL : Cond.initialized "java/lang/StringLatin1" ∈ TB := tb_t 14 (by decide +kernel) (by decide +kernel)
theorem it_JP : Cond.initialized "jdk/internal/util/Preconditions" ∈ TB := tb_t 15 (by decide +kernel) (by decide +kernel)
theorem it_JU : Cond.initialized "java/lang/StringUTF16" ∈ TB := tb_t 16 (by decide +kernel) (by decide +kernel)
theorem it_JY : Cond.initialized "java/lang/System" ∈ TB := tb_t 17 (by decide +kernel) (by decide +kernel)
theorem cl_La_7 : Cond.classLink "FavoursGoOffLaw" 7 "FavoursGoOff" ∈ TB := tb_t 18 (by decide +kernel) (by decide +kernel)
theorem in_Fa : Cond.instantiable "FavoursGoOff" 13 ∈ TB := tb_t 19 (by decide +kernel) (by decide +kernel)
theorem ml_La_9 : Cond.methodLink "FavoursGoOffLaw" 9 y_Fa_init ∈ TB := tb_t 20 (by decide +kernel) (by decide +kernel)
theorem ml_Fa_1 : Cond.methodLink "FavoursGoOff" 1 Lib.objectInit ∈ TB := tb_t 23 (by decide +kernel) (by decide +kernel)
theorem cl_Fa_7 : Cond.classLink "FavoursGoOff" 7 "FavoursGoOff$History" ∈ TB := tb_t 26 (by decide +kernel) (by decide +kernel)
theorem in_Hi : Cond.instantiable "FavoursGoOff$History" 5 ∈ TB := tb_t 27 (by decide +kernel) (by decide +kernel)
theorem ml_Hi_3 : Cond.methodLink "FavoursGoOff$History" 3 Lib.objectInit ∈ TB := tb_t 31 (by decide +kernel) (by decide +kernel)
theorem cl_Hi_9 : Cond.classLink "FavoursGoOff$History" 9 "FavoursGoOff$Street" ∈ TB := tb_t 32 (by decide +kernel) (by decide +kernel)
theorem in_St : Cond.instantiable "FavoursGoOff$Street" 6 ∈ TB := tb_t 33 (by decide +kernel) (by decide +kernel)
theorem ml_Hi_11 : Cond.methodLink "FavoursGoOff$History" 11 y_St_init ∈ TB := tb_t 34 (by decide +kernel) (by decide +kernel)
theorem ml_St_3 : Cond.methodLink "FavoursGoOff$Street" 3 Lib.objectInit ∈ TB := tb_t 37 (by decide +kernel) (by decide +kernel)
theorem cl_St_9 : Cond.classLink "FavoursGoOff$Street" 9 "FavoursGoOff$Table" ∈ TB := tb_t 38 (by decide +kernel) (by decide +kernel)
theorem in_Ta : Cond.instantiable "FavoursGoOff$Table" 3 ∈ TB := tb_t 39 (by decide +kernel) (by decide +kernel)
theorem ml_St_11 : Cond.methodLink "FavoursGoOff$Street" 11 y_Ta_init ∈ TB := tb_t 40 (by decide +kernel) (by decide +kernel)
theorem ml_Ta_3 : Cond.methodLink "FavoursGoOff$Table" 3 Lib.objectInit ∈ TB := tb_t 43 (by decide +kernel) (by decide +kernel)
theorem ml_Ta_15 : Cond.methodLink "FavoursGoOff$Table" 15 Lib.Math.max.name ∈ TB := tb_t 44 (by decide +kernel) (by decide +kernel)
theorem fl_Ta_9 : FL "FavoursGoOff$Table" 9 7 0 0 true .int := FL.mk' "FavoursGoOff$Table" TX7 3 tyX7 rfl ul_7 tyX7_ok nmX7 (by decide) rfl rfl (fun _ _ => rfl) (tb_t 47 (by decide +kernel) (by decide +kernel)) rfl (by decide)
theorem fl_Ta_21 : FL "FavoursGoOff$Table" 21 7 1 2 true (.array .int) := FL.mk' "FavoursGoOff$Table" TX7 3 tyX7 rfl ul_7 tyX7_ok nmX7 (by decide) rfl rfl (fun _ _ => rfl) (tb_t 48 (by decide +kernel) (by decide +kernel)) rfl (by decide)
theorem fl_St_32 : FL "FavoursGoOff$Street" 32 7 2 0 false .int := FL.mk' "FavoursGoOff$Table" TX7 3 tyX7 rfl ul_7 tyX7_ok nmX7 (by decide) rfl rfl (fun h => by cases h) (tb_t 49 (by decide +kernel) (by decide +kernel)) rfl (by decide)
theorem fl_Ta_25 : FL "FavoursGoOff$Table" 25 7 2 0 false .int := FL.mk' "FavoursGoOff$Table" TX7 3 tyX7 rfl ul_7 tyX7_ok nmX7 (by decide) rfl rfl (fun h => by cases h) (tb_t 50 (by decide +kernel) (by decide +kernel)) rfl (by decide)
theorem fl_De_32 : FL "FavoursGoOff$Debts" 32 7 2 0 false .int := FL.mk' "FavoursGoOff$Table" TX7 3 tyX7 rfl ul_7 tyX7_ok nmX7 (by decide) rfl rfl (fun h => by cases h) (tb_t 51 (by decide +kernel) (by decide +kernel)) rfl (by decide)
theorem fl_Pl_51 : FL "FavoursGoOff$Plan" 51 7 2 0 false .int := FL.mk' "FavoursGoOff$Table" TX7 3 tyX7 rfl ul_7 tyX7_ok nmX7 (by decide) rfl rfl (fun h => by cases h) (tb_t 52 (by decide +kernel) (by decide +kernel)) rfl (by decide)
theorem fl_Fa_91 : FL "FavoursGoOff" 91 7 2 0 false .int := FL.mk' "FavoursGoOff$Table" TX7 3 tyX7 rfl ul_7 tyX7_ok nmX7 (by decide) rfl rfl (fun h => by cases h) (tb_t 53 (by decide +kernel) (by decide +kernel)) rfl (by decide)
theorem ac_int : Cond.arrayClass .int ∈ TB := tb_t 61 (by decide +kernel) (by decide +kernel)
theorem fl_St_14 : FL "FavoursGoOff$Street" 14 6 0 2 true (.object "FavoursGoOff$Table") := FL.mk' "FavoursGoOff$Street" TX6 6 tyX6 rfl ul_6 tyX6_ok nmX6 (by decide) rfl rfl (fun _ _ => rfl) (tb_t 62 (by decide +kernel) (by decide +kernel)) rfl (by decide)
theorem fl_De_27 : FL "FavoursGoOff$Debts" 27 6 0 2 true (.object "FavoursGoOff$Table") := FL.mk' "FavoursGoOff$Street" TX6 6 tyX6 rfl ul_6 tyX6_ok nmX6 (by decide) rfl rfl (fun _ h => absurd h (by decide)) (tb_t 63 (by decide +kernel) (by decide +kernel)) rfl (by decide)
theorem fl_Fa_87 : FL "FavoursGoOff" 87 6 0 2 true (.object "FavoursGoOff$Table") := FL.mk' "FavoursGoOff$Street" TX6 6 tyX6 rfl ul_6 tyX6_ok nmX6 (by decide) rfl rfl (fun _ h => absurd h (by decide)) (tb_t 64 (by decide +kernel) (by decide +kernel)) rfl (by decide)
theorem fl_Pl_88 : FL "FavoursGoOff$Plan" 88 6 0 2 true (.object "FavoursGoOff$Table") := FL.mk' "FavoursGoOff$Street" TX6 6 tyX6 rfl ul_6 tyX6_ok nmX6 (by decide) rfl rfl (fun _ h => absurd h (by decide)) (tb_t 65 (by decide +kernel) (by decide +kernel)) rfl (by decide)
theorem fl_Re_95 : FL "FavoursGoOff$Reader" 95 6 0 2 true (.object "FavoursGoOff$Table") := FL.mk' "FavoursGoOff$Street" TX6 6 tyX6 rfl ul_6 tyX6_ok nmX6 (by decide) rfl rfl (fun _ h => absurd h (by decide)) (tb_t 66 (by decide +kernel) (by decide +kernel)) rfl (by decide)
theorem fl_St_20 : FL "FavoursGoOff$Street" 20 6 1 2 true (.object "FavoursGoOff$Table") := FL.mk' "FavoursGoOff$Street" TX6 6 tyX6 rfl ul_6 tyX6_ok nmX6 (by decide) rfl rfl (fun _ _ => rfl) (tb_t 67 (by decide +kernel) (by decide +kernel)) rfl (by decide)
theorem fl_Pl_63 : FL "FavoursGoOff$Plan" 63 6 1 2 true (.object "FavoursGoOff$Table") := FL.mk' "FavoursGoOff$Street" TX6 6 tyX6 rfl ul_6 tyX6_ok nmX6 (by decide) rfl rfl (fun _ h => absurd h (by decide)) (tb_t 68 (by decide +kernel) (by decide +kernel)) rfl (by decide)
theorem fl_De_47 : FL "FavoursGoOff$Debts" 47 6 1 2 true (.object "FavoursGoOff$Table") := FL.mk' "FavoursGoOff$Street" TX6 6 tyX6 rfl ul_6 tyX6_ok nmX6 (by decide) rfl rfl (fun _ h => absurd h (by decide)) (tb_t 69 (by decide +kernel) (by decide +kernel)) rfl (by decide)
theorem fl_Re_74 : FL "FavoursGoOff$Reader" 74 6 1 2 true (.object "FavoursGoOff$Table") := FL.mk' "FavoursGoOff$Street" TX6 6 tyX6 rfl ul_6 tyX6_ok nmX6 (by decide) rfl rfl (fun _ h => absurd h (by decide)) (tb_t 70 (by decide +kernel) (by decide +kernel)) rfl (by decide)
theorem fl_Fa_122 : FL "FavoursGoOff" 122 6 1 2 true (.object "FavoursGoOff$Table") := FL.mk' "FavoursGoOff$Street" TX6 6 tyX6 rfl ul_6 tyX6_ok nmX6 (by decide) rfl rfl (fun _ h => absurd h (by decide)) (tb_t 71 (by decide +kernel) (by decide +kernel)) rfl (by decide)
theorem fl_St_23 : FL "FavoursGoOff$Street" 23 6 2 2 true (.object "FavoursGoOff$Table") := FL.mk' "FavoursGoOff$Street" TX6 6 tyX6 rfl ul_6 tyX6_ok nmX6 (by decide) rfl rfl (fun _ _ => rfl) (tb_t 72 (by decide +kernel) (by decide +kernel)) rfl (by decide)
theorem fl_Pl_46 : FL "FavoursGoOff$Plan" 46 6 2 2 true (.object "FavoursGoOff$Table") := FL.mk' "FavoursGoOff$Street" TX6 6 tyX6 rfl ul_6 tyX6_ok nmX6 (by decide) rfl rfl (fun _ h => absurd h (by decide)) (tb_t 73 (by decide +kernel) (by decide +kernel)) rfl (by decide)
theorem fl_Re_89 : FL "FavoursGoOff$Reader" 89 6 2 2 true (.object "FavoursGoOff$Table") := FL.mk' "FavoursGoOff$Street" TX6 6 tyX6 rfl ul_6 tyX6_ok nmX6 (by decide) rfl rfl (fun _ h => absurd h (by decide)) (tb_t 74 (by decide +kernel) (by decide +kernel)) rfl (by decide)
theorem fl_Fa_140 : FL "FavoursGoOff" 140 6 2 2 true (.object "FavoursGoOff$Table") := FL.mk' "FavoursGoOff$Street" TX6 6 tyX6 rfl ul_6 tyX6_ok nmX6 (by decide) rfl rfl (fun _ h => absurd h (by decide)) (tb_t 75 (by decide +kernel) (by decide +kernel)) rfl (by decide)
theorem fl_St_26 : FL "FavoursGoOff$Street" 26 6 3 2 true (.object "FavoursGoOff$Table") := FL.mk' "FavoursGoOff$Street" TX6 6 tyX6 rfl ul_6 tyX6_ok nmX6 (by decide) rfl rfl (fun _ _ => rfl) (tb_t 76 (by decide +kernel) (by decide +kernel)) rfl (by decide)
theorem fl_Fa_261 : FL "FavoursGoOff" 261 6 3 2 true (.object "FavoursGoOff$Table") := FL.mk' "FavoursGoOff$Street" TX6 6 tyX6 rfl ul_6 tyX6_ok nmX6 (by decide) rfl rfl (fun _ h => absurd h (by decide)) (tb_t 77 (by decide +kernel) (by decide +kernel)) rfl (by decide)
theorem fl_St_29 : FL "FavoursGoOff$Street" 29 6 4 2 true (.object "FavoursGoOff$Table") := FL.mk' "FavoursGoOff$Street" TX6 6 tyX6 rfl ul_6 tyX6_ok nmX6 (by decide) rfl rfl (fun _ _ => rfl) (tb_t 78 (by decide +kernel) (by decide +kernel)) rfl (by decide)
theorem fl_St_47 : FL "FavoursGoOff$Street" 47 6 5 0 false .int := FL.mk' "FavoursGoOff$Street" TX6 6 tyX6 rfl ul_6 tyX6_ok nmX6 (by decide) rfl rfl (fun h => by cases h) (tb_t 79 (by decide +kernel) (by decide +kernel)) rfl (by decide)
theorem fl_Fa_187 : FL "FavoursGoOff" 187 6 5 0 false .int := FL.mk' "FavoursGoOff$Street" TX6 6 tyX6 rfl ul_6 tyX6_ok nmX6 (by decide) rfl rfl (fun h => by cases h) (tb_t 80 (by decide +kernel) (by decide +kernel)) rfl (by decide)
theorem fl_Hi_12 : FL "FavoursGoOff$History" 12 3 0 2 true (.object "FavoursGoOff$Street") := FL.mk' "FavoursGoOff$History" TX3 5 tyX3 rfl ul_3 tyX3_ok nmX3 (by decide) rfl rfl (fun _ _ => rfl) (tb_t 94 (by decide +kernel) (by decide +kernel)) rfl (by decide)
theorem fl_Fa_22 : FL "FavoursGoOff" 22 3 0 2 true (.object "FavoursGoOff$Street") := FL.mk' "FavoursGoOff$History" TX3 5 tyX3 rfl ul_3 tyX3_ok nmX3 (by decide) rfl rfl (fun _ h => absurd h (by decide)) (tb_t 95 (by decide +kernel) (by decide +kernel)) rfl (by decide)
theorem fl_Hi_18 : FL "FavoursGoOff$History" 18 3 1 2 true (.object "FavoursGoOff$Street") := FL.mk' "FavoursGoOff$History" TX3 5 tyX3 rfl ul_3 tyX3_ok nmX3 (by decide) rfl rfl (fun _ _ => rfl) (tb_t 96 (by decide +kernel) (by decide +kernel)) rfl (by decide)
theorem fl_Hi_21 : FL "FavoursGoOff$History" 21 3 2 2 true (.object "FavoursGoOff$Street") := FL.mk' "FavoursGoOff$History" TX3 5 tyX3 rfl ul_3 tyX3_ok nmX3 (by decide) rfl rfl (fun _ _ => rfl) (tb_t 97 (by decide +kernel) (by decide +kernel)) rfl (by decide)
theorem fl_Hi_28 : FL "FavoursGoOff$History" 28 3 3 0 false .int := FL.mk' "FavoursGoOff$History" TX3 5 tyX3 rfl ul_3 tyX3_ok nmX3 (by decide) rfl rfl (fun h => by cases h) (tb_t 98 (by decide +kernel) (by decide +kernel)) rfl (by decide)
theorem fl_Fa_97 : FL "FavoursGoOff" 97 3 3 0 false .int := FL.mk' "FavoursGoOff$History" TX3 5 tyX3 rfl ul_3 tyX3_ok nmX3 (by decide) rfl rfl (fun h => by cases h) (tb_t 99 (by decide +kernel) (by decide +kernel)) rfl (by decide)
theorem fl_Fa_297 : FL "FavoursGoOff" 297 3 4 0 false .boolean := FL.mk' "FavoursGoOff$History" TX3 5 tyX3 rfl ul_3 tyX3_ok nmX3 (by decide) rfl rfl (fun h => by cases h) (tb_t 100 (by decide +kernel) (by decide +kernel)) rfl (by decide)
theorem cl_Fa_29 : Cond.classLink "FavoursGoOff" 29 "FavoursGoOff$Reader" ∈ TB := tb_t 112 (by decide +kernel) (by decide +kernel)
theorem in_Re : Cond.instantiable "FavoursGoOff$Reader" 8 ∈ TB := tb_t 113 (by decide +kernel) (by decide +kernel)
theorem ml_Re_3 : Cond.methodLink "FavoursGoOff$Reader" 3 Lib.objectInit ∈ TB := tb_t 117 (by decide +kernel) (by decide +kernel)
theorem cl_Re_9 : Cond.classLink "FavoursGoOff$Reader" 9 "FavoursGoOff$Text" ∈ TB := tb_t 118 (by decide +kernel) (by decide +kernel)
theorem in_Te : Cond.instantiable "FavoursGoOff$Text" 2 ∈ TB := tb_t 119 (by decide +kernel) (by decide +kernel)
theorem ml_Te_3 : Cond.methodLink "FavoursGoOff$Text" 3 Lib.objectInit ∈ TB := tb_t 123 (by decide +kernel) (by decide +kernel)
theorem fl_Te_9 : FL "FavoursGoOff$Text" 9 8 0 2 true (.array .int) := FL.mk' "FavoursGoOff$Text" TX8 2 tyX8 rfl ul_8 tyX8_ok nmX8 (by decide) rfl rfl (fun _ _ => rfl) (tb_t 124 (by decide +kernel) (by decide +kernel)) rfl (by decide)
theorem fl_Te_15 : FL "FavoursGoOff$Text" 15 8 1 0 false .int := FL.mk' "FavoursGoOff$Text" TX8 2 tyX8 rfl ul_8 tyX8_ok nmX8 (by decide) rfl rfl (fun h => by cases h) (tb_t 125 (by decide +kernel) (by decide +kernel)) rfl (by decide)
theorem fl_Fa_150 : FL "FavoursGoOff" 150 8 1 0 false .int := FL.mk' "FavoursGoOff$Text" TX8 2 tyX8 rfl ul_8 tyX8_ok nmX8 (by decide) rfl rfl (fun h => by cases h) (tb_t 126 (by decide +kernel) (by decide +kernel)) rfl (by decide)
theorem fl_Re_118 : FL "FavoursGoOff$Reader" 118 8 1 0 false .int := FL.mk' "FavoursGoOff$Text" TX8 2 tyX8 rfl ul_8 tyX8_ok nmX8 (by decide) rfl rfl (fun h => by cases h) (tb_t 127 (by decide +kernel) (by decide +kernel)) rfl (by decide)
theorem cl_Re_18 : Cond.classLink "FavoursGoOff$Reader" 18 "FavoursGoOff$Street" ∈ TB := tb_t 133 (by decide +kernel) (by decide +kernel)
theorem ml_Re_20 : Cond.methodLink "FavoursGoOff$Reader" 20 y_St_init ∈ TB := tb_t 134 (by decide +kernel) (by decide +kernel)
theorem fl_Re_12 : FL "FavoursGoOff$Reader" 12 5 0 2 true (.object "FavoursGoOff$Text") := FL.mk' "FavoursGoOff$Reader" TX5 8 tyX5 rfl ul_5 tyX5_ok nmX5 (by decide) rfl rfl (fun _ _ => rfl) (tb_t 135 (by decide +kernel) (by decide +kernel)) rfl (by decide)
theorem fl_Fa_36 : FL "FavoursGoOff" 36 5 0 2 true (.object "FavoursGoOff$Text") := FL.mk' "FavoursGoOff$Reader" TX5 8 tyX5 rfl ul_5 tyX5_ok nmX5 (by decide) rfl rfl (fun _ h => absurd h (by decide)) (tb_t 136 (by decide +kernel) (by decide +kernel)) rfl (by decide)
theorem fl_Re_21 : FL "FavoursGoOff$Reader" 21 5 1 2 true (.object "FavoursGoOff$Street") := FL.mk' "FavoursGoOff$Reader" TX5 8 tyX5 rfl ul_5 tyX5_ok nmX5 (by decide) rfl rfl (fun _ _ => rfl) (tb_t 137 (by decide +kernel) (by decide +kernel)) rfl (by decide)
theorem fl_Fa_164 : FL "FavoursGoOff" 164 5 1 2 true (.object "FavoursGoOff$Street") := FL.mk' "FavoursGoOff$Reader" TX5 8 tyX5 rfl ul_5 tyX5_ok nmX5 (by decide) rfl rfl (fun _ h => absurd h (by decide)) (tb_t 138 (by decide +kernel) (by decide +kernel)) rfl (by decide)
theorem fl_Re_25 : FL "FavoursGoOff$Reader" 25 5 2 0 false .int := FL.mk' "FavoursGoOff$Reader" TX5 8 tyX5 rfl ul_5 tyX5_ok nmX5 (by decide) rfl rfl (fun h => by cases h) (tb_t 139 (by decide +kernel) (by decide +kernel)) rfl (by decide)
theorem fl_Fa_161 : FL "FavoursGoOff" 161 5 2 0 false .int := FL.mk' "FavoursGoOff$Reader" TX5 8 tyX5 rfl ul_5 tyX5_ok nmX5 (by decide) rfl rfl (fun h => by cases h) (tb_t 140 (by decide +kernel) (by decide +kernel)) rfl (by decide)
theorem fl_Re_38 : FL "FavoursGoOff$Reader" 38 5 3 0 false .int := FL.mk' "FavoursGoOff$Reader" TX5 8 tyX5 rfl ul_5 tyX5_ok nmX5 (by decide) rfl rfl (fun h => by cases h) (tb_t 141 (by decide +kernel) (by decide +kernel)) rfl (by decide)
theorem fl_Re_115 : FL "FavoursGoOff$Reader" 115 5 4 0 false .int := FL.mk' "FavoursGoOff$Reader" TX5 8 tyX5 rfl ul_5 tyX5_ok nmX5 (by decide) rfl rfl (fun h => by cases h) (tb_t 142 (by decide +kernel) (by decide +kernel)) rfl (by decide)
theorem fl_Re_29 : FL "FavoursGoOff$Reader" 29 5 5 0 false .int := FL.mk' "FavoursGoOff$Reader" TX5 8 tyX5 rfl ul_5 tyX5_ok nmX5 (by decide) rfl rfl (fun h => by cases h) (tb_t 143 (by decide +kernel) (by decide +kernel)) rfl (by decide)
theorem fl_Re_112 : FL "FavoursGoOff$Reader" 112 5 6 0 false .int := FL.mk' "FavoursGoOff$Reader" TX5 8 tyX5 rfl ul_5 tyX5_ok nmX5 (by decide) rfl rfl (fun h => by cases h) (tb_t 144 (by decide +kernel) (by decide +kernel)) rfl (by decide)
theorem fl_Re_64 : FL "FavoursGoOff$Reader" 64 5 7 0 false .int := FL.mk' "FavoursGoOff$Reader" TX5 8 tyX5 rfl ul_5 tyX5_ok nmX5 (by decide) rfl rfl (fun h => by cases h) (tb_t 145 (by decide +kernel) (by decide +kernel)) rfl (by decide)
theorem cl_Fa_41 : Cond.classLink "FavoursGoOff" 41 "FavoursGoOff$Debts" ∈ TB := tb_t 163 (by decide +kernel) (by decide +kernel)
theorem in_De : Cond.instantiable "FavoursGoOff$Debts" 6 ∈ TB := tb_t 164 (by decide +kernel) (by decide +kernel)
theorem ml_De_3 : Cond.methodLink "FavoursGoOff$Debts" 3 Lib.objectInit ∈ TB := tb_t 168 (by decide +kernel) (by decide +kernel)
theorem cl_De_9 : Cond.classLink "FavoursGoOff$Debts" 9 "FavoursGoOff$Table" ∈ TB := tb_t 169 (by decide +kernel) (by decide +kernel)
theorem ml_De_11 : Cond.methodLink "FavoursGoOff$Debts" 11 y_Ta_init ∈ TB := tb_t 170 (by decide +kernel) (by decide +kernel)
theorem fl_De_14 : FL "FavoursGoOff$Debts" 14 1 0 2 true (.object "FavoursGoOff$Table") := FL.mk' "FavoursGoOff$Debts" TX1 6 tyX1 rfl ul_1 tyX1_ok nmX1 (by decide) rfl rfl (fun _ _ => rfl) (tb_t 171 (by decide +kernel) (by decide +kernel)) rfl (by decide)
theorem fl_De_20 : FL "FavoursGoOff$Debts" 20 1 1 2 true (.array .int) := FL.mk' "FavoursGoOff$Debts" TX1 6 tyX1 rfl ul_1 tyX1_ok nmX1 (by decide) rfl rfl (fun _ _ => rfl) (tb_t 172 (by decide +kernel) (by decide +kernel)) rfl (by decide)
theorem fl_De_24 : FL "FavoursGoOff$Debts" 24 1 2 2 true (.array .int) := FL.mk' "FavoursGoOff$Debts" TX1 6 tyX1 rfl ul_1 tyX1_ok nmX1 (by decide) rfl rfl (fun _ _ => rfl) (tb_t 173 (by decide +kernel) (by decide +kernel)) rfl (by decide)
theorem fl_Ci_19 : FL "FavoursGoOff$Circle" 19 1 3 0 false .int := FL.mk' "FavoursGoOff$Debts" TX1 6 tyX1 rfl ul_1 tyX1_ok nmX1 (by decide) rfl rfl (fun h => by cases h) (tb_t 174 (by decide +kernel) (by decide +kernel)) rfl (by decide)
theorem fl_De_42 : FL "FavoursGoOff$Debts" 42 1 3 0 false .int := FL.mk' "FavoursGoOff$Debts" TX1 6 tyX1 rfl ul_1 tyX1_ok nmX1 (by decide) rfl rfl (fun h => by cases h) (tb_t 175 (by decide +kernel) (by decide +kernel)) rfl (by decide)
theorem fl_De_76 : FL "FavoursGoOff$Debts" 76 1 4 0 false .int := FL.mk' "FavoursGoOff$Debts" TX1 6 tyX1 rfl ul_1 tyX1_ok nmX1 (by decide) rfl rfl (fun h => by cases h) (tb_t 176 (by decide +kernel) (by decide +kernel)) rfl (by decide)
theorem fl_Fa_238 : FL "FavoursGoOff" 238 1 4 0 false .int := FL.mk' "FavoursGoOff$Debts" TX1 6 tyX1 rfl ul_1 tyX1_ok nmX1 (by decide) rfl rfl (fun h => by cases h) (tb_t 177 (by decide +kernel) (by decide +kernel)) rfl (by decide)
theorem fl_De_79 : FL "FavoursGoOff$Debts" 79 1 5 0 false .int := FL.mk' "FavoursGoOff$Debts" TX1 6 tyX1 rfl ul_1 tyX1_ok nmX1 (by decide) rfl rfl (fun h => by cases h) (tb_t 178 (by decide +kernel) (by decide +kernel)) rfl (by decide)
theorem fl_Fa_241 : FL "FavoursGoOff" 241 1 5 0 false .int := FL.mk' "FavoursGoOff$Debts" TX1 6 tyX1 rfl ul_1 tyX1_ok nmX1 (by decide) rfl rfl (fun h => by cases h) (tb_t 179 (by decide +kernel) (by decide +kernel)) rfl (by decide)
theorem cl_Fa_48 : Cond.classLink "FavoursGoOff" 48 "FavoursGoOff$Circle" ∈ TB := tb_t 193 (by decide +kernel) (by decide +kernel)
theorem in_Ci : Cond.instantiable "FavoursGoOff$Circle" 2 ∈ TB := tb_t 194 (by decide +kernel) (by decide +kernel)
theorem ml_Ci_3 : Cond.methodLink "FavoursGoOff$Circle" 3 Lib.objectInit ∈ TB := tb_t 198 (by decide +kernel) (by decide +kernel)
theorem fl_Ci_9 : FL "FavoursGoOff$Circle" 9 0 0 2 true (.array .int) := FL.mk' "FavoursGoOff$Circle" TX0 2 tyX0 rfl ul_0 tyX0_ok nmX0 (by decide) rfl rfl (fun _ _ => rfl) (tb_t 199 (by decide +kernel) (by decide +kernel)) rfl (by decide)
theorem fl_Ci_15 : FL "FavoursGoOff$Circle" 15 0 1 0 false .int := FL.mk' "FavoursGoOff$Circle" TX0 2 tyX0 rfl ul_0 tyX0_ok nmX0 (by decide) rfl rfl (fun h => by cases h) (tb_t 200 (by decide +kernel) (by decide +kernel)) rfl (by decide)
theorem fl_Fa_209 : FL "FavoursGoOff" 209 0 1 0 false .int := FL.mk' "FavoursGoOff$Circle" TX0 2 tyX0 rfl ul_0 tyX0_ok nmX0 (by decide) rfl rfl (fun h => by cases h) (tb_t 201 (by decide +kernel) (by decide +kernel)) rfl (by decide)
theorem cl_Fa_55 : Cond.classLink "FavoursGoOff" 55 "FavoursGoOff$Plan" ∈ TB := tb_t 207 (by decide +kernel) (by decide +kernel)
theorem in_Pl : Cond.instantiable "FavoursGoOff$Plan" 13 ∈ TB := tb_t 208 (by decide +kernel) (by decide +kernel)
theorem ml_Pl_3 : Cond.methodLink "FavoursGoOff$Plan" 3 Lib.objectInit ∈ TB := tb_t 212 (by decide +kernel) (by decide +kernel)
theorem cl_Pl_15 : Cond.classLink "FavoursGoOff$Plan" 15 "FavoursGoOff$Table" ∈ TB := tb_t 213 (by decide +kernel) (by decide +kernel)
theorem ml_Pl_17 : Cond.methodLink "FavoursGoOff$Plan" 17 y_Ta_init ∈ TB := tb_t 214 (by decide +kernel) (by decide +kernel)
theorem fl_Pl_9 : FL "FavoursGoOff$Plan" 9 4 0 0 false .boolean := FL.mk' "FavoursGoOff$Plan" TX4 13 tyX4 rfl ul_4 tyX4_ok nmX4 (by decide) rfl rfl (fun h => by cases h) (tb_t 215 (by decide +kernel) (by decide +kernel)) rfl (by decide)
theorem fl_Fa_100 : FL "FavoursGoOff" 100 4 0 0 false .boolean := FL.mk' "FavoursGoOff$Plan" TX4 13 tyX4 rfl ul_4 tyX4_ok nmX4 (by decide) rfl rfl (fun h => by cases h) (tb_t 216 (by decide +kernel) (by decide +kernel)) rfl (by decide)
theorem fl_Pl_78 : FL "FavoursGoOff$Plan" 78 4 1 0 false .int := FL.mk' "FavoursGoOff$Plan" TX4 13 tyX4 rfl ul_4 tyX4_ok nmX4 (by decide) rfl rfl (fun h => by cases h) (tb_t 217 (by decide +kernel) (by decide +kernel)) rfl (by decide)
theorem fl_Fa_225 : FL "FavoursGoOff" 225 4 1 0 false .int := FL.mk' "FavoursGoOff$Plan" TX4 13 tyX4 rfl ul_4 tyX4_ok nmX4 (by decide) rfl rfl (fun h => by cases h) (tb_t 218 (by decide +kernel) (by decide +kernel)) rfl (by decide)
theorem fl_Pl_81 : FL "FavoursGoOff$Plan" 81 4 2 0 false .int := FL.mk' "FavoursGoOff$Plan" TX4 13 tyX4 rfl ul_4 tyX4_ok nmX4 (by decide) rfl rfl (fun h => by cases h) (tb_t 219 (by decide +kernel) (by decide +kernel)) rfl (by decide)
theorem fl_Fa_228 : FL "FavoursGoOff" 228 4 2 0 false .int := FL.mk' "FavoursGoOff$Plan" TX4 13 tyX4 rfl ul_4 tyX4_ok nmX4 (by decide) rfl rfl (fun h => by cases h) (tb_t 220 (by decide +kernel) (by decide +kernel)) rfl (by decide)
theorem fl_Pl_61 : FL "FavoursGoOff$Plan" 61 4 3 0 false .int := FL.mk' "FavoursGoOff$Plan" TX4 13 tyX4 rfl ul_4 tyX4_ok nmX4 (by decide) rfl rfl (fun h => by cases h) (tb_t 221 (by decide +kernel) (by decide +kernel)) rfl (by decide)
theorem fl_Pl_66 : FL "FavoursGoOff$Plan" 66 4 4 0 false .int := FL.mk' "FavoursGoOff$Plan" TX4 13 tyX4 rfl ul_4 tyX4_ok nmX4 (by decide) rfl rfl (fun h => by cases h) (tb_t 222 (by decide +kernel) (by decide +kernel)) rfl (by decide)
theorem fl_Pl_20 : FL "FavoursGoOff$Plan" 20 4 5 2 true (.object "FavoursGoOff$Table") := FL.mk' "FavoursGoOff$Plan" TX4 13 tyX4 rfl ul_4 tyX4_ok nmX4 (by decide) rfl rfl (fun _ _ => rfl) (tb_t 223 (by decide +kernel) (by decide +kernel)) rfl (by decide)
theorem fl_Pl_24 : FL "FavoursGoOff$Plan" 24 4 6 2 true (.object "FavoursGoOff$Table") := FL.mk' "FavoursGoOff$Plan" TX4 13 tyX4 rfl ul_4 tyX4_ok nmX4 (by decide) rfl rfl (fun _ _ => rfl) (tb_t 224 (by decide +kernel) (by decide +kernel)) rfl (by decide)
theorem fl_Pl_27 : FL "FavoursGoOff$Plan" 27 4 7 2 true (.array .int) := FL.mk' "FavoursGoOff$Plan" TX4 13 tyX4 rfl ul_4 tyX4_ok nmX4 (by decide) rfl rfl (fun _ _ => rfl) (tb_t 225 (by decide +kernel) (by decide +kernel)) rfl (by decide)
theorem fl_Pl_31 : FL "FavoursGoOff$Plan" 31 4 8 2 true (.array .int) := FL.mk' "FavoursGoOff$Plan" TX4 13 tyX4 rfl ul_4 tyX4_ok nmX4 (by decide) rfl rfl (fun _ _ => rfl) (tb_t 226 (by decide +kernel) (by decide +kernel)) rfl (by decide)
theorem fl_Pl_34 : FL "FavoursGoOff$Plan" 34 4 9 2 true (.array .int) := FL.mk' "FavoursGoOff$Plan" TX4 13 tyX4 rfl ul_4 tyX4_ok nmX4 (by decide) rfl rfl (fun _ _ => rfl) (tb_t 227 (by decide +kernel) (by decide +kernel)) rfl (by decide)
theorem fl_Pl_37 : FL "FavoursGoOff$Plan" 37 4 10 2 true (.array .int) := FL.mk' "FavoursGoOff$Plan" TX4 13 tyX4 rfl ul_4 tyX4_ok nmX4 (by decide) rfl rfl (fun _ _ => rfl) (tb_t 228 (by decide +kernel) (by decide +kernel)) rfl (by decide)
theorem fl_Pl_40 : FL "FavoursGoOff$Plan" 40 4 11 2 true (.array .int) := FL.mk' "FavoursGoOff$Plan" TX4 13 tyX4 rfl ul_4 tyX4_ok nmX4 (by decide) rfl rfl (fun _ _ => rfl) (tb_t 229 (by decide +kernel) (by decide +kernel)) rfl (by decide)
theorem fl_Pl_43 : FL "FavoursGoOff$Plan" 43 4 12 2 true (.array .int) := FL.mk' "FavoursGoOff$Plan" TX4 13 tyX4 rfl ul_4 tyX4_ok nmX4 (by decide) rfl rfl (fun _ _ => rfl) (tb_t 230 (by decide +kernel) (by decide +kernel)) rfl (by decide)
theorem cl_Fa_62 : Cond.classLink "FavoursGoOff" 62 "FavoursGoOff$Fraction" ∈ TB := tb_t 258 (by decide +kernel) (by decide +kernel)
theorem in_Fr : Cond.instantiable "FavoursGoOff$Fraction" 2 ∈ TB := tb_t 259 (by decide +kernel) (by decide +kernel)
theorem ml_Fr_1 : Cond.methodLink "FavoursGoOff$Fraction" 1 Lib.objectInit ∈ TB := tb_t 263 (by decide +kernel) (by decide +kernel)
theorem fl_Fr_17 : FL "FavoursGoOff$Fraction" 17 2 0 1 false .long := FL.mk' "FavoursGoOff$Fraction" TX2 2 tyX2 rfl ul_2 tyX2_ok nmX2 (by decide) rfl rfl (fun h => by cases h) (tb_t 264 (by decide +kernel) (by decide +kernel)) rfl (by decide)
theorem fl_Fa_282 : FL "FavoursGoOff" 282 2 0 1 false .long := FL.mk' "FavoursGoOff$Fraction" TX2 2 tyX2 rfl ul_2 tyX2_ok nmX2 (by decide) rfl rfl (fun h => by cases h) (tb_t 265 (by decide +kernel) (by decide +kernel)) rfl (by decide)
theorem fl_Fr_7 : FL "FavoursGoOff$Fraction" 7 2 1 1 false .long := FL.mk' "FavoursGoOff$Fraction" TX2 2 tyX2 rfl ul_2 tyX2_ok nmX2 (by decide) rfl rfl (fun h => by cases h) (tb_t 266 (by decide +kernel) (by decide +kernel)) rfl (by decide)
theorem fl_Fa_286 : FL "FavoursGoOff" 286 2 1 1 false .long := FL.mk' "FavoursGoOff$Fraction" TX2 2 tyX2 rfl ul_2 tyX2_ok nmX2 (by decide) rfl rfl (fun h => by cases h) (tb_t 267 (by decide +kernel) (by decide +kernel)) rfl (by decide)
theorem ml_Fa_69 : Cond.methodLink "FavoursGoOff" 69 y_St_open ∈ TB := tb_t 273 (by decide +kernel) (by decide +kernel)
theorem ml_St_36 : Cond.methodLink "FavoursGoOff$Street" 36 y_Ta_empty ∈ TB := tb_t 277 (by decide +kernel) (by decide +kernel)
theorem ml_St_40 : Cond.methodLink "FavoursGoOff$Street" 40 y_Ta_add ∈ TB := tb_t 281 (by decide +kernel) (by decide +kernel)
theorem ml_Ta_38 : Cond.methodLink "FavoursGoOff$Table" 38 y_Ta_isFull ∈ TB := tb_t 285 (by decide +kernel) (by decide +kernel)
theorem ml_St_43 : Cond.methodLink "FavoursGoOff$Street" 43 y_Ta_put ∈ TB := tb_t 289 (by decide +kernel) (by decide +kernel)
theorem ml_Ta_28 : Cond.methodLink "FavoursGoOff$Table" 28 y_Ta_placeOf ∈ TB := tb_t 293 (by decide +kernel) (by decide +kernel)
theorem ml_Fa_75 : Cond.methodLink "FavoursGoOff" 75 y_St_setRate ∈ TB := tb_t 297 (by decide +kernel) (by decide +kernel)
theorem fl_Fa_10 : FL "FavoursGoOff" 10 9 0 2 true (.object "FavoursGoOff$History") := FL.mk' "FavoursGoOff" TX9 13 tyX9 rfl ul_9 tyX9_ok nmX9 (by decide) rfl rfl (fun _ _ => rfl) (tb_t 301 (by decide +kernel) (by decide +kernel)) rfl (by decide)
theorem fl_Fa_16 : FL "FavoursGoOff" 16 9 1 2 true (.object "FavoursGoOff$History") := FL.mk' "FavoursGoOff" TX9 13 tyX9 rfl ul_9 tyX9_ok nmX9 (by decide) rfl rfl (fun _ _ => rfl) (tb_t 302 (by decide +kernel) (by decide +kernel)) rfl (by decide)
theorem fl_Fa_19 : FL "FavoursGoOff" 19 9 2 2 true (.object "FavoursGoOff$History") := FL.mk' "FavoursGoOff" TX9 13 tyX9 rfl ul_9 tyX9_ok nmX9 (by decide) rfl rfl (fun _ _ => rfl) (tb_t 303 (by decide +kernel) (by decide +kernel)) rfl (by decide)
theorem fl_Fa_26 : FL "FavoursGoOff" 26 9 3 2 true (.object "FavoursGoOff$Street") := FL.mk' "FavoursGoOff" TX9 13 tyX9 rfl ul_9 tyX9_ok nmX9 (by decide) rfl rfl (fun _ _ => rfl) (tb_t 304 (by decide +kernel) (by decide +kernel)) rfl (by decide)
theorem fl_Fa_32 : FL "FavoursGoOff" 32 9 4 2 true (.object "FavoursGoOff$Reader") := FL.mk' "FavoursGoOff" TX9 13 tyX9 rfl ul_9 tyX9_ok nmX9 (by decide) rfl rfl (fun _ _ => rfl) (tb_t 305 (by decide +kernel) (by decide +kernel)) rfl (by decide)
theorem fl_Fa_40 : FL "FavoursGoOff" 40 9 5 2 true (.object "FavoursGoOff$Text") := FL.mk' "FavoursGoOff" TX9 13 tyX9 rfl ul_9 tyX9_ok nmX9 (by decide) rfl rfl (fun _ _ => rfl) (tb_t 306 (by decide +kernel) (by decide +kernel)) rfl (by decide)
theorem fl_Fa_44 : FL "FavoursGoOff" 44 9 6 2 true (.object "FavoursGoOff$Debts") := FL.mk' "FavoursGoOff" TX9 13 tyX9 rfl ul_9 tyX9_ok nmX9 (by decide) rfl rfl (fun _ _ => rfl) (tb_t 307 (by decide +kernel) (by decide +kernel)) rfl (by decide)
theorem fl_Fa_51 : FL "FavoursGoOff" 51 9 7 2 true (.object "FavoursGoOff$Circle") := FL.mk' "FavoursGoOff" TX9 13 tyX9 rfl ul_9 tyX9_ok nmX9 (by decide) rfl rfl (fun _ _ => rfl) (tb_t 308 (by decide +kernel) (by decide +kernel)) rfl (by decide)
theorem fl_Fa_58 : FL "FavoursGoOff" 58 9 8 2 true (.object "FavoursGoOff$Plan") := FL.mk' "FavoursGoOff" TX9 13 tyX9 rfl ul_9 tyX9_ok nmX9 (by decide) rfl rfl (fun _ _ => rfl) (tb_t 309 (by decide +kernel) (by decide +kernel)) rfl (by decide)
theorem fl_Fa_65 : FL "FavoursGoOff" 65 9 9 2 true (.object "FavoursGoOff$Fraction") := FL.mk' "FavoursGoOff" TX9 13 tyX9 rfl ul_9 tyX9_ok nmX9 (by decide) rfl rfl (fun _ _ => rfl) (tb_t 310 (by decide +kernel) (by decide +kernel)) rfl (by decide)
theorem fl_Fa_300 : FL "FavoursGoOff" 300 9 10 0 false .int := FL.mk' "FavoursGoOff" TX9 13 tyX9 rfl ul_9 tyX9_ok nmX9 (by decide) rfl rfl (fun h => by cases h) (tb_t 311 (by decide +kernel) (by decide +kernel)) rfl (by decide)
theorem fl_Fa_303 : FL "FavoursGoOff" 303 9 11 0 false .int := FL.mk' "FavoursGoOff" TX9 13 tyX9 rfl ul_9 tyX9_ok nmX9 (by decide) rfl rfl (fun h => by cases h) (tb_t 312 (by decide +kernel) (by decide +kernel)) rfl (by decide)
theorem fl_Fa_306 : FL "FavoursGoOff" 306 9 12 0 false .int := FL.mk' "FavoursGoOff" TX9 13 tyX9 rfl ul_9 tyX9_ok nmX9 (by decide) rfl rfl (fun h => by cases h) (tb_t 313 (by decide +kernel) (by decide +kernel)) rfl (by decide)
theorem ml_La_13 : Cond.methodLink "FavoursGoOffLaw" 13 y_Fa_people ∈ TB := tb_t 341 (by decide +kernel) (by decide +kernel)
theorem ml_Fa_79 : Cond.methodLink "FavoursGoOff" 79 y_Fa_isWithin ∈ TB := tb_t 345 (by decide +kernel) (by decide +kernel)
theorem ml_Fa_83 : Cond.methodLink "FavoursGoOff" 83 y_Fa_bad ∈ TB := tb_t 348 (by decide +kernel) (by decide +kernel)
theorem ml_La_18 : Cond.methodLink "FavoursGoOffLaw" 18 y_Fa_strong ∈ TB := tb_t 352 (by decide +kernel) (by decide +kernel)
theorem ml_Fa_104 : Cond.methodLink "FavoursGoOff" 104 y_Ta_has ∈ TB := tb_t 356 (by decide +kernel) (by decide +kernel)
theorem ml_Fa_108 : Cond.methodLink "FavoursGoOff" 108 y_Ta_at ∈ TB := tb_t 360 (by decide +kernel) (by decide +kernel)
theorem ml_Fa_112 : Cond.methodLink "FavoursGoOff" 112 y_Ta_put ∈ TB := tb_t 364 (by decide +kernel) (by decide +kernel)
theorem ml_La_23 : Cond.methodLink "FavoursGoOffLaw" 23 y_Fa_favour ∈ TB := tb_t 365 (by decide +kernel) (by decide +kernel)
theorem ml_Fa_116 : Cond.methodLink "FavoursGoOff" 116 y_Fa_isThing ∈ TB := tb_t 369 (by decide +kernel) (by decide +kernel)
theorem ml_Fa_119 : Cond.methodLink "FavoursGoOff" 119 y_Fa_isDay ∈ TB := tb_t 372 (by decide +kernel) (by decide +kernel)
theorem ml_Fa_125 : Cond.methodLink "FavoursGoOff" 125 y_Ta_isFull ∈ TB := tb_t 375 (by decide +kernel) (by decide +kernel)
theorem ml_Fa_129 : Cond.methodLink "FavoursGoOff" 129 y_Fa_full ∈ TB := tb_t 376 (by decide +kernel) (by decide +kernel)
theorem ml_Fa_133 : Cond.methodLink "FavoursGoOff" 133 y_St_addFavour ∈ TB := tb_t 380 (by decide +kernel) (by decide +kernel)
theorem ml_La_28 : Cond.methodLink "FavoursGoOffLaw" 28 y_Fa_need ∈ TB := tb_t 384 (by decide +kernel) (by decide +kernel)
theorem ml_Fa_137 : Cond.methodLink "FavoursGoOff" 137 y_Fa_isDayToCome ∈ TB := tb_t 388 (by decide +kernel) (by decide +kernel)
theorem ml_Fa_143 : Cond.methodLink "FavoursGoOff" 143 y_St_addNeed ∈ TB := tb_t 392 (by decide +kernel) (by decide +kernel)
theorem ml_La_33 : Cond.methodLink "FavoursGoOffLaw" 33 y_Fa_contented ∈ TB := tb_t 396 (by decide +kernel) (by decide +kernel)
theorem ml_Fa_147 : Cond.methodLink "FavoursGoOff" 147 y_Ta_empty ∈ TB := tb_t 400 (by decide +kernel) (by decide +kernel)
theorem ml_La_40 : Cond.methodLink "FavoursGoOffLaw" 40 y_Fa_type ∈ TB := tb_t 401 (by decide +kernel) (by decide +kernel)
theorem ml_Fa_155 : Cond.methodLink "FavoursGoOff" 155 y_Te_add ∈ TB := tb_t 405 (by decide +kernel) (by decide +kernel)
theorem ml_La_45 : Cond.methodLink "FavoursGoOffLaw" 45 y_Fa_clear ∈ TB := tb_t 409 (by decide +kernel) (by decide +kernel)
theorem ml_La_49 : Cond.methodLink "FavoursGoOffLaw" 49 y_Fa_read ∈ TB := tb_t 413 (by decide +kernel) (by decide +kernel)
theorem ml_Fa_158 : Cond.methodLink "FavoursGoOff" 158 y_Re_readStreet ∈ TB := tb_t 417 (by decide +kernel) (by decide +kernel)
theorem ml_Re_32 : Cond.methodLink "FavoursGoOff$Reader" 32 y_Re_step ∈ TB := tb_t 421 (by decide +kernel) (by decide +kernel)
theorem ml_Re_121 : Cond.methodLink "FavoursGoOff$Reader" 121 y_Te_at ∈ TB := tb_t 425 (by decide +kernel) (by decide +kernel)
theorem ml_Re_129 : Cond.methodLink "FavoursGoOff$Reader" 129 y_Re_endOfRun ∈ TB := tb_t 430 (by decide +kernel) (by decide +kernel)
theorem ml_Re_132 : Cond.methodLink "FavoursGoOff$Reader" 132 y_Re_takeFigures ∈ TB := tb_t 434 (by decide +kernel) (by decide +kernel)
theorem ml_Re_35 : Cond.methodLink "FavoursGoOff$Reader" 35 y_Re_readPeople ∈ TB := tb_t 438 (by decide +kernel) (by decide +kernel)
theorem ml_Re_46 : Cond.methodLink "FavoursGoOff$Reader" 46 y_Re_isWord ∈ TB := tb_t 443 (by decide +kernel) (by decide +kernel)
theorem ml_Re_135 : Cond.methodLink "FavoursGoOff$Reader" 135 y_JS_length_8abf5 ∈ TB := tb_t 447 (by decide +kernel) (by decide +kernel)
theorem ml_JS_335 : Cond.methodLink "java/lang/String" 335 y_JS_coder_7d493 ∈ TB := tb_t 451 (by decide +kernel) (by decide +kernel)
theorem ml_Re_140 : Cond.methodLink "FavoursGoOff$Reader" 140 y_JS_charAt_5068e ∈ TB := tb_t 457 (by decide +kernel) (by decide +kernel)
theorem ml_JS_492 : Cond.methodLink "java/lang/String" 492 y_JS_isLatin1_aae02 ∈ TB := tb_t 461 (by decide +kernel) (by decide +kernel)
theorem ml_JS_495 : Cond.methodLink "java/lang/String" 495 y_JL_charAt_3b067 ∈ TB := tb_t 465 (by decide +kernel) (by decide +kernel)
theorem ml_JL_9 : Cond.methodLink "java/lang/StringLatin1" 9 y_JS_checkIndex_df160 ∈ TB := tb_t 468 (by decide +kernel) (by decide +kernel)
theorem ml_JS_1059 : Cond.methodLink "java/lang/String" 1059 y_JP_checkIndex_8e157 ∈ TB := tb_t 473 (by decide +kernel) (by decide +kernel)
theorem ml_JS_498 : Cond.methodLink "java/lang/String" 498 y_JU_charAt_3b067 ∈ TB := tb_t 476 (by decide +kernel) (by decide +kernel)
theorem ml_JU_67 : Cond.methodLink "java/lang/StringUTF16" 67 y_JU_checkIndex_2214a ∈ TB := tb_t 479 (by decide +kernel) (by decide +kernel)
theorem ml_JU_48 : Cond.methodLink "java/lang/StringUTF16" 48 y_JU_length_9d52b ∈ TB := tb_t 482 (by decide +kernel) (by decide +kernel)
theorem ml_JU_414 : Cond.methodLink "java/lang/StringUTF16" 414 y_JS_checkIndex_df160 ∈ TB := tb_t 485 (by decide +kernel) (by decide +kernel)
theorem ml_JU_71 : Cond.methodLink "java/lang/StringUTF16" 71 y_JU_getChar_3b067 ∈ TB := tb_t 486 (by decide +kernel) (by decide +kernel)
theorem ml_Re_50 : Cond.methodLink "FavoursGoOff$Reader" 50 y_Re_fail ∈ TB := tb_t 495 (by decide +kernel) (by decide +kernel)
theorem ml_Re_53 : Cond.methodLink "FavoursGoOff$Reader" 53 y_Re_takeNumber ∈ TB := tb_t 499 (by decide +kernel) (by decide +kernel)
theorem ml_Re_57 : Cond.methodLink "FavoursGoOff$Reader" 57 y_Re_takeStop ∈ TB := tb_t 503 (by decide +kernel) (by decide +kernel)
theorem ml_Re_60 : Cond.methodLink "FavoursGoOff$Reader" 60 y_St_open ∈ TB := tb_t 507 (by decide +kernel) (by decide +kernel)
theorem ml_Re_41 : Cond.methodLink "FavoursGoOff$Reader" 41 y_Re_readItem ∈ TB := tb_t 508 (by decide +kernel) (by decide +kernel)
theorem ml_Re_69 : Cond.methodLink "FavoursGoOff$Reader" 69 y_Re_readStrong ∈ TB := tb_t 513 (by decide +kernel) (by decide +kernel)
theorem ml_Re_97 : Cond.methodLink "FavoursGoOff$Reader" 97 y_Ta_put ∈ TB := tb_t 517 (by decide +kernel) (by decide +kernel)
theorem ml_Re_78 : Cond.methodLink "FavoursGoOff$Reader" 78 y_Ta_isFull ∈ TB := tb_t 519 (by decide +kernel) (by decide +kernel)
theorem ml_Re_84 : Cond.methodLink "FavoursGoOff$Reader" 84 y_Re_readFavour ∈ TB := tb_t 520 (by decide +kernel) (by decide +kernel)
theorem ml_Re_101 : Cond.methodLink "FavoursGoOff$Reader" 101 y_Re_refuse ∈ TB := tb_t 524 (by decide +kernel) (by decide +kernel)
theorem ml_Re_104 : Cond.methodLink "FavoursGoOff$Reader" 104 y_St_addFavour ∈ TB := tb_t 528 (by decide +kernel) (by decide +kernel)
theorem ml_Re_92 : Cond.methodLink "FavoursGoOff$Reader" 92 y_Re_readNeed ∈ TB := tb_t 530 (by decide +kernel) (by decide +kernel)
theorem ml_Re_108 : Cond.methodLink "FavoursGoOff$Reader" 108 y_St_addNeed ∈ TB := tb_t 534 (by decide +kernel) (by decide +kernel)
theorem ml_Fa_167 : Cond.methodLink "FavoursGoOff" 167 y_St_takeAllButRates ∈ TB := tb_t 535 (by decide +kernel) (by decide +kernel)
theorem ml_St_54 : Cond.methodLink "FavoursGoOff$Street" 54 y_Ta_copyFrom ∈ TB := tb_t 539 (by decide +kernel) (by decide +kernel)
theorem ml_Ta_42 : Cond.methodLink "FavoursGoOff$Table" 42 Lib.Math.min.name ∈ TB := tb_t 543 (by decide +kernel) (by decide +kernel)
theorem ml_Ta_45 : Cond.methodLink "FavoursGoOff$Table" 45 arraycopyName ∈ TB := tb_t 546 (by decide +kernel) (by decide +kernel)
theorem nat_copy : Cond.native arraycopyName ∈ TB := tb_t 548 (by decide +kernel) (by decide +kernel)
theorem ac_byte : Cond.arrayClass .byte ∈ TB := tb_t 549 (by decide +kernel) (by decide +kernel)
theorem ml_La_53 : Cond.methodLink "FavoursGoOffLaw" 53 y_Fa_value ∈ TB := tb_t 550 (by decide +kernel) (by decide +kernel)
theorem ml_Fa_171 : Cond.methodLink "FavoursGoOff" 171 y_St_valueOn ∈ TB := tb_t 554 (by decide +kernel) (by decide +kernel)
theorem ml_St_62 : Cond.methodLink "FavoursGoOff$Street" 62 y_Ta_at ∈ TB := tb_t 558 (by decide +kernel) (by decide +kernel)
theorem ml_St_65 : Cond.methodLink "FavoursGoOff$Street" 65 Lib.Math.max.name ∈ TB := tb_t 559 (by decide +kernel) (by decide +kernel)
theorem ml_La_57 : Cond.methodLink "FavoursGoOffLaw" 57 y_Fa_of ∈ TB := tb_t 560 (by decide +kernel) (by decide +kernel)
theorem ml_La_61 : Cond.methodLink "FavoursGoOffLaw" 61 y_Fa_pass ∈ TB := tb_t 564 (by decide +kernel) (by decide +kernel)
theorem ml_Fa_174 : Cond.methodLink "FavoursGoOff" 174 y_St_valueNow ∈ TB := tb_t 568 (by decide +kernel) (by decide +kernel)
theorem ml_St_58 : Cond.methodLink "FavoursGoOff$Street" 58 y_St_valueOn ∈ TB := tb_t 572 (by decide +kernel) (by decide +kernel)
theorem ml_Fa_177 : Cond.methodLink "FavoursGoOff" 177 y_Fa_no ∈ TB := tb_t 573 (by decide +kernel) (by decide +kernel)
theorem ml_La_65 : Cond.methodLink "FavoursGoOffLaw" 65 y_Fa_join ∈ TB := tb_t 577 (by decide +kernel) (by decide +kernel)
theorem ml_Fa_180 : Cond.methodLink "FavoursGoOff" 180 y_St_areAlike ∈ TB := tb_t 581 (by decide +kernel) (by decide +kernel)
theorem ml_Fa_184 : Cond.methodLink "FavoursGoOff" 184 y_St_merge ∈ TB := tb_t 585 (by decide +kernel) (by decide +kernel)
theorem ml_St_70 : Cond.methodLink "FavoursGoOff$Street" 70 Lib.Math.min.name ∈ TB := tb_t 589 (by decide +kernel) (by decide +kernel)
theorem ml_La_69 : Cond.methodLink "FavoursGoOffLaw" 69 y_Fa_ask ∈ TB := tb_t 590 (by decide +kernel) (by decide +kernel)
theorem ml_La_73 : Cond.methodLink "FavoursGoOffLaw" 73 y_Fa_night ∈ TB := tb_t 594 (by decide +kernel) (by decide +kernel)
theorem ml_Fa_190 : Cond.methodLink "FavoursGoOff" 190 y_Hi_keepNight ∈ TB := tb_t 598 (by decide +kernel) (by decide +kernel)
theorem ml_Hi_24 : Cond.methodLink "FavoursGoOff$History" 24 y_St_copyFrom ∈ TB := tb_t 602 (by decide +kernel) (by decide +kernel)
theorem ml_St_50 : Cond.methodLink "FavoursGoOff$Street" 50 y_St_takeAllButRates ∈ TB := tb_t 606 (by decide +kernel) (by decide +kernel)
theorem ml_Hi_32 : Cond.methodLink "FavoursGoOff$History" 32 Lib.Math.min.name ∈ TB := tb_t 607 (by decide +kernel) (by decide +kernel)
theorem ml_Fa_193 : Cond.methodLink "FavoursGoOff" 193 y_St_wake ∈ TB := tb_t 608 (by decide +kernel) (by decide +kernel)
theorem ml_La_77 : Cond.methodLink "FavoursGoOffLaw" 77 y_Fa_undo ∈ TB := tb_t 612 (by decide +kernel) (by decide +kernel)
theorem ml_Fa_196 : Cond.methodLink "FavoursGoOff" 196 y_Hi_goBack ∈ TB := tb_t 616 (by decide +kernel) (by decide +kernel)
theorem ml_Hi_38 : Cond.methodLink "FavoursGoOff$History" 38 Lib.Math.max.name ∈ TB := tb_t 620 (by decide +kernel) (by decide +kernel)
theorem ml_La_81 : Cond.methodLink "FavoursGoOffLaw" 81 y_Fa_owes ∈ TB := tb_t 621 (by decide +kernel) (by decide +kernel)
theorem ml_Fa_199 : Cond.methodLink "FavoursGoOff" 199 y_De_addUp ∈ TB := tb_t 625 (by decide +kernel) (by decide +kernel)
theorem ml_De_36 : Cond.methodLink "FavoursGoOff$Debts" 36 Lib.Math.min.name ∈ TB := tb_t 629 (by decide +kernel) (by decide +kernel)
theorem ml_De_44 : Cond.methodLink "FavoursGoOff$Debts" 44 y_Ta_fillRow ∈ TB := tb_t 630 (by decide +kernel) (by decide +kernel)
theorem ml_Ta_34 : Cond.methodLink "FavoursGoOff$Table" 34 y_Ta_put ∈ TB := tb_t 634 (by decide +kernel) (by decide +kernel)
theorem ml_De_50 : Cond.methodLink "FavoursGoOff$Debts" 50 y_Ta_at ∈ TB := tb_t 635 (by decide +kernel) (by decide +kernel)
theorem ml_De_53 : Cond.methodLink "FavoursGoOff$Debts" 53 y_St_valueOn ∈ TB := tb_t 636 (by decide +kernel) (by decide +kernel)
theorem ml_De_56 : Cond.methodLink "FavoursGoOff$Debts" 56 y_Ta_more ∈ TB := tb_t 637 (by decide +kernel) (by decide +kernel)
theorem ml_Ta_31 : Cond.methodLink "FavoursGoOff$Table" 31 y_Ta_at ∈ TB := tb_t 641 (by decide +kernel) (by decide +kernel)
theorem ml_Fa_203 : Cond.methodLink "FavoursGoOff" 203 y_De_between ∈ TB := tb_t 642 (by decide +kernel) (by decide +kernel)
theorem ml_La_85 : Cond.methodLink "FavoursGoOffLaw" 85 y_Fa_ring ∈ TB := tb_t 646 (by decide +kernel) (by decide +kernel)
theorem ml_Fa_206 : Cond.methodLink "FavoursGoOff" 206 y_Fa_findRing ∈ TB := tb_t 650 (by decide +kernel) (by decide +kernel)
theorem ml_Fa_320 : Cond.methodLink "FavoursGoOff" 320 y_Ci_find ∈ TB := tb_t 654 (by decide +kernel) (by decide +kernel)
theorem ml_Ci_24 : Cond.methodLink "FavoursGoOff$Circle" 24 y_Ci_closes ∈ TB := tb_t 658 (by decide +kernel) (by decide +kernel)
theorem ml_Ci_28 : Cond.methodLink "FavoursGoOff$Circle" 28 y_Ci_member ∈ TB := tb_t 661 (by decide +kernel) (by decide +kernel)
theorem ml_Ci_32 : Cond.methodLink "FavoursGoOff$Circle" 32 y_De_between ∈ TB := tb_t 665 (by decide +kernel) (by decide +kernel)
theorem ml_Ci_36 : Cond.methodLink "FavoursGoOff$Circle" 36 y_Ci_holds ∈ TB := tb_t 666 (by decide +kernel) (by decide +kernel)
theorem ml_Fa_210 : Cond.methodLink "FavoursGoOff" 210 y_Ci_member ∈ TB := tb_t 670 (by decide +kernel) (by decide +kernel)
theorem ml_La_89 : Cond.methodLink "FavoursGoOffLaw" 89 y_Fa_cancel ∈ TB := tb_t 671 (by decide +kernel) (by decide +kernel)
theorem ml_Fa_213 : Cond.methodLink "FavoursGoOff" 213 y_St_cheapest ∈ TB := tb_t 675 (by decide +kernel) (by decide +kernel)
theorem ml_St_73 : Cond.methodLink "FavoursGoOff$Street" 73 y_St_valueNow ∈ TB := tb_t 679 (by decide +kernel) (by decide +kernel)
theorem ml_La_93 : Cond.methodLink "FavoursGoOffLaw" 93 y_Fa_net ∈ TB := tb_t 680 (by decide +kernel) (by decide +kernel)
theorem ml_Fa_216 : Cond.methodLink "FavoursGoOff" 216 y_De_balance ∈ TB := tb_t 684 (by decide +kernel) (by decide +kernel)
theorem ml_De_60 : Cond.methodLink "FavoursGoOff$Debts" 60 y_De_doneFor ∈ TB := tb_t 688 (by decide +kernel) (by decide +kernel)
theorem ml_De_82 : Cond.methodLink "FavoursGoOff$Debts" 82 y_De_between ∈ TB := tb_t 692 (by decide +kernel) (by decide +kernel)
theorem ml_De_63 : Cond.methodLink "FavoursGoOff$Debts" 63 y_De_dueFrom ∈ TB := tb_t 693 (by decide +kernel) (by decide +kernel)
theorem ml_La_97 : Cond.methodLink "FavoursGoOffLaw" 97 y_Fa_fewest ∈ TB := tb_t 697 (by decide +kernel) (by decide +kernel)
theorem ml_Fa_219 : Cond.methodLink "FavoursGoOff" 219 y_De_fewestPayments ∈ TB := tb_t 701 (by decide +kernel) (by decide +kernel)
theorem ml_De_67 : Cond.methodLink "FavoursGoOff$Debts" 67 y_De_balance ∈ TB := tb_t 705 (by decide +kernel) (by decide +kernel)
theorem ml_De_70 : Cond.methodLink "FavoursGoOff$Debts" 70 y_De_mostGroups ∈ TB := tb_t 706 (by decide +kernel) (by decide +kernel)
theorem ml_De_73 : Cond.methodLink "FavoursGoOff$Debts" 73 Lib.Math.max.name ∈ TB := tb_t 710 (by decide +kernel) (by decide +kernel)
theorem ml_La_101 : Cond.methodLink "FavoursGoOffLaw" 101 y_Fa_met ∈ TB := tb_t 711 (by decide +kernel) (by decide +kernel)
theorem ml_Fa_222 : Cond.methodLink "FavoursGoOff" 222 y_Pl_make ∈ TB := tb_t 715 (by decide +kernel) (by decide +kernel)
theorem ml_Pl_55 : Cond.methodLink "FavoursGoOff$Plan" 55 Lib.Math.min.name ∈ TB := tb_t 719 (by decide +kernel) (by decide +kernel)
theorem ml_Pl_68 : Cond.methodLink "FavoursGoOff$Plan" 68 y_Ta_at ∈ TB := tb_t 720 (by decide +kernel) (by decide +kernel)
theorem ml_Pl_71 : Cond.methodLink "FavoursGoOff$Plan" 71 y_Pl_layOut ∈ TB := tb_t 721 (by decide +kernel) (by decide +kernel)
theorem ml_Pl_91 : Cond.methodLink "FavoursGoOff$Plan" 91 y_Ta_put ∈ TB := tb_t 725 (by decide +kernel) (by decide +kernel)
theorem ml_Pl_95 : Cond.methodLink "FavoursGoOff$Plan" 95 y_St_valueOn ∈ TB := tb_t 726 (by decide +kernel) (by decide +kernel)
theorem ml_Pl_75 : Cond.methodLink "FavoursGoOff$Plan" 75 y_Pl_lookAhead ∈ TB := tb_t 727 (by decide +kernel) (by decide +kernel)
theorem ml_Pl_84 : Cond.methodLink "FavoursGoOff$Plan" 84 y_Pl_search ∈ TB := tb_t 731 (by decide +kernel) (by decide +kernel)
theorem ml_Pl_98 : Cond.methodLink "FavoursGoOff$Plan" 98 y_Pl_keepIfBetter ∈ TB := tb_t 734 (by decide +kernel) (by decide +kernel)
theorem ml_Pl_101 : Cond.methodLink "FavoursGoOff$Plan" 101 y_Pl_isNoBetter ∈ TB := tb_t 738 (by decide +kernel) (by decide +kernel)
theorem ml_Pl_105 : Cond.methodLink "FavoursGoOff$Plan" 105 y_Ta_more ∈ TB := tb_t 742 (by decide +kernel) (by decide +kernel)
theorem ml_La_105 : Cond.methodLink "FavoursGoOffLaw" 105 y_Fa_plan ∈ TB := tb_t 743 (by decide +kernel) (by decide +kernel)
theorem ml_Fa_231 : Cond.methodLink "FavoursGoOff" 231 y_Pl_favourOf ∈ TB := tb_t 747 (by decide +kernel) (by decide +kernel)
theorem ml_La_109 : Cond.methodLink "FavoursGoOffLaw" 109 y_Fa_fire ∈ TB := tb_t 751 (by decide +kernel) (by decide +kernel)
theorem ml_Fa_234 : Cond.methodLink "FavoursGoOff" 234 y_De_callAllIn ∈ TB := tb_t 755 (by decide +kernel) (by decide +kernel)
theorem ml_La_113 : Cond.methodLink "FavoursGoOffLaw" 113 y_Fa_rate ∈ TB := tb_t 759 (by decide +kernel) (by decide +kernel)
theorem ml_Fa_244 : Cond.methodLink "FavoursGoOff" 244 y_St_rateNow ∈ TB := tb_t 763 (by decide +kernel) (by decide +kernel)
theorem ml_Fa_247 : Cond.methodLink "FavoursGoOff" 247 y_St_drift ∈ TB := tb_t 767 (by decide +kernel) (by decide +kernel)
theorem ml_Fa_250 : Cond.methodLink "FavoursGoOff" 250 y_Fa_heldRate ∈ TB := tb_t 771 (by decide +kernel) (by decide +kernel)
theorem ml_Fa_324 : Cond.methodLink "FavoursGoOff" 324 Lib.Math.min.name ∈ TB := tb_t 774 (by decide +kernel) (by decide +kernel)
theorem ml_Fa_256 : Cond.methodLink "FavoursGoOff" 256 Lib.Math.max.name ∈ TB := tb_t 775 (by decide +kernel) (by decide +kernel)
theorem ml_La_117 : Cond.methodLink "FavoursGoOffLaw" 117 y_Fa_set ∈ TB := tb_t 776 (by decide +kernel) (by decide +kernel)
theorem ml_La_121 : Cond.methodLink "FavoursGoOffLaw" 121 y_Fa_settles ∈ TB := tb_t 780 (by decide +kernel) (by decide +kernel)
theorem ml_Fa_253 : Cond.methodLink "FavoursGoOff" 253 y_Fa_lastChange ∈ TB := tb_t 784 (by decide +kernel) (by decide +kernel)
theorem ml_La_125 : Cond.methodLink "FavoursGoOffLaw" 125 y_Fa_told ∈ TB := tb_t 787 (by decide +kernel) (by decide +kernel)
theorem ml_Fa_264 : Cond.methodLink "FavoursGoOff" 264 y_St_addPass ∈ TB := tb_t 791 (by decide +kernel) (by decide +kernel)
theorem ml_La_130 : Cond.methodLink "FavoursGoOffLaw" 130 y_Fa_forged ∈ TB := tb_t 795 (by decide +kernel) (by decide +kernel)
theorem ml_Fa_268 : Cond.methodLink "FavoursGoOff" 268 y_St_holderAhead ∈ TB := tb_t 799 (by decide +kernel) (by decide +kernel)
theorem ml_La_134 : Cond.methodLink "FavoursGoOffLaw" 134 y_Fa_forget ∈ TB := tb_t 803 (by decide +kernel) (by decide +kernel)
theorem ml_La_138 : Cond.methodLink "FavoursGoOffLaw" 138 y_Fa_goesOff ∈ TB := tb_t 807 (by decide +kernel) (by decide +kernel)
theorem ml_La_142 : Cond.methodLink "FavoursGoOffLaw" 142 y_Fa_kept ∈ TB := tb_t 811 (by decide +kernel) (by decide +kernel)
theorem ml_Fa_271 : Cond.methodLink "FavoursGoOff" 271 y_Fa_choices ∈ TB := tb_t 815 (by decide +kernel) (by decide +kernel)
theorem ml_Fa_275 : Cond.methodLink "FavoursGoOff" 275 y_Fa_power ∈ TB := tb_t 818 (by decide +kernel) (by decide +kernel)
theorem ml_Fa_278 : Cond.methodLink "FavoursGoOff" 278 y_Fr_become ∈ TB := tb_t 821 (by decide +kernel) (by decide +kernel)
theorem ml_Fr_13 : Cond.methodLink "FavoursGoOff$Fraction" 13 y_Fr_commonDivisor ∈ TB := tb_t 825 (by decide +kernel) (by decide +kernel)
theorem ml_La_146 : Cond.methodLink "FavoursGoOffLaw" 146 y_Fa_part ∈ TB := tb_t 828 (by decide +kernel) (by decide +kernel)
theorem ml_La_151 : Cond.methodLink "FavoursGoOffLaw" 151 y_Fa_image ∈ TB := tb_t 832 (by decide +kernel) (by decide +kernel)
theorem ml_Fa_289 : Cond.methodLink "FavoursGoOff" 289 y_Fa_imageAt ∈ TB := tb_t 836 (by decide +kernel) (by decide +kernel)
theorem ml_Fa_293 : Cond.methodLink "FavoursGoOff" 293 y_Hi_copyFrom ∈ TB := tb_t 840 (by decide +kernel) (by decide +kernel)
theorem ml_La_155 : Cond.methodLink "FavoursGoOffLaw" 155 y_Fa_from ∈ TB := tb_t 844 (by decide +kernel) (by decide +kernel)
theorem ml_La_159 : Cond.methodLink "FavoursGoOffLaw" 159 y_Fa_status ∈ TB := tb_t 848 (by decide +kernel) (by decide +kernel)
theorem ml_La_163 : Cond.methodLink "FavoursGoOffLaw" 163 y_Fa_count ∈ TB := tb_t 852 (by decide +kernel) (by decide +kernel)
theorem ml_Fa_309 : Cond.methodLink "FavoursGoOff" 309 y_Fa_howMany ∈ TB := tb_t 856 (by decide +kernel) (by decide +kernel)
theorem ml_La_167 : Cond.methodLink "FavoursGoOffLaw" 167 y_Fa_digest ∈ TB := tb_t 860 (by decide +kernel) (by decide +kernel)
theorem kl_Fa_312 : Cond.constantLong "FavoursGoOff" 312 683 ∈ TB := tb_t 864 (by decide +kernel) (by decide +kernel)
theorem kl_Fa_314 : Cond.constantLong "FavoursGoOff" 314 31 ∈ TB := tb_t 865 (by decide +kernel) (by decide +kernel)
theorem ml_Fa_316 : Cond.methodLink "FavoursGoOff" 316 y_Ta_mixedInto ∈ TB := tb_t 866 (by decide +kernel) (by decide +kernel)
theorem kl_Ta_51 : Cond.constantLong "FavoursGoOff$Table" 51 31 ∈ TB := tb_t 870 (by decide +kernel) (by decide +kernel)
theorem cl_La_10 : Cond.classLink "FavoursGoOffLaw" 10 "FavoursGoOffModel" ∈ TB := tb_t 871 (by decide +kernel) (by decide +kernel)
theorem in_Mo : Cond.instantiable "FavoursGoOffModel" 24 ∈ TB := tb_t 872 (by decide +kernel) (by decide +kernel)
theorem ml_La_12 : Cond.methodLink "FavoursGoOffLaw" 12 y_Mo_init ∈ TB := tb_t 873 (by decide +kernel) (by decide +kernel)
theorem ml_Mo_1 : Cond.methodLink "FavoursGoOffModel" 1 Lib.objectInit ∈ TB := tb_t 876 (by decide +kernel) (by decide +kernel)
theorem ml_Mo_57 : Cond.methodLink "FavoursGoOffModel" 57 y_Mo_begin ∈ TB := tb_t 877 (by decide +kernel) (by decide +kernel)
theorem fl_Mo_7 : FL "FavoursGoOffModel" 7 10 0 2 true (.array .int) := FL.mk' "FavoursGoOffModel" TX10 24 tyX10 rfl ul_10 tyX10_ok nmX10 (by decide) rfl rfl (fun _ _ => rfl) (tb_t 880 (by decide +kernel) (by decide +kernel)) rfl (by decide)
theorem fl_Mo_13 : FL "FavoursGoOffModel" 13 10 1 2 true (.array .int) := FL.mk' "FavoursGoOffModel" TX10 24 tyX10 rfl ul_10 tyX10_ok nmX10 (by decide) rfl rfl (fun _ _ => rfl) (tb_t 881 (by decide +kernel) (by decide +kernel)) rfl (by decide)
theorem fl_Mo_16 : FL "FavoursGoOffModel" 16 10 2 2 true (.array .boolean) := FL.mk' "FavoursGoOffModel" TX10 24 tyX10 rfl ul_10 tyX10_ok nmX10 (by decide) rfl rfl (fun _ _ => rfl) (tb_t 882 (by decide +kernel) (by decide +kernel)) rfl (by decide)
theorem fl_Mo_20 : FL "FavoursGoOffModel" 20 10 3 2 true (.array .int) := FL.mk' "FavoursGoOffModel" TX10 24 tyX10 rfl ul_10 tyX10_ok nmX10 (by decide) rfl rfl (fun _ _ => rfl) (tb_t 883 (by decide +kernel) (by decide +kernel)) rfl (by decide)
theorem fl_Mo_61 : FL "FavoursGoOffModel" 61 10 4 1 false .long := FL.mk' "FavoursGoOffModel" TX10 24 tyX10 rfl ul_10 tyX10_ok nmX10 (by decide) rfl rfl (fun h => by cases h) (tb_t 884 (by decide +kernel) (by decide +kernel)) rfl (by decide)
theorem fl_Mo_23 : FL "FavoursGoOffModel" 23 10 5 1 false .long := FL.mk' "FavoursGoOffModel" TX10 24 tyX10 rfl ul_10 tyX10_ok nmX10 (by decide) rfl rfl (fun h => by cases h) (tb_t 885 (by decide +kernel) (by decide +kernel)) rfl (by decide)
theorem fl_Mo_27 : FL "FavoursGoOffModel" 27 10 6 2 true (.array .int) := FL.mk' "FavoursGoOffModel" TX10 24 tyX10 rfl ul_10 tyX10_ok nmX10 (by decide) rfl rfl (fun _ _ => rfl) (tb_t 886 (by decide +kernel) (by decide +kernel)) rfl (by decide)
theorem fl_Mo_138 : FL "FavoursGoOffModel" 138 10 7 0 false .int := FL.mk' "FavoursGoOffModel" TX10 24 tyX10 rfl ul_10 tyX10_ok nmX10 (by decide) rfl rfl (fun h => by cases h) (tb_t 887 (by decide +kernel) (by decide +kernel)) rfl (by decide)
theorem fl_Mo_30 : FL "FavoursGoOffModel" 30 10 8 2 true (.array .int) := FL.mk' "FavoursGoOffModel" TX10 24 tyX10 rfl ul_10 tyX10_ok nmX10 (by decide) rfl rfl (fun _ _ => rfl) (tb_t 888 (by decide +kernel) (by decide +kernel)) rfl (by decide)
theorem fl_Mo_33 : FL "FavoursGoOffModel" 33 10 9 2 true (.array .int) := FL.mk' "FavoursGoOffModel" TX10 24 tyX10 rfl ul_10 tyX10_ok nmX10 (by decide) rfl rfl (fun _ _ => rfl) (tb_t 889 (by decide +kernel) (by decide +kernel)) rfl (by decide)
theorem fl_Mo_36 : FL "FavoursGoOffModel" 36 10 10 2 true (.array .int) := FL.mk' "FavoursGoOffModel" TX10 24 tyX10 rfl ul_10 tyX10_ok nmX10 (by decide) rfl rfl (fun _ _ => rfl) (tb_t 890 (by decide +kernel) (by decide +kernel)) rfl (by decide)
theorem fl_Mo_39 : FL "FavoursGoOffModel" 39 10 11 2 true (.array .int) := FL.mk' "FavoursGoOffModel" TX10 24 tyX10 rfl ul_10 tyX10_ok nmX10 (by decide) rfl rfl (fun _ _ => rfl) (tb_t 891 (by decide +kernel) (by decide +kernel)) rfl (by decide)
theorem fl_Mo_161 : FL "FavoursGoOffModel" 161 10 12 0 false .int := FL.mk' "FavoursGoOffModel" TX10 24 tyX10 rfl ul_10 tyX10_ok nmX10 (by decide) rfl rfl (fun h => by cases h) (tb_t 892 (by decide +kernel) (by decide +kernel)) rfl (by decide)
theorem fl_Mo_164 : FL "FavoursGoOffModel" 164 10 13 0 false .int := FL.mk' "FavoursGoOffModel" TX10 24 tyX10 rfl ul_10 tyX10_ok nmX10 (by decide) rfl rfl (fun h => by cases h) (tb_t 893 (by decide +kernel) (by decide +kernel)) rfl (by decide)
theorem fl_Mo_42 : FL "FavoursGoOffModel" 42 10 14 2 true (.array .int) := FL.mk' "FavoursGoOffModel" TX10 24 tyX10 rfl ul_10 tyX10_ok nmX10 (by decide) rfl rfl (fun _ _ => rfl) (tb_t 894 (by decide +kernel) (by decide +kernel)) rfl (by decide)
theorem fl_Mo_45 : FL "FavoursGoOffModel" 45 10 15 2 true (.array .int) := FL.mk' "FavoursGoOffModel" TX10 24 tyX10 rfl ul_10 tyX10_ok nmX10 (by decide) rfl rfl (fun _ _ => rfl) (tb_t 895 (by decide +kernel) (by decide +kernel)) rfl (by decide)
theorem fl_Mo_48 : FL "FavoursGoOffModel" 48 10 16 2 true (.array .int) := FL.mk' "FavoursGoOffModel" TX10 24 tyX10 rfl ul_10 tyX10_ok nmX10 (by decide) rfl rfl (fun _ _ => rfl) (tb_t 896 (by decide +kernel) (by decide +kernel)) rfl (by decide)
theorem fl_Mo_199 : FL "FavoursGoOffModel" 199 10 17 0 false .int := FL.mk' "FavoursGoOffModel" TX10 24 tyX10 rfl ul_10 tyX10_ok nmX10 (by decide) rfl rfl (fun h => by cases h) (tb_t 897 (by decide +kernel) (by decide +kernel)) rfl (by decide)
theorem fl_Mo_212 : FL "FavoursGoOffModel" 212 10 18 0 false .int := FL.mk' "FavoursGoOffModel" TX10 24 tyX10 rfl ul_10 tyX10_ok nmX10 (by decide) rfl rfl (fun h => by cases h) (tb_t 898 (by decide +kernel) (by decide +kernel)) rfl (by decide)
theorem fl_Mo_215 : FL "FavoursGoOffModel" 215 10 19 0 false .int := FL.mk' "FavoursGoOffModel" TX10 24 tyX10 rfl ul_10 tyX10_ok nmX10 (by decide) rfl rfl (fun h => by cases h) (tb_t 899 (by decide +kernel) (by decide +kernel)) rfl (by decide)
theorem fl_Mo_218 : FL "FavoursGoOffModel" 218 10 20 0 false .int := FL.mk' "FavoursGoOffModel" TX10 24 tyX10 rfl ul_10 tyX10_ok nmX10 (by decide) rfl rfl (fun h => by cases h) (tb_t 900 (by decide +kernel) (by decide +kernel)) rfl (by decide)
theorem fl_Mo_221 : FL "FavoursGoOffModel" 221 10 21 0 false .int := FL.mk' "FavoursGoOffModel" TX10 24 tyX10 rfl ul_10 tyX10_ok nmX10 (by decide) rfl rfl (fun h => by cases h) (tb_t 901 (by decide +kernel) (by decide +kernel)) rfl (by decide)
theorem fl_Mo_51 : FL "FavoursGoOffModel" 51 10 22 2 true (.array .int) := FL.mk' "FavoursGoOffModel" TX10 24 tyX10 rfl ul_10 tyX10_ok nmX10 (by decide) rfl rfl (fun _ _ => rfl) (tb_t 902 (by decide +kernel) (by decide +kernel)) rfl (by decide)
theorem fl_Mo_54 : FL "FavoursGoOffModel" 54 10 23 2 true (.array .int) := FL.mk' "FavoursGoOffModel" TX10 24 tyX10 rfl ul_10 tyX10_ok nmX10 (by decide) rfl rfl (fun _ _ => rfl) (tb_t 903 (by decide +kernel) (by decide +kernel)) rfl (by decide)
theorem ac_boolean : Cond.arrayClass .boolean ∈ TB := tb_t 953 (by decide +kernel) (by decide +kernel)
theorem ml_La_17 : Cond.methodLink "FavoursGoOffLaw" 17 y_Mo_people ∈ TB := tb_t 954 (by decide +kernel) (by decide +kernel)
theorem kl_Mo_76 : Cond.constantLong "FavoursGoOffModel" 76 2 ∈ TB := tb_t 958 (by decide +kernel) (by decide +kernel)
theorem kl_Mo_78 : Cond.constantLong "FavoursGoOffModel" 78 6 ∈ TB := tb_t 959 (by decide +kernel) (by decide +kernel)
theorem ml_Mo_68 : Cond.methodLink "FavoursGoOffModel" 68 y_Mo_in ∈ TB := tb_t 960 (by decide +kernel) (by decide +kernel)
theorem ml_Mo_80 : Cond.methodLink "FavoursGoOffModel" 80 y_Mo_bad ∈ TB := tb_t 963 (by decide +kernel) (by decide +kernel)
theorem ml_Mo_64 : Cond.methodLink "FavoursGoOffModel" 64 y_Mo_many ∈ TB := tb_t 967 (by decide +kernel) (by decide +kernel)
theorem ml_La_22 : Cond.methodLink "FavoursGoOffLaw" 22 y_Mo_strong ∈ TB := tb_t 971 (by decide +kernel) (by decide +kernel)
theorem ml_Mo_84 : Cond.methodLink "FavoursGoOffModel" 84 y_Mo_isOne ∈ TB := tb_t 975 (by decide +kernel) (by decide +kernel)
theorem kl_Mo_72 : Cond.constantLong "FavoursGoOffModel" 72 99 ∈ TB := tb_t 979 (by decide +kernel) (by decide +kernel)
theorem ml_La_27 : Cond.methodLink "FavoursGoOffLaw" 27 y_Mo_favour ∈ TB := tb_t 980 (by decide +kernel) (by decide +kernel)
theorem kl_Mo_88 : Cond.constantLong "FavoursGoOffModel" 88 4 ∈ TB := tb_t 984 (by decide +kernel) (by decide +kernel)
theorem ml_Mo_90 : Cond.methodLink "FavoursGoOffModel" 90 y_Mo_isThing ∈ TB := tb_t 985 (by decide +kernel) (by decide +kernel)
theorem kl_Mo_74 : Cond.constantLong "FavoursGoOffModel" 74 3 ∈ TB := tb_t 988 (by decide +kernel) (by decide +kernel)
theorem kl_Mo_93 : Cond.constantLong "FavoursGoOffModel" 93 40 ∈ TB := tb_t 989 (by decide +kernel) (by decide +kernel)
theorem ml_Mo_95 : Cond.methodLink "FavoursGoOffModel" 95 y_Mo_isDay ∈ TB := tb_t 990 (by decide +kernel) (by decide +kernel)
theorem ml_Mo_98 : Cond.methodLink "FavoursGoOffModel" 98 y_Mo_full ∈ TB := tb_t 993 (by decide +kernel) (by decide +kernel)
theorem ml_Mo_101 : Cond.methodLink "FavoursGoOffModel" 101 y_Mo_day ∈ TB := tb_t 997 (by decide +kernel) (by decide +kernel)
theorem ml_Mo_104 : Cond.methodLink "FavoursGoOffModel" 104 y_Mo_layFavour ∈ TB := tb_t 1001 (by decide +kernel) (by decide +kernel)
theorem ml_La_32 : Cond.methodLink "FavoursGoOffLaw" 32 y_Mo_need ∈ TB := tb_t 1004 (by decide +kernel) (by decide +kernel)
theorem ml_Mo_108 : Cond.methodLink "FavoursGoOffModel" 108 y_Mo_layNeed ∈ TB := tb_t 1008 (by decide +kernel) (by decide +kernel)
theorem ml_La_37 : Cond.methodLink "FavoursGoOffLaw" 37 y_Mo_contented ∈ TB := tb_t 1011 (by decide +kernel) (by decide +kernel)
theorem ml_La_56 : Cond.methodLink "FavoursGoOffLaw" 56 y_Mo_value ∈ TB := tb_t 1015 (by decide +kernel) (by decide +kernel)
theorem ml_Mo_122 : Cond.methodLink "FavoursGoOffModel" 122 y_Mo_isFavour ∈ TB := tb_t 1019 (by decide +kernel) (by decide +kernel)
theorem ml_Mo_119 : Cond.methodLink "FavoursGoOffModel" 119 y_Mo_valueOf ∈ TB := tb_t 1023 (by decide +kernel) (by decide +kernel)
theorem ml_Mo_112 : Cond.methodLink "FavoursGoOffModel" 112 y_Mo_told0 ∈ TB := tb_t 1027 (by decide +kernel) (by decide +kernel)
theorem ml_Mo_116 : Cond.methodLink "FavoursGoOffModel" 116 y_Mo_notBelow0 ∈ TB := tb_t 1031 (by decide +kernel) (by decide +kernel)
theorem ml_La_60 : Cond.methodLink "FavoursGoOffLaw" 60 y_Mo_of ∈ TB := tb_t 1034 (by decide +kernel) (by decide +kernel)
theorem ml_La_64 : Cond.methodLink "FavoursGoOffLaw" 64 y_Mo_pass ∈ TB := tb_t 1038 (by decide +kernel) (by decide +kernel)
theorem ml_Mo_125 : Cond.methodLink "FavoursGoOffModel" 125 y_Mo_valueNow ∈ TB := tb_t 1042 (by decide +kernel) (by decide +kernel)
theorem ml_Mo_128 : Cond.methodLink "FavoursGoOffModel" 128 y_Mo_no ∈ TB := tb_t 1046 (by decide +kernel) (by decide +kernel)
theorem ml_Mo_131 : Cond.methodLink "FavoursGoOffModel" 131 y_Mo_lose ∈ TB := tb_t 1050 (by decide +kernel) (by decide +kernel)
theorem ml_La_68 : Cond.methodLink "FavoursGoOffLaw" 68 y_Mo_join ∈ TB := tb_t 1054 (by decide +kernel) (by decide +kernel)
theorem ml_La_72 : Cond.methodLink "FavoursGoOffLaw" 72 y_Mo_ask ∈ TB := tb_t 1058 (by decide +kernel) (by decide +kernel)
theorem ml_La_76 : Cond.methodLink "FavoursGoOffLaw" 76 y_Mo_night ∈ TB := tb_t 1062 (by decide +kernel) (by decide +kernel)
theorem ml_La_80 : Cond.methodLink "FavoursGoOffLaw" 80 y_Mo_undo ∈ TB := tb_t 1066 (by decide +kernel) (by decide +kernel)
theorem ml_La_84 : Cond.methodLink "FavoursGoOffLaw" 84 y_Mo_owes ∈ TB := tb_t 1070 (by decide +kernel) (by decide +kernel)
theorem ml_Mo_135 : Cond.methodLink "FavoursGoOffModel" 135 y_Mo_owesTo ∈ TB := tb_t 1074 (by decide +kernel) (by decide +kernel)
theorem ml_La_88 : Cond.methodLink "FavoursGoOffLaw" 88 y_Mo_ring ∈ TB := tb_t 1078 (by decide +kernel) (by decide +kernel)
theorem ml_Mo_146 : Cond.methodLink "FavoursGoOffModel" 146 y_Mo_findRing ∈ TB := tb_t 1082 (by decide +kernel) (by decide +kernel)
theorem ml_Mo_142 : Cond.methodLink "FavoursGoOffModel" 142 y_Mo_layRing ∈ TB := tb_t 1086 (by decide +kernel) (by decide +kernel)
theorem ml_La_92 : Cond.methodLink "FavoursGoOffLaw" 92 y_Mo_cancel ∈ TB := tb_t 1090 (by decide +kernel) (by decide +kernel)
theorem ml_Mo_149 : Cond.methodLink "FavoursGoOffModel" 149 y_Mo_leastOf ∈ TB := tb_t 1094 (by decide +kernel) (by decide +kernel)
theorem ml_La_96 : Cond.methodLink "FavoursGoOffLaw" 96 y_Mo_net ∈ TB := tb_t 1098 (by decide +kernel) (by decide +kernel)
theorem ml_Mo_152 : Cond.methodLink "FavoursGoOffModel" 152 y_Mo_netOf ∈ TB := tb_t 1102 (by decide +kernel) (by decide +kernel)
theorem ml_La_100 : Cond.methodLink "FavoursGoOffLaw" 100 y_Mo_fewest ∈ TB := tb_t 1106 (by decide +kernel) (by decide +kernel)
theorem ml_La_104 : Cond.methodLink "FavoursGoOffLaw" 104 y_Mo_met ∈ TB := tb_t 1110 (by decide +kernel) (by decide +kernel)
theorem ml_Mo_173 : Cond.methodLink "FavoursGoOffModel" 173 y_Mo_findMet ∈ TB := tb_t 1114 (by decide +kernel) (by decide +kernel)
theorem ml_Mo_167 : Cond.methodLink "FavoursGoOffModel" 167 y_Mo_fits ∈ TB := tb_t 1118 (by decide +kernel) (by decide +kernel)
theorem ml_Mo_158 : Cond.methodLink "FavoursGoOffModel" 158 y_Mo_mayMeet ∈ TB := tb_t 1122 (by decide +kernel) (by decide +kernel)
theorem ml_Mo_155 : Cond.methodLink "FavoursGoOffModel" 155 y_Mo_need0 ∈ TB := tb_t 1126 (by decide +kernel) (by decide +kernel)
theorem ml_Mo_170 : Cond.methodLink "FavoursGoOffModel" 170 y_Mo_look ∈ TB := tb_t 1130 (by decide +kernel) (by decide +kernel)
theorem ml_La_108 : Cond.methodLink "FavoursGoOffLaw" 108 y_Mo_plan ∈ TB := tb_t 1134 (by decide +kernel) (by decide +kernel)
theorem ml_La_112 : Cond.methodLink "FavoursGoOffLaw" 112 y_Mo_fire ∈ TB := tb_t 1138 (by decide +kernel) (by decide +kernel)
theorem ml_Mo_176 : Cond.methodLink "FavoursGoOffModel" 176 y_Mo_toDo ∈ TB := tb_t 1142 (by decide +kernel) (by decide +kernel)
theorem ml_Mo_179 : Cond.methodLink "FavoursGoOffModel" 179 y_Mo_doneFor ∈ TB := tb_t 1146 (by decide +kernel) (by decide +kernel)
theorem ml_La_116 : Cond.methodLink "FavoursGoOffLaw" 116 y_Mo_rate ∈ TB := tb_t 1150 (by decide +kernel) (by decide +kernel)
theorem ml_Mo_183 : Cond.methodLink "FavoursGoOffModel" 183 y_Mo_ratesBy ∈ TB := tb_t 1154 (by decide +kernel) (by decide +kernel)
theorem ml_Mo_186 : Cond.methodLink "FavoursGoOffModel" 186 y_Mo_hold ∈ TB := tb_t 1158 (by decide +kernel) (by decide +kernel)
theorem ml_La_120 : Cond.methodLink "FavoursGoOffLaw" 120 y_Mo_set ∈ TB := tb_t 1161 (by decide +kernel) (by decide +kernel)
theorem ml_La_124 : Cond.methodLink "FavoursGoOffLaw" 124 y_Mo_settles ∈ TB := tb_t 1165 (by decide +kernel) (by decide +kernel)
theorem ml_La_129 : Cond.methodLink "FavoursGoOffLaw" 129 y_Mo_told ∈ TB := tb_t 1169 (by decide +kernel) (by decide +kernel)
theorem ml_La_133 : Cond.methodLink "FavoursGoOffLaw" 133 y_Mo_forged ∈ TB := tb_t 1173 (by decide +kernel) (by decide +kernel)
theorem ml_La_137 : Cond.methodLink "FavoursGoOffLaw" 137 y_Mo_forget ∈ TB := tb_t 1177 (by decide +kernel) (by decide +kernel)
theorem ml_La_141 : Cond.methodLink "FavoursGoOffLaw" 141 y_Mo_goesOff ∈ TB := tb_t 1181 (by decide +kernel) (by decide +kernel)
theorem ml_La_145 : Cond.methodLink "FavoursGoOffLaw" 145 y_Mo_kept ∈ TB := tb_t 1185 (by decide +kernel) (by decide +kernel)
theorem kl_Mo_189 : Cond.constantLong "FavoursGoOffModel" 189 10 ∈ TB := tb_t 1189 (by decide +kernel) (by decide +kernel)
theorem kl_Mo_191 : Cond.constantLong "FavoursGoOffModel" 191 5 ∈ TB := tb_t 1190 (by decide +kernel) (by decide +kernel)
theorem ml_Mo_193 : Cond.methodLink "FavoursGoOffModel" 193 y_Mo_tells ∈ TB := tb_t 1191 (by decide +kernel) (by decide +kernel)
theorem ml_La_44 : Cond.methodLink "FavoursGoOffLaw" 44 y_Mo_type ∈ TB := tb_t 1195 (by decide +kernel) (by decide +kernel)
theorem kl_Mo_197 : Cond.constantLong "FavoursGoOffModel" 197 8 ∈ TB := tb_t 1199 (by decide +kernel) (by decide +kernel)
theorem kl_Mo_202 : Cond.constantLong "FavoursGoOffModel" 202 255 ∈ TB := tb_t 1200 (by decide +kernel) (by decide +kernel)
theorem ml_La_48 : Cond.methodLink "FavoursGoOffLaw" 48 y_Mo_clear ∈ TB := tb_t 1201 (by decide +kernel) (by decide +kernel)
theorem ml_La_52 : Cond.methodLink "FavoursGoOffLaw" 52 y_Mo_read ∈ TB := tb_t 1205 (by decide +kernel) (by decide +kernel)
theorem ml_Mo_230 : Cond.methodLink "FavoursGoOffModel" 230 y_Mo_lookAt ∈ TB := tb_t 1209 (by decide +kernel) (by decide +kernel)
theorem ml_Mo_224 : Cond.methodLink "FavoursGoOffModel" 224 y_Mo_isSmall ∈ TB := tb_t 1213 (by decide +kernel) (by decide +kernel)
theorem kl_Mo_204 : Cond.constantLong "FavoursGoOffModel" 204 97 ∈ TB := tb_t 1216 (by decide +kernel) (by decide +kernel)
theorem kl_Mo_206 : Cond.constantLong "FavoursGoOffModel" 206 122 ∈ TB := tb_t 1217 (by decide +kernel) (by decide +kernel)
theorem ml_Mo_227 : Cond.methodLink "FavoursGoOffModel" 227 y_Mo_isFigure ∈ TB := tb_t 1218 (by decide +kernel) (by decide +kernel)
theorem kl_Mo_208 : Cond.constantLong "FavoursGoOffModel" 208 48 ∈ TB := tb_t 1221 (by decide +kernel) (by decide +kernel)
theorem kl_Mo_210 : Cond.constantLong "FavoursGoOffModel" 210 57 ∈ TB := tb_t 1222 (by decide +kernel) (by decide +kernel)
theorem ml_Mo_254 : Cond.methodLink "FavoursGoOffModel" 254 y_Mo_readsItem ∈ TB := tb_t 1223 (by decide +kernel) (by decide +kernel)
theorem ml_Mo_240 : Cond.methodLink "FavoursGoOffModel" 240 y_Mo_isWord ∈ TB := tb_t 1227 (by decide +kernel) (by decide +kernel)
theorem ml_Mo_233 : Cond.methodLink "FavoursGoOffModel" 233 y_Mo_goOn ∈ TB := tb_t 1231 (by decide +kernel) (by decide +kernel)
theorem ml_Mo_236 : Cond.methodLink "FavoursGoOffModel" 236 y_Mo_takes ∈ TB := tb_t 1235 (by decide +kernel) (by decide +kernel)
theorem ml_Mo_244 : Cond.methodLink "FavoursGoOffModel" 244 y_Mo_readsStrong ∈ TB := tb_t 1239 (by decide +kernel) (by decide +kernel)
theorem ml_Mo_248 : Cond.methodLink "FavoursGoOffModel" 248 y_Mo_readsFavour ∈ TB := tb_t 1243 (by decide +kernel) (by decide +kernel)
theorem ml_Mo_251 : Cond.methodLink "FavoursGoOffModel" 251 y_Mo_readsNeed ∈ TB := tb_t 1247 (by decide +kernel) (by decide +kernel)
theorem kl_Mo_258 : Cond.constantLong "FavoursGoOffModel" 258 154 ∈ TB := tb_t 1251 (by decide +kernel) (by decide +kernel)
theorem kl_Mo_260 : Cond.constantLong "FavoursGoOffModel" 260 157 ∈ TB := tb_t 1252 (by decide +kernel) (by decide +kernel)
theorem ml_La_150 : Cond.methodLink "FavoursGoOffLaw" 150 y_Mo_part ∈ TB := tb_t 1253 (by decide +kernel) (by decide +kernel)
theorem ml_La_154 : Cond.methodLink "FavoursGoOffLaw" 154 y_Mo_image ∈ TB := tb_t 1257 (by decide +kernel) (by decide +kernel)
theorem ml_La_158 : Cond.methodLink "FavoursGoOffLaw" 158 y_Mo_from ∈ TB := tb_t 1261 (by decide +kernel) (by decide +kernel)
theorem ml_La_162 : Cond.methodLink "FavoursGoOffLaw" 162 y_Mo_status ∈ TB := tb_t 1265 (by decide +kernel) (by decide +kernel)
theorem ml_La_166 : Cond.methodLink "FavoursGoOffLaw" 166 y_Mo_count ∈ TB := tb_t 1269 (by decide +kernel) (by decide +kernel)
theorem ml_Mo_262 : Cond.methodLink "FavoursGoOffModel" 262 y_Mo_counted ∈ TB := tb_t 1273 (by decide +kernel) (by decide +kernel)
theorem ml_La_171 : Cond.methodLink "FavoursGoOffLaw" 171 y_Mo_digest ∈ TB := tb_t 1277 (by decide +kernel) (by decide +kernel)
theorem kl_Mo_267 : Cond.constantLong "FavoursGoOffModel" 267 683 ∈ TB := tb_t 1281 (by decide +kernel) (by decide +kernel)
theorem kl_Mo_265 : Cond.constantLong "FavoursGoOffModel" 265 31 ∈ TB := tb_t 1282 (by decide +kernel) (by decide +kernel)
theorem ml_Mo_269 : Cond.methodLink "FavoursGoOffModel" 269 y_Mo_sums ∈ TB := tb_t 1283 (by decide +kernel) (by decide +kernel)
theorem kl_La_38 : Cond.constantLong "FavoursGoOffLaw" 38 4294967295 ∈ TB := tb_t 1287 (by decide +kernel) (by decide +kernel)
theorem cm_Ci_init : CMI y_Ci_init cX0_init 1 0 := ⟨tb_t 196 (by decide +kernel) (by decide +kernel), it_Ci, tb_t 197 (by decide +kernel) (by decide +kernel), rfl, ⟨by decide, by decide, by decide +kernel⟩⟩
theorem cm_Ci_find : CMV y_Ci_find cX0_find 4 none 1 := ⟨tb_t 655 (by decide +kernel) (by decide +kernel), tb_t 656 (by decide +kernel) (by decide +kernel), it_Ci, tb_t 657 (by decide +kernel) (by decide +kernel), ⟨by decide, by decide, by decide +kernel⟩⟩
theorem cm_Ci_member : CMV y_Ci_member cX0_member 2 (some .int) 1 := ⟨tb_t 662 (by decide +kernel) (by decide +kernel), tb_t 663 (by decide +kernel) (by decide +kernel), it_Ci, tb_t 664 (by decide +kernel) (by decide +kernel), ⟨by decide, by decide, by decide +kernel⟩⟩
theorem cm_Ci_closes : CMS y_Ci_closes cX0_closes 7 (some .boolean) 4 := ⟨tb_t 659 (by decide +kernel) (by decide +kernel), it_Ci, tb_t 660 (by decide +kernel) (by decide +kernel), ⟨by decide, by decide, by decide +kernel⟩⟩
theorem cm_Ci_holds : CMV y_Ci_holds cX0_holds 4 (some .boolean) 2 := ⟨tb_t 668 (by decide +kernel) (by decide +kernel), tb_s 19 (by decide +kernel) (by decide +kernel), it_Ci, tb_t 669 (by decide +kernel) (by decide +kernel), ⟨by decide, by decide, by decide +kernel⟩⟩
theorem cm_De_init : CMI y_De_init cX1_init 1 0 := ⟨tb_t 166 (by decide +kernel) (by decide +kernel), it_De, tb_t 167 (by decide +kernel) (by decide +kernel), rfl, ⟨by decide, by decide, by decide +kernel⟩⟩
theorem cm_De_addUp : CMV y_De_addUp cX1_addUp 4 none 2 := ⟨tb_t 626 (by decide +kernel) (by decide +kernel), tb_t 627 (by decide +kernel) (by decide +kernel), it_De, tb_t 628 (by decide +kernel) (by decide +kernel), ⟨by decide, by decide, by decide +kernel⟩⟩
theorem cm_De_between : CMV y_De_between cX1_between 3 (some .int) 2 := ⟨tb_t 643 (by decide +kernel) (by decide +kernel), tb_t 644 (by decide +kernel) (by decide +kernel), it_De, tb_t 645 (by decide +kernel) (by decide +kernel), ⟨by decide, by decide, by decide +kernel⟩⟩
theorem cm_De_balance : CMV y_De_balance cX1_balance 2 (some .int) 1 := ⟨tb_t 685 (by decide +kernel) (by decide +kernel), tb_t 686 (by decide +kernel) (by decide +kernel), it_De, tb_t 687 (by decide +kernel) (by decide +kernel), ⟨by decide, by decide, by decide +kernel⟩⟩
theorem cm_De_fewestPayments : CMV y_De_fewestPayments cX1_fewestPayments 3 (some .int) 0 := ⟨tb_t 702 (by decide +kernel) (by decide +kernel), tb_t 703 (by decide +kernel) (by decide +kernel), it_De, tb_t 704 (by decide +kernel) (by decide +kernel), ⟨by decide, by decide, by decide +kernel⟩⟩
theorem cm_De_mostGroups : CMV y_De_mostGroups cX1_mostGroups 6 (some .int) 1 := ⟨tb_t 708 (by decide +kernel) (by decide +kernel), tb_s 22 (by decide +kernel) (by decide +kernel), it_De, tb_t 709 (by decide +kernel) (by decide +kernel), ⟨by decide, by decide, by decide +kernel⟩⟩
theorem cm_De_callAllIn : CMV y_De_callAllIn cX1_callAllIn 7 none 1 := ⟨tb_t 756 (by decide +kernel) (by decide +kernel), tb_t 757 (by decide +kernel) (by decide +kernel), it_De, tb_t 758 (by decide +kernel) (by decide +kernel), ⟨by decide, by decide, by decide +kernel⟩⟩
theorem cm_De_dueFrom : CMV y_De_dueFrom cX1_dueFrom 4 (some .int) 1 := ⟨tb_t 695 (by decide +kernel) (by decide +kernel), tb_s 21 (by decide +kernel) (by decide +kernel), it_De, tb_t 696 (by decide +kernel) (by decide +kernel), ⟨by decide, by decide, by decide +kernel⟩⟩
theorem cm_De_doneFor : CMV y_De_doneFor cX1_doneFor 5 (some .int) 2 := ⟨tb_t 690 (by decide +kernel) (by decide +kernel), tb_s 20 (by decide +kernel) (by decide +kernel), it_De, tb_t 691 (by decide +kernel) (by decide +kernel), ⟨by decide, by decide, by decide +kernel⟩⟩
theorem cm_Fr_init : CMI y_Fr_init cX2_init 1 0 := ⟨tb_t 261 (by decide +kernel) (by decide +kernel), it_Fr, tb_t 262 (by decide +kernel) (by decide +kernel), rfl, ⟨by decide, by decide, by decide +kernel⟩⟩
theorem cm_Fr_become : CMV y_Fr_become cX2_become 7 none 2 := ⟨tb_t 822 (by decide +kernel) (by decide +kernel), tb_t 823 (by decide +kernel) (by decide +kernel), it_Fr, tb_t 824 (by decide +kernel) (by decide +kernel), ⟨by decide, by decide, by decide +kernel⟩⟩
theorem cm_Fr_commonDivisor : CMS y_Fr_commonDivisor cX2_commonDivisor 7 (some .long) 2 := ⟨tb_t 826 (by decide +kernel) (by decide +kernel), it_Fr, tb_t 827 (by decide +kernel) (by decide +kernel), ⟨by decide, by decide, by decide +kernel⟩⟩
theorem cm_Hi_init : CMI y_Hi_init cX3_init 1 0 := ⟨tb_t 29 (by decide +kernel) (by decide +kernel), it_Hi, tb_t 30 (by decide +kernel) (by decide +kernel), rfl, ⟨by decide, by decide, by decide +kernel⟩⟩
theorem cm_Hi_keepNight : CMV y_Hi_keepNight cX3_keepNight 1 none 0 := ⟨tb_t 599 (by decide +kernel) (by decide +kernel), tb_t 600 (by decide +kernel) (by decide +kernel), it_Hi, tb_t 601 (by decide +kernel) (by decide +kernel), ⟨by decide, by decide, by decide +kernel⟩⟩
theorem cm_Hi_goBack : CMV y_Hi_goBack cX3_goBack 1 none 0 := ⟨tb_t 617 (by decide +kernel) (by decide +kernel), tb_t 618 (by decide +kernel) (by decide +kernel), it_Hi, tb_t 619 (by decide +kernel) (by decide +kernel), ⟨by decide, by decide, by decide +kernel⟩⟩
theorem cm_Hi_copyFrom : CMV y_Hi_copyFrom cX3_copyFrom 2 none 1 := ⟨tb_t 841 (by decide +kernel) (by decide +kernel), tb_t 842 (by decide +kernel) (by decide +kernel), it_Hi, tb_t 843 (by decide +kernel) (by decide +kernel), ⟨by decide, by decide, by decide +kernel⟩⟩
theorem cm_Pl_init : CMI y_Pl_init cX4_init 1 0 := ⟨tb_t 210 (by decide +kernel) (by decide +kernel), it_Pl, tb_t 211 (by decide +kernel) (by decide +kernel), rfl, ⟨by decide, by decide, by decide +kernel⟩⟩
theorem cm_Pl_make : CMV y_Pl_make cX4_make 3 none 1 := ⟨tb_t 716 (by decide +kernel) (by decide +kernel), tb_t 717 (by decide +kernel) (by decide +kernel), it_Pl, tb_t 718 (by decide +kernel) (by decide +kernel), ⟨by decide, by decide, by decide +kernel⟩⟩
theorem cm_Pl_favourOf : CMV y_Pl_favourOf cX4_favourOf 2 (some .int) 1 := ⟨tb_t 748 (by decide +kernel) (by decide +kernel), tb_t 749 (by decide +kernel) (by decide +kernel), it_Pl, tb_t 750 (by decide +kernel) (by decide +kernel), ⟨by decide, by decide, by decide +kernel⟩⟩
theorem cm_Pl_layOut : CMV y_Pl_layOut cX4_layOut 8 none 2 := ⟨tb_t 723 (by decide +kernel) (by decide +kernel), tb_s 23 (by decide +kernel) (by decide +kernel), it_Pl, tb_t 724 (by decide +kernel) (by decide +kernel), ⟨by decide, by decide, by decide +kernel⟩⟩
theorem cm_Pl_lookAhead : CMV y_Pl_lookAhead cX4_lookAhead 5 none 0 := ⟨tb_t 729 (by decide +kernel) (by decide +kernel), tb_s 24 (by decide +kernel) (by decide +kernel), it_Pl, tb_t 730 (by decide +kernel) (by decide +kernel), ⟨by decide, by decide, by decide +kernel⟩⟩
theorem cm_Pl_search : CMS y_Pl_search cX4_search 9 none 5 := ⟨tb_t 732 (by decide +kernel) (by decide +kernel), it_Pl, tb_t 733 (by decide +kernel) (by decide +kernel), ⟨by decide, by decide, by decide +kernel⟩⟩
theorem cm_Pl_isNoBetter : CMV y_Pl_isNoBetter cX4_isNoBetter 3 (some .boolean) 2 := ⟨tb_t 740 (by decide +kernel) (by decide +kernel), tb_s 26 (by decide +kernel) (by decide +kernel), it_Pl, tb_t 741 (by decide +kernel) (by decide +kernel), ⟨by decide, by decide, by decide +kernel⟩⟩
theorem cm_Pl_keepIfBetter : CMV y_Pl_keepIfBetter cX4_keepIfBetter 4 none 2 := ⟨tb_t 736 (by decide +kernel) (by decide +kernel), tb_s 25 (by decide +kernel) (by decide +kernel), it_Pl, tb_t 737 (by decide +kernel) (by decide +kernel), ⟨by decide, by decide, by decide +kernel⟩⟩
theorem cm_Re_init : CMI y_Re_init cX5_init 1 0 := ⟨tb_t 115 (by decide +kernel) (by decide +kernel), it_Re, tb_t 116 (by decide +kernel) (by decide +kernel), rfl, ⟨by decide, by decide, by decide +kernel⟩⟩
theorem cm_Re_readStreet : CMV y_Re_readStreet cX5_readStreet 2 (some .int) 0 := ⟨tb_t 418 (by decide +kernel) (by decide +kernel), tb_t 419 (by decide +kernel) (by decide +kernel), it_Re, tb_t 420 (by decide +kernel) (by decide +kernel), ⟨by decide, by decide, by decide +kernel⟩⟩
theorem cm_Re_readPeople : CMV y_Re_readPeople cX5_readPeople 2 none 0 := ⟨tb_t 440 (by decide +kernel) (by decide +kernel), tb_s 7 (by decide +kernel) (by decide +kernel), it_Re, tb_t 441 (by decide +kernel) (by decide +kernel), ⟨by decide, by decide, by decide +kernel⟩⟩
theorem cm_Re_readItem : CMV y_Re_readItem cX5_readItem 1 none 0 := ⟨tb_t 510 (by decide +kernel) (by decide +kernel), tb_s 12 (by decide +kernel) (by decide +kernel), it_Re, tb_t 511 (by decide +kernel) (by decide +kernel), ⟨by decide, by decide, by decide +kernel⟩⟩
theorem cm_Re_readStrong : CMV y_Re_readStrong cX5_readStrong 3 none 0 := ⟨tb_t 515 (by decide +kernel) (by decide +kernel), tb_s 13 (by decide +kernel) (by decide +kernel), it_Re, tb_t 516 (by decide +kernel) (by decide +kernel), ⟨by decide, by decide, by decide +kernel⟩⟩
theorem cm_Re_readFavour : CMV y_Re_readFavour cX5_readFavour 7 none 0 := ⟨tb_t 522 (by decide +kernel) (by decide +kernel), tb_s 14 (by decide +kernel) (by decide +kernel), it_Re, tb_t 523 (by decide +kernel) (by decide +kernel), ⟨by decide, by decide, by decide +kernel⟩⟩
theorem cm_Re_readNeed : CMV y_Re_readNeed cX5_readNeed 5 none 0 := ⟨tb_t 532 (by decide +kernel) (by decide +kernel), tb_s 16 (by decide +kernel) (by decide +kernel), it_Re, tb_t 533 (by decide +kernel) (by decide +kernel), ⟨by decide, by decide, by decide +kernel⟩⟩
theorem cm_Re_refuse : CMV y_Re_refuse cX5_refuse 2 none 1 := ⟨tb_t 526 (by decide +kernel) (by decide +kernel), tb_s 15 (by decide +kernel) (by decide +kernel), it_Re, tb_t 527 (by decide +kernel) (by decide +kernel), ⟨by decide, by decide, by decide +kernel⟩⟩
theorem cm_Re_takeNumber : CMV y_Re_takeNumber cX5_takeNumber 4 (some .int) 2 := ⟨tb_t 501 (by decide +kernel) (by decide +kernel), tb_s 10 (by decide +kernel) (by decide +kernel), it_Re, tb_t 502 (by decide +kernel) (by decide +kernel), ⟨by decide, by decide, by decide +kernel⟩⟩
theorem cm_Re_takeStop : CMV y_Re_takeStop cX5_takeStop 1 none 0 := ⟨tb_t 505 (by decide +kernel) (by decide +kernel), tb_s 11 (by decide +kernel) (by decide +kernel), it_Re, tb_t 506 (by decide +kernel) (by decide +kernel), ⟨by decide, by decide, by decide +kernel⟩⟩
theorem cm_Re_fail : CMV y_Re_fail cX5_fail 1 none 0 := ⟨tb_t 497 (by decide +kernel) (by decide +kernel), tb_s 9 (by decide +kernel) (by decide +kernel), it_Re, tb_t 498 (by decide +kernel) (by decide +kernel), ⟨by decide, by decide, by decide +kernel⟩⟩
theorem cm_Re_step : CMV y_Re_step cX5_step 2 none 0 := ⟨tb_t 423 (by decide +kernel) (by decide +kernel), tb_s 4 (by decide +kernel) (by decide +kernel), it_Re, tb_t 424 (by decide +kernel) (by decide +kernel), ⟨by decide, by decide, by decide +kernel⟩⟩
theorem cm_Re_endOfRun : CMV y_Re_endOfRun cX5_endOfRun 4 (some .int) 2 := ⟨tb_t 432 (by decide +kernel) (by decide +kernel), tb_s 5 (by decide +kernel) (by decide +kernel), it_Re, tb_t 433 (by decide +kernel) (by decide +kernel), ⟨by decide, by decide, by decide +kernel⟩⟩
theorem cm_Re_takeFigures : CMV y_Re_takeFigures cX5_takeFigures 2 none 0 := ⟨tb_t 436 (by decide +kernel) (by decide +kernel), tb_s 6 (by decide +kernel) (by decide +kernel), it_Re, tb_t 437 (by decide +kernel) (by decide +kernel), ⟨by decide, by decide, by decide +kernel⟩⟩
theorem cm_Re_isWord : CMV y_Re_isWord cX5_isWord 3 (some .boolean) 1 := ⟨tb_t 445 (by decide +kernel) (by decide +kernel), tb_s 8 (by decide +kernel) (by decide +kernel), it_Re, tb_t 446 (by decide +kernel) (by decide +kernel), ⟨by decide, by decide, by decide +kernel⟩⟩
theorem cm_St_init : CMI y_St_init cX6_init 1 0 := ⟨tb_t 35 (by decide +kernel) (by decide +kernel), it_St, tb_t 36 (by decide +kernel) (by decide +kernel), rfl, ⟨by decide, by decide, by decide +kernel⟩⟩
theorem cm_St_open : CMV y_St_open cX6_open 4 none 1 := ⟨tb_t 274 (by decide +kernel) (by decide +kernel), tb_t 275 (by decide +kernel) (by decide +kernel), it_St, tb_t 276 (by decide +kernel) (by decide +kernel), ⟨by decide, by decide, by decide +kernel⟩⟩
theorem cm_St_copyFrom : CMV y_St_copyFrom cX6_copyFrom 2 none 1 := ⟨tb_t 603 (by decide +kernel) (by decide +kernel), tb_t 604 (by decide +kernel) (by decide +kernel), it_St, tb_t 605 (by decide +kernel) (by decide +kernel), ⟨by decide, by decide, by decide +kernel⟩⟩
theorem cm_St_takeAllButRates : CMV y_St_takeAllButRates cX6_takeAllButRates 2 none 1 := ⟨tb_t 536 (by decide +kernel) (by decide +kernel), tb_t 537 (by decide +kernel) (by decide +kernel), it_St, tb_t 538 (by decide +kernel) (by decide +kernel), ⟨by decide, by decide, by decide +kernel⟩⟩
theorem cm_St_addFavour : CMV y_St_addFavour cX6_addFavour 8 (some .int) 6 := ⟨tb_t 381 (by decide +kernel) (by decide +kernel), tb_t 382 (by decide +kernel) (by decide +kernel), it_St, tb_t 383 (by decide +kernel) (by decide +kernel), ⟨by decide, by decide, by decide +kernel⟩⟩
theorem cm_St_addNeed : CMV y_St_addNeed cX6_addNeed 6 (some .int) 4 := ⟨tb_t 393 (by decide +kernel) (by decide +kernel), tb_t 394 (by decide +kernel) (by decide +kernel), it_St, tb_t 395 (by decide +kernel) (by decide +kernel), ⟨by decide, by decide, by decide +kernel⟩⟩
theorem cm_St_addPass : CMV y_St_addPass cX6_addPass 5 (some .int) 3 := ⟨tb_t 792 (by decide +kernel) (by decide +kernel), tb_t 793 (by decide +kernel) (by decide +kernel), it_St, tb_t 794 (by decide +kernel) (by decide +kernel), ⟨by decide, by decide, by decide +kernel⟩⟩
theorem cm_St_wake : CMV y_St_wake cX6_wake 2 none 0 := ⟨tb_t 609 (by decide +kernel) (by decide +kernel), tb_t 610 (by decide +kernel) (by decide +kernel), it_St, tb_t 611 (by decide +kernel) (by decide +kernel), ⟨by decide, by decide, by decide +kernel⟩⟩
theorem cm_St_valueNow : CMV y_St_valueNow cX6_valueNow 2 (some .int) 1 := ⟨tb_t 569 (by decide +kernel) (by decide +kernel), tb_t 570 (by decide +kernel) (by decide +kernel), it_St, tb_t 571 (by decide +kernel) (by decide +kernel), ⟨by decide, by decide, by decide +kernel⟩⟩
theorem cm_St_valueOn : CMV y_St_valueOn cX6_valueOn 7 (some .int) 2 := ⟨tb_t 555 (by decide +kernel) (by decide +kernel), tb_t 556 (by decide +kernel) (by decide +kernel), it_St, tb_t 557 (by decide +kernel) (by decide +kernel), ⟨by decide, by decide, by decide +kernel⟩⟩
theorem cm_St_areAlike : CMV y_St_areAlike cX6_areAlike 3 (some .boolean) 2 := ⟨tb_t 582 (by decide +kernel) (by decide +kernel), tb_t 583 (by decide +kernel) (by decide +kernel), it_St, tb_t 584 (by decide +kernel) (by decide +kernel), ⟨by decide, by decide, by decide +kernel⟩⟩
theorem cm_St_merge : CMV y_St_merge cX6_merge 4 (some .int) 2 := ⟨tb_t 586 (by decide +kernel) (by decide +kernel), tb_t 587 (by decide +kernel) (by decide +kernel), it_St, tb_t 588 (by decide +kernel) (by decide +kernel), ⟨by decide, by decide, by decide +kernel⟩⟩
theorem cm_St_cheapest : CMV y_St_cheapest cX6_cheapest 6 (some .int) 2 := ⟨tb_t 676 (by decide +kernel) (by decide +kernel), tb_t 677 (by decide +kernel) (by decide +kernel), it_St, tb_t 678 (by decide +kernel) (by decide +kernel), ⟨by decide, by decide, by decide +kernel⟩⟩
theorem cm_St_holderAhead : CMV y_St_holderAhead cX6_holderAhead 6 (some .int) 1 := ⟨tb_t 800 (by decide +kernel) (by decide +kernel), tb_t 801 (by decide +kernel) (by decide +kernel), it_St, tb_t 802 (by decide +kernel) (by decide +kernel), ⟨by decide, by decide, by decide +kernel⟩⟩
theorem cm_St_rateNow : CMV y_St_rateNow cX6_rateNow 2 (some .int) 1 := ⟨tb_t 764 (by decide +kernel) (by decide +kernel), tb_t 765 (by decide +kernel) (by decide +kernel), it_St, tb_t 766 (by decide +kernel) (by decide +kernel), ⟨by decide, by decide, by decide +kernel⟩⟩
theorem cm_St_setRate : CMV y_St_setRate cX6_setRate 3 none 2 := ⟨tb_t 298 (by decide +kernel) (by decide +kernel), tb_t 299 (by decide +kernel) (by decide +kernel), it_St, tb_t 300 (by decide +kernel) (by decide +kernel), ⟨by decide, by decide, by decide +kernel⟩⟩
theorem cm_St_drift : CMV y_St_drift cX6_drift 4 (some .int) 1 := ⟨tb_t 768 (by decide +kernel) (by decide +kernel), tb_t 769 (by decide +kernel) (by decide +kernel), it_St, tb_t 770 (by decide +kernel) (by decide +kernel), ⟨by decide, by decide, by decide +kernel⟩⟩
theorem cm_Ta_init : CMI y_Ta_init cX7_init 3 2 := ⟨tb_t 41 (by decide +kernel) (by decide +kernel), it_Ta, tb_t 42 (by decide +kernel) (by decide +kernel), rfl, ⟨by decide, by decide, by decide +kernel⟩⟩
theorem cm_Ta_has : CMV y_Ta_has cX7_has 2 (some .boolean) 1 := ⟨tb_t 357 (by decide +kernel) (by decide +kernel), tb_t 358 (by decide +kernel) (by decide +kernel), it_Ta, tb_t 359 (by decide +kernel) (by decide +kernel), ⟨by decide, by decide, by decide +kernel⟩⟩
theorem cm_Ta_isFull : CMV y_Ta_isFull cX7_isFull 1 (some .boolean) 0 := ⟨tb_t 286 (by decide +kernel) (by decide +kernel), tb_t 287 (by decide +kernel) (by decide +kernel), it_Ta, tb_t 288 (by decide +kernel) (by decide +kernel), ⟨by decide, by decide, by decide +kernel⟩⟩
theorem cm_Ta_at : CMV y_Ta_at cX7_at 4 (some .int) 2 := ⟨tb_t 361 (by decide +kernel) (by decide +kernel), tb_t 362 (by decide +kernel) (by decide +kernel), it_Ta, tb_t 363 (by decide +kernel) (by decide +kernel), ⟨by decide, by decide, by decide +kernel⟩⟩
theorem cm_Ta_put : CMV y_Ta_put cX7_put 5 none 3 := ⟨tb_t 290 (by decide +kernel) (by decide +kernel), tb_t 291 (by decide +kernel) (by decide +kernel), it_Ta, tb_t 292 (by decide +kernel) (by decide +kernel), ⟨by decide, by decide, by decide +kernel⟩⟩
theorem cm_Ta_more : CMV y_Ta_more cX7_more 4 none 3 := ⟨tb_t 638 (by decide +kernel) (by decide +kernel), tb_t 639 (by decide +kernel) (by decide +kernel), it_Ta, tb_t 640 (by decide +kernel) (by decide +kernel), ⟨by decide, by decide, by decide +kernel⟩⟩
theorem cm_Ta_fillRow : CMV y_Ta_fillRow cX7_fillRow 4 none 2 := ⟨tb_t 631 (by decide +kernel) (by decide +kernel), tb_t 632 (by decide +kernel) (by decide +kernel), it_Ta, tb_t 633 (by decide +kernel) (by decide +kernel), ⟨by decide, by decide, by decide +kernel⟩⟩
theorem cm_Ta_add : CMV y_Ta_add cX7_add 1 (some .int) 0 := ⟨tb_t 282 (by decide +kernel) (by decide +kernel), tb_t 283 (by decide +kernel) (by decide +kernel), it_Ta, tb_t 284 (by decide +kernel) (by decide +kernel), ⟨by decide, by decide, by decide +kernel⟩⟩
theorem cm_Ta_empty : CMV y_Ta_empty cX7_empty 2 (some .int) 0 := ⟨tb_t 278 (by decide +kernel) (by decide +kernel), tb_t 279 (by decide +kernel) (by decide +kernel), it_Ta, tb_t 280 (by decide +kernel) (by decide +kernel), ⟨by decide, by decide, by decide +kernel⟩⟩
theorem cm_Ta_copyFrom : CMV y_Ta_copyFrom cX7_copyFrom 2 none 1 := ⟨tb_t 540 (by decide +kernel) (by decide +kernel), tb_t 541 (by decide +kernel) (by decide +kernel), it_Ta, tb_t 542 (by decide +kernel) (by decide +kernel), ⟨by decide, by decide, by decide +kernel⟩⟩
theorem cm_Ta_mixedInto : CMV y_Ta_mixedInto cX7_mixedInto 5 (some .long) 1 := ⟨tb_t 867 (by decide +kernel) (by decide +kernel), tb_t 868 (by decide +kernel) (by decide +kernel), it_Ta, tb_t 869 (by decide +kernel) (by decide +kernel), ⟨by decide, by decide, by decide +kernel⟩⟩
theorem cm_Ta_placeOf : CMV y_Ta_placeOf cX7_placeOf 4 (some .int) 2 := ⟨tb_t 295 (by decide +kernel) (by decide +kernel), tb_s 0 (by decide +kernel) (by decide +kernel), it_Ta, tb_t 296 (by decide +kernel) (by decide +kernel), ⟨by decide, by decide, by decide +kernel⟩⟩
theorem cm_Te_init : CMI y_Te_init cX8_init 1 0 := ⟨tb_t 121 (by decide +kernel) (by decide +kernel), it_Te, tb_t 122 (by decide +kernel) (by decide +kernel), rfl, ⟨by decide, by decide, by decide +kernel⟩⟩
theorem cm_Te_add : CMV y_Te_add cX8_add 2 none 1 := ⟨tb_t 406 (by decide +kernel) (by decide +kernel), tb_t 407 (by decide +kernel) (by decide +kernel), it_Te, tb_t 408 (by decide +kernel) (by decide +kernel), ⟨by decide, by decide, by decide +kernel⟩⟩
theorem cm_Te_at : CMV y_Te_at cX8_at 2 (some .int) 1 := ⟨tb_t 426 (by decide +kernel) (by decide +kernel), tb_t 427 (by decide +kernel) (by decide +kernel), it_Te, tb_t 428 (by decide +kernel) (by decide +kernel), ⟨by decide, by decide, by decide +kernel⟩⟩
theorem cm_Fa_init : CMI y_Fa_init cX9_init 2 0 := ⟨tb_t 21 (by decide +kernel) (by decide +kernel), it_Fa, tb_t 22 (by decide +kernel) (by decide +kernel), rfl, ⟨by decide, by decide, by decide +kernel⟩⟩
theorem cm_Fa_people : CMV y_Fa_people cX9_people 3 (some .int) 1 := ⟨tb_t 342 (by decide +kernel) (by decide +kernel), tb_t 343 (by decide +kernel) (by decide +kernel), it_Fa, tb_t 344 (by decide +kernel) (by decide +kernel), ⟨by decide, by decide, by decide +kernel⟩⟩
theorem cm_Fa_strong : CMV y_Fa_strong cX9_strong 4 (some .int) 2 := ⟨tb_t 353 (by decide +kernel) (by decide +kernel), tb_t 354 (by decide +kernel) (by decide +kernel), it_Fa, tb_t 355 (by decide +kernel) (by decide +kernel), ⟨by decide, by decide, by decide +kernel⟩⟩
theorem cm_Fa_favour : CMV y_Fa_favour cX9_favour 8 (some .int) 6 := ⟨tb_t 366 (by decide +kernel) (by decide +kernel), tb_t 367 (by decide +kernel) (by decide +kernel), it_Fa, tb_t 368 (by decide +kernel) (by decide +kernel), ⟨by decide, by decide, by decide +kernel⟩⟩
theorem cm_Fa_need : CMV y_Fa_need cX9_need 5 (some .int) 4 := ⟨tb_t 385 (by decide +kernel) (by decide +kernel), tb_t 386 (by decide +kernel) (by decide +kernel), it_Fa, tb_t 387 (by decide +kernel) (by decide +kernel), ⟨by decide, by decide, by decide +kernel⟩⟩
theorem cm_Fa_contented : CMV y_Fa_contented cX9_contented 1 (some .int) 0 := ⟨tb_t 397 (by decide +kernel) (by decide +kernel), tb_t 398 (by decide +kernel) (by decide +kernel), it_Fa, tb_t 399 (by decide +kernel) (by decide +kernel), ⟨by decide, by decide, by decide +kernel⟩⟩
theorem cm_Fa_type : CMV y_Fa_type cX9_type 5 (some .int) 2 := ⟨tb_t 402 (by decide +kernel) (by decide +kernel), tb_t 403 (by decide +kernel) (by decide +kernel), it_Fa, tb_t 404 (by decide +kernel) (by decide +kernel), ⟨by decide, by decide, by decide +kernel⟩⟩
theorem cm_Fa_clear : CMV y_Fa_clear cX9_clear 2 (some .int) 0 := ⟨tb_t 410 (by decide +kernel) (by decide +kernel), tb_t 411 (by decide +kernel) (by decide +kernel), it_Fa, tb_t 412 (by decide +kernel) (by decide +kernel), ⟨by decide, by decide, by decide +kernel⟩⟩
theorem cm_Fa_read : CMV y_Fa_read cX9_read 2 (some .int) 0 := ⟨tb_t 414 (by decide +kernel) (by decide +kernel), tb_t 415 (by decide +kernel) (by decide +kernel), it_Fa, tb_t 416 (by decide +kernel) (by decide +kernel), ⟨by decide, by decide, by decide +kernel⟩⟩
theorem cm_Fa_value : CMV y_Fa_value cX9_value 3 (some .int) 2 := ⟨tb_t 551 (by decide +kernel) (by decide +kernel), tb_t 552 (by decide +kernel) (by decide +kernel), it_Fa, tb_t 553 (by decide +kernel) (by decide +kernel), ⟨by decide, by decide, by decide +kernel⟩⟩
theorem cm_Fa_of : CMV y_Fa_of cX9_of 2 (some .int) 1 := ⟨tb_t 561 (by decide +kernel) (by decide +kernel), tb_t 562 (by decide +kernel) (by decide +kernel), it_Fa, tb_t 563 (by decide +kernel) (by decide +kernel), ⟨by decide, by decide, by decide +kernel⟩⟩
theorem cm_Fa_pass : CMV y_Fa_pass cX9_pass 4 (some .int) 2 := ⟨tb_t 565 (by decide +kernel) (by decide +kernel), tb_t 566 (by decide +kernel) (by decide +kernel), it_Fa, tb_t 567 (by decide +kernel) (by decide +kernel), ⟨by decide, by decide, by decide +kernel⟩⟩
theorem cm_Fa_join : CMV y_Fa_join cX9_join 3 (some .int) 2 := ⟨tb_t 578 (by decide +kernel) (by decide +kernel), tb_t 579 (by decide +kernel) (by decide +kernel), it_Fa, tb_t 580 (by decide +kernel) (by decide +kernel), ⟨by decide, by decide, by decide +kernel⟩⟩
theorem cm_Fa_ask : CMV y_Fa_ask cX9_ask 5 (some .int) 1 := ⟨tb_t 591 (by decide +kernel) (by decide +kernel), tb_t 592 (by decide +kernel) (by decide +kernel), it_Fa, tb_t 593 (by decide +kernel) (by decide +kernel), ⟨by decide, by decide, by decide +kernel⟩⟩
theorem cm_Fa_night : CMV y_Fa_night cX9_night 1 (some .int) 0 := ⟨tb_t 595 (by decide +kernel) (by decide +kernel), tb_t 596 (by decide +kernel) (by decide +kernel), it_Fa, tb_t 597 (by decide +kernel) (by decide +kernel), ⟨by decide, by decide, by decide +kernel⟩⟩
theorem cm_Fa_undo : CMV y_Fa_undo cX9_undo 1 (some .int) 0 := ⟨tb_t 613 (by decide +kernel) (by decide +kernel), tb_t 614 (by decide +kernel) (by decide +kernel), it_Fa, tb_t 615 (by decide +kernel) (by decide +kernel), ⟨by decide, by decide, by decide +kernel⟩⟩
theorem cm_Fa_owes : CMV y_Fa_owes cX9_owes 3 (some .int) 2 := ⟨tb_t 622 (by decide +kernel) (by decide +kernel), tb_t 623 (by decide +kernel) (by decide +kernel), it_Fa, tb_t 624 (by decide +kernel) (by decide +kernel), ⟨by decide, by decide, by decide +kernel⟩⟩
theorem cm_Fa_ring : CMV y_Fa_ring cX9_ring 2 (some .int) 1 := ⟨tb_t 647 (by decide +kernel) (by decide +kernel), tb_t 648 (by decide +kernel) (by decide +kernel), it_Fa, tb_t 649 (by decide +kernel) (by decide +kernel), ⟨by decide, by decide, by decide +kernel⟩⟩
theorem cm_Fa_cancel : CMV y_Fa_cancel cX9_cancel 5 (some .int) 0 := ⟨tb_t 672 (by decide +kernel) (by decide +kernel), tb_t 673 (by decide +kernel) (by decide +kernel), it_Fa, tb_t 674 (by decide +kernel) (by decide +kernel), ⟨by decide, by decide, by decide +kernel⟩⟩
theorem cm_Fa_net : CMV y_Fa_net cX9_net 2 (some .int) 1 := ⟨tb_t 681 (by decide +kernel) (by decide +kernel), tb_t 682 (by decide +kernel) (by decide +kernel), it_Fa, tb_t 683 (by decide +kernel) (by decide +kernel), ⟨by decide, by decide, by decide +kernel⟩⟩
theorem cm_Fa_fewest : CMV y_Fa_fewest cX9_fewest 1 (some .int) 0 := ⟨tb_t 698 (by decide +kernel) (by decide +kernel), tb_t 699 (by decide +kernel) (by decide +kernel), it_Fa, tb_t 700 (by decide +kernel) (by decide +kernel), ⟨by decide, by decide, by decide +kernel⟩⟩
theorem cm_Fa_met : CMV y_Fa_met cX9_met 2 (some .int) 1 := ⟨tb_t 712 (by decide +kernel) (by decide +kernel), tb_t 713 (by decide +kernel) (by decide +kernel), it_Fa, tb_t 714 (by decide +kernel) (by decide +kernel), ⟨by decide, by decide, by decide +kernel⟩⟩
theorem cm_Fa_plan : CMV y_Fa_plan cX9_plan 2 (some .int) 1 := ⟨tb_t 744 (by decide +kernel) (by decide +kernel), tb_t 745 (by decide +kernel) (by decide +kernel), it_Fa, tb_t 746 (by decide +kernel) (by decide +kernel), ⟨by decide, by decide, by decide +kernel⟩⟩
theorem cm_Fa_fire : CMV y_Fa_fire cX9_fire 3 (some .int) 2 := ⟨tb_t 752 (by decide +kernel) (by decide +kernel), tb_t 753 (by decide +kernel) (by decide +kernel), it_Fa, tb_t 754 (by decide +kernel) (by decide +kernel), ⟨by decide, by decide, by decide +kernel⟩⟩
theorem cm_Fa_rate : CMV y_Fa_rate cX9_rate 3 (some .int) 2 := ⟨tb_t 760 (by decide +kernel) (by decide +kernel), tb_t 761 (by decide +kernel) (by decide +kernel), it_Fa, tb_t 762 (by decide +kernel) (by decide +kernel), ⟨by decide, by decide, by decide +kernel⟩⟩
theorem cm_Fa_set : CMV y_Fa_set cX9_set 4 (some .int) 2 := ⟨tb_t 777 (by decide +kernel) (by decide +kernel), tb_t 778 (by decide +kernel) (by decide +kernel), it_Fa, tb_t 779 (by decide +kernel) (by decide +kernel), ⟨by decide, by decide, by decide +kernel⟩⟩
theorem cm_Fa_settles : CMV y_Fa_settles cX9_settles 4 (some .int) 0 := ⟨tb_t 781 (by decide +kernel) (by decide +kernel), tb_t 782 (by decide +kernel) (by decide +kernel), it_Fa, tb_t 783 (by decide +kernel) (by decide +kernel), ⟨by decide, by decide, by decide +kernel⟩⟩
theorem cm_Fa_told : CMV y_Fa_told cX9_told 4 (some .int) 3 := ⟨tb_t 788 (by decide +kernel) (by decide +kernel), tb_t 789 (by decide +kernel) (by decide +kernel), it_Fa, tb_t 790 (by decide +kernel) (by decide +kernel), ⟨by decide, by decide, by decide +kernel⟩⟩
theorem cm_Fa_forged : CMV y_Fa_forged cX9_forged 2 (some .int) 0 := ⟨tb_t 796 (by decide +kernel) (by decide +kernel), tb_t 797 (by decide +kernel) (by decide +kernel), it_Fa, tb_t 798 (by decide +kernel) (by decide +kernel), ⟨by decide, by decide, by decide +kernel⟩⟩
theorem cm_Fa_forget : CMV y_Fa_forget cX9_forget 1 (some .int) 0 := ⟨tb_t 804 (by decide +kernel) (by decide +kernel), tb_t 805 (by decide +kernel) (by decide +kernel), it_Fa, tb_t 806 (by decide +kernel) (by decide +kernel), ⟨by decide, by decide, by decide +kernel⟩⟩
theorem cm_Fa_goesOff : CMV y_Fa_goesOff cX9_goesOff 4 (some .int) 1 := ⟨tb_t 808 (by decide +kernel) (by decide +kernel), tb_t 809 (by decide +kernel) (by decide +kernel), it_Fa, tb_t 810 (by decide +kernel) (by decide +kernel), ⟨by decide, by decide, by decide +kernel⟩⟩
theorem cm_Fa_kept : CMV y_Fa_kept cX9_kept 7 (some .int) 2 := ⟨tb_t 812 (by decide +kernel) (by decide +kernel), tb_t 813 (by decide +kernel) (by decide +kernel), it_Fa, tb_t 814 (by decide +kernel) (by decide +kernel), ⟨by decide, by decide, by decide +kernel⟩⟩
theorem cm_Fa_part : CMV y_Fa_part cX9_part 2 (some .long) 1 := ⟨tb_t 829 (by decide +kernel) (by decide +kernel), tb_t 830 (by decide +kernel) (by decide +kernel), it_Fa, tb_t 831 (by decide +kernel) (by decide +kernel), ⟨by decide, by decide, by decide +kernel⟩⟩
theorem cm_Fa_image : CMV y_Fa_image cX9_image 2 (some .int) 1 := ⟨tb_t 833 (by decide +kernel) (by decide +kernel), tb_t 834 (by decide +kernel) (by decide +kernel), it_Fa, tb_t 835 (by decide +kernel) (by decide +kernel), ⟨by decide, by decide, by decide +kernel⟩⟩
theorem cm_Fa_from : CMV y_Fa_from cX9_from 2 (some .int) 1 := ⟨tb_t 845 (by decide +kernel) (by decide +kernel), tb_t 846 (by decide +kernel) (by decide +kernel), it_Fa, tb_t 847 (by decide +kernel) (by decide +kernel), ⟨by decide, by decide, by decide +kernel⟩⟩
theorem cm_Fa_status : CMV y_Fa_status cX9_status 2 (some .int) 1 := ⟨tb_t 849 (by decide +kernel) (by decide +kernel), tb_t 850 (by decide +kernel) (by decide +kernel), it_Fa, tb_t 851 (by decide +kernel) (by decide +kernel), ⟨by decide, by decide, by decide +kernel⟩⟩
theorem cm_Fa_count : CMV y_Fa_count cX9_count 2 (some .int) 1 := ⟨tb_t 853 (by decide +kernel) (by decide +kernel), tb_t 854 (by decide +kernel) (by decide +kernel), it_Fa, tb_t 855 (by decide +kernel) (by decide +kernel), ⟨by decide, by decide, by decide +kernel⟩⟩
theorem cm_Fa_digest : CMV y_Fa_digest cX9_digest 4 (some .long) 0 := ⟨tb_t 861 (by decide +kernel) (by decide +kernel), tb_t 862 (by decide +kernel) (by decide +kernel), it_Fa, tb_t 863 (by decide +kernel) (by decide +kernel), ⟨by decide, by decide, by decide +kernel⟩⟩
theorem cm_Fa_howMany : CMV y_Fa_howMany cX9_howMany 2 (some .int) 1 := ⟨tb_t 858 (by decide +kernel) (by decide +kernel), tb_s 28 (by decide +kernel) (by decide +kernel), it_Fa, tb_t 859 (by decide +kernel) (by decide +kernel), ⟨by decide, by decide, by decide +kernel⟩⟩
theorem cm_Fa_imageAt : CMV y_Fa_imageAt cX9_imageAt 2 (some (.object "FavoursGoOff$History")) 1 := ⟨tb_t 838 (by decide +kernel) (by decide +kernel), tb_s 27 (by decide +kernel) (by decide +kernel), it_Fa, tb_t 839 (by decide +kernel) (by decide +kernel), ⟨by decide, by decide, by decide +kernel⟩⟩
theorem cm_Fa_findRing : CMV y_Fa_findRing cX9_findRing 1 none 0 := ⟨tb_t 652 (by decide +kernel) (by decide +kernel), tb_s 18 (by decide +kernel) (by decide +kernel), it_Fa, tb_t 653 (by decide +kernel) (by decide +kernel), ⟨by decide, by decide, by decide +kernel⟩⟩
theorem cm_Fa_bad : CMV y_Fa_bad cX9_bad 2 (some .int) 1 := ⟨tb_t 350 (by decide +kernel) (by decide +kernel), tb_s 1 (by decide +kernel) (by decide +kernel), it_Fa, tb_t 351 (by decide +kernel) (by decide +kernel), ⟨by decide, by decide, by decide +kernel⟩⟩
theorem cm_Fa_no : CMV y_Fa_no cX9_no 2 (some .int) 1 := ⟨tb_t 575 (by decide +kernel) (by decide +kernel), tb_s 17 (by decide +kernel) (by decide +kernel), it_Fa, tb_t 576 (by decide +kernel) (by decide +kernel), ⟨by decide, by decide, by decide +kernel⟩⟩
theorem cm_Fa_full : CMV y_Fa_full cX9_full 1 (some .int) 0 := ⟨tb_t 378 (by decide +kernel) (by decide +kernel), tb_s 2 (by decide +kernel) (by decide +kernel), it_Fa, tb_t 379 (by decide +kernel) (by decide +kernel), ⟨by decide, by decide, by decide +kernel⟩⟩
theorem cm_Fa_isDayToCome : CMV y_Fa_isDayToCome cX9_isDayToCome 2 (some .boolean) 1 := ⟨tb_t 390 (by decide +kernel) (by decide +kernel), tb_s 3 (by decide +kernel) (by decide +kernel), it_Fa, tb_t 391 (by decide +kernel) (by decide +kernel), ⟨by decide, by decide, by decide +kernel⟩⟩
theorem cm_Fa_isDay : CMS y_Fa_isDay cX9_isDay 1 (some .boolean) 1 := ⟨tb_t 373 (by decide +kernel) (by decide +kernel), it_Fa, tb_t 374 (by decide +kernel) (by decide +kernel), ⟨by decide, by decide, by decide +kernel⟩⟩
theorem cm_Fa_isThing : CMS y_Fa_isThing cX9_isThing 1 (some .boolean) 1 := ⟨tb_t 370 (by decide +kernel) (by decide +kernel), it_Fa, tb_t 371 (by decide +kernel) (by decide +kernel), ⟨by decide, by decide, by decide +kernel⟩⟩
theorem cm_Fa_isWithin : CMS y_Fa_isWithin cX9_isWithin 3 (some .boolean) 3 := ⟨tb_t 346 (by decide +kernel) (by decide +kernel), it_Fa, tb_t 347 (by decide +kernel) (by decide +kernel), ⟨by decide, by decide, by decide +kernel⟩⟩
theorem cm_Fa_heldRate : CMS y_Fa_heldRate cX9_heldRate 1 (some .int) 1 := ⟨tb_t 772 (by decide +kernel) (by decide +kernel), it_Fa, tb_t 773 (by decide +kernel) (by decide +kernel), ⟨by decide, by decide, by decide +kernel⟩⟩
theorem cm_Fa_lastChange : CMS y_Fa_lastChange cX9_lastChange 3 (some .int) 2 := ⟨tb_t 785 (by decide +kernel) (by decide +kernel), it_Fa, tb_t 786 (by decide +kernel) (by decide +kernel), ⟨by decide, by decide, by decide +kernel⟩⟩
theorem cm_Fa_power : CMS y_Fa_power cX9_power 5 (some .long) 2 := ⟨tb_t 819 (by decide +kernel) (by decide +kernel), it_Fa, tb_t 820 (by decide +kernel) (by decide +kernel), ⟨by decide, by decide, by decide +kernel⟩⟩
theorem cm_Fa_choices : CMS y_Fa_choices cX9_choices 5 (some .long) 2 := ⟨tb_t 816 (by decide +kernel) (by decide +kernel), it_Fa, tb_t 817 (by decide +kernel) (by decide +kernel), ⟨by decide, by decide, by decide +kernel⟩⟩
theorem cm_Mo_init : CMI y_Mo_init cX10_init 2 0 := ⟨tb_t 874 (by decide +kernel) (by decide +kernel), it_Mo, tb_t 875 (by decide +kernel) (by decide +kernel), rfl, ⟨by decide, by decide, by decide +kernel⟩⟩
theorem cm_Mo_in : CMS y_Mo_in cX10_in 6 (some .boolean) 3 := ⟨tb_t 961 (by decide +kernel) (by decide +kernel), it_Mo, tb_t 962 (by decide +kernel) (by decide +kernel), ⟨by decide, by decide, by decide +kernel⟩⟩
theorem cm_Mo_bad : CMV y_Mo_bad cX10_bad 2 (some .int) 1 := ⟨tb_t 965 (by decide +kernel) (by decide +kernel), tb_s 29 (by decide +kernel) (by decide +kernel), it_Mo, tb_t 966 (by decide +kernel) (by decide +kernel), ⟨by decide, by decide, by decide +kernel⟩⟩
theorem cm_Mo_no : CMV y_Mo_no cX10_no 2 (some .int) 1 := ⟨tb_t 1048 (by decide +kernel) (by decide +kernel), tb_s 38 (by decide +kernel) (by decide +kernel), it_Mo, tb_t 1049 (by decide +kernel) (by decide +kernel), ⟨by decide, by decide, by decide +kernel⟩⟩
theorem cm_Mo_full : CMV y_Mo_full cX10_full 1 (some .int) 0 := ⟨tb_t 995 (by decide +kernel) (by decide +kernel), tb_s 32 (by decide +kernel) (by decide +kernel), it_Mo, tb_t 996 (by decide +kernel) (by decide +kernel), ⟨by decide, by decide, by decide +kernel⟩⟩
theorem cm_Mo_tells : CMV y_Mo_tells cX10_tells 11 (some .int) 2 := ⟨tb_t 1193 (by decide +kernel) (by decide +kernel), tb_s 53 (by decide +kernel) (by decide +kernel), it_Mo, tb_t 1194 (by decide +kernel) (by decide +kernel), ⟨by decide, by decide, by decide +kernel⟩⟩
theorem cm_Mo_begin : CMS y_Mo_begin cX10_begin 3 none 2 := ⟨tb_t 878 (by decide +kernel) (by decide +kernel), it_Mo, tb_t 879 (by decide +kernel) (by decide +kernel), ⟨by decide, by decide, by decide +kernel⟩⟩
theorem cm_Mo_day : CMV y_Mo_day cX10_day 1 (some .int) 0 := ⟨tb_t 999 (by decide +kernel) (by decide +kernel), tb_s 33 (by decide +kernel) (by decide +kernel), it_Mo, tb_t 1000 (by decide +kernel) (by decide +kernel), ⟨by decide, by decide, by decide +kernel⟩⟩
theorem cm_Mo_many : CMV y_Mo_many cX10_many 1 (some .int) 0 := ⟨tb_t 969 (by decide +kernel) (by decide +kernel), tb_s 30 (by decide +kernel) (by decide +kernel), it_Mo, tb_t 970 (by decide +kernel) (by decide +kernel), ⟨by decide, by decide, by decide +kernel⟩⟩
theorem cm_Mo_isOne : CMV y_Mo_isOne cX10_isOne 2 (some .boolean) 1 := ⟨tb_t 977 (by decide +kernel) (by decide +kernel), tb_s 31 (by decide +kernel) (by decide +kernel), it_Mo, tb_t 978 (by decide +kernel) (by decide +kernel), ⟨by decide, by decide, by decide +kernel⟩⟩
theorem cm_Mo_isDay : CMS y_Mo_isDay cX10_isDay 1 (some .boolean) 1 := ⟨tb_t 991 (by decide +kernel) (by decide +kernel), it_Mo, tb_t 992 (by decide +kernel) (by decide +kernel), ⟨by decide, by decide, by decide +kernel⟩⟩
theorem cm_Mo_isThing : CMS y_Mo_isThing cX10_isThing 1 (some .boolean) 1 := ⟨tb_t 986 (by decide +kernel) (by decide +kernel), it_Mo, tb_t 987 (by decide +kernel) (by decide +kernel), ⟨by decide, by decide, by decide +kernel⟩⟩
theorem cm_Mo_isFavour : CMV y_Mo_isFavour cX10_isFavour 2 (some .boolean) 1 := ⟨tb_t 1021 (by decide +kernel) (by decide +kernel), tb_s 34 (by decide +kernel) (by decide +kernel), it_Mo, tb_t 1022 (by decide +kernel) (by decide +kernel), ⟨by decide, by decide, by decide +kernel⟩⟩
theorem cm_Mo_told0 : CMV y_Mo_told0 cX10_told0 3 (some .int) 2 := ⟨tb_t 1029 (by decide +kernel) (by decide +kernel), tb_s 36 (by decide +kernel) (by decide +kernel), it_Mo, tb_t 1030 (by decide +kernel) (by decide +kernel), ⟨by decide, by decide, by decide +kernel⟩⟩
theorem cm_Mo_people : CMV y_Mo_people cX10_people 3 (some .int) 1 := ⟨tb_t 955 (by decide +kernel) (by decide +kernel), tb_t 956 (by decide +kernel) (by decide +kernel), it_Mo, tb_t 957 (by decide +kernel) (by decide +kernel), ⟨by decide, by decide, by decide +kernel⟩⟩
theorem cm_Mo_strong : CMV y_Mo_strong cX10_strong 4 (some .int) 2 := ⟨tb_t 972 (by decide +kernel) (by decide +kernel), tb_t 973 (by decide +kernel) (by decide +kernel), it_Mo, tb_t 974 (by decide +kernel) (by decide +kernel), ⟨by decide, by decide, by decide +kernel⟩⟩
theorem cm_Mo_layFavour : CMS y_Mo_layFavour cX10_layFavour 10 none 9 := ⟨tb_t 1002 (by decide +kernel) (by decide +kernel), it_Mo, tb_t 1003 (by decide +kernel) (by decide +kernel), ⟨by decide, by decide, by decide +kernel⟩⟩
theorem cm_Mo_favour : CMV y_Mo_favour cX10_favour 8 (some .int) 6 := ⟨tb_t 981 (by decide +kernel) (by decide +kernel), tb_t 982 (by decide +kernel) (by decide +kernel), it_Mo, tb_t 983 (by decide +kernel) (by decide +kernel), ⟨by decide, by decide, by decide +kernel⟩⟩
theorem cm_Mo_layNeed : CMS y_Mo_layNeed cX10_layNeed 6 none 6 := ⟨tb_t 1009 (by decide +kernel) (by decide +kernel), it_Mo, tb_t 1010 (by decide +kernel) (by decide +kernel), ⟨by decide, by decide, by decide +kernel⟩⟩
theorem cm_Mo_need : CMV y_Mo_need cX10_need 6 (some .int) 4 := ⟨tb_t 1005 (by decide +kernel) (by decide +kernel), tb_t 1006 (by decide +kernel) (by decide +kernel), it_Mo, tb_t 1007 (by decide +kernel) (by decide +kernel), ⟨by decide, by decide, by decide +kernel⟩⟩
theorem cm_Mo_contented : CMV y_Mo_contented cX10_contented 2 (some .int) 0 := ⟨tb_t 1012 (by decide +kernel) (by decide +kernel), tb_t 1013 (by decide +kernel) (by decide +kernel), it_Mo, tb_t 1014 (by decide +kernel) (by decide +kernel), ⟨by decide, by decide, by decide +kernel⟩⟩
theorem cm_Mo_notBelow0 : CMS y_Mo_notBelow0 cX10_notBelow0 1 (some .int) 1 := ⟨tb_t 1032 (by decide +kernel) (by decide +kernel), it_Mo, tb_t 1033 (by decide +kernel) (by decide +kernel), ⟨by decide, by decide, by decide +kernel⟩⟩
theorem cm_Mo_valueOf : CMV y_Mo_valueOf cX10_valueOf 7 (some .int) 2 := ⟨tb_t 1025 (by decide +kernel) (by decide +kernel), tb_s 35 (by decide +kernel) (by decide +kernel), it_Mo, tb_t 1026 (by decide +kernel) (by decide +kernel), ⟨by decide, by decide, by decide +kernel⟩⟩
theorem cm_Mo_valueNow : CMV y_Mo_valueNow cX10_valueNow 2 (some .int) 1 := ⟨tb_t 1044 (by decide +kernel) (by decide +kernel), tb_s 37 (by decide +kernel) (by decide +kernel), it_Mo, tb_t 1045 (by decide +kernel) (by decide +kernel), ⟨by decide, by decide, by decide +kernel⟩⟩
theorem cm_Mo_value : CMV y_Mo_value cX10_value 3 (some .int) 2 := ⟨tb_t 1016 (by decide +kernel) (by decide +kernel), tb_t 1017 (by decide +kernel) (by decide +kernel), it_Mo, tb_t 1018 (by decide +kernel) (by decide +kernel), ⟨by decide, by decide, by decide +kernel⟩⟩
theorem cm_Mo_of : CMV y_Mo_of cX10_of 2 (some .int) 1 := ⟨tb_t 1035 (by decide +kernel) (by decide +kernel), tb_t 1036 (by decide +kernel) (by decide +kernel), it_Mo, tb_t 1037 (by decide +kernel) (by decide +kernel), ⟨by decide, by decide, by decide +kernel⟩⟩
theorem cm_Mo_lose : CMV y_Mo_lose cX10_lose 2 none 1 := ⟨tb_t 1052 (by decide +kernel) (by decide +kernel), tb_s 39 (by decide +kernel) (by decide +kernel), it_Mo, tb_t 1053 (by decide +kernel) (by decide +kernel), ⟨by decide, by decide, by decide +kernel⟩⟩
theorem cm_Mo_pass : CMV y_Mo_pass cX10_pass 3 (some .int) 2 := ⟨tb_t 1039 (by decide +kernel) (by decide +kernel), tb_t 1040 (by decide +kernel) (by decide +kernel), it_Mo, tb_t 1041 (by decide +kernel) (by decide +kernel), ⟨by decide, by decide, by decide +kernel⟩⟩
theorem cm_Mo_join : CMV y_Mo_join cX10_join 6 (some .int) 2 := ⟨tb_t 1055 (by decide +kernel) (by decide +kernel), tb_t 1056 (by decide +kernel) (by decide +kernel), it_Mo, tb_t 1057 (by decide +kernel) (by decide +kernel), ⟨by decide, by decide, by decide +kernel⟩⟩
theorem cm_Mo_ask : CMV y_Mo_ask cX10_ask 4 (some .int) 1 := ⟨tb_t 1059 (by decide +kernel) (by decide +kernel), tb_t 1060 (by decide +kernel) (by decide +kernel), it_Mo, tb_t 1061 (by decide +kernel) (by decide +kernel), ⟨by decide, by decide, by decide +kernel⟩⟩
theorem cm_Mo_night : CMV y_Mo_night cX10_night 2 (some .int) 0 := ⟨tb_t 1063 (by decide +kernel) (by decide +kernel), tb_t 1064 (by decide +kernel) (by decide +kernel), it_Mo, tb_t 1065 (by decide +kernel) (by decide +kernel), ⟨by decide, by decide, by decide +kernel⟩⟩
theorem cm_Mo_undo : CMV y_Mo_undo cX10_undo 2 (some .int) 0 := ⟨tb_t 1067 (by decide +kernel) (by decide +kernel), tb_t 1068 (by decide +kernel) (by decide +kernel), it_Mo, tb_t 1069 (by decide +kernel) (by decide +kernel), ⟨by decide, by decide, by decide +kernel⟩⟩
theorem cm_Mo_owesTo : CMV y_Mo_owesTo cX10_owesTo 5 (some .int) 2 := ⟨tb_t 1076 (by decide +kernel) (by decide +kernel), tb_s 40 (by decide +kernel) (by decide +kernel), it_Mo, tb_t 1077 (by decide +kernel) (by decide +kernel), ⟨by decide, by decide, by decide +kernel⟩⟩
theorem cm_Mo_owes : CMV y_Mo_owes cX10_owes 3 (some .int) 2 := ⟨tb_t 1071 (by decide +kernel) (by decide +kernel), tb_t 1072 (by decide +kernel) (by decide +kernel), it_Mo, tb_t 1073 (by decide +kernel) (by decide +kernel), ⟨by decide, by decide, by decide +kernel⟩⟩
theorem cm_Mo_layRing : CMV y_Mo_layRing cX10_layRing 7 (some .boolean) 2 := ⟨tb_t 1088 (by decide +kernel) (by decide +kernel), tb_s 42 (by decide +kernel) (by decide +kernel), it_Mo, tb_t 1089 (by decide +kernel) (by decide +kernel), ⟨by decide, by decide, by decide +kernel⟩⟩
theorem cm_Mo_findRing : CMV y_Mo_findRing cX10_findRing 4 none 0 := ⟨tb_t 1084 (by decide +kernel) (by decide +kernel), tb_s 41 (by decide +kernel) (by decide +kernel), it_Mo, tb_t 1085 (by decide +kernel) (by decide +kernel), ⟨by decide, by decide, by decide +kernel⟩⟩
theorem cm_Mo_ring : CMV y_Mo_ring cX10_ring 2 (some .int) 1 := ⟨tb_t 1079 (by decide +kernel) (by decide +kernel), tb_t 1080 (by decide +kernel) (by decide +kernel), it_Mo, tb_t 1081 (by decide +kernel) (by decide +kernel), ⟨by decide, by decide, by decide +kernel⟩⟩
theorem cm_Mo_leastOf : CMV y_Mo_leastOf cX10_leastOf 6 (some .int) 2 := ⟨tb_t 1096 (by decide +kernel) (by decide +kernel), tb_s 43 (by decide +kernel) (by decide +kernel), it_Mo, tb_t 1097 (by decide +kernel) (by decide +kernel), ⟨by decide, by decide, by decide +kernel⟩⟩
theorem cm_Mo_cancel : CMV y_Mo_cancel cX10_cancel 2 (some .int) 0 := ⟨tb_t 1091 (by decide +kernel) (by decide +kernel), tb_t 1092 (by decide +kernel) (by decide +kernel), it_Mo, tb_t 1093 (by decide +kernel) (by decide +kernel), ⟨by decide, by decide, by decide +kernel⟩⟩
theorem cm_Mo_netOf : CMV y_Mo_netOf cX10_netOf 4 (some .int) 1 := ⟨tb_t 1104 (by decide +kernel) (by decide +kernel), tb_s 44 (by decide +kernel) (by decide +kernel), it_Mo, tb_t 1105 (by decide +kernel) (by decide +kernel), ⟨by decide, by decide, by decide +kernel⟩⟩
theorem cm_Mo_net : CMV y_Mo_net cX10_net 2 (some .int) 1 := ⟨tb_t 1099 (by decide +kernel) (by decide +kernel), tb_t 1100 (by decide +kernel) (by decide +kernel), it_Mo, tb_t 1101 (by decide +kernel) (by decide +kernel), ⟨by decide, by decide, by decide +kernel⟩⟩
theorem cm_Mo_fewest : CMV y_Mo_fewest cX10_fewest 6 (some .int) 0 := ⟨tb_t 1107 (by decide +kernel) (by decide +kernel), tb_t 1108 (by decide +kernel) (by decide +kernel), it_Mo, tb_t 1109 (by decide +kernel) (by decide +kernel), ⟨by decide, by decide, by decide +kernel⟩⟩
theorem cm_Mo_need0 : CMV y_Mo_need0 cX10_need0 3 (some .int) 2 := ⟨tb_t 1128 (by decide +kernel) (by decide +kernel), tb_s 48 (by decide +kernel) (by decide +kernel), it_Mo, tb_t 1129 (by decide +kernel) (by decide +kernel), ⟨by decide, by decide, by decide +kernel⟩⟩
theorem cm_Mo_mayMeet : CMV y_Mo_mayMeet cX10_mayMeet 4 (some .boolean) 2 := ⟨tb_t 1124 (by decide +kernel) (by decide +kernel), tb_s 47 (by decide +kernel) (by decide +kernel), it_Mo, tb_t 1125 (by decide +kernel) (by decide +kernel), ⟨by decide, by decide, by decide +kernel⟩⟩
theorem cm_Mo_fits : CMV y_Mo_fits cX10_fits 7 (some .boolean) 1 := ⟨tb_t 1120 (by decide +kernel) (by decide +kernel), tb_s 46 (by decide +kernel) (by decide +kernel), it_Mo, tb_t 1121 (by decide +kernel) (by decide +kernel), ⟨by decide, by decide, by decide +kernel⟩⟩
theorem cm_Mo_look : CMV y_Mo_look cX10_look 4 none 0 := ⟨tb_t 1132 (by decide +kernel) (by decide +kernel), tb_s 49 (by decide +kernel) (by decide +kernel), it_Mo, tb_t 1133 (by decide +kernel) (by decide +kernel), ⟨by decide, by decide, by decide +kernel⟩⟩
theorem cm_Mo_findMet : CMV y_Mo_findMet cX10_findMet 3 none 0 := ⟨tb_t 1116 (by decide +kernel) (by decide +kernel), tb_s 45 (by decide +kernel) (by decide +kernel), it_Mo, tb_t 1117 (by decide +kernel) (by decide +kernel), ⟨by decide, by decide, by decide +kernel⟩⟩
theorem cm_Mo_met : CMV y_Mo_met cX10_met 2 (some .int) 1 := ⟨tb_t 1111 (by decide +kernel) (by decide +kernel), tb_t 1112 (by decide +kernel) (by decide +kernel), it_Mo, tb_t 1113 (by decide +kernel) (by decide +kernel), ⟨by decide, by decide, by decide +kernel⟩⟩
theorem cm_Mo_plan : CMV y_Mo_plan cX10_plan 2 (some .int) 1 := ⟨tb_t 1135 (by decide +kernel) (by decide +kernel), tb_t 1136 (by decide +kernel) (by decide +kernel), it_Mo, tb_t 1137 (by decide +kernel) (by decide +kernel), ⟨by decide, by decide, by decide +kernel⟩⟩
theorem cm_Mo_toDo : CMV y_Mo_toDo cX10_toDo 5 (some .int) 2 := ⟨tb_t 1144 (by decide +kernel) (by decide +kernel), tb_s 50 (by decide +kernel) (by decide +kernel), it_Mo, tb_t 1145 (by decide +kernel) (by decide +kernel), ⟨by decide, by decide, by decide +kernel⟩⟩
theorem cm_Mo_doneFor : CMV y_Mo_doneFor cX10_doneFor 6 (some .int) 3 := ⟨tb_t 1148 (by decide +kernel) (by decide +kernel), tb_s 51 (by decide +kernel) (by decide +kernel), it_Mo, tb_t 1149 (by decide +kernel) (by decide +kernel), ⟨by decide, by decide, by decide +kernel⟩⟩
theorem cm_Mo_fire : CMV y_Mo_fire cX10_fire 8 (some .int) 2 := ⟨tb_t 1139 (by decide +kernel) (by decide +kernel), tb_t 1140 (by decide +kernel) (by decide +kernel), it_Mo, tb_t 1141 (by decide +kernel) (by decide +kernel), ⟨by decide, by decide, by decide +kernel⟩⟩
theorem cm_Mo_ratesBy : CMV y_Mo_ratesBy cX10_ratesBy 4 (some .int) 1 := ⟨tb_t 1156 (by decide +kernel) (by decide +kernel), tb_s 52 (by decide +kernel) (by decide +kernel), it_Mo, tb_t 1157 (by decide +kernel) (by decide +kernel), ⟨by decide, by decide, by decide +kernel⟩⟩
theorem cm_Mo_hold : CMS y_Mo_hold cX10_hold 1 (some .int) 1 := ⟨tb_t 1159 (by decide +kernel) (by decide +kernel), it_Mo, tb_t 1160 (by decide +kernel) (by decide +kernel), ⟨by decide, by decide, by decide +kernel⟩⟩
theorem cm_Mo_rate : CMV y_Mo_rate cX10_rate 6 (some .int) 2 := ⟨tb_t 1151 (by decide +kernel) (by decide +kernel), tb_t 1152 (by decide +kernel) (by decide +kernel), it_Mo, tb_t 1153 (by decide +kernel) (by decide +kernel), ⟨by decide, by decide, by decide +kernel⟩⟩
theorem cm_Mo_set : CMV y_Mo_set cX10_set 4 (some .int) 2 := ⟨tb_t 1162 (by decide +kernel) (by decide +kernel), tb_t 1163 (by decide +kernel) (by decide +kernel), it_Mo, tb_t 1164 (by decide +kernel) (by decide +kernel), ⟨by decide, by decide, by decide +kernel⟩⟩
theorem cm_Mo_settles : CMV y_Mo_settles cX10_settles 5 (some .int) 0 := ⟨tb_t 1166 (by decide +kernel) (by decide +kernel), tb_t 1167 (by decide +kernel) (by decide +kernel), it_Mo, tb_t 1168 (by decide +kernel) (by decide +kernel), ⟨by decide, by decide, by decide +kernel⟩⟩
theorem cm_Mo_told : CMV y_Mo_told cX10_told 5 (some .int) 3 := ⟨tb_t 1170 (by decide +kernel) (by decide +kernel), tb_t 1171 (by decide +kernel) (by decide +kernel), it_Mo, tb_t 1172 (by decide +kernel) (by decide +kernel), ⟨by decide, by decide, by decide +kernel⟩⟩
theorem cm_Mo_forged : CMV y_Mo_forged cX10_forged 4 (some .int) 0 := ⟨tb_t 1174 (by decide +kernel) (by decide +kernel), tb_t 1175 (by decide +kernel) (by decide +kernel), it_Mo, tb_t 1176 (by decide +kernel) (by decide +kernel), ⟨by decide, by decide, by decide +kernel⟩⟩
theorem cm_Mo_forget : CMV y_Mo_forget cX10_forget 2 (some .int) 0 := ⟨tb_t 1178 (by decide +kernel) (by decide +kernel), tb_t 1179 (by decide +kernel) (by decide +kernel), it_Mo, tb_t 1180 (by decide +kernel) (by decide +kernel), ⟨by decide, by decide, by decide +kernel⟩⟩
theorem cm_Mo_goesOff : CMV y_Mo_goesOff cX10_goesOff 4 (some .int) 1 := ⟨tb_t 1182 (by decide +kernel) (by decide +kernel), tb_t 1183 (by decide +kernel) (by decide +kernel), it_Mo, tb_t 1184 (by decide +kernel) (by decide +kernel), ⟨by decide, by decide, by decide +kernel⟩⟩
theorem cm_Mo_kept : CMV y_Mo_kept cX10_kept 13 (some .int) 2 := ⟨tb_t 1186 (by decide +kernel) (by decide +kernel), tb_t 1187 (by decide +kernel) (by decide +kernel), it_Mo, tb_t 1188 (by decide +kernel) (by decide +kernel), ⟨by decide, by decide, by decide +kernel⟩⟩
theorem cm_Mo_type : CMV y_Mo_type cX10_type 5 (some .int) 2 := ⟨tb_t 1196 (by decide +kernel) (by decide +kernel), tb_t 1197 (by decide +kernel) (by decide +kernel), it_Mo, tb_t 1198 (by decide +kernel) (by decide +kernel), ⟨by decide, by decide, by decide +kernel⟩⟩
theorem cm_Mo_clear : CMV y_Mo_clear cX10_clear 2 (some .int) 0 := ⟨tb_t 1202 (by decide +kernel) (by decide +kernel), tb_t 1203 (by decide +kernel) (by decide +kernel), it_Mo, tb_t 1204 (by decide +kernel) (by decide +kernel), ⟨by decide, by decide, by decide +kernel⟩⟩
theorem cm_Mo_isSmall : CMS y_Mo_isSmall cX10_isSmall 1 (some .boolean) 1 := ⟨tb_t 1214 (by decide +kernel) (by decide +kernel), it_Mo, tb_t 1215 (by decide +kernel) (by decide +kernel), ⟨by decide, by decide, by decide +kernel⟩⟩
theorem cm_Mo_isFigure : CMS y_Mo_isFigure cX10_isFigure 1 (some .boolean) 1 := ⟨tb_t 1219 (by decide +kernel) (by decide +kernel), it_Mo, tb_t 1220 (by decide +kernel) (by decide +kernel), ⟨by decide, by decide, by decide +kernel⟩⟩
theorem cm_Mo_lookAt : CMV y_Mo_lookAt cX10_lookAt 5 none 1 := ⟨tb_t 1211 (by decide +kernel) (by decide +kernel), tb_s 54 (by decide +kernel) (by decide +kernel), it_Mo, tb_t 1212 (by decide +kernel) (by decide +kernel), ⟨by decide, by decide, by decide +kernel⟩⟩
theorem cm_Mo_goOn : CMV y_Mo_goOn cX10_goOn 1 none 0 := ⟨tb_t 1233 (by decide +kernel) (by decide +kernel), tb_s 57 (by decide +kernel) (by decide +kernel), it_Mo, tb_t 1234 (by decide +kernel) (by decide +kernel), ⟨by decide, by decide, by decide +kernel⟩⟩
theorem cm_Mo_isWord : CMV y_Mo_isWord cX10_isWord 10 (some .boolean) 6 := ⟨tb_t 1229 (by decide +kernel) (by decide +kernel), tb_s 56 (by decide +kernel) (by decide +kernel), it_Mo, tb_t 1230 (by decide +kernel) (by decide +kernel), ⟨by decide, by decide, by decide +kernel⟩⟩
theorem cm_Mo_takes : CMV y_Mo_takes cX10_takes 4 (some .boolean) 3 := ⟨tb_t 1237 (by decide +kernel) (by decide +kernel), tb_s 58 (by decide +kernel) (by decide +kernel), it_Mo, tb_t 1238 (by decide +kernel) (by decide +kernel), ⟨by decide, by decide, by decide +kernel⟩⟩
theorem cm_Mo_readsStrong : CMV y_Mo_readsStrong cX10_readsStrong 1 (some .boolean) 0 := ⟨tb_t 1241 (by decide +kernel) (by decide +kernel), tb_s 59 (by decide +kernel) (by decide +kernel), it_Mo, tb_t 1242 (by decide +kernel) (by decide +kernel), ⟨by decide, by decide, by decide +kernel⟩⟩
theorem cm_Mo_readsFavour : CMV y_Mo_readsFavour cX10_readsFavour 2 (some .boolean) 0 := ⟨tb_t 1245 (by decide +kernel) (by decide +kernel), tb_s 60 (by decide +kernel) (by decide +kernel), it_Mo, tb_t 1246 (by decide +kernel) (by decide +kernel), ⟨by decide, by decide, by decide +kernel⟩⟩
theorem cm_Mo_readsNeed : CMV y_Mo_readsNeed cX10_readsNeed 2 (some .boolean) 0 := ⟨tb_t 1249 (by decide +kernel) (by decide +kernel), tb_s 61 (by decide +kernel) (by decide +kernel), it_Mo, tb_t 1250 (by decide +kernel) (by decide +kernel), ⟨by decide, by decide, by decide +kernel⟩⟩
theorem cm_Mo_readsItem : CMV y_Mo_readsItem cX10_readsItem 3 (some .boolean) 1 := ⟨tb_t 1225 (by decide +kernel) (by decide +kernel), tb_s 55 (by decide +kernel) (by decide +kernel), it_Mo, tb_t 1226 (by decide +kernel) (by decide +kernel), ⟨by decide, by decide, by decide +kernel⟩⟩
theorem cm_Mo_read : CMV y_Mo_read cX10_read 3 (some .int) 0 := ⟨tb_t 1206 (by decide +kernel) (by decide +kernel), tb_t 1207 (by decide +kernel) (by decide +kernel), it_Mo, tb_t 1208 (by decide +kernel) (by decide +kernel), ⟨by decide, by decide, by decide +kernel⟩⟩
theorem cm_Mo_part : CMV y_Mo_part cX10_part 2 (some .long) 1 := ⟨tb_t 1254 (by decide +kernel) (by decide +kernel), tb_t 1255 (by decide +kernel) (by decide +kernel), it_Mo, tb_t 1256 (by decide +kernel) (by decide +kernel), ⟨by decide, by decide, by decide +kernel⟩⟩
theorem cm_Mo_image : CMV y_Mo_image cX10_image 3 (some .int) 1 := ⟨tb_t 1258 (by decide +kernel) (by decide +kernel), tb_t 1259 (by decide +kernel) (by decide +kernel), it_Mo, tb_t 1260 (by decide +kernel) (by decide +kernel), ⟨by decide, by decide, by decide +kernel⟩⟩
theorem cm_Mo_from : CMV y_Mo_from cX10_from 3 (some .int) 1 := ⟨tb_t 1262 (by decide +kernel) (by decide +kernel), tb_t 1263 (by decide +kernel) (by decide +kernel), it_Mo, tb_t 1264 (by decide +kernel) (by decide +kernel), ⟨by decide, by decide, by decide +kernel⟩⟩
theorem cm_Mo_status : CMV y_Mo_status cX10_status 2 (some .int) 1 := ⟨tb_t 1266 (by decide +kernel) (by decide +kernel), tb_t 1267 (by decide +kernel) (by decide +kernel), it_Mo, tb_t 1268 (by decide +kernel) (by decide +kernel), ⟨by decide, by decide, by decide +kernel⟩⟩
theorem cm_Mo_counted : CMV y_Mo_counted cX10_counted 2 (some .int) 1 := ⟨tb_t 1275 (by decide +kernel) (by decide +kernel), tb_s 62 (by decide +kernel) (by decide +kernel), it_Mo, tb_t 1276 (by decide +kernel) (by decide +kernel), ⟨by decide, by decide, by decide +kernel⟩⟩
theorem cm_Mo_count : CMV y_Mo_count cX10_count 2 (some .int) 1 := ⟨tb_t 1270 (by decide +kernel) (by decide +kernel), tb_t 1271 (by decide +kernel) (by decide +kernel), it_Mo, tb_t 1272 (by decide +kernel) (by decide +kernel), ⟨by decide, by decide, by decide +kernel⟩⟩
theorem cm_Mo_sums : CMV y_Mo_sums cX10_sums 8 (some .long) 3 := ⟨tb_t 1285 (by decide +kernel) (by decide +kernel), tb_s 63 (by decide +kernel) (by decide +kernel), it_Mo, tb_t 1286 (by decide +kernel) (by decide +kernel), ⟨by decide, by decide, by decide +kernel⟩⟩
theorem cm_Mo_digest : CMV y_Mo_digest cX10_digest 4 (some .long) 0 := ⟨tb_t 1278 (by decide +kernel) (by decide +kernel), tb_t 1279 (by decide +kernel) (by decide +kernel), it_Mo, tb_t 1280 (by decide +kernel) (by decide +kernel), ⟨by decide, by decide, by decide +kernel⟩⟩
theorem cm_JS_length_8abf5 : CMV y_JS_length_8abf5 cJ0_length_8abf5 1 (some .int) 0 := ⟨tb_t 448 (by decide +kernel) (by decide +kernel), tb_t 449 (by decide +kernel) (by decide +kernel), it_JS, tb_t 450 (by decide +kernel) (by decide +kernel), ⟨by decide, by decide, by decide +kernel⟩⟩
theorem cm_JS_charAt_5068e : CMV y_JS_charAt_5068e cJ0_charAt_5068e 2 (some .char) 1 := ⟨tb_t 458 (by decide +kernel) (by decide +kernel), tb_t 459 (by decide +kernel) (by decide +kernel), it_JS, tb_t 460 (by decide +kernel) (by decide +kernel), ⟨by decide, by decide, by decide +kernel⟩⟩
theorem cm_JS_coder_7d493 : CMV y_JS_coder_7d493 cJ0_coder_7d493 1 (some .byte) 0 := ⟨tb_t 452 (by decide +kernel) (by decide +kernel), tb_t 453 (by decide +kernel) (by decide +kernel), it_JS, tb_t 454 (by decide +kernel) (by decide +kernel), ⟨by decide, by decide, by decide +kernel⟩⟩
theorem cm_JS_isLatin1_aae02 : CMV y_JS_isLatin1_aae02 cJ0_isLatin1_aae02 1 (some .boolean) 0 := ⟨tb_t 462 (by decide +kernel) (by decide +kernel), tb_t 463 (by decide +kernel) (by decide +kernel), it_JS, tb_t 464 (by decide +kernel) (by decide +kernel), ⟨by decide, by decide, by decide +kernel⟩⟩
theorem cm_JS_checkIndex_df160 : CMS y_JS_checkIndex_df160 cJ0_checkIndex_df160 2 none 2 := ⟨tb_t 469 (by decide +kernel) (by decide +kernel), it_JS, tb_t 470 (by decide +kernel) (by decide +kernel), ⟨by decide, by decide, by decide +kernel⟩⟩
theorem cm_JL_charAt_3b067 : CMS y_JL_charAt_3b067 cJ1_charAt_3b067 2 (some .char) 2 := ⟨tb_t 466 (by decide +kernel) (by decide +kernel), it_JL, tb_t 467 (by decide +kernel) (by decide +kernel), ⟨by decide, by decide, by decide +kernel⟩⟩
theorem cm_JU_getChar_3b067 : CMS y_JU_getChar_3b067 cJ2_getChar_3b067 2 (some .char) 2 := ⟨tb_t 487 (by decide +kernel) (by decide +kernel), it_JU, tb_t 488 (by decide +kernel) (by decide +kernel), ⟨by decide, by decide, by decide +kernel⟩⟩
theorem cm_JU_length_9d52b : CMS y_JU_length_9d52b cJ2_length_9d52b 1 (some .int) 1 := ⟨tb_t 483 (by decide +kernel) (by decide +kernel), it_JU, tb_t 484 (by decide +kernel) (by decide +kernel), ⟨by decide, by decide, by decide +kernel⟩⟩
theorem cm_JU_charAt_3b067 : CMS y_JU_charAt_3b067 cJ2_charAt_3b067 2 (some .char) 2 := ⟨tb_t 477 (by decide +kernel) (by decide +kernel), it_JU, tb_t 478 (by decide +kernel) (by decide +kernel), ⟨by decide, by decide, by decide +kernel⟩⟩
theorem cm_JU_checkIndex_2214a : CMS y_JU_checkIndex_2214a cJ2_checkIndex_2214a 2 none 2 := ⟨tb_t 480 (by decide +kernel) (by decide +kernel), it_JU, tb_t 481 (by decide +kernel) (by decide +kernel), ⟨by decide, by decide, by decide +kernel⟩⟩
theorem cm_JP_checkIndex_8e157 : CMS y_JP_checkIndex_8e157 cJ3_checkIndex_8e157 3 (some .int) 3 := ⟨tb_t 474 (by decide +kernel) (by decide +kernel), it_JP, tb_t 475 (by decide +kernel) (by decide +kernel), ⟨by decide, by decide, by decide +kernel⟩⟩
theorem cm_max : Cond.static Lib.Math.max.name ∈ TB ∧ Cond.initialized "java/lang/Math" ∈ TB ∧ Cond.code Lib.Math.max.name Lib.Math.max.code 2 (some .int) ∈ TB := ⟨tb_t 45 (by decide +kernel) (by decide +kernel), it_JM, tb_t 46 (by decide +kernel) (by decide +kernel)⟩
theorem cm_min : Cond.static Lib.Math.min.name ∈ TB ∧ Cond.initialized "java/lang/Math" ∈ TB ∧ Cond.code Lib.Math.min.name Lib.Math.min.code 2 (some .int) ∈ TB := ⟨tb_t 544 (by decide +kernel) (by decide +kernel), it_JM, tb_t 545 (by decide +kernel) (by decide +kernel)⟩
theorem cm_obj : Cond.instanceMethod Lib.objectInit ∈ TB ∧ Cond.code Lib.objectInit ⟨#[0xb1]⟩ 1 none ∈ TB := ⟨tb_t 24 (by decide +kernel) (by decide +kernel), tb_t 25 (by decide +kernel) (by decide +kernel)⟩
theorem cm_copy : Cond.native arraycopyName ∈ TB ∧ Cond.static arraycopyName ∈ TB ∧ Cond.initialized "java/lang/System" ∈ TB := ⟨nat_copy, tb_t 547 (by decide +kernel) (by decide +kernel), it_JY⟩
