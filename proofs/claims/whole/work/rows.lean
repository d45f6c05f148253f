section
/-! names, code and room of the methods (printed) -/
abbrev b_CS_isText : ByteArray := prog_1_method_44_code
def y_CS_isText : MethodName := ⟨"CamelStraws", "isText", "(I)Z"⟩
abbrev b_CS_isBetween : ByteArray := prog_1_method_49_code
def y_CS_isBetween : MethodName := ⟨"CamelStraws", "isBetween", "(ICC)Z"⟩
abbrev b_Ca_fits : ByteArray := prog_3_method_2_code
def y_Ca_fits : MethodName := ⟨"CamelStraws$Camels", "fits", "(II)Z"⟩
abbrev b_Ba_fits : ByteArray := prog_2_method_2_code
def y_Ba_fits : MethodName := ⟨"CamelStraws$Bales", "fits", "(II)Z"⟩
abbrev b_Tx_findFault : ByteArray := prog_10_method_7_code
def y_Tx_findFault : MethodName := ⟨"CamelStraws$Text", "findFault", "()I"⟩
abbrev b_Ca_learn : ByteArray := prog_3_method_3_code
def y_Ca_learn : MethodName := ⟨"CamelStraws$Camels", "learn", "(II)V"⟩
abbrev b_Ba_learn : ByteArray := prog_2_method_3_code
def y_Ba_learn : MethodName := ⟨"CamelStraws$Bales", "learn", "(II)V"⟩
abbrev b_Tx_parse : ByteArray := prog_10_method_6_code
def y_Tx_parse : MethodName := ⟨"CamelStraws$Text", "parse", "()V"⟩
abbrev b_Tx_append : ByteArray := prog_10_method_4_code
def y_Tx_append : MethodName := ⟨"CamelStraws$Text", "append", "(I)Z"⟩
abbrev b_CS_type : ByteArray := prog_1_method_2_code
def y_CS_type : MethodName := ⟨"CamelStraws", "type", "(II)I"⟩
abbrev b_Tx_cutTo : ByteArray := prog_10_method_5_code
def y_Tx_cutTo : MethodName := ⟨"CamelStraws$Text", "cutTo", "(I)V"⟩
abbrev b_CS_wipe : ByteArray := prog_1_method_3_code
def y_CS_wipe : MethodName := ⟨"CamelStraws", "wipe", "(I)I"⟩
abbrev b_CS_undo : ByteArray := prog_1_method_4_code
def y_CS_undo : MethodName := ⟨"CamelStraws", "undo", "(I)I"⟩
abbrev b_CS_fault : ByteArray := prog_1_method_5_code
def y_CS_fault : MethodName := ⟨"CamelStraws", "fault", "(I)I"⟩
abbrev b_CS_isCamel : ByteArray := prog_1_method_42_code
def y_CS_isCamel : MethodName := ⟨"CamelStraws", "isCamel", "(I)Z"⟩
abbrev b_CS_strengthOf : ByteArray := prog_1_method_50_code
def y_CS_strengthOf : MethodName := ⟨"CamelStraws", "strengthOf", "(I)I"⟩
abbrev b_CS_camel : ByteArray := prog_1_method_6_code
def y_CS_camel : MethodName := ⟨"CamelStraws", "camel", "(II)I"⟩
abbrev b_CS_isBale : ByteArray := prog_1_method_43_code
def y_CS_isBale : MethodName := ⟨"CamelStraws", "isBale", "(I)Z"⟩
abbrev b_CS_bale : ByteArray := prog_1_method_7_code
def y_CS_bale : MethodName := ⟨"CamelStraws", "bale", "(II)I"⟩
abbrev b_CS_isDay : ByteArray := prog_1_method_45_code
def y_CS_isDay : MethodName := ⟨"CamelStraws", "isDay", "(I)Z"⟩
abbrev b_CS_isPlaceOfCamel : ByteArray := prog_1_method_46_code
def y_CS_isPlaceOfCamel : MethodName := ⟨"CamelStraws", "isPlaceOfCamel", "(I)Z"⟩
abbrev b_St_append : ByteArray := prog_9_method_2_code
def y_St_append : MethodName := ⟨"CamelStraws$Straws", "append", "(II)Z"⟩
abbrev b_CS_straw : ByteArray := prog_1_method_8_code
def y_CS_straw : MethodName := ⟨"CamelStraws", "straw", "(II)I"⟩
abbrev b_CS_back : ByteArray := prog_1_method_9_code
def y_CS_back : MethodName := ⟨"CamelStraws", "back", "()I"⟩
abbrev b_CS_isSheet : ByteArray := prog_1_method_47_code
def y_CS_isSheet : MethodName := ⟨"CamelStraws", "isSheet", "(I)Z"⟩
abbrev b_Sh_isLost : ByteArray := prog_8_method_2_code
def y_Sh_isLost : MethodName := ⟨"CamelStraws$Sheet", "isLost", "()Z"⟩
abbrev b_CS_finding : ByteArray := prog_1_method_41_code
def y_CS_finding : MethodName := ⟨"CamelStraws", "finding", "(I)I"⟩
abbrev b_CS_read : ByteArray := prog_1_method_10_code
def y_CS_read : MethodName := ⟨"CamelStraws", "read", "(I)I"⟩
abbrev b_Cv_busyDaysOf : ByteArray := prog_4_method_3_code
def y_Cv_busyDaysOf : MethodName := ⟨"CamelStraws$Caravan", "busyDaysOf", "(I)I"⟩
abbrev b_Wa_start : ByteArray := prog_11_method_2_code
def y_Wa_start : MethodName := ⟨"CamelStraws$Walk", "start", "(II)V"⟩
abbrev b_Wa_rise : ByteArray := prog_11_method_3_code
def y_Wa_rise : MethodName := ⟨"CamelStraws$Walk", "rise", "(I)V"⟩
abbrev b_Wa_take : ByteArray := prog_11_method_4_code
def y_Wa_take : MethodName := ⟨"CamelStraws$Walk", "take", "(I)V"⟩
abbrev b_Wa_breakIfOver : ByteArray := prog_11_method_5_code
def y_Wa_breakIfOver : MethodName := ⟨"CamelStraws$Walk", "breakIfOver", "(I)V"⟩
abbrev b_Wa_payIfLast : ByteArray := prog_11_method_6_code
def y_Wa_payIfLast : MethodName := ⟨"CamelStraws$Walk", "payIfLast", "()V"⟩
abbrev b_Wa_measureRoom : ByteArray := prog_11_method_7_code
def y_Wa_measureRoom : MethodName := ⟨"CamelStraws$Walk", "measureRoom", "()V"⟩
abbrev b_Wa_wear : ByteArray := prog_11_method_8_code
def y_Wa_wear : MethodName := ⟨"CamelStraws$Walk", "wear", "(I)V"⟩
abbrev b_Wa_unloadAtWell : ByteArray := prog_11_method_9_code
def y_Wa_unloadAtWell : MethodName := ⟨"CamelStraws$Walk", "unloadAtWell", "(I)V"⟩
abbrev b_Wa_keep : ByteArray := prog_11_method_10_code
def y_Wa_keep : MethodName := ⟨"CamelStraws$Walk", "keep", "(I)V"⟩
abbrev b_Cv_march : ByteArray := prog_4_method_2_code
def y_Cv_march : MethodName := ⟨"CamelStraws$Caravan", "march", "(I)LCamelStraws$Walk;"⟩
abbrev b_Wa_behind : ByteArray := prog_11_method_11_code
def y_Wa_behind : MethodName := ⟨"CamelStraws$Walk", "behind", "(II)I"⟩
abbrev b_CS_at : ByteArray := prog_1_method_11_code
def y_CS_at : MethodName := ⟨"CamelStraws", "at", "(III)I"⟩
abbrev b_Cv_inAll : ByteArray := prog_4_method_4_code
def y_Cv_inAll : MethodName := ⟨"CamelStraws$Caravan", "inAll", "(I)I"⟩
abbrev b_CS_through : ByteArray := prog_1_method_12_code
def y_CS_through : MethodName := ⟨"CamelStraws", "through", "()I"⟩
abbrev b_CS_lost : ByteArray := prog_1_method_13_code
def y_CS_lost : MethodName := ⟨"CamelStraws", "lost", "()I"⟩
abbrev b_Cv_firstToBreak : ByteArray := prog_4_method_6_code
def y_Cv_firstToBreak : MethodName := ⟨"CamelStraws$Caravan", "firstToBreak", "()I"⟩
abbrev b_CS_first : ByteArray := prog_1_method_14_code
def y_CS_first : MethodName := ⟨"CamelStraws", "first", "(I)I"⟩
abbrev b_Cv_broughtBy : ByteArray := prog_4_method_5_code
def y_Cv_broughtBy : MethodName := ⟨"CamelStraws$Caravan", "broughtBy", "(I)I"⟩
abbrev b_Cv_bestCamel : ByteArray := prog_4_method_7_code
def y_Cv_bestCamel : MethodName := ⟨"CamelStraws$Caravan", "bestCamel", "()I"⟩
abbrev b_CS_best : ByteArray := prog_1_method_15_code
def y_CS_best : MethodName := ⟨"CamelStraws", "best", "()I"⟩
abbrev b_Cv_wholeCamels : ByteArray := prog_4_method_8_code
def y_Cv_wholeCamels : MethodName := ⟨"CamelStraws$Caravan", "wholeCamels", "()I"⟩
abbrev b_CS_whole : ByteArray := prog_1_method_16_code
def y_CS_whole : MethodName := ⟨"CamelStraws", "whole", "()I"⟩
abbrev b_Ar_fill : ByteArray := prog_17_method_103_code
def y_Ar_fill : MethodName := ⟨"java/util/Arrays", "fill", "([II)V"⟩
abbrev b_Cv_tiredDay : ByteArray := prog_4_method_9_code
def y_Cv_tiredDay : MethodName := ⟨"CamelStraws$Caravan", "tiredDay", "()I"⟩
abbrev b_CS_tired : ByteArray := prog_1_method_17_code
def y_CS_tired : MethodName := ⟨"CamelStraws", "tired", "()I"⟩
abbrev b_CS_last : ByteArray := prog_1_method_18_code
def y_CS_last : MethodName := ⟨"CamelStraws", "last", "(II)I"⟩
abbrev b_Pl_beginChoice : ByteArray := prog_7_method_4_code
def y_Pl_beginChoice : MethodName := ⟨"CamelStraws$Plans", "beginChoice", "()V"⟩
abbrev b_Pl_choose : ByteArray := prog_7_method_5_code
def y_Pl_choose : MethodName := ⟨"CamelStraws$Plans", "choose", "(II)V"⟩
abbrev b_Pl_tryCamels : ByteArray := prog_7_method_2_code
def y_Pl_tryCamels : MethodName := ⟨"CamelStraws$Plans", "tryCamels", "(I)V"⟩
abbrev b_CS_bear : ByteArray := prog_1_method_19_code
def y_CS_bear : MethodName := ⟨"CamelStraws", "bear", "(II)I"⟩
abbrev b_Pl_tryDays : ByteArray := prog_7_method_3_code
def y_Pl_tryDays : MethodName := ⟨"CamelStraws$Plans", "tryDays", "(I)V"⟩
abbrev b_CS_when : ByteArray := prog_1_method_20_code
def y_CS_when : MethodName := ⟨"CamelStraws", "when", "(II)I"⟩
abbrev b_Pl_allStandWithout : ByteArray := prog_7_method_7_code
def y_Pl_allStandWithout : MethodName := ⟨"CamelStraws$Plans", "allStandWithout", "(I)Z"⟩
abbrev b_Pl_sparedStraws : ByteArray := prog_7_method_6_code
def y_Pl_sparedStraws : MethodName := ⟨"CamelStraws$Plans", "sparedStraws", "()I"⟩
abbrev b_In_bitCount : ByteArray := prog_14_method_49_code
def y_In_bitCount : MethodName := ⟨"java/lang/Integer", "bitCount", "(I)I"⟩
abbrev b_In_numberOfTrailingZeros : ByteArray := prog_14_method_48_code
def y_In_numberOfTrailingZeros : MethodName := ⟨"java/lang/Integer", "numberOfTrailingZeros", "(I)I"⟩
abbrev b_CS_spare : ByteArray := prog_1_method_21_code
def y_CS_spare : MethodName := ⟨"CamelStraws", "spare", "(I)I"⟩
abbrev b_Gu_append : ByteArray := prog_5_method_2_code
def y_Gu_append : MethodName := ⟨"CamelStraws$Guesses", "append", "(III)Z"⟩
abbrev b_CS_seen : ByteArray := prog_1_method_22_code
def y_CS_seen : MethodName := ⟨"CamelStraws", "seen", "(III)I"⟩
abbrev b_CS_forget : ByteArray := prog_1_method_23_code
def y_CS_forget : MethodName := ⟨"CamelStraws", "forget", "()I"⟩
abbrev b_Gu_allComesOut : ByteArray := prog_5_method_3_code
def y_Gu_allComesOut : MethodName := ⟨"CamelStraws$Guesses", "allComesOut", "()Z"⟩
abbrev b_Gu_strawsThatNeverWere : ByteArray := prog_5_method_4_code
def y_Gu_strawsThatNeverWere : MethodName := ⟨"CamelStraws$Guesses", "strawsThatNeverWere", "()I"⟩
abbrev b_CS_never : ByteArray := prog_1_method_24_code
def y_CS_never : MethodName := ⟨"CamelStraws", "never", "()I"⟩
abbrev b_Gu_valuesThatFit : ByteArray := prog_5_method_5_code
def y_Gu_valuesThatFit : MethodName := ⟨"CamelStraws$Guesses", "valuesThatFit", "([IIII)I"⟩
abbrev b_CS_was : ByteArray := prog_1_method_25_code
def y_CS_was : MethodName := ⟨"CamelStraws", "was", "(II)I"⟩
abbrev b_Gu_noteLoads : ByteArray := prog_5_method_7_code
def y_Gu_noteLoads : MethodName := ⟨"CamelStraws$Guesses", "noteLoads", "(II)V"⟩
abbrev b_Ma_max : ByteArray := prog_15_method_65_code
def y_Ma_max : MethodName := ⟨"java/lang/Math", "max", "(II)I"⟩
abbrev b_Gu_mostAlike : ByteArray := prog_5_method_8_code
def y_Gu_mostAlike : MethodName := ⟨"CamelStraws$Guesses", "mostAlike", "(II)I"⟩
abbrev b_Gu_dayToLook : ByteArray := prog_5_method_6_code
def y_Gu_dayToLook : MethodName := ⟨"CamelStraws$Guesses", "dayToLook", "(II)I"⟩
abbrev b_CS_ask : ByteArray := prog_1_method_26_code
def y_CS_ask : MethodName := ⟨"CamelStraws", "ask", "(I)I"⟩
abbrev b_St_onCamel : ByteArray := prog_9_method_3_code
def y_St_onCamel : MethodName := ⟨"CamelStraws$Straws", "onCamel", "(I)I"⟩
abbrev b_Od_breaksWithout : ByteArray := prog_6_method_3_code
def y_Od_breaksWithout : MethodName := ⟨"CamelStraws$Odds", "breaksWithout", "(II)Z"⟩
abbrev b_Od_power : ByteArray := prog_6_method_4_code
def y_Od_power : MethodName := ⟨"CamelStraws$Odds", "power", "(II)J"⟩
abbrev b_Od_reduce : ByteArray := prog_6_method_5_code
def y_Od_reduce : MethodName := ⟨"CamelStraws$Odds", "reduce", "()V"⟩
abbrev b_Od_ofBreaking : ByteArray := prog_6_method_2_code
def y_Od_ofBreaking : MethodName := ⟨"CamelStraws$Odds", "ofBreaking", "(II)V"⟩
abbrev b_CS_chance : ByteArray := prog_1_method_27_code
def y_CS_chance : MethodName := ⟨"CamelStraws", "chance", "(III)J"⟩
abbrev b_St_nextSeed : ByteArray := prog_9_method_5_code
def y_St_nextSeed : MethodName := ⟨"CamelStraws$Straws", "nextSeed", "(I)I"⟩
abbrev b_St_draw : ByteArray := prog_9_method_4_code
def y_St_draw : MethodName := ⟨"CamelStraws$Straws", "draw", "(III)V"⟩
abbrev b_CS_years : ByteArray := prog_1_method_28_code
def y_CS_years : MethodName := ⟨"CamelStraws", "years", "(III)I"⟩
abbrev b_CS_isForm : ByteArray := prog_1_method_48_code
def y_CS_isForm : MethodName := ⟨"CamelStraws", "isForm", "(I)Z"⟩
abbrev b_Sh_renew : ByteArray := prog_8_method_3_code
def y_Sh_renew : MethodName := ⟨"CamelStraws$Sheet", "renew", "(II)V"⟩
abbrev b_CS_sheet : ByteArray := prog_1_method_29_code
def y_CS_sheet : MethodName := ⟨"CamelStraws", "sheet", "(III)I"⟩
abbrev b_CS_lose : ByteArray := prog_1_method_30_code
def y_CS_lose : MethodName := ⟨"CamelStraws", "lose", "(I)I"⟩
abbrev b_Sh_hasItems : ByteArray := prog_8_method_5_code
def y_Sh_hasItems : MethodName := ⟨"CamelStraws$Sheet", "hasItems", "(II)Z"⟩
abbrev b_Sh_whatForbids : ByteArray := prog_8_method_4_code
def y_Sh_whatForbids : MethodName := ⟨"CamelStraws$Sheet", "whatForbids", "(II)I"⟩
abbrev b_CS_lowestBits : ByteArray := prog_1_method_51_code
def y_CS_lowestBits : MethodName := ⟨"CamelStraws", "lowestBits", "(II)I"⟩
abbrev b_CS_put : ByteArray := prog_1_method_31_code
def y_CS_put : MethodName := ⟨"CamelStraws", "put", "(IIII)I"⟩
abbrev b_CS_get : ByteArray := prog_1_method_32_code
def y_CS_get : MethodName := ⟨"CamelStraws", "get", "(III)I"⟩
abbrev b_CS_copy : ByteArray := prog_1_method_33_code
def y_CS_copy : MethodName := ⟨"CamelStraws", "copy", "(IIIII)I"⟩
abbrev b_Ma_min : ByteArray := prog_15_method_69_code
def y_Ma_min : MethodName := ⟨"java/lang/Math", "min", "(II)I"⟩
abbrev b_CS_write : ByteArray := prog_1_method_34_code
def y_CS_write : MethodName := ⟨"CamelStraws", "write", "(II)I"⟩
abbrev b_CS_count : ByteArray := prog_1_method_35_code
def y_CS_count : MethodName := ⟨"CamelStraws", "count", "(I)I"⟩
abbrev b_CS_mix : ByteArray := prog_1_method_40_code
def y_CS_mix : MethodName := ⟨"CamelStraws", "mix", "(JJ)J"⟩
abbrev b_CS_mixBale : ByteArray := prog_1_method_37_code
def y_CS_mixBale : MethodName := ⟨"CamelStraws", "mixBale", "(JI)J"⟩
abbrev b_CS_mixDay : ByteArray := prog_1_method_39_code
def y_CS_mixDay : MethodName := ⟨"CamelStraws", "mixDay", "(JII)J"⟩
abbrev b_CS_mixCamel : ByteArray := prog_1_method_38_code
def y_CS_mixCamel : MethodName := ⟨"CamelStraws", "mixCamel", "(JI)J"⟩
abbrev b_CS_digest : ByteArray := prog_1_method_36_code
def y_CS_digest : MethodName := ⟨"CamelStraws", "digest", "()J"⟩
abbrev b_Mo_in : ByteArray := prog_13_method_3_code
def y_Mo_in : MethodName := ⟨"CamelStrawsModel", "in", "(III)Z"⟩
abbrev b_Mo_isText : ByteArray := prog_13_method_7_code
def y_Mo_isText : MethodName := ⟨"CamelStrawsModel", "isText", "(I)Z"⟩
abbrev b_Mo_type : ByteArray := prog_13_method_11_code
def y_Mo_type : MethodName := ⟨"CamelStrawsModel", "type", "(II)I"⟩
abbrev b_Mo_wipe : ByteArray := prog_13_method_12_code
def y_Mo_wipe : MethodName := ⟨"CamelStrawsModel", "wipe", "(I)I"⟩
abbrev b_Mo_undo : ByteArray := prog_13_method_13_code
def y_Mo_undo : MethodName := ⟨"CamelStrawsModel", "undo", "(I)I"⟩
abbrev b_Mo_byteAt : ByteArray := prog_13_method_14_code
def y_Mo_byteAt : MethodName := ⟨"CamelStrawsModel", "byteAt", "(II)I"⟩
abbrev b_Mo_readsCamel : ByteArray := prog_13_method_15_code
def y_Mo_readsCamel : MethodName := ⟨"CamelStrawsModel", "readsCamel", "(II)I"⟩
abbrev b_Mo_readsBale : ByteArray := prog_13_method_16_code
def y_Mo_readsBale : MethodName := ⟨"CamelStrawsModel", "readsBale", "(II)I"⟩
abbrev b_Mo_readsParts : ByteArray := prog_13_method_17_code
def y_Mo_readsParts : MethodName := ⟨"CamelStrawsModel", "readsParts", "(I)I"⟩
abbrev b_Mo_faultOf : ByteArray := prog_13_method_18_code
def y_Mo_faultOf : MethodName := ⟨"CamelStrawsModel", "faultOf", "(I)I"⟩
abbrev b_Mo_fault : ByteArray := prog_13_method_20_code
def y_Mo_fault : MethodName := ⟨"CamelStrawsModel", "fault", "(I)I"⟩
abbrev b_Mo_reads : ByteArray := prog_13_method_19_code
def y_Mo_reads : MethodName := ⟨"CamelStrawsModel", "reads", "()V"⟩
abbrev b_Mo_isCamel : ByteArray := prog_13_method_21_code
def y_Mo_isCamel : MethodName := ⟨"CamelStrawsModel", "isCamel", "(I)Z"⟩
abbrev b_Mo_isTwo : ByteArray := prog_13_method_9_code
def y_Mo_isTwo : MethodName := ⟨"CamelStrawsModel", "isTwo", "(I)Z"⟩
abbrev b_Mo_camelOf : ByteArray := prog_13_method_23_code
def y_Mo_camelOf : MethodName := ⟨"CamelStrawsModel", "camelOf", "(II)I"⟩
abbrev b_Mo_camel : ByteArray := prog_13_method_24_code
def y_Mo_camel : MethodName := ⟨"CamelStrawsModel", "camel", "(II)I"⟩
abbrev b_Mo_isBale : ByteArray := prog_13_method_22_code
def y_Mo_isBale : MethodName := ⟨"CamelStrawsModel", "isBale", "(I)Z"⟩
abbrev b_Mo_baleOf : ByteArray := prog_13_method_25_code
def y_Mo_baleOf : MethodName := ⟨"CamelStrawsModel", "baleOf", "(II)I"⟩
abbrev b_Mo_bale : ByteArray := prog_13_method_26_code
def y_Mo_bale : MethodName := ⟨"CamelStrawsModel", "bale", "(II)I"⟩
abbrev b_Mo_isDay : ByteArray := prog_13_method_8_code
def y_Mo_isDay : MethodName := ⟨"CamelStrawsModel", "isDay", "(I)Z"⟩
abbrev b_Mo_isEight : ByteArray := prog_13_method_10_code
def y_Mo_isEight : MethodName := ⟨"CamelStrawsModel", "isEight", "(I)Z"⟩
abbrev b_Mo_straw : ByteArray := prog_13_method_27_code
def y_Mo_straw : MethodName := ⟨"CamelStrawsModel", "straw", "(II)I"⟩
abbrev b_Mo_back : ByteArray := prog_13_method_28_code
def y_Mo_back : MethodName := ⟨"CamelStrawsModel", "back", "()I"⟩
abbrev b_Mo_isSheet : ByteArray := prog_13_method_84_code
def y_Mo_isSheet : MethodName := ⟨"CamelStrawsModel", "isSheet", "(I)Z"⟩
abbrev b_Mo_meets : ByteArray := prog_13_method_83_code
def y_Mo_meets : MethodName := ⟨"CamelStrawsModel", "meets", "(I)I"⟩
abbrev b_Mo_read : ByteArray := prog_13_method_29_code
def y_Mo_read : MethodName := ⟨"CamelStrawsModel", "read", "(I)I"⟩
abbrev b_Mo_asTold : ByteArray := prog_13_method_30_code
def y_Mo_asTold : MethodName := ⟨"CamelStrawsModel", "asTold", "()V"⟩
abbrev b_Mo_takes : ByteArray := prog_13_method_32_code
def y_Mo_takes : MethodName := ⟨"CamelStrawsModel", "takes", "(I)Z"⟩
abbrev b_Mo_breaks : ByteArray := prog_13_method_31_code
def y_Mo_breaks : MethodName := ⟨"CamelStrawsModel", "breaks", "(II)V"⟩
abbrev b_Mo_bears : ByteArray := prog_13_method_33_code
def y_Mo_bears : MethodName := ⟨"CamelStrawsModel", "bears", "(I)V"⟩
abbrev b_Mo_isIn : ByteArray := prog_13_method_4_code
def y_Mo_isIn : MethodName := ⟨"CamelStrawsModel", "isIn", "(II)Z"⟩
abbrev b_Mo_comesStraw : ByteArray := prog_13_method_34_code
def y_Mo_comesStraw : MethodName := ⟨"CamelStrawsModel", "comesStraw", "(II)V"⟩
abbrev b_Mo_comeStraws : ByteArray := prog_13_method_35_code
def y_Mo_comeStraws : MethodName := ⟨"CamelStrawsModel", "comeStraws", "(I)V"⟩
abbrev b_Mo_wears : ByteArray := prog_13_method_36_code
def y_Mo_wears : MethodName := ⟨"CamelStrawsModel", "wears", "(II)Z"⟩
abbrev b_Mo_tires : ByteArray := prog_13_method_37_code
def y_Mo_tires : MethodName := ⟨"CamelStrawsModel", "tires", "(II)V"⟩
abbrev b_Mo_ends : ByteArray := prog_13_method_38_code
def y_Mo_ends : MethodName := ⟨"CamelStrawsModel", "ends", "(II)V"⟩
abbrev b_Mo_goesBy : ByteArray := prog_13_method_39_code
def y_Mo_goesBy : MethodName := ⟨"CamelStrawsModel", "goesBy", "(I)V"⟩
abbrev b_Mo_runs : ByteArray := prog_13_method_40_code
def y_Mo_runs : MethodName := ⟨"CamelStrawsModel", "runs", "()V"⟩
abbrev b_Mo_runsTold : ByteArray := prog_13_method_41_code
def y_Mo_runsTold : MethodName := ⟨"CamelStrawsModel", "runsTold", "()V"⟩
abbrev b_Mo_atOf : ByteArray := prog_13_method_42_code
def y_Mo_atOf : MethodName := ⟨"CamelStrawsModel", "atOf", "(III)I"⟩
abbrev b_Mo_at : ByteArray := prog_13_method_43_code
def y_Mo_at : MethodName := ⟨"CamelStrawsModel", "at", "(III)I"⟩
abbrev b_Mo_throughNow : ByteArray := prog_13_method_44_code
def y_Mo_throughNow : MethodName := ⟨"CamelStrawsModel", "throughNow", "()I"⟩
abbrev b_Mo_throughOf : ByteArray := prog_13_method_45_code
def y_Mo_throughOf : MethodName := ⟨"CamelStrawsModel", "throughOf", "()I"⟩
abbrev b_Mo_through : ByteArray := prog_13_method_46_code
def y_Mo_through : MethodName := ⟨"CamelStrawsModel", "through", "()I"⟩
abbrev b_Mo_lostOf : ByteArray := prog_13_method_47_code
def y_Mo_lostOf : MethodName := ⟨"CamelStrawsModel", "lostOf", "()I"⟩
abbrev b_Mo_lost : ByteArray := prog_13_method_48_code
def y_Mo_lost : MethodName := ⟨"CamelStrawsModel", "lost", "()I"⟩
abbrev b_Mo_firstOf : ByteArray := prog_13_method_49_code
def y_Mo_firstOf : MethodName := ⟨"CamelStrawsModel", "firstOf", "(I)I"⟩
abbrev b_Mo_first : ByteArray := prog_13_method_50_code
def y_Mo_first : MethodName := ⟨"CamelStrawsModel", "first", "(I)I"⟩
abbrev b_Mo_bestOf : ByteArray := prog_13_method_51_code
def y_Mo_bestOf : MethodName := ⟨"CamelStrawsModel", "bestOf", "()I"⟩
abbrev b_Mo_best : ByteArray := prog_13_method_52_code
def y_Mo_best : MethodName := ⟨"CamelStrawsModel", "best", "()I"⟩
abbrev b_Mo_wholeOf : ByteArray := prog_13_method_53_code
def y_Mo_wholeOf : MethodName := ⟨"CamelStrawsModel", "wholeOf", "()I"⟩
abbrev b_Mo_whole : ByteArray := prog_13_method_54_code
def y_Mo_whole : MethodName := ⟨"CamelStrawsModel", "whole", "()I"⟩
abbrev b_Mo_strengthOn : ByteArray := prog_13_method_55_code
def y_Mo_strengthOn : MethodName := ⟨"CamelStrawsModel", "strengthOn", "(I)I"⟩
abbrev b_Mo_tiredOf : ByteArray := prog_13_method_56_code
def y_Mo_tiredOf : MethodName := ⟨"CamelStrawsModel", "tiredOf", "()I"⟩
abbrev b_Mo_tired : ByteArray := prog_13_method_57_code
def y_Mo_tired : MethodName := ⟨"CamelStrawsModel", "tired", "()I"⟩
abbrev b_Mo_lastOf : ByteArray := prog_13_method_58_code
def y_Mo_lastOf : MethodName := ⟨"CamelStrawsModel", "lastOf", "(II)I"⟩
abbrev b_Mo_last : ByteArray := prog_13_method_59_code
def y_Mo_last : MethodName := ⟨"CamelStrawsModel", "last", "(II)I"⟩
abbrev b_Mo_bearOf : ByteArray := prog_13_method_60_code
def y_Mo_bearOf : MethodName := ⟨"CamelStrawsModel", "bearOf", "(II)I"⟩
abbrev b_Mo_bear : ByteArray := prog_13_method_61_code
def y_Mo_bear : MethodName := ⟨"CamelStrawsModel", "bear", "(II)I"⟩
abbrev b_Mo_whenOf : ByteArray := prog_13_method_62_code
def y_Mo_whenOf : MethodName := ⟨"CamelStrawsModel", "whenOf", "(II)I"⟩
abbrev b_Mo_when : ByteArray := prog_13_method_63_code
def y_Mo_when : MethodName := ⟨"CamelStrawsModel", "when", "(II)I"⟩
abbrev b_Mo_brokeAll : ByteArray := prog_13_method_64_code
def y_Mo_brokeAll : MethodName := ⟨"CamelStrawsModel", "brokeAll", "()I"⟩
abbrev b_Mo_isSpared : ByteArray := prog_13_method_65_code
def y_Mo_isSpared : MethodName := ⟨"CamelStrawsModel", "isSpared", "(I)Z"⟩
abbrev b_Mo_spareBy : ByteArray := prog_13_method_66_code
def y_Mo_spareBy : MethodName := ⟨"CamelStrawsModel", "spareBy", "()I"⟩
abbrev b_Mo_ofRow : ByteArray := prog_13_method_67_code
def y_Mo_ofRow : MethodName := ⟨"CamelStrawsModel", "ofRow", "(II)I"⟩
abbrev b_Mo_spare : ByteArray := prog_13_method_68_code
def y_Mo_spare : MethodName := ⟨"CamelStrawsModel", "spare", "(I)I"⟩
abbrev b_Mo_seen : ByteArray := prog_13_method_69_code
def y_Mo_seen : MethodName := ⟨"CamelStrawsModel", "seen", "(III)I"⟩
abbrev b_Mo_forget : ByteArray := prog_13_method_70_code
def y_Mo_forget : MethodName := ⟨"CamelStrawsModel", "forget", "()I"⟩
abbrev b_Mo_isSeen : ByteArray := prog_13_method_71_code
def y_Mo_isSeen : MethodName := ⟨"CamelStrawsModel", "isSeen", "()Z"⟩
abbrev b_Mo_neverNow : ByteArray := prog_13_method_72_code
def y_Mo_neverNow : MethodName := ⟨"CamelStrawsModel", "neverNow", "()I"⟩
abbrev b_Mo_never : ByteArray := prog_13_method_73_code
def y_Mo_never : MethodName := ⟨"CamelStrawsModel", "never", "()I"⟩
abbrev b_Mo_sortsBy : ByteArray := prog_13_method_74_code
def y_Mo_sortsBy : MethodName := ⟨"CamelStrawsModel", "sortsBy", "(I)I"⟩
abbrev b_Mo_strongBy : ByteArray := prog_13_method_75_code
def y_Mo_strongBy : MethodName := ⟨"CamelStrawsModel", "strongBy", "(I)I"⟩
abbrev b_Mo_was : ByteArray := prog_13_method_76_code
def y_Mo_was : MethodName := ⟨"CamelStrawsModel", "was", "(II)I"⟩
abbrev b_Mo_askOf : ByteArray := prog_13_method_77_code
def y_Mo_askOf : MethodName := ⟨"CamelStrawsModel", "askOf", "(I)I"⟩
abbrev b_Mo_ask : ByteArray := prog_13_method_78_code
def y_Mo_ask : MethodName := ⟨"CamelStrawsModel", "ask", "(I)I"⟩
abbrev b_Mo_lowest : ByteArray := prog_13_method_6_code
def y_Mo_lowest : MethodName := ⟨"CamelStrawsModel", "lowest", "(JJI)J"⟩
abbrev b_Mo_chanceOf : ByteArray := prog_13_method_79_code
def y_Mo_chanceOf : MethodName := ⟨"CamelStrawsModel", "chanceOf", "(III)J"⟩
abbrev b_Mo_no : ByteArray := prog_13_method_5_code
def y_Mo_no : MethodName := ⟨"CamelStrawsModel", "no", "(I)J"⟩
abbrev b_Mo_chance : ByteArray := prog_13_method_80_code
def y_Mo_chance : MethodName := ⟨"CamelStrawsModel", "chance", "(III)J"⟩
abbrev b_Mo_yearsOf : ByteArray := prog_13_method_81_code
def y_Mo_yearsOf : MethodName := ⟨"CamelStrawsModel", "yearsOf", "(III)I"⟩
abbrev b_Mo_years : ByteArray := prog_13_method_82_code
def y_Mo_years : MethodName := ⟨"CamelStrawsModel", "years", "(III)I"⟩
abbrev b_Mo_sheet : ByteArray := prog_13_method_85_code
def y_Mo_sheet : MethodName := ⟨"CamelStrawsModel", "sheet", "(III)I"⟩
abbrev b_Mo_lose : ByteArray := prog_13_method_86_code
def y_Mo_lose : MethodName := ⟨"CamelStrawsModel", "lose", "(I)I"⟩
abbrev b_Mo_lacks : ByteArray := prog_13_method_87_code
def y_Mo_lacks : MethodName := ⟨"CamelStrawsModel", "lacks", "(III)I"⟩
abbrev b_Mo_keep : ByteArray := prog_13_method_88_code
def y_Mo_keep : MethodName := ⟨"CamelStrawsModel", "keep", "(III)V"⟩
abbrev b_Mo_put : ByteArray := prog_13_method_89_code
def y_Mo_put : MethodName := ⟨"CamelStrawsModel", "put", "(IIII)I"⟩
abbrev b_Mo_get : ByteArray := prog_13_method_90_code
def y_Mo_get : MethodName := ⟨"CamelStrawsModel", "get", "(III)I"⟩
abbrev b_Mo_copy : ByteArray := prog_13_method_91_code
def y_Mo_copy : MethodName := ⟨"CamelStrawsModel", "copy", "(IIIII)I"⟩
abbrev b_Mo_write : ByteArray := prog_13_method_92_code
def y_Mo_write : MethodName := ⟨"CamelStrawsModel", "write", "(II)I"⟩
abbrev b_Mo_feesAll : ByteArray := prog_13_method_93_code
def y_Mo_feesAll : MethodName := ⟨"CamelStrawsModel", "feesAll", "()I"⟩
abbrev b_Mo_sumOf : ByteArray := prog_13_method_94_code
def y_Mo_sumOf : MethodName := ⟨"CamelStrawsModel", "sumOf", "(I)I"⟩
abbrev b_Mo_count : ByteArray := prog_13_method_95_code
def y_Mo_count : MethodName := ⟨"CamelStrawsModel", "count", "(I)I"⟩
abbrev b_Mo_baleDigest : ByteArray := prog_13_method_96_code
def y_Mo_baleDigest : MethodName := ⟨"CamelStrawsModel", "baleDigest", "(JI)J"⟩
abbrev b_Mo_dayDigest : ByteArray := prog_13_method_97_code
def y_Mo_dayDigest : MethodName := ⟨"CamelStrawsModel", "dayDigest", "(JII)J"⟩
abbrev b_Mo_camelDigest : ByteArray := prog_13_method_98_code
def y_Mo_camelDigest : MethodName := ⟨"CamelStrawsModel", "camelDigest", "(JI)J"⟩
abbrev b_Mo_digest : ByteArray := prog_13_method_99_code
def y_Mo_digest : MethodName := ⟨"CamelStrawsModel", "digest", "()J"⟩
def y_Tx_fits : MethodName := ⟨"CamelStraws$Text", "fits", "(II)Z"⟩
def y_Tx_learn : MethodName := ⟨"CamelStraws$Text", "learn", "(II)V"⟩
end
section
/-! decode rows (printed) -/
theorem d_CS_isText_0 : decode b_CS_isText 0 = .ok (.iload_n 0, 1) := by decide +kernel
theorem d_CS_isText_1 : decode b_CS_isText 1 = .ok (.ifCond .lt 12, 3) := by decide +kernel
theorem d_CS_isText_4 : decode b_CS_isText 4 = .ok (.iload_n 0, 1) := by decide +kernel
theorem d_CS_isText_5 : decode b_CS_isText 5 = .ok (.iconst 2, 1) := by decide +kernel
theorem d_CS_isText_6 : decode b_CS_isText 6 = .ok (.if_icmp .ge 7, 3) := by decide +kernel
theorem d_CS_isText_9 : decode b_CS_isText 9 = .ok (.iconst 1, 1) := by decide +kernel
theorem d_CS_isText_10 : decode b_CS_isText 10 = .ok (.goto 4, 3) := by decide +kernel
theorem d_CS_isText_13 : decode b_CS_isText 13 = .ok (.iconst 0, 1) := by decide +kernel
theorem d_CS_isText_14 : decode b_CS_isText 14 = .ok (.ireturn, 1) := by decide +kernel
theorem d_CS_isBetween_0 : decode b_CS_isBetween 0 = .ok (.iload_n 0, 1) := by decide +kernel
theorem d_CS_isBetween_1 : decode b_CS_isBetween 1 = .ok (.iload_n 1, 1) := by decide +kernel
theorem d_CS_isBetween_2 : decode b_CS_isBetween 2 = .ok (.if_icmp .lt 12, 3) := by decide +kernel
theorem d_CS_isBetween_5 : decode b_CS_isBetween 5 = .ok (.iload_n 0, 1) := by decide +kernel
theorem d_CS_isBetween_6 : decode b_CS_isBetween 6 = .ok (.iload_n 2, 1) := by decide +kernel
theorem d_CS_isBetween_7 : decode b_CS_isBetween 7 = .ok (.if_icmp .gt 7, 3) := by decide +kernel
theorem d_CS_isBetween_10 : decode b_CS_isBetween 10 = .ok (.iconst 1, 1) := by decide +kernel
theorem d_CS_isBetween_11 : decode b_CS_isBetween 11 = .ok (.goto 4, 3) := by decide +kernel
theorem d_CS_isBetween_14 : decode b_CS_isBetween 14 = .ok (.iconst 0, 1) := by decide +kernel
theorem d_CS_isBetween_15 : decode b_CS_isBetween 15 = .ok (.ireturn, 1) := by decide +kernel
theorem d_Ca_fits_0 : decode b_Ca_fits 0 = .ok (.iload_n 1, 1) := by decide +kernel
theorem d_Ca_fits_1 : decode b_Ca_fits 1 = .ok (.lookupswitch 60 #[(0, 27), (1, 51)], 27) := by decide +kernel
theorem d_Ca_fits_28 : decode b_Ca_fits 28 = .ok (.iload_n 2, 1) := by decide +kernel
theorem d_Ca_fits_29 : decode b_Ca_fits 29 = .ok (.bipush 121, 2) := by decide +kernel
theorem d_Ca_fits_31 : decode b_Ca_fits 31 = .ok (.if_icmp .eq 15, 3) := by decide +kernel
theorem d_Ca_fits_34 : decode b_Ca_fits 34 = .ok (.iload_n 2, 1) := by decide +kernel
theorem d_Ca_fits_35 : decode b_Ca_fits 35 = .ok (.bipush 111, 2) := by decide +kernel
theorem d_Ca_fits_37 : decode b_Ca_fits 37 = .ok (.if_icmp .eq 9, 3) := by decide +kernel
theorem d_Ca_fits_40 : decode b_Ca_fits 40 = .ok (.iload_n 2, 1) := by decide +kernel
theorem d_Ca_fits_41 : decode b_Ca_fits 41 = .ok (.bipush 115, 2) := by decide +kernel
theorem d_Ca_fits_43 : decode b_Ca_fits 43 = .ok (.if_icmp .ne 7, 3) := by decide +kernel
theorem d_Ca_fits_46 : decode b_Ca_fits 46 = .ok (.iconst 1, 1) := by decide +kernel
theorem d_Ca_fits_47 : decode b_Ca_fits 47 = .ok (.goto 4, 3) := by decide +kernel
theorem d_Ca_fits_50 : decode b_Ca_fits 50 = .ok (.iconst 0, 1) := by decide +kernel
theorem d_Ca_fits_51 : decode b_Ca_fits 51 = .ok (.ireturn, 1) := by decide +kernel
theorem d_Ca_fits_52 : decode b_Ca_fits 52 = .ok (.iload_n 2, 1) := by decide +kernel
theorem d_Ca_fits_53 : decode b_Ca_fits 53 = .ok (.bipush 49, 2) := by decide +kernel
theorem d_Ca_fits_55 : decode b_Ca_fits 55 = .ok (.bipush 57, 2) := by decide +kernel
theorem d_Ca_fits_57 : decode b_Ca_fits 57 = .ok (.invokestatic 18, 3) := by decide +kernel
theorem d_Ca_fits_60 : decode b_Ca_fits 60 = .ok (.ireturn, 1) := by decide +kernel
theorem d_Ca_fits_61 : decode b_Ca_fits 61 = .ok (.iload_n 2, 1) := by decide +kernel
theorem d_Ca_fits_62 : decode b_Ca_fits 62 = .ok (.bipush 59, 2) := by decide +kernel
theorem d_Ca_fits_64 : decode b_Ca_fits 64 = .ok (.if_icmp .ne 7, 3) := by decide +kernel
theorem d_Ca_fits_67 : decode b_Ca_fits 67 = .ok (.iconst 1, 1) := by decide +kernel
theorem d_Ca_fits_68 : decode b_Ca_fits 68 = .ok (.goto 4, 3) := by decide +kernel
theorem d_Ca_fits_71 : decode b_Ca_fits 71 = .ok (.iconst 0, 1) := by decide +kernel
theorem d_Ca_fits_72 : decode b_Ca_fits 72 = .ok (.ireturn, 1) := by decide +kernel
theorem d_Ba_fits_0 : decode b_Ba_fits 0 = .ok (.iload_n 1, 1) := by decide +kernel
theorem d_Ba_fits_1 : decode b_Ba_fits 1 = .ok (.tableswitch 54 0 2 #[27, 36, 45], 27) := by decide +kernel
theorem d_Ba_fits_28 : decode b_Ba_fits 28 = .ok (.iload_n 2, 1) := by decide +kernel
theorem d_Ba_fits_29 : decode b_Ba_fits 29 = .ok (.bipush 97, 2) := by decide +kernel
theorem d_Ba_fits_31 : decode b_Ba_fits 31 = .ok (.bipush 104, 2) := by decide +kernel
theorem d_Ba_fits_33 : decode b_Ba_fits 33 = .ok (.invokestatic 21, 3) := by decide +kernel
theorem d_Ba_fits_36 : decode b_Ba_fits 36 = .ok (.ireturn, 1) := by decide +kernel
theorem d_Ba_fits_37 : decode b_Ba_fits 37 = .ok (.iload_n 2, 1) := by decide +kernel
theorem d_Ba_fits_38 : decode b_Ba_fits 38 = .ok (.bipush 49, 2) := by decide +kernel
theorem d_Ba_fits_40 : decode b_Ba_fits 40 = .ok (.bipush 57, 2) := by decide +kernel
theorem d_Ba_fits_42 : decode b_Ba_fits 42 = .ok (.invokestatic 21, 3) := by decide +kernel
theorem d_Ba_fits_45 : decode b_Ba_fits 45 = .ok (.ireturn, 1) := by decide +kernel
theorem d_Ba_fits_46 : decode b_Ba_fits 46 = .ok (.iload_n 2, 1) := by decide +kernel
theorem d_Ba_fits_47 : decode b_Ba_fits 47 = .ok (.bipush 97, 2) := by decide +kernel
theorem d_Ba_fits_49 : decode b_Ba_fits 49 = .ok (.bipush 120, 2) := by decide +kernel
theorem d_Ba_fits_51 : decode b_Ba_fits 51 = .ok (.invokestatic 21, 3) := by decide +kernel
theorem d_Ba_fits_54 : decode b_Ba_fits 54 = .ok (.ireturn, 1) := by decide +kernel
theorem d_Ba_fits_55 : decode b_Ba_fits 55 = .ok (.iload_n 2, 1) := by decide +kernel
theorem d_Ba_fits_56 : decode b_Ba_fits 56 = .ok (.bipush 59, 2) := by decide +kernel
theorem d_Ba_fits_58 : decode b_Ba_fits 58 = .ok (.if_icmp .ne 7, 3) := by decide +kernel
theorem d_Ba_fits_61 : decode b_Ba_fits 61 = .ok (.iconst 1, 1) := by decide +kernel
theorem d_Ba_fits_62 : decode b_Ba_fits 62 = .ok (.goto 4, 3) := by decide +kernel
theorem d_Ba_fits_65 : decode b_Ba_fits 65 = .ok (.iconst 0, 1) := by decide +kernel
theorem d_Ba_fits_66 : decode b_Ba_fits 66 = .ok (.ireturn, 1) := by decide +kernel
theorem d_Tx_findFault_0 : decode b_Tx_findFault 0 = .ok (.iconst 0, 1) := by decide +kernel
theorem d_Tx_findFault_1 : decode b_Tx_findFault 1 = .ok (.istore_n 1, 1) := by decide +kernel
theorem d_Tx_findFault_2 : decode b_Tx_findFault 2 = .ok (.iconst 0, 1) := by decide +kernel
theorem d_Tx_findFault_3 : decode b_Tx_findFault 3 = .ok (.istore_n 2, 1) := by decide +kernel
theorem d_Tx_findFault_4 : decode b_Tx_findFault 4 = .ok (.iload_n 2, 1) := by decide +kernel
theorem d_Tx_findFault_5 : decode b_Tx_findFault 5 = .ok (.aload_n 0, 1) := by decide +kernel
theorem d_Tx_findFault_6 : decode b_Tx_findFault 6 = .ok (.getfield 22, 3) := by decide +kernel
theorem d_Tx_findFault_9 : decode b_Tx_findFault 9 = .ok (.if_icmp .ge 43, 3) := by decide +kernel
theorem d_Tx_findFault_12 : decode b_Tx_findFault 12 = .ok (.aload_n 0, 1) := by decide +kernel
theorem d_Tx_findFault_13 : decode b_Tx_findFault 13 = .ok (.iload_n 1, 1) := by decide +kernel
theorem d_Tx_findFault_14 : decode b_Tx_findFault 14 = .ok (.aload_n 0, 1) := by decide +kernel
theorem d_Tx_findFault_15 : decode b_Tx_findFault 15 = .ok (.getfield 15, 3) := by decide +kernel
theorem d_Tx_findFault_18 : decode b_Tx_findFault 18 = .ok (.iload_n 2, 1) := by decide +kernel
theorem d_Tx_findFault_19 : decode b_Tx_findFault 19 = .ok (.iaload, 1) := by decide +kernel
theorem d_Tx_findFault_20 : decode b_Tx_findFault 20 = .ok (.invokevirtual 39, 3) := by decide +kernel
theorem d_Tx_findFault_23 : decode b_Tx_findFault 23 = .ok (.ifCond .ne 5, 3) := by decide +kernel
theorem d_Tx_findFault_26 : decode b_Tx_findFault 26 = .ok (.iload_n 2, 1) := by decide +kernel
theorem d_Tx_findFault_27 : decode b_Tx_findFault 27 = .ok (.ireturn, 1) := by decide +kernel
theorem d_Tx_findFault_28 : decode b_Tx_findFault 28 = .ok (.iload_n 1, 1) := by decide +kernel
theorem d_Tx_findFault_29 : decode b_Tx_findFault 29 = .ok (.aload_n 0, 1) := by decide +kernel
theorem d_Tx_findFault_30 : decode b_Tx_findFault 30 = .ok (.getfield 19, 3) := by decide +kernel
theorem d_Tx_findFault_33 : decode b_Tx_findFault 33 = .ok (.iconst 1, 1) := by decide +kernel
theorem d_Tx_findFault_34 : decode b_Tx_findFault 34 = .ok (.isub, 1) := by decide +kernel
theorem d_Tx_findFault_35 : decode b_Tx_findFault 35 = .ok (.if_icmp .ne 7, 3) := by decide +kernel
theorem d_Tx_findFault_38 : decode b_Tx_findFault 38 = .ok (.iconst 0, 1) := by decide +kernel
theorem d_Tx_findFault_39 : decode b_Tx_findFault 39 = .ok (.goto 6, 3) := by decide +kernel
theorem d_Tx_findFault_42 : decode b_Tx_findFault 42 = .ok (.iload_n 1, 1) := by decide +kernel
theorem d_Tx_findFault_43 : decode b_Tx_findFault 43 = .ok (.iconst 1, 1) := by decide +kernel
theorem d_Tx_findFault_44 : decode b_Tx_findFault 44 = .ok (.iadd, 1) := by decide +kernel
theorem d_Tx_findFault_45 : decode b_Tx_findFault 45 = .ok (.istore_n 1, 1) := by decide +kernel
theorem d_Tx_findFault_46 : decode b_Tx_findFault 46 = .ok (.iinc 2 1, 3) := by decide +kernel
theorem d_Tx_findFault_49 : decode b_Tx_findFault 49 = .ok (.goto (-45), 3) := by decide +kernel
theorem d_Tx_findFault_52 : decode b_Tx_findFault 52 = .ok (.aload_n 0, 1) := by decide +kernel
theorem d_Tx_findFault_53 : decode b_Tx_findFault 53 = .ok (.getfield 22, 3) := by decide +kernel
theorem d_Tx_findFault_56 : decode b_Tx_findFault 56 = .ok (.ifCond .eq 13, 3) := by decide +kernel
theorem d_Tx_findFault_59 : decode b_Tx_findFault 59 = .ok (.iload_n 1, 1) := by decide +kernel
theorem d_Tx_findFault_60 : decode b_Tx_findFault 60 = .ok (.aload_n 0, 1) := by decide +kernel
theorem d_Tx_findFault_61 : decode b_Tx_findFault 61 = .ok (.getfield 19, 3) := by decide +kernel
theorem d_Tx_findFault_64 : decode b_Tx_findFault 64 = .ok (.iconst 1, 1) := by decide +kernel
theorem d_Tx_findFault_65 : decode b_Tx_findFault 65 = .ok (.isub, 1) := by decide +kernel
theorem d_Tx_findFault_66 : decode b_Tx_findFault 66 = .ok (.if_icmp .ne 7, 3) := by decide +kernel
theorem d_Tx_findFault_69 : decode b_Tx_findFault 69 = .ok (.iconst 1, 1) := by decide +kernel
theorem d_Tx_findFault_70 : decode b_Tx_findFault 70 = .ok (.goto 4, 3) := by decide +kernel
theorem d_Tx_findFault_73 : decode b_Tx_findFault 73 = .ok (.iconst 0, 1) := by decide +kernel
theorem d_Tx_findFault_74 : decode b_Tx_findFault 74 = .ok (.istore_n 2, 1) := by decide +kernel
theorem d_Tx_findFault_75 : decode b_Tx_findFault 75 = .ok (.iload_n 2, 1) := by decide +kernel
theorem d_Tx_findFault_76 : decode b_Tx_findFault 76 = .ok (.ifCond .eq 7, 3) := by decide +kernel
theorem d_Tx_findFault_79 : decode b_Tx_findFault 79 = .ok (.iconst (-1), 1) := by decide +kernel
theorem d_Tx_findFault_80 : decode b_Tx_findFault 80 = .ok (.goto 7, 3) := by decide +kernel
theorem d_Tx_findFault_83 : decode b_Tx_findFault 83 = .ok (.aload_n 0, 1) := by decide +kernel
theorem d_Tx_findFault_84 : decode b_Tx_findFault 84 = .ok (.getfield 22, 3) := by decide +kernel
theorem d_Tx_findFault_87 : decode b_Tx_findFault 87 = .ok (.ireturn, 1) := by decide +kernel
theorem d_Ca_learn_0 : decode b_Ca_learn 0 = .ok (.aload_n 0, 1) := by decide +kernel
theorem d_Ca_learn_1 : decode b_Ca_learn 1 = .ok (.getfield 22, 3) := by decide +kernel
theorem d_Ca_learn_4 : decode b_Ca_learn 4 = .ok (.iload_n 2, 1) := by decide +kernel
theorem d_Ca_learn_5 : decode b_Ca_learn 5 = .ok (.iaload, 1) := by decide +kernel
theorem d_Ca_learn_6 : decode b_Ca_learn 6 = .ok (.istore_n 3, 1) := by decide +kernel
theorem d_Ca_learn_7 : decode b_Ca_learn 7 = .ok (.aload_n 0, 1) := by decide +kernel
theorem d_Ca_learn_8 : decode b_Ca_learn 8 = .ok (.getfield 9, 3) := by decide +kernel
theorem d_Ca_learn_11 : decode b_Ca_learn 11 = .ok (.iload_n 1, 1) := by decide +kernel
theorem d_Ca_learn_12 : decode b_Ca_learn 12 = .ok (.iload_n 3, 1) := by decide +kernel
theorem d_Ca_learn_13 : decode b_Ca_learn 13 = .ok (.bipush 121, 2) := by decide +kernel
theorem d_Ca_learn_15 : decode b_Ca_learn 15 = .ok (.if_icmp .ne 7, 3) := by decide +kernel
theorem d_Ca_learn_18 : decode b_Ca_learn 18 = .ok (.iconst 0, 1) := by decide +kernel
theorem d_Ca_learn_19 : decode b_Ca_learn 19 = .ok (.goto 14, 3) := by decide +kernel
theorem d_Ca_learn_22 : decode b_Ca_learn 22 = .ok (.iload_n 3, 1) := by decide +kernel
theorem d_Ca_learn_23 : decode b_Ca_learn 23 = .ok (.bipush 111, 2) := by decide +kernel
theorem d_Ca_learn_25 : decode b_Ca_learn 25 = .ok (.if_icmp .ne 7, 3) := by decide +kernel
theorem d_Ca_learn_28 : decode b_Ca_learn 28 = .ok (.iconst 1, 1) := by decide +kernel
theorem d_Ca_learn_29 : decode b_Ca_learn 29 = .ok (.goto 4, 3) := by decide +kernel
theorem d_Ca_learn_32 : decode b_Ca_learn 32 = .ok (.iconst 2, 1) := by decide +kernel
theorem d_Ca_learn_33 : decode b_Ca_learn 33 = .ok (.iastore, 1) := by decide +kernel
theorem d_Ca_learn_34 : decode b_Ca_learn 34 = .ok (.aload_n 0, 1) := by decide +kernel
theorem d_Ca_learn_35 : decode b_Ca_learn 35 = .ok (.getfield 15, 3) := by decide +kernel
theorem d_Ca_learn_38 : decode b_Ca_learn 38 = .ok (.iload_n 1, 1) := by decide +kernel
theorem d_Ca_learn_39 : decode b_Ca_learn 39 = .ok (.aload_n 0, 1) := by decide +kernel
theorem d_Ca_learn_40 : decode b_Ca_learn 40 = .ok (.getfield 22, 3) := by decide +kernel
theorem d_Ca_learn_43 : decode b_Ca_learn 43 = .ok (.iload_n 2, 1) := by decide +kernel
theorem d_Ca_learn_44 : decode b_Ca_learn 44 = .ok (.iconst 1, 1) := by decide +kernel
theorem d_Ca_learn_45 : decode b_Ca_learn 45 = .ok (.iadd, 1) := by decide +kernel
theorem d_Ca_learn_46 : decode b_Ca_learn 46 = .ok (.iaload, 1) := by decide +kernel
theorem d_Ca_learn_47 : decode b_Ca_learn 47 = .ok (.bipush 48, 2) := by decide +kernel
theorem d_Ca_learn_49 : decode b_Ca_learn 49 = .ok (.isub, 1) := by decide +kernel
theorem d_Ca_learn_50 : decode b_Ca_learn 50 = .ok (.iastore, 1) := by decide +kernel
theorem d_Ca_learn_51 : decode b_Ca_learn 51 = .ok (.return_, 1) := by decide +kernel
theorem d_Ba_learn_0 : decode b_Ba_learn 0 = .ok (.aload_n 0, 1) := by decide +kernel
theorem d_Ba_learn_1 : decode b_Ba_learn 1 = .ok (.getfield 9, 3) := by decide +kernel
theorem d_Ba_learn_4 : decode b_Ba_learn 4 = .ok (.iload_n 1, 1) := by decide +kernel
theorem d_Ba_learn_5 : decode b_Ba_learn 5 = .ok (.aload_n 0, 1) := by decide +kernel
theorem d_Ba_learn_6 : decode b_Ba_learn 6 = .ok (.getfield 25, 3) := by decide +kernel
theorem d_Ba_learn_9 : decode b_Ba_learn 9 = .ok (.iload_n 2, 1) := by decide +kernel
theorem d_Ba_learn_10 : decode b_Ba_learn 10 = .ok (.iaload, 1) := by decide +kernel
theorem d_Ba_learn_11 : decode b_Ba_learn 11 = .ok (.bipush 97, 2) := by decide +kernel
theorem d_Ba_learn_13 : decode b_Ba_learn 13 = .ok (.isub, 1) := by decide +kernel
theorem d_Ba_learn_14 : decode b_Ba_learn 14 = .ok (.iastore, 1) := by decide +kernel
theorem d_Ba_learn_15 : decode b_Ba_learn 15 = .ok (.aload_n 0, 1) := by decide +kernel
theorem d_Ba_learn_16 : decode b_Ba_learn 16 = .ok (.getfield 15, 3) := by decide +kernel
theorem d_Ba_learn_19 : decode b_Ba_learn 19 = .ok (.iload_n 1, 1) := by decide +kernel
theorem d_Ba_learn_20 : decode b_Ba_learn 20 = .ok (.aload_n 0, 1) := by decide +kernel
theorem d_Ba_learn_21 : decode b_Ba_learn 21 = .ok (.getfield 25, 3) := by decide +kernel
theorem d_Ba_learn_24 : decode b_Ba_learn 24 = .ok (.iload_n 2, 1) := by decide +kernel
theorem d_Ba_learn_25 : decode b_Ba_learn 25 = .ok (.iconst 1, 1) := by decide +kernel
theorem d_Ba_learn_26 : decode b_Ba_learn 26 = .ok (.iadd, 1) := by decide +kernel
theorem d_Ba_learn_27 : decode b_Ba_learn 27 = .ok (.iaload, 1) := by decide +kernel
theorem d_Ba_learn_28 : decode b_Ba_learn 28 = .ok (.bipush 48, 2) := by decide +kernel
theorem d_Ba_learn_30 : decode b_Ba_learn 30 = .ok (.isub, 1) := by decide +kernel
theorem d_Ba_learn_31 : decode b_Ba_learn 31 = .ok (.iastore, 1) := by decide +kernel
theorem d_Ba_learn_32 : decode b_Ba_learn 32 = .ok (.aload_n 0, 1) := by decide +kernel
theorem d_Ba_learn_33 : decode b_Ba_learn 33 = .ok (.getfield 18, 3) := by decide +kernel
theorem d_Ba_learn_36 : decode b_Ba_learn 36 = .ok (.iload_n 1, 1) := by decide +kernel
theorem d_Ba_learn_37 : decode b_Ba_learn 37 = .ok (.aload_n 0, 1) := by decide +kernel
theorem d_Ba_learn_38 : decode b_Ba_learn 38 = .ok (.getfield 25, 3) := by decide +kernel
theorem d_Ba_learn_41 : decode b_Ba_learn 41 = .ok (.iload_n 2, 1) := by decide +kernel
theorem d_Ba_learn_42 : decode b_Ba_learn 42 = .ok (.iconst 2, 1) := by decide +kernel
theorem d_Ba_learn_43 : decode b_Ba_learn 43 = .ok (.iadd, 1) := by decide +kernel
theorem d_Ba_learn_44 : decode b_Ba_learn 44 = .ok (.iaload, 1) := by decide +kernel
theorem d_Ba_learn_45 : decode b_Ba_learn 45 = .ok (.bipush 97, 2) := by decide +kernel
theorem d_Ba_learn_47 : decode b_Ba_learn 47 = .ok (.isub, 1) := by decide +kernel
theorem d_Ba_learn_48 : decode b_Ba_learn 48 = .ok (.iastore, 1) := by decide +kernel
theorem d_Ba_learn_49 : decode b_Ba_learn 49 = .ok (.return_, 1) := by decide +kernel
theorem d_Tx_parse_0 : decode b_Tx_parse 0 = .ok (.aload_n 0, 1) := by decide +kernel
theorem d_Tx_parse_1 : decode b_Tx_parse 1 = .ok (.aload_n 0, 1) := by decide +kernel
theorem d_Tx_parse_2 : decode b_Tx_parse 2 = .ok (.invokevirtual 28, 3) := by decide +kernel
theorem d_Tx_parse_5 : decode b_Tx_parse 5 = .ok (.putfield 9, 3) := by decide +kernel
theorem d_Tx_parse_8 : decode b_Tx_parse 8 = .ok (.aload_n 0, 1) := by decide +kernel
theorem d_Tx_parse_9 : decode b_Tx_parse 9 = .ok (.iconst 0, 1) := by decide +kernel
theorem d_Tx_parse_10 : decode b_Tx_parse 10 = .ok (.putfield 32, 3) := by decide +kernel
theorem d_Tx_parse_13 : decode b_Tx_parse 13 = .ok (.aload_n 0, 1) := by decide +kernel
theorem d_Tx_parse_14 : decode b_Tx_parse 14 = .ok (.getfield 9, 3) := by decide +kernel
theorem d_Tx_parse_17 : decode b_Tx_parse 17 = .ok (.iconst (-1), 1) := by decide +kernel
theorem d_Tx_parse_18 : decode b_Tx_parse 18 = .ok (.if_icmp .ne 42, 3) := by decide +kernel
theorem d_Tx_parse_21 : decode b_Tx_parse 21 = .ok (.iconst 0, 1) := by decide +kernel
theorem d_Tx_parse_22 : decode b_Tx_parse 22 = .ok (.istore_n 1, 1) := by decide +kernel
theorem d_Tx_parse_23 : decode b_Tx_parse 23 = .ok (.iload_n 1, 1) := by decide +kernel
theorem d_Tx_parse_24 : decode b_Tx_parse 24 = .ok (.aload_n 0, 1) := by decide +kernel
theorem d_Tx_parse_25 : decode b_Tx_parse 25 = .ok (.getfield 22, 3) := by decide +kernel
theorem d_Tx_parse_28 : decode b_Tx_parse 28 = .ok (.if_icmp .ge 32, 3) := by decide +kernel
theorem d_Tx_parse_31 : decode b_Tx_parse 31 = .ok (.aload_n 0, 1) := by decide +kernel
theorem d_Tx_parse_32 : decode b_Tx_parse 32 = .ok (.aload_n 0, 1) := by decide +kernel
theorem d_Tx_parse_33 : decode b_Tx_parse 33 = .ok (.getfield 32, 3) := by decide +kernel
theorem d_Tx_parse_36 : decode b_Tx_parse 36 = .ok (.iload_n 1, 1) := by decide +kernel
theorem d_Tx_parse_37 : decode b_Tx_parse 37 = .ok (.invokevirtual 35, 3) := by decide +kernel
theorem d_Tx_parse_40 : decode b_Tx_parse 40 = .ok (.aload_n 0, 1) := by decide +kernel
theorem d_Tx_parse_41 : decode b_Tx_parse 41 = .ok (.dup, 1) := by decide +kernel
theorem d_Tx_parse_42 : decode b_Tx_parse 42 = .ok (.getfield 32, 3) := by decide +kernel
theorem d_Tx_parse_45 : decode b_Tx_parse 45 = .ok (.iconst 1, 1) := by decide +kernel
theorem d_Tx_parse_46 : decode b_Tx_parse 46 = .ok (.iadd, 1) := by decide +kernel
theorem d_Tx_parse_47 : decode b_Tx_parse 47 = .ok (.putfield 32, 3) := by decide +kernel
theorem d_Tx_parse_50 : decode b_Tx_parse 50 = .ok (.iload_n 1, 1) := by decide +kernel
theorem d_Tx_parse_51 : decode b_Tx_parse 51 = .ok (.aload_n 0, 1) := by decide +kernel
theorem d_Tx_parse_52 : decode b_Tx_parse 52 = .ok (.getfield 19, 3) := by decide +kernel
theorem d_Tx_parse_55 : decode b_Tx_parse 55 = .ok (.iadd, 1) := by decide +kernel
theorem d_Tx_parse_56 : decode b_Tx_parse 56 = .ok (.istore_n 1, 1) := by decide +kernel
theorem d_Tx_parse_57 : decode b_Tx_parse 57 = .ok (.goto (-34), 3) := by decide +kernel
theorem d_Tx_parse_60 : decode b_Tx_parse 60 = .ok (.return_, 1) := by decide +kernel
theorem d_Tx_append_0 : decode b_Tx_append 0 = .ok (.aload_n 0, 1) := by decide +kernel
theorem d_Tx_append_1 : decode b_Tx_append 1 = .ok (.getfield 22, 3) := by decide +kernel
theorem d_Tx_append_4 : decode b_Tx_append 4 = .ok (.aload_n 0, 1) := by decide +kernel
theorem d_Tx_append_5 : decode b_Tx_append 5 = .ok (.getfield 15, 3) := by decide +kernel
theorem d_Tx_append_8 : decode b_Tx_append 8 = .ok (.arraylength, 1) := by decide +kernel
theorem d_Tx_append_9 : decode b_Tx_append 9 = .ok (.if_icmp .lt 5, 3) := by decide +kernel
theorem d_Tx_append_12 : decode b_Tx_append 12 = .ok (.iconst 0, 1) := by decide +kernel
theorem d_Tx_append_13 : decode b_Tx_append 13 = .ok (.ireturn, 1) := by decide +kernel
theorem d_Tx_append_14 : decode b_Tx_append 14 = .ok (.aload_n 0, 1) := by decide +kernel
theorem d_Tx_append_15 : decode b_Tx_append 15 = .ok (.getfield 15, 3) := by decide +kernel
theorem d_Tx_append_18 : decode b_Tx_append 18 = .ok (.aload_n 0, 1) := by decide +kernel
theorem d_Tx_append_19 : decode b_Tx_append 19 = .ok (.getfield 22, 3) := by decide +kernel
theorem d_Tx_append_22 : decode b_Tx_append 22 = .ok (.iload_n 1, 1) := by decide +kernel
theorem d_Tx_append_23 : decode b_Tx_append 23 = .ok (.iastore, 1) := by decide +kernel
theorem d_Tx_append_24 : decode b_Tx_append 24 = .ok (.aload_n 0, 1) := by decide +kernel
theorem d_Tx_append_25 : decode b_Tx_append 25 = .ok (.dup, 1) := by decide +kernel
theorem d_Tx_append_26 : decode b_Tx_append 26 = .ok (.getfield 22, 3) := by decide +kernel
theorem d_Tx_append_29 : decode b_Tx_append 29 = .ok (.iconst 1, 1) := by decide +kernel
theorem d_Tx_append_30 : decode b_Tx_append 30 = .ok (.iadd, 1) := by decide +kernel
theorem d_Tx_append_31 : decode b_Tx_append 31 = .ok (.putfield 22, 3) := by decide +kernel
theorem d_Tx_append_34 : decode b_Tx_append 34 = .ok (.aload_n 0, 1) := by decide +kernel
theorem d_Tx_append_35 : decode b_Tx_append 35 = .ok (.invokevirtual 25, 3) := by decide +kernel
theorem d_Tx_append_38 : decode b_Tx_append 38 = .ok (.iconst 1, 1) := by decide +kernel
theorem d_Tx_append_39 : decode b_Tx_append 39 = .ok (.ireturn, 1) := by decide +kernel
theorem d_CS_type_0 : decode b_CS_type 0 = .ok (.iload_n 1, 1) := by decide +kernel
theorem d_CS_type_1 : decode b_CS_type 1 = .ok (.invokestatic 78, 3) := by decide +kernel
theorem d_CS_type_4 : decode b_CS_type 4 = .ok (.ifCond .eq 14, 3) := by decide +kernel
theorem d_CS_type_7 : decode b_CS_type 7 = .ok (.iload_n 2, 1) := by decide +kernel
theorem d_CS_type_8 : decode b_CS_type 8 = .ok (.ifCond .lt 10, 3) := by decide +kernel
theorem d_CS_type_11 : decode b_CS_type 11 = .ok (.iload_n 2, 1) := by decide +kernel
theorem d_CS_type_12 : decode b_CS_type 12 = .ok (.sipush 255, 3) := by decide +kernel
theorem d_CS_type_15 : decode b_CS_type 15 = .ok (.if_icmp .le 6, 3) := by decide +kernel
theorem d_CS_type_18 : decode b_CS_type 18 = .ok (.bipush (-2), 2) := by decide +kernel
theorem d_CS_type_20 : decode b_CS_type 20 = .ok (.ireturn, 1) := by decide +kernel
theorem d_CS_type_21 : decode b_CS_type 21 = .ok (.aload_n 0, 1) := by decide +kernel
theorem d_CS_type_22 : decode b_CS_type 22 = .ok (.getfield 25, 3) := by decide +kernel
theorem d_CS_type_25 : decode b_CS_type 25 = .ok (.iload_n 1, 1) := by decide +kernel
theorem d_CS_type_26 : decode b_CS_type 26 = .ok (.aaload, 1) := by decide +kernel
theorem d_CS_type_27 : decode b_CS_type 27 = .ok (.iload_n 2, 1) := by decide +kernel
theorem d_CS_type_28 : decode b_CS_type 28 = .ok (.invokevirtual 82, 3) := by decide +kernel
theorem d_CS_type_31 : decode b_CS_type 31 = .ok (.ifCond .eq 15, 3) := by decide +kernel
theorem d_CS_type_34 : decode b_CS_type 34 = .ok (.aload_n 0, 1) := by decide +kernel
theorem d_CS_type_35 : decode b_CS_type 35 = .ok (.getfield 25, 3) := by decide +kernel
theorem d_CS_type_38 : decode b_CS_type 38 = .ok (.iload_n 1, 1) := by decide +kernel
theorem d_CS_type_39 : decode b_CS_type 39 = .ok (.aaload, 1) := by decide +kernel
theorem d_CS_type_40 : decode b_CS_type 40 = .ok (.getfield 85, 3) := by decide +kernel
theorem d_CS_type_43 : decode b_CS_type 43 = .ok (.goto 5, 3) := by decide +kernel
theorem d_CS_type_46 : decode b_CS_type 46 = .ok (.bipush (-4), 2) := by decide +kernel
theorem d_CS_type_48 : decode b_CS_type 48 = .ok (.ireturn, 1) := by decide +kernel
theorem d_Tx_cutTo_0 : decode b_Tx_cutTo 0 = .ok (.aload_n 0, 1) := by decide +kernel
theorem d_Tx_cutTo_1 : decode b_Tx_cutTo 1 = .ok (.iload_n 1, 1) := by decide +kernel
theorem d_Tx_cutTo_2 : decode b_Tx_cutTo 2 = .ok (.putfield 22, 3) := by decide +kernel
theorem d_Tx_cutTo_5 : decode b_Tx_cutTo 5 = .ok (.aload_n 0, 1) := by decide +kernel
theorem d_Tx_cutTo_6 : decode b_Tx_cutTo 6 = .ok (.invokevirtual 25, 3) := by decide +kernel
theorem d_Tx_cutTo_9 : decode b_Tx_cutTo 9 = .ok (.return_, 1) := by decide +kernel
theorem d_CS_wipe_0 : decode b_CS_wipe 0 = .ok (.iload_n 1, 1) := by decide +kernel
theorem d_CS_wipe_1 : decode b_CS_wipe 1 = .ok (.invokestatic 78, 3) := by decide +kernel
theorem d_CS_wipe_4 : decode b_CS_wipe 4 = .ok (.ifCond .ne 6, 3) := by decide +kernel
theorem d_CS_wipe_7 : decode b_CS_wipe 7 = .ok (.bipush (-2), 2) := by decide +kernel
theorem d_CS_wipe_9 : decode b_CS_wipe 9 = .ok (.ireturn, 1) := by decide +kernel
theorem d_CS_wipe_10 : decode b_CS_wipe 10 = .ok (.aload_n 0, 1) := by decide +kernel
theorem d_CS_wipe_11 : decode b_CS_wipe 11 = .ok (.getfield 25, 3) := by decide +kernel
theorem d_CS_wipe_14 : decode b_CS_wipe 14 = .ok (.iload_n 1, 1) := by decide +kernel
theorem d_CS_wipe_15 : decode b_CS_wipe 15 = .ok (.aaload, 1) := by decide +kernel
theorem d_CS_wipe_16 : decode b_CS_wipe 16 = .ok (.getfield 85, 3) := by decide +kernel
theorem d_CS_wipe_19 : decode b_CS_wipe 19 = .ok (.istore_n 2, 1) := by decide +kernel
theorem d_CS_wipe_20 : decode b_CS_wipe 20 = .ok (.aload_n 0, 1) := by decide +kernel
theorem d_CS_wipe_21 : decode b_CS_wipe 21 = .ok (.getfield 25, 3) := by decide +kernel
theorem d_CS_wipe_24 : decode b_CS_wipe 24 = .ok (.iload_n 1, 1) := by decide +kernel
theorem d_CS_wipe_25 : decode b_CS_wipe 25 = .ok (.aaload, 1) := by decide +kernel
theorem d_CS_wipe_26 : decode b_CS_wipe 26 = .ok (.iconst 0, 1) := by decide +kernel
theorem d_CS_wipe_27 : decode b_CS_wipe 27 = .ok (.invokevirtual 89, 3) := by decide +kernel
theorem d_CS_wipe_30 : decode b_CS_wipe 30 = .ok (.iload_n 2, 1) := by decide +kernel
theorem d_CS_wipe_31 : decode b_CS_wipe 31 = .ok (.ireturn, 1) := by decide +kernel
theorem d_CS_undo_0 : decode b_CS_undo 0 = .ok (.iload_n 1, 1) := by decide +kernel
theorem d_CS_undo_1 : decode b_CS_undo 1 = .ok (.invokestatic 78, 3) := by decide +kernel
theorem d_CS_undo_4 : decode b_CS_undo 4 = .ok (.ifCond .ne 6, 3) := by decide +kernel
theorem d_CS_undo_7 : decode b_CS_undo 7 = .ok (.bipush (-2), 2) := by decide +kernel
theorem d_CS_undo_9 : decode b_CS_undo 9 = .ok (.ireturn, 1) := by decide +kernel
theorem d_CS_undo_10 : decode b_CS_undo 10 = .ok (.aload_n 0, 1) := by decide +kernel
theorem d_CS_undo_11 : decode b_CS_undo 11 = .ok (.getfield 25, 3) := by decide +kernel
theorem d_CS_undo_14 : decode b_CS_undo 14 = .ok (.iload_n 1, 1) := by decide +kernel
theorem d_CS_undo_15 : decode b_CS_undo 15 = .ok (.aaload, 1) := by decide +kernel
theorem d_CS_undo_16 : decode b_CS_undo 16 = .ok (.getfield 85, 3) := by decide +kernel
theorem d_CS_undo_19 : decode b_CS_undo 19 = .ok (.istore_n 2, 1) := by decide +kernel
theorem d_CS_undo_20 : decode b_CS_undo 20 = .ok (.iload_n 2, 1) := by decide +kernel
theorem d_CS_undo_21 : decode b_CS_undo 21 = .ok (.ifCond .ne 6, 3) := by decide +kernel
theorem d_CS_undo_24 : decode b_CS_undo 24 = .ok (.bipush (-3), 2) := by decide +kernel
theorem d_CS_undo_26 : decode b_CS_undo 26 = .ok (.ireturn, 1) := by decide +kernel
theorem d_CS_undo_27 : decode b_CS_undo 27 = .ok (.aload_n 0, 1) := by decide +kernel
theorem d_CS_undo_28 : decode b_CS_undo 28 = .ok (.getfield 25, 3) := by decide +kernel
theorem d_CS_undo_31 : decode b_CS_undo 31 = .ok (.iload_n 1, 1) := by decide +kernel
theorem d_CS_undo_32 : decode b_CS_undo 32 = .ok (.aaload, 1) := by decide +kernel
theorem d_CS_undo_33 : decode b_CS_undo 33 = .ok (.iload_n 2, 1) := by decide +kernel
theorem d_CS_undo_34 : decode b_CS_undo 34 = .ok (.iconst 1, 1) := by decide +kernel
theorem d_CS_undo_35 : decode b_CS_undo 35 = .ok (.isub, 1) := by decide +kernel
theorem d_CS_undo_36 : decode b_CS_undo 36 = .ok (.invokevirtual 89, 3) := by decide +kernel
theorem d_CS_undo_39 : decode b_CS_undo 39 = .ok (.iload_n 2, 1) := by decide +kernel
theorem d_CS_undo_40 : decode b_CS_undo 40 = .ok (.iconst 1, 1) := by decide +kernel
theorem d_CS_undo_41 : decode b_CS_undo 41 = .ok (.isub, 1) := by decide +kernel
theorem d_CS_undo_42 : decode b_CS_undo 42 = .ok (.ireturn, 1) := by decide +kernel
theorem d_CS_fault_0 : decode b_CS_fault 0 = .ok (.iload_n 1, 1) := by decide +kernel
theorem d_CS_fault_1 : decode b_CS_fault 1 = .ok (.invokestatic 78, 3) := by decide +kernel
theorem d_CS_fault_4 : decode b_CS_fault 4 = .ok (.ifCond .eq 15, 3) := by decide +kernel
theorem d_CS_fault_7 : decode b_CS_fault 7 = .ok (.aload_n 0, 1) := by decide +kernel
theorem d_CS_fault_8 : decode b_CS_fault 8 = .ok (.getfield 25, 3) := by decide +kernel
theorem d_CS_fault_11 : decode b_CS_fault 11 = .ok (.iload_n 1, 1) := by decide +kernel
theorem d_CS_fault_12 : decode b_CS_fault 12 = .ok (.aaload, 1) := by decide +kernel
theorem d_CS_fault_13 : decode b_CS_fault 13 = .ok (.getfield 93, 3) := by decide +kernel
theorem d_CS_fault_16 : decode b_CS_fault 16 = .ok (.goto 5, 3) := by decide +kernel
theorem d_CS_fault_19 : decode b_CS_fault 19 = .ok (.bipush (-2), 2) := by decide +kernel
theorem d_CS_fault_21 : decode b_CS_fault 21 = .ok (.ireturn, 1) := by decide +kernel
theorem d_CS_isCamel_0 : decode b_CS_isCamel 0 = .ok (.iload_n 1, 1) := by decide +kernel
theorem d_CS_isCamel_1 : decode b_CS_isCamel 1 = .ok (.ifCond .lt 18, 3) := by decide +kernel
theorem d_CS_isCamel_4 : decode b_CS_isCamel 4 = .ok (.iload_n 1, 1) := by decide +kernel
theorem d_CS_isCamel_5 : decode b_CS_isCamel 5 = .ok (.aload_n 0, 1) := by decide +kernel
theorem d_CS_isCamel_6 : decode b_CS_isCamel 6 = .ok (.getfield 10, 3) := by decide +kernel
theorem d_CS_isCamel_9 : decode b_CS_isCamel 9 = .ok (.getfield 229, 3) := by decide +kernel
theorem d_CS_isCamel_12 : decode b_CS_isCamel 12 = .ok (.if_icmp .ge 7, 3) := by decide +kernel
theorem d_CS_isCamel_15 : decode b_CS_isCamel 15 = .ok (.iconst 1, 1) := by decide +kernel
theorem d_CS_isCamel_16 : decode b_CS_isCamel 16 = .ok (.goto 4, 3) := by decide +kernel
theorem d_CS_isCamel_19 : decode b_CS_isCamel 19 = .ok (.iconst 0, 1) := by decide +kernel
theorem d_CS_isCamel_20 : decode b_CS_isCamel 20 = .ok (.ireturn, 1) := by decide +kernel
theorem d_CS_strengthOf_0 : decode b_CS_strengthOf 0 = .ok (.iconst 4, 1) := by decide +kernel
theorem d_CS_strengthOf_1 : decode b_CS_strengthOf 1 = .ok (.iload_n 0, 1) := by decide +kernel
theorem d_CS_strengthOf_2 : decode b_CS_strengthOf 2 = .ok (.imul, 1) := by decide +kernel
theorem d_CS_strengthOf_3 : decode b_CS_strengthOf 3 = .ok (.ireturn, 1) := by decide +kernel
theorem d_CS_camel_0 : decode b_CS_camel 0 = .ok (.aload_n 0, 1) := by decide +kernel
theorem d_CS_camel_1 : decode b_CS_camel 1 = .ok (.iload_n 1, 1) := by decide +kernel
theorem d_CS_camel_2 : decode b_CS_camel 2 = .ok (.invokevirtual 96, 3) := by decide +kernel
theorem d_CS_camel_5 : decode b_CS_camel 5 = .ok (.ifCond .eq 12, 3) := by decide +kernel
theorem d_CS_camel_8 : decode b_CS_camel 8 = .ok (.iload_n 2, 1) := by decide +kernel
theorem d_CS_camel_9 : decode b_CS_camel 9 = .ok (.ifCond .lt 8, 3) := by decide +kernel
theorem d_CS_camel_12 : decode b_CS_camel 12 = .ok (.iload_n 2, 1) := by decide +kernel
theorem d_CS_camel_13 : decode b_CS_camel 13 = .ok (.iconst 1, 1) := by decide +kernel
theorem d_CS_camel_14 : decode b_CS_camel 14 = .ok (.if_icmp .le 6, 3) := by decide +kernel
theorem d_CS_camel_17 : decode b_CS_camel 17 = .ok (.bipush (-2), 2) := by decide +kernel
theorem d_CS_camel_19 : decode b_CS_camel 19 = .ok (.ireturn, 1) := by decide +kernel
theorem d_CS_camel_20 : decode b_CS_camel 20 = .ok (.iload_n 2, 1) := by decide +kernel
theorem d_CS_camel_21 : decode b_CS_camel 21 = .ok (.ifCond .ne 15, 3) := by decide +kernel
theorem d_CS_camel_24 : decode b_CS_camel 24 = .ok (.aload_n 0, 1) := by decide +kernel
theorem d_CS_camel_25 : decode b_CS_camel 25 = .ok (.getfield 10, 3) := by decide +kernel
theorem d_CS_camel_28 : decode b_CS_camel 28 = .ok (.getfield 99, 3) := by decide +kernel
theorem d_CS_camel_31 : decode b_CS_camel 31 = .ok (.iload_n 1, 1) := by decide +kernel
theorem d_CS_camel_32 : decode b_CS_camel 32 = .ok (.iaload, 1) := by decide +kernel
theorem d_CS_camel_33 : decode b_CS_camel 33 = .ok (.goto 15, 3) := by decide +kernel
theorem d_CS_camel_36 : decode b_CS_camel 36 = .ok (.aload_n 0, 1) := by decide +kernel
theorem d_CS_camel_37 : decode b_CS_camel 37 = .ok (.getfield 10, 3) := by decide +kernel
theorem d_CS_camel_40 : decode b_CS_camel 40 = .ok (.getfield 103, 3) := by decide +kernel
theorem d_CS_camel_43 : decode b_CS_camel 43 = .ok (.iload_n 1, 1) := by decide +kernel
theorem d_CS_camel_44 : decode b_CS_camel 44 = .ok (.iaload, 1) := by decide +kernel
theorem d_CS_camel_45 : decode b_CS_camel 45 = .ok (.invokestatic 106, 3) := by decide +kernel
theorem d_CS_camel_48 : decode b_CS_camel 48 = .ok (.ireturn, 1) := by decide +kernel
theorem d_CS_isBale_0 : decode b_CS_isBale 0 = .ok (.iload_n 1, 1) := by decide +kernel
theorem d_CS_isBale_1 : decode b_CS_isBale 1 = .ok (.ifCond .lt 18, 3) := by decide +kernel
theorem d_CS_isBale_4 : decode b_CS_isBale 4 = .ok (.iload_n 1, 1) := by decide +kernel
theorem d_CS_isBale_5 : decode b_CS_isBale 5 = .ok (.aload_n 0, 1) := by decide +kernel
theorem d_CS_isBale_6 : decode b_CS_isBale 6 = .ok (.getfield 19, 3) := by decide +kernel
theorem d_CS_isBale_9 : decode b_CS_isBale 9 = .ok (.getfield 269, 3) := by decide +kernel
theorem d_CS_isBale_12 : decode b_CS_isBale 12 = .ok (.if_icmp .ge 7, 3) := by decide +kernel
theorem d_CS_isBale_15 : decode b_CS_isBale 15 = .ok (.iconst 1, 1) := by decide +kernel
theorem d_CS_isBale_16 : decode b_CS_isBale 16 = .ok (.goto 4, 3) := by decide +kernel
theorem d_CS_isBale_19 : decode b_CS_isBale 19 = .ok (.iconst 0, 1) := by decide +kernel
theorem d_CS_isBale_20 : decode b_CS_isBale 20 = .ok (.ireturn, 1) := by decide +kernel
theorem d_CS_bale_0 : decode b_CS_bale 0 = .ok (.aload_n 0, 1) := by decide +kernel
theorem d_CS_bale_1 : decode b_CS_bale 1 = .ok (.iload_n 1, 1) := by decide +kernel
theorem d_CS_bale_2 : decode b_CS_bale 2 = .ok (.invokevirtual 110, 3) := by decide +kernel
theorem d_CS_bale_5 : decode b_CS_bale 5 = .ok (.ifCond .ne 6, 3) := by decide +kernel
theorem d_CS_bale_8 : decode b_CS_bale 8 = .ok (.bipush (-2), 2) := by decide +kernel
theorem d_CS_bale_10 : decode b_CS_bale 10 = .ok (.ireturn, 1) := by decide +kernel
theorem d_CS_bale_11 : decode b_CS_bale 11 = .ok (.iload_n 2, 1) := by decide +kernel
theorem d_CS_bale_12 : decode b_CS_bale 12 = .ok (.tableswitch 58 0 2 #[28, 38, 48], 28) := by decide +kernel
theorem d_CS_bale_40 : decode b_CS_bale 40 = .ok (.aload_n 0, 1) := by decide +kernel
theorem d_CS_bale_41 : decode b_CS_bale 41 = .ok (.getfield 19, 3) := by decide +kernel
theorem d_CS_bale_44 : decode b_CS_bale 44 = .ok (.getfield 113, 3) := by decide +kernel
theorem d_CS_bale_47 : decode b_CS_bale 47 = .ok (.iload_n 1, 1) := by decide +kernel
theorem d_CS_bale_48 : decode b_CS_bale 48 = .ok (.iaload, 1) := by decide +kernel
theorem d_CS_bale_49 : decode b_CS_bale 49 = .ok (.ireturn, 1) := by decide +kernel
theorem d_CS_bale_50 : decode b_CS_bale 50 = .ok (.aload_n 0, 1) := by decide +kernel
theorem d_CS_bale_51 : decode b_CS_bale 51 = .ok (.getfield 19, 3) := by decide +kernel
theorem d_CS_bale_54 : decode b_CS_bale 54 = .ok (.getfield 115, 3) := by decide +kernel
theorem d_CS_bale_57 : decode b_CS_bale 57 = .ok (.iload_n 1, 1) := by decide +kernel
theorem d_CS_bale_58 : decode b_CS_bale 58 = .ok (.iaload, 1) := by decide +kernel
theorem d_CS_bale_59 : decode b_CS_bale 59 = .ok (.ireturn, 1) := by decide +kernel
theorem d_CS_bale_60 : decode b_CS_bale 60 = .ok (.aload_n 0, 1) := by decide +kernel
theorem d_CS_bale_61 : decode b_CS_bale 61 = .ok (.getfield 19, 3) := by decide +kernel
theorem d_CS_bale_64 : decode b_CS_bale 64 = .ok (.getfield 118, 3) := by decide +kernel
theorem d_CS_bale_67 : decode b_CS_bale 67 = .ok (.iload_n 1, 1) := by decide +kernel
theorem d_CS_bale_68 : decode b_CS_bale 68 = .ok (.iaload, 1) := by decide +kernel
theorem d_CS_bale_69 : decode b_CS_bale 69 = .ok (.ireturn, 1) := by decide +kernel
theorem d_CS_bale_70 : decode b_CS_bale 70 = .ok (.bipush (-2), 2) := by decide +kernel
theorem d_CS_bale_72 : decode b_CS_bale 72 = .ok (.ireturn, 1) := by decide +kernel
theorem d_CS_isDay_0 : decode b_CS_isDay 0 = .ok (.iload_n 0, 1) := by decide +kernel
theorem d_CS_isDay_1 : decode b_CS_isDay 1 = .ok (.ifCond .lt 13, 3) := by decide +kernel
theorem d_CS_isDay_4 : decode b_CS_isDay 4 = .ok (.iload_n 0, 1) := by decide +kernel
theorem d_CS_isDay_5 : decode b_CS_isDay 5 = .ok (.bipush 24, 2) := by decide +kernel
theorem d_CS_isDay_7 : decode b_CS_isDay 7 = .ok (.if_icmp .ge 7, 3) := by decide +kernel
theorem d_CS_isDay_10 : decode b_CS_isDay 10 = .ok (.iconst 1, 1) := by decide +kernel
theorem d_CS_isDay_11 : decode b_CS_isDay 11 = .ok (.goto 4, 3) := by decide +kernel
theorem d_CS_isDay_14 : decode b_CS_isDay 14 = .ok (.iconst 0, 1) := by decide +kernel
theorem d_CS_isDay_15 : decode b_CS_isDay 15 = .ok (.ireturn, 1) := by decide +kernel
theorem d_CS_isPlaceOfCamel_0 : decode b_CS_isPlaceOfCamel 0 = .ok (.iload_n 0, 1) := by decide +kernel
theorem d_CS_isPlaceOfCamel_1 : decode b_CS_isPlaceOfCamel 1 = .ok (.ifCond .lt 13, 3) := by decide +kernel
theorem d_CS_isPlaceOfCamel_4 : decode b_CS_isPlaceOfCamel 4 = .ok (.iload_n 0, 1) := by decide +kernel
theorem d_CS_isPlaceOfCamel_5 : decode b_CS_isPlaceOfCamel 5 = .ok (.bipush 8, 2) := by decide +kernel
theorem d_CS_isPlaceOfCamel_7 : decode b_CS_isPlaceOfCamel 7 = .ok (.if_icmp .ge 7, 3) := by decide +kernel
theorem d_CS_isPlaceOfCamel_10 : decode b_CS_isPlaceOfCamel 10 = .ok (.iconst 1, 1) := by decide +kernel
theorem d_CS_isPlaceOfCamel_11 : decode b_CS_isPlaceOfCamel 11 = .ok (.goto 4, 3) := by decide +kernel
theorem d_CS_isPlaceOfCamel_14 : decode b_CS_isPlaceOfCamel 14 = .ok (.iconst 0, 1) := by decide +kernel
theorem d_CS_isPlaceOfCamel_15 : decode b_CS_isPlaceOfCamel 15 = .ok (.ireturn, 1) := by decide +kernel
theorem d_St_append_0 : decode b_St_append 0 = .ok (.aload_n 0, 1) := by decide +kernel
theorem d_St_append_1 : decode b_St_append 1 = .ok (.getfield 18, 3) := by decide +kernel
theorem d_St_append_4 : decode b_St_append 4 = .ok (.bipush 8, 2) := by decide +kernel
theorem d_St_append_6 : decode b_St_append 6 = .ok (.if_icmp .lt 5, 3) := by decide +kernel
theorem d_St_append_9 : decode b_St_append 9 = .ok (.iconst 0, 1) := by decide +kernel
theorem d_St_append_10 : decode b_St_append 10 = .ok (.ireturn, 1) := by decide +kernel
theorem d_St_append_11 : decode b_St_append 11 = .ok (.aload_n 0, 1) := by decide +kernel
theorem d_St_append_12 : decode b_St_append 12 = .ok (.getfield 9, 3) := by decide +kernel
theorem d_St_append_15 : decode b_St_append 15 = .ok (.aload_n 0, 1) := by decide +kernel
theorem d_St_append_16 : decode b_St_append 16 = .ok (.getfield 18, 3) := by decide +kernel
theorem d_St_append_19 : decode b_St_append 19 = .ok (.iload_n 1, 1) := by decide +kernel
theorem d_St_append_20 : decode b_St_append 20 = .ok (.iastore, 1) := by decide +kernel
theorem d_St_append_21 : decode b_St_append 21 = .ok (.aload_n 0, 1) := by decide +kernel
theorem d_St_append_22 : decode b_St_append 22 = .ok (.getfield 15, 3) := by decide +kernel
theorem d_St_append_25 : decode b_St_append 25 = .ok (.aload_n 0, 1) := by decide +kernel
theorem d_St_append_26 : decode b_St_append 26 = .ok (.getfield 18, 3) := by decide +kernel
theorem d_St_append_29 : decode b_St_append 29 = .ok (.iload_n 2, 1) := by decide +kernel
theorem d_St_append_30 : decode b_St_append 30 = .ok (.iastore, 1) := by decide +kernel
theorem d_St_append_31 : decode b_St_append 31 = .ok (.aload_n 0, 1) := by decide +kernel
theorem d_St_append_32 : decode b_St_append 32 = .ok (.dup, 1) := by decide +kernel
theorem d_St_append_33 : decode b_St_append 33 = .ok (.getfield 18, 3) := by decide +kernel
theorem d_St_append_36 : decode b_St_append 36 = .ok (.iconst 1, 1) := by decide +kernel
theorem d_St_append_37 : decode b_St_append 37 = .ok (.iadd, 1) := by decide +kernel
theorem d_St_append_38 : decode b_St_append 38 = .ok (.putfield 18, 3) := by decide +kernel
theorem d_St_append_41 : decode b_St_append 41 = .ok (.iconst 1, 1) := by decide +kernel
theorem d_St_append_42 : decode b_St_append 42 = .ok (.ireturn, 1) := by decide +kernel
theorem d_CS_straw_0 : decode b_CS_straw 0 = .ok (.iload_n 1, 1) := by decide +kernel
theorem d_CS_straw_1 : decode b_CS_straw 1 = .ok (.invokestatic 121, 3) := by decide +kernel
theorem d_CS_straw_4 : decode b_CS_straw 4 = .ok (.ifCond .eq 10, 3) := by decide +kernel
theorem d_CS_straw_7 : decode b_CS_straw 7 = .ok (.iload_n 2, 1) := by decide +kernel
theorem d_CS_straw_8 : decode b_CS_straw 8 = .ok (.invokestatic 124, 3) := by decide +kernel
theorem d_CS_straw_11 : decode b_CS_straw 11 = .ok (.ifCond .ne 6, 3) := by decide +kernel
theorem d_CS_straw_14 : decode b_CS_straw 14 = .ok (.bipush (-2), 2) := by decide +kernel
theorem d_CS_straw_16 : decode b_CS_straw 16 = .ok (.ireturn, 1) := by decide +kernel
theorem d_CS_straw_17 : decode b_CS_straw 17 = .ok (.aload_n 0, 1) := by decide +kernel
theorem d_CS_straw_18 : decode b_CS_straw 18 = .ok (.getfield 32, 3) := by decide +kernel
theorem d_CS_straw_21 : decode b_CS_straw 21 = .ok (.iload_n 1, 1) := by decide +kernel
theorem d_CS_straw_22 : decode b_CS_straw 22 = .ok (.iload_n 2, 1) := by decide +kernel
theorem d_CS_straw_23 : decode b_CS_straw 23 = .ok (.invokevirtual 127, 3) := by decide +kernel
theorem d_CS_straw_26 : decode b_CS_straw 26 = .ok (.ifCond .eq 13, 3) := by decide +kernel
theorem d_CS_straw_29 : decode b_CS_straw 29 = .ok (.aload_n 0, 1) := by decide +kernel
theorem d_CS_straw_30 : decode b_CS_straw 30 = .ok (.getfield 32, 3) := by decide +kernel
theorem d_CS_straw_33 : decode b_CS_straw 33 = .ok (.getfield 130, 3) := by decide +kernel
theorem d_CS_straw_36 : decode b_CS_straw 36 = .ok (.goto 5, 3) := by decide +kernel
theorem d_CS_straw_39 : decode b_CS_straw 39 = .ok (.bipush (-4), 2) := by decide +kernel
theorem d_CS_straw_41 : decode b_CS_straw 41 = .ok (.ireturn, 1) := by decide +kernel
theorem d_CS_back_0 : decode b_CS_back 0 = .ok (.aload_n 0, 1) := by decide +kernel
theorem d_CS_back_1 : decode b_CS_back 1 = .ok (.getfield 32, 3) := by decide +kernel
theorem d_CS_back_4 : decode b_CS_back 4 = .ok (.getfield 130, 3) := by decide +kernel
theorem d_CS_back_7 : decode b_CS_back 7 = .ok (.ifCond .ne 6, 3) := by decide +kernel
theorem d_CS_back_10 : decode b_CS_back 10 = .ok (.bipush (-3), 2) := by decide +kernel
theorem d_CS_back_12 : decode b_CS_back 12 = .ok (.ireturn, 1) := by decide +kernel
theorem d_CS_back_13 : decode b_CS_back 13 = .ok (.aload_n 0, 1) := by decide +kernel
theorem d_CS_back_14 : decode b_CS_back 14 = .ok (.getfield 32, 3) := by decide +kernel
theorem d_CS_back_17 : decode b_CS_back 17 = .ok (.dup, 1) := by decide +kernel
theorem d_CS_back_18 : decode b_CS_back 18 = .ok (.getfield 130, 3) := by decide +kernel
theorem d_CS_back_21 : decode b_CS_back 21 = .ok (.iconst 1, 1) := by decide +kernel
theorem d_CS_back_22 : decode b_CS_back 22 = .ok (.isub, 1) := by decide +kernel
theorem d_CS_back_23 : decode b_CS_back 23 = .ok (.putfield 130, 3) := by decide +kernel
theorem d_CS_back_26 : decode b_CS_back 26 = .ok (.aload_n 0, 1) := by decide +kernel
theorem d_CS_back_27 : decode b_CS_back 27 = .ok (.getfield 32, 3) := by decide +kernel
theorem d_CS_back_30 : decode b_CS_back 30 = .ok (.getfield 130, 3) := by decide +kernel
theorem d_CS_back_33 : decode b_CS_back 33 = .ok (.ireturn, 1) := by decide +kernel
theorem d_CS_isSheet_0 : decode b_CS_isSheet 0 = .ok (.iload_n 0, 1) := by decide +kernel
theorem d_CS_isSheet_1 : decode b_CS_isSheet 1 = .ok (.ifCond .lt 12, 3) := by decide +kernel
theorem d_CS_isSheet_4 : decode b_CS_isSheet 4 = .ok (.iload_n 0, 1) := by decide +kernel
theorem d_CS_isSheet_5 : decode b_CS_isSheet 5 = .ok (.iconst 4, 1) := by decide +kernel
theorem d_CS_isSheet_6 : decode b_CS_isSheet 6 = .ok (.if_icmp .ge 7, 3) := by decide +kernel
theorem d_CS_isSheet_9 : decode b_CS_isSheet 9 = .ok (.iconst 1, 1) := by decide +kernel
theorem d_CS_isSheet_10 : decode b_CS_isSheet 10 = .ok (.goto 4, 3) := by decide +kernel
theorem d_CS_isSheet_13 : decode b_CS_isSheet 13 = .ok (.iconst 0, 1) := by decide +kernel
theorem d_CS_isSheet_14 : decode b_CS_isSheet 14 = .ok (.ireturn, 1) := by decide +kernel
theorem d_Sh_isLost_0 : decode b_Sh_isLost 0 = .ok (.aload_n 0, 1) := by decide +kernel
theorem d_Sh_isLost_1 : decode b_Sh_isLost 1 = .ok (.getfield 15, 3) := by decide +kernel
theorem d_Sh_isLost_4 : decode b_Sh_isLost 4 = .ok (.iconst (-1), 1) := by decide +kernel
theorem d_Sh_isLost_5 : decode b_Sh_isLost 5 = .ok (.if_icmp .ne 7, 3) := by decide +kernel
theorem d_Sh_isLost_8 : decode b_Sh_isLost 8 = .ok (.iconst 1, 1) := by decide +kernel
theorem d_Sh_isLost_9 : decode b_Sh_isLost 9 = .ok (.goto 4, 3) := by decide +kernel
theorem d_Sh_isLost_12 : decode b_Sh_isLost 12 = .ok (.iconst 0, 1) := by decide +kernel
theorem d_Sh_isLost_13 : decode b_Sh_isLost 13 = .ok (.ireturn, 1) := by decide +kernel
theorem d_CS_finding_0 : decode b_CS_finding 0 = .ok (.aload_n 0, 1) := by decide +kernel
theorem d_CS_finding_1 : decode b_CS_finding 1 = .ok (.iload_n 1, 1) := by decide +kernel
theorem d_CS_finding_2 : decode b_CS_finding 2 = .ok (.putfield 249, 3) := by decide +kernel
theorem d_CS_finding_5 : decode b_CS_finding 5 = .ok (.bipush (-10), 2) := by decide +kernel
theorem d_CS_finding_7 : decode b_CS_finding 7 = .ok (.iload_n 1, 1) := by decide +kernel
theorem d_CS_finding_8 : decode b_CS_finding 8 = .ok (.isub, 1) := by decide +kernel
theorem d_CS_finding_9 : decode b_CS_finding 9 = .ok (.ireturn, 1) := by decide +kernel
theorem d_CS_read_0 : decode b_CS_read 0 = .ok (.iload_n 1, 1) := by decide +kernel
theorem d_CS_read_1 : decode b_CS_read 1 = .ok (.invokestatic 133, 3) := by decide +kernel
theorem d_CS_read_4 : decode b_CS_read 4 = .ok (.ifCond .ne 6, 3) := by decide +kernel
theorem d_CS_read_7 : decode b_CS_read 7 = .ok (.bipush (-2), 2) := by decide +kernel
theorem d_CS_read_9 : decode b_CS_read 9 = .ok (.ireturn, 1) := by decide +kernel
theorem d_CS_read_10 : decode b_CS_read 10 = .ok (.aload_n 0, 1) := by decide +kernel
theorem d_CS_read_11 : decode b_CS_read 11 = .ok (.getfield 74, 3) := by decide +kernel
theorem d_CS_read_14 : decode b_CS_read 14 = .ok (.iload_n 1, 1) := by decide +kernel
theorem d_CS_read_15 : decode b_CS_read 15 = .ok (.aaload, 1) := by decide +kernel
theorem d_CS_read_16 : decode b_CS_read 16 = .ok (.astore_n 2, 1) := by decide +kernel
theorem d_CS_read_17 : decode b_CS_read 17 = .ok (.aload_n 2, 1) := by decide +kernel
theorem d_CS_read_18 : decode b_CS_read 18 = .ok (.invokevirtual 136, 3) := by decide +kernel
theorem d_CS_read_21 : decode b_CS_read 21 = .ok (.ifCond .eq 9, 3) := by decide +kernel
theorem d_CS_read_24 : decode b_CS_read 24 = .ok (.aload_n 0, 1) := by decide +kernel
theorem d_CS_read_25 : decode b_CS_read 25 = .ok (.iconst 1, 1) := by decide +kernel
theorem d_CS_read_26 : decode b_CS_read 26 = .ok (.invokevirtual 140, 3) := by decide +kernel
theorem d_CS_read_29 : decode b_CS_read 29 = .ok (.ireturn, 1) := by decide +kernel
theorem d_CS_read_30 : decode b_CS_read 30 = .ok (.iconst 0, 1) := by decide +kernel
theorem d_CS_read_31 : decode b_CS_read 31 = .ok (.istore_n 3, 1) := by decide +kernel
theorem d_CS_read_32 : decode b_CS_read 32 = .ok (.iconst 0, 1) := by decide +kernel
theorem d_CS_read_33 : decode b_CS_read 33 = .ok (.istore 4, 2) := by decide +kernel
theorem d_CS_read_35 : decode b_CS_read 35 = .ok (.iload 4, 2) := by decide +kernel
theorem d_CS_read_37 : decode b_CS_read 37 = .ok (.iconst 1, 1) := by decide +kernel
theorem d_CS_read_38 : decode b_CS_read 38 = .ok (.iadd, 1) := by decide +kernel
theorem d_CS_read_39 : decode b_CS_read 39 = .ok (.aload_n 2, 1) := by decide +kernel
theorem d_CS_read_40 : decode b_CS_read 40 = .ok (.getfield 143, 3) := by decide +kernel
theorem d_CS_read_43 : decode b_CS_read 43 = .ok (.if_icmp .ge 38, 3) := by decide +kernel
theorem d_CS_read_46 : decode b_CS_read 46 = .ok (.aload_n 0, 1) := by decide +kernel
theorem d_CS_read_47 : decode b_CS_read 47 = .ok (.aload_n 2, 1) := by decide +kernel
theorem d_CS_read_48 : decode b_CS_read 48 = .ok (.getfield 144, 3) := by decide +kernel
theorem d_CS_read_51 : decode b_CS_read 51 = .ok (.iload 4, 2) := by decide +kernel
theorem d_CS_read_53 : decode b_CS_read 53 = .ok (.iaload, 1) := by decide +kernel
theorem d_CS_read_54 : decode b_CS_read 54 = .ok (.aload_n 2, 1) := by decide +kernel
theorem d_CS_read_55 : decode b_CS_read 55 = .ok (.getfield 144, 3) := by decide +kernel
theorem d_CS_read_58 : decode b_CS_read 58 = .ok (.iload 4, 2) := by decide +kernel
theorem d_CS_read_60 : decode b_CS_read 60 = .ok (.iconst 1, 1) := by decide +kernel
theorem d_CS_read_61 : decode b_CS_read 61 = .ok (.iadd, 1) := by decide +kernel
theorem d_CS_read_62 : decode b_CS_read 62 = .ok (.iaload, 1) := by decide +kernel
theorem d_CS_read_63 : decode b_CS_read 63 = .ok (.invokevirtual 147, 3) := by decide +kernel
theorem d_CS_read_66 : decode b_CS_read 66 = .ok (.ifCond .ge 6, 3) := by decide +kernel
theorem d_CS_read_69 : decode b_CS_read 69 = .ok (.goto 12, 3) := by decide +kernel
theorem d_CS_read_72 : decode b_CS_read 72 = .ok (.iinc 3 1, 3) := by decide +kernel
theorem d_CS_read_75 : decode b_CS_read 75 = .ok (.iinc 4 2, 3) := by decide +kernel
theorem d_CS_read_78 : decode b_CS_read 78 = .ok (.goto (-43), 3) := by decide +kernel
theorem d_CS_read_81 : decode b_CS_read 81 = .ok (.iload_n 3, 1) := by decide +kernel
theorem d_CS_read_82 : decode b_CS_read 82 = .ok (.ireturn, 1) := by decide +kernel
theorem d_Cv_busyDaysOf_0 : decode b_Cv_busyDaysOf 0 = .ok (.iconst 0, 1) := by decide +kernel
theorem d_Cv_busyDaysOf_1 : decode b_Cv_busyDaysOf 1 = .ok (.istore_n 2, 1) := by decide +kernel
theorem d_Cv_busyDaysOf_2 : decode b_Cv_busyDaysOf 2 = .ok (.iconst 0, 1) := by decide +kernel
theorem d_Cv_busyDaysOf_3 : decode b_Cv_busyDaysOf 3 = .ok (.istore_n 3, 1) := by decide +kernel
theorem d_Cv_busyDaysOf_4 : decode b_Cv_busyDaysOf 4 = .ok (.iload_n 3, 1) := by decide +kernel
theorem d_Cv_busyDaysOf_5 : decode b_Cv_busyDaysOf 5 = .ok (.aload_n 0, 1) := by decide +kernel
theorem d_Cv_busyDaysOf_6 : decode b_Cv_busyDaysOf 6 = .ok (.getfield 26, 3) := by decide +kernel
theorem d_Cv_busyDaysOf_9 : decode b_Cv_busyDaysOf 9 = .ok (.getfield 54, 3) := by decide +kernel
theorem d_Cv_busyDaysOf_12 : decode b_Cv_busyDaysOf 12 = .ok (.if_icmp .ge 36, 3) := by decide +kernel
theorem d_Cv_busyDaysOf_15 : decode b_Cv_busyDaysOf 15 = .ok (.aload_n 0, 1) := by decide +kernel
theorem d_Cv_busyDaysOf_16 : decode b_Cv_busyDaysOf 16 = .ok (.getfield 26, 3) := by decide +kernel
theorem d_Cv_busyDaysOf_19 : decode b_Cv_busyDaysOf 19 = .ok (.getfield 63, 3) := by decide +kernel
theorem d_Cv_busyDaysOf_22 : decode b_Cv_busyDaysOf 22 = .ok (.iload_n 3, 1) := by decide +kernel
theorem d_Cv_busyDaysOf_23 : decode b_Cv_busyDaysOf 23 = .ok (.iaload, 1) := by decide +kernel
theorem d_Cv_busyDaysOf_24 : decode b_Cv_busyDaysOf 24 = .ok (.iload_n 1, 1) := by decide +kernel
theorem d_Cv_busyDaysOf_25 : decode b_Cv_busyDaysOf 25 = .ok (.if_icmp .ne 17, 3) := by decide +kernel
theorem d_Cv_busyDaysOf_28 : decode b_Cv_busyDaysOf 28 = .ok (.iload_n 2, 1) := by decide +kernel
theorem d_Cv_busyDaysOf_29 : decode b_Cv_busyDaysOf 29 = .ok (.iconst 1, 1) := by decide +kernel
theorem d_Cv_busyDaysOf_30 : decode b_Cv_busyDaysOf 30 = .ok (.aload_n 0, 1) := by decide +kernel
theorem d_Cv_busyDaysOf_31 : decode b_Cv_busyDaysOf 31 = .ok (.getfield 26, 3) := by decide +kernel
theorem d_Cv_busyDaysOf_34 : decode b_Cv_busyDaysOf 34 = .ok (.getfield 60, 3) := by decide +kernel
theorem d_Cv_busyDaysOf_37 : decode b_Cv_busyDaysOf 37 = .ok (.iload_n 3, 1) := by decide +kernel
theorem d_Cv_busyDaysOf_38 : decode b_Cv_busyDaysOf 38 = .ok (.iaload, 1) := by decide +kernel
theorem d_Cv_busyDaysOf_39 : decode b_Cv_busyDaysOf 39 = .ok (.ishl, 1) := by decide +kernel
theorem d_Cv_busyDaysOf_40 : decode b_Cv_busyDaysOf 40 = .ok (.ior, 1) := by decide +kernel
theorem d_Cv_busyDaysOf_41 : decode b_Cv_busyDaysOf 41 = .ok (.istore_n 2, 1) := by decide +kernel
theorem d_Cv_busyDaysOf_42 : decode b_Cv_busyDaysOf 42 = .ok (.iinc 3 1, 3) := by decide +kernel
theorem d_Cv_busyDaysOf_45 : decode b_Cv_busyDaysOf 45 = .ok (.goto (-41), 3) := by decide +kernel
theorem d_Cv_busyDaysOf_48 : decode b_Cv_busyDaysOf 48 = .ok (.iconst 0, 1) := by decide +kernel
theorem d_Cv_busyDaysOf_49 : decode b_Cv_busyDaysOf 49 = .ok (.istore_n 3, 1) := by decide +kernel
theorem d_Cv_busyDaysOf_50 : decode b_Cv_busyDaysOf 50 = .ok (.iload_n 3, 1) := by decide +kernel
theorem d_Cv_busyDaysOf_51 : decode b_Cv_busyDaysOf 51 = .ok (.aload_n 0, 1) := by decide +kernel
theorem d_Cv_busyDaysOf_52 : decode b_Cv_busyDaysOf 52 = .ok (.getfield 30, 3) := by decide +kernel
theorem d_Cv_busyDaysOf_55 : decode b_Cv_busyDaysOf 55 = .ok (.getfield 74, 3) := by decide +kernel
theorem d_Cv_busyDaysOf_58 : decode b_Cv_busyDaysOf 58 = .ok (.if_icmp .ge 36, 3) := by decide +kernel
theorem d_Cv_busyDaysOf_61 : decode b_Cv_busyDaysOf 61 = .ok (.aload_n 0, 1) := by decide +kernel
theorem d_Cv_busyDaysOf_62 : decode b_Cv_busyDaysOf 62 = .ok (.getfield 30, 3) := by decide +kernel
theorem d_Cv_busyDaysOf_65 : decode b_Cv_busyDaysOf 65 = .ok (.getfield 80, 3) := by decide +kernel
theorem d_Cv_busyDaysOf_68 : decode b_Cv_busyDaysOf 68 = .ok (.iload_n 3, 1) := by decide +kernel
theorem d_Cv_busyDaysOf_69 : decode b_Cv_busyDaysOf 69 = .ok (.iaload, 1) := by decide +kernel
theorem d_Cv_busyDaysOf_70 : decode b_Cv_busyDaysOf 70 = .ok (.iload_n 1, 1) := by decide +kernel
theorem d_Cv_busyDaysOf_71 : decode b_Cv_busyDaysOf 71 = .ok (.if_icmp .ne 17, 3) := by decide +kernel
theorem d_Cv_busyDaysOf_74 : decode b_Cv_busyDaysOf 74 = .ok (.iload_n 2, 1) := by decide +kernel
theorem d_Cv_busyDaysOf_75 : decode b_Cv_busyDaysOf 75 = .ok (.iconst 1, 1) := by decide +kernel
theorem d_Cv_busyDaysOf_76 : decode b_Cv_busyDaysOf 76 = .ok (.aload_n 0, 1) := by decide +kernel
theorem d_Cv_busyDaysOf_77 : decode b_Cv_busyDaysOf 77 = .ok (.getfield 30, 3) := by decide +kernel
theorem d_Cv_busyDaysOf_80 : decode b_Cv_busyDaysOf 80 = .ok (.getfield 79, 3) := by decide +kernel
theorem d_Cv_busyDaysOf_83 : decode b_Cv_busyDaysOf 83 = .ok (.iload_n 3, 1) := by decide +kernel
theorem d_Cv_busyDaysOf_84 : decode b_Cv_busyDaysOf 84 = .ok (.iaload, 1) := by decide +kernel
theorem d_Cv_busyDaysOf_85 : decode b_Cv_busyDaysOf 85 = .ok (.ishl, 1) := by decide +kernel
theorem d_Cv_busyDaysOf_86 : decode b_Cv_busyDaysOf 86 = .ok (.ior, 1) := by decide +kernel
theorem d_Cv_busyDaysOf_87 : decode b_Cv_busyDaysOf 87 = .ok (.istore_n 2, 1) := by decide +kernel
theorem d_Cv_busyDaysOf_88 : decode b_Cv_busyDaysOf 88 = .ok (.iinc 3 1, 3) := by decide +kernel
theorem d_Cv_busyDaysOf_91 : decode b_Cv_busyDaysOf 91 = .ok (.goto (-41), 3) := by decide +kernel
theorem d_Cv_busyDaysOf_94 : decode b_Cv_busyDaysOf 94 = .ok (.iload_n 2, 1) := by decide +kernel
theorem d_Cv_busyDaysOf_95 : decode b_Cv_busyDaysOf 95 = .ok (.ireturn, 1) := by decide +kernel
theorem d_Wa_start_0 : decode b_Wa_start 0 = .ok (.aload_n 0, 1) := by decide +kernel
theorem d_Wa_start_1 : decode b_Wa_start 1 = .ok (.iload_n 1, 1) := by decide +kernel
theorem d_Wa_start_2 : decode b_Wa_start 2 = .ok (.putfield 15, 3) := by decide +kernel
theorem d_Wa_start_5 : decode b_Wa_start 5 = .ok (.aload_n 0, 1) := by decide +kernel
theorem d_Wa_start_6 : decode b_Wa_start 6 = .ok (.iload_n 2, 1) := by decide +kernel
theorem d_Wa_start_7 : decode b_Wa_start 7 = .ok (.invokestatic 19, 3) := by decide +kernel
theorem d_Wa_start_10 : decode b_Wa_start 10 = .ok (.putfield 23, 3) := by decide +kernel
theorem d_Wa_start_13 : decode b_Wa_start 13 = .ok (.aload_n 0, 1) := by decide +kernel
theorem d_Wa_start_14 : decode b_Wa_start 14 = .ok (.aload_n 0, 1) := by decide +kernel
theorem d_Wa_start_15 : decode b_Wa_start 15 = .ok (.getfield 23, 3) := by decide +kernel
theorem d_Wa_start_18 : decode b_Wa_start 18 = .ok (.putfield 26, 3) := by decide +kernel
theorem d_Wa_start_21 : decode b_Wa_start 21 = .ok (.aload_n 0, 1) := by decide +kernel
theorem d_Wa_start_22 : decode b_Wa_start 22 = .ok (.iconst 0, 1) := by decide +kernel
theorem d_Wa_start_23 : decode b_Wa_start 23 = .ok (.putfield 29, 3) := by decide +kernel
theorem d_Wa_start_26 : decode b_Wa_start 26 = .ok (.aload_n 0, 1) := by decide +kernel
theorem d_Wa_start_27 : decode b_Wa_start 27 = .ok (.iconst 0, 1) := by decide +kernel
theorem d_Wa_start_28 : decode b_Wa_start 28 = .ok (.putfield 32, 3) := by decide +kernel
theorem d_Wa_start_31 : decode b_Wa_start 31 = .ok (.aload_n 0, 1) := by decide +kernel
theorem d_Wa_start_32 : decode b_Wa_start 32 = .ok (.iconst 0, 1) := by decide +kernel
theorem d_Wa_start_33 : decode b_Wa_start 33 = .ok (.putfield 36, 3) := by decide +kernel
theorem d_Wa_start_36 : decode b_Wa_start 36 = .ok (.aload_n 0, 1) := by decide +kernel
theorem d_Wa_start_37 : decode b_Wa_start 37 = .ok (.iconst 0, 1) := by decide +kernel
theorem d_Wa_start_38 : decode b_Wa_start 38 = .ok (.putfield 39, 3) := by decide +kernel
theorem d_Wa_start_41 : decode b_Wa_start 41 = .ok (.aload_n 0, 1) := by decide +kernel
theorem d_Wa_start_42 : decode b_Wa_start 42 = .ok (.iconst 0, 1) := by decide +kernel
theorem d_Wa_start_43 : decode b_Wa_start 43 = .ok (.putfield 42, 3) := by decide +kernel
theorem d_Wa_start_46 : decode b_Wa_start 46 = .ok (.aload_n 0, 1) := by decide +kernel
theorem d_Wa_start_47 : decode b_Wa_start 47 = .ok (.iconst 0, 1) := by decide +kernel
theorem d_Wa_start_48 : decode b_Wa_start 48 = .ok (.putfield 45, 3) := by decide +kernel
theorem d_Wa_start_51 : decode b_Wa_start 51 = .ok (.aload_n 0, 1) := by decide +kernel
theorem d_Wa_start_52 : decode b_Wa_start 52 = .ok (.iconst (-1), 1) := by decide +kernel
theorem d_Wa_start_53 : decode b_Wa_start 53 = .ok (.putfield 48, 3) := by decide +kernel
theorem d_Wa_start_56 : decode b_Wa_start 56 = .ok (.return_, 1) := by decide +kernel
theorem d_Wa_rise_0 : decode b_Wa_rise 0 = .ok (.aload_n 0, 1) := by decide +kernel
theorem d_Wa_rise_1 : decode b_Wa_rise 1 = .ok (.getfield 32, 3) := by decide +kernel
theorem d_Wa_rise_4 : decode b_Wa_rise 4 = .ok (.ifCond .eq 18, 3) := by decide +kernel
theorem d_Wa_rise_7 : decode b_Wa_rise 7 = .ok (.iload_n 1, 1) := by decide +kernel
theorem d_Wa_rise_8 : decode b_Wa_rise 8 = .ok (.aload_n 0, 1) := by decide +kernel
theorem d_Wa_rise_9 : decode b_Wa_rise 9 = .ok (.getfield 51, 3) := by decide +kernel
theorem d_Wa_rise_12 : decode b_Wa_rise 12 = .ok (.isub, 1) := by decide +kernel
theorem d_Wa_rise_13 : decode b_Wa_rise 13 = .ok (.iconst 3, 1) := by decide +kernel
theorem d_Wa_rise_14 : decode b_Wa_rise 14 = .ok (.if_icmp .lt 8, 3) := by decide +kernel
theorem d_Wa_rise_17 : decode b_Wa_rise 17 = .ok (.aload_n 0, 1) := by decide +kernel
theorem d_Wa_rise_18 : decode b_Wa_rise 18 = .ok (.iconst 0, 1) := by decide +kernel
theorem d_Wa_rise_19 : decode b_Wa_rise 19 = .ok (.putfield 32, 3) := by decide +kernel
theorem d_Wa_rise_22 : decode b_Wa_rise 22 = .ok (.return_, 1) := by decide +kernel
theorem d_Wa_take_0 : decode b_Wa_take 0 = .ok (.aload_n 0, 1) := by decide +kernel
theorem d_Wa_take_1 : decode b_Wa_take 1 = .ok (.getfield 32, 3) := by decide +kernel
theorem d_Wa_take_4 : decode b_Wa_take 4 = .ok (.ifCond .ne 13, 3) := by decide +kernel
theorem d_Wa_take_7 : decode b_Wa_take 7 = .ok (.aload_n 0, 1) := by decide +kernel
theorem d_Wa_take_8 : decode b_Wa_take 8 = .ok (.dup, 1) := by decide +kernel
theorem d_Wa_take_9 : decode b_Wa_take 9 = .ok (.getfield 29, 3) := by decide +kernel
theorem d_Wa_take_12 : decode b_Wa_take 12 = .ok (.iload_n 1, 1) := by decide +kernel
theorem d_Wa_take_13 : decode b_Wa_take 13 = .ok (.iadd, 1) := by decide +kernel
theorem d_Wa_take_14 : decode b_Wa_take 14 = .ok (.putfield 29, 3) := by decide +kernel
theorem d_Wa_take_17 : decode b_Wa_take 17 = .ok (.return_, 1) := by decide +kernel
theorem d_Wa_breakIfOver_0 : decode b_Wa_breakIfOver 0 = .ok (.aload_n 0, 1) := by decide +kernel
theorem d_Wa_breakIfOver_1 : decode b_Wa_breakIfOver 1 = .ok (.getfield 29, 3) := by decide +kernel
theorem d_Wa_breakIfOver_4 : decode b_Wa_breakIfOver 4 = .ok (.aload_n 0, 1) := by decide +kernel
theorem d_Wa_breakIfOver_5 : decode b_Wa_breakIfOver 5 = .ok (.getfield 26, 3) := by decide +kernel
theorem d_Wa_breakIfOver_8 : decode b_Wa_breakIfOver 8 = .ok (.if_icmp .gt 4, 3) := by decide +kernel
theorem d_Wa_breakIfOver_11 : decode b_Wa_breakIfOver 11 = .ok (.return_, 1) := by decide +kernel
theorem d_Wa_breakIfOver_12 : decode b_Wa_breakIfOver 12 = .ok (.aload_n 0, 1) := by decide +kernel
theorem d_Wa_breakIfOver_13 : decode b_Wa_breakIfOver 13 = .ok (.iconst 1, 1) := by decide +kernel
theorem d_Wa_breakIfOver_14 : decode b_Wa_breakIfOver 14 = .ok (.putfield 32, 3) := by decide +kernel
theorem d_Wa_breakIfOver_17 : decode b_Wa_breakIfOver 17 = .ok (.aload_n 0, 1) := by decide +kernel
theorem d_Wa_breakIfOver_18 : decode b_Wa_breakIfOver 18 = .ok (.iload_n 1, 1) := by decide +kernel
theorem d_Wa_breakIfOver_19 : decode b_Wa_breakIfOver 19 = .ok (.putfield 51, 3) := by decide +kernel
theorem d_Wa_breakIfOver_22 : decode b_Wa_breakIfOver 22 = .ok (.aload_n 0, 1) := by decide +kernel
theorem d_Wa_breakIfOver_23 : decode b_Wa_breakIfOver 23 = .ok (.getfield 48, 3) := by decide +kernel
theorem d_Wa_breakIfOver_26 : decode b_Wa_breakIfOver 26 = .ok (.iconst (-1), 1) := by decide +kernel
theorem d_Wa_breakIfOver_27 : decode b_Wa_breakIfOver 27 = .ok (.if_icmp .ne 8, 3) := by decide +kernel
theorem d_Wa_breakIfOver_30 : decode b_Wa_breakIfOver 30 = .ok (.aload_n 0, 1) := by decide +kernel
theorem d_Wa_breakIfOver_31 : decode b_Wa_breakIfOver 31 = .ok (.iload_n 1, 1) := by decide +kernel
theorem d_Wa_breakIfOver_32 : decode b_Wa_breakIfOver 32 = .ok (.putfield 48, 3) := by decide +kernel
theorem d_Wa_breakIfOver_35 : decode b_Wa_breakIfOver 35 = .ok (.aload_n 0, 1) := by decide +kernel
theorem d_Wa_breakIfOver_36 : decode b_Wa_breakIfOver 36 = .ok (.dup, 1) := by decide +kernel
theorem d_Wa_breakIfOver_37 : decode b_Wa_breakIfOver 37 = .ok (.getfield 45, 3) := by decide +kernel
theorem d_Wa_breakIfOver_40 : decode b_Wa_breakIfOver 40 = .ok (.iconst 1, 1) := by decide +kernel
theorem d_Wa_breakIfOver_41 : decode b_Wa_breakIfOver 41 = .ok (.iadd, 1) := by decide +kernel
theorem d_Wa_breakIfOver_42 : decode b_Wa_breakIfOver 42 = .ok (.putfield 45, 3) := by decide +kernel
theorem d_Wa_breakIfOver_45 : decode b_Wa_breakIfOver 45 = .ok (.aload_n 0, 1) := by decide +kernel
theorem d_Wa_breakIfOver_46 : decode b_Wa_breakIfOver 46 = .ok (.dup, 1) := by decide +kernel
theorem d_Wa_breakIfOver_47 : decode b_Wa_breakIfOver 47 = .ok (.getfield 42, 3) := by decide +kernel
theorem d_Wa_breakIfOver_50 : decode b_Wa_breakIfOver 50 = .ok (.aload_n 0, 1) := by decide +kernel
theorem d_Wa_breakIfOver_51 : decode b_Wa_breakIfOver 51 = .ok (.getfield 29, 3) := by decide +kernel
theorem d_Wa_breakIfOver_54 : decode b_Wa_breakIfOver 54 = .ok (.iadd, 1) := by decide +kernel
theorem d_Wa_breakIfOver_55 : decode b_Wa_breakIfOver 55 = .ok (.putfield 42, 3) := by decide +kernel
theorem d_Wa_breakIfOver_58 : decode b_Wa_breakIfOver 58 = .ok (.aload_n 0, 1) := by decide +kernel
theorem d_Wa_breakIfOver_59 : decode b_Wa_breakIfOver 59 = .ok (.iconst 0, 1) := by decide +kernel
theorem d_Wa_breakIfOver_60 : decode b_Wa_breakIfOver 60 = .ok (.putfield 29, 3) := by decide +kernel
theorem d_Wa_breakIfOver_63 : decode b_Wa_breakIfOver 63 = .ok (.aload_n 0, 1) := by decide +kernel
theorem d_Wa_breakIfOver_64 : decode b_Wa_breakIfOver 64 = .ok (.aload_n 0, 1) := by decide +kernel
theorem d_Wa_breakIfOver_65 : decode b_Wa_breakIfOver 65 = .ok (.getfield 26, 3) := by decide +kernel
theorem d_Wa_breakIfOver_68 : decode b_Wa_breakIfOver 68 = .ok (.iconst 3, 1) := by decide +kernel
theorem d_Wa_breakIfOver_69 : decode b_Wa_breakIfOver 69 = .ok (.if_icmp .le 12, 3) := by decide +kernel
theorem d_Wa_breakIfOver_72 : decode b_Wa_breakIfOver 72 = .ok (.aload_n 0, 1) := by decide +kernel
theorem d_Wa_breakIfOver_73 : decode b_Wa_breakIfOver 73 = .ok (.getfield 26, 3) := by decide +kernel
theorem d_Wa_breakIfOver_76 : decode b_Wa_breakIfOver 76 = .ok (.iconst 3, 1) := by decide +kernel
theorem d_Wa_breakIfOver_77 : decode b_Wa_breakIfOver 77 = .ok (.isub, 1) := by decide +kernel
theorem d_Wa_breakIfOver_78 : decode b_Wa_breakIfOver 78 = .ok (.goto 4, 3) := by decide +kernel
theorem d_Wa_breakIfOver_81 : decode b_Wa_breakIfOver 81 = .ok (.iconst 0, 1) := by decide +kernel
theorem d_Wa_breakIfOver_82 : decode b_Wa_breakIfOver 82 = .ok (.putfield 26, 3) := by decide +kernel
theorem d_Wa_breakIfOver_85 : decode b_Wa_breakIfOver 85 = .ok (.return_, 1) := by decide +kernel
theorem d_Wa_payIfLast_0 : decode b_Wa_payIfLast 0 = .ok (.aload_n 0, 1) := by decide +kernel
theorem d_Wa_payIfLast_1 : decode b_Wa_payIfLast 1 = .ok (.getfield 32, 3) := by decide +kernel
theorem d_Wa_payIfLast_4 : decode b_Wa_payIfLast 4 = .ok (.ifCond .ne 27, 3) := by decide +kernel
theorem d_Wa_payIfLast_7 : decode b_Wa_payIfLast 7 = .ok (.aload_n 0, 1) := by decide +kernel
theorem d_Wa_payIfLast_8 : decode b_Wa_payIfLast 8 = .ok (.getfield 29, 3) := by decide +kernel
theorem d_Wa_payIfLast_11 : decode b_Wa_payIfLast 11 = .ok (.aload_n 0, 1) := by decide +kernel
theorem d_Wa_payIfLast_12 : decode b_Wa_payIfLast 12 = .ok (.getfield 26, 3) := by decide +kernel
theorem d_Wa_payIfLast_15 : decode b_Wa_payIfLast 15 = .ok (.if_icmp .ne 16, 3) := by decide +kernel
theorem d_Wa_payIfLast_18 : decode b_Wa_payIfLast 18 = .ok (.aload_n 0, 1) := by decide +kernel
theorem d_Wa_payIfLast_19 : decode b_Wa_payIfLast 19 = .ok (.dup, 1) := by decide +kernel
theorem d_Wa_payIfLast_20 : decode b_Wa_payIfLast 20 = .ok (.getfield 36, 3) := by decide +kernel
theorem d_Wa_payIfLast_23 : decode b_Wa_payIfLast 23 = .ok (.aload_n 0, 1) := by decide +kernel
theorem d_Wa_payIfLast_24 : decode b_Wa_payIfLast 24 = .ok (.getfield 29, 3) := by decide +kernel
theorem d_Wa_payIfLast_27 : decode b_Wa_payIfLast 27 = .ok (.iadd, 1) := by decide +kernel
theorem d_Wa_payIfLast_28 : decode b_Wa_payIfLast 28 = .ok (.putfield 36, 3) := by decide +kernel
theorem d_Wa_payIfLast_31 : decode b_Wa_payIfLast 31 = .ok (.return_, 1) := by decide +kernel
theorem d_Wa_measureRoom_0 : decode b_Wa_measureRoom 0 = .ok (.aload_n 0, 1) := by decide +kernel
theorem d_Wa_measureRoom_1 : decode b_Wa_measureRoom 1 = .ok (.aload_n 0, 1) := by decide +kernel
theorem d_Wa_measureRoom_2 : decode b_Wa_measureRoom 2 = .ok (.getfield 32, 3) := by decide +kernel
theorem d_Wa_measureRoom_5 : decode b_Wa_measureRoom 5 = .ok (.ifCond .eq 7, 3) := by decide +kernel
theorem d_Wa_measureRoom_8 : decode b_Wa_measureRoom 8 = .ok (.iconst 0, 1) := by decide +kernel
theorem d_Wa_measureRoom_9 : decode b_Wa_measureRoom 9 = .ok (.goto 12, 3) := by decide +kernel
theorem d_Wa_measureRoom_12 : decode b_Wa_measureRoom 12 = .ok (.aload_n 0, 1) := by decide +kernel
theorem d_Wa_measureRoom_13 : decode b_Wa_measureRoom 13 = .ok (.getfield 26, 3) := by decide +kernel
theorem d_Wa_measureRoom_16 : decode b_Wa_measureRoom 16 = .ok (.aload_n 0, 1) := by decide +kernel
theorem d_Wa_measureRoom_17 : decode b_Wa_measureRoom 17 = .ok (.getfield 29, 3) := by decide +kernel
theorem d_Wa_measureRoom_20 : decode b_Wa_measureRoom 20 = .ok (.isub, 1) := by decide +kernel
theorem d_Wa_measureRoom_21 : decode b_Wa_measureRoom 21 = .ok (.putfield 54, 3) := by decide +kernel
theorem d_Wa_measureRoom_24 : decode b_Wa_measureRoom 24 = .ok (.return_, 1) := by decide +kernel
theorem d_Wa_wear_0 : decode b_Wa_wear 0 = .ok (.aload_n 0, 1) := by decide +kernel
theorem d_Wa_wear_1 : decode b_Wa_wear 1 = .ok (.getfield 32, 3) := by decide +kernel
theorem d_Wa_wear_4 : decode b_Wa_wear 4 = .ok (.ifCond .eq 4, 3) := by decide +kernel
theorem d_Wa_wear_7 : decode b_Wa_wear 7 = .ok (.return_, 1) := by decide +kernel
theorem d_Wa_wear_8 : decode b_Wa_wear 8 = .ok (.aload_n 0, 1) := by decide +kernel
theorem d_Wa_wear_9 : decode b_Wa_wear 9 = .ok (.getfield 29, 3) := by decide +kernel
theorem d_Wa_wear_12 : decode b_Wa_wear 12 = .ok (.ifCond .ne 32, 3) := by decide +kernel
theorem d_Wa_wear_15 : decode b_Wa_wear 15 = .ok (.aload_n 0, 1) := by decide +kernel
theorem d_Wa_wear_16 : decode b_Wa_wear 16 = .ok (.aload_n 0, 1) := by decide +kernel
theorem d_Wa_wear_17 : decode b_Wa_wear 17 = .ok (.getfield 26, 3) := by decide +kernel
theorem d_Wa_wear_20 : decode b_Wa_wear 20 = .ok (.aload_n 0, 1) := by decide +kernel
theorem d_Wa_wear_21 : decode b_Wa_wear 21 = .ok (.getfield 23, 3) := by decide +kernel
theorem d_Wa_wear_24 : decode b_Wa_wear 24 = .ok (.if_icmp .ge 12, 3) := by decide +kernel
theorem d_Wa_wear_27 : decode b_Wa_wear 27 = .ok (.aload_n 0, 1) := by decide +kernel
theorem d_Wa_wear_28 : decode b_Wa_wear 28 = .ok (.getfield 26, 3) := by decide +kernel
theorem d_Wa_wear_31 : decode b_Wa_wear 31 = .ok (.iconst 1, 1) := by decide +kernel
theorem d_Wa_wear_32 : decode b_Wa_wear 32 = .ok (.iadd, 1) := by decide +kernel
theorem d_Wa_wear_33 : decode b_Wa_wear 33 = .ok (.goto 7, 3) := by decide +kernel
theorem d_Wa_wear_36 : decode b_Wa_wear 36 = .ok (.aload_n 0, 1) := by decide +kernel
theorem d_Wa_wear_37 : decode b_Wa_wear 37 = .ok (.getfield 23, 3) := by decide +kernel
theorem d_Wa_wear_40 : decode b_Wa_wear 40 = .ok (.putfield 26, 3) := by decide +kernel
theorem d_Wa_wear_43 : decode b_Wa_wear 43 = .ok (.return_, 1) := by decide +kernel
theorem d_Wa_wear_44 : decode b_Wa_wear 44 = .ok (.aload_n 0, 1) := by decide +kernel
theorem d_Wa_wear_45 : decode b_Wa_wear 45 = .ok (.getfield 15, 3) := by decide +kernel
theorem d_Wa_wear_48 : decode b_Wa_wear 48 = .ok (.iconst 2, 1) := by decide +kernel
theorem d_Wa_wear_49 : decode b_Wa_wear 49 = .ok (.if_icmp .eq 38, 3) := by decide +kernel
theorem d_Wa_wear_52 : decode b_Wa_wear 52 = .ok (.aload_n 0, 1) := by decide +kernel
theorem d_Wa_wear_53 : decode b_Wa_wear 53 = .ok (.getfield 15, 3) := by decide +kernel
theorem d_Wa_wear_56 : decode b_Wa_wear 56 = .ok (.ifCond .ne 10, 3) := by decide +kernel
theorem d_Wa_wear_59 : decode b_Wa_wear 59 = .ok (.iload_n 1, 1) := by decide +kernel
theorem d_Wa_wear_60 : decode b_Wa_wear 60 = .ok (.iconst 3, 1) := by decide +kernel
theorem d_Wa_wear_61 : decode b_Wa_wear 61 = .ok (.irem, 1) := by decide +kernel
theorem d_Wa_wear_62 : decode b_Wa_wear 62 = .ok (.iconst 2, 1) := by decide +kernel
theorem d_Wa_wear_63 : decode b_Wa_wear 63 = .ok (.if_icmp .eq 24, 3) := by decide +kernel
theorem d_Wa_wear_66 : decode b_Wa_wear 66 = .ok (.aload_n 0, 1) := by decide +kernel
theorem d_Wa_wear_67 : decode b_Wa_wear 67 = .ok (.getfield 15, 3) := by decide +kernel
theorem d_Wa_wear_70 : decode b_Wa_wear 70 = .ok (.iconst 1, 1) := by decide +kernel
theorem d_Wa_wear_71 : decode b_Wa_wear 71 = .ok (.if_icmp .ne 20, 3) := by decide +kernel
theorem d_Wa_wear_74 : decode b_Wa_wear 74 = .ok (.iconst 2, 1) := by decide +kernel
theorem d_Wa_wear_75 : decode b_Wa_wear 75 = .ok (.aload_n 0, 1) := by decide +kernel
theorem d_Wa_wear_76 : decode b_Wa_wear 76 = .ok (.getfield 29, 3) := by decide +kernel
theorem d_Wa_wear_79 : decode b_Wa_wear 79 = .ok (.imul, 1) := by decide +kernel
theorem d_Wa_wear_80 : decode b_Wa_wear 80 = .ok (.aload_n 0, 1) := by decide +kernel
theorem d_Wa_wear_81 : decode b_Wa_wear 81 = .ok (.getfield 26, 3) := by decide +kernel
theorem d_Wa_wear_84 : decode b_Wa_wear 84 = .ok (.if_icmp .le 7, 3) := by decide +kernel
theorem d_Wa_wear_87 : decode b_Wa_wear 87 = .ok (.iconst 1, 1) := by decide +kernel
theorem d_Wa_wear_88 : decode b_Wa_wear 88 = .ok (.goto 4, 3) := by decide +kernel
theorem d_Wa_wear_91 : decode b_Wa_wear 91 = .ok (.iconst 0, 1) := by decide +kernel
theorem d_Wa_wear_92 : decode b_Wa_wear 92 = .ok (.istore_n 2, 1) := by decide +kernel
theorem d_Wa_wear_93 : decode b_Wa_wear 93 = .ok (.iload_n 2, 1) := by decide +kernel
theorem d_Wa_wear_94 : decode b_Wa_wear 94 = .ok (.ifCond .eq 20, 3) := by decide +kernel
theorem d_Wa_wear_97 : decode b_Wa_wear 97 = .ok (.aload_n 0, 1) := by decide +kernel
theorem d_Wa_wear_98 : decode b_Wa_wear 98 = .ok (.getfield 26, 3) := by decide +kernel
theorem d_Wa_wear_101 : decode b_Wa_wear 101 = .ok (.ifCond .le 13, 3) := by decide +kernel
theorem d_Wa_wear_104 : decode b_Wa_wear 104 = .ok (.aload_n 0, 1) := by decide +kernel
theorem d_Wa_wear_105 : decode b_Wa_wear 105 = .ok (.dup, 1) := by decide +kernel
theorem d_Wa_wear_106 : decode b_Wa_wear 106 = .ok (.getfield 26, 3) := by decide +kernel
theorem d_Wa_wear_109 : decode b_Wa_wear 109 = .ok (.iconst 1, 1) := by decide +kernel
theorem d_Wa_wear_110 : decode b_Wa_wear 110 = .ok (.isub, 1) := by decide +kernel
theorem d_Wa_wear_111 : decode b_Wa_wear 111 = .ok (.putfield 26, 3) := by decide +kernel
theorem d_Wa_wear_114 : decode b_Wa_wear 114 = .ok (.return_, 1) := by decide +kernel
theorem d_Wa_unloadAtWell_0 : decode b_Wa_unloadAtWell 0 = .ok (.iload_n 1, 1) := by decide +kernel
theorem d_Wa_unloadAtWell_1 : decode b_Wa_unloadAtWell 1 = .ok (.bipush 8, 2) := by decide +kernel
theorem d_Wa_unloadAtWell_3 : decode b_Wa_unloadAtWell 3 = .ok (.irem, 1) := by decide +kernel
theorem d_Wa_unloadAtWell_4 : decode b_Wa_unloadAtWell 4 = .ok (.bipush 7, 2) := by decide +kernel
theorem d_Wa_unloadAtWell_6 : decode b_Wa_unloadAtWell 6 = .ok (.if_icmp .ne 21, 3) := by decide +kernel
theorem d_Wa_unloadAtWell_9 : decode b_Wa_unloadAtWell 9 = .ok (.aload_n 0, 1) := by decide +kernel
theorem d_Wa_unloadAtWell_10 : decode b_Wa_unloadAtWell 10 = .ok (.dup, 1) := by decide +kernel
theorem d_Wa_unloadAtWell_11 : decode b_Wa_unloadAtWell 11 = .ok (.getfield 39, 3) := by decide +kernel
theorem d_Wa_unloadAtWell_14 : decode b_Wa_unloadAtWell 14 = .ok (.aload_n 0, 1) := by decide +kernel
theorem d_Wa_unloadAtWell_15 : decode b_Wa_unloadAtWell 15 = .ok (.getfield 29, 3) := by decide +kernel
theorem d_Wa_unloadAtWell_18 : decode b_Wa_unloadAtWell 18 = .ok (.iadd, 1) := by decide +kernel
theorem d_Wa_unloadAtWell_19 : decode b_Wa_unloadAtWell 19 = .ok (.putfield 39, 3) := by decide +kernel
theorem d_Wa_unloadAtWell_22 : decode b_Wa_unloadAtWell 22 = .ok (.aload_n 0, 1) := by decide +kernel
theorem d_Wa_unloadAtWell_23 : decode b_Wa_unloadAtWell 23 = .ok (.iconst 0, 1) := by decide +kernel
theorem d_Wa_unloadAtWell_24 : decode b_Wa_unloadAtWell 24 = .ok (.putfield 29, 3) := by decide +kernel
theorem d_Wa_unloadAtWell_27 : decode b_Wa_unloadAtWell 27 = .ok (.return_, 1) := by decide +kernel
theorem d_Wa_keep_0 : decode b_Wa_keep 0 = .ok (.iload_n 1, 1) := by decide +kernel
theorem d_Wa_keep_1 : decode b_Wa_keep 1 = .ok (.bipush 8, 2) := by decide +kernel
theorem d_Wa_keep_3 : decode b_Wa_keep 3 = .ok (.imul, 1) := by decide +kernel
theorem d_Wa_keep_4 : decode b_Wa_keep 4 = .ok (.istore_n 2, 1) := by decide +kernel
theorem d_Wa_keep_5 : decode b_Wa_keep 5 = .ok (.aload_n 0, 1) := by decide +kernel
theorem d_Wa_keep_6 : decode b_Wa_keep 6 = .ok (.getfield 9, 3) := by decide +kernel
theorem d_Wa_keep_9 : decode b_Wa_keep 9 = .ok (.iload_n 2, 1) := by decide +kernel
theorem d_Wa_keep_10 : decode b_Wa_keep 10 = .ok (.iconst 0, 1) := by decide +kernel
theorem d_Wa_keep_11 : decode b_Wa_keep 11 = .ok (.iadd, 1) := by decide +kernel
theorem d_Wa_keep_12 : decode b_Wa_keep 12 = .ok (.aload_n 0, 1) := by decide +kernel
theorem d_Wa_keep_13 : decode b_Wa_keep 13 = .ok (.getfield 29, 3) := by decide +kernel
theorem d_Wa_keep_16 : decode b_Wa_keep 16 = .ok (.iastore, 1) := by decide +kernel
theorem d_Wa_keep_17 : decode b_Wa_keep 17 = .ok (.aload_n 0, 1) := by decide +kernel
theorem d_Wa_keep_18 : decode b_Wa_keep 18 = .ok (.getfield 9, 3) := by decide +kernel
theorem d_Wa_keep_21 : decode b_Wa_keep 21 = .ok (.iload_n 2, 1) := by decide +kernel
theorem d_Wa_keep_22 : decode b_Wa_keep 22 = .ok (.iconst 1, 1) := by decide +kernel
theorem d_Wa_keep_23 : decode b_Wa_keep 23 = .ok (.iadd, 1) := by decide +kernel
theorem d_Wa_keep_24 : decode b_Wa_keep 24 = .ok (.aload_n 0, 1) := by decide +kernel
theorem d_Wa_keep_25 : decode b_Wa_keep 25 = .ok (.getfield 26, 3) := by decide +kernel
theorem d_Wa_keep_28 : decode b_Wa_keep 28 = .ok (.iastore, 1) := by decide +kernel
theorem d_Wa_keep_29 : decode b_Wa_keep 29 = .ok (.aload_n 0, 1) := by decide +kernel
theorem d_Wa_keep_30 : decode b_Wa_keep 30 = .ok (.getfield 9, 3) := by decide +kernel
theorem d_Wa_keep_33 : decode b_Wa_keep 33 = .ok (.iload_n 2, 1) := by decide +kernel
theorem d_Wa_keep_34 : decode b_Wa_keep 34 = .ok (.iconst 2, 1) := by decide +kernel
theorem d_Wa_keep_35 : decode b_Wa_keep 35 = .ok (.iadd, 1) := by decide +kernel
theorem d_Wa_keep_36 : decode b_Wa_keep 36 = .ok (.aload_n 0, 1) := by decide +kernel
theorem d_Wa_keep_37 : decode b_Wa_keep 37 = .ok (.getfield 32, 3) := by decide +kernel
theorem d_Wa_keep_40 : decode b_Wa_keep 40 = .ok (.ifCond .eq 7, 3) := by decide +kernel
theorem d_Wa_keep_43 : decode b_Wa_keep 43 = .ok (.iconst 1, 1) := by decide +kernel
theorem d_Wa_keep_44 : decode b_Wa_keep 44 = .ok (.goto 4, 3) := by decide +kernel
theorem d_Wa_keep_47 : decode b_Wa_keep 47 = .ok (.iconst 0, 1) := by decide +kernel
theorem d_Wa_keep_48 : decode b_Wa_keep 48 = .ok (.iastore, 1) := by decide +kernel
theorem d_Wa_keep_49 : decode b_Wa_keep 49 = .ok (.aload_n 0, 1) := by decide +kernel
theorem d_Wa_keep_50 : decode b_Wa_keep 50 = .ok (.getfield 9, 3) := by decide +kernel
theorem d_Wa_keep_53 : decode b_Wa_keep 53 = .ok (.iload_n 2, 1) := by decide +kernel
theorem d_Wa_keep_54 : decode b_Wa_keep 54 = .ok (.iconst 3, 1) := by decide +kernel
theorem d_Wa_keep_55 : decode b_Wa_keep 55 = .ok (.iadd, 1) := by decide +kernel
theorem d_Wa_keep_56 : decode b_Wa_keep 56 = .ok (.aload_n 0, 1) := by decide +kernel
theorem d_Wa_keep_57 : decode b_Wa_keep 57 = .ok (.getfield 36, 3) := by decide +kernel
theorem d_Wa_keep_60 : decode b_Wa_keep 60 = .ok (.iastore, 1) := by decide +kernel
theorem d_Wa_keep_61 : decode b_Wa_keep 61 = .ok (.aload_n 0, 1) := by decide +kernel
theorem d_Wa_keep_62 : decode b_Wa_keep 62 = .ok (.getfield 9, 3) := by decide +kernel
theorem d_Wa_keep_65 : decode b_Wa_keep 65 = .ok (.iload_n 2, 1) := by decide +kernel
theorem d_Wa_keep_66 : decode b_Wa_keep 66 = .ok (.iconst 4, 1) := by decide +kernel
theorem d_Wa_keep_67 : decode b_Wa_keep 67 = .ok (.iadd, 1) := by decide +kernel
theorem d_Wa_keep_68 : decode b_Wa_keep 68 = .ok (.aload_n 0, 1) := by decide +kernel
theorem d_Wa_keep_69 : decode b_Wa_keep 69 = .ok (.getfield 39, 3) := by decide +kernel
theorem d_Wa_keep_72 : decode b_Wa_keep 72 = .ok (.iastore, 1) := by decide +kernel
theorem d_Wa_keep_73 : decode b_Wa_keep 73 = .ok (.aload_n 0, 1) := by decide +kernel
theorem d_Wa_keep_74 : decode b_Wa_keep 74 = .ok (.getfield 9, 3) := by decide +kernel
theorem d_Wa_keep_77 : decode b_Wa_keep 77 = .ok (.iload_n 2, 1) := by decide +kernel
theorem d_Wa_keep_78 : decode b_Wa_keep 78 = .ok (.iconst 5, 1) := by decide +kernel
theorem d_Wa_keep_79 : decode b_Wa_keep 79 = .ok (.iadd, 1) := by decide +kernel
theorem d_Wa_keep_80 : decode b_Wa_keep 80 = .ok (.aload_n 0, 1) := by decide +kernel
theorem d_Wa_keep_81 : decode b_Wa_keep 81 = .ok (.getfield 45, 3) := by decide +kernel
theorem d_Wa_keep_84 : decode b_Wa_keep 84 = .ok (.iastore, 1) := by decide +kernel
theorem d_Wa_keep_85 : decode b_Wa_keep 85 = .ok (.aload_n 0, 1) := by decide +kernel
theorem d_Wa_keep_86 : decode b_Wa_keep 86 = .ok (.getfield 9, 3) := by decide +kernel
theorem d_Wa_keep_89 : decode b_Wa_keep 89 = .ok (.iload_n 2, 1) := by decide +kernel
theorem d_Wa_keep_90 : decode b_Wa_keep 90 = .ok (.bipush 6, 2) := by decide +kernel
theorem d_Wa_keep_92 : decode b_Wa_keep 92 = .ok (.iadd, 1) := by decide +kernel
theorem d_Wa_keep_93 : decode b_Wa_keep 93 = .ok (.aload_n 0, 1) := by decide +kernel
theorem d_Wa_keep_94 : decode b_Wa_keep 94 = .ok (.getfield 54, 3) := by decide +kernel
theorem d_Wa_keep_97 : decode b_Wa_keep 97 = .ok (.iastore, 1) := by decide +kernel
theorem d_Wa_keep_98 : decode b_Wa_keep 98 = .ok (.aload_n 0, 1) := by decide +kernel
theorem d_Wa_keep_99 : decode b_Wa_keep 99 = .ok (.getfield 9, 3) := by decide +kernel
theorem d_Wa_keep_102 : decode b_Wa_keep 102 = .ok (.iload_n 2, 1) := by decide +kernel
theorem d_Wa_keep_103 : decode b_Wa_keep 103 = .ok (.bipush 7, 2) := by decide +kernel
theorem d_Wa_keep_105 : decode b_Wa_keep 105 = .ok (.iadd, 1) := by decide +kernel
theorem d_Wa_keep_106 : decode b_Wa_keep 106 = .ok (.aload_n 0, 1) := by decide +kernel
theorem d_Wa_keep_107 : decode b_Wa_keep 107 = .ok (.getfield 42, 3) := by decide +kernel
theorem d_Wa_keep_110 : decode b_Wa_keep 110 = .ok (.iastore, 1) := by decide +kernel
theorem d_Wa_keep_111 : decode b_Wa_keep 111 = .ok (.return_, 1) := by decide +kernel
theorem d_Cv_march_0 : decode b_Cv_march 0 = .ok (.aload_n 0, 1) := by decide +kernel
theorem d_Cv_march_1 : decode b_Cv_march 1 = .ok (.iload_n 1, 1) := by decide +kernel
theorem d_Cv_march_2 : decode b_Cv_march 2 = .ok (.invokevirtual 34, 3) := by decide +kernel
theorem d_Cv_march_5 : decode b_Cv_march 5 = .ok (.istore_n 2, 1) := by decide +kernel
theorem d_Cv_march_6 : decode b_Cv_march 6 = .ok (.aload_n 0, 1) := by decide +kernel
theorem d_Cv_march_7 : decode b_Cv_march 7 = .ok (.getfield 12, 3) := by decide +kernel
theorem d_Cv_march_10 : decode b_Cv_march 10 = .ok (.aload_n 0, 1) := by decide +kernel
theorem d_Cv_march_11 : decode b_Cv_march 11 = .ok (.getfield 22, 3) := by decide +kernel
theorem d_Cv_march_14 : decode b_Cv_march 14 = .ok (.getfield 38, 3) := by decide +kernel
theorem d_Cv_march_17 : decode b_Cv_march 17 = .ok (.iload_n 1, 1) := by decide +kernel
theorem d_Cv_march_18 : decode b_Cv_march 18 = .ok (.iaload, 1) := by decide +kernel
theorem d_Cv_march_19 : decode b_Cv_march 19 = .ok (.aload_n 0, 1) := by decide +kernel
theorem d_Cv_march_20 : decode b_Cv_march 20 = .ok (.getfield 22, 3) := by decide +kernel
theorem d_Cv_march_23 : decode b_Cv_march 23 = .ok (.getfield 43, 3) := by decide +kernel
theorem d_Cv_march_26 : decode b_Cv_march 26 = .ok (.iload_n 1, 1) := by decide +kernel
theorem d_Cv_march_27 : decode b_Cv_march 27 = .ok (.iaload, 1) := by decide +kernel
theorem d_Cv_march_28 : decode b_Cv_march 28 = .ok (.invokevirtual 46, 3) := by decide +kernel
theorem d_Cv_march_31 : decode b_Cv_march 31 = .ok (.iconst 0, 1) := by decide +kernel
theorem d_Cv_march_32 : decode b_Cv_march 32 = .ok (.istore_n 3, 1) := by decide +kernel
theorem d_Cv_march_33 : decode b_Cv_march 33 = .ok (.iload_n 3, 1) := by decide +kernel
theorem d_Cv_march_34 : decode b_Cv_march 34 = .ok (.bipush 24, 2) := by decide +kernel
theorem d_Cv_march_36 : decode b_Cv_march 36 = .ok (.if_icmp .ge 239, 3) := by decide +kernel
theorem d_Cv_march_39 : decode b_Cv_march 39 = .ok (.aload_n 0, 1) := by decide +kernel
theorem d_Cv_march_40 : decode b_Cv_march 40 = .ok (.getfield 12, 3) := by decide +kernel
theorem d_Cv_march_43 : decode b_Cv_march 43 = .ok (.iload_n 3, 1) := by decide +kernel
theorem d_Cv_march_44 : decode b_Cv_march 44 = .ok (.invokevirtual 50, 3) := by decide +kernel
theorem d_Cv_march_47 : decode b_Cv_march 47 = .ok (.iload_n 2, 1) := by decide +kernel
theorem d_Cv_march_48 : decode b_Cv_march 48 = .ok (.iload_n 3, 1) := by decide +kernel
theorem d_Cv_march_49 : decode b_Cv_march 49 = .ok (.ishr, 1) := by decide +kernel
theorem d_Cv_march_50 : decode b_Cv_march 50 = .ok (.iconst 1, 1) := by decide +kernel
theorem d_Cv_march_51 : decode b_Cv_march 51 = .ok (.iand, 1) := by decide +kernel
theorem d_Cv_march_52 : decode b_Cv_march 52 = .ok (.ifCond .eq 7, 3) := by decide +kernel
theorem d_Cv_march_55 : decode b_Cv_march 55 = .ok (.iconst 1, 1) := by decide +kernel
theorem d_Cv_march_56 : decode b_Cv_march 56 = .ok (.goto 4, 3) := by decide +kernel
theorem d_Cv_march_59 : decode b_Cv_march 59 = .ok (.iconst 0, 1) := by decide +kernel
theorem d_Cv_march_60 : decode b_Cv_march 60 = .ok (.istore 4, 2) := by decide +kernel
theorem d_Cv_march_62 : decode b_Cv_march 62 = .ok (.iconst 0, 1) := by decide +kernel
theorem d_Cv_march_63 : decode b_Cv_march 63 = .ok (.istore 5, 2) := by decide +kernel
theorem d_Cv_march_65 : decode b_Cv_march 65 = .ok (.iload 4, 2) := by decide +kernel
theorem d_Cv_march_67 : decode b_Cv_march 67 = .ok (.ifCond .eq 74, 3) := by decide +kernel
theorem d_Cv_march_70 : decode b_Cv_march 70 = .ok (.iload 5, 2) := by decide +kernel
theorem d_Cv_march_72 : decode b_Cv_march 72 = .ok (.aload_n 0, 1) := by decide +kernel
theorem d_Cv_march_73 : decode b_Cv_march 73 = .ok (.getfield 26, 3) := by decide +kernel
theorem d_Cv_march_76 : decode b_Cv_march 76 = .ok (.getfield 54, 3) := by decide +kernel
theorem d_Cv_march_79 : decode b_Cv_march 79 = .ok (.if_icmp .ge 62, 3) := by decide +kernel
theorem d_Cv_march_82 : decode b_Cv_march 82 = .ok (.aload_n 0, 1) := by decide +kernel
theorem d_Cv_march_83 : decode b_Cv_march 83 = .ok (.getfield 26, 3) := by decide +kernel
theorem d_Cv_march_86 : decode b_Cv_march 86 = .ok (.getfield 60, 3) := by decide +kernel
theorem d_Cv_march_89 : decode b_Cv_march 89 = .ok (.iload 5, 2) := by decide +kernel
theorem d_Cv_march_91 : decode b_Cv_march 91 = .ok (.iaload, 1) := by decide +kernel
theorem d_Cv_march_92 : decode b_Cv_march 92 = .ok (.iload_n 3, 1) := by decide +kernel
theorem d_Cv_march_93 : decode b_Cv_march 93 = .ok (.if_icmp .ne 42, 3) := by decide +kernel
theorem d_Cv_march_96 : decode b_Cv_march 96 = .ok (.aload_n 0, 1) := by decide +kernel
theorem d_Cv_march_97 : decode b_Cv_march 97 = .ok (.getfield 26, 3) := by decide +kernel
theorem d_Cv_march_100 : decode b_Cv_march 100 = .ok (.getfield 63, 3) := by decide +kernel
theorem d_Cv_march_103 : decode b_Cv_march 103 = .ok (.iload 5, 2) := by decide +kernel
theorem d_Cv_march_105 : decode b_Cv_march 105 = .ok (.iaload, 1) := by decide +kernel
theorem d_Cv_march_106 : decode b_Cv_march 106 = .ok (.iload_n 1, 1) := by decide +kernel
theorem d_Cv_march_107 : decode b_Cv_march 107 = .ok (.if_icmp .ne 28, 3) := by decide +kernel
theorem d_Cv_march_110 : decode b_Cv_march 110 = .ok (.aload_n 0, 1) := by decide +kernel
theorem d_Cv_march_111 : decode b_Cv_march 111 = .ok (.getfield 12, 3) := by decide +kernel
theorem d_Cv_march_114 : decode b_Cv_march 114 = .ok (.aload_n 0, 1) := by decide +kernel
theorem d_Cv_march_115 : decode b_Cv_march 115 = .ok (.getfield 26, 3) := by decide +kernel
theorem d_Cv_march_118 : decode b_Cv_march 118 = .ok (.getfield 65, 3) := by decide +kernel
theorem d_Cv_march_121 : decode b_Cv_march 121 = .ok (.iload 5, 2) := by decide +kernel
theorem d_Cv_march_123 : decode b_Cv_march 123 = .ok (.iaload, 1) := by decide +kernel
theorem d_Cv_march_124 : decode b_Cv_march 124 = .ok (.invokevirtual 68, 3) := by decide +kernel
theorem d_Cv_march_127 : decode b_Cv_march 127 = .ok (.aload_n 0, 1) := by decide +kernel
theorem d_Cv_march_128 : decode b_Cv_march 128 = .ok (.getfield 12, 3) := by decide +kernel
theorem d_Cv_march_131 : decode b_Cv_march 131 = .ok (.iload_n 3, 1) := by decide +kernel
theorem d_Cv_march_132 : decode b_Cv_march 132 = .ok (.invokevirtual 71, 3) := by decide +kernel
theorem d_Cv_march_135 : decode b_Cv_march 135 = .ok (.iinc 5 1, 3) := by decide +kernel
theorem d_Cv_march_138 : decode b_Cv_march 138 = .ok (.goto (-73), 3) := by decide +kernel
theorem d_Cv_march_141 : decode b_Cv_march 141 = .ok (.iconst 0, 1) := by decide +kernel
theorem d_Cv_march_142 : decode b_Cv_march 142 = .ok (.istore 5, 2) := by decide +kernel
theorem d_Cv_march_144 : decode b_Cv_march 144 = .ok (.iload 4, 2) := by decide +kernel
theorem d_Cv_march_146 : decode b_Cv_march 146 = .ok (.ifCond .eq 84, 3) := by decide +kernel
theorem d_Cv_march_149 : decode b_Cv_march 149 = .ok (.iload 5, 2) := by decide +kernel
theorem d_Cv_march_151 : decode b_Cv_march 151 = .ok (.aload_n 0, 1) := by decide +kernel
theorem d_Cv_march_152 : decode b_Cv_march 152 = .ok (.getfield 30, 3) := by decide +kernel
theorem d_Cv_march_155 : decode b_Cv_march 155 = .ok (.getfield 74, 3) := by decide +kernel
theorem d_Cv_march_158 : decode b_Cv_march 158 = .ok (.if_icmp .ge 72, 3) := by decide +kernel
theorem d_Cv_march_161 : decode b_Cv_march 161 = .ok (.aload_n 0, 1) := by decide +kernel
theorem d_Cv_march_162 : decode b_Cv_march 162 = .ok (.getfield 30, 3) := by decide +kernel
theorem d_Cv_march_165 : decode b_Cv_march 165 = .ok (.getfield 79, 3) := by decide +kernel
theorem d_Cv_march_168 : decode b_Cv_march 168 = .ok (.iload 5, 2) := by decide +kernel
theorem d_Cv_march_170 : decode b_Cv_march 170 = .ok (.iaload, 1) := by decide +kernel
theorem d_Cv_march_171 : decode b_Cv_march 171 = .ok (.iload_n 3, 1) := by decide +kernel
theorem d_Cv_march_172 : decode b_Cv_march 172 = .ok (.if_icmp .ne 52, 3) := by decide +kernel
theorem d_Cv_march_175 : decode b_Cv_march 175 = .ok (.aload_n 0, 1) := by decide +kernel
theorem d_Cv_march_176 : decode b_Cv_march 176 = .ok (.getfield 30, 3) := by decide +kernel
theorem d_Cv_march_179 : decode b_Cv_march 179 = .ok (.getfield 80, 3) := by decide +kernel
theorem d_Cv_march_182 : decode b_Cv_march 182 = .ok (.iload 5, 2) := by decide +kernel
theorem d_Cv_march_184 : decode b_Cv_march 184 = .ok (.iaload, 1) := by decide +kernel
theorem d_Cv_march_185 : decode b_Cv_march 185 = .ok (.iload_n 1, 1) := by decide +kernel
theorem d_Cv_march_186 : decode b_Cv_march 186 = .ok (.if_icmp .ne 38, 3) := by decide +kernel
theorem d_Cv_march_189 : decode b_Cv_march 189 = .ok (.aload_n 0, 1) := by decide +kernel
theorem d_Cv_march_190 : decode b_Cv_march 190 = .ok (.getfield 81, 3) := by decide +kernel
theorem d_Cv_march_193 : decode b_Cv_march 193 = .ok (.iload 5, 2) := by decide +kernel
theorem d_Cv_march_195 : decode b_Cv_march 195 = .ok (.ishr, 1) := by decide +kernel
theorem d_Cv_march_196 : decode b_Cv_march 196 = .ok (.iconst 1, 1) := by decide +kernel
theorem d_Cv_march_197 : decode b_Cv_march 197 = .ok (.iand, 1) := by decide +kernel
theorem d_Cv_march_198 : decode b_Cv_march 198 = .ok (.ifCond .ne 26, 3) := by decide +kernel
theorem d_Cv_march_201 : decode b_Cv_march 201 = .ok (.aload_n 0, 1) := by decide +kernel
theorem d_Cv_march_202 : decode b_Cv_march 202 = .ok (.getfield 12, 3) := by decide +kernel
theorem d_Cv_march_205 : decode b_Cv_march 205 = .ok (.iconst 1, 1) := by decide +kernel
theorem d_Cv_march_206 : decode b_Cv_march 206 = .ok (.invokevirtual 68, 3) := by decide +kernel
theorem d_Cv_march_209 : decode b_Cv_march 209 = .ok (.aload_n 0, 1) := by decide +kernel
theorem d_Cv_march_210 : decode b_Cv_march 210 = .ok (.getfield 12, 3) := by decide +kernel
theorem d_Cv_march_213 : decode b_Cv_march 213 = .ok (.iload_n 3, 1) := by decide +kernel
theorem d_Cv_march_214 : decode b_Cv_march 214 = .ok (.invokevirtual 71, 3) := by decide +kernel
theorem d_Cv_march_217 : decode b_Cv_march 217 = .ok (.aload_n 0, 1) := by decide +kernel
theorem d_Cv_march_218 : decode b_Cv_march 218 = .ok (.getfield 12, 3) := by decide +kernel
theorem d_Cv_march_221 : decode b_Cv_march 221 = .ok (.invokevirtual 84, 3) := by decide +kernel
theorem d_Cv_march_224 : decode b_Cv_march 224 = .ok (.iinc 5 1, 3) := by decide +kernel
theorem d_Cv_march_227 : decode b_Cv_march 227 = .ok (.goto (-83), 3) := by decide +kernel
theorem d_Cv_march_230 : decode b_Cv_march 230 = .ok (.aload_n 0, 1) := by decide +kernel
theorem d_Cv_march_231 : decode b_Cv_march 231 = .ok (.getfield 12, 3) := by decide +kernel
theorem d_Cv_march_234 : decode b_Cv_march 234 = .ok (.invokevirtual 87, 3) := by decide +kernel
theorem d_Cv_march_237 : decode b_Cv_march 237 = .ok (.aload_n 0, 1) := by decide +kernel
theorem d_Cv_march_238 : decode b_Cv_march 238 = .ok (.getfield 12, 3) := by decide +kernel
theorem d_Cv_march_241 : decode b_Cv_march 241 = .ok (.iload_n 3, 1) := by decide +kernel
theorem d_Cv_march_242 : decode b_Cv_march 242 = .ok (.invokevirtual 90, 3) := by decide +kernel
theorem d_Cv_march_245 : decode b_Cv_march 245 = .ok (.aload_n 0, 1) := by decide +kernel
theorem d_Cv_march_246 : decode b_Cv_march 246 = .ok (.getfield 12, 3) := by decide +kernel
theorem d_Cv_march_249 : decode b_Cv_march 249 = .ok (.iload_n 3, 1) := by decide +kernel
theorem d_Cv_march_250 : decode b_Cv_march 250 = .ok (.invokevirtual 71, 3) := by decide +kernel
theorem d_Cv_march_253 : decode b_Cv_march 253 = .ok (.aload_n 0, 1) := by decide +kernel
theorem d_Cv_march_254 : decode b_Cv_march 254 = .ok (.getfield 12, 3) := by decide +kernel
theorem d_Cv_march_257 : decode b_Cv_march 257 = .ok (.iload_n 3, 1) := by decide +kernel
theorem d_Cv_march_258 : decode b_Cv_march 258 = .ok (.invokevirtual 93, 3) := by decide +kernel
theorem d_Cv_march_261 : decode b_Cv_march 261 = .ok (.aload_n 0, 1) := by decide +kernel
theorem d_Cv_march_262 : decode b_Cv_march 262 = .ok (.getfield 12, 3) := by decide +kernel
theorem d_Cv_march_265 : decode b_Cv_march 265 = .ok (.iload_n 3, 1) := by decide +kernel
theorem d_Cv_march_266 : decode b_Cv_march 266 = .ok (.invokevirtual 96, 3) := by decide +kernel
theorem d_Cv_march_269 : decode b_Cv_march 269 = .ok (.iinc 3 1, 3) := by decide +kernel
theorem d_Cv_march_272 : decode b_Cv_march 272 = .ok (.goto (-239), 3) := by decide +kernel
theorem d_Cv_march_275 : decode b_Cv_march 275 = .ok (.aload_n 0, 1) := by decide +kernel
theorem d_Cv_march_276 : decode b_Cv_march 276 = .ok (.getfield 12, 3) := by decide +kernel
theorem d_Cv_march_279 : decode b_Cv_march 279 = .ok (.areturn, 1) := by decide +kernel
theorem d_Wa_behind_0 : decode b_Wa_behind 0 = .ok (.aload_n 0, 1) := by decide +kernel
theorem d_Wa_behind_1 : decode b_Wa_behind 1 = .ok (.getfield 9, 3) := by decide +kernel
theorem d_Wa_behind_4 : decode b_Wa_behind 4 = .ok (.iload_n 1, 1) := by decide +kernel
theorem d_Wa_behind_5 : decode b_Wa_behind 5 = .ok (.bipush 8, 2) := by decide +kernel
theorem d_Wa_behind_7 : decode b_Wa_behind 7 = .ok (.imul, 1) := by decide +kernel
theorem d_Wa_behind_8 : decode b_Wa_behind 8 = .ok (.iload_n 2, 1) := by decide +kernel
theorem d_Wa_behind_9 : decode b_Wa_behind 9 = .ok (.iadd, 1) := by decide +kernel
theorem d_Wa_behind_10 : decode b_Wa_behind 10 = .ok (.iaload, 1) := by decide +kernel
theorem d_Wa_behind_11 : decode b_Wa_behind 11 = .ok (.ireturn, 1) := by decide +kernel
theorem d_CS_at_0 : decode b_CS_at 0 = .ok (.iload_n 1, 1) := by decide +kernel
theorem d_CS_at_1 : decode b_CS_at 1 = .ok (.invokestatic 121, 3) := by decide +kernel
theorem d_CS_at_4 : decode b_CS_at 4 = .ok (.ifCond .eq 21, 3) := by decide +kernel
theorem d_CS_at_7 : decode b_CS_at 7 = .ok (.aload_n 0, 1) := by decide +kernel
theorem d_CS_at_8 : decode b_CS_at 8 = .ok (.iload_n 2, 1) := by decide +kernel
theorem d_CS_at_9 : decode b_CS_at 9 = .ok (.invokevirtual 96, 3) := by decide +kernel
theorem d_CS_at_12 : decode b_CS_at 12 = .ok (.ifCond .eq 13, 3) := by decide +kernel
theorem d_CS_at_15 : decode b_CS_at 15 = .ok (.iload_n 3, 1) := by decide +kernel
theorem d_CS_at_16 : decode b_CS_at 16 = .ok (.ifCond .lt 9, 3) := by decide +kernel
theorem d_CS_at_19 : decode b_CS_at 19 = .ok (.iload_n 3, 1) := by decide +kernel
theorem d_CS_at_20 : decode b_CS_at 20 = .ok (.bipush 6, 2) := by decide +kernel
theorem d_CS_at_22 : decode b_CS_at 22 = .ok (.if_icmp .lt 6, 3) := by decide +kernel
theorem d_CS_at_25 : decode b_CS_at 25 = .ok (.bipush (-2), 2) := by decide +kernel
theorem d_CS_at_27 : decode b_CS_at 27 = .ok (.ireturn, 1) := by decide +kernel
theorem d_CS_at_28 : decode b_CS_at 28 = .ok (.aload_n 0, 1) := by decide +kernel
theorem d_CS_at_29 : decode b_CS_at 29 = .ok (.getfield 44, 3) := by decide +kernel
theorem d_CS_at_32 : decode b_CS_at 32 = .ok (.iload_n 2, 1) := by decide +kernel
theorem d_CS_at_33 : decode b_CS_at 33 = .ok (.invokevirtual 151, 3) := by decide +kernel
theorem d_CS_at_36 : decode b_CS_at 36 = .ok (.iload_n 1, 1) := by decide +kernel
theorem d_CS_at_37 : decode b_CS_at 37 = .ok (.iload_n 3, 1) := by decide +kernel
theorem d_CS_at_38 : decode b_CS_at 38 = .ok (.invokevirtual 155, 3) := by decide +kernel
theorem d_CS_at_41 : decode b_CS_at 41 = .ok (.ireturn, 1) := by decide +kernel
theorem d_Cv_inAll_0 : decode b_Cv_inAll 0 = .ok (.iconst 0, 1) := by decide +kernel
theorem d_Cv_inAll_1 : decode b_Cv_inAll 1 = .ok (.istore_n 2, 1) := by decide +kernel
theorem d_Cv_inAll_2 : decode b_Cv_inAll 2 = .ok (.iconst 0, 1) := by decide +kernel
theorem d_Cv_inAll_3 : decode b_Cv_inAll 3 = .ok (.istore_n 3, 1) := by decide +kernel
theorem d_Cv_inAll_4 : decode b_Cv_inAll 4 = .ok (.iload_n 3, 1) := by decide +kernel
theorem d_Cv_inAll_5 : decode b_Cv_inAll 5 = .ok (.aload_n 0, 1) := by decide +kernel
theorem d_Cv_inAll_6 : decode b_Cv_inAll 6 = .ok (.getfield 22, 3) := by decide +kernel
theorem d_Cv_inAll_9 : decode b_Cv_inAll 9 = .ok (.getfield 99, 3) := by decide +kernel
theorem d_Cv_inAll_12 : decode b_Cv_inAll 12 = .ok (.if_icmp .ge 23, 3) := by decide +kernel
theorem d_Cv_inAll_15 : decode b_Cv_inAll 15 = .ok (.iload_n 2, 1) := by decide +kernel
theorem d_Cv_inAll_16 : decode b_Cv_inAll 16 = .ok (.aload_n 0, 1) := by decide +kernel
theorem d_Cv_inAll_17 : decode b_Cv_inAll 17 = .ok (.iload_n 3, 1) := by decide +kernel
theorem d_Cv_inAll_18 : decode b_Cv_inAll 18 = .ok (.invokevirtual 100, 3) := by decide +kernel
theorem d_Cv_inAll_21 : decode b_Cv_inAll 21 = .ok (.bipush 23, 2) := by decide +kernel
theorem d_Cv_inAll_23 : decode b_Cv_inAll 23 = .ok (.iload_n 1, 1) := by decide +kernel
theorem d_Cv_inAll_24 : decode b_Cv_inAll 24 = .ok (.invokevirtual 104, 3) := by decide +kernel
theorem d_Cv_inAll_27 : decode b_Cv_inAll 27 = .ok (.iadd, 1) := by decide +kernel
theorem d_Cv_inAll_28 : decode b_Cv_inAll 28 = .ok (.istore_n 2, 1) := by decide +kernel
theorem d_Cv_inAll_29 : decode b_Cv_inAll 29 = .ok (.iinc 3 1, 3) := by decide +kernel
theorem d_Cv_inAll_32 : decode b_Cv_inAll 32 = .ok (.goto (-28), 3) := by decide +kernel
theorem d_Cv_inAll_35 : decode b_Cv_inAll 35 = .ok (.iload_n 2, 1) := by decide +kernel
theorem d_Cv_inAll_36 : decode b_Cv_inAll 36 = .ok (.ireturn, 1) := by decide +kernel
theorem d_CS_through_0 : decode b_CS_through 0 = .ok (.aload_n 0, 1) := by decide +kernel
theorem d_CS_through_1 : decode b_CS_through 1 = .ok (.getfield 44, 3) := by decide +kernel
theorem d_CS_through_4 : decode b_CS_through 4 = .ok (.iconst 4, 1) := by decide +kernel
theorem d_CS_through_5 : decode b_CS_through 5 = .ok (.invokevirtual 160, 3) := by decide +kernel
theorem d_CS_through_8 : decode b_CS_through 8 = .ok (.ireturn, 1) := by decide +kernel
theorem d_CS_lost_0 : decode b_CS_lost 0 = .ok (.aload_n 0, 1) := by decide +kernel
theorem d_CS_lost_1 : decode b_CS_lost 1 = .ok (.getfield 44, 3) := by decide +kernel
theorem d_CS_lost_4 : decode b_CS_lost 4 = .ok (.bipush 7, 2) := by decide +kernel
theorem d_CS_lost_6 : decode b_CS_lost 6 = .ok (.invokevirtual 160, 3) := by decide +kernel
theorem d_CS_lost_9 : decode b_CS_lost 9 = .ok (.ireturn, 1) := by decide +kernel
theorem d_Cv_firstToBreak_0 : decode b_Cv_firstToBreak 0 = .ok (.iconst (-1), 1) := by decide +kernel
theorem d_Cv_firstToBreak_1 : decode b_Cv_firstToBreak 1 = .ok (.istore_n 1, 1) := by decide +kernel
theorem d_Cv_firstToBreak_2 : decode b_Cv_firstToBreak 2 = .ok (.bipush 24, 2) := by decide +kernel
theorem d_Cv_firstToBreak_4 : decode b_Cv_firstToBreak 4 = .ok (.istore_n 2, 1) := by decide +kernel
theorem d_Cv_firstToBreak_5 : decode b_Cv_firstToBreak 5 = .ok (.iconst 0, 1) := by decide +kernel
theorem d_Cv_firstToBreak_6 : decode b_Cv_firstToBreak 6 = .ok (.istore_n 3, 1) := by decide +kernel
theorem d_Cv_firstToBreak_7 : decode b_Cv_firstToBreak 7 = .ok (.iload_n 3, 1) := by decide +kernel
theorem d_Cv_firstToBreak_8 : decode b_Cv_firstToBreak 8 = .ok (.aload_n 0, 1) := by decide +kernel
theorem d_Cv_firstToBreak_9 : decode b_Cv_firstToBreak 9 = .ok (.getfield 22, 3) := by decide +kernel
theorem d_Cv_firstToBreak_12 : decode b_Cv_firstToBreak 12 = .ok (.getfield 99, 3) := by decide +kernel
theorem d_Cv_firstToBreak_15 : decode b_Cv_firstToBreak 15 = .ok (.if_icmp .ge 36, 3) := by decide +kernel
theorem d_Cv_firstToBreak_18 : decode b_Cv_firstToBreak 18 = .ok (.aload_n 0, 1) := by decide +kernel
theorem d_Cv_firstToBreak_19 : decode b_Cv_firstToBreak 19 = .ok (.iload_n 3, 1) := by decide +kernel
theorem d_Cv_firstToBreak_20 : decode b_Cv_firstToBreak 20 = .ok (.invokevirtual 100, 3) := by decide +kernel
theorem d_Cv_firstToBreak_23 : decode b_Cv_firstToBreak 23 = .ok (.getfield 108, 3) := by decide +kernel
theorem d_Cv_firstToBreak_26 : decode b_Cv_firstToBreak 26 = .ok (.istore 4, 2) := by decide +kernel
theorem d_Cv_firstToBreak_28 : decode b_Cv_firstToBreak 28 = .ok (.iload 4, 2) := by decide +kernel
theorem d_Cv_firstToBreak_30 : decode b_Cv_firstToBreak 30 = .ok (.iconst (-1), 1) := by decide +kernel
theorem d_Cv_firstToBreak_31 : decode b_Cv_firstToBreak 31 = .ok (.if_icmp .eq 14, 3) := by decide +kernel
theorem d_Cv_firstToBreak_34 : decode b_Cv_firstToBreak 34 = .ok (.iload 4, 2) := by decide +kernel
theorem d_Cv_firstToBreak_36 : decode b_Cv_firstToBreak 36 = .ok (.iload_n 2, 1) := by decide +kernel
theorem d_Cv_firstToBreak_37 : decode b_Cv_firstToBreak 37 = .ok (.if_icmp .ge 8, 3) := by decide +kernel
theorem d_Cv_firstToBreak_40 : decode b_Cv_firstToBreak 40 = .ok (.iload 4, 2) := by decide +kernel
theorem d_Cv_firstToBreak_42 : decode b_Cv_firstToBreak 42 = .ok (.istore_n 2, 1) := by decide +kernel
theorem d_Cv_firstToBreak_43 : decode b_Cv_firstToBreak 43 = .ok (.iload_n 3, 1) := by decide +kernel
theorem d_Cv_firstToBreak_44 : decode b_Cv_firstToBreak 44 = .ok (.istore_n 1, 1) := by decide +kernel
theorem d_Cv_firstToBreak_45 : decode b_Cv_firstToBreak 45 = .ok (.iinc 3 1, 3) := by decide +kernel
theorem d_Cv_firstToBreak_48 : decode b_Cv_firstToBreak 48 = .ok (.goto (-41), 3) := by decide +kernel
theorem d_Cv_firstToBreak_51 : decode b_Cv_firstToBreak 51 = .ok (.iload_n 1, 1) := by decide +kernel
theorem d_Cv_firstToBreak_52 : decode b_Cv_firstToBreak 52 = .ok (.ireturn, 1) := by decide +kernel
theorem d_CS_first_0 : decode b_CS_first 0 = .ok (.iload_n 1, 1) := by decide +kernel
theorem d_CS_first_1 : decode b_CS_first 1 = .ok (.ifCond .lt 8, 3) := by decide +kernel
theorem d_CS_first_4 : decode b_CS_first 4 = .ok (.iload_n 1, 1) := by decide +kernel
theorem d_CS_first_5 : decode b_CS_first 5 = .ok (.iconst 1, 1) := by decide +kernel
theorem d_CS_first_6 : decode b_CS_first 6 = .ok (.if_icmp .le 6, 3) := by decide +kernel
theorem d_CS_first_9 : decode b_CS_first 9 = .ok (.bipush (-2), 2) := by decide +kernel
theorem d_CS_first_11 : decode b_CS_first 11 = .ok (.ireturn, 1) := by decide +kernel
theorem d_CS_first_12 : decode b_CS_first 12 = .ok (.aload_n 0, 1) := by decide +kernel
theorem d_CS_first_13 : decode b_CS_first 13 = .ok (.getfield 44, 3) := by decide +kernel
theorem d_CS_first_16 : decode b_CS_first 16 = .ok (.invokevirtual 163, 3) := by decide +kernel
theorem d_CS_first_19 : decode b_CS_first 19 = .ok (.istore_n 2, 1) := by decide +kernel
theorem d_CS_first_20 : decode b_CS_first 20 = .ok (.iload_n 1, 1) := by decide +kernel
theorem d_CS_first_21 : decode b_CS_first 21 = .ok (.iconst 1, 1) := by decide +kernel
theorem d_CS_first_22 : decode b_CS_first 22 = .ok (.if_icmp .eq 8, 3) := by decide +kernel
theorem d_CS_first_25 : decode b_CS_first 25 = .ok (.iload_n 2, 1) := by decide +kernel
theorem d_CS_first_26 : decode b_CS_first 26 = .ok (.iconst (-1), 1) := by decide +kernel
theorem d_CS_first_27 : decode b_CS_first 27 = .ok (.if_icmp .ne 7, 3) := by decide +kernel
theorem d_CS_first_30 : decode b_CS_first 30 = .ok (.iload_n 2, 1) := by decide +kernel
theorem d_CS_first_31 : decode b_CS_first 31 = .ok (.goto 14, 3) := by decide +kernel
theorem d_CS_first_34 : decode b_CS_first 34 = .ok (.aload_n 0, 1) := by decide +kernel
theorem d_CS_first_35 : decode b_CS_first 35 = .ok (.getfield 44, 3) := by decide +kernel
theorem d_CS_first_38 : decode b_CS_first 38 = .ok (.iload_n 2, 1) := by decide +kernel
theorem d_CS_first_39 : decode b_CS_first 39 = .ok (.invokevirtual 151, 3) := by decide +kernel
theorem d_CS_first_42 : decode b_CS_first 42 = .ok (.getfield 167, 3) := by decide +kernel
theorem d_CS_first_45 : decode b_CS_first 45 = .ok (.ireturn, 1) := by decide +kernel
theorem d_Cv_broughtBy_0 : decode b_Cv_broughtBy 0 = .ok (.iload_n 1, 1) := by decide +kernel
theorem d_Cv_broughtBy_1 : decode b_Cv_broughtBy 1 = .ok (.ifCond .lt 28, 3) := by decide +kernel
theorem d_Cv_broughtBy_4 : decode b_Cv_broughtBy 4 = .ok (.iload_n 1, 1) := by decide +kernel
theorem d_Cv_broughtBy_5 : decode b_Cv_broughtBy 5 = .ok (.aload_n 0, 1) := by decide +kernel
theorem d_Cv_broughtBy_6 : decode b_Cv_broughtBy 6 = .ok (.getfield 22, 3) := by decide +kernel
theorem d_Cv_broughtBy_9 : decode b_Cv_broughtBy 9 = .ok (.getfield 99, 3) := by decide +kernel
theorem d_Cv_broughtBy_12 : decode b_Cv_broughtBy 12 = .ok (.if_icmp .ge 17, 3) := by decide +kernel
theorem d_Cv_broughtBy_15 : decode b_Cv_broughtBy 15 = .ok (.aload_n 0, 1) := by decide +kernel
theorem d_Cv_broughtBy_16 : decode b_Cv_broughtBy 16 = .ok (.iload_n 1, 1) := by decide +kernel
theorem d_Cv_broughtBy_17 : decode b_Cv_broughtBy 17 = .ok (.invokevirtual 100, 3) := by decide +kernel
theorem d_Cv_broughtBy_20 : decode b_Cv_broughtBy 20 = .ok (.bipush 23, 2) := by decide +kernel
theorem d_Cv_broughtBy_22 : decode b_Cv_broughtBy 22 = .ok (.iconst 4, 1) := by decide +kernel
theorem d_Cv_broughtBy_23 : decode b_Cv_broughtBy 23 = .ok (.invokevirtual 104, 3) := by decide +kernel
theorem d_Cv_broughtBy_26 : decode b_Cv_broughtBy 26 = .ok (.goto 4, 3) := by decide +kernel
theorem d_Cv_broughtBy_29 : decode b_Cv_broughtBy 29 = .ok (.iconst 0, 1) := by decide +kernel
theorem d_Cv_broughtBy_30 : decode b_Cv_broughtBy 30 = .ok (.ireturn, 1) := by decide +kernel
theorem d_Cv_bestCamel_0 : decode b_Cv_bestCamel 0 = .ok (.iconst (-1), 1) := by decide +kernel
theorem d_Cv_bestCamel_1 : decode b_Cv_bestCamel 1 = .ok (.istore_n 1, 1) := by decide +kernel
theorem d_Cv_bestCamel_2 : decode b_Cv_bestCamel 2 = .ok (.iconst (-1), 1) := by decide +kernel
theorem d_Cv_bestCamel_3 : decode b_Cv_bestCamel 3 = .ok (.istore_n 2, 1) := by decide +kernel
theorem d_Cv_bestCamel_4 : decode b_Cv_bestCamel 4 = .ok (.iconst 0, 1) := by decide +kernel
theorem d_Cv_bestCamel_5 : decode b_Cv_bestCamel 5 = .ok (.istore_n 3, 1) := by decide +kernel
theorem d_Cv_bestCamel_6 : decode b_Cv_bestCamel 6 = .ok (.iload_n 3, 1) := by decide +kernel
theorem d_Cv_bestCamel_7 : decode b_Cv_bestCamel 7 = .ok (.aload_n 0, 1) := by decide +kernel
theorem d_Cv_bestCamel_8 : decode b_Cv_bestCamel 8 = .ok (.getfield 22, 3) := by decide +kernel
theorem d_Cv_bestCamel_11 : decode b_Cv_bestCamel 11 = .ok (.getfield 99, 3) := by decide +kernel
theorem d_Cv_bestCamel_14 : decode b_Cv_bestCamel 14 = .ok (.if_icmp .ge 27, 3) := by decide +kernel
theorem d_Cv_bestCamel_17 : decode b_Cv_bestCamel 17 = .ok (.aload_n 0, 1) := by decide +kernel
theorem d_Cv_bestCamel_18 : decode b_Cv_bestCamel 18 = .ok (.iload_n 3, 1) := by decide +kernel
theorem d_Cv_bestCamel_19 : decode b_Cv_bestCamel 19 = .ok (.invokevirtual 111, 3) := by decide +kernel
theorem d_Cv_bestCamel_22 : decode b_Cv_bestCamel 22 = .ok (.istore 4, 2) := by decide +kernel
theorem d_Cv_bestCamel_24 : decode b_Cv_bestCamel 24 = .ok (.iload 4, 2) := by decide +kernel
theorem d_Cv_bestCamel_26 : decode b_Cv_bestCamel 26 = .ok (.iload_n 2, 1) := by decide +kernel
theorem d_Cv_bestCamel_27 : decode b_Cv_bestCamel 27 = .ok (.if_icmp .le 8, 3) := by decide +kernel
theorem d_Cv_bestCamel_30 : decode b_Cv_bestCamel 30 = .ok (.iload 4, 2) := by decide +kernel
theorem d_Cv_bestCamel_32 : decode b_Cv_bestCamel 32 = .ok (.istore_n 2, 1) := by decide +kernel
theorem d_Cv_bestCamel_33 : decode b_Cv_bestCamel 33 = .ok (.iload_n 3, 1) := by decide +kernel
theorem d_Cv_bestCamel_34 : decode b_Cv_bestCamel 34 = .ok (.istore_n 1, 1) := by decide +kernel
theorem d_Cv_bestCamel_35 : decode b_Cv_bestCamel 35 = .ok (.iinc 3 1, 3) := by decide +kernel
theorem d_Cv_bestCamel_38 : decode b_Cv_bestCamel 38 = .ok (.goto (-32), 3) := by decide +kernel
theorem d_Cv_bestCamel_41 : decode b_Cv_bestCamel 41 = .ok (.iload_n 1, 1) := by decide +kernel
theorem d_Cv_bestCamel_42 : decode b_Cv_bestCamel 42 = .ok (.ireturn, 1) := by decide +kernel
theorem d_CS_best_0 : decode b_CS_best 0 = .ok (.aload_n 0, 1) := by decide +kernel
theorem d_CS_best_1 : decode b_CS_best 1 = .ok (.getfield 44, 3) := by decide +kernel
theorem d_CS_best_4 : decode b_CS_best 4 = .ok (.invokevirtual 170, 3) := by decide +kernel
theorem d_CS_best_7 : decode b_CS_best 7 = .ok (.ireturn, 1) := by decide +kernel
theorem d_Cv_wholeCamels_0 : decode b_Cv_wholeCamels 0 = .ok (.iconst 0, 1) := by decide +kernel
theorem d_Cv_wholeCamels_1 : decode b_Cv_wholeCamels 1 = .ok (.istore_n 1, 1) := by decide +kernel
theorem d_Cv_wholeCamels_2 : decode b_Cv_wholeCamels 2 = .ok (.iconst 0, 1) := by decide +kernel
theorem d_Cv_wholeCamels_3 : decode b_Cv_wholeCamels 3 = .ok (.istore_n 2, 1) := by decide +kernel
theorem d_Cv_wholeCamels_4 : decode b_Cv_wholeCamels 4 = .ok (.iload_n 2, 1) := by decide +kernel
theorem d_Cv_wholeCamels_5 : decode b_Cv_wholeCamels 5 = .ok (.aload_n 0, 1) := by decide +kernel
theorem d_Cv_wholeCamels_6 : decode b_Cv_wholeCamels 6 = .ok (.getfield 22, 3) := by decide +kernel
theorem d_Cv_wholeCamels_9 : decode b_Cv_wholeCamels 9 = .ok (.getfield 99, 3) := by decide +kernel
theorem d_Cv_wholeCamels_12 : decode b_Cv_wholeCamels 12 = .ok (.if_icmp .ge 26, 3) := by decide +kernel
theorem d_Cv_wholeCamels_15 : decode b_Cv_wholeCamels 15 = .ok (.aload_n 0, 1) := by decide +kernel
theorem d_Cv_wholeCamels_16 : decode b_Cv_wholeCamels 16 = .ok (.iload_n 2, 1) := by decide +kernel
theorem d_Cv_wholeCamels_17 : decode b_Cv_wholeCamels 17 = .ok (.invokevirtual 100, 3) := by decide +kernel
theorem d_Cv_wholeCamels_20 : decode b_Cv_wholeCamels 20 = .ok (.getfield 114, 3) := by decide +kernel
theorem d_Cv_wholeCamels_23 : decode b_Cv_wholeCamels 23 = .ok (.ifCond .ne 9, 3) := by decide +kernel
theorem d_Cv_wholeCamels_26 : decode b_Cv_wholeCamels 26 = .ok (.iload_n 1, 1) := by decide +kernel
theorem d_Cv_wholeCamels_27 : decode b_Cv_wholeCamels 27 = .ok (.iconst 1, 1) := by decide +kernel
theorem d_Cv_wholeCamels_28 : decode b_Cv_wholeCamels 28 = .ok (.iload_n 2, 1) := by decide +kernel
theorem d_Cv_wholeCamels_29 : decode b_Cv_wholeCamels 29 = .ok (.ishl, 1) := by decide +kernel
theorem d_Cv_wholeCamels_30 : decode b_Cv_wholeCamels 30 = .ok (.ior, 1) := by decide +kernel
theorem d_Cv_wholeCamels_31 : decode b_Cv_wholeCamels 31 = .ok (.istore_n 1, 1) := by decide +kernel
theorem d_Cv_wholeCamels_32 : decode b_Cv_wholeCamels 32 = .ok (.iinc 2 1, 3) := by decide +kernel
theorem d_Cv_wholeCamels_35 : decode b_Cv_wholeCamels 35 = .ok (.goto (-31), 3) := by decide +kernel
theorem d_Cv_wholeCamels_38 : decode b_Cv_wholeCamels 38 = .ok (.iload_n 1, 1) := by decide +kernel
theorem d_Cv_wholeCamels_39 : decode b_Cv_wholeCamels 39 = .ok (.ireturn, 1) := by decide +kernel
theorem d_CS_whole_0 : decode b_CS_whole 0 = .ok (.aload_n 0, 1) := by decide +kernel
theorem d_CS_whole_1 : decode b_CS_whole 1 = .ok (.getfield 44, 3) := by decide +kernel
theorem d_CS_whole_4 : decode b_CS_whole 4 = .ok (.invokevirtual 173, 3) := by decide +kernel
theorem d_CS_whole_7 : decode b_CS_whole 7 = .ok (.ireturn, 1) := by decide +kernel
theorem d_Ar_fill_0 : decode b_Ar_fill 0 = .ok (.iconst 0, 1) := by decide +kernel
theorem d_Ar_fill_1 : decode b_Ar_fill 1 = .ok (.istore_n 2, 1) := by decide +kernel
theorem d_Ar_fill_2 : decode b_Ar_fill 2 = .ok (.aload_n 0, 1) := by decide +kernel
theorem d_Ar_fill_3 : decode b_Ar_fill 3 = .ok (.arraylength, 1) := by decide +kernel
theorem d_Ar_fill_4 : decode b_Ar_fill 4 = .ok (.istore_n 3, 1) := by decide +kernel
theorem d_Ar_fill_5 : decode b_Ar_fill 5 = .ok (.iload_n 2, 1) := by decide +kernel
theorem d_Ar_fill_6 : decode b_Ar_fill 6 = .ok (.iload_n 3, 1) := by decide +kernel
theorem d_Ar_fill_7 : decode b_Ar_fill 7 = .ok (.if_icmp .ge 13, 3) := by decide +kernel
theorem d_Ar_fill_10 : decode b_Ar_fill 10 = .ok (.aload_n 0, 1) := by decide +kernel
theorem d_Ar_fill_11 : decode b_Ar_fill 11 = .ok (.iload_n 2, 1) := by decide +kernel
theorem d_Ar_fill_12 : decode b_Ar_fill 12 = .ok (.iload_n 1, 1) := by decide +kernel
theorem d_Ar_fill_13 : decode b_Ar_fill 13 = .ok (.iastore, 1) := by decide +kernel
theorem d_Ar_fill_14 : decode b_Ar_fill 14 = .ok (.iinc 2 1, 3) := by decide +kernel
theorem d_Ar_fill_17 : decode b_Ar_fill 17 = .ok (.goto (-12), 3) := by decide +kernel
theorem d_Ar_fill_20 : decode b_Ar_fill 20 = .ok (.return_, 1) := by decide +kernel
theorem d_Cv_tiredDay_0 : decode b_Cv_tiredDay 0 = .ok (.aload_n 0, 1) := by decide +kernel
theorem d_Cv_tiredDay_1 : decode b_Cv_tiredDay 1 = .ok (.getfield 18, 3) := by decide +kernel
theorem d_Cv_tiredDay_4 : decode b_Cv_tiredDay 4 = .ok (.iconst 0, 1) := by decide +kernel
theorem d_Cv_tiredDay_5 : decode b_Cv_tiredDay 5 = .ok (.invokestatic 117, 3) := by decide +kernel
theorem d_Cv_tiredDay_8 : decode b_Cv_tiredDay 8 = .ok (.iconst 0, 1) := by decide +kernel
theorem d_Cv_tiredDay_9 : decode b_Cv_tiredDay 9 = .ok (.istore_n 1, 1) := by decide +kernel
theorem d_Cv_tiredDay_10 : decode b_Cv_tiredDay 10 = .ok (.iload_n 1, 1) := by decide +kernel
theorem d_Cv_tiredDay_11 : decode b_Cv_tiredDay 11 = .ok (.aload_n 0, 1) := by decide +kernel
theorem d_Cv_tiredDay_12 : decode b_Cv_tiredDay 12 = .ok (.getfield 22, 3) := by decide +kernel
theorem d_Cv_tiredDay_15 : decode b_Cv_tiredDay 15 = .ok (.getfield 99, 3) := by decide +kernel
theorem d_Cv_tiredDay_18 : decode b_Cv_tiredDay 18 = .ok (.if_icmp .ge 47, 3) := by decide +kernel
theorem d_Cv_tiredDay_21 : decode b_Cv_tiredDay 21 = .ok (.aload_n 0, 1) := by decide +kernel
theorem d_Cv_tiredDay_22 : decode b_Cv_tiredDay 22 = .ok (.iload_n 1, 1) := by decide +kernel
theorem d_Cv_tiredDay_23 : decode b_Cv_tiredDay 23 = .ok (.invokevirtual 100, 3) := by decide +kernel
theorem d_Cv_tiredDay_26 : decode b_Cv_tiredDay 26 = .ok (.pop, 1) := by decide +kernel
theorem d_Cv_tiredDay_27 : decode b_Cv_tiredDay 27 = .ok (.iconst 0, 1) := by decide +kernel
theorem d_Cv_tiredDay_28 : decode b_Cv_tiredDay 28 = .ok (.istore_n 2, 1) := by decide +kernel
theorem d_Cv_tiredDay_29 : decode b_Cv_tiredDay 29 = .ok (.iload_n 2, 1) := by decide +kernel
theorem d_Cv_tiredDay_30 : decode b_Cv_tiredDay 30 = .ok (.bipush 24, 2) := by decide +kernel
theorem d_Cv_tiredDay_32 : decode b_Cv_tiredDay 32 = .ok (.if_icmp .ge 27, 3) := by decide +kernel
theorem d_Cv_tiredDay_35 : decode b_Cv_tiredDay 35 = .ok (.aload_n 0, 1) := by decide +kernel
theorem d_Cv_tiredDay_36 : decode b_Cv_tiredDay 36 = .ok (.getfield 18, 3) := by decide +kernel
theorem d_Cv_tiredDay_39 : decode b_Cv_tiredDay 39 = .ok (.iload_n 2, 1) := by decide +kernel
theorem d_Cv_tiredDay_40 : decode b_Cv_tiredDay 40 = .ok (.dup2, 1) := by decide +kernel
theorem d_Cv_tiredDay_41 : decode b_Cv_tiredDay 41 = .ok (.iaload, 1) := by decide +kernel
theorem d_Cv_tiredDay_42 : decode b_Cv_tiredDay 42 = .ok (.aload_n 0, 1) := by decide +kernel
theorem d_Cv_tiredDay_43 : decode b_Cv_tiredDay 43 = .ok (.getfield 12, 3) := by decide +kernel
theorem d_Cv_tiredDay_46 : decode b_Cv_tiredDay 46 = .ok (.iload_n 2, 1) := by decide +kernel
theorem d_Cv_tiredDay_47 : decode b_Cv_tiredDay 47 = .ok (.iconst 1, 1) := by decide +kernel
theorem d_Cv_tiredDay_48 : decode b_Cv_tiredDay 48 = .ok (.invokevirtual 104, 3) := by decide +kernel
theorem d_Cv_tiredDay_51 : decode b_Cv_tiredDay 51 = .ok (.iadd, 1) := by decide +kernel
theorem d_Cv_tiredDay_52 : decode b_Cv_tiredDay 52 = .ok (.iastore, 1) := by decide +kernel
theorem d_Cv_tiredDay_53 : decode b_Cv_tiredDay 53 = .ok (.iinc 2 1, 3) := by decide +kernel
theorem d_Cv_tiredDay_56 : decode b_Cv_tiredDay 56 = .ok (.goto (-27), 3) := by decide +kernel
theorem d_Cv_tiredDay_59 : decode b_Cv_tiredDay 59 = .ok (.iinc 1 1, 3) := by decide +kernel
theorem d_Cv_tiredDay_62 : decode b_Cv_tiredDay 62 = .ok (.goto (-52), 3) := by decide +kernel
theorem d_Cv_tiredDay_65 : decode b_Cv_tiredDay 65 = .ok (.iconst 0, 1) := by decide +kernel
theorem d_Cv_tiredDay_66 : decode b_Cv_tiredDay 66 = .ok (.istore_n 1, 1) := by decide +kernel
theorem d_Cv_tiredDay_67 : decode b_Cv_tiredDay 67 = .ok (.iconst 1, 1) := by decide +kernel
theorem d_Cv_tiredDay_68 : decode b_Cv_tiredDay 68 = .ok (.istore_n 2, 1) := by decide +kernel
theorem d_Cv_tiredDay_69 : decode b_Cv_tiredDay 69 = .ok (.iload_n 2, 1) := by decide +kernel
theorem d_Cv_tiredDay_70 : decode b_Cv_tiredDay 70 = .ok (.bipush 24, 2) := by decide +kernel
theorem d_Cv_tiredDay_72 : decode b_Cv_tiredDay 72 = .ok (.if_icmp .ge 26, 3) := by decide +kernel
theorem d_Cv_tiredDay_75 : decode b_Cv_tiredDay 75 = .ok (.aload_n 0, 1) := by decide +kernel
theorem d_Cv_tiredDay_76 : decode b_Cv_tiredDay 76 = .ok (.getfield 18, 3) := by decide +kernel
theorem d_Cv_tiredDay_79 : decode b_Cv_tiredDay 79 = .ok (.iload_n 2, 1) := by decide +kernel
theorem d_Cv_tiredDay_80 : decode b_Cv_tiredDay 80 = .ok (.iaload, 1) := by decide +kernel
theorem d_Cv_tiredDay_81 : decode b_Cv_tiredDay 81 = .ok (.aload_n 0, 1) := by decide +kernel
theorem d_Cv_tiredDay_82 : decode b_Cv_tiredDay 82 = .ok (.getfield 18, 3) := by decide +kernel
theorem d_Cv_tiredDay_85 : decode b_Cv_tiredDay 85 = .ok (.iload_n 1, 1) := by decide +kernel
theorem d_Cv_tiredDay_86 : decode b_Cv_tiredDay 86 = .ok (.iaload, 1) := by decide +kernel
theorem d_Cv_tiredDay_87 : decode b_Cv_tiredDay 87 = .ok (.if_icmp .ge 5, 3) := by decide +kernel
theorem d_Cv_tiredDay_90 : decode b_Cv_tiredDay 90 = .ok (.iload_n 2, 1) := by decide +kernel
theorem d_Cv_tiredDay_91 : decode b_Cv_tiredDay 91 = .ok (.istore_n 1, 1) := by decide +kernel
theorem d_Cv_tiredDay_92 : decode b_Cv_tiredDay 92 = .ok (.iinc 2 1, 3) := by decide +kernel
theorem d_Cv_tiredDay_95 : decode b_Cv_tiredDay 95 = .ok (.goto (-26), 3) := by decide +kernel
theorem d_Cv_tiredDay_98 : decode b_Cv_tiredDay 98 = .ok (.iload_n 1, 1) := by decide +kernel
theorem d_Cv_tiredDay_99 : decode b_Cv_tiredDay 99 = .ok (.ireturn, 1) := by decide +kernel
end
section
/-! decode rows (printed) -/
theorem d_CS_tired_0 : decode b_CS_tired 0 = .ok (.aload_n 0, 1) := by decide +kernel
theorem d_CS_tired_1 : decode b_CS_tired 1 = .ok (.getfield 44, 3) := by decide +kernel
theorem d_CS_tired_4 : decode b_CS_tired 4 = .ok (.invokevirtual 176, 3) := by decide +kernel
theorem d_CS_tired_7 : decode b_CS_tired 7 = .ok (.ireturn, 1) := by decide +kernel
theorem d_CS_last_0 : decode b_CS_last 0 = .ok (.aload_n 0, 1) := by decide +kernel
theorem d_CS_last_1 : decode b_CS_last 1 = .ok (.iload_n 1, 1) := by decide +kernel
theorem d_CS_last_2 : decode b_CS_last 2 = .ok (.invokevirtual 96, 3) := by decide +kernel
theorem d_CS_last_5 : decode b_CS_last 5 = .ok (.ifCond .eq 10, 3) := by decide +kernel
theorem d_CS_last_8 : decode b_CS_last 8 = .ok (.iload_n 2, 1) := by decide +kernel
theorem d_CS_last_9 : decode b_CS_last 9 = .ok (.invokestatic 121, 3) := by decide +kernel
theorem d_CS_last_12 : decode b_CS_last 12 = .ok (.ifCond .ne 6, 3) := by decide +kernel
theorem d_CS_last_15 : decode b_CS_last 15 = .ok (.bipush (-2), 2) := by decide +kernel
theorem d_CS_last_17 : decode b_CS_last 17 = .ok (.ireturn, 1) := by decide +kernel
theorem d_CS_last_18 : decode b_CS_last 18 = .ok (.aload_n 0, 1) := by decide +kernel
theorem d_CS_last_19 : decode b_CS_last 19 = .ok (.getfield 44, 3) := by decide +kernel
theorem d_CS_last_22 : decode b_CS_last 22 = .ok (.iload_n 1, 1) := by decide +kernel
theorem d_CS_last_23 : decode b_CS_last 23 = .ok (.invokevirtual 151, 3) := by decide +kernel
theorem d_CS_last_26 : decode b_CS_last 26 = .ok (.iload_n 2, 1) := by decide +kernel
theorem d_CS_last_27 : decode b_CS_last 27 = .ok (.bipush 6, 2) := by decide +kernel
theorem d_CS_last_29 : decode b_CS_last 29 = .ok (.invokevirtual 155, 3) := by decide +kernel
theorem d_CS_last_32 : decode b_CS_last 32 = .ok (.istore_n 3, 1) := by decide +kernel
theorem d_CS_last_33 : decode b_CS_last 33 = .ok (.iload_n 3, 1) := by decide +kernel
theorem d_CS_last_34 : decode b_CS_last 34 = .ok (.iconst 1, 1) := by decide +kernel
theorem d_CS_last_35 : decode b_CS_last 35 = .ok (.if_icmp .lt 13, 3) := by decide +kernel
theorem d_CS_last_38 : decode b_CS_last 38 = .ok (.iload_n 3, 1) := by decide +kernel
theorem d_CS_last_39 : decode b_CS_last 39 = .ok (.bipush 9, 2) := by decide +kernel
theorem d_CS_last_41 : decode b_CS_last 41 = .ok (.if_icmp .gt 7, 3) := by decide +kernel
theorem d_CS_last_44 : decode b_CS_last 44 = .ok (.iload_n 3, 1) := by decide +kernel
theorem d_CS_last_45 : decode b_CS_last 45 = .ok (.goto 4, 3) := by decide +kernel
theorem d_CS_last_48 : decode b_CS_last 48 = .ok (.iconst (-1), 1) := by decide +kernel
theorem d_CS_last_49 : decode b_CS_last 49 = .ok (.ireturn, 1) := by decide +kernel
theorem d_Pl_beginChoice_0 : decode b_Pl_beginChoice 0 = .ok (.aload_n 0, 1) := by decide +kernel
theorem d_Pl_beginChoice_1 : decode b_Pl_beginChoice 1 = .ok (.iconst (-1), 1) := by decide +kernel
theorem d_Pl_beginChoice_2 : decode b_Pl_beginChoice 2 = .ok (.putfield 44, 3) := by decide +kernel
theorem d_Pl_beginChoice_5 : decode b_Pl_beginChoice 5 = .ok (.aload_n 0, 1) := by decide +kernel
theorem d_Pl_beginChoice_6 : decode b_Pl_beginChoice 6 = .ok (.iconst (-1), 1) := by decide +kernel
theorem d_Pl_beginChoice_7 : decode b_Pl_beginChoice 7 = .ok (.putfield 48, 3) := by decide +kernel
theorem d_Pl_beginChoice_10 : decode b_Pl_beginChoice 10 = .ok (.return_, 1) := by decide +kernel
theorem d_Pl_choose_0 : decode b_Pl_choose 0 = .ok (.iload_n 2, 1) := by decide +kernel
theorem d_Pl_choose_1 : decode b_Pl_choose 1 = .ok (.aload_n 0, 1) := by decide +kernel
theorem d_Pl_choose_2 : decode b_Pl_choose 2 = .ok (.getfield 48, 3) := by decide +kernel
theorem d_Pl_choose_5 : decode b_Pl_choose 5 = .ok (.if_icmp .le 13, 3) := by decide +kernel
theorem d_Pl_choose_8 : decode b_Pl_choose 8 = .ok (.aload_n 0, 1) := by decide +kernel
theorem d_Pl_choose_9 : decode b_Pl_choose 9 = .ok (.iload_n 1, 1) := by decide +kernel
theorem d_Pl_choose_10 : decode b_Pl_choose 10 = .ok (.putfield 44, 3) := by decide +kernel
theorem d_Pl_choose_13 : decode b_Pl_choose 13 = .ok (.aload_n 0, 1) := by decide +kernel
theorem d_Pl_choose_14 : decode b_Pl_choose 14 = .ok (.iload_n 2, 1) := by decide +kernel
theorem d_Pl_choose_15 : decode b_Pl_choose 15 = .ok (.putfield 48, 3) := by decide +kernel
theorem d_Pl_choose_18 : decode b_Pl_choose 18 = .ok (.return_, 1) := by decide +kernel
theorem d_Pl_tryCamels_0 : decode b_Pl_tryCamels 0 = .ok (.aload_n 0, 1) := by decide +kernel
theorem d_Pl_tryCamels_1 : decode b_Pl_tryCamels 1 = .ok (.getfield 9, 3) := by decide +kernel
theorem d_Pl_tryCamels_4 : decode b_Pl_tryCamels 4 = .ok (.getfield 15, 3) := by decide +kernel
theorem d_Pl_tryCamels_7 : decode b_Pl_tryCamels 7 = .ok (.getfield 21, 3) := by decide +kernel
theorem d_Pl_tryCamels_10 : decode b_Pl_tryCamels 10 = .ok (.astore_n 2, 1) := by decide +kernel
theorem d_Pl_tryCamels_11 : decode b_Pl_tryCamels 11 = .ok (.aload_n 2, 1) := by decide +kernel
theorem d_Pl_tryCamels_12 : decode b_Pl_tryCamels 12 = .ok (.iload_n 1, 1) := by decide +kernel
theorem d_Pl_tryCamels_13 : decode b_Pl_tryCamels 13 = .ok (.iaload, 1) := by decide +kernel
theorem d_Pl_tryCamels_14 : decode b_Pl_tryCamels 14 = .ok (.istore_n 3, 1) := by decide +kernel
theorem d_Pl_tryCamels_15 : decode b_Pl_tryCamels 15 = .ok (.aload_n 2, 1) := by decide +kernel
theorem d_Pl_tryCamels_16 : decode b_Pl_tryCamels 16 = .ok (.iload_n 1, 1) := by decide +kernel
theorem d_Pl_tryCamels_17 : decode b_Pl_tryCamels 17 = .ok (.iconst (-1), 1) := by decide +kernel
theorem d_Pl_tryCamels_18 : decode b_Pl_tryCamels 18 = .ok (.iastore, 1) := by decide +kernel
theorem d_Pl_tryCamels_19 : decode b_Pl_tryCamels 19 = .ok (.aload_n 0, 1) := by decide +kernel
theorem d_Pl_tryCamels_20 : decode b_Pl_tryCamels 20 = .ok (.getfield 9, 3) := by decide +kernel
theorem d_Pl_tryCamels_23 : decode b_Pl_tryCamels 23 = .ok (.iconst 4, 1) := by decide +kernel
theorem d_Pl_tryCamels_24 : decode b_Pl_tryCamels 24 = .ok (.invokevirtual 27, 3) := by decide +kernel
theorem d_Pl_tryCamels_27 : decode b_Pl_tryCamels 27 = .ok (.istore 4, 2) := by decide +kernel
theorem d_Pl_tryCamels_29 : decode b_Pl_tryCamels 29 = .ok (.aload_n 0, 1) := by decide +kernel
theorem d_Pl_tryCamels_30 : decode b_Pl_tryCamels 30 = .ok (.invokevirtual 31, 3) := by decide +kernel
theorem d_Pl_tryCamels_33 : decode b_Pl_tryCamels 33 = .ok (.iconst 0, 1) := by decide +kernel
theorem d_Pl_tryCamels_34 : decode b_Pl_tryCamels 34 = .ok (.istore 5, 2) := by decide +kernel
theorem d_Pl_tryCamels_36 : decode b_Pl_tryCamels 36 = .ok (.iload 5, 2) := by decide +kernel
theorem d_Pl_tryCamels_38 : decode b_Pl_tryCamels 38 = .ok (.bipush 8, 2) := by decide +kernel
theorem d_Pl_tryCamels_40 : decode b_Pl_tryCamels 40 = .ok (.if_icmp .ge 50, 3) := by decide +kernel
theorem d_Pl_tryCamels_43 : decode b_Pl_tryCamels 43 = .ok (.aload_n 2, 1) := by decide +kernel
theorem d_Pl_tryCamels_44 : decode b_Pl_tryCamels 44 = .ok (.iload_n 1, 1) := by decide +kernel
theorem d_Pl_tryCamels_45 : decode b_Pl_tryCamels 45 = .ok (.iconst (-1), 1) := by decide +kernel
theorem d_Pl_tryCamels_46 : decode b_Pl_tryCamels 46 = .ok (.iastore, 1) := by decide +kernel
theorem d_Pl_tryCamels_47 : decode b_Pl_tryCamels 47 = .ok (.iload 4, 2) := by decide +kernel
theorem d_Pl_tryCamels_49 : decode b_Pl_tryCamels 49 = .ok (.aload_n 0, 1) := by decide +kernel
theorem d_Pl_tryCamels_50 : decode b_Pl_tryCamels 50 = .ok (.getfield 9, 3) := by decide +kernel
theorem d_Pl_tryCamels_53 : decode b_Pl_tryCamels 53 = .ok (.iload 5, 2) := by decide +kernel
theorem d_Pl_tryCamels_55 : decode b_Pl_tryCamels 55 = .ok (.invokevirtual 34, 3) := by decide +kernel
theorem d_Pl_tryCamels_58 : decode b_Pl_tryCamels 58 = .ok (.isub, 1) := by decide +kernel
theorem d_Pl_tryCamels_59 : decode b_Pl_tryCamels 59 = .ok (.istore 6, 2) := by decide +kernel
theorem d_Pl_tryCamels_61 : decode b_Pl_tryCamels 61 = .ok (.aload_n 2, 1) := by decide +kernel
theorem d_Pl_tryCamels_62 : decode b_Pl_tryCamels 62 = .ok (.iload_n 1, 1) := by decide +kernel
theorem d_Pl_tryCamels_63 : decode b_Pl_tryCamels 63 = .ok (.iload 5, 2) := by decide +kernel
theorem d_Pl_tryCamels_65 : decode b_Pl_tryCamels 65 = .ok (.iastore, 1) := by decide +kernel
theorem d_Pl_tryCamels_66 : decode b_Pl_tryCamels 66 = .ok (.aload_n 0, 1) := by decide +kernel
theorem d_Pl_tryCamels_67 : decode b_Pl_tryCamels 67 = .ok (.iload 5, 2) := by decide +kernel
theorem d_Pl_tryCamels_69 : decode b_Pl_tryCamels 69 = .ok (.iload 6, 2) := by decide +kernel
theorem d_Pl_tryCamels_71 : decode b_Pl_tryCamels 71 = .ok (.aload_n 0, 1) := by decide +kernel
theorem d_Pl_tryCamels_72 : decode b_Pl_tryCamels 72 = .ok (.getfield 9, 3) := by decide +kernel
theorem d_Pl_tryCamels_75 : decode b_Pl_tryCamels 75 = .ok (.iload 5, 2) := by decide +kernel
theorem d_Pl_tryCamels_77 : decode b_Pl_tryCamels 77 = .ok (.invokevirtual 34, 3) := by decide +kernel
theorem d_Pl_tryCamels_80 : decode b_Pl_tryCamels 80 = .ok (.iadd, 1) := by decide +kernel
theorem d_Pl_tryCamels_81 : decode b_Pl_tryCamels 81 = .ok (.invokevirtual 37, 3) := by decide +kernel
theorem d_Pl_tryCamels_84 : decode b_Pl_tryCamels 84 = .ok (.iinc 5 1, 3) := by decide +kernel
theorem d_Pl_tryCamels_87 : decode b_Pl_tryCamels 87 = .ok (.goto (-51), 3) := by decide +kernel
theorem d_Pl_tryCamels_90 : decode b_Pl_tryCamels 90 = .ok (.aload_n 2, 1) := by decide +kernel
theorem d_Pl_tryCamels_91 : decode b_Pl_tryCamels 91 = .ok (.iload_n 1, 1) := by decide +kernel
theorem d_Pl_tryCamels_92 : decode b_Pl_tryCamels 92 = .ok (.iload_n 3, 1) := by decide +kernel
theorem d_Pl_tryCamels_93 : decode b_Pl_tryCamels 93 = .ok (.iastore, 1) := by decide +kernel
theorem d_Pl_tryCamels_94 : decode b_Pl_tryCamels 94 = .ok (.return_, 1) := by decide +kernel
theorem d_CS_bear_0 : decode b_CS_bear 0 = .ok (.aload_n 0, 1) := by decide +kernel
theorem d_CS_bear_1 : decode b_CS_bear 1 = .ok (.iload_n 1, 1) := by decide +kernel
theorem d_CS_bear_2 : decode b_CS_bear 2 = .ok (.invokevirtual 110, 3) := by decide +kernel
theorem d_CS_bear_5 : decode b_CS_bear 5 = .ok (.ifCond .eq 12, 3) := by decide +kernel
theorem d_CS_bear_8 : decode b_CS_bear 8 = .ok (.iload_n 2, 1) := by decide +kernel
theorem d_CS_bear_9 : decode b_CS_bear 9 = .ok (.ifCond .lt 8, 3) := by decide +kernel
theorem d_CS_bear_12 : decode b_CS_bear 12 = .ok (.iload_n 2, 1) := by decide +kernel
theorem d_CS_bear_13 : decode b_CS_bear 13 = .ok (.iconst 1, 1) := by decide +kernel
theorem d_CS_bear_14 : decode b_CS_bear 14 = .ok (.if_icmp .le 6, 3) := by decide +kernel
theorem d_CS_bear_17 : decode b_CS_bear 17 = .ok (.bipush (-2), 2) := by decide +kernel
theorem d_CS_bear_19 : decode b_CS_bear 19 = .ok (.ireturn, 1) := by decide +kernel
theorem d_CS_bear_20 : decode b_CS_bear 20 = .ok (.aload_n 0, 1) := by decide +kernel
theorem d_CS_bear_21 : decode b_CS_bear 21 = .ok (.getfield 53, 3) := by decide +kernel
theorem d_CS_bear_24 : decode b_CS_bear 24 = .ok (.iload_n 1, 1) := by decide +kernel
theorem d_CS_bear_25 : decode b_CS_bear 25 = .ok (.invokevirtual 179, 3) := by decide +kernel
theorem d_CS_bear_28 : decode b_CS_bear 28 = .ok (.iload_n 2, 1) := by decide +kernel
theorem d_CS_bear_29 : decode b_CS_bear 29 = .ok (.ifCond .ne 13, 3) := by decide +kernel
theorem d_CS_bear_32 : decode b_CS_bear 32 = .ok (.aload_n 0, 1) := by decide +kernel
theorem d_CS_bear_33 : decode b_CS_bear 33 = .ok (.getfield 53, 3) := by decide +kernel
theorem d_CS_bear_36 : decode b_CS_bear 36 = .ok (.getfield 182, 3) := by decide +kernel
theorem d_CS_bear_39 : decode b_CS_bear 39 = .ok (.goto 10, 3) := by decide +kernel
theorem d_CS_bear_42 : decode b_CS_bear 42 = .ok (.aload_n 0, 1) := by decide +kernel
theorem d_CS_bear_43 : decode b_CS_bear 43 = .ok (.getfield 53, 3) := by decide +kernel
theorem d_CS_bear_46 : decode b_CS_bear 46 = .ok (.getfield 185, 3) := by decide +kernel
theorem d_CS_bear_49 : decode b_CS_bear 49 = .ok (.ireturn, 1) := by decide +kernel
theorem d_Pl_tryDays_0 : decode b_Pl_tryDays 0 = .ok (.aload_n 0, 1) := by decide +kernel
theorem d_Pl_tryDays_1 : decode b_Pl_tryDays 1 = .ok (.getfield 9, 3) := by decide +kernel
theorem d_Pl_tryDays_4 : decode b_Pl_tryDays 4 = .ok (.getfield 15, 3) := by decide +kernel
theorem d_Pl_tryDays_7 : decode b_Pl_tryDays 7 = .ok (.getfield 41, 3) := by decide +kernel
theorem d_Pl_tryDays_10 : decode b_Pl_tryDays 10 = .ok (.astore_n 2, 1) := by decide +kernel
theorem d_Pl_tryDays_11 : decode b_Pl_tryDays 11 = .ok (.aload_n 2, 1) := by decide +kernel
theorem d_Pl_tryDays_12 : decode b_Pl_tryDays 12 = .ok (.iload_n 1, 1) := by decide +kernel
theorem d_Pl_tryDays_13 : decode b_Pl_tryDays 13 = .ok (.iaload, 1) := by decide +kernel
theorem d_Pl_tryDays_14 : decode b_Pl_tryDays 14 = .ok (.istore_n 3, 1) := by decide +kernel
theorem d_Pl_tryDays_15 : decode b_Pl_tryDays 15 = .ok (.aload_n 0, 1) := by decide +kernel
theorem d_Pl_tryDays_16 : decode b_Pl_tryDays 16 = .ok (.getfield 9, 3) := by decide +kernel
theorem d_Pl_tryDays_19 : decode b_Pl_tryDays 19 = .ok (.getfield 15, 3) := by decide +kernel
theorem d_Pl_tryDays_22 : decode b_Pl_tryDays 22 = .ok (.getfield 21, 3) := by decide +kernel
theorem d_Pl_tryDays_25 : decode b_Pl_tryDays 25 = .ok (.iload_n 1, 1) := by decide +kernel
theorem d_Pl_tryDays_26 : decode b_Pl_tryDays 26 = .ok (.iaload, 1) := by decide +kernel
theorem d_Pl_tryDays_27 : decode b_Pl_tryDays 27 = .ok (.istore 4, 2) := by decide +kernel
theorem d_Pl_tryDays_29 : decode b_Pl_tryDays 29 = .ok (.aload_n 0, 1) := by decide +kernel
theorem d_Pl_tryDays_30 : decode b_Pl_tryDays 30 = .ok (.getfield 9, 3) := by decide +kernel
theorem d_Pl_tryDays_33 : decode b_Pl_tryDays 33 = .ok (.iconst 4, 1) := by decide +kernel
theorem d_Pl_tryDays_34 : decode b_Pl_tryDays 34 = .ok (.invokevirtual 27, 3) := by decide +kernel
theorem d_Pl_tryDays_37 : decode b_Pl_tryDays 37 = .ok (.aload_n 0, 1) := by decide +kernel
theorem d_Pl_tryDays_38 : decode b_Pl_tryDays 38 = .ok (.getfield 9, 3) := by decide +kernel
theorem d_Pl_tryDays_41 : decode b_Pl_tryDays 41 = .ok (.iload 4, 2) := by decide +kernel
theorem d_Pl_tryDays_43 : decode b_Pl_tryDays 43 = .ok (.invokevirtual 34, 3) := by decide +kernel
theorem d_Pl_tryDays_46 : decode b_Pl_tryDays 46 = .ok (.isub, 1) := by decide +kernel
theorem d_Pl_tryDays_47 : decode b_Pl_tryDays 47 = .ok (.istore 5, 2) := by decide +kernel
theorem d_Pl_tryDays_49 : decode b_Pl_tryDays 49 = .ok (.aload_n 0, 1) := by decide +kernel
theorem d_Pl_tryDays_50 : decode b_Pl_tryDays 50 = .ok (.invokevirtual 31, 3) := by decide +kernel
theorem d_Pl_tryDays_53 : decode b_Pl_tryDays 53 = .ok (.iconst 0, 1) := by decide +kernel
theorem d_Pl_tryDays_54 : decode b_Pl_tryDays 54 = .ok (.istore 6, 2) := by decide +kernel
theorem d_Pl_tryDays_56 : decode b_Pl_tryDays 56 = .ok (.iload 6, 2) := by decide +kernel
theorem d_Pl_tryDays_58 : decode b_Pl_tryDays 58 = .ok (.bipush 24, 2) := by decide +kernel
theorem d_Pl_tryDays_60 : decode b_Pl_tryDays 60 = .ok (.if_icmp .ge 32, 3) := by decide +kernel
theorem d_Pl_tryDays_63 : decode b_Pl_tryDays 63 = .ok (.aload_n 2, 1) := by decide +kernel
theorem d_Pl_tryDays_64 : decode b_Pl_tryDays 64 = .ok (.iload_n 1, 1) := by decide +kernel
theorem d_Pl_tryDays_65 : decode b_Pl_tryDays 65 = .ok (.iload 6, 2) := by decide +kernel
theorem d_Pl_tryDays_67 : decode b_Pl_tryDays 67 = .ok (.iastore, 1) := by decide +kernel
theorem d_Pl_tryDays_68 : decode b_Pl_tryDays 68 = .ok (.aload_n 0, 1) := by decide +kernel
theorem d_Pl_tryDays_69 : decode b_Pl_tryDays 69 = .ok (.iload 6, 2) := by decide +kernel
theorem d_Pl_tryDays_71 : decode b_Pl_tryDays 71 = .ok (.iload 5, 2) := by decide +kernel
theorem d_Pl_tryDays_73 : decode b_Pl_tryDays 73 = .ok (.aload_n 0, 1) := by decide +kernel
theorem d_Pl_tryDays_74 : decode b_Pl_tryDays 74 = .ok (.getfield 9, 3) := by decide +kernel
theorem d_Pl_tryDays_77 : decode b_Pl_tryDays 77 = .ok (.iload 4, 2) := by decide +kernel
theorem d_Pl_tryDays_79 : decode b_Pl_tryDays 79 = .ok (.invokevirtual 34, 3) := by decide +kernel
theorem d_Pl_tryDays_82 : decode b_Pl_tryDays 82 = .ok (.iadd, 1) := by decide +kernel
theorem d_Pl_tryDays_83 : decode b_Pl_tryDays 83 = .ok (.invokevirtual 37, 3) := by decide +kernel
theorem d_Pl_tryDays_86 : decode b_Pl_tryDays 86 = .ok (.iinc 6 1, 3) := by decide +kernel
theorem d_Pl_tryDays_89 : decode b_Pl_tryDays 89 = .ok (.goto (-33), 3) := by decide +kernel
theorem d_Pl_tryDays_92 : decode b_Pl_tryDays 92 = .ok (.aload_n 2, 1) := by decide +kernel
theorem d_Pl_tryDays_93 : decode b_Pl_tryDays 93 = .ok (.iload_n 1, 1) := by decide +kernel
theorem d_Pl_tryDays_94 : decode b_Pl_tryDays 94 = .ok (.iload_n 3, 1) := by decide +kernel
theorem d_Pl_tryDays_95 : decode b_Pl_tryDays 95 = .ok (.iastore, 1) := by decide +kernel
theorem d_Pl_tryDays_96 : decode b_Pl_tryDays 96 = .ok (.return_, 1) := by decide +kernel
theorem d_CS_when_0 : decode b_CS_when 0 = .ok (.aload_n 0, 1) := by decide +kernel
theorem d_CS_when_1 : decode b_CS_when 1 = .ok (.iload_n 1, 1) := by decide +kernel
theorem d_CS_when_2 : decode b_CS_when 2 = .ok (.invokevirtual 110, 3) := by decide +kernel
theorem d_CS_when_5 : decode b_CS_when 5 = .ok (.ifCond .eq 12, 3) := by decide +kernel
theorem d_CS_when_8 : decode b_CS_when 8 = .ok (.iload_n 2, 1) := by decide +kernel
theorem d_CS_when_9 : decode b_CS_when 9 = .ok (.ifCond .lt 8, 3) := by decide +kernel
theorem d_CS_when_12 : decode b_CS_when 12 = .ok (.iload_n 2, 1) := by decide +kernel
theorem d_CS_when_13 : decode b_CS_when 13 = .ok (.iconst 1, 1) := by decide +kernel
theorem d_CS_when_14 : decode b_CS_when 14 = .ok (.if_icmp .le 6, 3) := by decide +kernel
theorem d_CS_when_17 : decode b_CS_when 17 = .ok (.bipush (-2), 2) := by decide +kernel
theorem d_CS_when_19 : decode b_CS_when 19 = .ok (.ireturn, 1) := by decide +kernel
theorem d_CS_when_20 : decode b_CS_when 20 = .ok (.aload_n 0, 1) := by decide +kernel
theorem d_CS_when_21 : decode b_CS_when 21 = .ok (.getfield 53, 3) := by decide +kernel
theorem d_CS_when_24 : decode b_CS_when 24 = .ok (.iload_n 1, 1) := by decide +kernel
theorem d_CS_when_25 : decode b_CS_when 25 = .ok (.invokevirtual 188, 3) := by decide +kernel
theorem d_CS_when_28 : decode b_CS_when 28 = .ok (.iload_n 2, 1) := by decide +kernel
theorem d_CS_when_29 : decode b_CS_when 29 = .ok (.ifCond .ne 13, 3) := by decide +kernel
theorem d_CS_when_32 : decode b_CS_when 32 = .ok (.aload_n 0, 1) := by decide +kernel
theorem d_CS_when_33 : decode b_CS_when 33 = .ok (.getfield 53, 3) := by decide +kernel
theorem d_CS_when_36 : decode b_CS_when 36 = .ok (.getfield 182, 3) := by decide +kernel
theorem d_CS_when_39 : decode b_CS_when 39 = .ok (.goto 10, 3) := by decide +kernel
theorem d_CS_when_42 : decode b_CS_when 42 = .ok (.aload_n 0, 1) := by decide +kernel
theorem d_CS_when_43 : decode b_CS_when 43 = .ok (.getfield 53, 3) := by decide +kernel
theorem d_CS_when_46 : decode b_CS_when 46 = .ok (.getfield 185, 3) := by decide +kernel
theorem d_CS_when_49 : decode b_CS_when 49 = .ok (.ireturn, 1) := by decide +kernel
theorem d_Pl_allStandWithout_0 : decode b_Pl_allStandWithout 0 = .ok (.aload_n 0, 1) := by decide +kernel
theorem d_Pl_allStandWithout_1 : decode b_Pl_allStandWithout 1 = .ok (.getfield 9, 3) := by decide +kernel
theorem d_Pl_allStandWithout_4 : decode b_Pl_allStandWithout 4 = .ok (.iload_n 1, 1) := by decide +kernel
theorem d_Pl_allStandWithout_5 : decode b_Pl_allStandWithout 5 = .ok (.putfield 64, 3) := by decide +kernel
theorem d_Pl_allStandWithout_8 : decode b_Pl_allStandWithout 8 = .ok (.aload_n 0, 1) := by decide +kernel
theorem d_Pl_allStandWithout_9 : decode b_Pl_allStandWithout 9 = .ok (.getfield 9, 3) := by decide +kernel
theorem d_Pl_allStandWithout_12 : decode b_Pl_allStandWithout 12 = .ok (.invokevirtual 67, 3) := by decide +kernel
theorem d_Pl_allStandWithout_15 : decode b_Pl_allStandWithout 15 = .ok (.iconst (-1), 1) := by decide +kernel
theorem d_Pl_allStandWithout_16 : decode b_Pl_allStandWithout 16 = .ok (.if_icmp .ne 7, 3) := by decide +kernel
theorem d_Pl_allStandWithout_19 : decode b_Pl_allStandWithout 19 = .ok (.iconst 1, 1) := by decide +kernel
theorem d_Pl_allStandWithout_20 : decode b_Pl_allStandWithout 20 = .ok (.goto 4, 3) := by decide +kernel
theorem d_Pl_allStandWithout_23 : decode b_Pl_allStandWithout 23 = .ok (.iconst 0, 1) := by decide +kernel
theorem d_Pl_allStandWithout_24 : decode b_Pl_allStandWithout 24 = .ok (.istore_n 2, 1) := by decide +kernel
theorem d_Pl_allStandWithout_25 : decode b_Pl_allStandWithout 25 = .ok (.aload_n 0, 1) := by decide +kernel
theorem d_Pl_allStandWithout_26 : decode b_Pl_allStandWithout 26 = .ok (.getfield 9, 3) := by decide +kernel
theorem d_Pl_allStandWithout_29 : decode b_Pl_allStandWithout 29 = .ok (.iconst 0, 1) := by decide +kernel
theorem d_Pl_allStandWithout_30 : decode b_Pl_allStandWithout 30 = .ok (.putfield 64, 3) := by decide +kernel
theorem d_Pl_allStandWithout_33 : decode b_Pl_allStandWithout 33 = .ok (.iload_n 2, 1) := by decide +kernel
theorem d_Pl_allStandWithout_34 : decode b_Pl_allStandWithout 34 = .ok (.ireturn, 1) := by decide +kernel
theorem d_Pl_sparedStraws_0 : decode b_Pl_sparedStraws 0 = .ok (.aload_n 0, 1) := by decide +kernel
theorem d_Pl_sparedStraws_1 : decode b_Pl_sparedStraws 1 = .ok (.iconst 0, 1) := by decide +kernel
theorem d_Pl_sparedStraws_2 : decode b_Pl_sparedStraws 2 = .ok (.invokevirtual 51, 3) := by decide +kernel
theorem d_Pl_sparedStraws_5 : decode b_Pl_sparedStraws 5 = .ok (.ifCond .eq 5, 3) := by decide +kernel
theorem d_Pl_sparedStraws_8 : decode b_Pl_sparedStraws 8 = .ok (.iconst 0, 1) := by decide +kernel
theorem d_Pl_sparedStraws_9 : decode b_Pl_sparedStraws 9 = .ok (.ireturn, 1) := by decide +kernel
theorem d_Pl_sparedStraws_10 : decode b_Pl_sparedStraws 10 = .ok (.aload_n 0, 1) := by decide +kernel
theorem d_Pl_sparedStraws_11 : decode b_Pl_sparedStraws 11 = .ok (.getfield 9, 3) := by decide +kernel
theorem d_Pl_sparedStraws_14 : decode b_Pl_sparedStraws 14 = .ok (.getfield 55, 3) := by decide +kernel
theorem d_Pl_sparedStraws_17 : decode b_Pl_sparedStraws 17 = .ok (.getfield 59, 3) := by decide +kernel
theorem d_Pl_sparedStraws_20 : decode b_Pl_sparedStraws 20 = .ok (.istore_n 1, 1) := by decide +kernel
theorem d_Pl_sparedStraws_21 : decode b_Pl_sparedStraws 21 = .ok (.iconst 0, 1) := by decide +kernel
theorem d_Pl_sparedStraws_22 : decode b_Pl_sparedStraws 22 = .ok (.istore_n 2, 1) := by decide +kernel
theorem d_Pl_sparedStraws_23 : decode b_Pl_sparedStraws 23 = .ok (.iload_n 2, 1) := by decide +kernel
theorem d_Pl_sparedStraws_24 : decode b_Pl_sparedStraws 24 = .ok (.iload_n 1, 1) := by decide +kernel
theorem d_Pl_sparedStraws_25 : decode b_Pl_sparedStraws 25 = .ok (.if_icmp .ge 23, 3) := by decide +kernel
theorem d_Pl_sparedStraws_28 : decode b_Pl_sparedStraws 28 = .ok (.aload_n 0, 1) := by decide +kernel
theorem d_Pl_sparedStraws_29 : decode b_Pl_sparedStraws 29 = .ok (.iconst 1, 1) := by decide +kernel
theorem d_Pl_sparedStraws_30 : decode b_Pl_sparedStraws 30 = .ok (.iload_n 2, 1) := by decide +kernel
theorem d_Pl_sparedStraws_31 : decode b_Pl_sparedStraws 31 = .ok (.ishl, 1) := by decide +kernel
theorem d_Pl_sparedStraws_32 : decode b_Pl_sparedStraws 32 = .ok (.invokevirtual 51, 3) := by decide +kernel
theorem d_Pl_sparedStraws_35 : decode b_Pl_sparedStraws 35 = .ok (.ifCond .eq 7, 3) := by decide +kernel
theorem d_Pl_sparedStraws_38 : decode b_Pl_sparedStraws 38 = .ok (.iconst 1, 1) := by decide +kernel
theorem d_Pl_sparedStraws_39 : decode b_Pl_sparedStraws 39 = .ok (.iload_n 2, 1) := by decide +kernel
theorem d_Pl_sparedStraws_40 : decode b_Pl_sparedStraws 40 = .ok (.ishl, 1) := by decide +kernel
theorem d_Pl_sparedStraws_41 : decode b_Pl_sparedStraws 41 = .ok (.ireturn, 1) := by decide +kernel
theorem d_Pl_sparedStraws_42 : decode b_Pl_sparedStraws 42 = .ok (.iinc 2 1, 3) := by decide +kernel
theorem d_Pl_sparedStraws_45 : decode b_Pl_sparedStraws 45 = .ok (.goto (-22), 3) := by decide +kernel
theorem d_Pl_sparedStraws_48 : decode b_Pl_sparedStraws 48 = .ok (.iconst 0, 1) := by decide +kernel
theorem d_Pl_sparedStraws_49 : decode b_Pl_sparedStraws 49 = .ok (.istore_n 2, 1) := by decide +kernel
theorem d_Pl_sparedStraws_50 : decode b_Pl_sparedStraws 50 = .ok (.iload_n 2, 1) := by decide +kernel
theorem d_Pl_sparedStraws_51 : decode b_Pl_sparedStraws 51 = .ok (.iload_n 1, 1) := by decide +kernel
theorem d_Pl_sparedStraws_52 : decode b_Pl_sparedStraws 52 = .ok (.if_icmp .ge 46, 3) := by decide +kernel
theorem d_Pl_sparedStraws_55 : decode b_Pl_sparedStraws 55 = .ok (.iload_n 2, 1) := by decide +kernel
theorem d_Pl_sparedStraws_56 : decode b_Pl_sparedStraws 56 = .ok (.iconst 1, 1) := by decide +kernel
theorem d_Pl_sparedStraws_57 : decode b_Pl_sparedStraws 57 = .ok (.iadd, 1) := by decide +kernel
theorem d_Pl_sparedStraws_58 : decode b_Pl_sparedStraws 58 = .ok (.istore_n 3, 1) := by decide +kernel
theorem d_Pl_sparedStraws_59 : decode b_Pl_sparedStraws 59 = .ok (.iload_n 3, 1) := by decide +kernel
theorem d_Pl_sparedStraws_60 : decode b_Pl_sparedStraws 60 = .ok (.iload_n 1, 1) := by decide +kernel
theorem d_Pl_sparedStraws_61 : decode b_Pl_sparedStraws 61 = .ok (.if_icmp .ge 31, 3) := by decide +kernel
theorem d_Pl_sparedStraws_64 : decode b_Pl_sparedStraws 64 = .ok (.aload_n 0, 1) := by decide +kernel
theorem d_Pl_sparedStraws_65 : decode b_Pl_sparedStraws 65 = .ok (.iconst 1, 1) := by decide +kernel
theorem d_Pl_sparedStraws_66 : decode b_Pl_sparedStraws 66 = .ok (.iload_n 2, 1) := by decide +kernel
theorem d_Pl_sparedStraws_67 : decode b_Pl_sparedStraws 67 = .ok (.ishl, 1) := by decide +kernel
theorem d_Pl_sparedStraws_68 : decode b_Pl_sparedStraws 68 = .ok (.iconst 1, 1) := by decide +kernel
theorem d_Pl_sparedStraws_69 : decode b_Pl_sparedStraws 69 = .ok (.iload_n 3, 1) := by decide +kernel
theorem d_Pl_sparedStraws_70 : decode b_Pl_sparedStraws 70 = .ok (.ishl, 1) := by decide +kernel
theorem d_Pl_sparedStraws_71 : decode b_Pl_sparedStraws 71 = .ok (.ior, 1) := by decide +kernel
theorem d_Pl_sparedStraws_72 : decode b_Pl_sparedStraws 72 = .ok (.invokevirtual 51, 3) := by decide +kernel
theorem d_Pl_sparedStraws_75 : decode b_Pl_sparedStraws 75 = .ok (.ifCond .eq 11, 3) := by decide +kernel
theorem d_Pl_sparedStraws_78 : decode b_Pl_sparedStraws 78 = .ok (.iconst 1, 1) := by decide +kernel
theorem d_Pl_sparedStraws_79 : decode b_Pl_sparedStraws 79 = .ok (.iload_n 2, 1) := by decide +kernel
theorem d_Pl_sparedStraws_80 : decode b_Pl_sparedStraws 80 = .ok (.ishl, 1) := by decide +kernel
theorem d_Pl_sparedStraws_81 : decode b_Pl_sparedStraws 81 = .ok (.iconst 1, 1) := by decide +kernel
theorem d_Pl_sparedStraws_82 : decode b_Pl_sparedStraws 82 = .ok (.iload_n 3, 1) := by decide +kernel
theorem d_Pl_sparedStraws_83 : decode b_Pl_sparedStraws 83 = .ok (.ishl, 1) := by decide +kernel
theorem d_Pl_sparedStraws_84 : decode b_Pl_sparedStraws 84 = .ok (.ior, 1) := by decide +kernel
theorem d_Pl_sparedStraws_85 : decode b_Pl_sparedStraws 85 = .ok (.ireturn, 1) := by decide +kernel
theorem d_Pl_sparedStraws_86 : decode b_Pl_sparedStraws 86 = .ok (.iinc 3 1, 3) := by decide +kernel
theorem d_Pl_sparedStraws_89 : decode b_Pl_sparedStraws 89 = .ok (.goto (-30), 3) := by decide +kernel
theorem d_Pl_sparedStraws_92 : decode b_Pl_sparedStraws 92 = .ok (.iinc 2 1, 3) := by decide +kernel
theorem d_Pl_sparedStraws_95 : decode b_Pl_sparedStraws 95 = .ok (.goto (-45), 3) := by decide +kernel
theorem d_Pl_sparedStraws_98 : decode b_Pl_sparedStraws 98 = .ok (.iconst (-1), 1) := by decide +kernel
theorem d_Pl_sparedStraws_99 : decode b_Pl_sparedStraws 99 = .ok (.ireturn, 1) := by decide +kernel
theorem d_In_bitCount_0 : decode b_In_bitCount 0 = .ok (.iload_n 0, 1) := by decide +kernel
theorem d_In_bitCount_1 : decode b_In_bitCount 1 = .ok (.iload_n 0, 1) := by decide +kernel
theorem d_In_bitCount_2 : decode b_In_bitCount 2 = .ok (.iconst 1, 1) := by decide +kernel
theorem d_In_bitCount_3 : decode b_In_bitCount 3 = .ok (.iushr, 1) := by decide +kernel
theorem d_In_bitCount_4 : decode b_In_bitCount 4 = .ok (.ldc_w 265, 3) := by decide +kernel
theorem d_In_bitCount_7 : decode b_In_bitCount 7 = .ok (.iand, 1) := by decide +kernel
theorem d_In_bitCount_8 : decode b_In_bitCount 8 = .ok (.isub, 1) := by decide +kernel
theorem d_In_bitCount_9 : decode b_In_bitCount 9 = .ok (.istore_n 0, 1) := by decide +kernel
theorem d_In_bitCount_10 : decode b_In_bitCount 10 = .ok (.iload_n 0, 1) := by decide +kernel
theorem d_In_bitCount_11 : decode b_In_bitCount 11 = .ok (.ldc_w 266, 3) := by decide +kernel
theorem d_In_bitCount_14 : decode b_In_bitCount 14 = .ok (.iand, 1) := by decide +kernel
theorem d_In_bitCount_15 : decode b_In_bitCount 15 = .ok (.iload_n 0, 1) := by decide +kernel
theorem d_In_bitCount_16 : decode b_In_bitCount 16 = .ok (.iconst 2, 1) := by decide +kernel
theorem d_In_bitCount_17 : decode b_In_bitCount 17 = .ok (.iushr, 1) := by decide +kernel
theorem d_In_bitCount_18 : decode b_In_bitCount 18 = .ok (.ldc_w 266, 3) := by decide +kernel
theorem d_In_bitCount_21 : decode b_In_bitCount 21 = .ok (.iand, 1) := by decide +kernel
theorem d_In_bitCount_22 : decode b_In_bitCount 22 = .ok (.iadd, 1) := by decide +kernel
theorem d_In_bitCount_23 : decode b_In_bitCount 23 = .ok (.istore_n 0, 1) := by decide +kernel
theorem d_In_bitCount_24 : decode b_In_bitCount 24 = .ok (.iload_n 0, 1) := by decide +kernel
theorem d_In_bitCount_25 : decode b_In_bitCount 25 = .ok (.iload_n 0, 1) := by decide +kernel
theorem d_In_bitCount_26 : decode b_In_bitCount 26 = .ok (.iconst 4, 1) := by decide +kernel
theorem d_In_bitCount_27 : decode b_In_bitCount 27 = .ok (.iushr, 1) := by decide +kernel
theorem d_In_bitCount_28 : decode b_In_bitCount 28 = .ok (.iadd, 1) := by decide +kernel
theorem d_In_bitCount_29 : decode b_In_bitCount 29 = .ok (.ldc_w 267, 3) := by decide +kernel
theorem d_In_bitCount_32 : decode b_In_bitCount 32 = .ok (.iand, 1) := by decide +kernel
theorem d_In_bitCount_33 : decode b_In_bitCount 33 = .ok (.istore_n 0, 1) := by decide +kernel
theorem d_In_bitCount_34 : decode b_In_bitCount 34 = .ok (.iload_n 0, 1) := by decide +kernel
theorem d_In_bitCount_35 : decode b_In_bitCount 35 = .ok (.iload_n 0, 1) := by decide +kernel
theorem d_In_bitCount_36 : decode b_In_bitCount 36 = .ok (.bipush 8, 2) := by decide +kernel
theorem d_In_bitCount_38 : decode b_In_bitCount 38 = .ok (.iushr, 1) := by decide +kernel
theorem d_In_bitCount_39 : decode b_In_bitCount 39 = .ok (.iadd, 1) := by decide +kernel
theorem d_In_bitCount_40 : decode b_In_bitCount 40 = .ok (.istore_n 0, 1) := by decide +kernel
theorem d_In_bitCount_41 : decode b_In_bitCount 41 = .ok (.iload_n 0, 1) := by decide +kernel
theorem d_In_bitCount_42 : decode b_In_bitCount 42 = .ok (.iload_n 0, 1) := by decide +kernel
theorem d_In_bitCount_43 : decode b_In_bitCount 43 = .ok (.bipush 16, 2) := by decide +kernel
theorem d_In_bitCount_45 : decode b_In_bitCount 45 = .ok (.iushr, 1) := by decide +kernel
theorem d_In_bitCount_46 : decode b_In_bitCount 46 = .ok (.iadd, 1) := by decide +kernel
theorem d_In_bitCount_47 : decode b_In_bitCount 47 = .ok (.istore_n 0, 1) := by decide +kernel
theorem d_In_bitCount_48 : decode b_In_bitCount 48 = .ok (.iload_n 0, 1) := by decide +kernel
theorem d_In_bitCount_49 : decode b_In_bitCount 49 = .ok (.bipush 63, 2) := by decide +kernel
theorem d_In_bitCount_51 : decode b_In_bitCount 51 = .ok (.iand, 1) := by decide +kernel
theorem d_In_bitCount_52 : decode b_In_bitCount 52 = .ok (.ireturn, 1) := by decide +kernel
theorem d_In_numberOfTrailingZeros_0 : decode b_In_numberOfTrailingZeros 0 = .ok (.iload_n 0, 1) := by decide +kernel
theorem d_In_numberOfTrailingZeros_1 : decode b_In_numberOfTrailingZeros 1 = .ok (.iconst (-1), 1) := by decide +kernel
theorem d_In_numberOfTrailingZeros_2 : decode b_In_numberOfTrailingZeros 2 = .ok (.ixor, 1) := by decide +kernel
theorem d_In_numberOfTrailingZeros_3 : decode b_In_numberOfTrailingZeros 3 = .ok (.iload_n 0, 1) := by decide +kernel
theorem d_In_numberOfTrailingZeros_4 : decode b_In_numberOfTrailingZeros 4 = .ok (.iconst 1, 1) := by decide +kernel
theorem d_In_numberOfTrailingZeros_5 : decode b_In_numberOfTrailingZeros 5 = .ok (.isub, 1) := by decide +kernel
theorem d_In_numberOfTrailingZeros_6 : decode b_In_numberOfTrailingZeros 6 = .ok (.iand, 1) := by decide +kernel
theorem d_In_numberOfTrailingZeros_7 : decode b_In_numberOfTrailingZeros 7 = .ok (.istore_n 0, 1) := by decide +kernel
theorem d_In_numberOfTrailingZeros_8 : decode b_In_numberOfTrailingZeros 8 = .ok (.iload_n 0, 1) := by decide +kernel
theorem d_In_numberOfTrailingZeros_9 : decode b_In_numberOfTrailingZeros 9 = .ok (.ifCond .gt 8, 3) := by decide +kernel
theorem d_In_numberOfTrailingZeros_12 : decode b_In_numberOfTrailingZeros 12 = .ok (.iload_n 0, 1) := by decide +kernel
theorem d_In_numberOfTrailingZeros_13 : decode b_In_numberOfTrailingZeros 13 = .ok (.bipush 32, 2) := by decide +kernel
theorem d_In_numberOfTrailingZeros_15 : decode b_In_numberOfTrailingZeros 15 = .ok (.iand, 1) := by decide +kernel
theorem d_In_numberOfTrailingZeros_16 : decode b_In_numberOfTrailingZeros 16 = .ok (.ireturn, 1) := by decide +kernel
theorem d_In_numberOfTrailingZeros_17 : decode b_In_numberOfTrailingZeros 17 = .ok (.iconst 1, 1) := by decide +kernel
theorem d_In_numberOfTrailingZeros_18 : decode b_In_numberOfTrailingZeros 18 = .ok (.istore_n 1, 1) := by decide +kernel
theorem d_In_numberOfTrailingZeros_19 : decode b_In_numberOfTrailingZeros 19 = .ok (.iload_n 0, 1) := by decide +kernel
theorem d_In_numberOfTrailingZeros_20 : decode b_In_numberOfTrailingZeros 20 = .ok (.ldc_w 264, 3) := by decide +kernel
theorem d_In_numberOfTrailingZeros_23 : decode b_In_numberOfTrailingZeros 23 = .ok (.if_icmp .le 11, 3) := by decide +kernel
theorem d_In_numberOfTrailingZeros_26 : decode b_In_numberOfTrailingZeros 26 = .ok (.iinc 1 16, 3) := by decide +kernel
theorem d_In_numberOfTrailingZeros_29 : decode b_In_numberOfTrailingZeros 29 = .ok (.iload_n 0, 1) := by decide +kernel
theorem d_In_numberOfTrailingZeros_30 : decode b_In_numberOfTrailingZeros 30 = .ok (.bipush 16, 2) := by decide +kernel
theorem d_In_numberOfTrailingZeros_32 : decode b_In_numberOfTrailingZeros 32 = .ok (.iushr, 1) := by decide +kernel
theorem d_In_numberOfTrailingZeros_33 : decode b_In_numberOfTrailingZeros 33 = .ok (.istore_n 0, 1) := by decide +kernel
theorem d_In_numberOfTrailingZeros_34 : decode b_In_numberOfTrailingZeros 34 = .ok (.iload_n 0, 1) := by decide +kernel
theorem d_In_numberOfTrailingZeros_35 : decode b_In_numberOfTrailingZeros 35 = .ok (.sipush 256, 3) := by decide +kernel
theorem d_In_numberOfTrailingZeros_38 : decode b_In_numberOfTrailingZeros 38 = .ok (.if_icmp .le 11, 3) := by decide +kernel
theorem d_In_numberOfTrailingZeros_41 : decode b_In_numberOfTrailingZeros 41 = .ok (.iinc 1 8, 3) := by decide +kernel
theorem d_In_numberOfTrailingZeros_44 : decode b_In_numberOfTrailingZeros 44 = .ok (.iload_n 0, 1) := by decide +kernel
theorem d_In_numberOfTrailingZeros_45 : decode b_In_numberOfTrailingZeros 45 = .ok (.bipush 8, 2) := by decide +kernel
theorem d_In_numberOfTrailingZeros_47 : decode b_In_numberOfTrailingZeros 47 = .ok (.iushr, 1) := by decide +kernel
theorem d_In_numberOfTrailingZeros_48 : decode b_In_numberOfTrailingZeros 48 = .ok (.istore_n 0, 1) := by decide +kernel
theorem d_In_numberOfTrailingZeros_49 : decode b_In_numberOfTrailingZeros 49 = .ok (.iload_n 0, 1) := by decide +kernel
theorem d_In_numberOfTrailingZeros_50 : decode b_In_numberOfTrailingZeros 50 = .ok (.bipush 16, 2) := by decide +kernel
theorem d_In_numberOfTrailingZeros_52 : decode b_In_numberOfTrailingZeros 52 = .ok (.if_icmp .le 10, 3) := by decide +kernel
theorem d_In_numberOfTrailingZeros_55 : decode b_In_numberOfTrailingZeros 55 = .ok (.iinc 1 4, 3) := by decide +kernel
theorem d_In_numberOfTrailingZeros_58 : decode b_In_numberOfTrailingZeros 58 = .ok (.iload_n 0, 1) := by decide +kernel
theorem d_In_numberOfTrailingZeros_59 : decode b_In_numberOfTrailingZeros 59 = .ok (.iconst 4, 1) := by decide +kernel
theorem d_In_numberOfTrailingZeros_60 : decode b_In_numberOfTrailingZeros 60 = .ok (.iushr, 1) := by decide +kernel
theorem d_In_numberOfTrailingZeros_61 : decode b_In_numberOfTrailingZeros 61 = .ok (.istore_n 0, 1) := by decide +kernel
theorem d_In_numberOfTrailingZeros_62 : decode b_In_numberOfTrailingZeros 62 = .ok (.iload_n 0, 1) := by decide +kernel
theorem d_In_numberOfTrailingZeros_63 : decode b_In_numberOfTrailingZeros 63 = .ok (.iconst 4, 1) := by decide +kernel
theorem d_In_numberOfTrailingZeros_64 : decode b_In_numberOfTrailingZeros 64 = .ok (.if_icmp .le 10, 3) := by decide +kernel
theorem d_In_numberOfTrailingZeros_67 : decode b_In_numberOfTrailingZeros 67 = .ok (.iinc 1 2, 3) := by decide +kernel
theorem d_In_numberOfTrailingZeros_70 : decode b_In_numberOfTrailingZeros 70 = .ok (.iload_n 0, 1) := by decide +kernel
theorem d_In_numberOfTrailingZeros_71 : decode b_In_numberOfTrailingZeros 71 = .ok (.iconst 2, 1) := by decide +kernel
theorem d_In_numberOfTrailingZeros_72 : decode b_In_numberOfTrailingZeros 72 = .ok (.iushr, 1) := by decide +kernel
theorem d_In_numberOfTrailingZeros_73 : decode b_In_numberOfTrailingZeros 73 = .ok (.istore_n 0, 1) := by decide +kernel
theorem d_In_numberOfTrailingZeros_74 : decode b_In_numberOfTrailingZeros 74 = .ok (.iload_n 1, 1) := by decide +kernel
theorem d_In_numberOfTrailingZeros_75 : decode b_In_numberOfTrailingZeros 75 = .ok (.iload_n 0, 1) := by decide +kernel
theorem d_In_numberOfTrailingZeros_76 : decode b_In_numberOfTrailingZeros 76 = .ok (.iconst 1, 1) := by decide +kernel
theorem d_In_numberOfTrailingZeros_77 : decode b_In_numberOfTrailingZeros 77 = .ok (.iushr, 1) := by decide +kernel
theorem d_In_numberOfTrailingZeros_78 : decode b_In_numberOfTrailingZeros 78 = .ok (.iadd, 1) := by decide +kernel
theorem d_In_numberOfTrailingZeros_79 : decode b_In_numberOfTrailingZeros 79 = .ok (.ireturn, 1) := by decide +kernel
theorem d_CS_spare_0 : decode b_CS_spare 0 = .ok (.iload_n 1, 1) := by decide +kernel
theorem d_CS_spare_1 : decode b_CS_spare 1 = .ok (.iconst (-1), 1) := by decide +kernel
theorem d_CS_spare_2 : decode b_CS_spare 2 = .ok (.if_icmp .eq 15, 3) := by decide +kernel
theorem d_CS_spare_5 : decode b_CS_spare 5 = .ok (.iload_n 1, 1) := by decide +kernel
theorem d_CS_spare_6 : decode b_CS_spare 6 = .ok (.ifCond .lt 8, 3) := by decide +kernel
theorem d_CS_spare_9 : decode b_CS_spare 9 = .ok (.iload_n 1, 1) := by decide +kernel
theorem d_CS_spare_10 : decode b_CS_spare 10 = .ok (.iconst 2, 1) := by decide +kernel
theorem d_CS_spare_11 : decode b_CS_spare 11 = .ok (.if_icmp .lt 6, 3) := by decide +kernel
theorem d_CS_spare_14 : decode b_CS_spare 14 = .ok (.bipush (-2), 2) := by decide +kernel
theorem d_CS_spare_16 : decode b_CS_spare 16 = .ok (.ireturn, 1) := by decide +kernel
theorem d_CS_spare_17 : decode b_CS_spare 17 = .ok (.aload_n 0, 1) := by decide +kernel
theorem d_CS_spare_18 : decode b_CS_spare 18 = .ok (.getfield 53, 3) := by decide +kernel
theorem d_CS_spare_21 : decode b_CS_spare 21 = .ok (.invokevirtual 191, 3) := by decide +kernel
theorem d_CS_spare_24 : decode b_CS_spare 24 = .ok (.istore_n 2, 1) := by decide +kernel
theorem d_CS_spare_25 : decode b_CS_spare 25 = .ok (.iload_n 2, 1) := by decide +kernel
theorem d_CS_spare_26 : decode b_CS_spare 26 = .ok (.iconst (-1), 1) := by decide +kernel
theorem d_CS_spare_27 : decode b_CS_spare 27 = .ok (.if_icmp .ne 5, 3) := by decide +kernel
theorem d_CS_spare_30 : decode b_CS_spare 30 = .ok (.iconst (-1), 1) := by decide +kernel
theorem d_CS_spare_31 : decode b_CS_spare 31 = .ok (.ireturn, 1) := by decide +kernel
theorem d_CS_spare_32 : decode b_CS_spare 32 = .ok (.iload_n 1, 1) := by decide +kernel
theorem d_CS_spare_33 : decode b_CS_spare 33 = .ok (.iconst (-1), 1) := by decide +kernel
theorem d_CS_spare_34 : decode b_CS_spare 34 = .ok (.if_icmp .ne 8, 3) := by decide +kernel
theorem d_CS_spare_37 : decode b_CS_spare 37 = .ok (.iload_n 2, 1) := by decide +kernel
theorem d_CS_spare_38 : decode b_CS_spare 38 = .ok (.invokestatic 194, 3) := by decide +kernel
theorem d_CS_spare_41 : decode b_CS_spare 41 = .ok (.ireturn, 1) := by decide +kernel
theorem d_CS_spare_42 : decode b_CS_spare 42 = .ok (.iload_n 1, 1) := by decide +kernel
theorem d_CS_spare_43 : decode b_CS_spare 43 = .ok (.ifCond .ne 7, 3) := by decide +kernel
theorem d_CS_spare_46 : decode b_CS_spare 46 = .ok (.iload_n 2, 1) := by decide +kernel
theorem d_CS_spare_47 : decode b_CS_spare 47 = .ok (.goto 8, 3) := by decide +kernel
theorem d_CS_spare_50 : decode b_CS_spare 50 = .ok (.iload_n 2, 1) := by decide +kernel
theorem d_CS_spare_51 : decode b_CS_spare 51 = .ok (.iload_n 2, 1) := by decide +kernel
theorem d_CS_spare_52 : decode b_CS_spare 52 = .ok (.iconst 1, 1) := by decide +kernel
theorem d_CS_spare_53 : decode b_CS_spare 53 = .ok (.isub, 1) := by decide +kernel
theorem d_CS_spare_54 : decode b_CS_spare 54 = .ok (.iand, 1) := by decide +kernel
theorem d_CS_spare_55 : decode b_CS_spare 55 = .ok (.istore_n 3, 1) := by decide +kernel
theorem d_CS_spare_56 : decode b_CS_spare 56 = .ok (.iload_n 3, 1) := by decide +kernel
theorem d_CS_spare_57 : decode b_CS_spare 57 = .ok (.ifCond .ne 7, 3) := by decide +kernel
theorem d_CS_spare_60 : decode b_CS_spare 60 = .ok (.iconst (-1), 1) := by decide +kernel
theorem d_CS_spare_61 : decode b_CS_spare 61 = .ok (.goto 7, 3) := by decide +kernel
theorem d_CS_spare_64 : decode b_CS_spare 64 = .ok (.iload_n 3, 1) := by decide +kernel
theorem d_CS_spare_65 : decode b_CS_spare 65 = .ok (.invokestatic 199, 3) := by decide +kernel
theorem d_CS_spare_68 : decode b_CS_spare 68 = .ok (.ireturn, 1) := by decide +kernel
theorem d_Gu_append_0 : decode b_Gu_append 0 = .ok (.aload_n 0, 1) := by decide +kernel
theorem d_Gu_append_1 : decode b_Gu_append 1 = .ok (.getfield 28, 3) := by decide +kernel
theorem d_Gu_append_4 : decode b_Gu_append 4 = .ok (.bipush 8, 2) := by decide +kernel
theorem d_Gu_append_6 : decode b_Gu_append 6 = .ok (.if_icmp .lt 5, 3) := by decide +kernel
theorem d_Gu_append_9 : decode b_Gu_append 9 = .ok (.iconst 0, 1) := by decide +kernel
theorem d_Gu_append_10 : decode b_Gu_append 10 = .ok (.ireturn, 1) := by decide +kernel
theorem d_Gu_append_11 : decode b_Gu_append 11 = .ok (.aload_n 0, 1) := by decide +kernel
theorem d_Gu_append_12 : decode b_Gu_append 12 = .ok (.getfield 9, 3) := by decide +kernel
theorem d_Gu_append_15 : decode b_Gu_append 15 = .ok (.aload_n 0, 1) := by decide +kernel
theorem d_Gu_append_16 : decode b_Gu_append 16 = .ok (.getfield 28, 3) := by decide +kernel
theorem d_Gu_append_19 : decode b_Gu_append 19 = .ok (.iload_n 1, 1) := by decide +kernel
theorem d_Gu_append_20 : decode b_Gu_append 20 = .ok (.iastore, 1) := by decide +kernel
theorem d_Gu_append_21 : decode b_Gu_append 21 = .ok (.aload_n 0, 1) := by decide +kernel
theorem d_Gu_append_22 : decode b_Gu_append 22 = .ok (.getfield 15, 3) := by decide +kernel
theorem d_Gu_append_25 : decode b_Gu_append 25 = .ok (.aload_n 0, 1) := by decide +kernel
theorem d_Gu_append_26 : decode b_Gu_append 26 = .ok (.getfield 28, 3) := by decide +kernel
theorem d_Gu_append_29 : decode b_Gu_append 29 = .ok (.iload_n 2, 1) := by decide +kernel
theorem d_Gu_append_30 : decode b_Gu_append 30 = .ok (.iastore, 1) := by decide +kernel
theorem d_Gu_append_31 : decode b_Gu_append 31 = .ok (.aload_n 0, 1) := by decide +kernel
theorem d_Gu_append_32 : decode b_Gu_append 32 = .ok (.getfield 18, 3) := by decide +kernel
theorem d_Gu_append_35 : decode b_Gu_append 35 = .ok (.aload_n 0, 1) := by decide +kernel
theorem d_Gu_append_36 : decode b_Gu_append 36 = .ok (.getfield 28, 3) := by decide +kernel
theorem d_Gu_append_39 : decode b_Gu_append 39 = .ok (.iload_n 3, 1) := by decide +kernel
theorem d_Gu_append_40 : decode b_Gu_append 40 = .ok (.iastore, 1) := by decide +kernel
theorem d_Gu_append_41 : decode b_Gu_append 41 = .ok (.aload_n 0, 1) := by decide +kernel
theorem d_Gu_append_42 : decode b_Gu_append 42 = .ok (.dup, 1) := by decide +kernel
theorem d_Gu_append_43 : decode b_Gu_append 43 = .ok (.getfield 28, 3) := by decide +kernel
theorem d_Gu_append_46 : decode b_Gu_append 46 = .ok (.iconst 1, 1) := by decide +kernel
theorem d_Gu_append_47 : decode b_Gu_append 47 = .ok (.iadd, 1) := by decide +kernel
theorem d_Gu_append_48 : decode b_Gu_append 48 = .ok (.putfield 28, 3) := by decide +kernel
theorem d_Gu_append_51 : decode b_Gu_append 51 = .ok (.iconst 1, 1) := by decide +kernel
theorem d_Gu_append_52 : decode b_Gu_append 52 = .ok (.ireturn, 1) := by decide +kernel
theorem d_CS_seen_0 : decode b_CS_seen 0 = .ok (.iload_n 1, 1) := by decide +kernel
theorem d_CS_seen_1 : decode b_CS_seen 1 = .ok (.invokestatic 121, 3) := by decide +kernel
theorem d_CS_seen_4 : decode b_CS_seen 4 = .ok (.ifCond .eq 20, 3) := by decide +kernel
theorem d_CS_seen_7 : decode b_CS_seen 7 = .ok (.iload_n 2, 1) := by decide +kernel
theorem d_CS_seen_8 : decode b_CS_seen 8 = .ok (.invokestatic 124, 3) := by decide +kernel
theorem d_CS_seen_11 : decode b_CS_seen 11 = .ok (.ifCond .eq 13, 3) := by decide +kernel
theorem d_CS_seen_14 : decode b_CS_seen 14 = .ok (.iload_n 3, 1) := by decide +kernel
theorem d_CS_seen_15 : decode b_CS_seen 15 = .ok (.ifCond .lt 9, 3) := by decide +kernel
theorem d_CS_seen_18 : decode b_CS_seen 18 = .ok (.iload_n 3, 1) := by decide +kernel
theorem d_CS_seen_19 : decode b_CS_seen 19 = .ok (.bipush 99, 2) := by decide +kernel
theorem d_CS_seen_21 : decode b_CS_seen 21 = .ok (.if_icmp .le 6, 3) := by decide +kernel
theorem d_CS_seen_24 : decode b_CS_seen 24 = .ok (.bipush (-2), 2) := by decide +kernel
theorem d_CS_seen_26 : decode b_CS_seen 26 = .ok (.ireturn, 1) := by decide +kernel
theorem d_CS_seen_27 : decode b_CS_seen 27 = .ok (.aload_n 0, 1) := by decide +kernel
theorem d_CS_seen_28 : decode b_CS_seen 28 = .ok (.getfield 60, 3) := by decide +kernel
theorem d_CS_seen_31 : decode b_CS_seen 31 = .ok (.iload_n 1, 1) := by decide +kernel
theorem d_CS_seen_32 : decode b_CS_seen 32 = .ok (.iload_n 2, 1) := by decide +kernel
theorem d_CS_seen_33 : decode b_CS_seen 33 = .ok (.iload_n 3, 1) := by decide +kernel
theorem d_CS_seen_34 : decode b_CS_seen 34 = .ok (.invokevirtual 202, 3) := by decide +kernel
theorem d_CS_seen_37 : decode b_CS_seen 37 = .ok (.ifCond .eq 13, 3) := by decide +kernel
theorem d_CS_seen_40 : decode b_CS_seen 40 = .ok (.aload_n 0, 1) := by decide +kernel
theorem d_CS_seen_41 : decode b_CS_seen 41 = .ok (.getfield 60, 3) := by decide +kernel
theorem d_CS_seen_44 : decode b_CS_seen 44 = .ok (.getfield 205, 3) := by decide +kernel
theorem d_CS_seen_47 : decode b_CS_seen 47 = .ok (.goto 5, 3) := by decide +kernel
theorem d_CS_seen_50 : decode b_CS_seen 50 = .ok (.bipush (-4), 2) := by decide +kernel
theorem d_CS_seen_52 : decode b_CS_seen 52 = .ok (.ireturn, 1) := by decide +kernel
theorem d_CS_forget_0 : decode b_CS_forget 0 = .ok (.aload_n 0, 1) := by decide +kernel
theorem d_CS_forget_1 : decode b_CS_forget 1 = .ok (.getfield 60, 3) := by decide +kernel
theorem d_CS_forget_4 : decode b_CS_forget 4 = .ok (.getfield 205, 3) := by decide +kernel
theorem d_CS_forget_7 : decode b_CS_forget 7 = .ok (.istore_n 1, 1) := by decide +kernel
theorem d_CS_forget_8 : decode b_CS_forget 8 = .ok (.aload_n 0, 1) := by decide +kernel
theorem d_CS_forget_9 : decode b_CS_forget 9 = .ok (.getfield 60, 3) := by decide +kernel
theorem d_CS_forget_12 : decode b_CS_forget 12 = .ok (.iconst 0, 1) := by decide +kernel
theorem d_CS_forget_13 : decode b_CS_forget 13 = .ok (.putfield 205, 3) := by decide +kernel
theorem d_CS_forget_16 : decode b_CS_forget 16 = .ok (.iload_n 1, 1) := by decide +kernel
theorem d_CS_forget_17 : decode b_CS_forget 17 = .ok (.ireturn, 1) := by decide +kernel
theorem d_Gu_allComesOut_0 : decode b_Gu_allComesOut 0 = .ok (.iconst 0, 1) := by decide +kernel
theorem d_Gu_allComesOut_1 : decode b_Gu_allComesOut 1 = .ok (.istore_n 1, 1) := by decide +kernel
theorem d_Gu_allComesOut_2 : decode b_Gu_allComesOut 2 = .ok (.iload_n 1, 1) := by decide +kernel
theorem d_Gu_allComesOut_3 : decode b_Gu_allComesOut 3 = .ok (.aload_n 0, 1) := by decide +kernel
theorem d_Gu_allComesOut_4 : decode b_Gu_allComesOut 4 = .ok (.getfield 28, 3) := by decide +kernel
theorem d_Gu_allComesOut_7 : decode b_Gu_allComesOut 7 = .ok (.if_icmp .ge 64, 3) := by decide +kernel
theorem d_Gu_allComesOut_10 : decode b_Gu_allComesOut 10 = .ok (.aload_n 0, 1) := by decide +kernel
theorem d_Gu_allComesOut_11 : decode b_Gu_allComesOut 11 = .ok (.getfield 15, 3) := by decide +kernel
theorem d_Gu_allComesOut_14 : decode b_Gu_allComesOut 14 = .ok (.iload_n 1, 1) := by decide +kernel
theorem d_Gu_allComesOut_15 : decode b_Gu_allComesOut 15 = .ok (.iaload, 1) := by decide +kernel
theorem d_Gu_allComesOut_16 : decode b_Gu_allComesOut 16 = .ok (.aload_n 0, 1) := by decide +kernel
theorem d_Gu_allComesOut_17 : decode b_Gu_allComesOut 17 = .ok (.getfield 24, 3) := by decide +kernel
theorem d_Gu_allComesOut_20 : decode b_Gu_allComesOut 20 = .ok (.getfield 32, 3) := by decide +kernel
theorem d_Gu_allComesOut_23 : decode b_Gu_allComesOut 23 = .ok (.getfield 38, 3) := by decide +kernel
theorem d_Gu_allComesOut_26 : decode b_Gu_allComesOut 26 = .ok (.if_icmp .lt 5, 3) := by decide +kernel
theorem d_Gu_allComesOut_29 : decode b_Gu_allComesOut 29 = .ok (.iconst 0, 1) := by decide +kernel
theorem d_Gu_allComesOut_30 : decode b_Gu_allComesOut 30 = .ok (.ireturn, 1) := by decide +kernel
theorem d_Gu_allComesOut_31 : decode b_Gu_allComesOut 31 = .ok (.aload_n 0, 1) := by decide +kernel
theorem d_Gu_allComesOut_32 : decode b_Gu_allComesOut 32 = .ok (.getfield 24, 3) := by decide +kernel
theorem d_Gu_allComesOut_35 : decode b_Gu_allComesOut 35 = .ok (.aload_n 0, 1) := by decide +kernel
theorem d_Gu_allComesOut_36 : decode b_Gu_allComesOut 36 = .ok (.getfield 15, 3) := by decide +kernel
theorem d_Gu_allComesOut_39 : decode b_Gu_allComesOut 39 = .ok (.iload_n 1, 1) := by decide +kernel
theorem d_Gu_allComesOut_40 : decode b_Gu_allComesOut 40 = .ok (.iaload, 1) := by decide +kernel
theorem d_Gu_allComesOut_41 : decode b_Gu_allComesOut 41 = .ok (.invokevirtual 43, 3) := by decide +kernel
theorem d_Gu_allComesOut_44 : decode b_Gu_allComesOut 44 = .ok (.aload_n 0, 1) := by decide +kernel
theorem d_Gu_allComesOut_45 : decode b_Gu_allComesOut 45 = .ok (.getfield 9, 3) := by decide +kernel
theorem d_Gu_allComesOut_48 : decode b_Gu_allComesOut 48 = .ok (.iload_n 1, 1) := by decide +kernel
theorem d_Gu_allComesOut_49 : decode b_Gu_allComesOut 49 = .ok (.iaload, 1) := by decide +kernel
theorem d_Gu_allComesOut_50 : decode b_Gu_allComesOut 50 = .ok (.iconst 0, 1) := by decide +kernel
theorem d_Gu_allComesOut_51 : decode b_Gu_allComesOut 51 = .ok (.invokevirtual 47, 3) := by decide +kernel
theorem d_Gu_allComesOut_54 : decode b_Gu_allComesOut 54 = .ok (.aload_n 0, 1) := by decide +kernel
theorem d_Gu_allComesOut_55 : decode b_Gu_allComesOut 55 = .ok (.getfield 18, 3) := by decide +kernel
theorem d_Gu_allComesOut_58 : decode b_Gu_allComesOut 58 = .ok (.iload_n 1, 1) := by decide +kernel
theorem d_Gu_allComesOut_59 : decode b_Gu_allComesOut 59 = .ok (.iaload, 1) := by decide +kernel
theorem d_Gu_allComesOut_60 : decode b_Gu_allComesOut 60 = .ok (.if_icmp .eq 5, 3) := by decide +kernel
theorem d_Gu_allComesOut_63 : decode b_Gu_allComesOut 63 = .ok (.iconst 0, 1) := by decide +kernel
theorem d_Gu_allComesOut_64 : decode b_Gu_allComesOut 64 = .ok (.ireturn, 1) := by decide +kernel
theorem d_Gu_allComesOut_65 : decode b_Gu_allComesOut 65 = .ok (.iinc 1 1, 3) := by decide +kernel
theorem d_Gu_allComesOut_68 : decode b_Gu_allComesOut 68 = .ok (.goto (-66), 3) := by decide +kernel
theorem d_Gu_allComesOut_71 : decode b_Gu_allComesOut 71 = .ok (.iconst 1, 1) := by decide +kernel
theorem d_Gu_allComesOut_72 : decode b_Gu_allComesOut 72 = .ok (.ireturn, 1) := by decide +kernel
theorem d_Gu_strawsThatNeverWere_0 : decode b_Gu_strawsThatNeverWere 0 = .ok (.iconst 0, 1) := by decide +kernel
theorem d_Gu_strawsThatNeverWere_1 : decode b_Gu_strawsThatNeverWere 1 = .ok (.istore_n 1, 1) := by decide +kernel
theorem d_Gu_strawsThatNeverWere_2 : decode b_Gu_strawsThatNeverWere 2 = .ok (.iconst 0, 1) := by decide +kernel
theorem d_Gu_strawsThatNeverWere_3 : decode b_Gu_strawsThatNeverWere 3 = .ok (.istore_n 2, 1) := by decide +kernel
theorem d_Gu_strawsThatNeverWere_4 : decode b_Gu_strawsThatNeverWere 4 = .ok (.iload_n 2, 1) := by decide +kernel
theorem d_Gu_strawsThatNeverWere_5 : decode b_Gu_strawsThatNeverWere 5 = .ok (.aload_n 0, 1) := by decide +kernel
theorem d_Gu_strawsThatNeverWere_6 : decode b_Gu_strawsThatNeverWere 6 = .ok (.getfield 24, 3) := by decide +kernel
theorem d_Gu_strawsThatNeverWere_9 : decode b_Gu_strawsThatNeverWere 9 = .ok (.getfield 53, 3) := by decide +kernel
theorem d_Gu_strawsThatNeverWere_12 : decode b_Gu_strawsThatNeverWere 12 = .ok (.getfield 57, 3) := by decide +kernel
theorem d_Gu_strawsThatNeverWere_15 : decode b_Gu_strawsThatNeverWere 15 = .ok (.if_icmp .ge 32, 3) := by decide +kernel
theorem d_Gu_strawsThatNeverWere_18 : decode b_Gu_strawsThatNeverWere 18 = .ok (.aload_n 0, 1) := by decide +kernel
theorem d_Gu_strawsThatNeverWere_19 : decode b_Gu_strawsThatNeverWere 19 = .ok (.getfield 24, 3) := by decide +kernel
theorem d_Gu_strawsThatNeverWere_22 : decode b_Gu_strawsThatNeverWere 22 = .ok (.iconst 1, 1) := by decide +kernel
theorem d_Gu_strawsThatNeverWere_23 : decode b_Gu_strawsThatNeverWere 23 = .ok (.iload_n 2, 1) := by decide +kernel
theorem d_Gu_strawsThatNeverWere_24 : decode b_Gu_strawsThatNeverWere 24 = .ok (.ishl, 1) := by decide +kernel
theorem d_Gu_strawsThatNeverWere_25 : decode b_Gu_strawsThatNeverWere 25 = .ok (.putfield 60, 3) := by decide +kernel
theorem d_Gu_strawsThatNeverWere_28 : decode b_Gu_strawsThatNeverWere 28 = .ok (.aload_n 0, 1) := by decide +kernel
theorem d_Gu_strawsThatNeverWere_29 : decode b_Gu_strawsThatNeverWere 29 = .ok (.invokevirtual 63, 3) := by decide +kernel
theorem d_Gu_strawsThatNeverWere_32 : decode b_Gu_strawsThatNeverWere 32 = .ok (.ifCond .eq 9, 3) := by decide +kernel
theorem d_Gu_strawsThatNeverWere_35 : decode b_Gu_strawsThatNeverWere 35 = .ok (.iload_n 1, 1) := by decide +kernel
theorem d_Gu_strawsThatNeverWere_36 : decode b_Gu_strawsThatNeverWere 36 = .ok (.iconst 1, 1) := by decide +kernel
theorem d_Gu_strawsThatNeverWere_37 : decode b_Gu_strawsThatNeverWere 37 = .ok (.iload_n 2, 1) := by decide +kernel
theorem d_Gu_strawsThatNeverWere_38 : decode b_Gu_strawsThatNeverWere 38 = .ok (.ishl, 1) := by decide +kernel
theorem d_Gu_strawsThatNeverWere_39 : decode b_Gu_strawsThatNeverWere 39 = .ok (.ior, 1) := by decide +kernel
theorem d_Gu_strawsThatNeverWere_40 : decode b_Gu_strawsThatNeverWere 40 = .ok (.istore_n 1, 1) := by decide +kernel
theorem d_Gu_strawsThatNeverWere_41 : decode b_Gu_strawsThatNeverWere 41 = .ok (.iinc 2 1, 3) := by decide +kernel
theorem d_Gu_strawsThatNeverWere_44 : decode b_Gu_strawsThatNeverWere 44 = .ok (.goto (-40), 3) := by decide +kernel
theorem d_Gu_strawsThatNeverWere_47 : decode b_Gu_strawsThatNeverWere 47 = .ok (.aload_n 0, 1) := by decide +kernel
theorem d_Gu_strawsThatNeverWere_48 : decode b_Gu_strawsThatNeverWere 48 = .ok (.getfield 24, 3) := by decide +kernel
theorem d_Gu_strawsThatNeverWere_51 : decode b_Gu_strawsThatNeverWere 51 = .ok (.iconst 0, 1) := by decide +kernel
theorem d_Gu_strawsThatNeverWere_52 : decode b_Gu_strawsThatNeverWere 52 = .ok (.putfield 60, 3) := by decide +kernel
theorem d_Gu_strawsThatNeverWere_55 : decode b_Gu_strawsThatNeverWere 55 = .ok (.iload_n 1, 1) := by decide +kernel
theorem d_Gu_strawsThatNeverWere_56 : decode b_Gu_strawsThatNeverWere 56 = .ok (.ireturn, 1) := by decide +kernel
theorem d_CS_never_0 : decode b_CS_never 0 = .ok (.aload_n 0, 1) := by decide +kernel
theorem d_CS_never_1 : decode b_CS_never 1 = .ok (.getfield 60, 3) := by decide +kernel
theorem d_CS_never_4 : decode b_CS_never 4 = .ok (.invokevirtual 206, 3) := by decide +kernel
theorem d_CS_never_7 : decode b_CS_never 7 = .ok (.ireturn, 1) := by decide +kernel
theorem d_Gu_valuesThatFit_0 : decode b_Gu_valuesThatFit 0 = .ok (.aload_n 1, 1) := by decide +kernel
theorem d_Gu_valuesThatFit_1 : decode b_Gu_valuesThatFit 1 = .ok (.iload_n 2, 1) := by decide +kernel
theorem d_Gu_valuesThatFit_2 : decode b_Gu_valuesThatFit 2 = .ok (.iaload, 1) := by decide +kernel
theorem d_Gu_valuesThatFit_3 : decode b_Gu_valuesThatFit 3 = .ok (.istore 5, 2) := by decide +kernel
theorem d_Gu_valuesThatFit_5 : decode b_Gu_valuesThatFit 5 = .ok (.iconst 0, 1) := by decide +kernel
theorem d_Gu_valuesThatFit_6 : decode b_Gu_valuesThatFit 6 = .ok (.istore 6, 2) := by decide +kernel
theorem d_Gu_valuesThatFit_8 : decode b_Gu_valuesThatFit 8 = .ok (.iload_n 3, 1) := by decide +kernel
theorem d_Gu_valuesThatFit_9 : decode b_Gu_valuesThatFit 9 = .ok (.istore 7, 2) := by decide +kernel
theorem d_Gu_valuesThatFit_11 : decode b_Gu_valuesThatFit 11 = .ok (.iload 7, 2) := by decide +kernel
theorem d_Gu_valuesThatFit_13 : decode b_Gu_valuesThatFit 13 = .ok (.iload 4, 2) := by decide +kernel
theorem d_Gu_valuesThatFit_15 : decode b_Gu_valuesThatFit 15 = .ok (.if_icmp .gt 30, 3) := by decide +kernel
theorem d_Gu_valuesThatFit_18 : decode b_Gu_valuesThatFit 18 = .ok (.aload_n 1, 1) := by decide +kernel
theorem d_Gu_valuesThatFit_19 : decode b_Gu_valuesThatFit 19 = .ok (.iload_n 2, 1) := by decide +kernel
theorem d_Gu_valuesThatFit_20 : decode b_Gu_valuesThatFit 20 = .ok (.iload 7, 2) := by decide +kernel
theorem d_Gu_valuesThatFit_22 : decode b_Gu_valuesThatFit 22 = .ok (.iastore, 1) := by decide +kernel
theorem d_Gu_valuesThatFit_23 : decode b_Gu_valuesThatFit 23 = .ok (.aload_n 0, 1) := by decide +kernel
theorem d_Gu_valuesThatFit_24 : decode b_Gu_valuesThatFit 24 = .ok (.invokevirtual 63, 3) := by decide +kernel
theorem d_Gu_valuesThatFit_27 : decode b_Gu_valuesThatFit 27 = .ok (.ifCond .eq 12, 3) := by decide +kernel
theorem d_Gu_valuesThatFit_30 : decode b_Gu_valuesThatFit 30 = .ok (.iload 6, 2) := by decide +kernel
theorem d_Gu_valuesThatFit_32 : decode b_Gu_valuesThatFit 32 = .ok (.iconst 1, 1) := by decide +kernel
theorem d_Gu_valuesThatFit_33 : decode b_Gu_valuesThatFit 33 = .ok (.iload 7, 2) := by decide +kernel
theorem d_Gu_valuesThatFit_35 : decode b_Gu_valuesThatFit 35 = .ok (.ishl, 1) := by decide +kernel
theorem d_Gu_valuesThatFit_36 : decode b_Gu_valuesThatFit 36 = .ok (.ior, 1) := by decide +kernel
theorem d_Gu_valuesThatFit_37 : decode b_Gu_valuesThatFit 37 = .ok (.istore 6, 2) := by decide +kernel
theorem d_Gu_valuesThatFit_39 : decode b_Gu_valuesThatFit 39 = .ok (.iinc 7 1, 3) := by decide +kernel
theorem d_Gu_valuesThatFit_42 : decode b_Gu_valuesThatFit 42 = .ok (.goto (-31), 3) := by decide +kernel
theorem d_Gu_valuesThatFit_45 : decode b_Gu_valuesThatFit 45 = .ok (.aload_n 1, 1) := by decide +kernel
theorem d_Gu_valuesThatFit_46 : decode b_Gu_valuesThatFit 46 = .ok (.iload_n 2, 1) := by decide +kernel
theorem d_Gu_valuesThatFit_47 : decode b_Gu_valuesThatFit 47 = .ok (.iload 5, 2) := by decide +kernel
theorem d_Gu_valuesThatFit_49 : decode b_Gu_valuesThatFit 49 = .ok (.iastore, 1) := by decide +kernel
theorem d_Gu_valuesThatFit_50 : decode b_Gu_valuesThatFit 50 = .ok (.iload 6, 2) := by decide +kernel
theorem d_Gu_valuesThatFit_52 : decode b_Gu_valuesThatFit 52 = .ok (.ireturn, 1) := by decide +kernel
theorem d_CS_was_0 : decode b_CS_was 0 = .ok (.aload_n 0, 1) := by decide +kernel
theorem d_CS_was_1 : decode b_CS_was 1 = .ok (.iload_n 1, 1) := by decide +kernel
theorem d_CS_was_2 : decode b_CS_was 2 = .ok (.invokevirtual 96, 3) := by decide +kernel
theorem d_CS_was_5 : decode b_CS_was 5 = .ok (.ifCond .eq 12, 3) := by decide +kernel
theorem d_CS_was_8 : decode b_CS_was 8 = .ok (.iload_n 2, 1) := by decide +kernel
theorem d_CS_was_9 : decode b_CS_was 9 = .ok (.ifCond .lt 8, 3) := by decide +kernel
theorem d_CS_was_12 : decode b_CS_was 12 = .ok (.iload_n 2, 1) := by decide +kernel
theorem d_CS_was_13 : decode b_CS_was 13 = .ok (.iconst 1, 1) := by decide +kernel
theorem d_CS_was_14 : decode b_CS_was 14 = .ok (.if_icmp .le 6, 3) := by decide +kernel
theorem d_CS_was_17 : decode b_CS_was 17 = .ok (.bipush (-2), 2) := by decide +kernel
theorem d_CS_was_19 : decode b_CS_was 19 = .ok (.ireturn, 1) := by decide +kernel
theorem d_CS_was_20 : decode b_CS_was 20 = .ok (.iload_n 2, 1) := by decide +kernel
theorem d_CS_was_21 : decode b_CS_was 21 = .ok (.ifCond .ne 23, 3) := by decide +kernel
theorem d_CS_was_24 : decode b_CS_was 24 = .ok (.aload_n 0, 1) := by decide +kernel
theorem d_CS_was_25 : decode b_CS_was 25 = .ok (.getfield 60, 3) := by decide +kernel
theorem d_CS_was_28 : decode b_CS_was 28 = .ok (.aload_n 0, 1) := by decide +kernel
theorem d_CS_was_29 : decode b_CS_was 29 = .ok (.getfield 10, 3) := by decide +kernel
theorem d_CS_was_32 : decode b_CS_was 32 = .ok (.getfield 99, 3) := by decide +kernel
theorem d_CS_was_35 : decode b_CS_was 35 = .ok (.iload_n 1, 1) := by decide +kernel
theorem d_CS_was_36 : decode b_CS_was 36 = .ok (.iconst 0, 1) := by decide +kernel
theorem d_CS_was_37 : decode b_CS_was 37 = .ok (.iconst 2, 1) := by decide +kernel
theorem d_CS_was_38 : decode b_CS_was 38 = .ok (.invokevirtual 209, 3) := by decide +kernel
theorem d_CS_was_41 : decode b_CS_was 41 = .ok (.goto 21, 3) := by decide +kernel
theorem d_CS_was_44 : decode b_CS_was 44 = .ok (.aload_n 0, 1) := by decide +kernel
theorem d_CS_was_45 : decode b_CS_was 45 = .ok (.getfield 60, 3) := by decide +kernel
theorem d_CS_was_48 : decode b_CS_was 48 = .ok (.aload_n 0, 1) := by decide +kernel
theorem d_CS_was_49 : decode b_CS_was 49 = .ok (.getfield 10, 3) := by decide +kernel
theorem d_CS_was_52 : decode b_CS_was 52 = .ok (.getfield 103, 3) := by decide +kernel
theorem d_CS_was_55 : decode b_CS_was 55 = .ok (.iload_n 1, 1) := by decide +kernel
theorem d_CS_was_56 : decode b_CS_was 56 = .ok (.iconst 1, 1) := by decide +kernel
theorem d_CS_was_57 : decode b_CS_was 57 = .ok (.bipush 9, 2) := by decide +kernel
theorem d_CS_was_59 : decode b_CS_was 59 = .ok (.invokevirtual 209, 3) := by decide +kernel
theorem d_CS_was_62 : decode b_CS_was 62 = .ok (.ireturn, 1) := by decide +kernel
theorem d_Gu_noteLoads_0 : decode b_Gu_noteLoads 0 = .ok (.aload_n 0, 1) := by decide +kernel
theorem d_Gu_noteLoads_1 : decode b_Gu_noteLoads 1 = .ok (.getfield 24, 3) := by decide +kernel
theorem d_Gu_noteLoads_4 : decode b_Gu_noteLoads 4 = .ok (.getfield 32, 3) := by decide +kernel
theorem d_Gu_noteLoads_7 : decode b_Gu_noteLoads 7 = .ok (.getfield 74, 3) := by decide +kernel
theorem d_Gu_noteLoads_10 : decode b_Gu_noteLoads 10 = .ok (.astore_n 3, 1) := by decide +kernel
theorem d_Gu_noteLoads_11 : decode b_Gu_noteLoads 11 = .ok (.aload_n 3, 1) := by decide +kernel
theorem d_Gu_noteLoads_12 : decode b_Gu_noteLoads 12 = .ok (.iload_n 1, 1) := by decide +kernel
theorem d_Gu_noteLoads_13 : decode b_Gu_noteLoads 13 = .ok (.iaload, 1) := by decide +kernel
theorem d_Gu_noteLoads_14 : decode b_Gu_noteLoads 14 = .ok (.istore 4, 2) := by decide +kernel
theorem d_Gu_noteLoads_16 : decode b_Gu_noteLoads 16 = .ok (.iconst 1, 1) := by decide +kernel
theorem d_Gu_noteLoads_17 : decode b_Gu_noteLoads 17 = .ok (.istore 5, 2) := by decide +kernel
theorem d_Gu_noteLoads_19 : decode b_Gu_noteLoads 19 = .ok (.iload 5, 2) := by decide +kernel
theorem d_Gu_noteLoads_21 : decode b_Gu_noteLoads 21 = .ok (.bipush 9, 2) := by decide +kernel
theorem d_Gu_noteLoads_23 : decode b_Gu_noteLoads 23 = .ok (.if_icmp .gt 70, 3) := by decide +kernel
theorem d_Gu_noteLoads_26 : decode b_Gu_noteLoads 26 = .ok (.iload_n 2, 1) := by decide +kernel
theorem d_Gu_noteLoads_27 : decode b_Gu_noteLoads 27 = .ok (.iload 5, 2) := by decide +kernel
theorem d_Gu_noteLoads_29 : decode b_Gu_noteLoads 29 = .ok (.ishr, 1) := by decide +kernel
theorem d_Gu_noteLoads_30 : decode b_Gu_noteLoads 30 = .ok (.iconst 1, 1) := by decide +kernel
theorem d_Gu_noteLoads_31 : decode b_Gu_noteLoads 31 = .ok (.iand, 1) := by decide +kernel
theorem d_Gu_noteLoads_32 : decode b_Gu_noteLoads 32 = .ok (.ifCond .eq 55, 3) := by decide +kernel
theorem d_Gu_noteLoads_35 : decode b_Gu_noteLoads 35 = .ok (.aload_n 3, 1) := by decide +kernel
theorem d_Gu_noteLoads_36 : decode b_Gu_noteLoads 36 = .ok (.iload_n 1, 1) := by decide +kernel
theorem d_Gu_noteLoads_37 : decode b_Gu_noteLoads 37 = .ok (.iload 5, 2) := by decide +kernel
theorem d_Gu_noteLoads_39 : decode b_Gu_noteLoads 39 = .ok (.iastore, 1) := by decide +kernel
theorem d_Gu_noteLoads_40 : decode b_Gu_noteLoads 40 = .ok (.aload_n 0, 1) := by decide +kernel
theorem d_Gu_noteLoads_41 : decode b_Gu_noteLoads 41 = .ok (.getfield 24, 3) := by decide +kernel
theorem d_Gu_noteLoads_44 : decode b_Gu_noteLoads 44 = .ok (.iload_n 1, 1) := by decide +kernel
theorem d_Gu_noteLoads_45 : decode b_Gu_noteLoads 45 = .ok (.invokevirtual 43, 3) := by decide +kernel
theorem d_Gu_noteLoads_48 : decode b_Gu_noteLoads 48 = .ok (.astore 6, 2) := by decide +kernel
theorem d_Gu_noteLoads_50 : decode b_Gu_noteLoads 50 = .ok (.iconst 0, 1) := by decide +kernel
theorem d_Gu_noteLoads_51 : decode b_Gu_noteLoads 51 = .ok (.istore 7, 2) := by decide +kernel
theorem d_Gu_noteLoads_53 : decode b_Gu_noteLoads 53 = .ok (.iload 7, 2) := by decide +kernel
theorem d_Gu_noteLoads_55 : decode b_Gu_noteLoads 55 = .ok (.bipush 24, 2) := by decide +kernel
theorem d_Gu_noteLoads_57 : decode b_Gu_noteLoads 57 = .ok (.if_icmp .ge 30, 3) := by decide +kernel
theorem d_Gu_noteLoads_60 : decode b_Gu_noteLoads 60 = .ok (.aload_n 0, 1) := by decide +kernel
theorem d_Gu_noteLoads_61 : decode b_Gu_noteLoads 61 = .ok (.getfield 21, 3) := by decide +kernel
theorem d_Gu_noteLoads_64 : decode b_Gu_noteLoads 64 = .ok (.iload 5, 2) := by decide +kernel
theorem d_Gu_noteLoads_66 : decode b_Gu_noteLoads 66 = .ok (.bipush 24, 2) := by decide +kernel
theorem d_Gu_noteLoads_68 : decode b_Gu_noteLoads 68 = .ok (.imul, 1) := by decide +kernel
theorem d_Gu_noteLoads_69 : decode b_Gu_noteLoads 69 = .ok (.iload 7, 2) := by decide +kernel
theorem d_Gu_noteLoads_71 : decode b_Gu_noteLoads 71 = .ok (.iadd, 1) := by decide +kernel
theorem d_Gu_noteLoads_72 : decode b_Gu_noteLoads 72 = .ok (.aload 6, 2) := by decide +kernel
theorem d_Gu_noteLoads_74 : decode b_Gu_noteLoads 74 = .ok (.iload 7, 2) := by decide +kernel
theorem d_Gu_noteLoads_76 : decode b_Gu_noteLoads 76 = .ok (.iconst 0, 1) := by decide +kernel
theorem d_Gu_noteLoads_77 : decode b_Gu_noteLoads 77 = .ok (.invokevirtual 47, 3) := by decide +kernel
theorem d_Gu_noteLoads_80 : decode b_Gu_noteLoads 80 = .ok (.iastore, 1) := by decide +kernel
theorem d_Gu_noteLoads_81 : decode b_Gu_noteLoads 81 = .ok (.iinc 7 1, 3) := by decide +kernel
theorem d_Gu_noteLoads_84 : decode b_Gu_noteLoads 84 = .ok (.goto (-31), 3) := by decide +kernel
theorem d_Gu_noteLoads_87 : decode b_Gu_noteLoads 87 = .ok (.iinc 5 1, 3) := by decide +kernel
theorem d_Gu_noteLoads_90 : decode b_Gu_noteLoads 90 = .ok (.goto (-71), 3) := by decide +kernel
theorem d_Gu_noteLoads_93 : decode b_Gu_noteLoads 93 = .ok (.aload_n 3, 1) := by decide +kernel
theorem d_Gu_noteLoads_94 : decode b_Gu_noteLoads 94 = .ok (.iload_n 1, 1) := by decide +kernel
theorem d_Gu_noteLoads_95 : decode b_Gu_noteLoads 95 = .ok (.iload 4, 2) := by decide +kernel
theorem d_Gu_noteLoads_97 : decode b_Gu_noteLoads 97 = .ok (.iastore, 1) := by decide +kernel
theorem d_Gu_noteLoads_98 : decode b_Gu_noteLoads 98 = .ok (.return_, 1) := by decide +kernel
theorem d_Ma_max_0 : decode b_Ma_max 0 = .ok (.iload_n 0, 1) := by decide +kernel
theorem d_Ma_max_1 : decode b_Ma_max 1 = .ok (.iload_n 1, 1) := by decide +kernel
theorem d_Ma_max_2 : decode b_Ma_max 2 = .ok (.if_icmp .lt 7, 3) := by decide +kernel
theorem d_Ma_max_5 : decode b_Ma_max 5 = .ok (.iload_n 0, 1) := by decide +kernel
theorem d_Ma_max_6 : decode b_Ma_max 6 = .ok (.goto 4, 3) := by decide +kernel
theorem d_Ma_max_9 : decode b_Ma_max 9 = .ok (.iload_n 1, 1) := by decide +kernel
theorem d_Ma_max_10 : decode b_Ma_max 10 = .ok (.ireturn, 1) := by decide +kernel
theorem d_Gu_mostAlike_0 : decode b_Gu_mostAlike 0 = .ok (.iconst 0, 1) := by decide +kernel
theorem d_Gu_mostAlike_1 : decode b_Gu_mostAlike 1 = .ok (.istore_n 3, 1) := by decide +kernel
theorem d_Gu_mostAlike_2 : decode b_Gu_mostAlike 2 = .ok (.iconst 1, 1) := by decide +kernel
theorem d_Gu_mostAlike_3 : decode b_Gu_mostAlike 3 = .ok (.istore 4, 2) := by decide +kernel
theorem d_Gu_mostAlike_5 : decode b_Gu_mostAlike 5 = .ok (.iload 4, 2) := by decide +kernel
theorem d_Gu_mostAlike_7 : decode b_Gu_mostAlike 7 = .ok (.bipush 9, 2) := by decide +kernel
theorem d_Gu_mostAlike_9 : decode b_Gu_mostAlike 9 = .ok (.if_icmp .gt 91, 3) := by decide +kernel
theorem d_Gu_mostAlike_12 : decode b_Gu_mostAlike 12 = .ok (.iconst 0, 1) := by decide +kernel
theorem d_Gu_mostAlike_13 : decode b_Gu_mostAlike 13 = .ok (.istore 5, 2) := by decide +kernel
theorem d_Gu_mostAlike_15 : decode b_Gu_mostAlike 15 = .ok (.iconst 1, 1) := by decide +kernel
theorem d_Gu_mostAlike_16 : decode b_Gu_mostAlike 16 = .ok (.istore 6, 2) := by decide +kernel
theorem d_Gu_mostAlike_18 : decode b_Gu_mostAlike 18 = .ok (.iload 6, 2) := by decide +kernel
theorem d_Gu_mostAlike_20 : decode b_Gu_mostAlike 20 = .ok (.bipush 9, 2) := by decide +kernel
theorem d_Gu_mostAlike_22 : decode b_Gu_mostAlike 22 = .ok (.if_icmp .gt 65, 3) := by decide +kernel
theorem d_Gu_mostAlike_25 : decode b_Gu_mostAlike 25 = .ok (.iload_n 2, 1) := by decide +kernel
theorem d_Gu_mostAlike_26 : decode b_Gu_mostAlike 26 = .ok (.iload 4, 2) := by decide +kernel
theorem d_Gu_mostAlike_28 : decode b_Gu_mostAlike 28 = .ok (.ishr, 1) := by decide +kernel
theorem d_Gu_mostAlike_29 : decode b_Gu_mostAlike 29 = .ok (.iload_n 2, 1) := by decide +kernel
theorem d_Gu_mostAlike_30 : decode b_Gu_mostAlike 30 = .ok (.iload 6, 2) := by decide +kernel
theorem d_Gu_mostAlike_32 : decode b_Gu_mostAlike 32 = .ok (.ishr, 1) := by decide +kernel
theorem d_Gu_mostAlike_33 : decode b_Gu_mostAlike 33 = .ok (.iand, 1) := by decide +kernel
theorem d_Gu_mostAlike_34 : decode b_Gu_mostAlike 34 = .ok (.iconst 1, 1) := by decide +kernel
theorem d_Gu_mostAlike_35 : decode b_Gu_mostAlike 35 = .ok (.iand, 1) := by decide +kernel
theorem d_Gu_mostAlike_36 : decode b_Gu_mostAlike 36 = .ok (.ifCond .eq 7, 3) := by decide +kernel
theorem d_Gu_mostAlike_39 : decode b_Gu_mostAlike 39 = .ok (.iconst 1, 1) := by decide +kernel
theorem d_Gu_mostAlike_40 : decode b_Gu_mostAlike 40 = .ok (.goto 4, 3) := by decide +kernel
theorem d_Gu_mostAlike_43 : decode b_Gu_mostAlike 43 = .ok (.iconst 0, 1) := by decide +kernel
theorem d_Gu_mostAlike_44 : decode b_Gu_mostAlike 44 = .ok (.istore 7, 2) := by decide +kernel
theorem d_Gu_mostAlike_46 : decode b_Gu_mostAlike 46 = .ok (.iload 7, 2) := by decide +kernel
theorem d_Gu_mostAlike_48 : decode b_Gu_mostAlike 48 = .ok (.ifCond .eq 33, 3) := by decide +kernel
theorem d_Gu_mostAlike_51 : decode b_Gu_mostAlike 51 = .ok (.aload_n 0, 1) := by decide +kernel
theorem d_Gu_mostAlike_52 : decode b_Gu_mostAlike 52 = .ok (.getfield 21, 3) := by decide +kernel
theorem d_Gu_mostAlike_55 : decode b_Gu_mostAlike 55 = .ok (.iload 4, 2) := by decide +kernel
theorem d_Gu_mostAlike_57 : decode b_Gu_mostAlike 57 = .ok (.bipush 24, 2) := by decide +kernel
theorem d_Gu_mostAlike_59 : decode b_Gu_mostAlike 59 = .ok (.imul, 1) := by decide +kernel
theorem d_Gu_mostAlike_60 : decode b_Gu_mostAlike 60 = .ok (.iload_n 1, 1) := by decide +kernel
theorem d_Gu_mostAlike_61 : decode b_Gu_mostAlike 61 = .ok (.iadd, 1) := by decide +kernel
theorem d_Gu_mostAlike_62 : decode b_Gu_mostAlike 62 = .ok (.iaload, 1) := by decide +kernel
theorem d_Gu_mostAlike_63 : decode b_Gu_mostAlike 63 = .ok (.aload_n 0, 1) := by decide +kernel
theorem d_Gu_mostAlike_64 : decode b_Gu_mostAlike 64 = .ok (.getfield 21, 3) := by decide +kernel
theorem d_Gu_mostAlike_67 : decode b_Gu_mostAlike 67 = .ok (.iload 6, 2) := by decide +kernel
theorem d_Gu_mostAlike_69 : decode b_Gu_mostAlike 69 = .ok (.bipush 24, 2) := by decide +kernel
theorem d_Gu_mostAlike_71 : decode b_Gu_mostAlike 71 = .ok (.imul, 1) := by decide +kernel
theorem d_Gu_mostAlike_72 : decode b_Gu_mostAlike 72 = .ok (.iload_n 1, 1) := by decide +kernel
theorem d_Gu_mostAlike_73 : decode b_Gu_mostAlike 73 = .ok (.iadd, 1) := by decide +kernel
theorem d_Gu_mostAlike_74 : decode b_Gu_mostAlike 74 = .ok (.iaload, 1) := by decide +kernel
theorem d_Gu_mostAlike_75 : decode b_Gu_mostAlike 75 = .ok (.if_icmp .ne 6, 3) := by decide +kernel
theorem d_Gu_mostAlike_78 : decode b_Gu_mostAlike 78 = .ok (.iinc 5 1, 3) := by decide +kernel
theorem d_Gu_mostAlike_81 : decode b_Gu_mostAlike 81 = .ok (.iinc 6 1, 3) := by decide +kernel
theorem d_Gu_mostAlike_84 : decode b_Gu_mostAlike 84 = .ok (.goto (-66), 3) := by decide +kernel
theorem d_Gu_mostAlike_87 : decode b_Gu_mostAlike 87 = .ok (.iload_n 3, 1) := by decide +kernel
theorem d_Gu_mostAlike_88 : decode b_Gu_mostAlike 88 = .ok (.iload 5, 2) := by decide +kernel
theorem d_Gu_mostAlike_90 : decode b_Gu_mostAlike 90 = .ok (.invokestatic 77, 3) := by decide +kernel
theorem d_Gu_mostAlike_93 : decode b_Gu_mostAlike 93 = .ok (.istore_n 3, 1) := by decide +kernel
theorem d_Gu_mostAlike_94 : decode b_Gu_mostAlike 94 = .ok (.iinc 4 1, 3) := by decide +kernel
theorem d_Gu_mostAlike_97 : decode b_Gu_mostAlike 97 = .ok (.goto (-92), 3) := by decide +kernel
theorem d_Gu_mostAlike_100 : decode b_Gu_mostAlike 100 = .ok (.iload_n 3, 1) := by decide +kernel
theorem d_Gu_mostAlike_101 : decode b_Gu_mostAlike 101 = .ok (.ireturn, 1) := by decide +kernel
theorem d_Gu_dayToLook_0 : decode b_Gu_dayToLook 0 = .ok (.aload_n 0, 1) := by decide +kernel
theorem d_Gu_dayToLook_1 : decode b_Gu_dayToLook 1 = .ok (.iload_n 1, 1) := by decide +kernel
theorem d_Gu_dayToLook_2 : decode b_Gu_dayToLook 2 = .ok (.iload_n 2, 1) := by decide +kernel
theorem d_Gu_dayToLook_3 : decode b_Gu_dayToLook 3 = .ok (.invokevirtual 67, 3) := by decide +kernel
theorem d_Gu_dayToLook_6 : decode b_Gu_dayToLook 6 = .ok (.iconst 0, 1) := by decide +kernel
theorem d_Gu_dayToLook_7 : decode b_Gu_dayToLook 7 = .ok (.istore_n 3, 1) := by decide +kernel
theorem d_Gu_dayToLook_8 : decode b_Gu_dayToLook 8 = .ok (.iconst 1, 1) := by decide +kernel
theorem d_Gu_dayToLook_9 : decode b_Gu_dayToLook 9 = .ok (.istore 4, 2) := by decide +kernel
theorem d_Gu_dayToLook_11 : decode b_Gu_dayToLook 11 = .ok (.iload 4, 2) := by decide +kernel
theorem d_Gu_dayToLook_13 : decode b_Gu_dayToLook 13 = .ok (.bipush 24, 2) := by decide +kernel
theorem d_Gu_dayToLook_15 : decode b_Gu_dayToLook 15 = .ok (.if_icmp .ge 28, 3) := by decide +kernel
theorem d_Gu_dayToLook_18 : decode b_Gu_dayToLook 18 = .ok (.aload_n 0, 1) := by decide +kernel
theorem d_Gu_dayToLook_19 : decode b_Gu_dayToLook 19 = .ok (.iload 4, 2) := by decide +kernel
theorem d_Gu_dayToLook_21 : decode b_Gu_dayToLook 21 = .ok (.iload_n 2, 1) := by decide +kernel
theorem d_Gu_dayToLook_22 : decode b_Gu_dayToLook 22 = .ok (.invokevirtual 71, 3) := by decide +kernel
theorem d_Gu_dayToLook_25 : decode b_Gu_dayToLook 25 = .ok (.aload_n 0, 1) := by decide +kernel
theorem d_Gu_dayToLook_26 : decode b_Gu_dayToLook 26 = .ok (.iload_n 3, 1) := by decide +kernel
theorem d_Gu_dayToLook_27 : decode b_Gu_dayToLook 27 = .ok (.iload_n 2, 1) := by decide +kernel
theorem d_Gu_dayToLook_28 : decode b_Gu_dayToLook 28 = .ok (.invokevirtual 71, 3) := by decide +kernel
theorem d_Gu_dayToLook_31 : decode b_Gu_dayToLook 31 = .ok (.if_icmp .ge 6, 3) := by decide +kernel
theorem d_Gu_dayToLook_34 : decode b_Gu_dayToLook 34 = .ok (.iload 4, 2) := by decide +kernel
theorem d_Gu_dayToLook_36 : decode b_Gu_dayToLook 36 = .ok (.istore_n 3, 1) := by decide +kernel
theorem d_Gu_dayToLook_37 : decode b_Gu_dayToLook 37 = .ok (.iinc 4 1, 3) := by decide +kernel
theorem d_Gu_dayToLook_40 : decode b_Gu_dayToLook 40 = .ok (.goto (-29), 3) := by decide +kernel
theorem d_Gu_dayToLook_43 : decode b_Gu_dayToLook 43 = .ok (.iload_n 3, 1) := by decide +kernel
theorem d_Gu_dayToLook_44 : decode b_Gu_dayToLook 44 = .ok (.ireturn, 1) := by decide +kernel
theorem d_CS_ask_0 : decode b_CS_ask 0 = .ok (.aload_n 0, 1) := by decide +kernel
theorem d_CS_ask_1 : decode b_CS_ask 1 = .ok (.iload_n 1, 1) := by decide +kernel
theorem d_CS_ask_2 : decode b_CS_ask 2 = .ok (.invokevirtual 96, 3) := by decide +kernel
theorem d_CS_ask_5 : decode b_CS_ask 5 = .ok (.ifCond .ne 6, 3) := by decide +kernel
theorem d_CS_ask_8 : decode b_CS_ask 8 = .ok (.bipush (-2), 2) := by decide +kernel
theorem d_CS_ask_10 : decode b_CS_ask 10 = .ok (.ireturn, 1) := by decide +kernel
theorem d_CS_ask_11 : decode b_CS_ask 11 = .ok (.aload_n 0, 1) := by decide +kernel
theorem d_CS_ask_12 : decode b_CS_ask 12 = .ok (.getfield 60, 3) := by decide +kernel
theorem d_CS_ask_15 : decode b_CS_ask 15 = .ok (.aload_n 0, 1) := by decide +kernel
theorem d_CS_ask_16 : decode b_CS_ask 16 = .ok (.getfield 10, 3) := by decide +kernel
theorem d_CS_ask_19 : decode b_CS_ask 19 = .ok (.getfield 103, 3) := by decide +kernel
theorem d_CS_ask_22 : decode b_CS_ask 22 = .ok (.iload_n 1, 1) := by decide +kernel
theorem d_CS_ask_23 : decode b_CS_ask 23 = .ok (.iconst 1, 1) := by decide +kernel
theorem d_CS_ask_24 : decode b_CS_ask 24 = .ok (.bipush 9, 2) := by decide +kernel
theorem d_CS_ask_26 : decode b_CS_ask 26 = .ok (.invokevirtual 209, 3) := by decide +kernel
theorem d_CS_ask_29 : decode b_CS_ask 29 = .ok (.istore_n 2, 1) := by decide +kernel
theorem d_CS_ask_30 : decode b_CS_ask 30 = .ok (.aload_n 0, 1) := by decide +kernel
theorem d_CS_ask_31 : decode b_CS_ask 31 = .ok (.getfield 60, 3) := by decide +kernel
theorem d_CS_ask_34 : decode b_CS_ask 34 = .ok (.iload_n 1, 1) := by decide +kernel
theorem d_CS_ask_35 : decode b_CS_ask 35 = .ok (.iload_n 2, 1) := by decide +kernel
theorem d_CS_ask_36 : decode b_CS_ask 36 = .ok (.invokevirtual 213, 3) := by decide +kernel
theorem d_CS_ask_39 : decode b_CS_ask 39 = .ok (.ireturn, 1) := by decide +kernel
theorem d_St_onCamel_0 : decode b_St_onCamel 0 = .ok (.iconst 0, 1) := by decide +kernel
theorem d_St_onCamel_1 : decode b_St_onCamel 1 = .ok (.istore_n 2, 1) := by decide +kernel
theorem d_St_onCamel_2 : decode b_St_onCamel 2 = .ok (.iconst 0, 1) := by decide +kernel
theorem d_St_onCamel_3 : decode b_St_onCamel 3 = .ok (.istore_n 3, 1) := by decide +kernel
theorem d_St_onCamel_4 : decode b_St_onCamel 4 = .ok (.iload_n 3, 1) := by decide +kernel
theorem d_St_onCamel_5 : decode b_St_onCamel 5 = .ok (.aload_n 0, 1) := by decide +kernel
theorem d_St_onCamel_6 : decode b_St_onCamel 6 = .ok (.getfield 18, 3) := by decide +kernel
theorem d_St_onCamel_9 : decode b_St_onCamel 9 = .ok (.if_icmp .ge 25, 3) := by decide +kernel
theorem d_St_onCamel_12 : decode b_St_onCamel 12 = .ok (.aload_n 0, 1) := by decide +kernel
theorem d_St_onCamel_13 : decode b_St_onCamel 13 = .ok (.getfield 15, 3) := by decide +kernel
theorem d_St_onCamel_16 : decode b_St_onCamel 16 = .ok (.iload_n 3, 1) := by decide +kernel
theorem d_St_onCamel_17 : decode b_St_onCamel 17 = .ok (.iaload, 1) := by decide +kernel
theorem d_St_onCamel_18 : decode b_St_onCamel 18 = .ok (.iload_n 1, 1) := by decide +kernel
theorem d_St_onCamel_19 : decode b_St_onCamel 19 = .ok (.if_icmp .ne 9, 3) := by decide +kernel
theorem d_St_onCamel_22 : decode b_St_onCamel 22 = .ok (.iload_n 2, 1) := by decide +kernel
theorem d_St_onCamel_23 : decode b_St_onCamel 23 = .ok (.iconst 1, 1) := by decide +kernel
theorem d_St_onCamel_24 : decode b_St_onCamel 24 = .ok (.iload_n 3, 1) := by decide +kernel
theorem d_St_onCamel_25 : decode b_St_onCamel 25 = .ok (.ishl, 1) := by decide +kernel
theorem d_St_onCamel_26 : decode b_St_onCamel 26 = .ok (.ior, 1) := by decide +kernel
theorem d_St_onCamel_27 : decode b_St_onCamel 27 = .ok (.istore_n 2, 1) := by decide +kernel
theorem d_St_onCamel_28 : decode b_St_onCamel 28 = .ok (.iinc 3 1, 3) := by decide +kernel
theorem d_St_onCamel_31 : decode b_St_onCamel 31 = .ok (.goto (-27), 3) := by decide +kernel
theorem d_St_onCamel_34 : decode b_St_onCamel 34 = .ok (.iload_n 2, 1) := by decide +kernel
theorem d_St_onCamel_35 : decode b_St_onCamel 35 = .ok (.ireturn, 1) := by decide +kernel
theorem d_Od_breaksWithout_0 : decode b_Od_breaksWithout 0 = .ok (.aload_n 0, 1) := by decide +kernel
theorem d_Od_breaksWithout_1 : decode b_Od_breaksWithout 1 = .ok (.getfield 9, 3) := by decide +kernel
theorem d_Od_breaksWithout_4 : decode b_Od_breaksWithout 4 = .ok (.iload_n 1, 1) := by decide +kernel
theorem d_Od_breaksWithout_5 : decode b_Od_breaksWithout 5 = .ok (.putfield 50, 3) := by decide +kernel
theorem d_Od_breaksWithout_8 : decode b_Od_breaksWithout 8 = .ok (.aload_n 0, 1) := by decide +kernel
theorem d_Od_breaksWithout_9 : decode b_Od_breaksWithout 9 = .ok (.getfield 9, 3) := by decide +kernel
theorem d_Od_breaksWithout_12 : decode b_Od_breaksWithout 12 = .ok (.iload_n 2, 1) := by decide +kernel
theorem d_Od_breaksWithout_13 : decode b_Od_breaksWithout 13 = .ok (.invokevirtual 54, 3) := by decide +kernel
theorem d_Od_breaksWithout_16 : decode b_Od_breaksWithout 16 = .ok (.getfield 58, 3) := by decide +kernel
theorem d_Od_breaksWithout_19 : decode b_Od_breaksWithout 19 = .ok (.ifCond .le 7, 3) := by decide +kernel
theorem d_Od_breaksWithout_22 : decode b_Od_breaksWithout 22 = .ok (.iconst 1, 1) := by decide +kernel
theorem d_Od_breaksWithout_23 : decode b_Od_breaksWithout 23 = .ok (.goto 4, 3) := by decide +kernel
theorem d_Od_breaksWithout_26 : decode b_Od_breaksWithout 26 = .ok (.iconst 0, 1) := by decide +kernel
theorem d_Od_breaksWithout_27 : decode b_Od_breaksWithout 27 = .ok (.istore_n 3, 1) := by decide +kernel
theorem d_Od_breaksWithout_28 : decode b_Od_breaksWithout 28 = .ok (.aload_n 0, 1) := by decide +kernel
theorem d_Od_breaksWithout_29 : decode b_Od_breaksWithout 29 = .ok (.getfield 9, 3) := by decide +kernel
theorem d_Od_breaksWithout_32 : decode b_Od_breaksWithout 32 = .ok (.iconst 0, 1) := by decide +kernel
theorem d_Od_breaksWithout_33 : decode b_Od_breaksWithout 33 = .ok (.putfield 50, 3) := by decide +kernel
theorem d_Od_breaksWithout_36 : decode b_Od_breaksWithout 36 = .ok (.iload_n 3, 1) := by decide +kernel
theorem d_Od_breaksWithout_37 : decode b_Od_breaksWithout 37 = .ok (.ireturn, 1) := by decide +kernel
theorem d_Od_power_0 : decode b_Od_power 0 = .ok (.lconst 1, 1) := by decide +kernel
theorem d_Od_power_1 : decode b_Od_power 1 = .ok (.lstore_n 2, 1) := by decide +kernel
theorem d_Od_power_2 : decode b_Od_power 2 = .ok (.iconst 0, 1) := by decide +kernel
theorem d_Od_power_3 : decode b_Od_power 3 = .ok (.istore 4, 2) := by decide +kernel
theorem d_Od_power_5 : decode b_Od_power 5 = .ok (.iload 4, 2) := by decide +kernel
theorem d_Od_power_7 : decode b_Od_power 7 = .ok (.iload_n 1, 1) := by decide +kernel
theorem d_Od_power_8 : decode b_Od_power 8 = .ok (.if_icmp .ge 14, 3) := by decide +kernel
theorem d_Od_power_11 : decode b_Od_power 11 = .ok (.lload_n 2, 1) := by decide +kernel
theorem d_Od_power_12 : decode b_Od_power 12 = .ok (.iload_n 0, 1) := by decide +kernel
theorem d_Od_power_13 : decode b_Od_power 13 = .ok (.i2l, 1) := by decide +kernel
theorem d_Od_power_14 : decode b_Od_power 14 = .ok (.lmul, 1) := by decide +kernel
theorem d_Od_power_15 : decode b_Od_power 15 = .ok (.lstore_n 2, 1) := by decide +kernel
theorem d_Od_power_16 : decode b_Od_power 16 = .ok (.iinc 4 1, 3) := by decide +kernel
theorem d_Od_power_19 : decode b_Od_power 19 = .ok (.goto (-14), 3) := by decide +kernel
theorem d_Od_power_22 : decode b_Od_power 22 = .ok (.lload_n 2, 1) := by decide +kernel
theorem d_Od_power_23 : decode b_Od_power 23 = .ok (.lreturn, 1) := by decide +kernel
theorem d_Od_reduce_0 : decode b_Od_reduce 0 = .ok (.iconst 0, 1) := by decide +kernel
theorem d_Od_reduce_1 : decode b_Od_reduce 1 = .ok (.istore_n 1, 1) := by decide +kernel
theorem d_Od_reduce_2 : decode b_Od_reduce 2 = .ok (.iload_n 1, 1) := by decide +kernel
theorem d_Od_reduce_3 : decode b_Od_reduce 3 = .ok (.bipush 64, 2) := by decide +kernel
theorem d_Od_reduce_5 : decode b_Od_reduce 5 = .ok (.if_icmp .ge 55, 3) := by decide +kernel
theorem d_Od_reduce_8 : decode b_Od_reduce 8 = .ok (.aload_n 0, 1) := by decide +kernel
theorem d_Od_reduce_9 : decode b_Od_reduce 9 = .ok (.getfield 44, 3) := by decide +kernel
theorem d_Od_reduce_12 : decode b_Od_reduce 12 = .ok (.lconst 1, 1) := by decide +kernel
theorem d_Od_reduce_13 : decode b_Od_reduce 13 = .ok (.lcmp, 1) := by decide +kernel
theorem d_Od_reduce_14 : decode b_Od_reduce 14 = .ok (.ifCond .le 46, 3) := by decide +kernel
theorem d_Od_reduce_17 : decode b_Od_reduce 17 = .ok (.aload_n 0, 1) := by decide +kernel
theorem d_Od_reduce_18 : decode b_Od_reduce 18 = .ok (.getfield 27, 3) := by decide +kernel
theorem d_Od_reduce_21 : decode b_Od_reduce 21 = .ok (.ldc2_w 63, 3) := by decide +kernel
theorem d_Od_reduce_24 : decode b_Od_reduce 24 = .ok (.lrem, 1) := by decide +kernel
theorem d_Od_reduce_25 : decode b_Od_reduce 25 = .ok (.lconst 0, 1) := by decide +kernel
theorem d_Od_reduce_26 : decode b_Od_reduce 26 = .ok (.lcmp, 1) := by decide +kernel
theorem d_Od_reduce_27 : decode b_Od_reduce 27 = .ok (.ifCond .ne 33, 3) := by decide +kernel
theorem d_Od_reduce_30 : decode b_Od_reduce 30 = .ok (.aload_n 0, 1) := by decide +kernel
theorem d_Od_reduce_31 : decode b_Od_reduce 31 = .ok (.dup, 1) := by decide +kernel
theorem d_Od_reduce_32 : decode b_Od_reduce 32 = .ok (.getfield 27, 3) := by decide +kernel
theorem d_Od_reduce_35 : decode b_Od_reduce 35 = .ok (.ldc2_w 63, 3) := by decide +kernel
theorem d_Od_reduce_38 : decode b_Od_reduce 38 = .ok (.ldiv, 1) := by decide +kernel
theorem d_Od_reduce_39 : decode b_Od_reduce 39 = .ok (.putfield 27, 3) := by decide +kernel
theorem d_Od_reduce_42 : decode b_Od_reduce 42 = .ok (.aload_n 0, 1) := by decide +kernel
theorem d_Od_reduce_43 : decode b_Od_reduce 43 = .ok (.dup, 1) := by decide +kernel
theorem d_Od_reduce_44 : decode b_Od_reduce 44 = .ok (.getfield 44, 3) := by decide +kernel
theorem d_Od_reduce_47 : decode b_Od_reduce 47 = .ok (.ldc2_w 63, 3) := by decide +kernel
theorem d_Od_reduce_50 : decode b_Od_reduce 50 = .ok (.ldiv, 1) := by decide +kernel
theorem d_Od_reduce_51 : decode b_Od_reduce 51 = .ok (.putfield 44, 3) := by decide +kernel
theorem d_Od_reduce_54 : decode b_Od_reduce 54 = .ok (.iinc 1 1, 3) := by decide +kernel
theorem d_Od_reduce_57 : decode b_Od_reduce 57 = .ok (.goto (-55), 3) := by decide +kernel
theorem d_Od_reduce_60 : decode b_Od_reduce 60 = .ok (.return_, 1) := by decide +kernel
theorem d_Od_ofBreaking_0 : decode b_Od_ofBreaking 0 = .ok (.aload_n 0, 1) := by decide +kernel
theorem d_Od_ofBreaking_1 : decode b_Od_ofBreaking 1 = .ok (.getfield 9, 3) := by decide +kernel
theorem d_Od_ofBreaking_4 : decode b_Od_ofBreaking 4 = .ok (.getfield 15, 3) := by decide +kernel
theorem d_Od_ofBreaking_7 : decode b_Od_ofBreaking 7 = .ok (.iload_n 2, 1) := by decide +kernel
theorem d_Od_ofBreaking_8 : decode b_Od_ofBreaking 8 = .ok (.invokevirtual 21, 3) := by decide +kernel
theorem d_Od_ofBreaking_11 : decode b_Od_ofBreaking 11 = .ok (.istore_n 3, 1) := by decide +kernel
theorem d_Od_ofBreaking_12 : decode b_Od_ofBreaking 12 = .ok (.aload_n 0, 1) := by decide +kernel
theorem d_Od_ofBreaking_13 : decode b_Od_ofBreaking 13 = .ok (.lconst 0, 1) := by decide +kernel
theorem d_Od_ofBreaking_14 : decode b_Od_ofBreaking 14 = .ok (.putfield 27, 3) := by decide +kernel
theorem d_Od_ofBreaking_17 : decode b_Od_ofBreaking 17 = .ok (.iconst 0, 1) := by decide +kernel
theorem d_Od_ofBreaking_18 : decode b_Od_ofBreaking 18 = .ok (.istore 4, 2) := by decide +kernel
theorem d_Od_ofBreaking_20 : decode b_Od_ofBreaking 20 = .ok (.iload 4, 2) := by decide +kernel
theorem d_Od_ofBreaking_22 : decode b_Od_ofBreaking 22 = .ok (.sipush 256, 3) := by decide +kernel
theorem d_Od_ofBreaking_25 : decode b_Od_ofBreaking 25 = .ok (.if_icmp .ge 79, 3) := by decide +kernel
theorem d_Od_ofBreaking_28 : decode b_Od_ofBreaking 28 = .ok (.iload 4, 2) := by decide +kernel
theorem d_Od_ofBreaking_30 : decode b_Od_ofBreaking 30 = .ok (.iload_n 3, 1) := by decide +kernel
theorem d_Od_ofBreaking_31 : decode b_Od_ofBreaking 31 = .ok (.iconst (-1), 1) := by decide +kernel
theorem d_Od_ofBreaking_32 : decode b_Od_ofBreaking 32 = .ok (.ixor, 1) := by decide +kernel
theorem d_Od_ofBreaking_33 : decode b_Od_ofBreaking 33 = .ok (.iand, 1) := by decide +kernel
theorem d_Od_ofBreaking_34 : decode b_Od_ofBreaking 34 = .ok (.ifCond .ne 7, 3) := by decide +kernel
theorem d_Od_ofBreaking_37 : decode b_Od_ofBreaking 37 = .ok (.iconst 1, 1) := by decide +kernel
theorem d_Od_ofBreaking_38 : decode b_Od_ofBreaking 38 = .ok (.goto 4, 3) := by decide +kernel
theorem d_Od_ofBreaking_41 : decode b_Od_ofBreaking 41 = .ok (.iconst 0, 1) := by decide +kernel
theorem d_Od_ofBreaking_42 : decode b_Od_ofBreaking 42 = .ok (.istore 5, 2) := by decide +kernel
theorem d_Od_ofBreaking_44 : decode b_Od_ofBreaking 44 = .ok (.iload 5, 2) := by decide +kernel
theorem d_Od_ofBreaking_46 : decode b_Od_ofBreaking 46 = .ok (.ifCond .eq 52, 3) := by decide +kernel
theorem d_Od_ofBreaking_49 : decode b_Od_ofBreaking 49 = .ok (.aload_n 0, 1) := by decide +kernel
theorem d_Od_ofBreaking_50 : decode b_Od_ofBreaking 50 = .ok (.iload_n 3, 1) := by decide +kernel
theorem d_Od_ofBreaking_51 : decode b_Od_ofBreaking 51 = .ok (.iload 4, 2) := by decide +kernel
theorem d_Od_ofBreaking_53 : decode b_Od_ofBreaking 53 = .ok (.iconst (-1), 1) := by decide +kernel
theorem d_Od_ofBreaking_54 : decode b_Od_ofBreaking 54 = .ok (.ixor, 1) := by decide +kernel
theorem d_Od_ofBreaking_55 : decode b_Od_ofBreaking 55 = .ok (.iand, 1) := by decide +kernel
theorem d_Od_ofBreaking_56 : decode b_Od_ofBreaking 56 = .ok (.iload_n 2, 1) := by decide +kernel
theorem d_Od_ofBreaking_57 : decode b_Od_ofBreaking 57 = .ok (.invokevirtual 31, 3) := by decide +kernel
theorem d_Od_ofBreaking_60 : decode b_Od_ofBreaking 60 = .ok (.ifCond .eq 38, 3) := by decide +kernel
theorem d_Od_ofBreaking_63 : decode b_Od_ofBreaking 63 = .ok (.aload_n 0, 1) := by decide +kernel
theorem d_Od_ofBreaking_64 : decode b_Od_ofBreaking 64 = .ok (.dup, 1) := by decide +kernel
theorem d_Od_ofBreaking_65 : decode b_Od_ofBreaking 65 = .ok (.getfield 27, 3) := by decide +kernel
theorem d_Od_ofBreaking_68 : decode b_Od_ofBreaking 68 = .ok (.iload_n 1, 1) := by decide +kernel
theorem d_Od_ofBreaking_69 : decode b_Od_ofBreaking 69 = .ok (.iload 4, 2) := by decide +kernel
theorem d_Od_ofBreaking_71 : decode b_Od_ofBreaking 71 = .ok (.invokestatic 35, 3) := by decide +kernel
theorem d_Od_ofBreaking_74 : decode b_Od_ofBreaking 74 = .ok (.invokestatic 40, 3) := by decide +kernel
theorem d_Od_ofBreaking_77 : decode b_Od_ofBreaking 77 = .ok (.bipush 16, 2) := by decide +kernel
theorem d_Od_ofBreaking_79 : decode b_Od_ofBreaking 79 = .ok (.iload_n 1, 1) := by decide +kernel
theorem d_Od_ofBreaking_80 : decode b_Od_ofBreaking 80 = .ok (.isub, 1) := by decide +kernel
theorem d_Od_ofBreaking_81 : decode b_Od_ofBreaking 81 = .ok (.iload_n 3, 1) := by decide +kernel
theorem d_Od_ofBreaking_82 : decode b_Od_ofBreaking 82 = .ok (.iload 4, 2) := by decide +kernel
theorem d_Od_ofBreaking_84 : decode b_Od_ofBreaking 84 = .ok (.iconst (-1), 1) := by decide +kernel
theorem d_Od_ofBreaking_85 : decode b_Od_ofBreaking 85 = .ok (.ixor, 1) := by decide +kernel
theorem d_Od_ofBreaking_86 : decode b_Od_ofBreaking 86 = .ok (.iand, 1) := by decide +kernel
theorem d_Od_ofBreaking_87 : decode b_Od_ofBreaking 87 = .ok (.invokestatic 35, 3) := by decide +kernel
theorem d_Od_ofBreaking_90 : decode b_Od_ofBreaking 90 = .ok (.invokestatic 40, 3) := by decide +kernel
theorem d_Od_ofBreaking_93 : decode b_Od_ofBreaking 93 = .ok (.lmul, 1) := by decide +kernel
theorem d_Od_ofBreaking_94 : decode b_Od_ofBreaking 94 = .ok (.ladd, 1) := by decide +kernel
theorem d_Od_ofBreaking_95 : decode b_Od_ofBreaking 95 = .ok (.putfield 27, 3) := by decide +kernel
theorem d_Od_ofBreaking_98 : decode b_Od_ofBreaking 98 = .ok (.iinc 4 1, 3) := by decide +kernel
theorem d_Od_ofBreaking_101 : decode b_Od_ofBreaking 101 = .ok (.goto (-81), 3) := by decide +kernel
theorem d_Od_ofBreaking_104 : decode b_Od_ofBreaking 104 = .ok (.aload_n 0, 1) := by decide +kernel
theorem d_Od_ofBreaking_105 : decode b_Od_ofBreaking 105 = .ok (.bipush 16, 2) := by decide +kernel
theorem d_Od_ofBreaking_107 : decode b_Od_ofBreaking 107 = .ok (.iload_n 3, 1) := by decide +kernel
theorem d_Od_ofBreaking_108 : decode b_Od_ofBreaking 108 = .ok (.invokestatic 35, 3) := by decide +kernel
theorem d_Od_ofBreaking_111 : decode b_Od_ofBreaking 111 = .ok (.invokestatic 40, 3) := by decide +kernel
theorem d_Od_ofBreaking_114 : decode b_Od_ofBreaking 114 = .ok (.putfield 44, 3) := by decide +kernel
theorem d_Od_ofBreaking_117 : decode b_Od_ofBreaking 117 = .ok (.aload_n 0, 1) := by decide +kernel
theorem d_Od_ofBreaking_118 : decode b_Od_ofBreaking 118 = .ok (.invokevirtual 47, 3) := by decide +kernel
theorem d_Od_ofBreaking_121 : decode b_Od_ofBreaking 121 = .ok (.return_, 1) := by decide +kernel
theorem d_CS_chance_0 : decode b_CS_chance 0 = .ok (.iload_n 1, 1) := by decide +kernel
theorem d_CS_chance_1 : decode b_CS_chance 1 = .ok (.ifCond .lt 26, 3) := by decide +kernel
theorem d_CS_chance_4 : decode b_CS_chance 4 = .ok (.iload_n 1, 1) := by decide +kernel
theorem d_CS_chance_5 : decode b_CS_chance 5 = .ok (.bipush 16, 2) := by decide +kernel
theorem d_CS_chance_7 : decode b_CS_chance 7 = .ok (.if_icmp .gt 20, 3) := by decide +kernel
theorem d_CS_chance_10 : decode b_CS_chance 10 = .ok (.aload_n 0, 1) := by decide +kernel
theorem d_CS_chance_11 : decode b_CS_chance 11 = .ok (.iload_n 2, 1) := by decide +kernel
theorem d_CS_chance_12 : decode b_CS_chance 12 = .ok (.invokevirtual 96, 3) := by decide +kernel
theorem d_CS_chance_15 : decode b_CS_chance 15 = .ok (.ifCond .eq 12, 3) := by decide +kernel
theorem d_CS_chance_18 : decode b_CS_chance 18 = .ok (.iload_n 3, 1) := by decide +kernel
theorem d_CS_chance_19 : decode b_CS_chance 19 = .ok (.ifCond .lt 8, 3) := by decide +kernel
theorem d_CS_chance_22 : decode b_CS_chance 22 = .ok (.iload_n 3, 1) := by decide +kernel
theorem d_CS_chance_23 : decode b_CS_chance 23 = .ok (.iconst 1, 1) := by decide +kernel
theorem d_CS_chance_24 : decode b_CS_chance 24 = .ok (.if_icmp .le 7, 3) := by decide +kernel
theorem d_CS_chance_27 : decode b_CS_chance 27 = .ok (.ldc2_w 216, 3) := by decide +kernel
theorem d_CS_chance_30 : decode b_CS_chance 30 = .ok (.lreturn, 1) := by decide +kernel
theorem d_CS_chance_31 : decode b_CS_chance 31 = .ok (.aload_n 0, 1) := by decide +kernel
theorem d_CS_chance_32 : decode b_CS_chance 32 = .ok (.getfield 67, 3) := by decide +kernel
theorem d_CS_chance_35 : decode b_CS_chance 35 = .ok (.iload_n 1, 1) := by decide +kernel
theorem d_CS_chance_36 : decode b_CS_chance 36 = .ok (.iload_n 2, 1) := by decide +kernel
theorem d_CS_chance_37 : decode b_CS_chance 37 = .ok (.invokevirtual 218, 3) := by decide +kernel
theorem d_CS_chance_40 : decode b_CS_chance 40 = .ok (.iload_n 3, 1) := by decide +kernel
theorem d_CS_chance_41 : decode b_CS_chance 41 = .ok (.ifCond .ne 13, 3) := by decide +kernel
theorem d_CS_chance_44 : decode b_CS_chance 44 = .ok (.aload_n 0, 1) := by decide +kernel
theorem d_CS_chance_45 : decode b_CS_chance 45 = .ok (.getfield 67, 3) := by decide +kernel
theorem d_CS_chance_48 : decode b_CS_chance 48 = .ok (.getfield 222, 3) := by decide +kernel
theorem d_CS_chance_51 : decode b_CS_chance 51 = .ok (.goto 10, 3) := by decide +kernel
theorem d_CS_chance_54 : decode b_CS_chance 54 = .ok (.aload_n 0, 1) := by decide +kernel
theorem d_CS_chance_55 : decode b_CS_chance 55 = .ok (.getfield 67, 3) := by decide +kernel
theorem d_CS_chance_58 : decode b_CS_chance 58 = .ok (.getfield 226, 3) := by decide +kernel
theorem d_CS_chance_61 : decode b_CS_chance 61 = .ok (.lreturn, 1) := by decide +kernel
theorem d_St_nextSeed_0 : decode b_St_nextSeed 0 = .ok (.ldc 30, 2) := by decide +kernel
theorem d_St_nextSeed_2 : decode b_St_nextSeed 2 = .ok (.iload_n 0, 1) := by decide +kernel
theorem d_St_nextSeed_3 : decode b_St_nextSeed 3 = .ok (.imul, 1) := by decide +kernel
theorem d_St_nextSeed_4 : decode b_St_nextSeed 4 = .ok (.sipush 12345, 3) := by decide +kernel
theorem d_St_nextSeed_7 : decode b_St_nextSeed 7 = .ok (.iadd, 1) := by decide +kernel
theorem d_St_nextSeed_8 : decode b_St_nextSeed 8 = .ok (.ireturn, 1) := by decide +kernel
theorem d_St_draw_0 : decode b_St_draw 0 = .ok (.aload_n 0, 1) := by decide +kernel
theorem d_St_draw_1 : decode b_St_draw 1 = .ok (.iconst 0, 1) := by decide +kernel
theorem d_St_draw_2 : decode b_St_draw 2 = .ok (.putfield 18, 3) := by decide +kernel
theorem d_St_draw_5 : decode b_St_draw 5 = .ok (.iload_n 3, 1) := by decide +kernel
theorem d_St_draw_6 : decode b_St_draw 6 = .ok (.ifCond .gt 4, 3) := by decide +kernel
theorem d_St_draw_9 : decode b_St_draw 9 = .ok (.return_, 1) := by decide +kernel
theorem d_St_draw_10 : decode b_St_draw 10 = .ok (.iload_n 1, 1) := by decide +kernel
theorem d_St_draw_11 : decode b_St_draw 11 = .ok (.istore 4, 2) := by decide +kernel
theorem d_St_draw_13 : decode b_St_draw 13 = .ok (.iconst 0, 1) := by decide +kernel
theorem d_St_draw_14 : decode b_St_draw 14 = .ok (.istore 5, 2) := by decide +kernel
theorem d_St_draw_16 : decode b_St_draw 16 = .ok (.iload 5, 2) := by decide +kernel
theorem d_St_draw_18 : decode b_St_draw 18 = .ok (.iload_n 2, 1) := by decide +kernel
theorem d_St_draw_19 : decode b_St_draw 19 = .ok (.if_icmp .ge 47, 3) := by decide +kernel
theorem d_St_draw_22 : decode b_St_draw 22 = .ok (.iload 4, 2) := by decide +kernel
theorem d_St_draw_24 : decode b_St_draw 24 = .ok (.invokestatic 22, 3) := by decide +kernel
theorem d_St_draw_27 : decode b_St_draw 27 = .ok (.istore 4, 2) := by decide +kernel
theorem d_St_draw_29 : decode b_St_draw 29 = .ok (.iload 4, 2) := by decide +kernel
theorem d_St_draw_31 : decode b_St_draw 31 = .ok (.bipush 16, 2) := by decide +kernel
theorem d_St_draw_33 : decode b_St_draw 33 = .ok (.iushr, 1) := by decide +kernel
theorem d_St_draw_34 : decode b_St_draw 34 = .ok (.bipush 24, 2) := by decide +kernel
theorem d_St_draw_36 : decode b_St_draw 36 = .ok (.irem, 1) := by decide +kernel
theorem d_St_draw_37 : decode b_St_draw 37 = .ok (.istore 6, 2) := by decide +kernel
theorem d_St_draw_39 : decode b_St_draw 39 = .ok (.iload 4, 2) := by decide +kernel
theorem d_St_draw_41 : decode b_St_draw 41 = .ok (.invokestatic 22, 3) := by decide +kernel
theorem d_St_draw_44 : decode b_St_draw 44 = .ok (.istore 4, 2) := by decide +kernel
theorem d_St_draw_46 : decode b_St_draw 46 = .ok (.aload_n 0, 1) := by decide +kernel
theorem d_St_draw_47 : decode b_St_draw 47 = .ok (.iload 6, 2) := by decide +kernel
theorem d_St_draw_49 : decode b_St_draw 49 = .ok (.iload 4, 2) := by decide +kernel
theorem d_St_draw_51 : decode b_St_draw 51 = .ok (.bipush 16, 2) := by decide +kernel
theorem d_St_draw_53 : decode b_St_draw 53 = .ok (.iushr, 1) := by decide +kernel
theorem d_St_draw_54 : decode b_St_draw 54 = .ok (.iload_n 3, 1) := by decide +kernel
theorem d_St_draw_55 : decode b_St_draw 55 = .ok (.irem, 1) := by decide +kernel
theorem d_St_draw_56 : decode b_St_draw 56 = .ok (.invokevirtual 26, 3) := by decide +kernel
theorem d_St_draw_59 : decode b_St_draw 59 = .ok (.pop, 1) := by decide +kernel
theorem d_St_draw_60 : decode b_St_draw 60 = .ok (.iinc 5 1, 3) := by decide +kernel
theorem d_St_draw_63 : decode b_St_draw 63 = .ok (.goto (-47), 3) := by decide +kernel
theorem d_St_draw_66 : decode b_St_draw 66 = .ok (.return_, 1) := by decide +kernel
theorem d_CS_years_0 : decode b_CS_years 0 = .ok (.iload_n 2, 1) := by decide +kernel
theorem d_CS_years_1 : decode b_CS_years 1 = .ok (.ifCond .lt 18, 3) := by decide +kernel
theorem d_CS_years_4 : decode b_CS_years 4 = .ok (.iload_n 2, 1) := by decide +kernel
theorem d_CS_years_5 : decode b_CS_years 5 = .ok (.bipush 8, 2) := by decide +kernel
theorem d_CS_years_7 : decode b_CS_years 7 = .ok (.if_icmp .gt 12, 3) := by decide +kernel
theorem d_CS_years_10 : decode b_CS_years 10 = .ok (.iload_n 3, 1) := by decide +kernel
theorem d_CS_years_11 : decode b_CS_years 11 = .ok (.ifCond .lt 8, 3) := by decide +kernel
theorem d_CS_years_14 : decode b_CS_years 14 = .ok (.iload_n 3, 1) := by decide +kernel
theorem d_CS_years_15 : decode b_CS_years 15 = .ok (.iconst 1, 1) := by decide +kernel
theorem d_CS_years_16 : decode b_CS_years 16 = .ok (.if_icmp .le 6, 3) := by decide +kernel
theorem d_CS_years_19 : decode b_CS_years 19 = .ok (.bipush (-2), 2) := by decide +kernel
theorem d_CS_years_21 : decode b_CS_years 21 = .ok (.ireturn, 1) := by decide +kernel
theorem d_CS_years_22 : decode b_CS_years 22 = .ok (.aload_n 0, 1) := by decide +kernel
theorem d_CS_years_23 : decode b_CS_years 23 = .ok (.getfield 36, 3) := by decide +kernel
theorem d_CS_years_26 : decode b_CS_years 26 = .ok (.iload_n 1, 1) := by decide +kernel
theorem d_CS_years_27 : decode b_CS_years 27 = .ok (.iload_n 2, 1) := by decide +kernel
theorem d_CS_years_28 : decode b_CS_years 28 = .ok (.aload_n 0, 1) := by decide +kernel
theorem d_CS_years_29 : decode b_CS_years 29 = .ok (.getfield 10, 3) := by decide +kernel
theorem d_CS_years_32 : decode b_CS_years 32 = .ok (.getfield 229, 3) := by decide +kernel
theorem d_CS_years_35 : decode b_CS_years 35 = .ok (.invokevirtual 231, 3) := by decide +kernel
theorem d_CS_years_38 : decode b_CS_years 38 = .ok (.aload_n 0, 1) := by decide +kernel
theorem d_CS_years_39 : decode b_CS_years 39 = .ok (.getfield 44, 3) := by decide +kernel
theorem d_CS_years_42 : decode b_CS_years 42 = .ok (.aload_n 0, 1) := by decide +kernel
theorem d_CS_years_43 : decode b_CS_years 43 = .ok (.getfield 36, 3) := by decide +kernel
theorem d_CS_years_46 : decode b_CS_years 46 = .ok (.putfield 235, 3) := by decide +kernel
theorem d_CS_years_49 : decode b_CS_years 49 = .ok (.aload_n 0, 1) := by decide +kernel
theorem d_CS_years_50 : decode b_CS_years 50 = .ok (.getfield 44, 3) := by decide +kernel
theorem d_CS_years_53 : decode b_CS_years 53 = .ok (.iload_n 3, 1) := by decide +kernel
theorem d_CS_years_54 : decode b_CS_years 54 = .ok (.ifCond .ne 7, 3) := by decide +kernel
theorem d_CS_years_57 : decode b_CS_years 57 = .ok (.iconst 5, 1) := by decide +kernel
theorem d_CS_years_58 : decode b_CS_years 58 = .ok (.goto 4, 3) := by decide +kernel
theorem d_CS_years_61 : decode b_CS_years 61 = .ok (.iconst 4, 1) := by decide +kernel
theorem d_CS_years_62 : decode b_CS_years 62 = .ok (.invokevirtual 160, 3) := by decide +kernel
theorem d_CS_years_65 : decode b_CS_years 65 = .ok (.istore 4, 2) := by decide +kernel
theorem d_CS_years_67 : decode b_CS_years 67 = .ok (.aload_n 0, 1) := by decide +kernel
theorem d_CS_years_68 : decode b_CS_years 68 = .ok (.getfield 44, 3) := by decide +kernel
theorem d_CS_years_71 : decode b_CS_years 71 = .ok (.aload_n 0, 1) := by decide +kernel
theorem d_CS_years_72 : decode b_CS_years 72 = .ok (.getfield 32, 3) := by decide +kernel
theorem d_CS_years_75 : decode b_CS_years 75 = .ok (.putfield 235, 3) := by decide +kernel
theorem d_CS_years_78 : decode b_CS_years 78 = .ok (.iload 4, 2) := by decide +kernel
theorem d_CS_years_80 : decode b_CS_years 80 = .ok (.ireturn, 1) := by decide +kernel
theorem d_CS_isForm_0 : decode b_CS_isForm 0 = .ok (.iload_n 0, 1) := by decide +kernel
theorem d_CS_isForm_1 : decode b_CS_isForm 1 = .ok (.ifCond .lt 12, 3) := by decide +kernel
theorem d_CS_isForm_4 : decode b_CS_isForm 4 = .ok (.iload_n 0, 1) := by decide +kernel
theorem d_CS_isForm_5 : decode b_CS_isForm 5 = .ok (.iconst 3, 1) := by decide +kernel
theorem d_CS_isForm_6 : decode b_CS_isForm 6 = .ok (.if_icmp .ge 7, 3) := by decide +kernel
theorem d_CS_isForm_9 : decode b_CS_isForm 9 = .ok (.iconst 1, 1) := by decide +kernel
theorem d_CS_isForm_10 : decode b_CS_isForm 10 = .ok (.goto 4, 3) := by decide +kernel
theorem d_CS_isForm_13 : decode b_CS_isForm 13 = .ok (.iconst 0, 1) := by decide +kernel
theorem d_CS_isForm_14 : decode b_CS_isForm 14 = .ok (.ireturn, 1) := by decide +kernel
theorem d_Sh_renew_0 : decode b_Sh_renew 0 = .ok (.aload_n 0, 1) := by decide +kernel
theorem d_Sh_renew_1 : decode b_Sh_renew 1 = .ok (.iload_n 1, 1) := by decide +kernel
theorem d_Sh_renew_2 : decode b_Sh_renew 2 = .ok (.putfield 15, 3) := by decide +kernel
theorem d_Sh_renew_5 : decode b_Sh_renew 5 = .ok (.aload_n 0, 1) := by decide +kernel
theorem d_Sh_renew_6 : decode b_Sh_renew 6 = .ok (.iload_n 2, 1) := by decide +kernel
theorem d_Sh_renew_7 : decode b_Sh_renew 7 = .ok (.putfield 19, 3) := by decide +kernel
theorem d_Sh_renew_10 : decode b_Sh_renew 10 = .ok (.aload_n 0, 1) := by decide +kernel
theorem d_Sh_renew_11 : decode b_Sh_renew 11 = .ok (.getfield 9, 3) := by decide +kernel
theorem d_Sh_renew_14 : decode b_Sh_renew 14 = .ok (.iconst 0, 1) := by decide +kernel
theorem d_Sh_renew_15 : decode b_Sh_renew 15 = .ok (.invokestatic 22, 3) := by decide +kernel
theorem d_Sh_renew_18 : decode b_Sh_renew 18 = .ok (.return_, 1) := by decide +kernel
theorem d_CS_sheet_0 : decode b_CS_sheet 0 = .ok (.iload_n 1, 1) := by decide +kernel
theorem d_CS_sheet_1 : decode b_CS_sheet 1 = .ok (.invokestatic 133, 3) := by decide +kernel
theorem d_CS_sheet_4 : decode b_CS_sheet 4 = .ok (.ifCond .eq 16, 3) := by decide +kernel
theorem d_CS_sheet_7 : decode b_CS_sheet 7 = .ok (.iload_n 2, 1) := by decide +kernel
theorem d_CS_sheet_8 : decode b_CS_sheet 8 = .ok (.invokestatic 236, 3) := by decide +kernel
theorem d_CS_sheet_11 : decode b_CS_sheet 11 = .ok (.ifCond .eq 9, 3) := by decide +kernel
theorem d_CS_sheet_14 : decode b_CS_sheet 14 = .ok (.iload_n 3, 1) := by decide +kernel
theorem d_CS_sheet_15 : decode b_CS_sheet 15 = .ok (.bipush 60, 2) := by decide +kernel
theorem d_CS_sheet_17 : decode b_CS_sheet 17 = .ok (.if_icmp .le 6, 3) := by decide +kernel
theorem d_CS_sheet_20 : decode b_CS_sheet 20 = .ok (.bipush (-2), 2) := by decide +kernel
theorem d_CS_sheet_22 : decode b_CS_sheet 22 = .ok (.ireturn, 1) := by decide +kernel
theorem d_CS_sheet_23 : decode b_CS_sheet 23 = .ok (.iload_n 3, 1) := by decide +kernel
theorem d_CS_sheet_24 : decode b_CS_sheet 24 = .ok (.ifCond .ge 9, 3) := by decide +kernel
theorem d_CS_sheet_27 : decode b_CS_sheet 27 = .ok (.aload_n 0, 1) := by decide +kernel
theorem d_CS_sheet_28 : decode b_CS_sheet 28 = .ok (.iconst 5, 1) := by decide +kernel
theorem d_CS_sheet_29 : decode b_CS_sheet 29 = .ok (.invokevirtual 140, 3) := by decide +kernel
theorem d_CS_sheet_32 : decode b_CS_sheet 32 = .ok (.ireturn, 1) := by decide +kernel
theorem d_CS_sheet_33 : decode b_CS_sheet 33 = .ok (.aload_n 0, 1) := by decide +kernel
theorem d_CS_sheet_34 : decode b_CS_sheet 34 = .ok (.getfield 74, 3) := by decide +kernel
theorem d_CS_sheet_37 : decode b_CS_sheet 37 = .ok (.iload_n 1, 1) := by decide +kernel
theorem d_CS_sheet_38 : decode b_CS_sheet 38 = .ok (.aaload, 1) := by decide +kernel
theorem d_CS_sheet_39 : decode b_CS_sheet 39 = .ok (.iload_n 2, 1) := by decide +kernel
theorem d_CS_sheet_40 : decode b_CS_sheet 40 = .ok (.iload_n 3, 1) := by decide +kernel
theorem d_CS_sheet_41 : decode b_CS_sheet 41 = .ok (.invokevirtual 239, 3) := by decide +kernel
theorem d_CS_sheet_44 : decode b_CS_sheet 44 = .ok (.iload_n 3, 1) := by decide +kernel
theorem d_CS_sheet_45 : decode b_CS_sheet 45 = .ok (.ireturn, 1) := by decide +kernel
theorem d_CS_lose_0 : decode b_CS_lose 0 = .ok (.iload_n 1, 1) := by decide +kernel
theorem d_CS_lose_1 : decode b_CS_lose 1 = .ok (.invokestatic 133, 3) := by decide +kernel
theorem d_CS_lose_4 : decode b_CS_lose 4 = .ok (.ifCond .ne 6, 3) := by decide +kernel
theorem d_CS_lose_7 : decode b_CS_lose 7 = .ok (.bipush (-2), 2) := by decide +kernel
theorem d_CS_lose_9 : decode b_CS_lose 9 = .ok (.ireturn, 1) := by decide +kernel
theorem d_CS_lose_10 : decode b_CS_lose 10 = .ok (.aload_n 0, 1) := by decide +kernel
theorem d_CS_lose_11 : decode b_CS_lose 11 = .ok (.getfield 74, 3) := by decide +kernel
theorem d_CS_lose_14 : decode b_CS_lose 14 = .ok (.iload_n 1, 1) := by decide +kernel
theorem d_CS_lose_15 : decode b_CS_lose 15 = .ok (.aaload, 1) := by decide +kernel
theorem d_CS_lose_16 : decode b_CS_lose 16 = .ok (.invokevirtual 136, 3) := by decide +kernel
theorem d_CS_lose_19 : decode b_CS_lose 19 = .ok (.ifCond .eq 9, 3) := by decide +kernel
theorem d_CS_lose_22 : decode b_CS_lose 22 = .ok (.aload_n 0, 1) := by decide +kernel
theorem d_CS_lose_23 : decode b_CS_lose 23 = .ok (.iconst 1, 1) := by decide +kernel
theorem d_CS_lose_24 : decode b_CS_lose 24 = .ok (.invokevirtual 140, 3) := by decide +kernel
theorem d_CS_lose_27 : decode b_CS_lose 27 = .ok (.ireturn, 1) := by decide +kernel
theorem d_CS_lose_28 : decode b_CS_lose 28 = .ok (.aload_n 0, 1) := by decide +kernel
theorem d_CS_lose_29 : decode b_CS_lose 29 = .ok (.getfield 74, 3) := by decide +kernel
theorem d_CS_lose_32 : decode b_CS_lose 32 = .ok (.iload_n 1, 1) := by decide +kernel
theorem d_CS_lose_33 : decode b_CS_lose 33 = .ok (.aaload, 1) := by decide +kernel
theorem d_CS_lose_34 : decode b_CS_lose 34 = .ok (.getfield 143, 3) := by decide +kernel
theorem d_CS_lose_37 : decode b_CS_lose 37 = .ok (.istore_n 2, 1) := by decide +kernel
theorem d_CS_lose_38 : decode b_CS_lose 38 = .ok (.aload_n 0, 1) := by decide +kernel
theorem d_CS_lose_39 : decode b_CS_lose 39 = .ok (.getfield 74, 3) := by decide +kernel
theorem d_CS_lose_42 : decode b_CS_lose 42 = .ok (.iload_n 1, 1) := by decide +kernel
theorem d_CS_lose_43 : decode b_CS_lose 43 = .ok (.aaload, 1) := by decide +kernel
theorem d_CS_lose_44 : decode b_CS_lose 44 = .ok (.iconst (-1), 1) := by decide +kernel
theorem d_CS_lose_45 : decode b_CS_lose 45 = .ok (.iconst 0, 1) := by decide +kernel
theorem d_CS_lose_46 : decode b_CS_lose 46 = .ok (.invokevirtual 239, 3) := by decide +kernel
theorem d_CS_lose_49 : decode b_CS_lose 49 = .ok (.iload_n 2, 1) := by decide +kernel
theorem d_CS_lose_50 : decode b_CS_lose 50 = .ok (.ireturn, 1) := by decide +kernel
theorem d_Sh_hasItems_0 : decode b_Sh_hasItems 0 = .ok (.iload_n 1, 1) := by decide +kernel
theorem d_Sh_hasItems_1 : decode b_Sh_hasItems 1 = .ok (.ifCond .lt 29, 3) := by decide +kernel
theorem d_Sh_hasItems_4 : decode b_Sh_hasItems 4 = .ok (.iload_n 2, 1) := by decide +kernel
theorem d_Sh_hasItems_5 : decode b_Sh_hasItems 5 = .ok (.ifCond .lt 25, 3) := by decide +kernel
theorem d_Sh_hasItems_8 : decode b_Sh_hasItems 8 = .ok (.iload_n 1, 1) := by decide +kernel
theorem d_Sh_hasItems_9 : decode b_Sh_hasItems 9 = .ok (.aload_n 0, 1) := by decide +kernel
theorem d_Sh_hasItems_10 : decode b_Sh_hasItems 10 = .ok (.getfield 19, 3) := by decide +kernel
theorem d_Sh_hasItems_13 : decode b_Sh_hasItems 13 = .ok (.if_icmp .gt 17, 3) := by decide +kernel
theorem d_Sh_hasItems_16 : decode b_Sh_hasItems 16 = .ok (.iload_n 2, 1) := by decide +kernel
theorem d_Sh_hasItems_17 : decode b_Sh_hasItems 17 = .ok (.aload_n 0, 1) := by decide +kernel
theorem d_Sh_hasItems_18 : decode b_Sh_hasItems 18 = .ok (.getfield 19, 3) := by decide +kernel
theorem d_Sh_hasItems_21 : decode b_Sh_hasItems 21 = .ok (.iload_n 1, 1) := by decide +kernel
theorem d_Sh_hasItems_22 : decode b_Sh_hasItems 22 = .ok (.isub, 1) := by decide +kernel
theorem d_Sh_hasItems_23 : decode b_Sh_hasItems 23 = .ok (.if_icmp .gt 7, 3) := by decide +kernel
theorem d_Sh_hasItems_26 : decode b_Sh_hasItems 26 = .ok (.iconst 1, 1) := by decide +kernel
theorem d_Sh_hasItems_27 : decode b_Sh_hasItems 27 = .ok (.goto 4, 3) := by decide +kernel
theorem d_Sh_hasItems_30 : decode b_Sh_hasItems 30 = .ok (.iconst 0, 1) := by decide +kernel
theorem d_Sh_hasItems_31 : decode b_Sh_hasItems 31 = .ok (.ireturn, 1) := by decide +kernel
theorem d_Sh_whatForbids_0 : decode b_Sh_whatForbids 0 = .ok (.aload_n 0, 1) := by decide +kernel
theorem d_Sh_whatForbids_1 : decode b_Sh_whatForbids 1 = .ok (.invokevirtual 28, 3) := by decide +kernel
theorem d_Sh_whatForbids_4 : decode b_Sh_whatForbids 4 = .ok (.ifCond .eq 5, 3) := by decide +kernel
theorem d_Sh_whatForbids_7 : decode b_Sh_whatForbids 7 = .ok (.iconst 1, 1) := by decide +kernel
theorem d_Sh_whatForbids_8 : decode b_Sh_whatForbids 8 = .ok (.ireturn, 1) := by decide +kernel
theorem d_Sh_whatForbids_9 : decode b_Sh_whatForbids 9 = .ok (.aload_n 0, 1) := by decide +kernel
theorem d_Sh_whatForbids_10 : decode b_Sh_whatForbids 10 = .ok (.getfield 15, 3) := by decide +kernel
theorem d_Sh_whatForbids_13 : decode b_Sh_whatForbids 13 = .ok (.iload_n 1, 1) := by decide +kernel
theorem d_Sh_whatForbids_14 : decode b_Sh_whatForbids 14 = .ok (.if_icmp .eq 5, 3) := by decide +kernel
theorem d_Sh_whatForbids_17 : decode b_Sh_whatForbids 17 = .ok (.iconst 3, 1) := by decide +kernel
theorem d_Sh_whatForbids_18 : decode b_Sh_whatForbids 18 = .ok (.ireturn, 1) := by decide +kernel
theorem d_Sh_whatForbids_19 : decode b_Sh_whatForbids 19 = .ok (.aload_n 0, 1) := by decide +kernel
theorem d_Sh_whatForbids_20 : decode b_Sh_whatForbids 20 = .ok (.iload_n 2, 1) := by decide +kernel
theorem d_Sh_whatForbids_21 : decode b_Sh_whatForbids 21 = .ok (.iconst 1, 1) := by decide +kernel
theorem d_Sh_whatForbids_22 : decode b_Sh_whatForbids 22 = .ok (.invokevirtual 32, 3) := by decide +kernel
theorem d_Sh_whatForbids_25 : decode b_Sh_whatForbids 25 = .ok (.ifCond .eq 7, 3) := by decide +kernel
theorem d_Sh_whatForbids_28 : decode b_Sh_whatForbids 28 = .ok (.iconst 0, 1) := by decide +kernel
theorem d_Sh_whatForbids_29 : decode b_Sh_whatForbids 29 = .ok (.goto 4, 3) := by decide +kernel
theorem d_Sh_whatForbids_32 : decode b_Sh_whatForbids 32 = .ok (.iconst 2, 1) := by decide +kernel
theorem d_Sh_whatForbids_33 : decode b_Sh_whatForbids 33 = .ok (.ireturn, 1) := by decide +kernel
theorem d_CS_lowestBits_0 : decode b_CS_lowestBits 0 = .ok (.iload_n 0, 1) := by decide +kernel
theorem d_CS_lowestBits_1 : decode b_CS_lowestBits 1 = .ok (.ifCond .ne 6, 3) := by decide +kernel
theorem d_CS_lowestBits_4 : decode b_CS_lowestBits 4 = .ok (.iload_n 1, 1) := by decide +kernel
theorem d_CS_lowestBits_5 : decode b_CS_lowestBits 5 = .ok (.i2b, 1) := by decide +kernel
theorem d_CS_lowestBits_6 : decode b_CS_lowestBits 6 = .ok (.ireturn, 1) := by decide +kernel
theorem d_CS_lowestBits_7 : decode b_CS_lowestBits 7 = .ok (.iload_n 0, 1) := by decide +kernel
theorem d_CS_lowestBits_8 : decode b_CS_lowestBits 8 = .ok (.iconst 1, 1) := by decide +kernel
theorem d_CS_lowestBits_9 : decode b_CS_lowestBits 9 = .ok (.if_icmp .ne 8, 3) := by decide +kernel
theorem d_CS_lowestBits_12 : decode b_CS_lowestBits 12 = .ok (.iload_n 1, 1) := by decide +kernel
theorem d_CS_lowestBits_13 : decode b_CS_lowestBits 13 = .ok (.i2s, 1) := by decide +kernel
theorem d_CS_lowestBits_14 : decode b_CS_lowestBits 14 = .ok (.goto 4, 3) := by decide +kernel
theorem d_CS_lowestBits_17 : decode b_CS_lowestBits 17 = .ok (.iload_n 1, 1) := by decide +kernel
theorem d_CS_lowestBits_18 : decode b_CS_lowestBits 18 = .ok (.ireturn, 1) := by decide +kernel
theorem d_CS_put_0 : decode b_CS_put 0 = .ok (.iload_n 1, 1) := by decide +kernel
theorem d_CS_put_1 : decode b_CS_put 1 = .ok (.invokestatic 133, 3) := by decide +kernel
theorem d_CS_put_4 : decode b_CS_put 4 = .ok (.ifCond .eq 10, 3) := by decide +kernel
theorem d_CS_put_7 : decode b_CS_put 7 = .ok (.iload_n 2, 1) := by decide +kernel
theorem d_CS_put_8 : decode b_CS_put 8 = .ok (.invokestatic 236, 3) := by decide +kernel
theorem d_CS_put_11 : decode b_CS_put 11 = .ok (.ifCond .ne 6, 3) := by decide +kernel
theorem d_CS_put_14 : decode b_CS_put 14 = .ok (.bipush (-2), 2) := by decide +kernel
theorem d_CS_put_16 : decode b_CS_put 16 = .ok (.ireturn, 1) := by decide +kernel
theorem d_CS_put_17 : decode b_CS_put 17 = .ok (.aload_n 0, 1) := by decide +kernel
theorem d_CS_put_18 : decode b_CS_put 18 = .ok (.getfield 74, 3) := by decide +kernel
theorem d_CS_put_21 : decode b_CS_put 21 = .ok (.iload_n 1, 1) := by decide +kernel
theorem d_CS_put_22 : decode b_CS_put 22 = .ok (.aaload, 1) := by decide +kernel
theorem d_CS_put_23 : decode b_CS_put 23 = .ok (.iload_n 2, 1) := by decide +kernel
theorem d_CS_put_24 : decode b_CS_put 24 = .ok (.iload_n 3, 1) := by decide +kernel
theorem d_CS_put_25 : decode b_CS_put 25 = .ok (.invokevirtual 242, 3) := by decide +kernel
theorem d_CS_put_28 : decode b_CS_put 28 = .ok (.istore 5, 2) := by decide +kernel
theorem d_CS_put_30 : decode b_CS_put 30 = .ok (.iload 5, 2) := by decide +kernel
theorem d_CS_put_32 : decode b_CS_put 32 = .ok (.ifCond .eq 10, 3) := by decide +kernel
theorem d_CS_put_35 : decode b_CS_put 35 = .ok (.aload_n 0, 1) := by decide +kernel
theorem d_CS_put_36 : decode b_CS_put 36 = .ok (.iload 5, 2) := by decide +kernel
theorem d_CS_put_38 : decode b_CS_put 38 = .ok (.invokevirtual 140, 3) := by decide +kernel
theorem d_CS_put_41 : decode b_CS_put 41 = .ok (.ireturn, 1) := by decide +kernel
theorem d_CS_put_42 : decode b_CS_put 42 = .ok (.aload_n 0, 1) := by decide +kernel
theorem d_CS_put_43 : decode b_CS_put 43 = .ok (.getfield 74, 3) := by decide +kernel
theorem d_CS_put_46 : decode b_CS_put 46 = .ok (.iload_n 1, 1) := by decide +kernel
theorem d_CS_put_47 : decode b_CS_put 47 = .ok (.aaload, 1) := by decide +kernel
theorem d_CS_put_48 : decode b_CS_put 48 = .ok (.getfield 144, 3) := by decide +kernel
theorem d_CS_put_51 : decode b_CS_put 51 = .ok (.iload_n 3, 1) := by decide +kernel
theorem d_CS_put_52 : decode b_CS_put 52 = .ok (.iload_n 2, 1) := by decide +kernel
theorem d_CS_put_53 : decode b_CS_put 53 = .ok (.iload 4, 2) := by decide +kernel
theorem d_CS_put_55 : decode b_CS_put 55 = .ok (.invokestatic 245, 3) := by decide +kernel
theorem d_CS_put_58 : decode b_CS_put 58 = .ok (.iastore, 1) := by decide +kernel
theorem d_CS_put_59 : decode b_CS_put 59 = .ok (.iconst 1, 1) := by decide +kernel
theorem d_CS_put_60 : decode b_CS_put 60 = .ok (.ireturn, 1) := by decide +kernel
theorem d_CS_get_0 : decode b_CS_get 0 = .ok (.iload_n 1, 1) := by decide +kernel
theorem d_CS_get_1 : decode b_CS_get 1 = .ok (.invokestatic 133, 3) := by decide +kernel
theorem d_CS_get_4 : decode b_CS_get 4 = .ok (.ifCond .eq 10, 3) := by decide +kernel
theorem d_CS_get_7 : decode b_CS_get 7 = .ok (.iload_n 2, 1) := by decide +kernel
theorem d_CS_get_8 : decode b_CS_get 8 = .ok (.invokestatic 236, 3) := by decide +kernel
theorem d_CS_get_11 : decode b_CS_get 11 = .ok (.ifCond .ne 6, 3) := by decide +kernel
theorem d_CS_get_14 : decode b_CS_get 14 = .ok (.ldc 248, 2) := by decide +kernel
theorem d_CS_get_16 : decode b_CS_get 16 = .ok (.ireturn, 1) := by decide +kernel
theorem d_CS_get_17 : decode b_CS_get 17 = .ok (.aload_n 0, 1) := by decide +kernel
theorem d_CS_get_18 : decode b_CS_get 18 = .ok (.getfield 74, 3) := by decide +kernel
theorem d_CS_get_21 : decode b_CS_get 21 = .ok (.iload_n 1, 1) := by decide +kernel
theorem d_CS_get_22 : decode b_CS_get 22 = .ok (.aaload, 1) := by decide +kernel
theorem d_CS_get_23 : decode b_CS_get 23 = .ok (.iload_n 2, 1) := by decide +kernel
theorem d_CS_get_24 : decode b_CS_get 24 = .ok (.iload_n 3, 1) := by decide +kernel
theorem d_CS_get_25 : decode b_CS_get 25 = .ok (.invokevirtual 242, 3) := by decide +kernel
theorem d_CS_get_28 : decode b_CS_get 28 = .ok (.istore 4, 2) := by decide +kernel
theorem d_CS_get_30 : decode b_CS_get 30 = .ok (.iload 4, 2) := by decide +kernel
theorem d_CS_get_32 : decode b_CS_get 32 = .ok (.ifCond .eq 12, 3) := by decide +kernel
theorem d_CS_get_35 : decode b_CS_get 35 = .ok (.aload_n 0, 1) := by decide +kernel
theorem d_CS_get_36 : decode b_CS_get 36 = .ok (.iload 4, 2) := by decide +kernel
theorem d_CS_get_38 : decode b_CS_get 38 = .ok (.putfield 249, 3) := by decide +kernel
theorem d_CS_get_41 : decode b_CS_get 41 = .ok (.ldc 248, 2) := by decide +kernel
theorem d_CS_get_43 : decode b_CS_get 43 = .ok (.ireturn, 1) := by decide +kernel
theorem d_CS_get_44 : decode b_CS_get 44 = .ok (.aload_n 0, 1) := by decide +kernel
theorem d_CS_get_45 : decode b_CS_get 45 = .ok (.getfield 74, 3) := by decide +kernel
theorem d_CS_get_48 : decode b_CS_get 48 = .ok (.iload_n 1, 1) := by decide +kernel
theorem d_CS_get_49 : decode b_CS_get 49 = .ok (.aaload, 1) := by decide +kernel
theorem d_CS_get_50 : decode b_CS_get 50 = .ok (.getfield 144, 3) := by decide +kernel
theorem d_CS_get_53 : decode b_CS_get 53 = .ok (.iload_n 3, 1) := by decide +kernel
theorem d_CS_get_54 : decode b_CS_get 54 = .ok (.iaload, 1) := by decide +kernel
theorem d_CS_get_55 : decode b_CS_get 55 = .ok (.ireturn, 1) := by decide +kernel
theorem d_CS_copy_0 : decode b_CS_copy 0 = .ok (.iload_n 1, 1) := by decide +kernel
theorem d_CS_copy_1 : decode b_CS_copy 1 = .ok (.invokestatic 133, 3) := by decide +kernel
theorem d_CS_copy_4 : decode b_CS_copy 4 = .ok (.ifCond .eq 10, 3) := by decide +kernel
theorem d_CS_copy_7 : decode b_CS_copy 7 = .ok (.iload_n 3, 1) := by decide +kernel
theorem d_CS_copy_8 : decode b_CS_copy 8 = .ok (.invokestatic 133, 3) := by decide +kernel
theorem d_CS_copy_11 : decode b_CS_copy 11 = .ok (.ifCond .ne 6, 3) := by decide +kernel
theorem d_CS_copy_14 : decode b_CS_copy 14 = .ok (.bipush (-2), 2) := by decide +kernel
theorem d_CS_copy_16 : decode b_CS_copy 16 = .ok (.ireturn, 1) := by decide +kernel
theorem d_CS_copy_17 : decode b_CS_copy 17 = .ok (.aload_n 0, 1) := by decide +kernel
theorem d_CS_copy_18 : decode b_CS_copy 18 = .ok (.getfield 74, 3) := by decide +kernel
theorem d_CS_copy_21 : decode b_CS_copy 21 = .ok (.iload_n 1, 1) := by decide +kernel
theorem d_CS_copy_22 : decode b_CS_copy 22 = .ok (.aaload, 1) := by decide +kernel
theorem d_CS_copy_23 : decode b_CS_copy 23 = .ok (.astore 6, 2) := by decide +kernel
theorem d_CS_copy_25 : decode b_CS_copy 25 = .ok (.aload_n 0, 1) := by decide +kernel
theorem d_CS_copy_26 : decode b_CS_copy 26 = .ok (.getfield 74, 3) := by decide +kernel
theorem d_CS_copy_29 : decode b_CS_copy 29 = .ok (.iload_n 3, 1) := by decide +kernel
theorem d_CS_copy_30 : decode b_CS_copy 30 = .ok (.aaload, 1) := by decide +kernel
theorem d_CS_copy_31 : decode b_CS_copy 31 = .ok (.astore 7, 2) := by decide +kernel
theorem d_CS_copy_33 : decode b_CS_copy 33 = .ok (.aload 6, 2) := by decide +kernel
theorem d_CS_copy_35 : decode b_CS_copy 35 = .ok (.invokevirtual 136, 3) := by decide +kernel
theorem d_CS_copy_38 : decode b_CS_copy 38 = .ok (.ifCond .ne 11, 3) := by decide +kernel
theorem d_CS_copy_41 : decode b_CS_copy 41 = .ok (.aload 7, 2) := by decide +kernel
theorem d_CS_copy_43 : decode b_CS_copy 43 = .ok (.invokevirtual 136, 3) := by decide +kernel
theorem d_CS_copy_46 : decode b_CS_copy 46 = .ok (.ifCond .eq 9, 3) := by decide +kernel
theorem d_CS_copy_49 : decode b_CS_copy 49 = .ok (.aload_n 0, 1) := by decide +kernel
theorem d_CS_copy_50 : decode b_CS_copy 50 = .ok (.iconst 1, 1) := by decide +kernel
theorem d_CS_copy_51 : decode b_CS_copy 51 = .ok (.invokevirtual 140, 3) := by decide +kernel
theorem d_CS_copy_54 : decode b_CS_copy 54 = .ok (.ireturn, 1) := by decide +kernel
theorem d_CS_copy_55 : decode b_CS_copy 55 = .ok (.aload 6, 2) := by decide +kernel
theorem d_CS_copy_57 : decode b_CS_copy 57 = .ok (.getfield 252, 3) := by decide +kernel
theorem d_CS_copy_60 : decode b_CS_copy 60 = .ok (.aload 7, 2) := by decide +kernel
theorem d_CS_copy_62 : decode b_CS_copy 62 = .ok (.getfield 252, 3) := by decide +kernel
theorem d_CS_copy_65 : decode b_CS_copy 65 = .ok (.if_icmp .eq 9, 3) := by decide +kernel
theorem d_CS_copy_68 : decode b_CS_copy 68 = .ok (.aload_n 0, 1) := by decide +kernel
theorem d_CS_copy_69 : decode b_CS_copy 69 = .ok (.iconst 4, 1) := by decide +kernel
theorem d_CS_copy_70 : decode b_CS_copy 70 = .ok (.invokevirtual 140, 3) := by decide +kernel
theorem d_CS_copy_73 : decode b_CS_copy 73 = .ok (.ireturn, 1) := by decide +kernel
theorem d_CS_copy_74 : decode b_CS_copy 74 = .ok (.aload 6, 2) := by decide +kernel
theorem d_CS_copy_76 : decode b_CS_copy 76 = .ok (.iload_n 2, 1) := by decide +kernel
theorem d_CS_copy_77 : decode b_CS_copy 77 = .ok (.iload 5, 2) := by decide +kernel
theorem d_CS_copy_79 : decode b_CS_copy 79 = .ok (.invokevirtual 255, 3) := by decide +kernel
theorem d_CS_copy_82 : decode b_CS_copy 82 = .ok (.ifCond .eq 15, 3) := by decide +kernel
theorem d_CS_copy_85 : decode b_CS_copy 85 = .ok (.aload 7, 2) := by decide +kernel
theorem d_CS_copy_87 : decode b_CS_copy 87 = .ok (.iload 4, 2) := by decide +kernel
theorem d_CS_copy_89 : decode b_CS_copy 89 = .ok (.iload 5, 2) := by decide +kernel
theorem d_CS_copy_91 : decode b_CS_copy 91 = .ok (.invokevirtual 255, 3) := by decide +kernel
theorem d_CS_copy_94 : decode b_CS_copy 94 = .ok (.ifCond .ne 9, 3) := by decide +kernel
theorem d_CS_copy_97 : decode b_CS_copy 97 = .ok (.aload_n 0, 1) := by decide +kernel
theorem d_CS_copy_98 : decode b_CS_copy 98 = .ok (.iconst 2, 1) := by decide +kernel
theorem d_CS_copy_99 : decode b_CS_copy 99 = .ok (.invokevirtual 140, 3) := by decide +kernel
theorem d_CS_copy_102 : decode b_CS_copy 102 = .ok (.ireturn, 1) := by decide +kernel
theorem d_CS_copy_103 : decode b_CS_copy 103 = .ok (.aload 6, 2) := by decide +kernel
theorem d_CS_copy_105 : decode b_CS_copy 105 = .ok (.getfield 144, 3) := by decide +kernel
theorem d_CS_copy_108 : decode b_CS_copy 108 = .ok (.iload_n 2, 1) := by decide +kernel
theorem d_CS_copy_109 : decode b_CS_copy 109 = .ok (.aload 7, 2) := by decide +kernel
theorem d_CS_copy_111 : decode b_CS_copy 111 = .ok (.getfield 144, 3) := by decide +kernel
theorem d_CS_copy_114 : decode b_CS_copy 114 = .ok (.iload 4, 2) := by decide +kernel
theorem d_CS_copy_116 : decode b_CS_copy 116 = .ok (.iload 5, 2) := by decide +kernel
theorem d_CS_copy_118 : decode b_CS_copy 118 = .ok (.invokestatic 258, 3) := by decide +kernel
theorem d_CS_copy_121 : decode b_CS_copy 121 = .ok (.iconst 1, 1) := by decide +kernel
theorem d_CS_copy_122 : decode b_CS_copy 122 = .ok (.ireturn, 1) := by decide +kernel
end
section
/-! decode rows (printed) -/
theorem d_Ma_min_0 : decode b_Ma_min 0 = .ok (.iload_n 0, 1) := by decide +kernel
theorem d_Ma_min_1 : decode b_Ma_min 1 = .ok (.iload_n 1, 1) := by decide +kernel
theorem d_Ma_min_2 : decode b_Ma_min 2 = .ok (.if_icmp .gt 7, 3) := by decide +kernel
theorem d_Ma_min_5 : decode b_Ma_min 5 = .ok (.iload_n 0, 1) := by decide +kernel
theorem d_Ma_min_6 : decode b_Ma_min 6 = .ok (.goto 4, 3) := by decide +kernel
theorem d_Ma_min_9 : decode b_Ma_min 9 = .ok (.iload_n 1, 1) := by decide +kernel
theorem d_Ma_min_10 : decode b_Ma_min 10 = .ok (.ireturn, 1) := by decide +kernel
theorem d_CS_write_0 : decode b_CS_write 0 = .ok (.aload_n 0, 1) := by decide +kernel
theorem d_CS_write_1 : decode b_CS_write 1 = .ok (.iload_n 1, 1) := by decide +kernel
theorem d_CS_write_2 : decode b_CS_write 2 = .ok (.invokevirtual 96, 3) := by decide +kernel
theorem d_CS_write_5 : decode b_CS_write 5 = .ok (.ifCond .eq 10, 3) := by decide +kernel
theorem d_CS_write_8 : decode b_CS_write 8 = .ok (.iload_n 2, 1) := by decide +kernel
theorem d_CS_write_9 : decode b_CS_write 9 = .ok (.invokestatic 133, 3) := by decide +kernel
theorem d_CS_write_12 : decode b_CS_write 12 = .ok (.ifCond .ne 6, 3) := by decide +kernel
theorem d_CS_write_15 : decode b_CS_write 15 = .ok (.bipush (-2), 2) := by decide +kernel
theorem d_CS_write_17 : decode b_CS_write 17 = .ok (.ireturn, 1) := by decide +kernel
theorem d_CS_write_18 : decode b_CS_write 18 = .ok (.aload_n 0, 1) := by decide +kernel
theorem d_CS_write_19 : decode b_CS_write 19 = .ok (.getfield 74, 3) := by decide +kernel
theorem d_CS_write_22 : decode b_CS_write 22 = .ok (.iload_n 2, 1) := by decide +kernel
theorem d_CS_write_23 : decode b_CS_write 23 = .ok (.aaload, 1) := by decide +kernel
theorem d_CS_write_24 : decode b_CS_write 24 = .ok (.astore_n 3, 1) := by decide +kernel
theorem d_CS_write_25 : decode b_CS_write 25 = .ok (.aload_n 3, 1) := by decide +kernel
theorem d_CS_write_26 : decode b_CS_write 26 = .ok (.invokevirtual 136, 3) := by decide +kernel
theorem d_CS_write_29 : decode b_CS_write 29 = .ok (.ifCond .eq 9, 3) := by decide +kernel
theorem d_CS_write_32 : decode b_CS_write 32 = .ok (.aload_n 0, 1) := by decide +kernel
theorem d_CS_write_33 : decode b_CS_write 33 = .ok (.iconst 1, 1) := by decide +kernel
theorem d_CS_write_34 : decode b_CS_write 34 = .ok (.invokevirtual 140, 3) := by decide +kernel
theorem d_CS_write_37 : decode b_CS_write 37 = .ok (.ireturn, 1) := by decide +kernel
theorem d_CS_write_38 : decode b_CS_write 38 = .ok (.aload_n 3, 1) := by decide +kernel
theorem d_CS_write_39 : decode b_CS_write 39 = .ok (.getfield 143, 3) := by decide +kernel
theorem d_CS_write_42 : decode b_CS_write 42 = .ok (.bipush 24, 2) := by decide +kernel
theorem d_CS_write_44 : decode b_CS_write 44 = .ok (.invokestatic 264, 3) := by decide +kernel
theorem d_CS_write_47 : decode b_CS_write 47 = .ok (.istore 4, 2) := by decide +kernel
theorem d_CS_write_49 : decode b_CS_write 49 = .ok (.aload_n 0, 1) := by decide +kernel
theorem d_CS_write_50 : decode b_CS_write 50 = .ok (.getfield 44, 3) := by decide +kernel
theorem d_CS_write_53 : decode b_CS_write 53 = .ok (.iload_n 1, 1) := by decide +kernel
theorem d_CS_write_54 : decode b_CS_write 54 = .ok (.invokevirtual 151, 3) := by decide +kernel
theorem d_CS_write_57 : decode b_CS_write 57 = .ok (.astore 5, 2) := by decide +kernel
theorem d_CS_write_59 : decode b_CS_write 59 = .ok (.iconst 0, 1) := by decide +kernel
theorem d_CS_write_60 : decode b_CS_write 60 = .ok (.istore 6, 2) := by decide +kernel
theorem d_CS_write_62 : decode b_CS_write 62 = .ok (.iload 6, 2) := by decide +kernel
theorem d_CS_write_64 : decode b_CS_write 64 = .ok (.iload 4, 2) := by decide +kernel
theorem d_CS_write_66 : decode b_CS_write 66 = .ok (.if_icmp .ge 31, 3) := by decide +kernel
theorem d_CS_write_69 : decode b_CS_write 69 = .ok (.aload_n 3, 1) := by decide +kernel
theorem d_CS_write_70 : decode b_CS_write 70 = .ok (.getfield 144, 3) := by decide +kernel
theorem d_CS_write_73 : decode b_CS_write 73 = .ok (.iload 6, 2) := by decide +kernel
theorem d_CS_write_75 : decode b_CS_write 75 = .ok (.aload_n 3, 1) := by decide +kernel
theorem d_CS_write_76 : decode b_CS_write 76 = .ok (.getfield 252, 3) := by decide +kernel
theorem d_CS_write_79 : decode b_CS_write 79 = .ok (.aload 5, 2) := by decide +kernel
theorem d_CS_write_81 : decode b_CS_write 81 = .ok (.iload 6, 2) := by decide +kernel
theorem d_CS_write_83 : decode b_CS_write 83 = .ok (.iconst 1, 1) := by decide +kernel
theorem d_CS_write_84 : decode b_CS_write 84 = .ok (.invokevirtual 155, 3) := by decide +kernel
theorem d_CS_write_87 : decode b_CS_write 87 = .ok (.invokestatic 245, 3) := by decide +kernel
theorem d_CS_write_90 : decode b_CS_write 90 = .ok (.iastore, 1) := by decide +kernel
theorem d_CS_write_91 : decode b_CS_write 91 = .ok (.iinc 6 1, 3) := by decide +kernel
theorem d_CS_write_94 : decode b_CS_write 94 = .ok (.goto (-32), 3) := by decide +kernel
theorem d_CS_write_97 : decode b_CS_write 97 = .ok (.iload 4, 2) := by decide +kernel
theorem d_CS_write_99 : decode b_CS_write 99 = .ok (.ireturn, 1) := by decide +kernel
theorem d_CS_count_0 : decode b_CS_count 0 = .ok (.iload_n 1, 1) := by decide +kernel
theorem d_CS_count_1 : decode b_CS_count 1 = .ok (.tableswitch 122 0 8 #[51, 59, 67, 75, 83, 91, 100, 109, 117], 51) := by decide +kernel
theorem d_CS_count_52 : decode b_CS_count 52 = .ok (.aload_n 0, 1) := by decide +kernel
theorem d_CS_count_53 : decode b_CS_count 53 = .ok (.getfield 10, 3) := by decide +kernel
theorem d_CS_count_56 : decode b_CS_count 56 = .ok (.getfield 229, 3) := by decide +kernel
theorem d_CS_count_59 : decode b_CS_count 59 = .ok (.ireturn, 1) := by decide +kernel
theorem d_CS_count_60 : decode b_CS_count 60 = .ok (.aload_n 0, 1) := by decide +kernel
theorem d_CS_count_61 : decode b_CS_count 61 = .ok (.getfield 19, 3) := by decide +kernel
theorem d_CS_count_64 : decode b_CS_count 64 = .ok (.getfield 269, 3) := by decide +kernel
theorem d_CS_count_67 : decode b_CS_count 67 = .ok (.ireturn, 1) := by decide +kernel
theorem d_CS_count_68 : decode b_CS_count 68 = .ok (.aload_n 0, 1) := by decide +kernel
theorem d_CS_count_69 : decode b_CS_count 69 = .ok (.getfield 10, 3) := by decide +kernel
theorem d_CS_count_72 : decode b_CS_count 72 = .ok (.getfield 270, 3) := by decide +kernel
theorem d_CS_count_75 : decode b_CS_count 75 = .ok (.ireturn, 1) := by decide +kernel
theorem d_CS_count_76 : decode b_CS_count 76 = .ok (.aload_n 0, 1) := by decide +kernel
theorem d_CS_count_77 : decode b_CS_count 77 = .ok (.getfield 19, 3) := by decide +kernel
theorem d_CS_count_80 : decode b_CS_count 80 = .ok (.getfield 271, 3) := by decide +kernel
theorem d_CS_count_83 : decode b_CS_count 83 = .ok (.ireturn, 1) := by decide +kernel
theorem d_CS_count_84 : decode b_CS_count 84 = .ok (.aload_n 0, 1) := by decide +kernel
theorem d_CS_count_85 : decode b_CS_count 85 = .ok (.getfield 32, 3) := by decide +kernel
theorem d_CS_count_88 : decode b_CS_count 88 = .ok (.getfield 130, 3) := by decide +kernel
theorem d_CS_count_91 : decode b_CS_count 91 = .ok (.ireturn, 1) := by decide +kernel
theorem d_CS_count_92 : decode b_CS_count 92 = .ok (.aload_n 0, 1) := by decide +kernel
theorem d_CS_count_93 : decode b_CS_count 93 = .ok (.getfield 44, 3) := by decide +kernel
theorem d_CS_count_96 : decode b_CS_count 96 = .ok (.iconst 3, 1) := by decide +kernel
theorem d_CS_count_97 : decode b_CS_count 97 = .ok (.invokevirtual 160, 3) := by decide +kernel
theorem d_CS_count_100 : decode b_CS_count 100 = .ok (.ireturn, 1) := by decide +kernel
theorem d_CS_count_101 : decode b_CS_count 101 = .ok (.aload_n 0, 1) := by decide +kernel
theorem d_CS_count_102 : decode b_CS_count 102 = .ok (.getfield 44, 3) := by decide +kernel
theorem d_CS_count_105 : decode b_CS_count 105 = .ok (.iconst 5, 1) := by decide +kernel
theorem d_CS_count_106 : decode b_CS_count 106 = .ok (.invokevirtual 160, 3) := by decide +kernel
theorem d_CS_count_109 : decode b_CS_count 109 = .ok (.ireturn, 1) := by decide +kernel
theorem d_CS_count_110 : decode b_CS_count 110 = .ok (.aload_n 0, 1) := by decide +kernel
theorem d_CS_count_111 : decode b_CS_count 111 = .ok (.getfield 60, 3) := by decide +kernel
theorem d_CS_count_114 : decode b_CS_count 114 = .ok (.getfield 205, 3) := by decide +kernel
theorem d_CS_count_117 : decode b_CS_count 117 = .ok (.ireturn, 1) := by decide +kernel
theorem d_CS_count_118 : decode b_CS_count 118 = .ok (.aload_n 0, 1) := by decide +kernel
theorem d_CS_count_119 : decode b_CS_count 119 = .ok (.getfield 249, 3) := by decide +kernel
theorem d_CS_count_122 : decode b_CS_count 122 = .ok (.ireturn, 1) := by decide +kernel
theorem d_CS_count_123 : decode b_CS_count 123 = .ok (.bipush (-2), 2) := by decide +kernel
theorem d_CS_count_125 : decode b_CS_count 125 = .ok (.ireturn, 1) := by decide +kernel
theorem d_CS_mix_0 : decode b_CS_mix 0 = .ok (.ldc2_w 351, 3) := by decide +kernel
theorem d_CS_mix_3 : decode b_CS_mix 3 = .ok (.lload_n 0, 1) := by decide +kernel
theorem d_CS_mix_4 : decode b_CS_mix 4 = .ok (.lmul, 1) := by decide +kernel
theorem d_CS_mix_5 : decode b_CS_mix 5 = .ok (.lload_n 2, 1) := by decide +kernel
theorem d_CS_mix_6 : decode b_CS_mix 6 = .ok (.ladd, 1) := by decide +kernel
theorem d_CS_mix_7 : decode b_CS_mix 7 = .ok (.lreturn, 1) := by decide +kernel
theorem d_CS_mixBale_0 : decode b_CS_mixBale 0 = .ok (.lload_n 1, 1) := by decide +kernel
theorem d_CS_mixBale_1 : decode b_CS_mixBale 1 = .ok (.lstore 4, 2) := by decide +kernel
theorem d_CS_mixBale_3 : decode b_CS_mixBale 3 = .ok (.iconst 0, 1) := by decide +kernel
theorem d_CS_mixBale_4 : decode b_CS_mixBale 4 = .ok (.istore 6, 2) := by decide +kernel
theorem d_CS_mixBale_6 : decode b_CS_mixBale 6 = .ok (.iload 6, 2) := by decide +kernel
theorem d_CS_mixBale_8 : decode b_CS_mixBale 8 = .ok (.iconst 3, 1) := by decide +kernel
theorem d_CS_mixBale_9 : decode b_CS_mixBale 9 = .ok (.if_icmp .ge 24, 3) := by decide +kernel
theorem d_CS_mixBale_12 : decode b_CS_mixBale 12 = .ok (.lload 4, 2) := by decide +kernel
theorem d_CS_mixBale_14 : decode b_CS_mixBale 14 = .ok (.aload_n 0, 1) := by decide +kernel
theorem d_CS_mixBale_15 : decode b_CS_mixBale 15 = .ok (.iload_n 3, 1) := by decide +kernel
theorem d_CS_mixBale_16 : decode b_CS_mixBale 16 = .ok (.iload 6, 2) := by decide +kernel
theorem d_CS_mixBale_18 : decode b_CS_mixBale 18 = .ok (.invokevirtual 319, 3) := by decide +kernel
theorem d_CS_mixBale_21 : decode b_CS_mixBale 21 = .ok (.i2l, 1) := by decide +kernel
theorem d_CS_mixBale_22 : decode b_CS_mixBale 22 = .ok (.invokestatic 277, 3) := by decide +kernel
theorem d_CS_mixBale_25 : decode b_CS_mixBale 25 = .ok (.lstore 4, 2) := by decide +kernel
theorem d_CS_mixBale_27 : decode b_CS_mixBale 27 = .ok (.iinc 6 1, 3) := by decide +kernel
theorem d_CS_mixBale_30 : decode b_CS_mixBale 30 = .ok (.goto (-24), 3) := by decide +kernel
theorem d_CS_mixBale_33 : decode b_CS_mixBale 33 = .ok (.lload 4, 2) := by decide +kernel
theorem d_CS_mixBale_35 : decode b_CS_mixBale 35 = .ok (.aload_n 0, 1) := by decide +kernel
theorem d_CS_mixBale_36 : decode b_CS_mixBale 36 = .ok (.iload_n 3, 1) := by decide +kernel
theorem d_CS_mixBale_37 : decode b_CS_mixBale 37 = .ok (.iconst 0, 1) := by decide +kernel
theorem d_CS_mixBale_38 : decode b_CS_mixBale 38 = .ok (.invokevirtual 322, 3) := by decide +kernel
theorem d_CS_mixBale_41 : decode b_CS_mixBale 41 = .ok (.i2l, 1) := by decide +kernel
theorem d_CS_mixBale_42 : decode b_CS_mixBale 42 = .ok (.invokestatic 277, 3) := by decide +kernel
theorem d_CS_mixBale_45 : decode b_CS_mixBale 45 = .ok (.aload_n 0, 1) := by decide +kernel
theorem d_CS_mixBale_46 : decode b_CS_mixBale 46 = .ok (.iload_n 3, 1) := by decide +kernel
theorem d_CS_mixBale_47 : decode b_CS_mixBale 47 = .ok (.iconst 1, 1) := by decide +kernel
theorem d_CS_mixBale_48 : decode b_CS_mixBale 48 = .ok (.invokevirtual 322, 3) := by decide +kernel
theorem d_CS_mixBale_51 : decode b_CS_mixBale 51 = .ok (.i2l, 1) := by decide +kernel
theorem d_CS_mixBale_52 : decode b_CS_mixBale 52 = .ok (.invokestatic 277, 3) := by decide +kernel
theorem d_CS_mixBale_55 : decode b_CS_mixBale 55 = .ok (.lstore 4, 2) := by decide +kernel
theorem d_CS_mixBale_57 : decode b_CS_mixBale 57 = .ok (.lload 4, 2) := by decide +kernel
theorem d_CS_mixBale_59 : decode b_CS_mixBale 59 = .ok (.aload_n 0, 1) := by decide +kernel
theorem d_CS_mixBale_60 : decode b_CS_mixBale 60 = .ok (.iload_n 3, 1) := by decide +kernel
theorem d_CS_mixBale_61 : decode b_CS_mixBale 61 = .ok (.iconst 0, 1) := by decide +kernel
theorem d_CS_mixBale_62 : decode b_CS_mixBale 62 = .ok (.invokevirtual 325, 3) := by decide +kernel
theorem d_CS_mixBale_65 : decode b_CS_mixBale 65 = .ok (.i2l, 1) := by decide +kernel
theorem d_CS_mixBale_66 : decode b_CS_mixBale 66 = .ok (.invokestatic 277, 3) := by decide +kernel
theorem d_CS_mixBale_69 : decode b_CS_mixBale 69 = .ok (.aload_n 0, 1) := by decide +kernel
theorem d_CS_mixBale_70 : decode b_CS_mixBale 70 = .ok (.iload_n 3, 1) := by decide +kernel
theorem d_CS_mixBale_71 : decode b_CS_mixBale 71 = .ok (.iconst 1, 1) := by decide +kernel
theorem d_CS_mixBale_72 : decode b_CS_mixBale 72 = .ok (.invokevirtual 325, 3) := by decide +kernel
theorem d_CS_mixBale_75 : decode b_CS_mixBale 75 = .ok (.i2l, 1) := by decide +kernel
theorem d_CS_mixBale_76 : decode b_CS_mixBale 76 = .ok (.invokestatic 277, 3) := by decide +kernel
theorem d_CS_mixBale_79 : decode b_CS_mixBale 79 = .ok (.lreturn, 1) := by decide +kernel
theorem d_CS_mixDay_0 : decode b_CS_mixDay 0 = .ok (.lload_n 1, 1) := by decide +kernel
theorem d_CS_mixDay_1 : decode b_CS_mixDay 1 = .ok (.lstore 5, 2) := by decide +kernel
theorem d_CS_mixDay_3 : decode b_CS_mixDay 3 = .ok (.iconst 0, 1) := by decide +kernel
theorem d_CS_mixDay_4 : decode b_CS_mixDay 4 = .ok (.istore 7, 2) := by decide +kernel
theorem d_CS_mixDay_6 : decode b_CS_mixDay 6 = .ok (.iload 7, 2) := by decide +kernel
theorem d_CS_mixDay_8 : decode b_CS_mixDay 8 = .ok (.bipush 6, 2) := by decide +kernel
theorem d_CS_mixDay_10 : decode b_CS_mixDay 10 = .ok (.if_icmp .ge 26, 3) := by decide +kernel
theorem d_CS_mixDay_13 : decode b_CS_mixDay 13 = .ok (.lload 5, 2) := by decide +kernel
theorem d_CS_mixDay_15 : decode b_CS_mixDay 15 = .ok (.aload_n 0, 1) := by decide +kernel
theorem d_CS_mixDay_16 : decode b_CS_mixDay 16 = .ok (.iload_n 3, 1) := by decide +kernel
theorem d_CS_mixDay_17 : decode b_CS_mixDay 17 = .ok (.iload 4, 2) := by decide +kernel
theorem d_CS_mixDay_19 : decode b_CS_mixDay 19 = .ok (.iload 7, 2) := by decide +kernel
theorem d_CS_mixDay_21 : decode b_CS_mixDay 21 = .ok (.invokevirtual 348, 3) := by decide +kernel
theorem d_CS_mixDay_24 : decode b_CS_mixDay 24 = .ok (.i2l, 1) := by decide +kernel
theorem d_CS_mixDay_25 : decode b_CS_mixDay 25 = .ok (.invokestatic 277, 3) := by decide +kernel
theorem d_CS_mixDay_28 : decode b_CS_mixDay 28 = .ok (.lstore 5, 2) := by decide +kernel
theorem d_CS_mixDay_30 : decode b_CS_mixDay 30 = .ok (.iinc 7 1, 3) := by decide +kernel
theorem d_CS_mixDay_33 : decode b_CS_mixDay 33 = .ok (.goto (-27), 3) := by decide +kernel
theorem d_CS_mixDay_36 : decode b_CS_mixDay 36 = .ok (.lload 5, 2) := by decide +kernel
theorem d_CS_mixDay_38 : decode b_CS_mixDay 38 = .ok (.lreturn, 1) := by decide +kernel
theorem d_CS_mixCamel_0 : decode b_CS_mixCamel 0 = .ok (.lload_n 1, 1) := by decide +kernel
theorem d_CS_mixCamel_1 : decode b_CS_mixCamel 1 = .ok (.aload_n 0, 1) := by decide +kernel
theorem d_CS_mixCamel_2 : decode b_CS_mixCamel 2 = .ok (.iload_n 3, 1) := by decide +kernel
theorem d_CS_mixCamel_3 : decode b_CS_mixCamel 3 = .ok (.iconst 0, 1) := by decide +kernel
theorem d_CS_mixCamel_4 : decode b_CS_mixCamel 4 = .ok (.invokevirtual 328, 3) := by decide +kernel
theorem d_CS_mixCamel_7 : decode b_CS_mixCamel 7 = .ok (.i2l, 1) := by decide +kernel
theorem d_CS_mixCamel_8 : decode b_CS_mixCamel 8 = .ok (.invokestatic 277, 3) := by decide +kernel
theorem d_CS_mixCamel_11 : decode b_CS_mixCamel 11 = .ok (.aload_n 0, 1) := by decide +kernel
theorem d_CS_mixCamel_12 : decode b_CS_mixCamel 12 = .ok (.iload_n 3, 1) := by decide +kernel
theorem d_CS_mixCamel_13 : decode b_CS_mixCamel 13 = .ok (.iconst 1, 1) := by decide +kernel
theorem d_CS_mixCamel_14 : decode b_CS_mixCamel 14 = .ok (.invokevirtual 328, 3) := by decide +kernel
theorem d_CS_mixCamel_17 : decode b_CS_mixCamel 17 = .ok (.i2l, 1) := by decide +kernel
theorem d_CS_mixCamel_18 : decode b_CS_mixCamel 18 = .ok (.invokestatic 277, 3) := by decide +kernel
theorem d_CS_mixCamel_21 : decode b_CS_mixCamel 21 = .ok (.lstore 4, 2) := by decide +kernel
theorem d_CS_mixCamel_23 : decode b_CS_mixCamel 23 = .ok (.aload_n 0, 1) := by decide +kernel
theorem d_CS_mixCamel_24 : decode b_CS_mixCamel 24 = .ok (.lload 4, 2) := by decide +kernel
theorem d_CS_mixCamel_26 : decode b_CS_mixCamel 26 = .ok (.iconst 0, 1) := by decide +kernel
theorem d_CS_mixCamel_27 : decode b_CS_mixCamel 27 = .ok (.iload_n 3, 1) := by decide +kernel
theorem d_CS_mixCamel_28 : decode b_CS_mixCamel 28 = .ok (.invokevirtual 331, 3) := by decide +kernel
theorem d_CS_mixCamel_31 : decode b_CS_mixCamel 31 = .ok (.lstore 4, 2) := by decide +kernel
theorem d_CS_mixCamel_33 : decode b_CS_mixCamel 33 = .ok (.aload_n 0, 1) := by decide +kernel
theorem d_CS_mixCamel_34 : decode b_CS_mixCamel 34 = .ok (.lload 4, 2) := by decide +kernel
theorem d_CS_mixCamel_36 : decode b_CS_mixCamel 36 = .ok (.bipush 7, 2) := by decide +kernel
theorem d_CS_mixCamel_38 : decode b_CS_mixCamel 38 = .ok (.iload_n 3, 1) := by decide +kernel
theorem d_CS_mixCamel_39 : decode b_CS_mixCamel 39 = .ok (.invokevirtual 331, 3) := by decide +kernel
theorem d_CS_mixCamel_42 : decode b_CS_mixCamel 42 = .ok (.lstore 4, 2) := by decide +kernel
theorem d_CS_mixCamel_44 : decode b_CS_mixCamel 44 = .ok (.aload_n 0, 1) := by decide +kernel
theorem d_CS_mixCamel_45 : decode b_CS_mixCamel 45 = .ok (.lload 4, 2) := by decide +kernel
theorem d_CS_mixCamel_47 : decode b_CS_mixCamel 47 = .ok (.bipush 14, 2) := by decide +kernel
theorem d_CS_mixCamel_49 : decode b_CS_mixCamel 49 = .ok (.iload_n 3, 1) := by decide +kernel
theorem d_CS_mixCamel_50 : decode b_CS_mixCamel 50 = .ok (.invokevirtual 331, 3) := by decide +kernel
theorem d_CS_mixCamel_53 : decode b_CS_mixCamel 53 = .ok (.lstore 4, 2) := by decide +kernel
theorem d_CS_mixCamel_55 : decode b_CS_mixCamel 55 = .ok (.aload_n 0, 1) := by decide +kernel
theorem d_CS_mixCamel_56 : decode b_CS_mixCamel 56 = .ok (.lload 4, 2) := by decide +kernel
theorem d_CS_mixCamel_58 : decode b_CS_mixCamel 58 = .ok (.bipush 23, 2) := by decide +kernel
theorem d_CS_mixCamel_60 : decode b_CS_mixCamel 60 = .ok (.iload_n 3, 1) := by decide +kernel
theorem d_CS_mixCamel_61 : decode b_CS_mixCamel 61 = .ok (.invokevirtual 331, 3) := by decide +kernel
theorem d_CS_mixCamel_64 : decode b_CS_mixCamel 64 = .ok (.lstore 4, 2) := by decide +kernel
theorem d_CS_mixCamel_66 : decode b_CS_mixCamel 66 = .ok (.lload 4, 2) := by decide +kernel
theorem d_CS_mixCamel_68 : decode b_CS_mixCamel 68 = .ok (.aload_n 0, 1) := by decide +kernel
theorem d_CS_mixCamel_69 : decode b_CS_mixCamel 69 = .ok (.iload_n 3, 1) := by decide +kernel
theorem d_CS_mixCamel_70 : decode b_CS_mixCamel 70 = .ok (.iconst 5, 1) := by decide +kernel
theorem d_CS_mixCamel_71 : decode b_CS_mixCamel 71 = .ok (.invokevirtual 335, 3) := by decide +kernel
theorem d_CS_mixCamel_74 : decode b_CS_mixCamel 74 = .ok (.i2l, 1) := by decide +kernel
theorem d_CS_mixCamel_75 : decode b_CS_mixCamel 75 = .ok (.invokestatic 277, 3) := by decide +kernel
theorem d_CS_mixCamel_78 : decode b_CS_mixCamel 78 = .ok (.lstore 4, 2) := by decide +kernel
theorem d_CS_mixCamel_80 : decode b_CS_mixCamel 80 = .ok (.lload 4, 2) := by decide +kernel
theorem d_CS_mixCamel_82 : decode b_CS_mixCamel 82 = .ok (.aload_n 0, 1) := by decide +kernel
theorem d_CS_mixCamel_83 : decode b_CS_mixCamel 83 = .ok (.iload_n 3, 1) := by decide +kernel
theorem d_CS_mixCamel_84 : decode b_CS_mixCamel 84 = .ok (.iconst 0, 1) := by decide +kernel
theorem d_CS_mixCamel_85 : decode b_CS_mixCamel 85 = .ok (.invokevirtual 338, 3) := by decide +kernel
theorem d_CS_mixCamel_88 : decode b_CS_mixCamel 88 = .ok (.i2l, 1) := by decide +kernel
theorem d_CS_mixCamel_89 : decode b_CS_mixCamel 89 = .ok (.invokestatic 277, 3) := by decide +kernel
theorem d_CS_mixCamel_92 : decode b_CS_mixCamel 92 = .ok (.aload_n 0, 1) := by decide +kernel
theorem d_CS_mixCamel_93 : decode b_CS_mixCamel 93 = .ok (.iload_n 3, 1) := by decide +kernel
theorem d_CS_mixCamel_94 : decode b_CS_mixCamel 94 = .ok (.iconst 1, 1) := by decide +kernel
theorem d_CS_mixCamel_95 : decode b_CS_mixCamel 95 = .ok (.invokevirtual 338, 3) := by decide +kernel
theorem d_CS_mixCamel_98 : decode b_CS_mixCamel 98 = .ok (.i2l, 1) := by decide +kernel
theorem d_CS_mixCamel_99 : decode b_CS_mixCamel 99 = .ok (.invokestatic 277, 3) := by decide +kernel
theorem d_CS_mixCamel_102 : decode b_CS_mixCamel 102 = .ok (.lstore 4, 2) := by decide +kernel
theorem d_CS_mixCamel_104 : decode b_CS_mixCamel 104 = .ok (.lload 4, 2) := by decide +kernel
theorem d_CS_mixCamel_106 : decode b_CS_mixCamel 106 = .ok (.aload_n 0, 1) := by decide +kernel
theorem d_CS_mixCamel_107 : decode b_CS_mixCamel 107 = .ok (.iload_n 3, 1) := by decide +kernel
theorem d_CS_mixCamel_108 : decode b_CS_mixCamel 108 = .ok (.invokevirtual 341, 3) := by decide +kernel
theorem d_CS_mixCamel_111 : decode b_CS_mixCamel 111 = .ok (.i2l, 1) := by decide +kernel
theorem d_CS_mixCamel_112 : decode b_CS_mixCamel 112 = .ok (.invokestatic 277, 3) := by decide +kernel
theorem d_CS_mixCamel_115 : decode b_CS_mixCamel 115 = .ok (.lstore 4, 2) := by decide +kernel
theorem d_CS_mixCamel_117 : decode b_CS_mixCamel 117 = .ok (.lload 4, 2) := by decide +kernel
theorem d_CS_mixCamel_119 : decode b_CS_mixCamel 119 = .ok (.aload_n 0, 1) := by decide +kernel
theorem d_CS_mixCamel_120 : decode b_CS_mixCamel 120 = .ok (.iconst 5, 1) := by decide +kernel
theorem d_CS_mixCamel_121 : decode b_CS_mixCamel 121 = .ok (.iload_n 3, 1) := by decide +kernel
theorem d_CS_mixCamel_122 : decode b_CS_mixCamel 122 = .ok (.iconst 0, 1) := by decide +kernel
theorem d_CS_mixCamel_123 : decode b_CS_mixCamel 123 = .ok (.invokevirtual 344, 3) := by decide +kernel
theorem d_CS_mixCamel_126 : decode b_CS_mixCamel 126 = .ok (.invokestatic 277, 3) := by decide +kernel
theorem d_CS_mixCamel_129 : decode b_CS_mixCamel 129 = .ok (.aload_n 0, 1) := by decide +kernel
theorem d_CS_mixCamel_130 : decode b_CS_mixCamel 130 = .ok (.iconst 5, 1) := by decide +kernel
theorem d_CS_mixCamel_131 : decode b_CS_mixCamel 131 = .ok (.iload_n 3, 1) := by decide +kernel
theorem d_CS_mixCamel_132 : decode b_CS_mixCamel 132 = .ok (.iconst 1, 1) := by decide +kernel
theorem d_CS_mixCamel_133 : decode b_CS_mixCamel 133 = .ok (.invokevirtual 344, 3) := by decide +kernel
theorem d_CS_mixCamel_136 : decode b_CS_mixCamel 136 = .ok (.invokestatic 277, 3) := by decide +kernel
theorem d_CS_mixCamel_139 : decode b_CS_mixCamel 139 = .ok (.lreturn, 1) := by decide +kernel
theorem d_CS_digest_0 : decode b_CS_digest 0 = .ok (.ldc2_w 272, 3) := by decide +kernel
theorem d_CS_digest_3 : decode b_CS_digest 3 = .ok (.lstore_n 1, 1) := by decide +kernel
theorem d_CS_digest_4 : decode b_CS_digest 4 = .ok (.iconst 0, 1) := by decide +kernel
theorem d_CS_digest_5 : decode b_CS_digest 5 = .ok (.istore_n 3, 1) := by decide +kernel
theorem d_CS_digest_6 : decode b_CS_digest 6 = .ok (.iload_n 3, 1) := by decide +kernel
theorem d_CS_digest_7 : decode b_CS_digest 7 = .ok (.bipush 8, 2) := by decide +kernel
theorem d_CS_digest_9 : decode b_CS_digest 9 = .ok (.if_icmp .ge 20, 3) := by decide +kernel
theorem d_CS_digest_12 : decode b_CS_digest 12 = .ok (.lload_n 1, 1) := by decide +kernel
theorem d_CS_digest_13 : decode b_CS_digest 13 = .ok (.aload_n 0, 1) := by decide +kernel
theorem d_CS_digest_14 : decode b_CS_digest 14 = .ok (.iload_n 3, 1) := by decide +kernel
theorem d_CS_digest_15 : decode b_CS_digest 15 = .ok (.invokevirtual 274, 3) := by decide +kernel
theorem d_CS_digest_18 : decode b_CS_digest 18 = .ok (.i2l, 1) := by decide +kernel
theorem d_CS_digest_19 : decode b_CS_digest 19 = .ok (.invokestatic 277, 3) := by decide +kernel
theorem d_CS_digest_22 : decode b_CS_digest 22 = .ok (.lstore_n 1, 1) := by decide +kernel
theorem d_CS_digest_23 : decode b_CS_digest 23 = .ok (.iinc 3 1, 3) := by decide +kernel
theorem d_CS_digest_26 : decode b_CS_digest 26 = .ok (.goto (-20), 3) := by decide +kernel
theorem d_CS_digest_29 : decode b_CS_digest 29 = .ok (.iconst 0, 1) := by decide +kernel
theorem d_CS_digest_30 : decode b_CS_digest 30 = .ok (.istore_n 3, 1) := by decide +kernel
theorem d_CS_digest_31 : decode b_CS_digest 31 = .ok (.iload_n 3, 1) := by decide +kernel
theorem d_CS_digest_32 : decode b_CS_digest 32 = .ok (.iconst 2, 1) := by decide +kernel
theorem d_CS_digest_33 : decode b_CS_digest 33 = .ok (.if_icmp .ge 20, 3) := by decide +kernel
theorem d_CS_digest_36 : decode b_CS_digest 36 = .ok (.lload_n 1, 1) := by decide +kernel
theorem d_CS_digest_37 : decode b_CS_digest 37 = .ok (.aload_n 0, 1) := by decide +kernel
theorem d_CS_digest_38 : decode b_CS_digest 38 = .ok (.iload_n 3, 1) := by decide +kernel
theorem d_CS_digest_39 : decode b_CS_digest 39 = .ok (.invokevirtual 281, 3) := by decide +kernel
theorem d_CS_digest_42 : decode b_CS_digest 42 = .ok (.i2l, 1) := by decide +kernel
theorem d_CS_digest_43 : decode b_CS_digest 43 = .ok (.invokestatic 277, 3) := by decide +kernel
theorem d_CS_digest_46 : decode b_CS_digest 46 = .ok (.lstore_n 1, 1) := by decide +kernel
theorem d_CS_digest_47 : decode b_CS_digest 47 = .ok (.iinc 3 1, 3) := by decide +kernel
theorem d_CS_digest_50 : decode b_CS_digest 50 = .ok (.goto (-19), 3) := by decide +kernel
theorem d_CS_digest_53 : decode b_CS_digest 53 = .ok (.iconst 0, 1) := by decide +kernel
theorem d_CS_digest_54 : decode b_CS_digest 54 = .ok (.istore_n 3, 1) := by decide +kernel
theorem d_CS_digest_55 : decode b_CS_digest 55 = .ok (.iload_n 3, 1) := by decide +kernel
theorem d_CS_digest_56 : decode b_CS_digest 56 = .ok (.aload_n 0, 1) := by decide +kernel
theorem d_CS_digest_57 : decode b_CS_digest 57 = .ok (.getfield 19, 3) := by decide +kernel
theorem d_CS_digest_60 : decode b_CS_digest 60 = .ok (.getfield 269, 3) := by decide +kernel
theorem d_CS_digest_63 : decode b_CS_digest 63 = .ok (.if_icmp .ge 16, 3) := by decide +kernel
theorem d_CS_digest_66 : decode b_CS_digest 66 = .ok (.aload_n 0, 1) := by decide +kernel
theorem d_CS_digest_67 : decode b_CS_digest 67 = .ok (.lload_n 1, 1) := by decide +kernel
theorem d_CS_digest_68 : decode b_CS_digest 68 = .ok (.iload_n 3, 1) := by decide +kernel
theorem d_CS_digest_69 : decode b_CS_digest 69 = .ok (.invokevirtual 284, 3) := by decide +kernel
theorem d_CS_digest_72 : decode b_CS_digest 72 = .ok (.lstore_n 1, 1) := by decide +kernel
theorem d_CS_digest_73 : decode b_CS_digest 73 = .ok (.iinc 3 1, 3) := by decide +kernel
theorem d_CS_digest_76 : decode b_CS_digest 76 = .ok (.goto (-21), 3) := by decide +kernel
theorem d_CS_digest_79 : decode b_CS_digest 79 = .ok (.iconst 0, 1) := by decide +kernel
theorem d_CS_digest_80 : decode b_CS_digest 80 = .ok (.istore_n 3, 1) := by decide +kernel
theorem d_CS_digest_81 : decode b_CS_digest 81 = .ok (.iload_n 3, 1) := by decide +kernel
theorem d_CS_digest_82 : decode b_CS_digest 82 = .ok (.aload_n 0, 1) := by decide +kernel
theorem d_CS_digest_83 : decode b_CS_digest 83 = .ok (.getfield 10, 3) := by decide +kernel
theorem d_CS_digest_86 : decode b_CS_digest 86 = .ok (.getfield 229, 3) := by decide +kernel
theorem d_CS_digest_89 : decode b_CS_digest 89 = .ok (.if_icmp .ge 16, 3) := by decide +kernel
theorem d_CS_digest_92 : decode b_CS_digest 92 = .ok (.aload_n 0, 1) := by decide +kernel
theorem d_CS_digest_93 : decode b_CS_digest 93 = .ok (.lload_n 1, 1) := by decide +kernel
theorem d_CS_digest_94 : decode b_CS_digest 94 = .ok (.iload_n 3, 1) := by decide +kernel
theorem d_CS_digest_95 : decode b_CS_digest 95 = .ok (.invokevirtual 288, 3) := by decide +kernel
theorem d_CS_digest_98 : decode b_CS_digest 98 = .ok (.lstore_n 1, 1) := by decide +kernel
theorem d_CS_digest_99 : decode b_CS_digest 99 = .ok (.iinc 3 1, 3) := by decide +kernel
theorem d_CS_digest_102 : decode b_CS_digest 102 = .ok (.goto (-21), 3) := by decide +kernel
theorem d_CS_digest_105 : decode b_CS_digest 105 = .ok (.lload_n 1, 1) := by decide +kernel
theorem d_CS_digest_106 : decode b_CS_digest 106 = .ok (.aload_n 0, 1) := by decide +kernel
theorem d_CS_digest_107 : decode b_CS_digest 107 = .ok (.invokevirtual 291, 3) := by decide +kernel
theorem d_CS_digest_110 : decode b_CS_digest 110 = .ok (.i2l, 1) := by decide +kernel
theorem d_CS_digest_111 : decode b_CS_digest 111 = .ok (.invokestatic 277, 3) := by decide +kernel
theorem d_CS_digest_114 : decode b_CS_digest 114 = .ok (.aload_n 0, 1) := by decide +kernel
theorem d_CS_digest_115 : decode b_CS_digest 115 = .ok (.invokevirtual 294, 3) := by decide +kernel
theorem d_CS_digest_118 : decode b_CS_digest 118 = .ok (.i2l, 1) := by decide +kernel
theorem d_CS_digest_119 : decode b_CS_digest 119 = .ok (.invokestatic 277, 3) := by decide +kernel
theorem d_CS_digest_122 : decode b_CS_digest 122 = .ok (.lstore_n 1, 1) := by decide +kernel
theorem d_CS_digest_123 : decode b_CS_digest 123 = .ok (.lload_n 1, 1) := by decide +kernel
theorem d_CS_digest_124 : decode b_CS_digest 124 = .ok (.aload_n 0, 1) := by decide +kernel
theorem d_CS_digest_125 : decode b_CS_digest 125 = .ok (.iconst 0, 1) := by decide +kernel
theorem d_CS_digest_126 : decode b_CS_digest 126 = .ok (.invokevirtual 297, 3) := by decide +kernel
theorem d_CS_digest_129 : decode b_CS_digest 129 = .ok (.i2l, 1) := by decide +kernel
theorem d_CS_digest_130 : decode b_CS_digest 130 = .ok (.invokestatic 277, 3) := by decide +kernel
theorem d_CS_digest_133 : decode b_CS_digest 133 = .ok (.aload_n 0, 1) := by decide +kernel
theorem d_CS_digest_134 : decode b_CS_digest 134 = .ok (.iconst 1, 1) := by decide +kernel
theorem d_CS_digest_135 : decode b_CS_digest 135 = .ok (.invokevirtual 297, 3) := by decide +kernel
theorem d_CS_digest_138 : decode b_CS_digest 138 = .ok (.i2l, 1) := by decide +kernel
theorem d_CS_digest_139 : decode b_CS_digest 139 = .ok (.invokestatic 277, 3) := by decide +kernel
theorem d_CS_digest_142 : decode b_CS_digest 142 = .ok (.lstore_n 1, 1) := by decide +kernel
theorem d_CS_digest_143 : decode b_CS_digest 143 = .ok (.lload_n 1, 1) := by decide +kernel
theorem d_CS_digest_144 : decode b_CS_digest 144 = .ok (.aload_n 0, 1) := by decide +kernel
theorem d_CS_digest_145 : decode b_CS_digest 145 = .ok (.invokevirtual 300, 3) := by decide +kernel
theorem d_CS_digest_148 : decode b_CS_digest 148 = .ok (.i2l, 1) := by decide +kernel
theorem d_CS_digest_149 : decode b_CS_digest 149 = .ok (.invokestatic 277, 3) := by decide +kernel
theorem d_CS_digest_152 : decode b_CS_digest 152 = .ok (.aload_n 0, 1) := by decide +kernel
theorem d_CS_digest_153 : decode b_CS_digest 153 = .ok (.invokevirtual 303, 3) := by decide +kernel
theorem d_CS_digest_156 : decode b_CS_digest 156 = .ok (.i2l, 1) := by decide +kernel
theorem d_CS_digest_157 : decode b_CS_digest 157 = .ok (.invokestatic 277, 3) := by decide +kernel
theorem d_CS_digest_160 : decode b_CS_digest 160 = .ok (.aload_n 0, 1) := by decide +kernel
theorem d_CS_digest_161 : decode b_CS_digest 161 = .ok (.invokevirtual 306, 3) := by decide +kernel
theorem d_CS_digest_164 : decode b_CS_digest 164 = .ok (.i2l, 1) := by decide +kernel
theorem d_CS_digest_165 : decode b_CS_digest 165 = .ok (.invokestatic 277, 3) := by decide +kernel
theorem d_CS_digest_168 : decode b_CS_digest 168 = .ok (.lstore_n 1, 1) := by decide +kernel
theorem d_CS_digest_169 : decode b_CS_digest 169 = .ok (.lload_n 1, 1) := by decide +kernel
theorem d_CS_digest_170 : decode b_CS_digest 170 = .ok (.aload_n 0, 1) := by decide +kernel
theorem d_CS_digest_171 : decode b_CS_digest 171 = .ok (.iconst (-1), 1) := by decide +kernel
theorem d_CS_digest_172 : decode b_CS_digest 172 = .ok (.invokevirtual 309, 3) := by decide +kernel
theorem d_CS_digest_175 : decode b_CS_digest 175 = .ok (.i2l, 1) := by decide +kernel
theorem d_CS_digest_176 : decode b_CS_digest 176 = .ok (.invokestatic 277, 3) := by decide +kernel
theorem d_CS_digest_179 : decode b_CS_digest 179 = .ok (.aload_n 0, 1) := by decide +kernel
theorem d_CS_digest_180 : decode b_CS_digest 180 = .ok (.iconst 0, 1) := by decide +kernel
theorem d_CS_digest_181 : decode b_CS_digest 181 = .ok (.invokevirtual 309, 3) := by decide +kernel
theorem d_CS_digest_184 : decode b_CS_digest 184 = .ok (.i2l, 1) := by decide +kernel
theorem d_CS_digest_185 : decode b_CS_digest 185 = .ok (.invokestatic 277, 3) := by decide +kernel
theorem d_CS_digest_188 : decode b_CS_digest 188 = .ok (.lstore_n 1, 1) := by decide +kernel
theorem d_CS_digest_189 : decode b_CS_digest 189 = .ok (.lload_n 1, 1) := by decide +kernel
theorem d_CS_digest_190 : decode b_CS_digest 190 = .ok (.aload_n 0, 1) := by decide +kernel
theorem d_CS_digest_191 : decode b_CS_digest 191 = .ok (.invokevirtual 312, 3) := by decide +kernel
theorem d_CS_digest_194 : decode b_CS_digest 194 = .ok (.i2l, 1) := by decide +kernel
theorem d_CS_digest_195 : decode b_CS_digest 195 = .ok (.invokestatic 277, 3) := by decide +kernel
theorem d_CS_digest_198 : decode b_CS_digest 198 = .ok (.lstore_n 1, 1) := by decide +kernel
theorem d_CS_digest_199 : decode b_CS_digest 199 = .ok (.lload_n 1, 1) := by decide +kernel
theorem d_CS_digest_200 : decode b_CS_digest 200 = .ok (.aload_n 0, 1) := by decide +kernel
theorem d_CS_digest_201 : decode b_CS_digest 201 = .ok (.bipush 7, 2) := by decide +kernel
theorem d_CS_digest_203 : decode b_CS_digest 203 = .ok (.bipush 6, 2) := by decide +kernel
theorem d_CS_digest_205 : decode b_CS_digest 205 = .ok (.iconst 0, 1) := by decide +kernel
theorem d_CS_digest_206 : decode b_CS_digest 206 = .ok (.invokevirtual 315, 3) := by decide +kernel
theorem d_CS_digest_209 : decode b_CS_digest 209 = .ok (.i2l, 1) := by decide +kernel
theorem d_CS_digest_210 : decode b_CS_digest 210 = .ok (.invokestatic 277, 3) := by decide +kernel
theorem d_CS_digest_213 : decode b_CS_digest 213 = .ok (.aload_n 0, 1) := by decide +kernel
theorem d_CS_digest_214 : decode b_CS_digest 214 = .ok (.bipush 7, 2) := by decide +kernel
theorem d_CS_digest_216 : decode b_CS_digest 216 = .ok (.bipush 6, 2) := by decide +kernel
theorem d_CS_digest_218 : decode b_CS_digest 218 = .ok (.iconst 1, 1) := by decide +kernel
theorem d_CS_digest_219 : decode b_CS_digest 219 = .ok (.invokevirtual 315, 3) := by decide +kernel
theorem d_CS_digest_222 : decode b_CS_digest 222 = .ok (.i2l, 1) := by decide +kernel
theorem d_CS_digest_223 : decode b_CS_digest 223 = .ok (.invokestatic 277, 3) := by decide +kernel
theorem d_CS_digest_226 : decode b_CS_digest 226 = .ok (.lreturn, 1) := by decide +kernel
theorem d_Mo_in_0 : decode b_Mo_in 0 = .ok (.iload_n 0, 1) := by decide +kernel
theorem d_Mo_in_1 : decode b_Mo_in 1 = .ok (.iload_n 1, 1) := by decide +kernel
theorem d_Mo_in_2 : decode b_Mo_in 2 = .ok (.if_icmp .lt 12, 3) := by decide +kernel
theorem d_Mo_in_5 : decode b_Mo_in 5 = .ok (.iload_n 0, 1) := by decide +kernel
theorem d_Mo_in_6 : decode b_Mo_in 6 = .ok (.iload_n 2, 1) := by decide +kernel
theorem d_Mo_in_7 : decode b_Mo_in 7 = .ok (.if_icmp .gt 7, 3) := by decide +kernel
theorem d_Mo_in_10 : decode b_Mo_in 10 = .ok (.iconst 1, 1) := by decide +kernel
theorem d_Mo_in_11 : decode b_Mo_in 11 = .ok (.goto 4, 3) := by decide +kernel
theorem d_Mo_in_14 : decode b_Mo_in 14 = .ok (.iconst 0, 1) := by decide +kernel
theorem d_Mo_in_15 : decode b_Mo_in 15 = .ok (.ireturn, 1) := by decide +kernel
theorem d_Mo_isText_0 : decode b_Mo_isText 0 = .ok (.iload_n 0, 1) := by decide +kernel
theorem d_Mo_isText_1 : decode b_Mo_isText 1 = .ok (.iconst 0, 1) := by decide +kernel
theorem d_Mo_isText_2 : decode b_Mo_isText 2 = .ok (.iconst 1, 1) := by decide +kernel
theorem d_Mo_isText_3 : decode b_Mo_isText 3 = .ok (.invokestatic 115, 3) := by decide +kernel
theorem d_Mo_isText_6 : decode b_Mo_isText 6 = .ok (.ireturn, 1) := by decide +kernel
theorem d_Mo_type_0 : decode b_Mo_type 0 = .ok (.iload_n 1, 1) := by decide +kernel
theorem d_Mo_type_1 : decode b_Mo_type 1 = .ok (.invokestatic 119, 3) := by decide +kernel
theorem d_Mo_type_4 : decode b_Mo_type 4 = .ok (.ifCond .eq 14, 3) := by decide +kernel
theorem d_Mo_type_7 : decode b_Mo_type 7 = .ok (.iload_n 2, 1) := by decide +kernel
theorem d_Mo_type_8 : decode b_Mo_type 8 = .ok (.iconst 0, 1) := by decide +kernel
theorem d_Mo_type_9 : decode b_Mo_type 9 = .ok (.sipush 255, 3) := by decide +kernel
theorem d_Mo_type_12 : decode b_Mo_type 12 = .ok (.invokestatic 115, 3) := by decide +kernel
theorem d_Mo_type_15 : decode b_Mo_type 15 = .ok (.ifCond .ne 6, 3) := by decide +kernel
theorem d_Mo_type_18 : decode b_Mo_type 18 = .ok (.bipush (-2), 2) := by decide +kernel
theorem d_Mo_type_20 : decode b_Mo_type 20 = .ok (.ireturn, 1) := by decide +kernel
theorem d_Mo_type_21 : decode b_Mo_type 21 = .ok (.aload_n 0, 1) := by decide +kernel
theorem d_Mo_type_22 : decode b_Mo_type 22 = .ok (.getfield 7, 3) := by decide +kernel
theorem d_Mo_type_25 : decode b_Mo_type 25 = .ok (.iload_n 1, 1) := by decide +kernel
theorem d_Mo_type_26 : decode b_Mo_type 26 = .ok (.iaload, 1) := by decide +kernel
theorem d_Mo_type_27 : decode b_Mo_type 27 = .ok (.iload_n 1, 1) := by decide +kernel
theorem d_Mo_type_28 : decode b_Mo_type 28 = .ok (.ifCond .ne 8, 3) := by decide +kernel
theorem d_Mo_type_31 : decode b_Mo_type 31 = .ok (.bipush 23, 2) := by decide +kernel
theorem d_Mo_type_33 : decode b_Mo_type 33 = .ok (.goto 5, 3) := by decide +kernel
theorem d_Mo_type_36 : decode b_Mo_type 36 = .ok (.bipush 39, 2) := by decide +kernel
theorem d_Mo_type_38 : decode b_Mo_type 38 = .ok (.if_icmp .ne 6, 3) := by decide +kernel
theorem d_Mo_type_41 : decode b_Mo_type 41 = .ok (.bipush (-4), 2) := by decide +kernel
theorem d_Mo_type_43 : decode b_Mo_type 43 = .ok (.ireturn, 1) := by decide +kernel
theorem d_Mo_type_44 : decode b_Mo_type 44 = .ok (.aload_n 0, 1) := by decide +kernel
theorem d_Mo_type_45 : decode b_Mo_type 45 = .ok (.getfield 13, 3) := by decide +kernel
theorem d_Mo_type_48 : decode b_Mo_type 48 = .ok (.bipush 39, 2) := by decide +kernel
theorem d_Mo_type_50 : decode b_Mo_type 50 = .ok (.iload_n 1, 1) := by decide +kernel
theorem d_Mo_type_51 : decode b_Mo_type 51 = .ok (.imul, 1) := by decide +kernel
theorem d_Mo_type_52 : decode b_Mo_type 52 = .ok (.aload_n 0, 1) := by decide +kernel
theorem d_Mo_type_53 : decode b_Mo_type 53 = .ok (.getfield 7, 3) := by decide +kernel
theorem d_Mo_type_56 : decode b_Mo_type 56 = .ok (.iload_n 1, 1) := by decide +kernel
theorem d_Mo_type_57 : decode b_Mo_type 57 = .ok (.iaload, 1) := by decide +kernel
theorem d_Mo_type_58 : decode b_Mo_type 58 = .ok (.iadd, 1) := by decide +kernel
theorem d_Mo_type_59 : decode b_Mo_type 59 = .ok (.iload_n 2, 1) := by decide +kernel
theorem d_Mo_type_60 : decode b_Mo_type 60 = .ok (.iastore, 1) := by decide +kernel
theorem d_Mo_type_61 : decode b_Mo_type 61 = .ok (.aload_n 0, 1) := by decide +kernel
theorem d_Mo_type_62 : decode b_Mo_type 62 = .ok (.getfield 7, 3) := by decide +kernel
theorem d_Mo_type_65 : decode b_Mo_type 65 = .ok (.iload_n 1, 1) := by decide +kernel
theorem d_Mo_type_66 : decode b_Mo_type 66 = .ok (.dup2, 1) := by decide +kernel
theorem d_Mo_type_67 : decode b_Mo_type 67 = .ok (.iaload, 1) := by decide +kernel
theorem d_Mo_type_68 : decode b_Mo_type 68 = .ok (.iconst 1, 1) := by decide +kernel
theorem d_Mo_type_69 : decode b_Mo_type 69 = .ok (.iadd, 1) := by decide +kernel
theorem d_Mo_type_70 : decode b_Mo_type 70 = .ok (.iastore, 1) := by decide +kernel
theorem d_Mo_type_71 : decode b_Mo_type 71 = .ok (.aload_n 0, 1) := by decide +kernel
theorem d_Mo_type_72 : decode b_Mo_type 72 = .ok (.getfield 7, 3) := by decide +kernel
theorem d_Mo_type_75 : decode b_Mo_type 75 = .ok (.iload_n 1, 1) := by decide +kernel
theorem d_Mo_type_76 : decode b_Mo_type 76 = .ok (.iaload, 1) := by decide +kernel
theorem d_Mo_type_77 : decode b_Mo_type 77 = .ok (.ireturn, 1) := by decide +kernel
theorem d_Mo_wipe_0 : decode b_Mo_wipe 0 = .ok (.iload_n 1, 1) := by decide +kernel
theorem d_Mo_wipe_1 : decode b_Mo_wipe 1 = .ok (.invokestatic 119, 3) := by decide +kernel
theorem d_Mo_wipe_4 : decode b_Mo_wipe 4 = .ok (.ifCond .ne 6, 3) := by decide +kernel
theorem d_Mo_wipe_7 : decode b_Mo_wipe 7 = .ok (.bipush (-2), 2) := by decide +kernel
theorem d_Mo_wipe_9 : decode b_Mo_wipe 9 = .ok (.ireturn, 1) := by decide +kernel
theorem d_Mo_wipe_10 : decode b_Mo_wipe 10 = .ok (.aload_n 0, 1) := by decide +kernel
theorem d_Mo_wipe_11 : decode b_Mo_wipe 11 = .ok (.getfield 7, 3) := by decide +kernel
theorem d_Mo_wipe_14 : decode b_Mo_wipe 14 = .ok (.iload_n 1, 1) := by decide +kernel
theorem d_Mo_wipe_15 : decode b_Mo_wipe 15 = .ok (.iaload, 1) := by decide +kernel
theorem d_Mo_wipe_16 : decode b_Mo_wipe 16 = .ok (.istore_n 2, 1) := by decide +kernel
theorem d_Mo_wipe_17 : decode b_Mo_wipe 17 = .ok (.aload_n 0, 1) := by decide +kernel
theorem d_Mo_wipe_18 : decode b_Mo_wipe 18 = .ok (.getfield 7, 3) := by decide +kernel
theorem d_Mo_wipe_21 : decode b_Mo_wipe 21 = .ok (.iload_n 1, 1) := by decide +kernel
theorem d_Mo_wipe_22 : decode b_Mo_wipe 22 = .ok (.iconst 0, 1) := by decide +kernel
theorem d_Mo_wipe_23 : decode b_Mo_wipe 23 = .ok (.iastore, 1) := by decide +kernel
theorem d_Mo_wipe_24 : decode b_Mo_wipe 24 = .ok (.iload_n 2, 1) := by decide +kernel
theorem d_Mo_wipe_25 : decode b_Mo_wipe 25 = .ok (.ireturn, 1) := by decide +kernel
theorem d_Mo_undo_0 : decode b_Mo_undo 0 = .ok (.iload_n 1, 1) := by decide +kernel
theorem d_Mo_undo_1 : decode b_Mo_undo 1 = .ok (.invokestatic 119, 3) := by decide +kernel
theorem d_Mo_undo_4 : decode b_Mo_undo 4 = .ok (.ifCond .ne 6, 3) := by decide +kernel
theorem d_Mo_undo_7 : decode b_Mo_undo 7 = .ok (.bipush (-2), 2) := by decide +kernel
theorem d_Mo_undo_9 : decode b_Mo_undo 9 = .ok (.ireturn, 1) := by decide +kernel
theorem d_Mo_undo_10 : decode b_Mo_undo 10 = .ok (.aload_n 0, 1) := by decide +kernel
theorem d_Mo_undo_11 : decode b_Mo_undo 11 = .ok (.getfield 7, 3) := by decide +kernel
theorem d_Mo_undo_14 : decode b_Mo_undo 14 = .ok (.iload_n 1, 1) := by decide +kernel
theorem d_Mo_undo_15 : decode b_Mo_undo 15 = .ok (.iaload, 1) := by decide +kernel
theorem d_Mo_undo_16 : decode b_Mo_undo 16 = .ok (.ifCond .ne 6, 3) := by decide +kernel
theorem d_Mo_undo_19 : decode b_Mo_undo 19 = .ok (.bipush (-3), 2) := by decide +kernel
theorem d_Mo_undo_21 : decode b_Mo_undo 21 = .ok (.ireturn, 1) := by decide +kernel
theorem d_Mo_undo_22 : decode b_Mo_undo 22 = .ok (.aload_n 0, 1) := by decide +kernel
theorem d_Mo_undo_23 : decode b_Mo_undo 23 = .ok (.getfield 7, 3) := by decide +kernel
theorem d_Mo_undo_26 : decode b_Mo_undo 26 = .ok (.iload_n 1, 1) := by decide +kernel
theorem d_Mo_undo_27 : decode b_Mo_undo 27 = .ok (.dup2, 1) := by decide +kernel
theorem d_Mo_undo_28 : decode b_Mo_undo 28 = .ok (.iaload, 1) := by decide +kernel
theorem d_Mo_undo_29 : decode b_Mo_undo 29 = .ok (.iconst 1, 1) := by decide +kernel
theorem d_Mo_undo_30 : decode b_Mo_undo 30 = .ok (.isub, 1) := by decide +kernel
theorem d_Mo_undo_31 : decode b_Mo_undo 31 = .ok (.iastore, 1) := by decide +kernel
theorem d_Mo_undo_32 : decode b_Mo_undo 32 = .ok (.aload_n 0, 1) := by decide +kernel
theorem d_Mo_undo_33 : decode b_Mo_undo 33 = .ok (.getfield 7, 3) := by decide +kernel
theorem d_Mo_undo_36 : decode b_Mo_undo 36 = .ok (.iload_n 1, 1) := by decide +kernel
theorem d_Mo_undo_37 : decode b_Mo_undo 37 = .ok (.iaload, 1) := by decide +kernel
theorem d_Mo_undo_38 : decode b_Mo_undo 38 = .ok (.ireturn, 1) := by decide +kernel
theorem d_Mo_byteAt_0 : decode b_Mo_byteAt 0 = .ok (.iload_n 2, 1) := by decide +kernel
theorem d_Mo_byteAt_1 : decode b_Mo_byteAt 1 = .ok (.aload_n 0, 1) := by decide +kernel
theorem d_Mo_byteAt_2 : decode b_Mo_byteAt 2 = .ok (.getfield 7, 3) := by decide +kernel
theorem d_Mo_byteAt_5 : decode b_Mo_byteAt 5 = .ok (.iload_n 1, 1) := by decide +kernel
theorem d_Mo_byteAt_6 : decode b_Mo_byteAt 6 = .ok (.iaload, 1) := by decide +kernel
theorem d_Mo_byteAt_7 : decode b_Mo_byteAt 7 = .ok (.if_icmp .ge 17, 3) := by decide +kernel
theorem d_Mo_byteAt_10 : decode b_Mo_byteAt 10 = .ok (.aload_n 0, 1) := by decide +kernel
theorem d_Mo_byteAt_11 : decode b_Mo_byteAt 11 = .ok (.getfield 13, 3) := by decide +kernel
theorem d_Mo_byteAt_14 : decode b_Mo_byteAt 14 = .ok (.bipush 39, 2) := by decide +kernel
theorem d_Mo_byteAt_16 : decode b_Mo_byteAt 16 = .ok (.iload_n 1, 1) := by decide +kernel
theorem d_Mo_byteAt_17 : decode b_Mo_byteAt 17 = .ok (.imul, 1) := by decide +kernel
theorem d_Mo_byteAt_18 : decode b_Mo_byteAt 18 = .ok (.iload_n 2, 1) := by decide +kernel
theorem d_Mo_byteAt_19 : decode b_Mo_byteAt 19 = .ok (.iadd, 1) := by decide +kernel
theorem d_Mo_byteAt_20 : decode b_Mo_byteAt 20 = .ok (.iaload, 1) := by decide +kernel
theorem d_Mo_byteAt_21 : decode b_Mo_byteAt 21 = .ok (.goto 4, 3) := by decide +kernel
theorem d_Mo_byteAt_24 : decode b_Mo_byteAt 24 = .ok (.iconst (-1), 1) := by decide +kernel
theorem d_Mo_byteAt_25 : decode b_Mo_byteAt 25 = .ok (.ireturn, 1) := by decide +kernel
theorem d_Mo_readsCamel_0 : decode b_Mo_readsCamel 0 = .ok (.aload_n 0, 1) := by decide +kernel
theorem d_Mo_readsCamel_1 : decode b_Mo_readsCamel 1 = .ok (.iconst 0, 1) := by decide +kernel
theorem d_Mo_readsCamel_2 : decode b_Mo_readsCamel 2 = .ok (.iload_n 2, 1) := by decide +kernel
theorem d_Mo_readsCamel_3 : decode b_Mo_readsCamel 3 = .ok (.invokevirtual 123, 3) := by decide +kernel
theorem d_Mo_readsCamel_6 : decode b_Mo_readsCamel 6 = .ok (.istore_n 3, 1) := by decide +kernel
theorem d_Mo_readsCamel_7 : decode b_Mo_readsCamel 7 = .ok (.iload_n 3, 1) := by decide +kernel
theorem d_Mo_readsCamel_8 : decode b_Mo_readsCamel 8 = .ok (.bipush 121, 2) := by decide +kernel
theorem d_Mo_readsCamel_10 : decode b_Mo_readsCamel 10 = .ok (.if_icmp .ne 7, 3) := by decide +kernel
theorem d_Mo_readsCamel_13 : decode b_Mo_readsCamel 13 = .ok (.iconst 0, 1) := by decide +kernel
theorem d_Mo_readsCamel_14 : decode b_Mo_readsCamel 14 = .ok (.goto 24, 3) := by decide +kernel
theorem d_Mo_readsCamel_17 : decode b_Mo_readsCamel 17 = .ok (.iload_n 3, 1) := by decide +kernel
theorem d_Mo_readsCamel_18 : decode b_Mo_readsCamel 18 = .ok (.bipush 111, 2) := by decide +kernel
theorem d_Mo_readsCamel_20 : decode b_Mo_readsCamel 20 = .ok (.if_icmp .ne 7, 3) := by decide +kernel
theorem d_Mo_readsCamel_23 : decode b_Mo_readsCamel 23 = .ok (.iconst 1, 1) := by decide +kernel
theorem d_Mo_readsCamel_24 : decode b_Mo_readsCamel 24 = .ok (.goto 14, 3) := by decide +kernel
theorem d_Mo_readsCamel_27 : decode b_Mo_readsCamel 27 = .ok (.iload_n 3, 1) := by decide +kernel
theorem d_Mo_readsCamel_28 : decode b_Mo_readsCamel 28 = .ok (.bipush 115, 2) := by decide +kernel
theorem d_Mo_readsCamel_30 : decode b_Mo_readsCamel 30 = .ok (.if_icmp .ne 7, 3) := by decide +kernel
theorem d_Mo_readsCamel_33 : decode b_Mo_readsCamel 33 = .ok (.iconst 2, 1) := by decide +kernel
theorem d_Mo_readsCamel_34 : decode b_Mo_readsCamel 34 = .ok (.goto 4, 3) := by decide +kernel
theorem d_Mo_readsCamel_37 : decode b_Mo_readsCamel 37 = .ok (.iconst (-1), 1) := by decide +kernel
theorem d_Mo_readsCamel_38 : decode b_Mo_readsCamel 38 = .ok (.istore 4, 2) := by decide +kernel
theorem d_Mo_readsCamel_40 : decode b_Mo_readsCamel 40 = .ok (.aload_n 0, 1) := by decide +kernel
theorem d_Mo_readsCamel_41 : decode b_Mo_readsCamel 41 = .ok (.iconst 0, 1) := by decide +kernel
theorem d_Mo_readsCamel_42 : decode b_Mo_readsCamel 42 = .ok (.iload_n 2, 1) := by decide +kernel
theorem d_Mo_readsCamel_43 : decode b_Mo_readsCamel 43 = .ok (.iconst 1, 1) := by decide +kernel
theorem d_Mo_readsCamel_44 : decode b_Mo_readsCamel 44 = .ok (.iadd, 1) := by decide +kernel
theorem d_Mo_readsCamel_45 : decode b_Mo_readsCamel 45 = .ok (.invokevirtual 123, 3) := by decide +kernel
theorem d_Mo_readsCamel_48 : decode b_Mo_readsCamel 48 = .ok (.istore 5, 2) := by decide +kernel
theorem d_Mo_readsCamel_50 : decode b_Mo_readsCamel 50 = .ok (.iload_n 1, 1) := by decide +kernel
theorem d_Mo_readsCamel_51 : decode b_Mo_readsCamel 51 = .ok (.bipush 8, 2) := by decide +kernel
theorem d_Mo_readsCamel_53 : decode b_Mo_readsCamel 53 = .ok (.if_icmp .eq 9, 3) := by decide +kernel
theorem d_Mo_readsCamel_56 : decode b_Mo_readsCamel 56 = .ok (.iload 4, 2) := by decide +kernel
theorem d_Mo_readsCamel_58 : decode b_Mo_readsCamel 58 = .ok (.iconst (-1), 1) := by decide +kernel
theorem d_Mo_readsCamel_59 : decode b_Mo_readsCamel 59 = .ok (.if_icmp .ne 5, 3) := by decide +kernel
theorem d_Mo_readsCamel_62 : decode b_Mo_readsCamel 62 = .ok (.iconst 0, 1) := by decide +kernel
theorem d_Mo_readsCamel_63 : decode b_Mo_readsCamel 63 = .ok (.ireturn, 1) := by decide +kernel
theorem d_Mo_readsCamel_64 : decode b_Mo_readsCamel 64 = .ok (.iload 5, 2) := by decide +kernel
theorem d_Mo_readsCamel_66 : decode b_Mo_readsCamel 66 = .ok (.bipush 49, 2) := by decide +kernel
theorem d_Mo_readsCamel_68 : decode b_Mo_readsCamel 68 = .ok (.bipush 57, 2) := by decide +kernel
theorem d_Mo_readsCamel_70 : decode b_Mo_readsCamel 70 = .ok (.invokestatic 115, 3) := by decide +kernel
theorem d_Mo_readsCamel_73 : decode b_Mo_readsCamel 73 = .ok (.ifCond .ne 5, 3) := by decide +kernel
theorem d_Mo_readsCamel_76 : decode b_Mo_readsCamel 76 = .ok (.iconst 1, 1) := by decide +kernel
theorem d_Mo_readsCamel_77 : decode b_Mo_readsCamel 77 = .ok (.ireturn, 1) := by decide +kernel
theorem d_Mo_readsCamel_78 : decode b_Mo_readsCamel 78 = .ok (.aload_n 0, 1) := by decide +kernel
theorem d_Mo_readsCamel_79 : decode b_Mo_readsCamel 79 = .ok (.getfield 16, 3) := by decide +kernel
theorem d_Mo_readsCamel_82 : decode b_Mo_readsCamel 82 = .ok (.iload_n 1, 1) := by decide +kernel
theorem d_Mo_readsCamel_83 : decode b_Mo_readsCamel 83 = .ok (.iload 4, 2) := by decide +kernel
theorem d_Mo_readsCamel_85 : decode b_Mo_readsCamel 85 = .ok (.iastore, 1) := by decide +kernel
theorem d_Mo_readsCamel_86 : decode b_Mo_readsCamel 86 = .ok (.aload_n 0, 1) := by decide +kernel
theorem d_Mo_readsCamel_87 : decode b_Mo_readsCamel 87 = .ok (.getfield 19, 3) := by decide +kernel
theorem d_Mo_readsCamel_90 : decode b_Mo_readsCamel 90 = .ok (.iload_n 1, 1) := by decide +kernel
theorem d_Mo_readsCamel_91 : decode b_Mo_readsCamel 91 = .ok (.iload 5, 2) := by decide +kernel
theorem d_Mo_readsCamel_93 : decode b_Mo_readsCamel 93 = .ok (.bipush 48, 2) := by decide +kernel
theorem d_Mo_readsCamel_95 : decode b_Mo_readsCamel 95 = .ok (.isub, 1) := by decide +kernel
theorem d_Mo_readsCamel_96 : decode b_Mo_readsCamel 96 = .ok (.iastore, 1) := by decide +kernel
theorem d_Mo_readsCamel_97 : decode b_Mo_readsCamel 97 = .ok (.iconst 2, 1) := by decide +kernel
theorem d_Mo_readsCamel_98 : decode b_Mo_readsCamel 98 = .ok (.ireturn, 1) := by decide +kernel
theorem d_Mo_readsBale_0 : decode b_Mo_readsBale 0 = .ok (.aload_n 0, 1) := by decide +kernel
theorem d_Mo_readsBale_1 : decode b_Mo_readsBale 1 = .ok (.iconst 1, 1) := by decide +kernel
theorem d_Mo_readsBale_2 : decode b_Mo_readsBale 2 = .ok (.iload_n 2, 1) := by decide +kernel
theorem d_Mo_readsBale_3 : decode b_Mo_readsBale 3 = .ok (.invokevirtual 123, 3) := by decide +kernel
theorem d_Mo_readsBale_6 : decode b_Mo_readsBale 6 = .ok (.istore_n 3, 1) := by decide +kernel
theorem d_Mo_readsBale_7 : decode b_Mo_readsBale 7 = .ok (.aload_n 0, 1) := by decide +kernel
theorem d_Mo_readsBale_8 : decode b_Mo_readsBale 8 = .ok (.iconst 1, 1) := by decide +kernel
theorem d_Mo_readsBale_9 : decode b_Mo_readsBale 9 = .ok (.iload_n 2, 1) := by decide +kernel
theorem d_Mo_readsBale_10 : decode b_Mo_readsBale 10 = .ok (.iconst 1, 1) := by decide +kernel
theorem d_Mo_readsBale_11 : decode b_Mo_readsBale 11 = .ok (.iadd, 1) := by decide +kernel
theorem d_Mo_readsBale_12 : decode b_Mo_readsBale 12 = .ok (.invokevirtual 123, 3) := by decide +kernel
theorem d_Mo_readsBale_15 : decode b_Mo_readsBale 15 = .ok (.istore 4, 2) := by decide +kernel
theorem d_Mo_readsBale_17 : decode b_Mo_readsBale 17 = .ok (.aload_n 0, 1) := by decide +kernel
theorem d_Mo_readsBale_18 : decode b_Mo_readsBale 18 = .ok (.iconst 1, 1) := by decide +kernel
theorem d_Mo_readsBale_19 : decode b_Mo_readsBale 19 = .ok (.iload_n 2, 1) := by decide +kernel
theorem d_Mo_readsBale_20 : decode b_Mo_readsBale 20 = .ok (.iconst 2, 1) := by decide +kernel
theorem d_Mo_readsBale_21 : decode b_Mo_readsBale 21 = .ok (.iadd, 1) := by decide +kernel
theorem d_Mo_readsBale_22 : decode b_Mo_readsBale 22 = .ok (.invokevirtual 123, 3) := by decide +kernel
theorem d_Mo_readsBale_25 : decode b_Mo_readsBale 25 = .ok (.istore 5, 2) := by decide +kernel
theorem d_Mo_readsBale_27 : decode b_Mo_readsBale 27 = .ok (.iload_n 1, 1) := by decide +kernel
theorem d_Mo_readsBale_28 : decode b_Mo_readsBale 28 = .ok (.bipush 10, 2) := by decide +kernel
theorem d_Mo_readsBale_30 : decode b_Mo_readsBale 30 = .ok (.if_icmp .eq 14, 3) := by decide +kernel
theorem d_Mo_readsBale_33 : decode b_Mo_readsBale 33 = .ok (.iload_n 3, 1) := by decide +kernel
theorem d_Mo_readsBale_34 : decode b_Mo_readsBale 34 = .ok (.bipush 97, 2) := by decide +kernel
theorem d_Mo_readsBale_36 : decode b_Mo_readsBale 36 = .ok (.bipush 104, 2) := by decide +kernel
theorem d_Mo_readsBale_38 : decode b_Mo_readsBale 38 = .ok (.invokestatic 115, 3) := by decide +kernel
theorem d_Mo_readsBale_41 : decode b_Mo_readsBale 41 = .ok (.ifCond .ne 5, 3) := by decide +kernel
theorem d_Mo_readsBale_44 : decode b_Mo_readsBale 44 = .ok (.iconst 0, 1) := by decide +kernel
theorem d_Mo_readsBale_45 : decode b_Mo_readsBale 45 = .ok (.ireturn, 1) := by decide +kernel
theorem d_Mo_readsBale_46 : decode b_Mo_readsBale 46 = .ok (.iload 4, 2) := by decide +kernel
theorem d_Mo_readsBale_48 : decode b_Mo_readsBale 48 = .ok (.bipush 49, 2) := by decide +kernel
theorem d_Mo_readsBale_50 : decode b_Mo_readsBale 50 = .ok (.bipush 57, 2) := by decide +kernel
theorem d_Mo_readsBale_52 : decode b_Mo_readsBale 52 = .ok (.invokestatic 115, 3) := by decide +kernel
theorem d_Mo_readsBale_55 : decode b_Mo_readsBale 55 = .ok (.ifCond .ne 5, 3) := by decide +kernel
theorem d_Mo_readsBale_58 : decode b_Mo_readsBale 58 = .ok (.iconst 1, 1) := by decide +kernel
theorem d_Mo_readsBale_59 : decode b_Mo_readsBale 59 = .ok (.ireturn, 1) := by decide +kernel
theorem d_Mo_readsBale_60 : decode b_Mo_readsBale 60 = .ok (.iload 5, 2) := by decide +kernel
theorem d_Mo_readsBale_62 : decode b_Mo_readsBale 62 = .ok (.bipush 97, 2) := by decide +kernel
theorem d_Mo_readsBale_64 : decode b_Mo_readsBale 64 = .ok (.bipush 120, 2) := by decide +kernel
theorem d_Mo_readsBale_66 : decode b_Mo_readsBale 66 = .ok (.invokestatic 115, 3) := by decide +kernel
theorem d_Mo_readsBale_69 : decode b_Mo_readsBale 69 = .ok (.ifCond .ne 5, 3) := by decide +kernel
theorem d_Mo_readsBale_72 : decode b_Mo_readsBale 72 = .ok (.iconst 2, 1) := by decide +kernel
theorem d_Mo_readsBale_73 : decode b_Mo_readsBale 73 = .ok (.ireturn, 1) := by decide +kernel
theorem d_Mo_readsBale_74 : decode b_Mo_readsBale 74 = .ok (.aload_n 0, 1) := by decide +kernel
theorem d_Mo_readsBale_75 : decode b_Mo_readsBale 75 = .ok (.getfield 22, 3) := by decide +kernel
theorem d_Mo_readsBale_78 : decode b_Mo_readsBale 78 = .ok (.iload_n 1, 1) := by decide +kernel
theorem d_Mo_readsBale_79 : decode b_Mo_readsBale 79 = .ok (.iload_n 3, 1) := by decide +kernel
theorem d_Mo_readsBale_80 : decode b_Mo_readsBale 80 = .ok (.bipush 97, 2) := by decide +kernel
theorem d_Mo_readsBale_82 : decode b_Mo_readsBale 82 = .ok (.isub, 1) := by decide +kernel
theorem d_Mo_readsBale_83 : decode b_Mo_readsBale 83 = .ok (.iastore, 1) := by decide +kernel
theorem d_Mo_readsBale_84 : decode b_Mo_readsBale 84 = .ok (.aload_n 0, 1) := by decide +kernel
theorem d_Mo_readsBale_85 : decode b_Mo_readsBale 85 = .ok (.getfield 25, 3) := by decide +kernel
theorem d_Mo_readsBale_88 : decode b_Mo_readsBale 88 = .ok (.iload_n 1, 1) := by decide +kernel
theorem d_Mo_readsBale_89 : decode b_Mo_readsBale 89 = .ok (.iload 4, 2) := by decide +kernel
theorem d_Mo_readsBale_91 : decode b_Mo_readsBale 91 = .ok (.bipush 48, 2) := by decide +kernel
theorem d_Mo_readsBale_93 : decode b_Mo_readsBale 93 = .ok (.isub, 1) := by decide +kernel
theorem d_Mo_readsBale_94 : decode b_Mo_readsBale 94 = .ok (.iastore, 1) := by decide +kernel
theorem d_Mo_readsBale_95 : decode b_Mo_readsBale 95 = .ok (.aload_n 0, 1) := by decide +kernel
theorem d_Mo_readsBale_96 : decode b_Mo_readsBale 96 = .ok (.getfield 28, 3) := by decide +kernel
theorem d_Mo_readsBale_99 : decode b_Mo_readsBale 99 = .ok (.iload_n 1, 1) := by decide +kernel
theorem d_Mo_readsBale_100 : decode b_Mo_readsBale 100 = .ok (.iload 5, 2) := by decide +kernel
theorem d_Mo_readsBale_102 : decode b_Mo_readsBale 102 = .ok (.bipush 97, 2) := by decide +kernel
theorem d_Mo_readsBale_104 : decode b_Mo_readsBale 104 = .ok (.isub, 1) := by decide +kernel
theorem d_Mo_readsBale_105 : decode b_Mo_readsBale 105 = .ok (.iastore, 1) := by decide +kernel
theorem d_Mo_readsBale_106 : decode b_Mo_readsBale 106 = .ok (.iconst 3, 1) := by decide +kernel
theorem d_Mo_readsBale_107 : decode b_Mo_readsBale 107 = .ok (.ireturn, 1) := by decide +kernel
theorem d_Mo_readsParts_0 : decode b_Mo_readsParts 0 = .ok (.iload_n 1, 1) := by decide +kernel
theorem d_Mo_readsParts_1 : decode b_Mo_readsParts 1 = .ok (.ifCond .ne 7, 3) := by decide +kernel
theorem d_Mo_readsParts_4 : decode b_Mo_readsParts 4 = .ok (.iconst 2, 1) := by decide +kernel
theorem d_Mo_readsParts_5 : decode b_Mo_readsParts 5 = .ok (.goto 4, 3) := by decide +kernel
theorem d_Mo_readsParts_8 : decode b_Mo_readsParts 8 = .ok (.iconst 3, 1) := by decide +kernel
theorem d_Mo_readsParts_9 : decode b_Mo_readsParts 9 = .ok (.istore_n 2, 1) := by decide +kernel
theorem d_Mo_readsParts_10 : decode b_Mo_readsParts 10 = .ok (.iconst 0, 1) := by decide +kernel
theorem d_Mo_readsParts_11 : decode b_Mo_readsParts 11 = .ok (.istore_n 3, 1) := by decide +kernel
theorem d_Mo_readsParts_12 : decode b_Mo_readsParts 12 = .ok (.iconst 0, 1) := by decide +kernel
theorem d_Mo_readsParts_13 : decode b_Mo_readsParts 13 = .ok (.istore 4, 2) := by decide +kernel
theorem d_Mo_readsParts_15 : decode b_Mo_readsParts 15 = .ok (.aload_n 0, 1) := by decide +kernel
theorem d_Mo_readsParts_16 : decode b_Mo_readsParts 16 = .ok (.iload_n 1, 1) := by decide +kernel
theorem d_Mo_readsParts_17 : decode b_Mo_readsParts 17 = .ok (.ifCond .ne 7, 3) := by decide +kernel
theorem d_Mo_readsParts_20 : decode b_Mo_readsParts 20 = .ok (.iconst 0, 1) := by decide +kernel
theorem d_Mo_readsParts_21 : decode b_Mo_readsParts 21 = .ok (.goto 7, 3) := by decide +kernel
theorem d_Mo_readsParts_24 : decode b_Mo_readsParts 24 = .ok (.aload_n 0, 1) := by decide +kernel
theorem d_Mo_readsParts_25 : decode b_Mo_readsParts 25 = .ok (.getfield 127, 3) := by decide +kernel
theorem d_Mo_readsParts_28 : decode b_Mo_readsParts 28 = .ok (.putfield 127, 3) := by decide +kernel
theorem d_Mo_readsParts_31 : decode b_Mo_readsParts 31 = .ok (.aload_n 0, 1) := by decide +kernel
theorem d_Mo_readsParts_32 : decode b_Mo_readsParts 32 = .ok (.iload_n 1, 1) := by decide +kernel
theorem d_Mo_readsParts_33 : decode b_Mo_readsParts 33 = .ok (.iconst 1, 1) := by decide +kernel
theorem d_Mo_readsParts_34 : decode b_Mo_readsParts 34 = .ok (.if_icmp .ne 7, 3) := by decide +kernel
theorem d_Mo_readsParts_37 : decode b_Mo_readsParts 37 = .ok (.iconst 0, 1) := by decide +kernel
theorem d_Mo_readsParts_38 : decode b_Mo_readsParts 38 = .ok (.goto 7, 3) := by decide +kernel
theorem d_Mo_readsParts_41 : decode b_Mo_readsParts 41 = .ok (.aload_n 0, 1) := by decide +kernel
theorem d_Mo_readsParts_42 : decode b_Mo_readsParts 42 = .ok (.getfield 131, 3) := by decide +kernel
theorem d_Mo_readsParts_45 : decode b_Mo_readsParts 45 = .ok (.putfield 131, 3) := by decide +kernel
theorem d_Mo_readsParts_48 : decode b_Mo_readsParts 48 = .ok (.iload 4, 2) := by decide +kernel
theorem d_Mo_readsParts_50 : decode b_Mo_readsParts 50 = .ok (.aload_n 0, 1) := by decide +kernel
theorem d_Mo_readsParts_51 : decode b_Mo_readsParts 51 = .ok (.getfield 7, 3) := by decide +kernel
theorem d_Mo_readsParts_54 : decode b_Mo_readsParts 54 = .ok (.iload_n 1, 1) := by decide +kernel
theorem d_Mo_readsParts_55 : decode b_Mo_readsParts 55 = .ok (.iaload, 1) := by decide +kernel
theorem d_Mo_readsParts_56 : decode b_Mo_readsParts 56 = .ok (.if_icmp .lt 8, 3) := by decide +kernel
theorem d_Mo_readsParts_59 : decode b_Mo_readsParts 59 = .ok (.iload 4, 2) := by decide +kernel
theorem d_Mo_readsParts_61 : decode b_Mo_readsParts 61 = .ok (.ifCond .le 114, 3) := by decide +kernel
theorem d_Mo_readsParts_64 : decode b_Mo_readsParts 64 = .ok (.iload_n 1, 1) := by decide +kernel
theorem d_Mo_readsParts_65 : decode b_Mo_readsParts 65 = .ok (.ifCond .ne 13, 3) := by decide +kernel
theorem d_Mo_readsParts_68 : decode b_Mo_readsParts 68 = .ok (.aload_n 0, 1) := by decide +kernel
theorem d_Mo_readsParts_69 : decode b_Mo_readsParts 69 = .ok (.iload_n 3, 1) := by decide +kernel
theorem d_Mo_readsParts_70 : decode b_Mo_readsParts 70 = .ok (.iload 4, 2) := by decide +kernel
theorem d_Mo_readsParts_72 : decode b_Mo_readsParts 72 = .ok (.invokevirtual 134, 3) := by decide +kernel
theorem d_Mo_readsParts_75 : decode b_Mo_readsParts 75 = .ok (.goto 10, 3) := by decide +kernel
theorem d_Mo_readsParts_78 : decode b_Mo_readsParts 78 = .ok (.aload_n 0, 1) := by decide +kernel
theorem d_Mo_readsParts_79 : decode b_Mo_readsParts 79 = .ok (.iload_n 3, 1) := by decide +kernel
theorem d_Mo_readsParts_80 : decode b_Mo_readsParts 80 = .ok (.iload 4, 2) := by decide +kernel
theorem d_Mo_readsParts_82 : decode b_Mo_readsParts 82 = .ok (.invokevirtual 137, 3) := by decide +kernel
theorem d_Mo_readsParts_85 : decode b_Mo_readsParts 85 = .ok (.istore 5, 2) := by decide +kernel
theorem d_Mo_readsParts_87 : decode b_Mo_readsParts 87 = .ok (.iload 5, 2) := by decide +kernel
theorem d_Mo_readsParts_89 : decode b_Mo_readsParts 89 = .ok (.iload_n 2, 1) := by decide +kernel
theorem d_Mo_readsParts_90 : decode b_Mo_readsParts 90 = .ok (.if_icmp .ge 9, 3) := by decide +kernel
theorem d_Mo_readsParts_93 : decode b_Mo_readsParts 93 = .ok (.iload 4, 2) := by decide +kernel
theorem d_Mo_readsParts_95 : decode b_Mo_readsParts 95 = .ok (.iload 5, 2) := by decide +kernel
theorem d_Mo_readsParts_97 : decode b_Mo_readsParts 97 = .ok (.iadd, 1) := by decide +kernel
theorem d_Mo_readsParts_98 : decode b_Mo_readsParts 98 = .ok (.ireturn, 1) := by decide +kernel
theorem d_Mo_readsParts_99 : decode b_Mo_readsParts 99 = .ok (.iinc 3 1, 3) := by decide +kernel
theorem d_Mo_readsParts_102 : decode b_Mo_readsParts 102 = .ok (.iload 4, 2) := by decide +kernel
theorem d_Mo_readsParts_104 : decode b_Mo_readsParts 104 = .ok (.iload_n 2, 1) := by decide +kernel
theorem d_Mo_readsParts_105 : decode b_Mo_readsParts 105 = .ok (.iadd, 1) := by decide +kernel
theorem d_Mo_readsParts_106 : decode b_Mo_readsParts 106 = .ok (.istore 4, 2) := by decide +kernel
theorem d_Mo_readsParts_108 : decode b_Mo_readsParts 108 = .ok (.iload 4, 2) := by decide +kernel
theorem d_Mo_readsParts_110 : decode b_Mo_readsParts 110 = .ok (.aload_n 0, 1) := by decide +kernel
theorem d_Mo_readsParts_111 : decode b_Mo_readsParts 111 = .ok (.getfield 7, 3) := by decide +kernel
theorem d_Mo_readsParts_114 : decode b_Mo_readsParts 114 = .ok (.iload_n 1, 1) := by decide +kernel
theorem d_Mo_readsParts_115 : decode b_Mo_readsParts 115 = .ok (.iaload, 1) := by decide +kernel
theorem d_Mo_readsParts_116 : decode b_Mo_readsParts 116 = .ok (.if_icmp .ne 38, 3) := by decide +kernel
theorem d_Mo_readsParts_119 : decode b_Mo_readsParts 119 = .ok (.aload_n 0, 1) := by decide +kernel
theorem d_Mo_readsParts_120 : decode b_Mo_readsParts 120 = .ok (.iload_n 1, 1) := by decide +kernel
theorem d_Mo_readsParts_121 : decode b_Mo_readsParts 121 = .ok (.ifCond .ne 7, 3) := by decide +kernel
theorem d_Mo_readsParts_124 : decode b_Mo_readsParts 124 = .ok (.iload_n 3, 1) := by decide +kernel
theorem d_Mo_readsParts_125 : decode b_Mo_readsParts 125 = .ok (.goto 7, 3) := by decide +kernel
theorem d_Mo_readsParts_128 : decode b_Mo_readsParts 128 = .ok (.aload_n 0, 1) := by decide +kernel
theorem d_Mo_readsParts_129 : decode b_Mo_readsParts 129 = .ok (.getfield 127, 3) := by decide +kernel
theorem d_Mo_readsParts_132 : decode b_Mo_readsParts 132 = .ok (.putfield 127, 3) := by decide +kernel
theorem d_Mo_readsParts_135 : decode b_Mo_readsParts 135 = .ok (.aload_n 0, 1) := by decide +kernel
theorem d_Mo_readsParts_136 : decode b_Mo_readsParts 136 = .ok (.iload_n 1, 1) := by decide +kernel
theorem d_Mo_readsParts_137 : decode b_Mo_readsParts 137 = .ok (.iconst 1, 1) := by decide +kernel
theorem d_Mo_readsParts_138 : decode b_Mo_readsParts 138 = .ok (.if_icmp .ne 7, 3) := by decide +kernel
theorem d_Mo_readsParts_141 : decode b_Mo_readsParts 141 = .ok (.iload_n 3, 1) := by decide +kernel
theorem d_Mo_readsParts_142 : decode b_Mo_readsParts 142 = .ok (.goto 7, 3) := by decide +kernel
theorem d_Mo_readsParts_145 : decode b_Mo_readsParts 145 = .ok (.aload_n 0, 1) := by decide +kernel
theorem d_Mo_readsParts_146 : decode b_Mo_readsParts 146 = .ok (.getfield 131, 3) := by decide +kernel
theorem d_Mo_readsParts_149 : decode b_Mo_readsParts 149 = .ok (.putfield 131, 3) := by decide +kernel
theorem d_Mo_readsParts_152 : decode b_Mo_readsParts 152 = .ok (.iconst (-1), 1) := by decide +kernel
theorem d_Mo_readsParts_153 : decode b_Mo_readsParts 153 = .ok (.ireturn, 1) := by decide +kernel
theorem d_Mo_readsParts_154 : decode b_Mo_readsParts 154 = .ok (.aload_n 0, 1) := by decide +kernel
theorem d_Mo_readsParts_155 : decode b_Mo_readsParts 155 = .ok (.iload_n 1, 1) := by decide +kernel
theorem d_Mo_readsParts_156 : decode b_Mo_readsParts 156 = .ok (.iload 4, 2) := by decide +kernel
theorem d_Mo_readsParts_158 : decode b_Mo_readsParts 158 = .ok (.invokevirtual 123, 3) := by decide +kernel
theorem d_Mo_readsParts_161 : decode b_Mo_readsParts 161 = .ok (.bipush 59, 2) := by decide +kernel
theorem d_Mo_readsParts_163 : decode b_Mo_readsParts 163 = .ok (.if_icmp .eq 6, 3) := by decide +kernel
theorem d_Mo_readsParts_166 : decode b_Mo_readsParts 166 = .ok (.iload 4, 2) := by decide +kernel
theorem d_Mo_readsParts_168 : decode b_Mo_readsParts 168 = .ok (.ireturn, 1) := by decide +kernel
theorem d_Mo_readsParts_169 : decode b_Mo_readsParts 169 = .ok (.iinc 4 1, 3) := by decide +kernel
theorem d_Mo_readsParts_172 : decode b_Mo_readsParts 172 = .ok (.goto (-124), 3) := by decide +kernel
theorem d_Mo_readsParts_175 : decode b_Mo_readsParts 175 = .ok (.iconst (-1), 1) := by decide +kernel
theorem d_Mo_readsParts_176 : decode b_Mo_readsParts 176 = .ok (.ireturn, 1) := by decide +kernel
theorem d_Mo_faultOf_0 : decode b_Mo_faultOf 0 = .ok (.aload_n 0, 1) := by decide +kernel
theorem d_Mo_faultOf_1 : decode b_Mo_faultOf 1 = .ok (.iconst 0, 1) := by decide +kernel
theorem d_Mo_faultOf_2 : decode b_Mo_faultOf 2 = .ok (.invokevirtual 140, 3) := by decide +kernel
theorem d_Mo_faultOf_5 : decode b_Mo_faultOf 5 = .ok (.istore_n 2, 1) := by decide +kernel
theorem d_Mo_faultOf_6 : decode b_Mo_faultOf 6 = .ok (.aload_n 0, 1) := by decide +kernel
theorem d_Mo_faultOf_7 : decode b_Mo_faultOf 7 = .ok (.iconst 1, 1) := by decide +kernel
theorem d_Mo_faultOf_8 : decode b_Mo_faultOf 8 = .ok (.invokevirtual 140, 3) := by decide +kernel
theorem d_Mo_faultOf_11 : decode b_Mo_faultOf 11 = .ok (.istore_n 3, 1) := by decide +kernel
theorem d_Mo_faultOf_12 : decode b_Mo_faultOf 12 = .ok (.iload_n 1, 1) := by decide +kernel
theorem d_Mo_faultOf_13 : decode b_Mo_faultOf 13 = .ok (.ifCond .ne 7, 3) := by decide +kernel
theorem d_Mo_faultOf_16 : decode b_Mo_faultOf 16 = .ok (.iload_n 2, 1) := by decide +kernel
theorem d_Mo_faultOf_17 : decode b_Mo_faultOf 17 = .ok (.goto 4, 3) := by decide +kernel
theorem d_Mo_faultOf_20 : decode b_Mo_faultOf 20 = .ok (.iload_n 3, 1) := by decide +kernel
theorem d_Mo_faultOf_21 : decode b_Mo_faultOf 21 = .ok (.ireturn, 1) := by decide +kernel
theorem d_Mo_fault_0 : decode b_Mo_fault 0 = .ok (.iload_n 1, 1) := by decide +kernel
theorem d_Mo_fault_1 : decode b_Mo_fault 1 = .ok (.invokestatic 119, 3) := by decide +kernel
theorem d_Mo_fault_4 : decode b_Mo_fault 4 = .ok (.ifCond .eq 11, 3) := by decide +kernel
theorem d_Mo_fault_7 : decode b_Mo_fault 7 = .ok (.aload_n 0, 1) := by decide +kernel
theorem d_Mo_fault_8 : decode b_Mo_fault 8 = .ok (.iload_n 1, 1) := by decide +kernel
theorem d_Mo_fault_9 : decode b_Mo_fault 9 = .ok (.invokevirtual 144, 3) := by decide +kernel
theorem d_Mo_fault_12 : decode b_Mo_fault 12 = .ok (.goto 5, 3) := by decide +kernel
theorem d_Mo_fault_15 : decode b_Mo_fault 15 = .ok (.bipush (-2), 2) := by decide +kernel
theorem d_Mo_fault_17 : decode b_Mo_fault 17 = .ok (.ireturn, 1) := by decide +kernel
theorem d_Mo_reads_0 : decode b_Mo_reads 0 = .ok (.aload_n 0, 1) := by decide +kernel
theorem d_Mo_reads_1 : decode b_Mo_reads 1 = .ok (.iconst 0, 1) := by decide +kernel
theorem d_Mo_reads_2 : decode b_Mo_reads 2 = .ok (.invokevirtual 144, 3) := by decide +kernel
theorem d_Mo_reads_5 : decode b_Mo_reads 5 = .ok (.istore_n 1, 1) := by decide +kernel
theorem d_Mo_reads_6 : decode b_Mo_reads 6 = .ok (.return_, 1) := by decide +kernel
theorem d_Mo_isCamel_0 : decode b_Mo_isCamel 0 = .ok (.aload_n 0, 1) := by decide +kernel
theorem d_Mo_isCamel_1 : decode b_Mo_isCamel 1 = .ok (.invokevirtual 147, 3) := by decide +kernel
theorem d_Mo_isCamel_4 : decode b_Mo_isCamel 4 = .ok (.iload_n 1, 1) := by decide +kernel
theorem d_Mo_isCamel_5 : decode b_Mo_isCamel 5 = .ok (.iconst 0, 1) := by decide +kernel
theorem d_Mo_isCamel_6 : decode b_Mo_isCamel 6 = .ok (.aload_n 0, 1) := by decide +kernel
theorem d_Mo_isCamel_7 : decode b_Mo_isCamel 7 = .ok (.getfield 127, 3) := by decide +kernel
theorem d_Mo_isCamel_10 : decode b_Mo_isCamel 10 = .ok (.iconst 1, 1) := by decide +kernel
theorem d_Mo_isCamel_11 : decode b_Mo_isCamel 11 = .ok (.isub, 1) := by decide +kernel
theorem d_Mo_isCamel_12 : decode b_Mo_isCamel 12 = .ok (.invokestatic 115, 3) := by decide +kernel
theorem d_Mo_isCamel_15 : decode b_Mo_isCamel 15 = .ok (.ireturn, 1) := by decide +kernel
theorem d_Mo_isTwo_0 : decode b_Mo_isTwo 0 = .ok (.iload_n 0, 1) := by decide +kernel
theorem d_Mo_isTwo_1 : decode b_Mo_isTwo 1 = .ok (.iconst 0, 1) := by decide +kernel
theorem d_Mo_isTwo_2 : decode b_Mo_isTwo 2 = .ok (.iconst 1, 1) := by decide +kernel
theorem d_Mo_isTwo_3 : decode b_Mo_isTwo 3 = .ok (.invokestatic 115, 3) := by decide +kernel
theorem d_Mo_isTwo_6 : decode b_Mo_isTwo 6 = .ok (.ireturn, 1) := by decide +kernel
theorem d_Mo_camelOf_0 : decode b_Mo_camelOf 0 = .ok (.iload_n 2, 1) := by decide +kernel
theorem d_Mo_camelOf_1 : decode b_Mo_camelOf 1 = .ok (.ifCond .ne 12, 3) := by decide +kernel
theorem d_Mo_camelOf_4 : decode b_Mo_camelOf 4 = .ok (.aload_n 0, 1) := by decide +kernel
theorem d_Mo_camelOf_5 : decode b_Mo_camelOf 5 = .ok (.getfield 16, 3) := by decide +kernel
theorem d_Mo_camelOf_8 : decode b_Mo_camelOf 8 = .ok (.iload_n 1, 1) := by decide +kernel
theorem d_Mo_camelOf_9 : decode b_Mo_camelOf 9 = .ok (.iaload, 1) := by decide +kernel
theorem d_Mo_camelOf_10 : decode b_Mo_camelOf 10 = .ok (.goto 11, 3) := by decide +kernel
theorem d_Mo_camelOf_13 : decode b_Mo_camelOf 13 = .ok (.iconst 4, 1) := by decide +kernel
theorem d_Mo_camelOf_14 : decode b_Mo_camelOf 14 = .ok (.aload_n 0, 1) := by decide +kernel
theorem d_Mo_camelOf_15 : decode b_Mo_camelOf 15 = .ok (.getfield 19, 3) := by decide +kernel
theorem d_Mo_camelOf_18 : decode b_Mo_camelOf 18 = .ok (.iload_n 1, 1) := by decide +kernel
theorem d_Mo_camelOf_19 : decode b_Mo_camelOf 19 = .ok (.iaload, 1) := by decide +kernel
theorem d_Mo_camelOf_20 : decode b_Mo_camelOf 20 = .ok (.imul, 1) := by decide +kernel
theorem d_Mo_camelOf_21 : decode b_Mo_camelOf 21 = .ok (.ireturn, 1) := by decide +kernel
theorem d_Mo_camel_0 : decode b_Mo_camel 0 = .ok (.aload_n 0, 1) := by decide +kernel
theorem d_Mo_camel_1 : decode b_Mo_camel 1 = .ok (.iload_n 1, 1) := by decide +kernel
theorem d_Mo_camel_2 : decode b_Mo_camel 2 = .ok (.invokevirtual 150, 3) := by decide +kernel
theorem d_Mo_camel_5 : decode b_Mo_camel 5 = .ok (.ifCond .eq 19, 3) := by decide +kernel
theorem d_Mo_camel_8 : decode b_Mo_camel 8 = .ok (.iload_n 2, 1) := by decide +kernel
theorem d_Mo_camel_9 : decode b_Mo_camel 9 = .ok (.invokestatic 153, 3) := by decide +kernel
theorem d_Mo_camel_12 : decode b_Mo_camel 12 = .ok (.ifCond .eq 12, 3) := by decide +kernel
theorem d_Mo_camel_15 : decode b_Mo_camel 15 = .ok (.aload_n 0, 1) := by decide +kernel
theorem d_Mo_camel_16 : decode b_Mo_camel 16 = .ok (.iload_n 1, 1) := by decide +kernel
theorem d_Mo_camel_17 : decode b_Mo_camel 17 = .ok (.iload_n 2, 1) := by decide +kernel
theorem d_Mo_camel_18 : decode b_Mo_camel 18 = .ok (.invokevirtual 156, 3) := by decide +kernel
theorem d_Mo_camel_21 : decode b_Mo_camel 21 = .ok (.goto 5, 3) := by decide +kernel
theorem d_Mo_camel_24 : decode b_Mo_camel 24 = .ok (.bipush (-2), 2) := by decide +kernel
theorem d_Mo_camel_26 : decode b_Mo_camel 26 = .ok (.ireturn, 1) := by decide +kernel
theorem d_Mo_isBale_0 : decode b_Mo_isBale 0 = .ok (.aload_n 0, 1) := by decide +kernel
theorem d_Mo_isBale_1 : decode b_Mo_isBale 1 = .ok (.invokevirtual 147, 3) := by decide +kernel
theorem d_Mo_isBale_4 : decode b_Mo_isBale 4 = .ok (.iload_n 1, 1) := by decide +kernel
theorem d_Mo_isBale_5 : decode b_Mo_isBale 5 = .ok (.iconst 0, 1) := by decide +kernel
theorem d_Mo_isBale_6 : decode b_Mo_isBale 6 = .ok (.aload_n 0, 1) := by decide +kernel
theorem d_Mo_isBale_7 : decode b_Mo_isBale 7 = .ok (.getfield 131, 3) := by decide +kernel
theorem d_Mo_isBale_10 : decode b_Mo_isBale 10 = .ok (.iconst 1, 1) := by decide +kernel
theorem d_Mo_isBale_11 : decode b_Mo_isBale 11 = .ok (.isub, 1) := by decide +kernel
theorem d_Mo_isBale_12 : decode b_Mo_isBale 12 = .ok (.invokestatic 115, 3) := by decide +kernel
theorem d_Mo_isBale_15 : decode b_Mo_isBale 15 = .ok (.ireturn, 1) := by decide +kernel
theorem d_Mo_baleOf_0 : decode b_Mo_baleOf 0 = .ok (.iload_n 2, 1) := by decide +kernel
theorem d_Mo_baleOf_1 : decode b_Mo_baleOf 1 = .ok (.ifCond .ne 12, 3) := by decide +kernel
theorem d_Mo_baleOf_4 : decode b_Mo_baleOf 4 = .ok (.aload_n 0, 1) := by decide +kernel
theorem d_Mo_baleOf_5 : decode b_Mo_baleOf 5 = .ok (.getfield 22, 3) := by decide +kernel
theorem d_Mo_baleOf_8 : decode b_Mo_baleOf 8 = .ok (.iload_n 1, 1) := by decide +kernel
theorem d_Mo_baleOf_9 : decode b_Mo_baleOf 9 = .ok (.iaload, 1) := by decide +kernel
theorem d_Mo_baleOf_10 : decode b_Mo_baleOf 10 = .ok (.goto 23, 3) := by decide +kernel
theorem d_Mo_baleOf_13 : decode b_Mo_baleOf 13 = .ok (.iload_n 2, 1) := by decide +kernel
theorem d_Mo_baleOf_14 : decode b_Mo_baleOf 14 = .ok (.iconst 1, 1) := by decide +kernel
theorem d_Mo_baleOf_15 : decode b_Mo_baleOf 15 = .ok (.if_icmp .ne 12, 3) := by decide +kernel
theorem d_Mo_baleOf_18 : decode b_Mo_baleOf 18 = .ok (.aload_n 0, 1) := by decide +kernel
theorem d_Mo_baleOf_19 : decode b_Mo_baleOf 19 = .ok (.getfield 25, 3) := by decide +kernel
theorem d_Mo_baleOf_22 : decode b_Mo_baleOf 22 = .ok (.iload_n 1, 1) := by decide +kernel
theorem d_Mo_baleOf_23 : decode b_Mo_baleOf 23 = .ok (.iaload, 1) := by decide +kernel
theorem d_Mo_baleOf_24 : decode b_Mo_baleOf 24 = .ok (.goto 9, 3) := by decide +kernel
theorem d_Mo_baleOf_27 : decode b_Mo_baleOf 27 = .ok (.aload_n 0, 1) := by decide +kernel
theorem d_Mo_baleOf_28 : decode b_Mo_baleOf 28 = .ok (.getfield 28, 3) := by decide +kernel
theorem d_Mo_baleOf_31 : decode b_Mo_baleOf 31 = .ok (.iload_n 1, 1) := by decide +kernel
theorem d_Mo_baleOf_32 : decode b_Mo_baleOf 32 = .ok (.iaload, 1) := by decide +kernel
theorem d_Mo_baleOf_33 : decode b_Mo_baleOf 33 = .ok (.ireturn, 1) := by decide +kernel
theorem d_Mo_bale_0 : decode b_Mo_bale 0 = .ok (.aload_n 0, 1) := by decide +kernel
theorem d_Mo_bale_1 : decode b_Mo_bale 1 = .ok (.iload_n 1, 1) := by decide +kernel
theorem d_Mo_bale_2 : decode b_Mo_bale 2 = .ok (.invokevirtual 159, 3) := by decide +kernel
theorem d_Mo_bale_5 : decode b_Mo_bale 5 = .ok (.ifCond .eq 21, 3) := by decide +kernel
theorem d_Mo_bale_8 : decode b_Mo_bale 8 = .ok (.iload_n 2, 1) := by decide +kernel
theorem d_Mo_bale_9 : decode b_Mo_bale 9 = .ok (.iconst 0, 1) := by decide +kernel
theorem d_Mo_bale_10 : decode b_Mo_bale 10 = .ok (.iconst 2, 1) := by decide +kernel
theorem d_Mo_bale_11 : decode b_Mo_bale 11 = .ok (.invokestatic 115, 3) := by decide +kernel
theorem d_Mo_bale_14 : decode b_Mo_bale 14 = .ok (.ifCond .eq 12, 3) := by decide +kernel
theorem d_Mo_bale_17 : decode b_Mo_bale 17 = .ok (.aload_n 0, 1) := by decide +kernel
theorem d_Mo_bale_18 : decode b_Mo_bale 18 = .ok (.iload_n 1, 1) := by decide +kernel
theorem d_Mo_bale_19 : decode b_Mo_bale 19 = .ok (.iload_n 2, 1) := by decide +kernel
theorem d_Mo_bale_20 : decode b_Mo_bale 20 = .ok (.invokevirtual 162, 3) := by decide +kernel
theorem d_Mo_bale_23 : decode b_Mo_bale 23 = .ok (.goto 5, 3) := by decide +kernel
theorem d_Mo_bale_26 : decode b_Mo_bale 26 = .ok (.bipush (-2), 2) := by decide +kernel
theorem d_Mo_bale_28 : decode b_Mo_bale 28 = .ok (.ireturn, 1) := by decide +kernel
theorem d_Mo_isDay_0 : decode b_Mo_isDay 0 = .ok (.iload_n 0, 1) := by decide +kernel
theorem d_Mo_isDay_1 : decode b_Mo_isDay 1 = .ok (.iconst 0, 1) := by decide +kernel
theorem d_Mo_isDay_2 : decode b_Mo_isDay 2 = .ok (.bipush 23, 2) := by decide +kernel
theorem d_Mo_isDay_4 : decode b_Mo_isDay 4 = .ok (.invokestatic 115, 3) := by decide +kernel
theorem d_Mo_isDay_7 : decode b_Mo_isDay 7 = .ok (.ireturn, 1) := by decide +kernel
theorem d_Mo_isEight_0 : decode b_Mo_isEight 0 = .ok (.iload_n 0, 1) := by decide +kernel
theorem d_Mo_isEight_1 : decode b_Mo_isEight 1 = .ok (.iconst 0, 1) := by decide +kernel
theorem d_Mo_isEight_2 : decode b_Mo_isEight 2 = .ok (.bipush 7, 2) := by decide +kernel
theorem d_Mo_isEight_4 : decode b_Mo_isEight 4 = .ok (.invokestatic 115, 3) := by decide +kernel
theorem d_Mo_isEight_7 : decode b_Mo_isEight 7 = .ok (.ireturn, 1) := by decide +kernel
theorem d_Mo_straw_0 : decode b_Mo_straw 0 = .ok (.iload_n 1, 1) := by decide +kernel
theorem d_Mo_straw_1 : decode b_Mo_straw 1 = .ok (.invokestatic 165, 3) := by decide +kernel
theorem d_Mo_straw_4 : decode b_Mo_straw 4 = .ok (.ifCond .eq 10, 3) := by decide +kernel
theorem d_Mo_straw_7 : decode b_Mo_straw 7 = .ok (.iload_n 2, 1) := by decide +kernel
theorem d_Mo_straw_8 : decode b_Mo_straw 8 = .ok (.invokestatic 168, 3) := by decide +kernel
theorem d_Mo_straw_11 : decode b_Mo_straw 11 = .ok (.ifCond .ne 6, 3) := by decide +kernel
theorem d_Mo_straw_14 : decode b_Mo_straw 14 = .ok (.bipush (-2), 2) := by decide +kernel
theorem d_Mo_straw_16 : decode b_Mo_straw 16 = .ok (.ireturn, 1) := by decide +kernel
theorem d_Mo_straw_17 : decode b_Mo_straw 17 = .ok (.aload_n 0, 1) := by decide +kernel
theorem d_Mo_straw_18 : decode b_Mo_straw 18 = .ok (.getfield 171, 3) := by decide +kernel
theorem d_Mo_straw_21 : decode b_Mo_straw 21 = .ok (.bipush 8, 2) := by decide +kernel
theorem d_Mo_straw_23 : decode b_Mo_straw 23 = .ok (.if_icmp .ne 6, 3) := by decide +kernel
theorem d_Mo_straw_26 : decode b_Mo_straw 26 = .ok (.bipush (-4), 2) := by decide +kernel
theorem d_Mo_straw_28 : decode b_Mo_straw 28 = .ok (.ireturn, 1) := by decide +kernel
theorem d_Mo_straw_29 : decode b_Mo_straw 29 = .ok (.aload_n 0, 1) := by decide +kernel
theorem d_Mo_straw_30 : decode b_Mo_straw 30 = .ok (.getfield 31, 3) := by decide +kernel
theorem d_Mo_straw_33 : decode b_Mo_straw 33 = .ok (.aload_n 0, 1) := by decide +kernel
theorem d_Mo_straw_34 : decode b_Mo_straw 34 = .ok (.getfield 171, 3) := by decide +kernel
theorem d_Mo_straw_37 : decode b_Mo_straw 37 = .ok (.iload_n 1, 1) := by decide +kernel
theorem d_Mo_straw_38 : decode b_Mo_straw 38 = .ok (.iastore, 1) := by decide +kernel
theorem d_Mo_straw_39 : decode b_Mo_straw 39 = .ok (.aload_n 0, 1) := by decide +kernel
theorem d_Mo_straw_40 : decode b_Mo_straw 40 = .ok (.getfield 34, 3) := by decide +kernel
theorem d_Mo_straw_43 : decode b_Mo_straw 43 = .ok (.aload_n 0, 1) := by decide +kernel
theorem d_Mo_straw_44 : decode b_Mo_straw 44 = .ok (.getfield 171, 3) := by decide +kernel
theorem d_Mo_straw_47 : decode b_Mo_straw 47 = .ok (.iload_n 2, 1) := by decide +kernel
theorem d_Mo_straw_48 : decode b_Mo_straw 48 = .ok (.iastore, 1) := by decide +kernel
theorem d_Mo_straw_49 : decode b_Mo_straw 49 = .ok (.aload_n 0, 1) := by decide +kernel
theorem d_Mo_straw_50 : decode b_Mo_straw 50 = .ok (.dup, 1) := by decide +kernel
theorem d_Mo_straw_51 : decode b_Mo_straw 51 = .ok (.getfield 171, 3) := by decide +kernel
theorem d_Mo_straw_54 : decode b_Mo_straw 54 = .ok (.iconst 1, 1) := by decide +kernel
theorem d_Mo_straw_55 : decode b_Mo_straw 55 = .ok (.iadd, 1) := by decide +kernel
theorem d_Mo_straw_56 : decode b_Mo_straw 56 = .ok (.putfield 171, 3) := by decide +kernel
theorem d_Mo_straw_59 : decode b_Mo_straw 59 = .ok (.aload_n 0, 1) := by decide +kernel
theorem d_Mo_straw_60 : decode b_Mo_straw 60 = .ok (.getfield 171, 3) := by decide +kernel
theorem d_Mo_straw_63 : decode b_Mo_straw 63 = .ok (.ireturn, 1) := by decide +kernel
theorem d_Mo_back_0 : decode b_Mo_back 0 = .ok (.aload_n 0, 1) := by decide +kernel
theorem d_Mo_back_1 : decode b_Mo_back 1 = .ok (.getfield 171, 3) := by decide +kernel
theorem d_Mo_back_4 : decode b_Mo_back 4 = .ok (.ifCond .ne 6, 3) := by decide +kernel
theorem d_Mo_back_7 : decode b_Mo_back 7 = .ok (.bipush (-3), 2) := by decide +kernel
theorem d_Mo_back_9 : decode b_Mo_back 9 = .ok (.ireturn, 1) := by decide +kernel
theorem d_Mo_back_10 : decode b_Mo_back 10 = .ok (.aload_n 0, 1) := by decide +kernel
theorem d_Mo_back_11 : decode b_Mo_back 11 = .ok (.dup, 1) := by decide +kernel
theorem d_Mo_back_12 : decode b_Mo_back 12 = .ok (.getfield 171, 3) := by decide +kernel
theorem d_Mo_back_15 : decode b_Mo_back 15 = .ok (.iconst 1, 1) := by decide +kernel
theorem d_Mo_back_16 : decode b_Mo_back 16 = .ok (.isub, 1) := by decide +kernel
theorem d_Mo_back_17 : decode b_Mo_back 17 = .ok (.putfield 171, 3) := by decide +kernel
theorem d_Mo_back_20 : decode b_Mo_back 20 = .ok (.aload_n 0, 1) := by decide +kernel
theorem d_Mo_back_21 : decode b_Mo_back 21 = .ok (.getfield 171, 3) := by decide +kernel
theorem d_Mo_back_24 : decode b_Mo_back 24 = .ok (.ireturn, 1) := by decide +kernel
theorem d_Mo_isSheet_0 : decode b_Mo_isSheet 0 = .ok (.iload_n 0, 1) := by decide +kernel
theorem d_Mo_isSheet_1 : decode b_Mo_isSheet 1 = .ok (.iconst 0, 1) := by decide +kernel
theorem d_Mo_isSheet_2 : decode b_Mo_isSheet 2 = .ok (.iconst 3, 1) := by decide +kernel
theorem d_Mo_isSheet_3 : decode b_Mo_isSheet 3 = .ok (.invokestatic 115, 3) := by decide +kernel
theorem d_Mo_isSheet_6 : decode b_Mo_isSheet 6 = .ok (.ireturn, 1) := by decide +kernel
theorem d_Mo_meets_0 : decode b_Mo_meets 0 = .ok (.aload_n 0, 1) := by decide +kernel
theorem d_Mo_meets_1 : decode b_Mo_meets 1 = .ok (.iload_n 1, 1) := by decide +kernel
theorem d_Mo_meets_2 : decode b_Mo_meets 2 = .ok (.putfield 329, 3) := by decide +kernel
theorem d_Mo_meets_5 : decode b_Mo_meets 5 = .ok (.bipush (-10), 2) := by decide +kernel
theorem d_Mo_meets_7 : decode b_Mo_meets 7 = .ok (.iload_n 1, 1) := by decide +kernel
theorem d_Mo_meets_8 : decode b_Mo_meets 8 = .ok (.isub, 1) := by decide +kernel
theorem d_Mo_meets_9 : decode b_Mo_meets 9 = .ok (.ireturn, 1) := by decide +kernel
theorem d_Mo_read_0 : decode b_Mo_read 0 = .ok (.iload_n 1, 1) := by decide +kernel
theorem d_Mo_read_1 : decode b_Mo_read 1 = .ok (.invokestatic 174, 3) := by decide +kernel
theorem d_Mo_read_4 : decode b_Mo_read 4 = .ok (.ifCond .ne 6, 3) := by decide +kernel
theorem d_Mo_read_7 : decode b_Mo_read 7 = .ok (.bipush (-2), 2) := by decide +kernel
theorem d_Mo_read_9 : decode b_Mo_read 9 = .ok (.ireturn, 1) := by decide +kernel
theorem d_Mo_read_10 : decode b_Mo_read 10 = .ok (.aload_n 0, 1) := by decide +kernel
theorem d_Mo_read_11 : decode b_Mo_read 11 = .ok (.getfield 97, 3) := by decide +kernel
theorem d_Mo_read_14 : decode b_Mo_read 14 = .ok (.iload_n 1, 1) := by decide +kernel
theorem d_Mo_read_15 : decode b_Mo_read 15 = .ok (.baload, 1) := by decide +kernel
theorem d_Mo_read_16 : decode b_Mo_read 16 = .ok (.ifCond .ne 9, 3) := by decide +kernel
theorem d_Mo_read_19 : decode b_Mo_read 19 = .ok (.aload_n 0, 1) := by decide +kernel
theorem d_Mo_read_20 : decode b_Mo_read 20 = .ok (.iconst 1, 1) := by decide +kernel
theorem d_Mo_read_21 : decode b_Mo_read 21 = .ok (.invokevirtual 177, 3) := by decide +kernel
theorem d_Mo_read_24 : decode b_Mo_read 24 = .ok (.ireturn, 1) := by decide +kernel
theorem d_Mo_read_25 : decode b_Mo_read 25 = .ok (.iconst 0, 1) := by decide +kernel
theorem d_Mo_read_26 : decode b_Mo_read 26 = .ok (.istore_n 2, 1) := by decide +kernel
theorem d_Mo_read_27 : decode b_Mo_read 27 = .ok (.iconst 2, 1) := by decide +kernel
theorem d_Mo_read_28 : decode b_Mo_read 28 = .ok (.iload_n 2, 1) := by decide +kernel
theorem d_Mo_read_29 : decode b_Mo_read 29 = .ok (.imul, 1) := by decide +kernel
theorem d_Mo_read_30 : decode b_Mo_read 30 = .ok (.iconst 1, 1) := by decide +kernel
theorem d_Mo_read_31 : decode b_Mo_read 31 = .ok (.iadd, 1) := by decide +kernel
theorem d_Mo_read_32 : decode b_Mo_read 32 = .ok (.aload_n 0, 1) := by decide +kernel
theorem d_Mo_read_33 : decode b_Mo_read 33 = .ok (.getfield 104, 3) := by decide +kernel
theorem d_Mo_read_36 : decode b_Mo_read 36 = .ok (.iload_n 1, 1) := by decide +kernel
theorem d_Mo_read_37 : decode b_Mo_read 37 = .ok (.iaload, 1) := by decide +kernel
theorem d_Mo_read_38 : decode b_Mo_read 38 = .ok (.if_icmp .ge 44, 3) := by decide +kernel
theorem d_Mo_read_41 : decode b_Mo_read 41 = .ok (.aload_n 0, 1) := by decide +kernel
theorem d_Mo_read_42 : decode b_Mo_read 42 = .ok (.aload_n 0, 1) := by decide +kernel
theorem d_Mo_read_43 : decode b_Mo_read 43 = .ok (.getfield 107, 3) := by decide +kernel
theorem d_Mo_read_46 : decode b_Mo_read 46 = .ok (.bipush 60, 2) := by decide +kernel
theorem d_Mo_read_48 : decode b_Mo_read 48 = .ok (.iload_n 1, 1) := by decide +kernel
theorem d_Mo_read_49 : decode b_Mo_read 49 = .ok (.imul, 1) := by decide +kernel
theorem d_Mo_read_50 : decode b_Mo_read 50 = .ok (.iconst 2, 1) := by decide +kernel
theorem d_Mo_read_51 : decode b_Mo_read 51 = .ok (.iload_n 2, 1) := by decide +kernel
theorem d_Mo_read_52 : decode b_Mo_read 52 = .ok (.imul, 1) := by decide +kernel
theorem d_Mo_read_53 : decode b_Mo_read 53 = .ok (.iadd, 1) := by decide +kernel
theorem d_Mo_read_54 : decode b_Mo_read 54 = .ok (.iaload, 1) := by decide +kernel
theorem d_Mo_read_55 : decode b_Mo_read 55 = .ok (.aload_n 0, 1) := by decide +kernel
theorem d_Mo_read_56 : decode b_Mo_read 56 = .ok (.getfield 107, 3) := by decide +kernel
theorem d_Mo_read_59 : decode b_Mo_read 59 = .ok (.bipush 60, 2) := by decide +kernel
theorem d_Mo_read_61 : decode b_Mo_read 61 = .ok (.iload_n 1, 1) := by decide +kernel
theorem d_Mo_read_62 : decode b_Mo_read 62 = .ok (.imul, 1) := by decide +kernel
theorem d_Mo_read_63 : decode b_Mo_read 63 = .ok (.iconst 2, 1) := by decide +kernel
theorem d_Mo_read_64 : decode b_Mo_read 64 = .ok (.iload_n 2, 1) := by decide +kernel
theorem d_Mo_read_65 : decode b_Mo_read 65 = .ok (.imul, 1) := by decide +kernel
theorem d_Mo_read_66 : decode b_Mo_read 66 = .ok (.iadd, 1) := by decide +kernel
theorem d_Mo_read_67 : decode b_Mo_read 67 = .ok (.iconst 1, 1) := by decide +kernel
theorem d_Mo_read_68 : decode b_Mo_read 68 = .ok (.iadd, 1) := by decide +kernel
theorem d_Mo_read_69 : decode b_Mo_read 69 = .ok (.iaload, 1) := by decide +kernel
theorem d_Mo_read_70 : decode b_Mo_read 70 = .ok (.invokevirtual 180, 3) := by decide +kernel
theorem d_Mo_read_73 : decode b_Mo_read 73 = .ok (.ifCond .le 9, 3) := by decide +kernel
theorem d_Mo_read_76 : decode b_Mo_read 76 = .ok (.iinc 2 1, 3) := by decide +kernel
theorem d_Mo_read_79 : decode b_Mo_read 79 = .ok (.goto (-52), 3) := by decide +kernel
theorem d_Mo_read_82 : decode b_Mo_read 82 = .ok (.iload_n 2, 1) := by decide +kernel
theorem d_Mo_read_83 : decode b_Mo_read 83 = .ok (.ireturn, 1) := by decide +kernel
theorem d_Mo_asTold_0 : decode b_Mo_asTold 0 = .ok (.aload_n 0, 1) := by decide +kernel
theorem d_Mo_asTold_1 : decode b_Mo_asTold 1 = .ok (.invokevirtual 147, 3) := by decide +kernel
theorem d_Mo_asTold_4 : decode b_Mo_asTold 4 = .ok (.aload_n 0, 1) := by decide +kernel
theorem d_Mo_asTold_5 : decode b_Mo_asTold 5 = .ok (.aload_n 0, 1) := by decide +kernel
theorem d_Mo_asTold_6 : decode b_Mo_asTold 6 = .ok (.getfield 171, 3) := by decide +kernel
theorem d_Mo_asTold_9 : decode b_Mo_asTold 9 = .ok (.putfield 183, 3) := by decide +kernel
theorem d_Mo_asTold_12 : decode b_Mo_asTold 12 = .ok (.iconst 0, 1) := by decide +kernel
theorem d_Mo_asTold_13 : decode b_Mo_asTold 13 = .ok (.istore_n 1, 1) := by decide +kernel
theorem d_Mo_asTold_14 : decode b_Mo_asTold 14 = .ok (.iload_n 1, 1) := by decide +kernel
theorem d_Mo_asTold_15 : decode b_Mo_asTold 15 = .ok (.aload_n 0, 1) := by decide +kernel
theorem d_Mo_asTold_16 : decode b_Mo_asTold 16 = .ok (.getfield 171, 3) := by decide +kernel
theorem d_Mo_asTold_19 : decode b_Mo_asTold 19 = .ok (.if_icmp .ge 33, 3) := by decide +kernel
theorem d_Mo_asTold_22 : decode b_Mo_asTold 22 = .ok (.aload_n 0, 1) := by decide +kernel
theorem d_Mo_asTold_23 : decode b_Mo_asTold 23 = .ok (.getfield 37, 3) := by decide +kernel
theorem d_Mo_asTold_26 : decode b_Mo_asTold 26 = .ok (.iload_n 1, 1) := by decide +kernel
theorem d_Mo_asTold_27 : decode b_Mo_asTold 27 = .ok (.aload_n 0, 1) := by decide +kernel
theorem d_Mo_asTold_28 : decode b_Mo_asTold 28 = .ok (.getfield 31, 3) := by decide +kernel
theorem d_Mo_asTold_31 : decode b_Mo_asTold 31 = .ok (.iload_n 1, 1) := by decide +kernel
theorem d_Mo_asTold_32 : decode b_Mo_asTold 32 = .ok (.iaload, 1) := by decide +kernel
theorem d_Mo_asTold_33 : decode b_Mo_asTold 33 = .ok (.iastore, 1) := by decide +kernel
theorem d_Mo_asTold_34 : decode b_Mo_asTold 34 = .ok (.aload_n 0, 1) := by decide +kernel
theorem d_Mo_asTold_35 : decode b_Mo_asTold 35 = .ok (.getfield 40, 3) := by decide +kernel
theorem d_Mo_asTold_38 : decode b_Mo_asTold 38 = .ok (.iload_n 1, 1) := by decide +kernel
theorem d_Mo_asTold_39 : decode b_Mo_asTold 39 = .ok (.aload_n 0, 1) := by decide +kernel
theorem d_Mo_asTold_40 : decode b_Mo_asTold 40 = .ok (.getfield 34, 3) := by decide +kernel
theorem d_Mo_asTold_43 : decode b_Mo_asTold 43 = .ok (.iload_n 1, 1) := by decide +kernel
theorem d_Mo_asTold_44 : decode b_Mo_asTold 44 = .ok (.iaload, 1) := by decide +kernel
theorem d_Mo_asTold_45 : decode b_Mo_asTold 45 = .ok (.iastore, 1) := by decide +kernel
theorem d_Mo_asTold_46 : decode b_Mo_asTold 46 = .ok (.iinc 1 1, 3) := by decide +kernel
theorem d_Mo_asTold_49 : decode b_Mo_asTold 49 = .ok (.goto (-35), 3) := by decide +kernel
theorem d_Mo_asTold_52 : decode b_Mo_asTold 52 = .ok (.aload_n 0, 1) := by decide +kernel
theorem d_Mo_asTold_53 : decode b_Mo_asTold 53 = .ok (.iconst 0, 1) := by decide +kernel
theorem d_Mo_asTold_54 : decode b_Mo_asTold 54 = .ok (.putfield 186, 3) := by decide +kernel
theorem d_Mo_asTold_57 : decode b_Mo_asTold 57 = .ok (.return_, 1) := by decide +kernel
theorem d_Mo_takes_0 : decode b_Mo_takes 0 = .ok (.iload_n 1, 1) := by decide +kernel
theorem d_Mo_takes_1 : decode b_Mo_takes 1 = .ok (.aload_n 0, 1) := by decide +kernel
theorem d_Mo_takes_2 : decode b_Mo_takes 2 = .ok (.getfield 127, 3) := by decide +kernel
theorem d_Mo_takes_5 : decode b_Mo_takes 5 = .ok (.if_icmp .ge 16, 3) := by decide +kernel
theorem d_Mo_takes_8 : decode b_Mo_takes 8 = .ok (.aload_n 0, 1) := by decide +kernel
theorem d_Mo_takes_9 : decode b_Mo_takes 9 = .ok (.getfield 49, 3) := by decide +kernel
theorem d_Mo_takes_12 : decode b_Mo_takes 12 = .ok (.iload_n 1, 1) := by decide +kernel
theorem d_Mo_takes_13 : decode b_Mo_takes 13 = .ok (.iaload, 1) := by decide +kernel
theorem d_Mo_takes_14 : decode b_Mo_takes 14 = .ok (.ifCond .ne 7, 3) := by decide +kernel
theorem d_Mo_takes_17 : decode b_Mo_takes 17 = .ok (.iconst 1, 1) := by decide +kernel
theorem d_Mo_takes_18 : decode b_Mo_takes 18 = .ok (.goto 4, 3) := by decide +kernel
theorem d_Mo_takes_21 : decode b_Mo_takes 21 = .ok (.iconst 0, 1) := by decide +kernel
theorem d_Mo_takes_22 : decode b_Mo_takes 22 = .ok (.ireturn, 1) := by decide +kernel
theorem d_Mo_breaks_0 : decode b_Mo_breaks 0 = .ok (.aload_n 0, 1) := by decide +kernel
theorem d_Mo_breaks_1 : decode b_Mo_breaks 1 = .ok (.getfield 43, 3) := by decide +kernel
theorem d_Mo_breaks_4 : decode b_Mo_breaks 4 = .ok (.iload_n 1, 1) := by decide +kernel
theorem d_Mo_breaks_5 : decode b_Mo_breaks 5 = .ok (.iaload, 1) := by decide +kernel
theorem d_Mo_breaks_6 : decode b_Mo_breaks 6 = .ok (.aload_n 0, 1) := by decide +kernel
theorem d_Mo_breaks_7 : decode b_Mo_breaks 7 = .ok (.getfield 46, 3) := by decide +kernel
theorem d_Mo_breaks_10 : decode b_Mo_breaks 10 = .ok (.iload_n 1, 1) := by decide +kernel
theorem d_Mo_breaks_11 : decode b_Mo_breaks 11 = .ok (.iaload, 1) := by decide +kernel
theorem d_Mo_breaks_12 : decode b_Mo_breaks 12 = .ok (.if_icmp .le 126, 3) := by decide +kernel
theorem d_Mo_breaks_15 : decode b_Mo_breaks 15 = .ok (.aload_n 0, 1) := by decide +kernel
theorem d_Mo_breaks_16 : decode b_Mo_breaks 16 = .ok (.getfield 49, 3) := by decide +kernel
theorem d_Mo_breaks_19 : decode b_Mo_breaks 19 = .ok (.iload_n 1, 1) := by decide +kernel
theorem d_Mo_breaks_20 : decode b_Mo_breaks 20 = .ok (.iconst 3, 1) := by decide +kernel
theorem d_Mo_breaks_21 : decode b_Mo_breaks 21 = .ok (.iastore, 1) := by decide +kernel
theorem d_Mo_breaks_22 : decode b_Mo_breaks 22 = .ok (.aload_n 0, 1) := by decide +kernel
theorem d_Mo_breaks_23 : decode b_Mo_breaks 23 = .ok (.dup, 1) := by decide +kernel
theorem d_Mo_breaks_24 : decode b_Mo_breaks 24 = .ok (.getfield 189, 3) := by decide +kernel
theorem d_Mo_breaks_27 : decode b_Mo_breaks 27 = .ok (.aload_n 0, 1) := by decide +kernel
theorem d_Mo_breaks_28 : decode b_Mo_breaks 28 = .ok (.getfield 43, 3) := by decide +kernel
theorem d_Mo_breaks_31 : decode b_Mo_breaks 31 = .ok (.iload_n 1, 1) := by decide +kernel
theorem d_Mo_breaks_32 : decode b_Mo_breaks 32 = .ok (.iaload, 1) := by decide +kernel
theorem d_Mo_breaks_33 : decode b_Mo_breaks 33 = .ok (.iadd, 1) := by decide +kernel
theorem d_Mo_breaks_34 : decode b_Mo_breaks 34 = .ok (.putfield 189, 3) := by decide +kernel
theorem d_Mo_breaks_37 : decode b_Mo_breaks 37 = .ok (.aload_n 0, 1) := by decide +kernel
theorem d_Mo_breaks_38 : decode b_Mo_breaks 38 = .ok (.getfield 43, 3) := by decide +kernel
theorem d_Mo_breaks_41 : decode b_Mo_breaks 41 = .ok (.iload_n 1, 1) := by decide +kernel
theorem d_Mo_breaks_42 : decode b_Mo_breaks 42 = .ok (.iconst 0, 1) := by decide +kernel
theorem d_Mo_breaks_43 : decode b_Mo_breaks 43 = .ok (.iastore, 1) := by decide +kernel
theorem d_Mo_breaks_44 : decode b_Mo_breaks 44 = .ok (.aload_n 0, 1) := by decide +kernel
theorem d_Mo_breaks_45 : decode b_Mo_breaks 45 = .ok (.getfield 46, 3) := by decide +kernel
theorem d_Mo_breaks_48 : decode b_Mo_breaks 48 = .ok (.iload_n 1, 1) := by decide +kernel
theorem d_Mo_breaks_49 : decode b_Mo_breaks 49 = .ok (.aload_n 0, 1) := by decide +kernel
theorem d_Mo_breaks_50 : decode b_Mo_breaks 50 = .ok (.getfield 46, 3) := by decide +kernel
theorem d_Mo_breaks_53 : decode b_Mo_breaks 53 = .ok (.iload_n 1, 1) := by decide +kernel
theorem d_Mo_breaks_54 : decode b_Mo_breaks 54 = .ok (.iaload, 1) := by decide +kernel
theorem d_Mo_breaks_55 : decode b_Mo_breaks 55 = .ok (.iconst 3, 1) := by decide +kernel
theorem d_Mo_breaks_56 : decode b_Mo_breaks 56 = .ok (.if_icmp .le 14, 3) := by decide +kernel
theorem d_Mo_breaks_59 : decode b_Mo_breaks 59 = .ok (.aload_n 0, 1) := by decide +kernel
theorem d_Mo_breaks_60 : decode b_Mo_breaks 60 = .ok (.getfield 46, 3) := by decide +kernel
theorem d_Mo_breaks_63 : decode b_Mo_breaks 63 = .ok (.iload_n 1, 1) := by decide +kernel
theorem d_Mo_breaks_64 : decode b_Mo_breaks 64 = .ok (.iaload, 1) := by decide +kernel
theorem d_Mo_breaks_65 : decode b_Mo_breaks 65 = .ok (.iconst 3, 1) := by decide +kernel
theorem d_Mo_breaks_66 : decode b_Mo_breaks 66 = .ok (.isub, 1) := by decide +kernel
theorem d_Mo_breaks_67 : decode b_Mo_breaks 67 = .ok (.goto 4, 3) := by decide +kernel
theorem d_Mo_breaks_70 : decode b_Mo_breaks 70 = .ok (.iconst 0, 1) := by decide +kernel
theorem d_Mo_breaks_71 : decode b_Mo_breaks 71 = .ok (.iastore, 1) := by decide +kernel
theorem d_Mo_breaks_72 : decode b_Mo_breaks 72 = .ok (.aload_n 0, 1) := by decide +kernel
theorem d_Mo_breaks_73 : decode b_Mo_breaks 73 = .ok (.getfield 58, 3) := by decide +kernel
theorem d_Mo_breaks_76 : decode b_Mo_breaks 76 = .ok (.iload_n 1, 1) := by decide +kernel
theorem d_Mo_breaks_77 : decode b_Mo_breaks 77 = .ok (.dup2, 1) := by decide +kernel
theorem d_Mo_breaks_78 : decode b_Mo_breaks 78 = .ok (.iaload, 1) := by decide +kernel
theorem d_Mo_breaks_79 : decode b_Mo_breaks 79 = .ok (.iconst 1, 1) := by decide +kernel
theorem d_Mo_breaks_80 : decode b_Mo_breaks 80 = .ok (.iadd, 1) := by decide +kernel
theorem d_Mo_breaks_81 : decode b_Mo_breaks 81 = .ok (.iastore, 1) := by decide +kernel
theorem d_Mo_breaks_82 : decode b_Mo_breaks 82 = .ok (.aload_n 0, 1) := by decide +kernel
theorem d_Mo_breaks_83 : decode b_Mo_breaks 83 = .ok (.aload_n 0, 1) := by decide +kernel
theorem d_Mo_breaks_84 : decode b_Mo_breaks 84 = .ok (.getfield 192, 3) := by decide +kernel
theorem d_Mo_breaks_87 : decode b_Mo_breaks 87 = .ok (.iconst (-1), 1) := by decide +kernel
theorem d_Mo_breaks_88 : decode b_Mo_breaks 88 = .ok (.if_icmp .eq 19, 3) := by decide +kernel
theorem d_Mo_breaks_91 : decode b_Mo_breaks 91 = .ok (.aload_n 0, 1) := by decide +kernel
theorem d_Mo_breaks_92 : decode b_Mo_breaks 92 = .ok (.getfield 192, 3) := by decide +kernel
theorem d_Mo_breaks_95 : decode b_Mo_breaks 95 = .ok (.iload_n 2, 1) := by decide +kernel
theorem d_Mo_breaks_96 : decode b_Mo_breaks 96 = .ok (.if_icmp .ne 15, 3) := by decide +kernel
theorem d_Mo_breaks_99 : decode b_Mo_breaks 99 = .ok (.iload_n 1, 1) := by decide +kernel
theorem d_Mo_breaks_100 : decode b_Mo_breaks 100 = .ok (.aload_n 0, 1) := by decide +kernel
theorem d_Mo_breaks_101 : decode b_Mo_breaks 101 = .ok (.getfield 195, 3) := by decide +kernel
theorem d_Mo_breaks_104 : decode b_Mo_breaks 104 = .ok (.if_icmp .ge 7, 3) := by decide +kernel
theorem d_Mo_breaks_107 : decode b_Mo_breaks 107 = .ok (.iload_n 1, 1) := by decide +kernel
theorem d_Mo_breaks_108 : decode b_Mo_breaks 108 = .ok (.goto 7, 3) := by decide +kernel
theorem d_Mo_breaks_111 : decode b_Mo_breaks 111 = .ok (.aload_n 0, 1) := by decide +kernel
theorem d_Mo_breaks_112 : decode b_Mo_breaks 112 = .ok (.getfield 195, 3) := by decide +kernel
theorem d_Mo_breaks_115 : decode b_Mo_breaks 115 = .ok (.putfield 195, 3) := by decide +kernel
theorem d_Mo_breaks_118 : decode b_Mo_breaks 118 = .ok (.aload_n 0, 1) := by decide +kernel
theorem d_Mo_breaks_119 : decode b_Mo_breaks 119 = .ok (.aload_n 0, 1) := by decide +kernel
theorem d_Mo_breaks_120 : decode b_Mo_breaks 120 = .ok (.getfield 192, 3) := by decide +kernel
theorem d_Mo_breaks_123 : decode b_Mo_breaks 123 = .ok (.iconst (-1), 1) := by decide +kernel
theorem d_Mo_breaks_124 : decode b_Mo_breaks 124 = .ok (.if_icmp .ne 7, 3) := by decide +kernel
theorem d_Mo_breaks_127 : decode b_Mo_breaks 127 = .ok (.iload_n 2, 1) := by decide +kernel
theorem d_Mo_breaks_128 : decode b_Mo_breaks 128 = .ok (.goto 7, 3) := by decide +kernel
theorem d_Mo_breaks_131 : decode b_Mo_breaks 131 = .ok (.aload_n 0, 1) := by decide +kernel
theorem d_Mo_breaks_132 : decode b_Mo_breaks 132 = .ok (.getfield 192, 3) := by decide +kernel
theorem d_Mo_breaks_135 : decode b_Mo_breaks 135 = .ok (.putfield 192, 3) := by decide +kernel
theorem d_Mo_breaks_138 : decode b_Mo_breaks 138 = .ok (.return_, 1) := by decide +kernel
theorem d_Mo_bears_0 : decode b_Mo_bears 0 = .ok (.iconst 0, 1) := by decide +kernel
theorem d_Mo_bears_1 : decode b_Mo_bears 1 = .ok (.istore_n 2, 1) := by decide +kernel
theorem d_Mo_bears_2 : decode b_Mo_bears 2 = .ok (.iload_n 2, 1) := by decide +kernel
theorem d_Mo_bears_3 : decode b_Mo_bears 3 = .ok (.aload_n 0, 1) := by decide +kernel
theorem d_Mo_bears_4 : decode b_Mo_bears 4 = .ok (.getfield 131, 3) := by decide +kernel
theorem d_Mo_bears_7 : decode b_Mo_bears 7 = .ok (.if_icmp .ge 63, 3) := by decide +kernel
theorem d_Mo_bears_10 : decode b_Mo_bears 10 = .ok (.aload_n 0, 1) := by decide +kernel
theorem d_Mo_bears_11 : decode b_Mo_bears 11 = .ok (.getfield 28, 3) := by decide +kernel
theorem d_Mo_bears_14 : decode b_Mo_bears 14 = .ok (.iload_n 2, 1) := by decide +kernel
theorem d_Mo_bears_15 : decode b_Mo_bears 15 = .ok (.iaload, 1) := by decide +kernel
theorem d_Mo_bears_16 : decode b_Mo_bears 16 = .ok (.iload_n 1, 1) := by decide +kernel
theorem d_Mo_bears_17 : decode b_Mo_bears 17 = .ok (.if_icmp .ne 47, 3) := by decide +kernel
theorem d_Mo_bears_20 : decode b_Mo_bears 20 = .ok (.aload_n 0, 1) := by decide +kernel
theorem d_Mo_bears_21 : decode b_Mo_bears 21 = .ok (.aload_n 0, 1) := by decide +kernel
theorem d_Mo_bears_22 : decode b_Mo_bears 22 = .ok (.getfield 22, 3) := by decide +kernel
theorem d_Mo_bears_25 : decode b_Mo_bears 25 = .ok (.iload_n 2, 1) := by decide +kernel
theorem d_Mo_bears_26 : decode b_Mo_bears 26 = .ok (.iaload, 1) := by decide +kernel
theorem d_Mo_bears_27 : decode b_Mo_bears 27 = .ok (.invokevirtual 198, 3) := by decide +kernel
theorem d_Mo_bears_30 : decode b_Mo_bears 30 = .ok (.ifCond .eq 34, 3) := by decide +kernel
theorem d_Mo_bears_33 : decode b_Mo_bears 33 = .ok (.aload_n 0, 1) := by decide +kernel
theorem d_Mo_bears_34 : decode b_Mo_bears 34 = .ok (.getfield 43, 3) := by decide +kernel
theorem d_Mo_bears_37 : decode b_Mo_bears 37 = .ok (.aload_n 0, 1) := by decide +kernel
theorem d_Mo_bears_38 : decode b_Mo_bears 38 = .ok (.getfield 22, 3) := by decide +kernel
theorem d_Mo_bears_41 : decode b_Mo_bears 41 = .ok (.iload_n 2, 1) := by decide +kernel
theorem d_Mo_bears_42 : decode b_Mo_bears 42 = .ok (.iaload, 1) := by decide +kernel
theorem d_Mo_bears_43 : decode b_Mo_bears 43 = .ok (.dup2, 1) := by decide +kernel
theorem d_Mo_bears_44 : decode b_Mo_bears 44 = .ok (.iaload, 1) := by decide +kernel
theorem d_Mo_bears_45 : decode b_Mo_bears 45 = .ok (.aload_n 0, 1) := by decide +kernel
theorem d_Mo_bears_46 : decode b_Mo_bears 46 = .ok (.getfield 25, 3) := by decide +kernel
theorem d_Mo_bears_49 : decode b_Mo_bears 49 = .ok (.iload_n 2, 1) := by decide +kernel
theorem d_Mo_bears_50 : decode b_Mo_bears 50 = .ok (.iaload, 1) := by decide +kernel
theorem d_Mo_bears_51 : decode b_Mo_bears 51 = .ok (.iadd, 1) := by decide +kernel
theorem d_Mo_bears_52 : decode b_Mo_bears 52 = .ok (.iastore, 1) := by decide +kernel
theorem d_Mo_bears_53 : decode b_Mo_bears 53 = .ok (.aload_n 0, 1) := by decide +kernel
theorem d_Mo_bears_54 : decode b_Mo_bears 54 = .ok (.aload_n 0, 1) := by decide +kernel
theorem d_Mo_bears_55 : decode b_Mo_bears 55 = .ok (.getfield 22, 3) := by decide +kernel
theorem d_Mo_bears_58 : decode b_Mo_bears 58 = .ok (.iload_n 2, 1) := by decide +kernel
theorem d_Mo_bears_59 : decode b_Mo_bears 59 = .ok (.iaload, 1) := by decide +kernel
theorem d_Mo_bears_60 : decode b_Mo_bears 60 = .ok (.iload_n 1, 1) := by decide +kernel
theorem d_Mo_bears_61 : decode b_Mo_bears 61 = .ok (.invokevirtual 201, 3) := by decide +kernel
theorem d_Mo_bears_64 : decode b_Mo_bears 64 = .ok (.iinc 2 1, 3) := by decide +kernel
theorem d_Mo_bears_67 : decode b_Mo_bears 67 = .ok (.goto (-65), 3) := by decide +kernel
theorem d_Mo_bears_70 : decode b_Mo_bears 70 = .ok (.return_, 1) := by decide +kernel
theorem d_Mo_isIn_0 : decode b_Mo_isIn 0 = .ok (.iload_n 0, 1) := by decide +kernel
theorem d_Mo_isIn_1 : decode b_Mo_isIn 1 = .ok (.iload_n 1, 1) := by decide +kernel
theorem d_Mo_isIn_2 : decode b_Mo_isIn 2 = .ok (.ishr, 1) := by decide +kernel
theorem d_Mo_isIn_3 : decode b_Mo_isIn 3 = .ok (.iconst 1, 1) := by decide +kernel
theorem d_Mo_isIn_4 : decode b_Mo_isIn 4 = .ok (.iand, 1) := by decide +kernel
theorem d_Mo_isIn_5 : decode b_Mo_isIn 5 = .ok (.iconst 1, 1) := by decide +kernel
theorem d_Mo_isIn_6 : decode b_Mo_isIn 6 = .ok (.if_icmp .ne 7, 3) := by decide +kernel
theorem d_Mo_isIn_9 : decode b_Mo_isIn 9 = .ok (.iconst 1, 1) := by decide +kernel
theorem d_Mo_isIn_10 : decode b_Mo_isIn 10 = .ok (.goto 4, 3) := by decide +kernel
theorem d_Mo_isIn_13 : decode b_Mo_isIn 13 = .ok (.iconst 0, 1) := by decide +kernel
theorem d_Mo_isIn_14 : decode b_Mo_isIn 14 = .ok (.ireturn, 1) := by decide +kernel
theorem d_Mo_comesStraw_0 : decode b_Mo_comesStraw 0 = .ok (.aload_n 0, 1) := by decide +kernel
theorem d_Mo_comesStraw_1 : decode b_Mo_comesStraw 1 = .ok (.getfield 43, 3) := by decide +kernel
theorem d_Mo_comesStraw_4 : decode b_Mo_comesStraw 4 = .ok (.iload_n 1, 1) := by decide +kernel
theorem d_Mo_comesStraw_5 : decode b_Mo_comesStraw 5 = .ok (.dup2, 1) := by decide +kernel
theorem d_Mo_comesStraw_6 : decode b_Mo_comesStraw 6 = .ok (.iaload, 1) := by decide +kernel
theorem d_Mo_comesStraw_7 : decode b_Mo_comesStraw 7 = .ok (.iconst 1, 1) := by decide +kernel
theorem d_Mo_comesStraw_8 : decode b_Mo_comesStraw 8 = .ok (.iadd, 1) := by decide +kernel
theorem d_Mo_comesStraw_9 : decode b_Mo_comesStraw 9 = .ok (.iastore, 1) := by decide +kernel
theorem d_Mo_comesStraw_10 : decode b_Mo_comesStraw 10 = .ok (.aload_n 0, 1) := by decide +kernel
theorem d_Mo_comesStraw_11 : decode b_Mo_comesStraw 11 = .ok (.aload_n 0, 1) := by decide +kernel
theorem d_Mo_comesStraw_12 : decode b_Mo_comesStraw 12 = .ok (.getfield 43, 3) := by decide +kernel
theorem d_Mo_comesStraw_15 : decode b_Mo_comesStraw 15 = .ok (.iload_n 1, 1) := by decide +kernel
theorem d_Mo_comesStraw_16 : decode b_Mo_comesStraw 16 = .ok (.iaload, 1) := by decide +kernel
theorem d_Mo_comesStraw_17 : decode b_Mo_comesStraw 17 = .ok (.aload_n 0, 1) := by decide +kernel
theorem d_Mo_comesStraw_18 : decode b_Mo_comesStraw 18 = .ok (.getfield 46, 3) := by decide +kernel
theorem d_Mo_comesStraw_21 : decode b_Mo_comesStraw 21 = .ok (.iload_n 1, 1) := by decide +kernel
theorem d_Mo_comesStraw_22 : decode b_Mo_comesStraw 22 = .ok (.iaload, 1) := by decide +kernel
theorem d_Mo_comesStraw_23 : decode b_Mo_comesStraw 23 = .ok (.if_icmp .ne 7, 3) := by decide +kernel
theorem d_Mo_comesStraw_26 : decode b_Mo_comesStraw 26 = .ok (.iconst 1, 1) := by decide +kernel
theorem d_Mo_comesStraw_27 : decode b_Mo_comesStraw 27 = .ok (.goto 4, 3) := by decide +kernel
theorem d_Mo_comesStraw_30 : decode b_Mo_comesStraw 30 = .ok (.iconst 0, 1) := by decide +kernel
theorem d_Mo_comesStraw_31 : decode b_Mo_comesStraw 31 = .ok (.putfield 205, 3) := by decide +kernel
theorem d_Mo_comesStraw_34 : decode b_Mo_comesStraw 34 = .ok (.aload_n 0, 1) := by decide +kernel
theorem d_Mo_comesStraw_35 : decode b_Mo_comesStraw 35 = .ok (.getfield 52, 3) := by decide +kernel
theorem d_Mo_comesStraw_38 : decode b_Mo_comesStraw 38 = .ok (.iload_n 1, 1) := by decide +kernel
theorem d_Mo_comesStraw_39 : decode b_Mo_comesStraw 39 = .ok (.dup2, 1) := by decide +kernel
theorem d_Mo_comesStraw_40 : decode b_Mo_comesStraw 40 = .ok (.iaload, 1) := by decide +kernel
theorem d_Mo_comesStraw_41 : decode b_Mo_comesStraw 41 = .ok (.aload_n 0, 1) := by decide +kernel
theorem d_Mo_comesStraw_42 : decode b_Mo_comesStraw 42 = .ok (.getfield 205, 3) := by decide +kernel
theorem d_Mo_comesStraw_45 : decode b_Mo_comesStraw 45 = .ok (.ifCond .eq 12, 3) := by decide +kernel
theorem d_Mo_comesStraw_48 : decode b_Mo_comesStraw 48 = .ok (.aload_n 0, 1) := by decide +kernel
theorem d_Mo_comesStraw_49 : decode b_Mo_comesStraw 49 = .ok (.getfield 43, 3) := by decide +kernel
theorem d_Mo_comesStraw_52 : decode b_Mo_comesStraw 52 = .ok (.iload_n 1, 1) := by decide +kernel
theorem d_Mo_comesStraw_53 : decode b_Mo_comesStraw 53 = .ok (.iaload, 1) := by decide +kernel
theorem d_Mo_comesStraw_54 : decode b_Mo_comesStraw 54 = .ok (.goto 4, 3) := by decide +kernel
theorem d_Mo_comesStraw_57 : decode b_Mo_comesStraw 57 = .ok (.iconst 0, 1) := by decide +kernel
theorem d_Mo_comesStraw_58 : decode b_Mo_comesStraw 58 = .ok (.iadd, 1) := by decide +kernel
theorem d_Mo_comesStraw_59 : decode b_Mo_comesStraw 59 = .ok (.iastore, 1) := by decide +kernel
theorem d_Mo_comesStraw_60 : decode b_Mo_comesStraw 60 = .ok (.aload_n 0, 1) := by decide +kernel
theorem d_Mo_comesStraw_61 : decode b_Mo_comesStraw 61 = .ok (.iload_n 1, 1) := by decide +kernel
theorem d_Mo_comesStraw_62 : decode b_Mo_comesStraw 62 = .ok (.iload_n 2, 1) := by decide +kernel
theorem d_Mo_comesStraw_63 : decode b_Mo_comesStraw 63 = .ok (.invokevirtual 201, 3) := by decide +kernel
theorem d_Mo_comesStraw_66 : decode b_Mo_comesStraw 66 = .ok (.return_, 1) := by decide +kernel
theorem d_Mo_comeStraws_0 : decode b_Mo_comeStraws 0 = .ok (.iconst 0, 1) := by decide +kernel
theorem d_Mo_comeStraws_1 : decode b_Mo_comeStraws 1 = .ok (.istore_n 2, 1) := by decide +kernel
theorem d_Mo_comeStraws_2 : decode b_Mo_comeStraws 2 = .ok (.iload_n 2, 1) := by decide +kernel
theorem d_Mo_comeStraws_3 : decode b_Mo_comeStraws 3 = .ok (.aload_n 0, 1) := by decide +kernel
theorem d_Mo_comeStraws_4 : decode b_Mo_comeStraws 4 = .ok (.getfield 183, 3) := by decide +kernel
theorem d_Mo_comeStraws_7 : decode b_Mo_comeStraws 7 = .ok (.if_icmp .ge 59, 3) := by decide +kernel
theorem d_Mo_comeStraws_10 : decode b_Mo_comeStraws 10 = .ok (.aload_n 0, 1) := by decide +kernel
theorem d_Mo_comeStraws_11 : decode b_Mo_comeStraws 11 = .ok (.getfield 37, 3) := by decide +kernel
theorem d_Mo_comeStraws_14 : decode b_Mo_comeStraws 14 = .ok (.iload_n 2, 1) := by decide +kernel
theorem d_Mo_comeStraws_15 : decode b_Mo_comeStraws 15 = .ok (.iaload, 1) := by decide +kernel
theorem d_Mo_comeStraws_16 : decode b_Mo_comeStraws 16 = .ok (.iload_n 1, 1) := by decide +kernel
theorem d_Mo_comeStraws_17 : decode b_Mo_comeStraws 17 = .ok (.if_icmp .ne 43, 3) := by decide +kernel
theorem d_Mo_comeStraws_20 : decode b_Mo_comeStraws 20 = .ok (.aload_n 0, 1) := by decide +kernel
theorem d_Mo_comeStraws_21 : decode b_Mo_comeStraws 21 = .ok (.getfield 186, 3) := by decide +kernel
theorem d_Mo_comeStraws_24 : decode b_Mo_comeStraws 24 = .ok (.iload_n 2, 1) := by decide +kernel
theorem d_Mo_comeStraws_25 : decode b_Mo_comeStraws 25 = .ok (.invokestatic 209, 3) := by decide +kernel
theorem d_Mo_comeStraws_28 : decode b_Mo_comeStraws 28 = .ok (.ifCond .ne 32, 3) := by decide +kernel
theorem d_Mo_comeStraws_31 : decode b_Mo_comeStraws 31 = .ok (.aload_n 0, 1) := by decide +kernel
theorem d_Mo_comeStraws_32 : decode b_Mo_comeStraws 32 = .ok (.iconst 0, 1) := by decide +kernel
theorem d_Mo_comeStraws_33 : decode b_Mo_comeStraws 33 = .ok (.putfield 205, 3) := by decide +kernel
theorem d_Mo_comeStraws_36 : decode b_Mo_comeStraws 36 = .ok (.aload_n 0, 1) := by decide +kernel
theorem d_Mo_comeStraws_37 : decode b_Mo_comeStraws 37 = .ok (.aload_n 0, 1) := by decide +kernel
theorem d_Mo_comeStraws_38 : decode b_Mo_comeStraws 38 = .ok (.getfield 40, 3) := by decide +kernel
theorem d_Mo_comeStraws_41 : decode b_Mo_comeStraws 41 = .ok (.iload_n 2, 1) := by decide +kernel
theorem d_Mo_comeStraws_42 : decode b_Mo_comeStraws 42 = .ok (.iaload, 1) := by decide +kernel
theorem d_Mo_comeStraws_43 : decode b_Mo_comeStraws 43 = .ok (.invokevirtual 198, 3) := by decide +kernel
theorem d_Mo_comeStraws_46 : decode b_Mo_comeStraws 46 = .ok (.ifCond .eq 14, 3) := by decide +kernel
theorem d_Mo_comeStraws_49 : decode b_Mo_comeStraws 49 = .ok (.aload_n 0, 1) := by decide +kernel
theorem d_Mo_comeStraws_50 : decode b_Mo_comeStraws 50 = .ok (.aload_n 0, 1) := by decide +kernel
theorem d_Mo_comeStraws_51 : decode b_Mo_comeStraws 51 = .ok (.getfield 40, 3) := by decide +kernel
theorem d_Mo_comeStraws_54 : decode b_Mo_comeStraws 54 = .ok (.iload_n 2, 1) := by decide +kernel
theorem d_Mo_comeStraws_55 : decode b_Mo_comeStraws 55 = .ok (.iaload, 1) := by decide +kernel
theorem d_Mo_comeStraws_56 : decode b_Mo_comeStraws 56 = .ok (.iload_n 1, 1) := by decide +kernel
theorem d_Mo_comeStraws_57 : decode b_Mo_comeStraws 57 = .ok (.invokevirtual 213, 3) := by decide +kernel
theorem d_Mo_comeStraws_60 : decode b_Mo_comeStraws 60 = .ok (.iinc 2 1, 3) := by decide +kernel
theorem d_Mo_comeStraws_63 : decode b_Mo_comeStraws 63 = .ok (.goto (-61), 3) := by decide +kernel
theorem d_Mo_comeStraws_66 : decode b_Mo_comeStraws 66 = .ok (.return_, 1) := by decide +kernel
theorem d_Mo_wears_0 : decode b_Mo_wears 0 = .ok (.aload_n 0, 1) := by decide +kernel
theorem d_Mo_wears_1 : decode b_Mo_wears 1 = .ok (.getfield 16, 3) := by decide +kernel
theorem d_Mo_wears_4 : decode b_Mo_wears 4 = .ok (.iload_n 1, 1) := by decide +kernel
theorem d_Mo_wears_5 : decode b_Mo_wears 5 = .ok (.iaload, 1) := by decide +kernel
theorem d_Mo_wears_6 : decode b_Mo_wears 6 = .ok (.ifCond .ne 18, 3) := by decide +kernel
theorem d_Mo_wears_9 : decode b_Mo_wears 9 = .ok (.iload_n 2, 1) := by decide +kernel
theorem d_Mo_wears_10 : decode b_Mo_wears 10 = .ok (.iconst 3, 1) := by decide +kernel
theorem d_Mo_wears_11 : decode b_Mo_wears 11 = .ok (.irem, 1) := by decide +kernel
theorem d_Mo_wears_12 : decode b_Mo_wears 12 = .ok (.iconst 2, 1) := by decide +kernel
theorem d_Mo_wears_13 : decode b_Mo_wears 13 = .ok (.if_icmp .ne 7, 3) := by decide +kernel
theorem d_Mo_wears_16 : decode b_Mo_wears 16 = .ok (.iconst 1, 1) := by decide +kernel
theorem d_Mo_wears_17 : decode b_Mo_wears 17 = .ok (.goto 39, 3) := by decide +kernel
theorem d_Mo_wears_20 : decode b_Mo_wears 20 = .ok (.iconst 0, 1) := by decide +kernel
theorem d_Mo_wears_21 : decode b_Mo_wears 21 = .ok (.goto 35, 3) := by decide +kernel
theorem d_Mo_wears_24 : decode b_Mo_wears 24 = .ok (.aload_n 0, 1) := by decide +kernel
theorem d_Mo_wears_25 : decode b_Mo_wears 25 = .ok (.getfield 16, 3) := by decide +kernel
theorem d_Mo_wears_28 : decode b_Mo_wears 28 = .ok (.iload_n 1, 1) := by decide +kernel
theorem d_Mo_wears_29 : decode b_Mo_wears 29 = .ok (.iaload, 1) := by decide +kernel
theorem d_Mo_wears_30 : decode b_Mo_wears 30 = .ok (.iconst 2, 1) := by decide +kernel
theorem d_Mo_wears_31 : decode b_Mo_wears 31 = .ok (.if_icmp .eq 20, 3) := by decide +kernel
theorem d_Mo_wears_34 : decode b_Mo_wears 34 = .ok (.iconst 2, 1) := by decide +kernel
theorem d_Mo_wears_35 : decode b_Mo_wears 35 = .ok (.aload_n 0, 1) := by decide +kernel
theorem d_Mo_wears_36 : decode b_Mo_wears 36 = .ok (.getfield 43, 3) := by decide +kernel
theorem d_Mo_wears_39 : decode b_Mo_wears 39 = .ok (.iload_n 1, 1) := by decide +kernel
theorem d_Mo_wears_40 : decode b_Mo_wears 40 = .ok (.iaload, 1) := by decide +kernel
theorem d_Mo_wears_41 : decode b_Mo_wears 41 = .ok (.imul, 1) := by decide +kernel
theorem d_Mo_wears_42 : decode b_Mo_wears 42 = .ok (.aload_n 0, 1) := by decide +kernel
theorem d_Mo_wears_43 : decode b_Mo_wears 43 = .ok (.getfield 46, 3) := by decide +kernel
theorem d_Mo_wears_46 : decode b_Mo_wears 46 = .ok (.iload_n 1, 1) := by decide +kernel
theorem d_Mo_wears_47 : decode b_Mo_wears 47 = .ok (.iaload, 1) := by decide +kernel
theorem d_Mo_wears_48 : decode b_Mo_wears 48 = .ok (.if_icmp .le 7, 3) := by decide +kernel
theorem d_Mo_wears_51 : decode b_Mo_wears 51 = .ok (.iconst 1, 1) := by decide +kernel
theorem d_Mo_wears_52 : decode b_Mo_wears 52 = .ok (.goto 4, 3) := by decide +kernel
theorem d_Mo_wears_55 : decode b_Mo_wears 55 = .ok (.iconst 0, 1) := by decide +kernel
theorem d_Mo_wears_56 : decode b_Mo_wears 56 = .ok (.ireturn, 1) := by decide +kernel
theorem d_Mo_tires_0 : decode b_Mo_tires 0 = .ok (.aload_n 0, 1) := by decide +kernel
theorem d_Mo_tires_1 : decode b_Mo_tires 1 = .ok (.getfield 43, 3) := by decide +kernel
theorem d_Mo_tires_4 : decode b_Mo_tires 4 = .ok (.iload_n 1, 1) := by decide +kernel
theorem d_Mo_tires_5 : decode b_Mo_tires 5 = .ok (.iaload, 1) := by decide +kernel
theorem d_Mo_tires_6 : decode b_Mo_tires 6 = .ok (.ifCond .le 38, 3) := by decide +kernel
theorem d_Mo_tires_9 : decode b_Mo_tires 9 = .ok (.aload_n 0, 1) := by decide +kernel
theorem d_Mo_tires_10 : decode b_Mo_tires 10 = .ok (.getfield 46, 3) := by decide +kernel
theorem d_Mo_tires_13 : decode b_Mo_tires 13 = .ok (.iload_n 1, 1) := by decide +kernel
theorem d_Mo_tires_14 : decode b_Mo_tires 14 = .ok (.dup2, 1) := by decide +kernel
theorem d_Mo_tires_15 : decode b_Mo_tires 15 = .ok (.iaload, 1) := by decide +kernel
theorem d_Mo_tires_16 : decode b_Mo_tires 16 = .ok (.aload_n 0, 1) := by decide +kernel
theorem d_Mo_tires_17 : decode b_Mo_tires 17 = .ok (.iload_n 1, 1) := by decide +kernel
theorem d_Mo_tires_18 : decode b_Mo_tires 18 = .ok (.iload_n 2, 1) := by decide +kernel
theorem d_Mo_tires_19 : decode b_Mo_tires 19 = .ok (.invokevirtual 216, 3) := by decide +kernel
theorem d_Mo_tires_22 : decode b_Mo_tires 22 = .ok (.ifCond .eq 16, 3) := by decide +kernel
theorem d_Mo_tires_25 : decode b_Mo_tires 25 = .ok (.aload_n 0, 1) := by decide +kernel
theorem d_Mo_tires_26 : decode b_Mo_tires 26 = .ok (.getfield 46, 3) := by decide +kernel
theorem d_Mo_tires_29 : decode b_Mo_tires 29 = .ok (.iload_n 1, 1) := by decide +kernel
theorem d_Mo_tires_30 : decode b_Mo_tires 30 = .ok (.iaload, 1) := by decide +kernel
theorem d_Mo_tires_31 : decode b_Mo_tires 31 = .ok (.ifCond .le 7, 3) := by decide +kernel
theorem d_Mo_tires_34 : decode b_Mo_tires 34 = .ok (.iconst 1, 1) := by decide +kernel
theorem d_Mo_tires_35 : decode b_Mo_tires 35 = .ok (.goto 4, 3) := by decide +kernel
theorem d_Mo_tires_38 : decode b_Mo_tires 38 = .ok (.iconst 0, 1) := by decide +kernel
theorem d_Mo_tires_39 : decode b_Mo_tires 39 = .ok (.isub, 1) := by decide +kernel
theorem d_Mo_tires_40 : decode b_Mo_tires 40 = .ok (.iastore, 1) := by decide +kernel
theorem d_Mo_tires_41 : decode b_Mo_tires 41 = .ok (.goto 34, 3) := by decide +kernel
theorem d_Mo_tires_44 : decode b_Mo_tires 44 = .ok (.aload_n 0, 1) := by decide +kernel
theorem d_Mo_tires_45 : decode b_Mo_tires 45 = .ok (.getfield 46, 3) := by decide +kernel
theorem d_Mo_tires_48 : decode b_Mo_tires 48 = .ok (.iload_n 1, 1) := by decide +kernel
theorem d_Mo_tires_49 : decode b_Mo_tires 49 = .ok (.dup2, 1) := by decide +kernel
theorem d_Mo_tires_50 : decode b_Mo_tires 50 = .ok (.iaload, 1) := by decide +kernel
theorem d_Mo_tires_51 : decode b_Mo_tires 51 = .ok (.aload_n 0, 1) := by decide +kernel
theorem d_Mo_tires_52 : decode b_Mo_tires 52 = .ok (.getfield 46, 3) := by decide +kernel
theorem d_Mo_tires_55 : decode b_Mo_tires 55 = .ok (.iload_n 1, 1) := by decide +kernel
theorem d_Mo_tires_56 : decode b_Mo_tires 56 = .ok (.iaload, 1) := by decide +kernel
theorem d_Mo_tires_57 : decode b_Mo_tires 57 = .ok (.iconst 4, 1) := by decide +kernel
theorem d_Mo_tires_58 : decode b_Mo_tires 58 = .ok (.aload_n 0, 1) := by decide +kernel
theorem d_Mo_tires_59 : decode b_Mo_tires 59 = .ok (.getfield 19, 3) := by decide +kernel
theorem d_Mo_tires_62 : decode b_Mo_tires 62 = .ok (.iload_n 1, 1) := by decide +kernel
theorem d_Mo_tires_63 : decode b_Mo_tires 63 = .ok (.iaload, 1) := by decide +kernel
theorem d_Mo_tires_64 : decode b_Mo_tires 64 = .ok (.imul, 1) := by decide +kernel
theorem d_Mo_tires_65 : decode b_Mo_tires 65 = .ok (.if_icmp .ge 7, 3) := by decide +kernel
theorem d_Mo_tires_68 : decode b_Mo_tires 68 = .ok (.iconst 1, 1) := by decide +kernel
theorem d_Mo_tires_69 : decode b_Mo_tires 69 = .ok (.goto 4, 3) := by decide +kernel
theorem d_Mo_tires_72 : decode b_Mo_tires 72 = .ok (.iconst 0, 1) := by decide +kernel
theorem d_Mo_tires_73 : decode b_Mo_tires 73 = .ok (.iadd, 1) := by decide +kernel
theorem d_Mo_tires_74 : decode b_Mo_tires 74 = .ok (.iastore, 1) := by decide +kernel
theorem d_Mo_tires_75 : decode b_Mo_tires 75 = .ok (.aload_n 0, 1) := by decide +kernel
theorem d_Mo_tires_76 : decode b_Mo_tires 76 = .ok (.iload_n 1, 1) := by decide +kernel
theorem d_Mo_tires_77 : decode b_Mo_tires 77 = .ok (.iload_n 2, 1) := by decide +kernel
theorem d_Mo_tires_78 : decode b_Mo_tires 78 = .ok (.invokevirtual 201, 3) := by decide +kernel
theorem d_Mo_tires_81 : decode b_Mo_tires 81 = .ok (.return_, 1) := by decide +kernel
end
section
/-! decode rows (printed) -/
theorem d_Mo_ends_0 : decode b_Mo_ends 0 = .ok (.iload_n 2, 1) := by decide +kernel
theorem d_Mo_ends_1 : decode b_Mo_ends 1 = .ok (.bipush 8, 2) := by decide +kernel
theorem d_Mo_ends_3 : decode b_Mo_ends 3 = .ok (.irem, 1) := by decide +kernel
theorem d_Mo_ends_4 : decode b_Mo_ends 4 = .ok (.bipush 7, 2) := by decide +kernel
theorem d_Mo_ends_6 : decode b_Mo_ends 6 = .ok (.if_icmp .ne 34, 3) := by decide +kernel
theorem d_Mo_ends_9 : decode b_Mo_ends 9 = .ok (.aload_n 0, 1) := by decide +kernel
theorem d_Mo_ends_10 : decode b_Mo_ends 10 = .ok (.getfield 49, 3) := by decide +kernel
theorem d_Mo_ends_13 : decode b_Mo_ends 13 = .ok (.iload_n 1, 1) := by decide +kernel
theorem d_Mo_ends_14 : decode b_Mo_ends 14 = .ok (.iaload, 1) := by decide +kernel
theorem d_Mo_ends_15 : decode b_Mo_ends 15 = .ok (.ifCond .ne 25, 3) := by decide +kernel
theorem d_Mo_ends_18 : decode b_Mo_ends 18 = .ok (.aload_n 0, 1) := by decide +kernel
theorem d_Mo_ends_19 : decode b_Mo_ends 19 = .ok (.getfield 55, 3) := by decide +kernel
theorem d_Mo_ends_22 : decode b_Mo_ends 22 = .ok (.iload_n 1, 1) := by decide +kernel
theorem d_Mo_ends_23 : decode b_Mo_ends 23 = .ok (.dup2, 1) := by decide +kernel
theorem d_Mo_ends_24 : decode b_Mo_ends 24 = .ok (.iaload, 1) := by decide +kernel
theorem d_Mo_ends_25 : decode b_Mo_ends 25 = .ok (.aload_n 0, 1) := by decide +kernel
theorem d_Mo_ends_26 : decode b_Mo_ends 26 = .ok (.getfield 43, 3) := by decide +kernel
theorem d_Mo_ends_29 : decode b_Mo_ends 29 = .ok (.iload_n 1, 1) := by decide +kernel
theorem d_Mo_ends_30 : decode b_Mo_ends 30 = .ok (.iaload, 1) := by decide +kernel
theorem d_Mo_ends_31 : decode b_Mo_ends 31 = .ok (.iadd, 1) := by decide +kernel
theorem d_Mo_ends_32 : decode b_Mo_ends 32 = .ok (.iastore, 1) := by decide +kernel
theorem d_Mo_ends_33 : decode b_Mo_ends 33 = .ok (.aload_n 0, 1) := by decide +kernel
theorem d_Mo_ends_34 : decode b_Mo_ends 34 = .ok (.getfield 43, 3) := by decide +kernel
theorem d_Mo_ends_37 : decode b_Mo_ends 37 = .ok (.iload_n 1, 1) := by decide +kernel
theorem d_Mo_ends_38 : decode b_Mo_ends 38 = .ok (.iconst 0, 1) := by decide +kernel
theorem d_Mo_ends_39 : decode b_Mo_ends 39 = .ok (.iastore, 1) := by decide +kernel
theorem d_Mo_ends_40 : decode b_Mo_ends 40 = .ok (.bipush 8, 2) := by decide +kernel
theorem d_Mo_ends_42 : decode b_Mo_ends 42 = .ok (.iload_n 2, 1) := by decide +kernel
theorem d_Mo_ends_43 : decode b_Mo_ends 43 = .ok (.imul, 1) := by decide +kernel
theorem d_Mo_ends_44 : decode b_Mo_ends 44 = .ok (.iload_n 1, 1) := by decide +kernel
theorem d_Mo_ends_45 : decode b_Mo_ends 45 = .ok (.iadd, 1) := by decide +kernel
theorem d_Mo_ends_46 : decode b_Mo_ends 46 = .ok (.istore_n 3, 1) := by decide +kernel
theorem d_Mo_ends_47 : decode b_Mo_ends 47 = .ok (.aload_n 0, 1) := by decide +kernel
theorem d_Mo_ends_48 : decode b_Mo_ends 48 = .ok (.getfield 61, 3) := by decide +kernel
theorem d_Mo_ends_51 : decode b_Mo_ends 51 = .ok (.iload_n 3, 1) := by decide +kernel
theorem d_Mo_ends_52 : decode b_Mo_ends 52 = .ok (.aload_n 0, 1) := by decide +kernel
theorem d_Mo_ends_53 : decode b_Mo_ends 53 = .ok (.getfield 43, 3) := by decide +kernel
theorem d_Mo_ends_56 : decode b_Mo_ends 56 = .ok (.iload_n 1, 1) := by decide +kernel
theorem d_Mo_ends_57 : decode b_Mo_ends 57 = .ok (.iaload, 1) := by decide +kernel
theorem d_Mo_ends_58 : decode b_Mo_ends 58 = .ok (.iastore, 1) := by decide +kernel
theorem d_Mo_ends_59 : decode b_Mo_ends 59 = .ok (.aload_n 0, 1) := by decide +kernel
theorem d_Mo_ends_60 : decode b_Mo_ends 60 = .ok (.getfield 64, 3) := by decide +kernel
theorem d_Mo_ends_63 : decode b_Mo_ends 63 = .ok (.iload_n 3, 1) := by decide +kernel
theorem d_Mo_ends_64 : decode b_Mo_ends 64 = .ok (.aload_n 0, 1) := by decide +kernel
theorem d_Mo_ends_65 : decode b_Mo_ends 65 = .ok (.getfield 46, 3) := by decide +kernel
theorem d_Mo_ends_68 : decode b_Mo_ends 68 = .ok (.iload_n 1, 1) := by decide +kernel
theorem d_Mo_ends_69 : decode b_Mo_ends 69 = .ok (.iaload, 1) := by decide +kernel
theorem d_Mo_ends_70 : decode b_Mo_ends 70 = .ok (.iastore, 1) := by decide +kernel
theorem d_Mo_ends_71 : decode b_Mo_ends 71 = .ok (.aload_n 0, 1) := by decide +kernel
theorem d_Mo_ends_72 : decode b_Mo_ends 72 = .ok (.getfield 67, 3) := by decide +kernel
theorem d_Mo_ends_75 : decode b_Mo_ends 75 = .ok (.iload_n 3, 1) := by decide +kernel
theorem d_Mo_ends_76 : decode b_Mo_ends 76 = .ok (.aload_n 0, 1) := by decide +kernel
theorem d_Mo_ends_77 : decode b_Mo_ends 77 = .ok (.getfield 49, 3) := by decide +kernel
theorem d_Mo_ends_80 : decode b_Mo_ends 80 = .ok (.iload_n 1, 1) := by decide +kernel
theorem d_Mo_ends_81 : decode b_Mo_ends 81 = .ok (.iaload, 1) := by decide +kernel
theorem d_Mo_ends_82 : decode b_Mo_ends 82 = .ok (.ifCond .le 7, 3) := by decide +kernel
theorem d_Mo_ends_85 : decode b_Mo_ends 85 = .ok (.iconst 1, 1) := by decide +kernel
theorem d_Mo_ends_86 : decode b_Mo_ends 86 = .ok (.goto 4, 3) := by decide +kernel
theorem d_Mo_ends_89 : decode b_Mo_ends 89 = .ok (.iconst 0, 1) := by decide +kernel
theorem d_Mo_ends_90 : decode b_Mo_ends 90 = .ok (.iastore, 1) := by decide +kernel
theorem d_Mo_ends_91 : decode b_Mo_ends 91 = .ok (.aload_n 0, 1) := by decide +kernel
theorem d_Mo_ends_92 : decode b_Mo_ends 92 = .ok (.getfield 70, 3) := by decide +kernel
theorem d_Mo_ends_95 : decode b_Mo_ends 95 = .ok (.iload_n 3, 1) := by decide +kernel
theorem d_Mo_ends_96 : decode b_Mo_ends 96 = .ok (.aload_n 0, 1) := by decide +kernel
theorem d_Mo_ends_97 : decode b_Mo_ends 97 = .ok (.getfield 52, 3) := by decide +kernel
theorem d_Mo_ends_100 : decode b_Mo_ends 100 = .ok (.iload_n 1, 1) := by decide +kernel
theorem d_Mo_ends_101 : decode b_Mo_ends 101 = .ok (.iaload, 1) := by decide +kernel
theorem d_Mo_ends_102 : decode b_Mo_ends 102 = .ok (.iastore, 1) := by decide +kernel
theorem d_Mo_ends_103 : decode b_Mo_ends 103 = .ok (.aload_n 0, 1) := by decide +kernel
theorem d_Mo_ends_104 : decode b_Mo_ends 104 = .ok (.getfield 73, 3) := by decide +kernel
theorem d_Mo_ends_107 : decode b_Mo_ends 107 = .ok (.iload_n 3, 1) := by decide +kernel
theorem d_Mo_ends_108 : decode b_Mo_ends 108 = .ok (.aload_n 0, 1) := by decide +kernel
theorem d_Mo_ends_109 : decode b_Mo_ends 109 = .ok (.getfield 55, 3) := by decide +kernel
theorem d_Mo_ends_112 : decode b_Mo_ends 112 = .ok (.iload_n 1, 1) := by decide +kernel
theorem d_Mo_ends_113 : decode b_Mo_ends 113 = .ok (.iaload, 1) := by decide +kernel
theorem d_Mo_ends_114 : decode b_Mo_ends 114 = .ok (.iastore, 1) := by decide +kernel
theorem d_Mo_ends_115 : decode b_Mo_ends 115 = .ok (.aload_n 0, 1) := by decide +kernel
theorem d_Mo_ends_116 : decode b_Mo_ends 116 = .ok (.getfield 76, 3) := by decide +kernel
theorem d_Mo_ends_119 : decode b_Mo_ends 119 = .ok (.iload_n 3, 1) := by decide +kernel
theorem d_Mo_ends_120 : decode b_Mo_ends 120 = .ok (.aload_n 0, 1) := by decide +kernel
theorem d_Mo_ends_121 : decode b_Mo_ends 121 = .ok (.getfield 58, 3) := by decide +kernel
theorem d_Mo_ends_124 : decode b_Mo_ends 124 = .ok (.iload_n 1, 1) := by decide +kernel
theorem d_Mo_ends_125 : decode b_Mo_ends 125 = .ok (.iaload, 1) := by decide +kernel
theorem d_Mo_ends_126 : decode b_Mo_ends 126 = .ok (.iastore, 1) := by decide +kernel
theorem d_Mo_ends_127 : decode b_Mo_ends 127 = .ok (.aload_n 0, 1) := by decide +kernel
theorem d_Mo_ends_128 : decode b_Mo_ends 128 = .ok (.getfield 49, 3) := by decide +kernel
theorem d_Mo_ends_131 : decode b_Mo_ends 131 = .ok (.iload_n 1, 1) := by decide +kernel
theorem d_Mo_ends_132 : decode b_Mo_ends 132 = .ok (.dup2, 1) := by decide +kernel
theorem d_Mo_ends_133 : decode b_Mo_ends 133 = .ok (.iaload, 1) := by decide +kernel
theorem d_Mo_ends_134 : decode b_Mo_ends 134 = .ok (.aload_n 0, 1) := by decide +kernel
theorem d_Mo_ends_135 : decode b_Mo_ends 135 = .ok (.getfield 49, 3) := by decide +kernel
theorem d_Mo_ends_138 : decode b_Mo_ends 138 = .ok (.iload_n 1, 1) := by decide +kernel
theorem d_Mo_ends_139 : decode b_Mo_ends 139 = .ok (.iaload, 1) := by decide +kernel
theorem d_Mo_ends_140 : decode b_Mo_ends 140 = .ok (.ifCond .le 7, 3) := by decide +kernel
theorem d_Mo_ends_143 : decode b_Mo_ends 143 = .ok (.iconst 1, 1) := by decide +kernel
theorem d_Mo_ends_144 : decode b_Mo_ends 144 = .ok (.goto 4, 3) := by decide +kernel
theorem d_Mo_ends_147 : decode b_Mo_ends 147 = .ok (.iconst 0, 1) := by decide +kernel
theorem d_Mo_ends_148 : decode b_Mo_ends 148 = .ok (.isub, 1) := by decide +kernel
theorem d_Mo_ends_149 : decode b_Mo_ends 149 = .ok (.iastore, 1) := by decide +kernel
theorem d_Mo_ends_150 : decode b_Mo_ends 150 = .ok (.return_, 1) := by decide +kernel
theorem d_Mo_goesBy_0 : decode b_Mo_goesBy 0 = .ok (.aload_n 0, 1) := by decide +kernel
theorem d_Mo_goesBy_1 : decode b_Mo_goesBy 1 = .ok (.iload_n 1, 1) := by decide +kernel
theorem d_Mo_goesBy_2 : decode b_Mo_goesBy 2 = .ok (.invokevirtual 219, 3) := by decide +kernel
theorem d_Mo_goesBy_5 : decode b_Mo_goesBy 5 = .ok (.aload_n 0, 1) := by decide +kernel
theorem d_Mo_goesBy_6 : decode b_Mo_goesBy 6 = .ok (.iload_n 1, 1) := by decide +kernel
theorem d_Mo_goesBy_7 : decode b_Mo_goesBy 7 = .ok (.invokevirtual 223, 3) := by decide +kernel
theorem d_Mo_goesBy_10 : decode b_Mo_goesBy 10 = .ok (.iconst 0, 1) := by decide +kernel
theorem d_Mo_goesBy_11 : decode b_Mo_goesBy 11 = .ok (.istore_n 2, 1) := by decide +kernel
theorem d_Mo_goesBy_12 : decode b_Mo_goesBy 12 = .ok (.iload_n 2, 1) := by decide +kernel
theorem d_Mo_goesBy_13 : decode b_Mo_goesBy 13 = .ok (.aload_n 0, 1) := by decide +kernel
theorem d_Mo_goesBy_14 : decode b_Mo_goesBy 14 = .ok (.getfield 127, 3) := by decide +kernel
theorem d_Mo_goesBy_17 : decode b_Mo_goesBy 17 = .ok (.if_icmp .ge 24, 3) := by decide +kernel
theorem d_Mo_goesBy_20 : decode b_Mo_goesBy 20 = .ok (.aload_n 0, 1) := by decide +kernel
theorem d_Mo_goesBy_21 : decode b_Mo_goesBy 21 = .ok (.getfield 49, 3) := by decide +kernel
theorem d_Mo_goesBy_24 : decode b_Mo_goesBy 24 = .ok (.iload_n 2, 1) := by decide +kernel
theorem d_Mo_goesBy_25 : decode b_Mo_goesBy 25 = .ok (.iaload, 1) := by decide +kernel
theorem d_Mo_goesBy_26 : decode b_Mo_goesBy 26 = .ok (.ifCond .ne 9, 3) := by decide +kernel
theorem d_Mo_goesBy_29 : decode b_Mo_goesBy 29 = .ok (.aload_n 0, 1) := by decide +kernel
theorem d_Mo_goesBy_30 : decode b_Mo_goesBy 30 = .ok (.iload_n 2, 1) := by decide +kernel
theorem d_Mo_goesBy_31 : decode b_Mo_goesBy 31 = .ok (.iload_n 1, 1) := by decide +kernel
theorem d_Mo_goesBy_32 : decode b_Mo_goesBy 32 = .ok (.invokevirtual 226, 3) := by decide +kernel
theorem d_Mo_goesBy_35 : decode b_Mo_goesBy 35 = .ok (.iinc 2 1, 3) := by decide +kernel
theorem d_Mo_goesBy_38 : decode b_Mo_goesBy 38 = .ok (.goto (-26), 3) := by decide +kernel
theorem d_Mo_goesBy_41 : decode b_Mo_goesBy 41 = .ok (.iconst 0, 1) := by decide +kernel
theorem d_Mo_goesBy_42 : decode b_Mo_goesBy 42 = .ok (.istore_n 2, 1) := by decide +kernel
theorem d_Mo_goesBy_43 : decode b_Mo_goesBy 43 = .ok (.iload_n 2, 1) := by decide +kernel
theorem d_Mo_goesBy_44 : decode b_Mo_goesBy 44 = .ok (.aload_n 0, 1) := by decide +kernel
theorem d_Mo_goesBy_45 : decode b_Mo_goesBy 45 = .ok (.getfield 127, 3) := by decide +kernel
theorem d_Mo_goesBy_48 : decode b_Mo_goesBy 48 = .ok (.if_icmp .ge 15, 3) := by decide +kernel
theorem d_Mo_goesBy_51 : decode b_Mo_goesBy 51 = .ok (.aload_n 0, 1) := by decide +kernel
theorem d_Mo_goesBy_52 : decode b_Mo_goesBy 52 = .ok (.iload_n 2, 1) := by decide +kernel
theorem d_Mo_goesBy_53 : decode b_Mo_goesBy 53 = .ok (.iload_n 1, 1) := by decide +kernel
theorem d_Mo_goesBy_54 : decode b_Mo_goesBy 54 = .ok (.invokevirtual 229, 3) := by decide +kernel
theorem d_Mo_goesBy_57 : decode b_Mo_goesBy 57 = .ok (.iinc 2 1, 3) := by decide +kernel
theorem d_Mo_goesBy_60 : decode b_Mo_goesBy 60 = .ok (.goto (-17), 3) := by decide +kernel
theorem d_Mo_goesBy_63 : decode b_Mo_goesBy 63 = .ok (.return_, 1) := by decide +kernel
theorem d_Mo_runs_0 : decode b_Mo_runs 0 = .ok (.iconst 0, 1) := by decide +kernel
theorem d_Mo_runs_1 : decode b_Mo_runs 1 = .ok (.istore_n 1, 1) := by decide +kernel
theorem d_Mo_runs_2 : decode b_Mo_runs 2 = .ok (.iload_n 1, 1) := by decide +kernel
theorem d_Mo_runs_3 : decode b_Mo_runs 3 = .ok (.aload_n 0, 1) := by decide +kernel
theorem d_Mo_runs_4 : decode b_Mo_runs 4 = .ok (.getfield 127, 3) := by decide +kernel
theorem d_Mo_runs_7 : decode b_Mo_runs 7 = .ok (.if_icmp .ge 58, 3) := by decide +kernel
theorem d_Mo_runs_10 : decode b_Mo_runs 10 = .ok (.aload_n 0, 1) := by decide +kernel
theorem d_Mo_runs_11 : decode b_Mo_runs 11 = .ok (.getfield 43, 3) := by decide +kernel
theorem d_Mo_runs_14 : decode b_Mo_runs 14 = .ok (.iload_n 1, 1) := by decide +kernel
theorem d_Mo_runs_15 : decode b_Mo_runs 15 = .ok (.iconst 0, 1) := by decide +kernel
theorem d_Mo_runs_16 : decode b_Mo_runs 16 = .ok (.iastore, 1) := by decide +kernel
theorem d_Mo_runs_17 : decode b_Mo_runs 17 = .ok (.aload_n 0, 1) := by decide +kernel
theorem d_Mo_runs_18 : decode b_Mo_runs 18 = .ok (.getfield 46, 3) := by decide +kernel
theorem d_Mo_runs_21 : decode b_Mo_runs 21 = .ok (.iload_n 1, 1) := by decide +kernel
theorem d_Mo_runs_22 : decode b_Mo_runs 22 = .ok (.iconst 4, 1) := by decide +kernel
theorem d_Mo_runs_23 : decode b_Mo_runs 23 = .ok (.aload_n 0, 1) := by decide +kernel
theorem d_Mo_runs_24 : decode b_Mo_runs 24 = .ok (.getfield 19, 3) := by decide +kernel
theorem d_Mo_runs_27 : decode b_Mo_runs 27 = .ok (.iload_n 1, 1) := by decide +kernel
theorem d_Mo_runs_28 : decode b_Mo_runs 28 = .ok (.iaload, 1) := by decide +kernel
theorem d_Mo_runs_29 : decode b_Mo_runs 29 = .ok (.imul, 1) := by decide +kernel
theorem d_Mo_runs_30 : decode b_Mo_runs 30 = .ok (.iastore, 1) := by decide +kernel
theorem d_Mo_runs_31 : decode b_Mo_runs 31 = .ok (.aload_n 0, 1) := by decide +kernel
theorem d_Mo_runs_32 : decode b_Mo_runs 32 = .ok (.getfield 49, 3) := by decide +kernel
theorem d_Mo_runs_35 : decode b_Mo_runs 35 = .ok (.iload_n 1, 1) := by decide +kernel
theorem d_Mo_runs_36 : decode b_Mo_runs 36 = .ok (.iconst 0, 1) := by decide +kernel
theorem d_Mo_runs_37 : decode b_Mo_runs 37 = .ok (.iastore, 1) := by decide +kernel
theorem d_Mo_runs_38 : decode b_Mo_runs 38 = .ok (.aload_n 0, 1) := by decide +kernel
theorem d_Mo_runs_39 : decode b_Mo_runs 39 = .ok (.getfield 52, 3) := by decide +kernel
theorem d_Mo_runs_42 : decode b_Mo_runs 42 = .ok (.iload_n 1, 1) := by decide +kernel
theorem d_Mo_runs_43 : decode b_Mo_runs 43 = .ok (.iconst 0, 1) := by decide +kernel
theorem d_Mo_runs_44 : decode b_Mo_runs 44 = .ok (.iastore, 1) := by decide +kernel
theorem d_Mo_runs_45 : decode b_Mo_runs 45 = .ok (.aload_n 0, 1) := by decide +kernel
theorem d_Mo_runs_46 : decode b_Mo_runs 46 = .ok (.getfield 55, 3) := by decide +kernel
theorem d_Mo_runs_49 : decode b_Mo_runs 49 = .ok (.iload_n 1, 1) := by decide +kernel
theorem d_Mo_runs_50 : decode b_Mo_runs 50 = .ok (.iconst 0, 1) := by decide +kernel
theorem d_Mo_runs_51 : decode b_Mo_runs 51 = .ok (.iastore, 1) := by decide +kernel
theorem d_Mo_runs_52 : decode b_Mo_runs 52 = .ok (.aload_n 0, 1) := by decide +kernel
theorem d_Mo_runs_53 : decode b_Mo_runs 53 = .ok (.getfield 58, 3) := by decide +kernel
theorem d_Mo_runs_56 : decode b_Mo_runs 56 = .ok (.iload_n 1, 1) := by decide +kernel
theorem d_Mo_runs_57 : decode b_Mo_runs 57 = .ok (.iconst 0, 1) := by decide +kernel
theorem d_Mo_runs_58 : decode b_Mo_runs 58 = .ok (.iastore, 1) := by decide +kernel
theorem d_Mo_runs_59 : decode b_Mo_runs 59 = .ok (.iinc 1 1, 3) := by decide +kernel
theorem d_Mo_runs_62 : decode b_Mo_runs 62 = .ok (.goto (-60), 3) := by decide +kernel
theorem d_Mo_runs_65 : decode b_Mo_runs 65 = .ok (.aload_n 0, 1) := by decide +kernel
theorem d_Mo_runs_66 : decode b_Mo_runs 66 = .ok (.iconst 0, 1) := by decide +kernel
theorem d_Mo_runs_67 : decode b_Mo_runs 67 = .ok (.putfield 189, 3) := by decide +kernel
theorem d_Mo_runs_70 : decode b_Mo_runs 70 = .ok (.aload_n 0, 1) := by decide +kernel
theorem d_Mo_runs_71 : decode b_Mo_runs 71 = .ok (.iconst (-1), 1) := by decide +kernel
theorem d_Mo_runs_72 : decode b_Mo_runs 72 = .ok (.putfield 192, 3) := by decide +kernel
theorem d_Mo_runs_75 : decode b_Mo_runs 75 = .ok (.aload_n 0, 1) := by decide +kernel
theorem d_Mo_runs_76 : decode b_Mo_runs 76 = .ok (.iconst (-1), 1) := by decide +kernel
theorem d_Mo_runs_77 : decode b_Mo_runs 77 = .ok (.putfield 195, 3) := by decide +kernel
theorem d_Mo_runs_80 : decode b_Mo_runs 80 = .ok (.iconst 0, 1) := by decide +kernel
theorem d_Mo_runs_81 : decode b_Mo_runs 81 = .ok (.istore_n 1, 1) := by decide +kernel
theorem d_Mo_runs_82 : decode b_Mo_runs 82 = .ok (.iload_n 1, 1) := by decide +kernel
theorem d_Mo_runs_83 : decode b_Mo_runs 83 = .ok (.bipush 24, 2) := by decide +kernel
theorem d_Mo_runs_85 : decode b_Mo_runs 85 = .ok (.if_icmp .ge 37, 3) := by decide +kernel
theorem d_Mo_runs_88 : decode b_Mo_runs 88 = .ok (.aload_n 0, 1) := by decide +kernel
theorem d_Mo_runs_89 : decode b_Mo_runs 89 = .ok (.iconst 0, 1) := by decide +kernel
theorem d_Mo_runs_90 : decode b_Mo_runs 90 = .ok (.putfield 205, 3) := by decide +kernel
theorem d_Mo_runs_93 : decode b_Mo_runs 93 = .ok (.aload_n 0, 1) := by decide +kernel
theorem d_Mo_runs_94 : decode b_Mo_runs 94 = .ok (.iload_n 1, 1) := by decide +kernel
theorem d_Mo_runs_95 : decode b_Mo_runs 95 = .ok (.invokevirtual 232, 3) := by decide +kernel
theorem d_Mo_runs_98 : decode b_Mo_runs 98 = .ok (.aload_n 0, 1) := by decide +kernel
theorem d_Mo_runs_99 : decode b_Mo_runs 99 = .ok (.getfield 79, 3) := by decide +kernel
theorem d_Mo_runs_102 : decode b_Mo_runs 102 = .ok (.iload_n 1, 1) := by decide +kernel
theorem d_Mo_runs_103 : decode b_Mo_runs 103 = .ok (.aload_n 0, 1) := by decide +kernel
theorem d_Mo_runs_104 : decode b_Mo_runs 104 = .ok (.getfield 205, 3) := by decide +kernel
theorem d_Mo_runs_107 : decode b_Mo_runs 107 = .ok (.ifCond .eq 7, 3) := by decide +kernel
theorem d_Mo_runs_110 : decode b_Mo_runs 110 = .ok (.iconst 1, 1) := by decide +kernel
theorem d_Mo_runs_111 : decode b_Mo_runs 111 = .ok (.goto 4, 3) := by decide +kernel
theorem d_Mo_runs_114 : decode b_Mo_runs 114 = .ok (.iconst 0, 1) := by decide +kernel
theorem d_Mo_runs_115 : decode b_Mo_runs 115 = .ok (.iastore, 1) := by decide +kernel
theorem d_Mo_runs_116 : decode b_Mo_runs 116 = .ok (.iinc 1 1, 3) := by decide +kernel
theorem d_Mo_runs_119 : decode b_Mo_runs 119 = .ok (.goto (-37), 3) := by decide +kernel
theorem d_Mo_runs_122 : decode b_Mo_runs 122 = .ok (.return_, 1) := by decide +kernel
theorem d_Mo_runsTold_0 : decode b_Mo_runsTold 0 = .ok (.aload_n 0, 1) := by decide +kernel
theorem d_Mo_runsTold_1 : decode b_Mo_runsTold 1 = .ok (.invokevirtual 235, 3) := by decide +kernel
theorem d_Mo_runsTold_4 : decode b_Mo_runsTold 4 = .ok (.aload_n 0, 1) := by decide +kernel
theorem d_Mo_runsTold_5 : decode b_Mo_runsTold 5 = .ok (.invokevirtual 238, 3) := by decide +kernel
theorem d_Mo_runsTold_8 : decode b_Mo_runsTold 8 = .ok (.return_, 1) := by decide +kernel
theorem d_Mo_atOf_0 : decode b_Mo_atOf 0 = .ok (.aload_n 0, 1) := by decide +kernel
theorem d_Mo_atOf_1 : decode b_Mo_atOf 1 = .ok (.invokevirtual 241, 3) := by decide +kernel
theorem d_Mo_atOf_4 : decode b_Mo_atOf 4 = .ok (.bipush 8, 2) := by decide +kernel
theorem d_Mo_atOf_6 : decode b_Mo_atOf 6 = .ok (.iload_n 1, 1) := by decide +kernel
theorem d_Mo_atOf_7 : decode b_Mo_atOf 7 = .ok (.imul, 1) := by decide +kernel
theorem d_Mo_atOf_8 : decode b_Mo_atOf 8 = .ok (.iload_n 2, 1) := by decide +kernel
theorem d_Mo_atOf_9 : decode b_Mo_atOf 9 = .ok (.iadd, 1) := by decide +kernel
theorem d_Mo_atOf_10 : decode b_Mo_atOf 10 = .ok (.istore 4, 2) := by decide +kernel
theorem d_Mo_atOf_12 : decode b_Mo_atOf 12 = .ok (.iload_n 3, 1) := by decide +kernel
theorem d_Mo_atOf_13 : decode b_Mo_atOf 13 = .ok (.tableswitch 75 0 4 #[35, 43, 51, 59, 67], 35) := by decide +kernel
theorem d_Mo_atOf_48 : decode b_Mo_atOf 48 = .ok (.aload_n 0, 1) := by decide +kernel
theorem d_Mo_atOf_49 : decode b_Mo_atOf 49 = .ok (.getfield 61, 3) := by decide +kernel
theorem d_Mo_atOf_52 : decode b_Mo_atOf 52 = .ok (.iload 4, 2) := by decide +kernel
theorem d_Mo_atOf_54 : decode b_Mo_atOf 54 = .ok (.iaload, 1) := by decide +kernel
theorem d_Mo_atOf_55 : decode b_Mo_atOf 55 = .ok (.ireturn, 1) := by decide +kernel
theorem d_Mo_atOf_56 : decode b_Mo_atOf 56 = .ok (.aload_n 0, 1) := by decide +kernel
theorem d_Mo_atOf_57 : decode b_Mo_atOf 57 = .ok (.getfield 64, 3) := by decide +kernel
theorem d_Mo_atOf_60 : decode b_Mo_atOf 60 = .ok (.iload 4, 2) := by decide +kernel
theorem d_Mo_atOf_62 : decode b_Mo_atOf 62 = .ok (.iaload, 1) := by decide +kernel
theorem d_Mo_atOf_63 : decode b_Mo_atOf 63 = .ok (.ireturn, 1) := by decide +kernel
theorem d_Mo_atOf_64 : decode b_Mo_atOf 64 = .ok (.aload_n 0, 1) := by decide +kernel
theorem d_Mo_atOf_65 : decode b_Mo_atOf 65 = .ok (.getfield 67, 3) := by decide +kernel
theorem d_Mo_atOf_68 : decode b_Mo_atOf 68 = .ok (.iload 4, 2) := by decide +kernel
theorem d_Mo_atOf_70 : decode b_Mo_atOf 70 = .ok (.iaload, 1) := by decide +kernel
theorem d_Mo_atOf_71 : decode b_Mo_atOf 71 = .ok (.ireturn, 1) := by decide +kernel
theorem d_Mo_atOf_72 : decode b_Mo_atOf 72 = .ok (.aload_n 0, 1) := by decide +kernel
theorem d_Mo_atOf_73 : decode b_Mo_atOf 73 = .ok (.getfield 70, 3) := by decide +kernel
theorem d_Mo_atOf_76 : decode b_Mo_atOf 76 = .ok (.iload 4, 2) := by decide +kernel
theorem d_Mo_atOf_78 : decode b_Mo_atOf 78 = .ok (.iaload, 1) := by decide +kernel
theorem d_Mo_atOf_79 : decode b_Mo_atOf 79 = .ok (.ireturn, 1) := by decide +kernel
theorem d_Mo_atOf_80 : decode b_Mo_atOf 80 = .ok (.aload_n 0, 1) := by decide +kernel
theorem d_Mo_atOf_81 : decode b_Mo_atOf 81 = .ok (.getfield 73, 3) := by decide +kernel
theorem d_Mo_atOf_84 : decode b_Mo_atOf 84 = .ok (.iload 4, 2) := by decide +kernel
theorem d_Mo_atOf_86 : decode b_Mo_atOf 86 = .ok (.iaload, 1) := by decide +kernel
theorem d_Mo_atOf_87 : decode b_Mo_atOf 87 = .ok (.ireturn, 1) := by decide +kernel
theorem d_Mo_atOf_88 : decode b_Mo_atOf 88 = .ok (.aload_n 0, 1) := by decide +kernel
theorem d_Mo_atOf_89 : decode b_Mo_atOf 89 = .ok (.getfield 76, 3) := by decide +kernel
theorem d_Mo_atOf_92 : decode b_Mo_atOf 92 = .ok (.iload 4, 2) := by decide +kernel
theorem d_Mo_atOf_94 : decode b_Mo_atOf 94 = .ok (.iaload, 1) := by decide +kernel
theorem d_Mo_atOf_95 : decode b_Mo_atOf 95 = .ok (.ireturn, 1) := by decide +kernel
theorem d_Mo_at_0 : decode b_Mo_at 0 = .ok (.iload_n 1, 1) := by decide +kernel
theorem d_Mo_at_1 : decode b_Mo_at 1 = .ok (.invokestatic 165, 3) := by decide +kernel
theorem d_Mo_at_4 : decode b_Mo_at 4 = .ok (.ifCond .eq 30, 3) := by decide +kernel
theorem d_Mo_at_7 : decode b_Mo_at 7 = .ok (.aload_n 0, 1) := by decide +kernel
theorem d_Mo_at_8 : decode b_Mo_at 8 = .ok (.iload_n 2, 1) := by decide +kernel
theorem d_Mo_at_9 : decode b_Mo_at 9 = .ok (.invokevirtual 150, 3) := by decide +kernel
theorem d_Mo_at_12 : decode b_Mo_at 12 = .ok (.ifCond .eq 22, 3) := by decide +kernel
theorem d_Mo_at_15 : decode b_Mo_at 15 = .ok (.iload_n 3, 1) := by decide +kernel
theorem d_Mo_at_16 : decode b_Mo_at 16 = .ok (.iconst 0, 1) := by decide +kernel
theorem d_Mo_at_17 : decode b_Mo_at 17 = .ok (.iconst 5, 1) := by decide +kernel
theorem d_Mo_at_18 : decode b_Mo_at 18 = .ok (.invokestatic 115, 3) := by decide +kernel
theorem d_Mo_at_21 : decode b_Mo_at 21 = .ok (.ifCond .eq 13, 3) := by decide +kernel
theorem d_Mo_at_24 : decode b_Mo_at 24 = .ok (.aload_n 0, 1) := by decide +kernel
theorem d_Mo_at_25 : decode b_Mo_at 25 = .ok (.iload_n 1, 1) := by decide +kernel
theorem d_Mo_at_26 : decode b_Mo_at 26 = .ok (.iload_n 2, 1) := by decide +kernel
theorem d_Mo_at_27 : decode b_Mo_at 27 = .ok (.iload_n 3, 1) := by decide +kernel
theorem d_Mo_at_28 : decode b_Mo_at 28 = .ok (.invokevirtual 244, 3) := by decide +kernel
theorem d_Mo_at_31 : decode b_Mo_at 31 = .ok (.goto 5, 3) := by decide +kernel
theorem d_Mo_at_34 : decode b_Mo_at 34 = .ok (.bipush (-2), 2) := by decide +kernel
theorem d_Mo_at_36 : decode b_Mo_at 36 = .ok (.ireturn, 1) := by decide +kernel
theorem d_Mo_throughNow_0 : decode b_Mo_throughNow 0 = .ok (.iconst 0, 1) := by decide +kernel
theorem d_Mo_throughNow_1 : decode b_Mo_throughNow 1 = .ok (.istore_n 1, 1) := by decide +kernel
theorem d_Mo_throughNow_2 : decode b_Mo_throughNow 2 = .ok (.iconst 0, 1) := by decide +kernel
theorem d_Mo_throughNow_3 : decode b_Mo_throughNow 3 = .ok (.istore_n 2, 1) := by decide +kernel
theorem d_Mo_throughNow_4 : decode b_Mo_throughNow 4 = .ok (.iload_n 2, 1) := by decide +kernel
theorem d_Mo_throughNow_5 : decode b_Mo_throughNow 5 = .ok (.aload_n 0, 1) := by decide +kernel
theorem d_Mo_throughNow_6 : decode b_Mo_throughNow 6 = .ok (.getfield 127, 3) := by decide +kernel
theorem d_Mo_throughNow_9 : decode b_Mo_throughNow 9 = .ok (.if_icmp .ge 18, 3) := by decide +kernel
theorem d_Mo_throughNow_12 : decode b_Mo_throughNow 12 = .ok (.iload_n 1, 1) := by decide +kernel
theorem d_Mo_throughNow_13 : decode b_Mo_throughNow 13 = .ok (.aload_n 0, 1) := by decide +kernel
theorem d_Mo_throughNow_14 : decode b_Mo_throughNow 14 = .ok (.getfield 55, 3) := by decide +kernel
theorem d_Mo_throughNow_17 : decode b_Mo_throughNow 17 = .ok (.iload_n 2, 1) := by decide +kernel
theorem d_Mo_throughNow_18 : decode b_Mo_throughNow 18 = .ok (.iaload, 1) := by decide +kernel
theorem d_Mo_throughNow_19 : decode b_Mo_throughNow 19 = .ok (.iadd, 1) := by decide +kernel
theorem d_Mo_throughNow_20 : decode b_Mo_throughNow 20 = .ok (.istore_n 1, 1) := by decide +kernel
theorem d_Mo_throughNow_21 : decode b_Mo_throughNow 21 = .ok (.iinc 2 1, 3) := by decide +kernel
theorem d_Mo_throughNow_24 : decode b_Mo_throughNow 24 = .ok (.goto (-20), 3) := by decide +kernel
theorem d_Mo_throughNow_27 : decode b_Mo_throughNow 27 = .ok (.iload_n 1, 1) := by decide +kernel
theorem d_Mo_throughNow_28 : decode b_Mo_throughNow 28 = .ok (.ireturn, 1) := by decide +kernel
theorem d_Mo_throughOf_0 : decode b_Mo_throughOf 0 = .ok (.aload_n 0, 1) := by decide +kernel
theorem d_Mo_throughOf_1 : decode b_Mo_throughOf 1 = .ok (.invokevirtual 241, 3) := by decide +kernel
theorem d_Mo_throughOf_4 : decode b_Mo_throughOf 4 = .ok (.aload_n 0, 1) := by decide +kernel
theorem d_Mo_throughOf_5 : decode b_Mo_throughOf 5 = .ok (.invokevirtual 248, 3) := by decide +kernel
theorem d_Mo_throughOf_8 : decode b_Mo_throughOf 8 = .ok (.ireturn, 1) := by decide +kernel
theorem d_Mo_through_0 : decode b_Mo_through 0 = .ok (.aload_n 0, 1) := by decide +kernel
theorem d_Mo_through_1 : decode b_Mo_through 1 = .ok (.invokevirtual 252, 3) := by decide +kernel
theorem d_Mo_through_4 : decode b_Mo_through 4 = .ok (.ireturn, 1) := by decide +kernel
theorem d_Mo_lostOf_0 : decode b_Mo_lostOf 0 = .ok (.aload_n 0, 1) := by decide +kernel
theorem d_Mo_lostOf_1 : decode b_Mo_lostOf 1 = .ok (.invokevirtual 241, 3) := by decide +kernel
theorem d_Mo_lostOf_4 : decode b_Mo_lostOf 4 = .ok (.aload_n 0, 1) := by decide +kernel
theorem d_Mo_lostOf_5 : decode b_Mo_lostOf 5 = .ok (.getfield 189, 3) := by decide +kernel
theorem d_Mo_lostOf_8 : decode b_Mo_lostOf 8 = .ok (.ireturn, 1) := by decide +kernel
theorem d_Mo_lost_0 : decode b_Mo_lost 0 = .ok (.aload_n 0, 1) := by decide +kernel
theorem d_Mo_lost_1 : decode b_Mo_lost 1 = .ok (.invokevirtual 255, 3) := by decide +kernel
theorem d_Mo_lost_4 : decode b_Mo_lost 4 = .ok (.ireturn, 1) := by decide +kernel
theorem d_Mo_firstOf_0 : decode b_Mo_firstOf 0 = .ok (.aload_n 0, 1) := by decide +kernel
theorem d_Mo_firstOf_1 : decode b_Mo_firstOf 1 = .ok (.invokevirtual 241, 3) := by decide +kernel
theorem d_Mo_firstOf_4 : decode b_Mo_firstOf 4 = .ok (.iload_n 1, 1) := by decide +kernel
theorem d_Mo_firstOf_5 : decode b_Mo_firstOf 5 = .ok (.ifCond .ne 10, 3) := by decide +kernel
theorem d_Mo_firstOf_8 : decode b_Mo_firstOf 8 = .ok (.aload_n 0, 1) := by decide +kernel
theorem d_Mo_firstOf_9 : decode b_Mo_firstOf 9 = .ok (.getfield 192, 3) := by decide +kernel
theorem d_Mo_firstOf_12 : decode b_Mo_firstOf 12 = .ok (.goto 7, 3) := by decide +kernel
theorem d_Mo_firstOf_15 : decode b_Mo_firstOf 15 = .ok (.aload_n 0, 1) := by decide +kernel
theorem d_Mo_firstOf_16 : decode b_Mo_firstOf 16 = .ok (.getfield 195, 3) := by decide +kernel
theorem d_Mo_firstOf_19 : decode b_Mo_firstOf 19 = .ok (.ireturn, 1) := by decide +kernel
theorem d_Mo_first_0 : decode b_Mo_first 0 = .ok (.iload_n 1, 1) := by decide +kernel
theorem d_Mo_first_1 : decode b_Mo_first 1 = .ok (.invokestatic 153, 3) := by decide +kernel
theorem d_Mo_first_4 : decode b_Mo_first 4 = .ok (.ifCond .eq 11, 3) := by decide +kernel
theorem d_Mo_first_7 : decode b_Mo_first 7 = .ok (.aload_n 0, 1) := by decide +kernel
theorem d_Mo_first_8 : decode b_Mo_first 8 = .ok (.iload_n 1, 1) := by decide +kernel
theorem d_Mo_first_9 : decode b_Mo_first 9 = .ok (.invokevirtual 258, 3) := by decide +kernel
theorem d_Mo_first_12 : decode b_Mo_first 12 = .ok (.goto 5, 3) := by decide +kernel
theorem d_Mo_first_15 : decode b_Mo_first 15 = .ok (.bipush (-2), 2) := by decide +kernel
theorem d_Mo_first_17 : decode b_Mo_first 17 = .ok (.ireturn, 1) := by decide +kernel
theorem d_Mo_bestOf_0 : decode b_Mo_bestOf 0 = .ok (.aload_n 0, 1) := by decide +kernel
theorem d_Mo_bestOf_1 : decode b_Mo_bestOf 1 = .ok (.invokevirtual 241, 3) := by decide +kernel
theorem d_Mo_bestOf_4 : decode b_Mo_bestOf 4 = .ok (.iconst (-1), 1) := by decide +kernel
theorem d_Mo_bestOf_5 : decode b_Mo_bestOf 5 = .ok (.istore_n 1, 1) := by decide +kernel
theorem d_Mo_bestOf_6 : decode b_Mo_bestOf 6 = .ok (.iconst 0, 1) := by decide +kernel
theorem d_Mo_bestOf_7 : decode b_Mo_bestOf 7 = .ok (.istore_n 2, 1) := by decide +kernel
theorem d_Mo_bestOf_8 : decode b_Mo_bestOf 8 = .ok (.iload_n 2, 1) := by decide +kernel
theorem d_Mo_bestOf_9 : decode b_Mo_bestOf 9 = .ok (.aload_n 0, 1) := by decide +kernel
theorem d_Mo_bestOf_10 : decode b_Mo_bestOf 10 = .ok (.getfield 127, 3) := by decide +kernel
theorem d_Mo_bestOf_13 : decode b_Mo_bestOf 13 = .ok (.if_icmp .ge 35, 3) := by decide +kernel
theorem d_Mo_bestOf_16 : decode b_Mo_bestOf 16 = .ok (.iload_n 1, 1) := by decide +kernel
theorem d_Mo_bestOf_17 : decode b_Mo_bestOf 17 = .ok (.iconst (-1), 1) := by decide +kernel
theorem d_Mo_bestOf_18 : decode b_Mo_bestOf 18 = .ok (.if_icmp .eq 18, 3) := by decide +kernel
theorem d_Mo_bestOf_21 : decode b_Mo_bestOf 21 = .ok (.aload_n 0, 1) := by decide +kernel
theorem d_Mo_bestOf_22 : decode b_Mo_bestOf 22 = .ok (.getfield 55, 3) := by decide +kernel
theorem d_Mo_bestOf_25 : decode b_Mo_bestOf 25 = .ok (.iload_n 2, 1) := by decide +kernel
theorem d_Mo_bestOf_26 : decode b_Mo_bestOf 26 = .ok (.iaload, 1) := by decide +kernel
theorem d_Mo_bestOf_27 : decode b_Mo_bestOf 27 = .ok (.aload_n 0, 1) := by decide +kernel
theorem d_Mo_bestOf_28 : decode b_Mo_bestOf 28 = .ok (.getfield 55, 3) := by decide +kernel
theorem d_Mo_bestOf_31 : decode b_Mo_bestOf 31 = .ok (.iload_n 1, 1) := by decide +kernel
theorem d_Mo_bestOf_32 : decode b_Mo_bestOf 32 = .ok (.iaload, 1) := by decide +kernel
theorem d_Mo_bestOf_33 : decode b_Mo_bestOf 33 = .ok (.if_icmp .le 7, 3) := by decide +kernel
theorem d_Mo_bestOf_36 : decode b_Mo_bestOf 36 = .ok (.iload_n 2, 1) := by decide +kernel
theorem d_Mo_bestOf_37 : decode b_Mo_bestOf 37 = .ok (.goto 4, 3) := by decide +kernel
theorem d_Mo_bestOf_40 : decode b_Mo_bestOf 40 = .ok (.iload_n 1, 1) := by decide +kernel
theorem d_Mo_bestOf_41 : decode b_Mo_bestOf 41 = .ok (.istore_n 1, 1) := by decide +kernel
theorem d_Mo_bestOf_42 : decode b_Mo_bestOf 42 = .ok (.iinc 2 1, 3) := by decide +kernel
theorem d_Mo_bestOf_45 : decode b_Mo_bestOf 45 = .ok (.goto (-37), 3) := by decide +kernel
theorem d_Mo_bestOf_48 : decode b_Mo_bestOf 48 = .ok (.iload_n 1, 1) := by decide +kernel
theorem d_Mo_bestOf_49 : decode b_Mo_bestOf 49 = .ok (.ireturn, 1) := by decide +kernel
theorem d_Mo_best_0 : decode b_Mo_best 0 = .ok (.aload_n 0, 1) := by decide +kernel
theorem d_Mo_best_1 : decode b_Mo_best 1 = .ok (.invokevirtual 261, 3) := by decide +kernel
theorem d_Mo_best_4 : decode b_Mo_best 4 = .ok (.ireturn, 1) := by decide +kernel
theorem d_Mo_wholeOf_0 : decode b_Mo_wholeOf 0 = .ok (.aload_n 0, 1) := by decide +kernel
theorem d_Mo_wholeOf_1 : decode b_Mo_wholeOf 1 = .ok (.invokevirtual 241, 3) := by decide +kernel
theorem d_Mo_wholeOf_4 : decode b_Mo_wholeOf 4 = .ok (.iconst 0, 1) := by decide +kernel
theorem d_Mo_wholeOf_5 : decode b_Mo_wholeOf 5 = .ok (.istore_n 1, 1) := by decide +kernel
theorem d_Mo_wholeOf_6 : decode b_Mo_wholeOf 6 = .ok (.iconst 0, 1) := by decide +kernel
theorem d_Mo_wholeOf_7 : decode b_Mo_wholeOf 7 = .ok (.istore_n 2, 1) := by decide +kernel
theorem d_Mo_wholeOf_8 : decode b_Mo_wholeOf 8 = .ok (.iload_n 2, 1) := by decide +kernel
theorem d_Mo_wholeOf_9 : decode b_Mo_wholeOf 9 = .ok (.aload_n 0, 1) := by decide +kernel
theorem d_Mo_wholeOf_10 : decode b_Mo_wholeOf 10 = .ok (.getfield 127, 3) := by decide +kernel
theorem d_Mo_wholeOf_13 : decode b_Mo_wholeOf 13 = .ok (.if_icmp .ge 28, 3) := by decide +kernel
theorem d_Mo_wholeOf_16 : decode b_Mo_wholeOf 16 = .ok (.iload_n 1, 1) := by decide +kernel
theorem d_Mo_wholeOf_17 : decode b_Mo_wholeOf 17 = .ok (.aload_n 0, 1) := by decide +kernel
theorem d_Mo_wholeOf_18 : decode b_Mo_wholeOf 18 = .ok (.getfield 58, 3) := by decide +kernel
theorem d_Mo_wholeOf_21 : decode b_Mo_wholeOf 21 = .ok (.iload_n 2, 1) := by decide +kernel
theorem d_Mo_wholeOf_22 : decode b_Mo_wholeOf 22 = .ok (.iaload, 1) := by decide +kernel
theorem d_Mo_wholeOf_23 : decode b_Mo_wholeOf 23 = .ok (.ifCond .ne 9, 3) := by decide +kernel
theorem d_Mo_wholeOf_26 : decode b_Mo_wholeOf 26 = .ok (.iconst 1, 1) := by decide +kernel
theorem d_Mo_wholeOf_27 : decode b_Mo_wholeOf 27 = .ok (.iload_n 2, 1) := by decide +kernel
theorem d_Mo_wholeOf_28 : decode b_Mo_wholeOf 28 = .ok (.ishl, 1) := by decide +kernel
theorem d_Mo_wholeOf_29 : decode b_Mo_wholeOf 29 = .ok (.goto 4, 3) := by decide +kernel
theorem d_Mo_wholeOf_32 : decode b_Mo_wholeOf 32 = .ok (.iconst 0, 1) := by decide +kernel
theorem d_Mo_wholeOf_33 : decode b_Mo_wholeOf 33 = .ok (.ior, 1) := by decide +kernel
theorem d_Mo_wholeOf_34 : decode b_Mo_wholeOf 34 = .ok (.istore_n 1, 1) := by decide +kernel
theorem d_Mo_wholeOf_35 : decode b_Mo_wholeOf 35 = .ok (.iinc 2 1, 3) := by decide +kernel
theorem d_Mo_wholeOf_38 : decode b_Mo_wholeOf 38 = .ok (.goto (-30), 3) := by decide +kernel
theorem d_Mo_wholeOf_41 : decode b_Mo_wholeOf 41 = .ok (.iload_n 1, 1) := by decide +kernel
theorem d_Mo_wholeOf_42 : decode b_Mo_wholeOf 42 = .ok (.ireturn, 1) := by decide +kernel
theorem d_Mo_whole_0 : decode b_Mo_whole 0 = .ok (.aload_n 0, 1) := by decide +kernel
theorem d_Mo_whole_1 : decode b_Mo_whole 1 = .ok (.invokevirtual 264, 3) := by decide +kernel
theorem d_Mo_whole_4 : decode b_Mo_whole 4 = .ok (.ireturn, 1) := by decide +kernel
theorem d_Mo_strengthOn_0 : decode b_Mo_strengthOn 0 = .ok (.iconst 0, 1) := by decide +kernel
theorem d_Mo_strengthOn_1 : decode b_Mo_strengthOn 1 = .ok (.istore_n 2, 1) := by decide +kernel
theorem d_Mo_strengthOn_2 : decode b_Mo_strengthOn 2 = .ok (.iconst 0, 1) := by decide +kernel
theorem d_Mo_strengthOn_3 : decode b_Mo_strengthOn 3 = .ok (.istore_n 3, 1) := by decide +kernel
theorem d_Mo_strengthOn_4 : decode b_Mo_strengthOn 4 = .ok (.iload_n 3, 1) := by decide +kernel
theorem d_Mo_strengthOn_5 : decode b_Mo_strengthOn 5 = .ok (.aload_n 0, 1) := by decide +kernel
theorem d_Mo_strengthOn_6 : decode b_Mo_strengthOn 6 = .ok (.getfield 127, 3) := by decide +kernel
theorem d_Mo_strengthOn_9 : decode b_Mo_strengthOn 9 = .ok (.if_icmp .ge 23, 3) := by decide +kernel
theorem d_Mo_strengthOn_12 : decode b_Mo_strengthOn 12 = .ok (.iload_n 2, 1) := by decide +kernel
theorem d_Mo_strengthOn_13 : decode b_Mo_strengthOn 13 = .ok (.aload_n 0, 1) := by decide +kernel
theorem d_Mo_strengthOn_14 : decode b_Mo_strengthOn 14 = .ok (.getfield 64, 3) := by decide +kernel
theorem d_Mo_strengthOn_17 : decode b_Mo_strengthOn 17 = .ok (.bipush 8, 2) := by decide +kernel
theorem d_Mo_strengthOn_19 : decode b_Mo_strengthOn 19 = .ok (.iload_n 1, 1) := by decide +kernel
theorem d_Mo_strengthOn_20 : decode b_Mo_strengthOn 20 = .ok (.imul, 1) := by decide +kernel
theorem d_Mo_strengthOn_21 : decode b_Mo_strengthOn 21 = .ok (.iload_n 3, 1) := by decide +kernel
theorem d_Mo_strengthOn_22 : decode b_Mo_strengthOn 22 = .ok (.iadd, 1) := by decide +kernel
theorem d_Mo_strengthOn_23 : decode b_Mo_strengthOn 23 = .ok (.iaload, 1) := by decide +kernel
theorem d_Mo_strengthOn_24 : decode b_Mo_strengthOn 24 = .ok (.iadd, 1) := by decide +kernel
theorem d_Mo_strengthOn_25 : decode b_Mo_strengthOn 25 = .ok (.istore_n 2, 1) := by decide +kernel
theorem d_Mo_strengthOn_26 : decode b_Mo_strengthOn 26 = .ok (.iinc 3 1, 3) := by decide +kernel
theorem d_Mo_strengthOn_29 : decode b_Mo_strengthOn 29 = .ok (.goto (-25), 3) := by decide +kernel
theorem d_Mo_strengthOn_32 : decode b_Mo_strengthOn 32 = .ok (.iload_n 2, 1) := by decide +kernel
theorem d_Mo_strengthOn_33 : decode b_Mo_strengthOn 33 = .ok (.ireturn, 1) := by decide +kernel
theorem d_Mo_tiredOf_0 : decode b_Mo_tiredOf 0 = .ok (.aload_n 0, 1) := by decide +kernel
theorem d_Mo_tiredOf_1 : decode b_Mo_tiredOf 1 = .ok (.invokevirtual 241, 3) := by decide +kernel
theorem d_Mo_tiredOf_4 : decode b_Mo_tiredOf 4 = .ok (.iconst 0, 1) := by decide +kernel
theorem d_Mo_tiredOf_5 : decode b_Mo_tiredOf 5 = .ok (.istore_n 1, 1) := by decide +kernel
theorem d_Mo_tiredOf_6 : decode b_Mo_tiredOf 6 = .ok (.iconst 1, 1) := by decide +kernel
theorem d_Mo_tiredOf_7 : decode b_Mo_tiredOf 7 = .ok (.istore_n 2, 1) := by decide +kernel
theorem d_Mo_tiredOf_8 : decode b_Mo_tiredOf 8 = .ok (.iload_n 2, 1) := by decide +kernel
theorem d_Mo_tiredOf_9 : decode b_Mo_tiredOf 9 = .ok (.bipush 24, 2) := by decide +kernel
theorem d_Mo_tiredOf_11 : decode b_Mo_tiredOf 11 = .ok (.if_icmp .ge 28, 3) := by decide +kernel
theorem d_Mo_tiredOf_14 : decode b_Mo_tiredOf 14 = .ok (.aload_n 0, 1) := by decide +kernel
theorem d_Mo_tiredOf_15 : decode b_Mo_tiredOf 15 = .ok (.iload_n 2, 1) := by decide +kernel
theorem d_Mo_tiredOf_16 : decode b_Mo_tiredOf 16 = .ok (.invokevirtual 267, 3) := by decide +kernel
theorem d_Mo_tiredOf_19 : decode b_Mo_tiredOf 19 = .ok (.aload_n 0, 1) := by decide +kernel
theorem d_Mo_tiredOf_20 : decode b_Mo_tiredOf 20 = .ok (.iload_n 1, 1) := by decide +kernel
theorem d_Mo_tiredOf_21 : decode b_Mo_tiredOf 21 = .ok (.invokevirtual 267, 3) := by decide +kernel
theorem d_Mo_tiredOf_24 : decode b_Mo_tiredOf 24 = .ok (.if_icmp .ge 7, 3) := by decide +kernel
theorem d_Mo_tiredOf_27 : decode b_Mo_tiredOf 27 = .ok (.iload_n 2, 1) := by decide +kernel
theorem d_Mo_tiredOf_28 : decode b_Mo_tiredOf 28 = .ok (.goto 4, 3) := by decide +kernel
theorem d_Mo_tiredOf_31 : decode b_Mo_tiredOf 31 = .ok (.iload_n 1, 1) := by decide +kernel
theorem d_Mo_tiredOf_32 : decode b_Mo_tiredOf 32 = .ok (.istore_n 1, 1) := by decide +kernel
theorem d_Mo_tiredOf_33 : decode b_Mo_tiredOf 33 = .ok (.iinc 2 1, 3) := by decide +kernel
theorem d_Mo_tiredOf_36 : decode b_Mo_tiredOf 36 = .ok (.goto (-28), 3) := by decide +kernel
theorem d_Mo_tiredOf_39 : decode b_Mo_tiredOf 39 = .ok (.iload_n 1, 1) := by decide +kernel
theorem d_Mo_tiredOf_40 : decode b_Mo_tiredOf 40 = .ok (.ireturn, 1) := by decide +kernel
theorem d_Mo_tired_0 : decode b_Mo_tired 0 = .ok (.aload_n 0, 1) := by decide +kernel
theorem d_Mo_tired_1 : decode b_Mo_tired 1 = .ok (.invokevirtual 270, 3) := by decide +kernel
theorem d_Mo_tired_4 : decode b_Mo_tired 4 = .ok (.ireturn, 1) := by decide +kernel
theorem d_Mo_lastOf_0 : decode b_Mo_lastOf 0 = .ok (.aload_n 0, 1) := by decide +kernel
theorem d_Mo_lastOf_1 : decode b_Mo_lastOf 1 = .ok (.invokevirtual 235, 3) := by decide +kernel
theorem d_Mo_lastOf_4 : decode b_Mo_lastOf 4 = .ok (.iconst 1, 1) := by decide +kernel
theorem d_Mo_lastOf_5 : decode b_Mo_lastOf 5 = .ok (.istore_n 3, 1) := by decide +kernel
theorem d_Mo_lastOf_6 : decode b_Mo_lastOf 6 = .ok (.iload_n 3, 1) := by decide +kernel
theorem d_Mo_lastOf_7 : decode b_Mo_lastOf 7 = .ok (.bipush 10, 2) := by decide +kernel
theorem d_Mo_lastOf_9 : decode b_Mo_lastOf 9 = .ok (.if_icmp .ge 63, 3) := by decide +kernel
theorem d_Mo_lastOf_12 : decode b_Mo_lastOf 12 = .ok (.aload_n 0, 1) := by decide +kernel
theorem d_Mo_lastOf_13 : decode b_Mo_lastOf 13 = .ok (.getfield 37, 3) := by decide +kernel
theorem d_Mo_lastOf_16 : decode b_Mo_lastOf 16 = .ok (.aload_n 0, 1) := by decide +kernel
theorem d_Mo_lastOf_17 : decode b_Mo_lastOf 17 = .ok (.getfield 171, 3) := by decide +kernel
theorem d_Mo_lastOf_20 : decode b_Mo_lastOf 20 = .ok (.iload_n 3, 1) := by decide +kernel
theorem d_Mo_lastOf_21 : decode b_Mo_lastOf 21 = .ok (.iadd, 1) := by decide +kernel
theorem d_Mo_lastOf_22 : decode b_Mo_lastOf 22 = .ok (.iconst 1, 1) := by decide +kernel
theorem d_Mo_lastOf_23 : decode b_Mo_lastOf 23 = .ok (.isub, 1) := by decide +kernel
theorem d_Mo_lastOf_24 : decode b_Mo_lastOf 24 = .ok (.iload_n 2, 1) := by decide +kernel
theorem d_Mo_lastOf_25 : decode b_Mo_lastOf 25 = .ok (.iastore, 1) := by decide +kernel
theorem d_Mo_lastOf_26 : decode b_Mo_lastOf 26 = .ok (.aload_n 0, 1) := by decide +kernel
theorem d_Mo_lastOf_27 : decode b_Mo_lastOf 27 = .ok (.getfield 40, 3) := by decide +kernel
theorem d_Mo_lastOf_30 : decode b_Mo_lastOf 30 = .ok (.aload_n 0, 1) := by decide +kernel
theorem d_Mo_lastOf_31 : decode b_Mo_lastOf 31 = .ok (.getfield 171, 3) := by decide +kernel
theorem d_Mo_lastOf_34 : decode b_Mo_lastOf 34 = .ok (.iload_n 3, 1) := by decide +kernel
theorem d_Mo_lastOf_35 : decode b_Mo_lastOf 35 = .ok (.iadd, 1) := by decide +kernel
theorem d_Mo_lastOf_36 : decode b_Mo_lastOf 36 = .ok (.iconst 1, 1) := by decide +kernel
theorem d_Mo_lastOf_37 : decode b_Mo_lastOf 37 = .ok (.isub, 1) := by decide +kernel
theorem d_Mo_lastOf_38 : decode b_Mo_lastOf 38 = .ok (.iload_n 1, 1) := by decide +kernel
theorem d_Mo_lastOf_39 : decode b_Mo_lastOf 39 = .ok (.iastore, 1) := by decide +kernel
theorem d_Mo_lastOf_40 : decode b_Mo_lastOf 40 = .ok (.aload_n 0, 1) := by decide +kernel
theorem d_Mo_lastOf_41 : decode b_Mo_lastOf 41 = .ok (.aload_n 0, 1) := by decide +kernel
theorem d_Mo_lastOf_42 : decode b_Mo_lastOf 42 = .ok (.getfield 171, 3) := by decide +kernel
theorem d_Mo_lastOf_45 : decode b_Mo_lastOf 45 = .ok (.iload_n 3, 1) := by decide +kernel
theorem d_Mo_lastOf_46 : decode b_Mo_lastOf 46 = .ok (.iadd, 1) := by decide +kernel
theorem d_Mo_lastOf_47 : decode b_Mo_lastOf 47 = .ok (.putfield 183, 3) := by decide +kernel
theorem d_Mo_lastOf_50 : decode b_Mo_lastOf 50 = .ok (.aload_n 0, 1) := by decide +kernel
theorem d_Mo_lastOf_51 : decode b_Mo_lastOf 51 = .ok (.invokevirtual 238, 3) := by decide +kernel
theorem d_Mo_lastOf_54 : decode b_Mo_lastOf 54 = .ok (.aload_n 0, 1) := by decide +kernel
theorem d_Mo_lastOf_55 : decode b_Mo_lastOf 55 = .ok (.getfield 79, 3) := by decide +kernel
theorem d_Mo_lastOf_58 : decode b_Mo_lastOf 58 = .ok (.iload_n 2, 1) := by decide +kernel
theorem d_Mo_lastOf_59 : decode b_Mo_lastOf 59 = .ok (.iaload, 1) := by decide +kernel
theorem d_Mo_lastOf_60 : decode b_Mo_lastOf 60 = .ok (.iconst 1, 1) := by decide +kernel
theorem d_Mo_lastOf_61 : decode b_Mo_lastOf 61 = .ok (.if_icmp .ne 5, 3) := by decide +kernel
theorem d_Mo_lastOf_64 : decode b_Mo_lastOf 64 = .ok (.iload_n 3, 1) := by decide +kernel
theorem d_Mo_lastOf_65 : decode b_Mo_lastOf 65 = .ok (.ireturn, 1) := by decide +kernel
theorem d_Mo_lastOf_66 : decode b_Mo_lastOf 66 = .ok (.iinc 3 1, 3) := by decide +kernel
theorem d_Mo_lastOf_69 : decode b_Mo_lastOf 69 = .ok (.goto (-63), 3) := by decide +kernel
theorem d_Mo_lastOf_72 : decode b_Mo_lastOf 72 = .ok (.iconst (-1), 1) := by decide +kernel
theorem d_Mo_lastOf_73 : decode b_Mo_lastOf 73 = .ok (.ireturn, 1) := by decide +kernel
theorem d_Mo_last_0 : decode b_Mo_last 0 = .ok (.aload_n 0, 1) := by decide +kernel
theorem d_Mo_last_1 : decode b_Mo_last 1 = .ok (.iload_n 1, 1) := by decide +kernel
theorem d_Mo_last_2 : decode b_Mo_last 2 = .ok (.invokevirtual 150, 3) := by decide +kernel
theorem d_Mo_last_5 : decode b_Mo_last 5 = .ok (.ifCond .eq 19, 3) := by decide +kernel
theorem d_Mo_last_8 : decode b_Mo_last 8 = .ok (.iload_n 2, 1) := by decide +kernel
theorem d_Mo_last_9 : decode b_Mo_last 9 = .ok (.invokestatic 165, 3) := by decide +kernel
theorem d_Mo_last_12 : decode b_Mo_last 12 = .ok (.ifCond .eq 12, 3) := by decide +kernel
theorem d_Mo_last_15 : decode b_Mo_last 15 = .ok (.aload_n 0, 1) := by decide +kernel
theorem d_Mo_last_16 : decode b_Mo_last 16 = .ok (.iload_n 1, 1) := by decide +kernel
theorem d_Mo_last_17 : decode b_Mo_last 17 = .ok (.iload_n 2, 1) := by decide +kernel
theorem d_Mo_last_18 : decode b_Mo_last 18 = .ok (.invokevirtual 273, 3) := by decide +kernel
theorem d_Mo_last_21 : decode b_Mo_last 21 = .ok (.goto 5, 3) := by decide +kernel
theorem d_Mo_last_24 : decode b_Mo_last 24 = .ok (.bipush (-2), 2) := by decide +kernel
theorem d_Mo_last_26 : decode b_Mo_last 26 = .ok (.ireturn, 1) := by decide +kernel
theorem d_Mo_bearOf_0 : decode b_Mo_bearOf 0 = .ok (.aload_n 0, 1) := by decide +kernel
theorem d_Mo_bearOf_1 : decode b_Mo_bearOf 1 = .ok (.invokevirtual 235, 3) := by decide +kernel
theorem d_Mo_bearOf_4 : decode b_Mo_bearOf 4 = .ok (.aload_n 0, 1) := by decide +kernel
theorem d_Mo_bearOf_5 : decode b_Mo_bearOf 5 = .ok (.getfield 22, 3) := by decide +kernel
theorem d_Mo_bearOf_8 : decode b_Mo_bearOf 8 = .ok (.iload_n 1, 1) := by decide +kernel
theorem d_Mo_bearOf_9 : decode b_Mo_bearOf 9 = .ok (.iaload, 1) := by decide +kernel
theorem d_Mo_bearOf_10 : decode b_Mo_bearOf 10 = .ok (.istore_n 3, 1) := by decide +kernel
theorem d_Mo_bearOf_11 : decode b_Mo_bearOf 11 = .ok (.iconst (-1), 1) := by decide +kernel
theorem d_Mo_bearOf_12 : decode b_Mo_bearOf 12 = .ok (.istore 4, 2) := by decide +kernel
theorem d_Mo_bearOf_14 : decode b_Mo_bearOf 14 = .ok (.iconst (-1), 1) := by decide +kernel
theorem d_Mo_bearOf_15 : decode b_Mo_bearOf 15 = .ok (.istore 5, 2) := by decide +kernel
theorem d_Mo_bearOf_17 : decode b_Mo_bearOf 17 = .ok (.iconst 0, 1) := by decide +kernel
theorem d_Mo_bearOf_18 : decode b_Mo_bearOf 18 = .ok (.istore 6, 2) := by decide +kernel
theorem d_Mo_bearOf_20 : decode b_Mo_bearOf 20 = .ok (.iload 6, 2) := by decide +kernel
theorem d_Mo_bearOf_22 : decode b_Mo_bearOf 22 = .ok (.bipush 8, 2) := by decide +kernel
theorem d_Mo_bearOf_24 : decode b_Mo_bearOf 24 = .ok (.if_icmp .ge 59, 3) := by decide +kernel
theorem d_Mo_bearOf_27 : decode b_Mo_bearOf 27 = .ok (.aload_n 0, 1) := by decide +kernel
theorem d_Mo_bearOf_28 : decode b_Mo_bearOf 28 = .ok (.getfield 22, 3) := by decide +kernel
theorem d_Mo_bearOf_31 : decode b_Mo_bearOf 31 = .ok (.iload_n 1, 1) := by decide +kernel
theorem d_Mo_bearOf_32 : decode b_Mo_bearOf 32 = .ok (.iload 6, 2) := by decide +kernel
theorem d_Mo_bearOf_34 : decode b_Mo_bearOf 34 = .ok (.iastore, 1) := by decide +kernel
theorem d_Mo_bearOf_35 : decode b_Mo_bearOf 35 = .ok (.aload_n 0, 1) := by decide +kernel
theorem d_Mo_bearOf_36 : decode b_Mo_bearOf 36 = .ok (.invokevirtual 238, 3) := by decide +kernel
theorem d_Mo_bearOf_39 : decode b_Mo_bearOf 39 = .ok (.aload_n 0, 1) := by decide +kernel
theorem d_Mo_bearOf_40 : decode b_Mo_bearOf 40 = .ok (.invokevirtual 248, 3) := by decide +kernel
theorem d_Mo_bearOf_43 : decode b_Mo_bearOf 43 = .ok (.istore 7, 2) := by decide +kernel
theorem d_Mo_bearOf_45 : decode b_Mo_bearOf 45 = .ok (.iload 7, 2) := by decide +kernel
theorem d_Mo_bearOf_47 : decode b_Mo_bearOf 47 = .ok (.iload 5, 2) := by decide +kernel
theorem d_Mo_bearOf_49 : decode b_Mo_bearOf 49 = .ok (.if_icmp .le 8, 3) := by decide +kernel
theorem d_Mo_bearOf_52 : decode b_Mo_bearOf 52 = .ok (.iload 6, 2) := by decide +kernel
theorem d_Mo_bearOf_54 : decode b_Mo_bearOf 54 = .ok (.goto 5, 3) := by decide +kernel
theorem d_Mo_bearOf_57 : decode b_Mo_bearOf 57 = .ok (.iload 4, 2) := by decide +kernel
theorem d_Mo_bearOf_59 : decode b_Mo_bearOf 59 = .ok (.istore 4, 2) := by decide +kernel
theorem d_Mo_bearOf_61 : decode b_Mo_bearOf 61 = .ok (.iload 7, 2) := by decide +kernel
theorem d_Mo_bearOf_63 : decode b_Mo_bearOf 63 = .ok (.iload 5, 2) := by decide +kernel
theorem d_Mo_bearOf_65 : decode b_Mo_bearOf 65 = .ok (.if_icmp .le 8, 3) := by decide +kernel
theorem d_Mo_bearOf_68 : decode b_Mo_bearOf 68 = .ok (.iload 7, 2) := by decide +kernel
theorem d_Mo_bearOf_70 : decode b_Mo_bearOf 70 = .ok (.goto 5, 3) := by decide +kernel
theorem d_Mo_bearOf_73 : decode b_Mo_bearOf 73 = .ok (.iload 5, 2) := by decide +kernel
theorem d_Mo_bearOf_75 : decode b_Mo_bearOf 75 = .ok (.istore 5, 2) := by decide +kernel
theorem d_Mo_bearOf_77 : decode b_Mo_bearOf 77 = .ok (.iinc 6 1, 3) := by decide +kernel
theorem d_Mo_bearOf_80 : decode b_Mo_bearOf 80 = .ok (.goto (-60), 3) := by decide +kernel
theorem d_Mo_bearOf_83 : decode b_Mo_bearOf 83 = .ok (.aload_n 0, 1) := by decide +kernel
theorem d_Mo_bearOf_84 : decode b_Mo_bearOf 84 = .ok (.getfield 22, 3) := by decide +kernel
theorem d_Mo_bearOf_87 : decode b_Mo_bearOf 87 = .ok (.iload_n 1, 1) := by decide +kernel
theorem d_Mo_bearOf_88 : decode b_Mo_bearOf 88 = .ok (.iload_n 3, 1) := by decide +kernel
theorem d_Mo_bearOf_89 : decode b_Mo_bearOf 89 = .ok (.iastore, 1) := by decide +kernel
theorem d_Mo_bearOf_90 : decode b_Mo_bearOf 90 = .ok (.iload_n 2, 1) := by decide +kernel
theorem d_Mo_bearOf_91 : decode b_Mo_bearOf 91 = .ok (.ifCond .ne 8, 3) := by decide +kernel
theorem d_Mo_bearOf_94 : decode b_Mo_bearOf 94 = .ok (.iload 4, 2) := by decide +kernel
theorem d_Mo_bearOf_96 : decode b_Mo_bearOf 96 = .ok (.goto 5, 3) := by decide +kernel
theorem d_Mo_bearOf_99 : decode b_Mo_bearOf 99 = .ok (.iload 5, 2) := by decide +kernel
theorem d_Mo_bearOf_101 : decode b_Mo_bearOf 101 = .ok (.ireturn, 1) := by decide +kernel
theorem d_Mo_bear_0 : decode b_Mo_bear 0 = .ok (.aload_n 0, 1) := by decide +kernel
theorem d_Mo_bear_1 : decode b_Mo_bear 1 = .ok (.iload_n 1, 1) := by decide +kernel
theorem d_Mo_bear_2 : decode b_Mo_bear 2 = .ok (.invokevirtual 159, 3) := by decide +kernel
theorem d_Mo_bear_5 : decode b_Mo_bear 5 = .ok (.ifCond .eq 19, 3) := by decide +kernel
theorem d_Mo_bear_8 : decode b_Mo_bear 8 = .ok (.iload_n 2, 1) := by decide +kernel
theorem d_Mo_bear_9 : decode b_Mo_bear 9 = .ok (.invokestatic 153, 3) := by decide +kernel
theorem d_Mo_bear_12 : decode b_Mo_bear 12 = .ok (.ifCond .eq 12, 3) := by decide +kernel
theorem d_Mo_bear_15 : decode b_Mo_bear 15 = .ok (.aload_n 0, 1) := by decide +kernel
theorem d_Mo_bear_16 : decode b_Mo_bear 16 = .ok (.iload_n 1, 1) := by decide +kernel
theorem d_Mo_bear_17 : decode b_Mo_bear 17 = .ok (.iload_n 2, 1) := by decide +kernel
theorem d_Mo_bear_18 : decode b_Mo_bear 18 = .ok (.invokevirtual 276, 3) := by decide +kernel
theorem d_Mo_bear_21 : decode b_Mo_bear 21 = .ok (.goto 5, 3) := by decide +kernel
theorem d_Mo_bear_24 : decode b_Mo_bear 24 = .ok (.bipush (-2), 2) := by decide +kernel
theorem d_Mo_bear_26 : decode b_Mo_bear 26 = .ok (.ireturn, 1) := by decide +kernel
theorem d_Mo_whenOf_0 : decode b_Mo_whenOf 0 = .ok (.aload_n 0, 1) := by decide +kernel
theorem d_Mo_whenOf_1 : decode b_Mo_whenOf 1 = .ok (.invokevirtual 235, 3) := by decide +kernel
theorem d_Mo_whenOf_4 : decode b_Mo_whenOf 4 = .ok (.aload_n 0, 1) := by decide +kernel
theorem d_Mo_whenOf_5 : decode b_Mo_whenOf 5 = .ok (.getfield 28, 3) := by decide +kernel
theorem d_Mo_whenOf_8 : decode b_Mo_whenOf 8 = .ok (.iload_n 1, 1) := by decide +kernel
theorem d_Mo_whenOf_9 : decode b_Mo_whenOf 9 = .ok (.iaload, 1) := by decide +kernel
theorem d_Mo_whenOf_10 : decode b_Mo_whenOf 10 = .ok (.istore_n 3, 1) := by decide +kernel
theorem d_Mo_whenOf_11 : decode b_Mo_whenOf 11 = .ok (.iconst (-1), 1) := by decide +kernel
theorem d_Mo_whenOf_12 : decode b_Mo_whenOf 12 = .ok (.istore 4, 2) := by decide +kernel
theorem d_Mo_whenOf_14 : decode b_Mo_whenOf 14 = .ok (.iconst (-1), 1) := by decide +kernel
theorem d_Mo_whenOf_15 : decode b_Mo_whenOf 15 = .ok (.istore 5, 2) := by decide +kernel
theorem d_Mo_whenOf_17 : decode b_Mo_whenOf 17 = .ok (.iconst 0, 1) := by decide +kernel
theorem d_Mo_whenOf_18 : decode b_Mo_whenOf 18 = .ok (.istore 6, 2) := by decide +kernel
theorem d_Mo_whenOf_20 : decode b_Mo_whenOf 20 = .ok (.iload 6, 2) := by decide +kernel
theorem d_Mo_whenOf_22 : decode b_Mo_whenOf 22 = .ok (.bipush 24, 2) := by decide +kernel
theorem d_Mo_whenOf_24 : decode b_Mo_whenOf 24 = .ok (.if_icmp .ge 59, 3) := by decide +kernel
theorem d_Mo_whenOf_27 : decode b_Mo_whenOf 27 = .ok (.aload_n 0, 1) := by decide +kernel
theorem d_Mo_whenOf_28 : decode b_Mo_whenOf 28 = .ok (.getfield 28, 3) := by decide +kernel
theorem d_Mo_whenOf_31 : decode b_Mo_whenOf 31 = .ok (.iload_n 1, 1) := by decide +kernel
theorem d_Mo_whenOf_32 : decode b_Mo_whenOf 32 = .ok (.iload 6, 2) := by decide +kernel
theorem d_Mo_whenOf_34 : decode b_Mo_whenOf 34 = .ok (.iastore, 1) := by decide +kernel
theorem d_Mo_whenOf_35 : decode b_Mo_whenOf 35 = .ok (.aload_n 0, 1) := by decide +kernel
theorem d_Mo_whenOf_36 : decode b_Mo_whenOf 36 = .ok (.invokevirtual 238, 3) := by decide +kernel
theorem d_Mo_whenOf_39 : decode b_Mo_whenOf 39 = .ok (.aload_n 0, 1) := by decide +kernel
theorem d_Mo_whenOf_40 : decode b_Mo_whenOf 40 = .ok (.invokevirtual 248, 3) := by decide +kernel
theorem d_Mo_whenOf_43 : decode b_Mo_whenOf 43 = .ok (.istore 7, 2) := by decide +kernel
theorem d_Mo_whenOf_45 : decode b_Mo_whenOf 45 = .ok (.iload 7, 2) := by decide +kernel
theorem d_Mo_whenOf_47 : decode b_Mo_whenOf 47 = .ok (.iload 5, 2) := by decide +kernel
theorem d_Mo_whenOf_49 : decode b_Mo_whenOf 49 = .ok (.if_icmp .le 8, 3) := by decide +kernel
theorem d_Mo_whenOf_52 : decode b_Mo_whenOf 52 = .ok (.iload 6, 2) := by decide +kernel
theorem d_Mo_whenOf_54 : decode b_Mo_whenOf 54 = .ok (.goto 5, 3) := by decide +kernel
theorem d_Mo_whenOf_57 : decode b_Mo_whenOf 57 = .ok (.iload 4, 2) := by decide +kernel
theorem d_Mo_whenOf_59 : decode b_Mo_whenOf 59 = .ok (.istore 4, 2) := by decide +kernel
theorem d_Mo_whenOf_61 : decode b_Mo_whenOf 61 = .ok (.iload 7, 2) := by decide +kernel
theorem d_Mo_whenOf_63 : decode b_Mo_whenOf 63 = .ok (.iload 5, 2) := by decide +kernel
theorem d_Mo_whenOf_65 : decode b_Mo_whenOf 65 = .ok (.if_icmp .le 8, 3) := by decide +kernel
theorem d_Mo_whenOf_68 : decode b_Mo_whenOf 68 = .ok (.iload 7, 2) := by decide +kernel
theorem d_Mo_whenOf_70 : decode b_Mo_whenOf 70 = .ok (.goto 5, 3) := by decide +kernel
theorem d_Mo_whenOf_73 : decode b_Mo_whenOf 73 = .ok (.iload 5, 2) := by decide +kernel
theorem d_Mo_whenOf_75 : decode b_Mo_whenOf 75 = .ok (.istore 5, 2) := by decide +kernel
theorem d_Mo_whenOf_77 : decode b_Mo_whenOf 77 = .ok (.iinc 6 1, 3) := by decide +kernel
theorem d_Mo_whenOf_80 : decode b_Mo_whenOf 80 = .ok (.goto (-60), 3) := by decide +kernel
theorem d_Mo_whenOf_83 : decode b_Mo_whenOf 83 = .ok (.aload_n 0, 1) := by decide +kernel
theorem d_Mo_whenOf_84 : decode b_Mo_whenOf 84 = .ok (.getfield 28, 3) := by decide +kernel
theorem d_Mo_whenOf_87 : decode b_Mo_whenOf 87 = .ok (.iload_n 1, 1) := by decide +kernel
theorem d_Mo_whenOf_88 : decode b_Mo_whenOf 88 = .ok (.iload_n 3, 1) := by decide +kernel
theorem d_Mo_whenOf_89 : decode b_Mo_whenOf 89 = .ok (.iastore, 1) := by decide +kernel
theorem d_Mo_whenOf_90 : decode b_Mo_whenOf 90 = .ok (.iload_n 2, 1) := by decide +kernel
theorem d_Mo_whenOf_91 : decode b_Mo_whenOf 91 = .ok (.ifCond .ne 8, 3) := by decide +kernel
theorem d_Mo_whenOf_94 : decode b_Mo_whenOf 94 = .ok (.iload 4, 2) := by decide +kernel
theorem d_Mo_whenOf_96 : decode b_Mo_whenOf 96 = .ok (.goto 5, 3) := by decide +kernel
theorem d_Mo_whenOf_99 : decode b_Mo_whenOf 99 = .ok (.iload 5, 2) := by decide +kernel
theorem d_Mo_whenOf_101 : decode b_Mo_whenOf 101 = .ok (.ireturn, 1) := by decide +kernel
theorem d_Mo_when_0 : decode b_Mo_when 0 = .ok (.aload_n 0, 1) := by decide +kernel
theorem d_Mo_when_1 : decode b_Mo_when 1 = .ok (.iload_n 1, 1) := by decide +kernel
theorem d_Mo_when_2 : decode b_Mo_when 2 = .ok (.invokevirtual 159, 3) := by decide +kernel
theorem d_Mo_when_5 : decode b_Mo_when 5 = .ok (.ifCond .eq 19, 3) := by decide +kernel
theorem d_Mo_when_8 : decode b_Mo_when 8 = .ok (.iload_n 2, 1) := by decide +kernel
theorem d_Mo_when_9 : decode b_Mo_when 9 = .ok (.invokestatic 153, 3) := by decide +kernel
theorem d_Mo_when_12 : decode b_Mo_when 12 = .ok (.ifCond .eq 12, 3) := by decide +kernel
theorem d_Mo_when_15 : decode b_Mo_when 15 = .ok (.aload_n 0, 1) := by decide +kernel
theorem d_Mo_when_16 : decode b_Mo_when 16 = .ok (.iload_n 1, 1) := by decide +kernel
theorem d_Mo_when_17 : decode b_Mo_when 17 = .ok (.iload_n 2, 1) := by decide +kernel
theorem d_Mo_when_18 : decode b_Mo_when 18 = .ok (.invokevirtual 279, 3) := by decide +kernel
theorem d_Mo_when_21 : decode b_Mo_when 21 = .ok (.goto 5, 3) := by decide +kernel
theorem d_Mo_when_24 : decode b_Mo_when 24 = .ok (.bipush (-2), 2) := by decide +kernel
theorem d_Mo_when_26 : decode b_Mo_when 26 = .ok (.ireturn, 1) := by decide +kernel
theorem d_Mo_brokeAll_0 : decode b_Mo_brokeAll 0 = .ok (.iconst 0, 1) := by decide +kernel
theorem d_Mo_brokeAll_1 : decode b_Mo_brokeAll 1 = .ok (.istore_n 1, 1) := by decide +kernel
theorem d_Mo_brokeAll_2 : decode b_Mo_brokeAll 2 = .ok (.iconst 0, 1) := by decide +kernel
theorem d_Mo_brokeAll_3 : decode b_Mo_brokeAll 3 = .ok (.istore_n 2, 1) := by decide +kernel
theorem d_Mo_brokeAll_4 : decode b_Mo_brokeAll 4 = .ok (.iload_n 2, 1) := by decide +kernel
theorem d_Mo_brokeAll_5 : decode b_Mo_brokeAll 5 = .ok (.aload_n 0, 1) := by decide +kernel
theorem d_Mo_brokeAll_6 : decode b_Mo_brokeAll 6 = .ok (.getfield 127, 3) := by decide +kernel
theorem d_Mo_brokeAll_9 : decode b_Mo_brokeAll 9 = .ok (.if_icmp .ge 18, 3) := by decide +kernel
theorem d_Mo_brokeAll_12 : decode b_Mo_brokeAll 12 = .ok (.iload_n 1, 1) := by decide +kernel
theorem d_Mo_brokeAll_13 : decode b_Mo_brokeAll 13 = .ok (.aload_n 0, 1) := by decide +kernel
theorem d_Mo_brokeAll_14 : decode b_Mo_brokeAll 14 = .ok (.getfield 58, 3) := by decide +kernel
theorem d_Mo_brokeAll_17 : decode b_Mo_brokeAll 17 = .ok (.iload_n 2, 1) := by decide +kernel
theorem d_Mo_brokeAll_18 : decode b_Mo_brokeAll 18 = .ok (.iaload, 1) := by decide +kernel
theorem d_Mo_brokeAll_19 : decode b_Mo_brokeAll 19 = .ok (.iadd, 1) := by decide +kernel
theorem d_Mo_brokeAll_20 : decode b_Mo_brokeAll 20 = .ok (.istore_n 1, 1) := by decide +kernel
theorem d_Mo_brokeAll_21 : decode b_Mo_brokeAll 21 = .ok (.iinc 2 1, 3) := by decide +kernel
theorem d_Mo_brokeAll_24 : decode b_Mo_brokeAll 24 = .ok (.goto (-20), 3) := by decide +kernel
theorem d_Mo_brokeAll_27 : decode b_Mo_brokeAll 27 = .ok (.iload_n 1, 1) := by decide +kernel
theorem d_Mo_brokeAll_28 : decode b_Mo_brokeAll 28 = .ok (.ireturn, 1) := by decide +kernel
theorem d_Mo_isSpared_0 : decode b_Mo_isSpared 0 = .ok (.aload_n 0, 1) := by decide +kernel
theorem d_Mo_isSpared_1 : decode b_Mo_isSpared 1 = .ok (.iload_n 1, 1) := by decide +kernel
theorem d_Mo_isSpared_2 : decode b_Mo_isSpared 2 = .ok (.putfield 186, 3) := by decide +kernel
theorem d_Mo_isSpared_5 : decode b_Mo_isSpared 5 = .ok (.aload_n 0, 1) := by decide +kernel
theorem d_Mo_isSpared_6 : decode b_Mo_isSpared 6 = .ok (.invokevirtual 238, 3) := by decide +kernel
theorem d_Mo_isSpared_9 : decode b_Mo_isSpared 9 = .ok (.aload_n 0, 1) := by decide +kernel
theorem d_Mo_isSpared_10 : decode b_Mo_isSpared 10 = .ok (.invokevirtual 282, 3) := by decide +kernel
theorem d_Mo_isSpared_13 : decode b_Mo_isSpared 13 = .ok (.ifCond .ne 7, 3) := by decide +kernel
theorem d_Mo_isSpared_16 : decode b_Mo_isSpared 16 = .ok (.iconst 1, 1) := by decide +kernel
theorem d_Mo_isSpared_17 : decode b_Mo_isSpared 17 = .ok (.goto 4, 3) := by decide +kernel
theorem d_Mo_isSpared_20 : decode b_Mo_isSpared 20 = .ok (.iconst 0, 1) := by decide +kernel
theorem d_Mo_isSpared_21 : decode b_Mo_isSpared 21 = .ok (.ireturn, 1) := by decide +kernel
theorem d_Mo_spareBy_0 : decode b_Mo_spareBy 0 = .ok (.aload_n 0, 1) := by decide +kernel
theorem d_Mo_spareBy_1 : decode b_Mo_spareBy 1 = .ok (.invokevirtual 235, 3) := by decide +kernel
theorem d_Mo_spareBy_4 : decode b_Mo_spareBy 4 = .ok (.aload_n 0, 1) := by decide +kernel
theorem d_Mo_spareBy_5 : decode b_Mo_spareBy 5 = .ok (.iconst 0, 1) := by decide +kernel
theorem d_Mo_spareBy_6 : decode b_Mo_spareBy 6 = .ok (.invokevirtual 285, 3) := by decide +kernel
theorem d_Mo_spareBy_9 : decode b_Mo_spareBy 9 = .ok (.ifCond .eq 5, 3) := by decide +kernel
theorem d_Mo_spareBy_12 : decode b_Mo_spareBy 12 = .ok (.iconst 0, 1) := by decide +kernel
theorem d_Mo_spareBy_13 : decode b_Mo_spareBy 13 = .ok (.ireturn, 1) := by decide +kernel
theorem d_Mo_spareBy_14 : decode b_Mo_spareBy 14 = .ok (.iconst 0, 1) := by decide +kernel
theorem d_Mo_spareBy_15 : decode b_Mo_spareBy 15 = .ok (.istore_n 1, 1) := by decide +kernel
theorem d_Mo_spareBy_16 : decode b_Mo_spareBy 16 = .ok (.iload_n 1, 1) := by decide +kernel
theorem d_Mo_spareBy_17 : decode b_Mo_spareBy 17 = .ok (.aload_n 0, 1) := by decide +kernel
theorem d_Mo_spareBy_18 : decode b_Mo_spareBy 18 = .ok (.getfield 171, 3) := by decide +kernel
theorem d_Mo_spareBy_21 : decode b_Mo_spareBy 21 = .ok (.if_icmp .ge 28, 3) := by decide +kernel
theorem d_Mo_spareBy_24 : decode b_Mo_spareBy 24 = .ok (.aload_n 0, 1) := by decide +kernel
theorem d_Mo_spareBy_25 : decode b_Mo_spareBy 25 = .ok (.getfield 82, 3) := by decide +kernel
theorem d_Mo_spareBy_28 : decode b_Mo_spareBy 28 = .ok (.iconst 0, 1) := by decide +kernel
theorem d_Mo_spareBy_29 : decode b_Mo_spareBy 29 = .ok (.iload_n 1, 1) := by decide +kernel
theorem d_Mo_spareBy_30 : decode b_Mo_spareBy 30 = .ok (.iastore, 1) := by decide +kernel
theorem d_Mo_spareBy_31 : decode b_Mo_spareBy 31 = .ok (.aload_n 0, 1) := by decide +kernel
theorem d_Mo_spareBy_32 : decode b_Mo_spareBy 32 = .ok (.iconst 1, 1) := by decide +kernel
theorem d_Mo_spareBy_33 : decode b_Mo_spareBy 33 = .ok (.iload_n 1, 1) := by decide +kernel
theorem d_Mo_spareBy_34 : decode b_Mo_spareBy 34 = .ok (.ishl, 1) := by decide +kernel
theorem d_Mo_spareBy_35 : decode b_Mo_spareBy 35 = .ok (.invokevirtual 285, 3) := by decide +kernel
theorem d_Mo_spareBy_38 : decode b_Mo_spareBy 38 = .ok (.ifCond .eq 5, 3) := by decide +kernel
theorem d_Mo_spareBy_41 : decode b_Mo_spareBy 41 = .ok (.iconst 1, 1) := by decide +kernel
theorem d_Mo_spareBy_42 : decode b_Mo_spareBy 42 = .ok (.ireturn, 1) := by decide +kernel
theorem d_Mo_spareBy_43 : decode b_Mo_spareBy 43 = .ok (.iinc 1 1, 3) := by decide +kernel
theorem d_Mo_spareBy_46 : decode b_Mo_spareBy 46 = .ok (.goto (-30), 3) := by decide +kernel
theorem d_Mo_spareBy_49 : decode b_Mo_spareBy 49 = .ok (.iconst 0, 1) := by decide +kernel
theorem d_Mo_spareBy_50 : decode b_Mo_spareBy 50 = .ok (.istore_n 1, 1) := by decide +kernel
theorem d_Mo_spareBy_51 : decode b_Mo_spareBy 51 = .ok (.iload_n 1, 1) := by decide +kernel
theorem d_Mo_spareBy_52 : decode b_Mo_spareBy 52 = .ok (.aload_n 0, 1) := by decide +kernel
theorem d_Mo_spareBy_53 : decode b_Mo_spareBy 53 = .ok (.getfield 171, 3) := by decide +kernel
theorem d_Mo_spareBy_56 : decode b_Mo_spareBy 56 = .ok (.if_icmp .ge 57, 3) := by decide +kernel
theorem d_Mo_spareBy_59 : decode b_Mo_spareBy 59 = .ok (.iload_n 1, 1) := by decide +kernel
theorem d_Mo_spareBy_60 : decode b_Mo_spareBy 60 = .ok (.iconst 1, 1) := by decide +kernel
theorem d_Mo_spareBy_61 : decode b_Mo_spareBy 61 = .ok (.iadd, 1) := by decide +kernel
theorem d_Mo_spareBy_62 : decode b_Mo_spareBy 62 = .ok (.istore_n 2, 1) := by decide +kernel
theorem d_Mo_spareBy_63 : decode b_Mo_spareBy 63 = .ok (.iload_n 2, 1) := by decide +kernel
theorem d_Mo_spareBy_64 : decode b_Mo_spareBy 64 = .ok (.aload_n 0, 1) := by decide +kernel
theorem d_Mo_spareBy_65 : decode b_Mo_spareBy 65 = .ok (.getfield 171, 3) := by decide +kernel
theorem d_Mo_spareBy_68 : decode b_Mo_spareBy 68 = .ok (.if_icmp .ge 39, 3) := by decide +kernel
theorem d_Mo_spareBy_71 : decode b_Mo_spareBy 71 = .ok (.aload_n 0, 1) := by decide +kernel
theorem d_Mo_spareBy_72 : decode b_Mo_spareBy 72 = .ok (.getfield 82, 3) := by decide +kernel
theorem d_Mo_spareBy_75 : decode b_Mo_spareBy 75 = .ok (.iconst 0, 1) := by decide +kernel
theorem d_Mo_spareBy_76 : decode b_Mo_spareBy 76 = .ok (.iload_n 1, 1) := by decide +kernel
theorem d_Mo_spareBy_77 : decode b_Mo_spareBy 77 = .ok (.iastore, 1) := by decide +kernel
theorem d_Mo_spareBy_78 : decode b_Mo_spareBy 78 = .ok (.aload_n 0, 1) := by decide +kernel
theorem d_Mo_spareBy_79 : decode b_Mo_spareBy 79 = .ok (.getfield 82, 3) := by decide +kernel
theorem d_Mo_spareBy_82 : decode b_Mo_spareBy 82 = .ok (.iconst 1, 1) := by decide +kernel
theorem d_Mo_spareBy_83 : decode b_Mo_spareBy 83 = .ok (.iload_n 2, 1) := by decide +kernel
theorem d_Mo_spareBy_84 : decode b_Mo_spareBy 84 = .ok (.iastore, 1) := by decide +kernel
theorem d_Mo_spareBy_85 : decode b_Mo_spareBy 85 = .ok (.aload_n 0, 1) := by decide +kernel
theorem d_Mo_spareBy_86 : decode b_Mo_spareBy 86 = .ok (.iconst 1, 1) := by decide +kernel
theorem d_Mo_spareBy_87 : decode b_Mo_spareBy 87 = .ok (.iload_n 1, 1) := by decide +kernel
theorem d_Mo_spareBy_88 : decode b_Mo_spareBy 88 = .ok (.ishl, 1) := by decide +kernel
theorem d_Mo_spareBy_89 : decode b_Mo_spareBy 89 = .ok (.iconst 1, 1) := by decide +kernel
theorem d_Mo_spareBy_90 : decode b_Mo_spareBy 90 = .ok (.iload_n 2, 1) := by decide +kernel
theorem d_Mo_spareBy_91 : decode b_Mo_spareBy 91 = .ok (.ishl, 1) := by decide +kernel
theorem d_Mo_spareBy_92 : decode b_Mo_spareBy 92 = .ok (.ior, 1) := by decide +kernel
theorem d_Mo_spareBy_93 : decode b_Mo_spareBy 93 = .ok (.invokevirtual 285, 3) := by decide +kernel
theorem d_Mo_spareBy_96 : decode b_Mo_spareBy 96 = .ok (.ifCond .eq 5, 3) := by decide +kernel
theorem d_Mo_spareBy_99 : decode b_Mo_spareBy 99 = .ok (.iconst 2, 1) := by decide +kernel
theorem d_Mo_spareBy_100 : decode b_Mo_spareBy 100 = .ok (.ireturn, 1) := by decide +kernel
theorem d_Mo_spareBy_101 : decode b_Mo_spareBy 101 = .ok (.iinc 2 1, 3) := by decide +kernel
theorem d_Mo_spareBy_104 : decode b_Mo_spareBy 104 = .ok (.goto (-41), 3) := by decide +kernel
theorem d_Mo_spareBy_107 : decode b_Mo_spareBy 107 = .ok (.iinc 1 1, 3) := by decide +kernel
theorem d_Mo_spareBy_110 : decode b_Mo_spareBy 110 = .ok (.goto (-59), 3) := by decide +kernel
theorem d_Mo_spareBy_113 : decode b_Mo_spareBy 113 = .ok (.iconst (-1), 1) := by decide +kernel
theorem d_Mo_spareBy_114 : decode b_Mo_spareBy 114 = .ok (.ireturn, 1) := by decide +kernel
theorem d_Mo_ofRow_0 : decode b_Mo_ofRow 0 = .ok (.iload_n 2, 1) := by decide +kernel
theorem d_Mo_ofRow_1 : decode b_Mo_ofRow 1 = .ok (.iconst (-1), 1) := by decide +kernel
theorem d_Mo_ofRow_2 : decode b_Mo_ofRow 2 = .ok (.if_icmp .ne 7, 3) := by decide +kernel
theorem d_Mo_ofRow_5 : decode b_Mo_ofRow 5 = .ok (.iload_n 1, 1) := by decide +kernel
theorem d_Mo_ofRow_6 : decode b_Mo_ofRow 6 = .ok (.goto 18, 3) := by decide +kernel
theorem d_Mo_ofRow_9 : decode b_Mo_ofRow 9 = .ok (.iload_n 2, 1) := by decide +kernel
theorem d_Mo_ofRow_10 : decode b_Mo_ofRow 10 = .ok (.iload_n 1, 1) := by decide +kernel
theorem d_Mo_ofRow_11 : decode b_Mo_ofRow 11 = .ok (.if_icmp .ge 12, 3) := by decide +kernel
theorem d_Mo_ofRow_14 : decode b_Mo_ofRow 14 = .ok (.aload_n 0, 1) := by decide +kernel
theorem d_Mo_ofRow_15 : decode b_Mo_ofRow 15 = .ok (.getfield 82, 3) := by decide +kernel
theorem d_Mo_ofRow_18 : decode b_Mo_ofRow 18 = .ok (.iload_n 2, 1) := by decide +kernel
theorem d_Mo_ofRow_19 : decode b_Mo_ofRow 19 = .ok (.iaload, 1) := by decide +kernel
theorem d_Mo_ofRow_20 : decode b_Mo_ofRow 20 = .ok (.goto 4, 3) := by decide +kernel
theorem d_Mo_ofRow_23 : decode b_Mo_ofRow 23 = .ok (.iconst (-1), 1) := by decide +kernel
theorem d_Mo_ofRow_24 : decode b_Mo_ofRow 24 = .ok (.ireturn, 1) := by decide +kernel
theorem d_Mo_spare_0 : decode b_Mo_spare 0 = .ok (.iload_n 1, 1) := by decide +kernel
theorem d_Mo_spare_1 : decode b_Mo_spare 1 = .ok (.iconst (-1), 1) := by decide +kernel
theorem d_Mo_spare_2 : decode b_Mo_spare 2 = .ok (.iconst 1, 1) := by decide +kernel
theorem d_Mo_spare_3 : decode b_Mo_spare 3 = .ok (.invokestatic 115, 3) := by decide +kernel
theorem d_Mo_spare_6 : decode b_Mo_spare 6 = .ok (.ifCond .eq 15, 3) := by decide +kernel
theorem d_Mo_spare_9 : decode b_Mo_spare 9 = .ok (.aload_n 0, 1) := by decide +kernel
theorem d_Mo_spare_10 : decode b_Mo_spare 10 = .ok (.aload_n 0, 1) := by decide +kernel
theorem d_Mo_spare_11 : decode b_Mo_spare 11 = .ok (.invokevirtual 288, 3) := by decide +kernel
theorem d_Mo_spare_14 : decode b_Mo_spare 14 = .ok (.iload_n 1, 1) := by decide +kernel
theorem d_Mo_spare_15 : decode b_Mo_spare 15 = .ok (.invokevirtual 291, 3) := by decide +kernel
theorem d_Mo_spare_18 : decode b_Mo_spare 18 = .ok (.goto 5, 3) := by decide +kernel
theorem d_Mo_spare_21 : decode b_Mo_spare 21 = .ok (.bipush (-2), 2) := by decide +kernel
theorem d_Mo_spare_23 : decode b_Mo_spare 23 = .ok (.ireturn, 1) := by decide +kernel
theorem d_Mo_seen_0 : decode b_Mo_seen 0 = .ok (.iload_n 1, 1) := by decide +kernel
theorem d_Mo_seen_1 : decode b_Mo_seen 1 = .ok (.invokestatic 165, 3) := by decide +kernel
theorem d_Mo_seen_4 : decode b_Mo_seen 4 = .ok (.ifCond .eq 20, 3) := by decide +kernel
theorem d_Mo_seen_7 : decode b_Mo_seen 7 = .ok (.iload_n 2, 1) := by decide +kernel
theorem d_Mo_seen_8 : decode b_Mo_seen 8 = .ok (.invokestatic 168, 3) := by decide +kernel
theorem d_Mo_seen_11 : decode b_Mo_seen 11 = .ok (.ifCond .eq 13, 3) := by decide +kernel
theorem d_Mo_seen_14 : decode b_Mo_seen 14 = .ok (.iload_n 3, 1) := by decide +kernel
theorem d_Mo_seen_15 : decode b_Mo_seen 15 = .ok (.iconst 0, 1) := by decide +kernel
theorem d_Mo_seen_16 : decode b_Mo_seen 16 = .ok (.bipush 99, 2) := by decide +kernel
theorem d_Mo_seen_18 : decode b_Mo_seen 18 = .ok (.invokestatic 115, 3) := by decide +kernel
theorem d_Mo_seen_21 : decode b_Mo_seen 21 = .ok (.ifCond .ne 6, 3) := by decide +kernel
theorem d_Mo_seen_24 : decode b_Mo_seen 24 = .ok (.bipush (-2), 2) := by decide +kernel
theorem d_Mo_seen_26 : decode b_Mo_seen 26 = .ok (.ireturn, 1) := by decide +kernel
theorem d_Mo_seen_27 : decode b_Mo_seen 27 = .ok (.aload_n 0, 1) := by decide +kernel
theorem d_Mo_seen_28 : decode b_Mo_seen 28 = .ok (.getfield 294, 3) := by decide +kernel
theorem d_Mo_seen_31 : decode b_Mo_seen 31 = .ok (.bipush 8, 2) := by decide +kernel
theorem d_Mo_seen_33 : decode b_Mo_seen 33 = .ok (.if_icmp .ne 6, 3) := by decide +kernel
theorem d_Mo_seen_36 : decode b_Mo_seen 36 = .ok (.bipush (-4), 2) := by decide +kernel
theorem d_Mo_seen_38 : decode b_Mo_seen 38 = .ok (.ireturn, 1) := by decide +kernel
theorem d_Mo_seen_39 : decode b_Mo_seen 39 = .ok (.aload_n 0, 1) := by decide +kernel
theorem d_Mo_seen_40 : decode b_Mo_seen 40 = .ok (.getfield 85, 3) := by decide +kernel
theorem d_Mo_seen_43 : decode b_Mo_seen 43 = .ok (.aload_n 0, 1) := by decide +kernel
theorem d_Mo_seen_44 : decode b_Mo_seen 44 = .ok (.getfield 294, 3) := by decide +kernel
theorem d_Mo_seen_47 : decode b_Mo_seen 47 = .ok (.iload_n 1, 1) := by decide +kernel
theorem d_Mo_seen_48 : decode b_Mo_seen 48 = .ok (.iastore, 1) := by decide +kernel
theorem d_Mo_seen_49 : decode b_Mo_seen 49 = .ok (.aload_n 0, 1) := by decide +kernel
theorem d_Mo_seen_50 : decode b_Mo_seen 50 = .ok (.getfield 88, 3) := by decide +kernel
theorem d_Mo_seen_53 : decode b_Mo_seen 53 = .ok (.aload_n 0, 1) := by decide +kernel
theorem d_Mo_seen_54 : decode b_Mo_seen 54 = .ok (.getfield 294, 3) := by decide +kernel
theorem d_Mo_seen_57 : decode b_Mo_seen 57 = .ok (.iload_n 2, 1) := by decide +kernel
theorem d_Mo_seen_58 : decode b_Mo_seen 58 = .ok (.iastore, 1) := by decide +kernel
theorem d_Mo_seen_59 : decode b_Mo_seen 59 = .ok (.aload_n 0, 1) := by decide +kernel
theorem d_Mo_seen_60 : decode b_Mo_seen 60 = .ok (.getfield 91, 3) := by decide +kernel
theorem d_Mo_seen_63 : decode b_Mo_seen 63 = .ok (.aload_n 0, 1) := by decide +kernel
theorem d_Mo_seen_64 : decode b_Mo_seen 64 = .ok (.getfield 294, 3) := by decide +kernel
theorem d_Mo_seen_67 : decode b_Mo_seen 67 = .ok (.iload_n 3, 1) := by decide +kernel
theorem d_Mo_seen_68 : decode b_Mo_seen 68 = .ok (.iastore, 1) := by decide +kernel
theorem d_Mo_seen_69 : decode b_Mo_seen 69 = .ok (.aload_n 0, 1) := by decide +kernel
theorem d_Mo_seen_70 : decode b_Mo_seen 70 = .ok (.dup, 1) := by decide +kernel
theorem d_Mo_seen_71 : decode b_Mo_seen 71 = .ok (.getfield 294, 3) := by decide +kernel
theorem d_Mo_seen_74 : decode b_Mo_seen 74 = .ok (.iconst 1, 1) := by decide +kernel
theorem d_Mo_seen_75 : decode b_Mo_seen 75 = .ok (.iadd, 1) := by decide +kernel
theorem d_Mo_seen_76 : decode b_Mo_seen 76 = .ok (.putfield 294, 3) := by decide +kernel
theorem d_Mo_seen_79 : decode b_Mo_seen 79 = .ok (.aload_n 0, 1) := by decide +kernel
theorem d_Mo_seen_80 : decode b_Mo_seen 80 = .ok (.getfield 294, 3) := by decide +kernel
theorem d_Mo_seen_83 : decode b_Mo_seen 83 = .ok (.ireturn, 1) := by decide +kernel
theorem d_Mo_forget_0 : decode b_Mo_forget 0 = .ok (.aload_n 0, 1) := by decide +kernel
theorem d_Mo_forget_1 : decode b_Mo_forget 1 = .ok (.getfield 294, 3) := by decide +kernel
theorem d_Mo_forget_4 : decode b_Mo_forget 4 = .ok (.istore_n 1, 1) := by decide +kernel
theorem d_Mo_forget_5 : decode b_Mo_forget 5 = .ok (.aload_n 0, 1) := by decide +kernel
theorem d_Mo_forget_6 : decode b_Mo_forget 6 = .ok (.iconst 0, 1) := by decide +kernel
theorem d_Mo_forget_7 : decode b_Mo_forget 7 = .ok (.putfield 294, 3) := by decide +kernel
theorem d_Mo_forget_10 : decode b_Mo_forget 10 = .ok (.iload_n 1, 1) := by decide +kernel
theorem d_Mo_forget_11 : decode b_Mo_forget 11 = .ok (.ireturn, 1) := by decide +kernel
theorem d_Mo_isSeen_0 : decode b_Mo_isSeen 0 = .ok (.aload_n 0, 1) := by decide +kernel
theorem d_Mo_isSeen_1 : decode b_Mo_isSeen 1 = .ok (.invokevirtual 238, 3) := by decide +kernel
theorem d_Mo_isSeen_4 : decode b_Mo_isSeen 4 = .ok (.iconst 1, 1) := by decide +kernel
theorem d_Mo_isSeen_5 : decode b_Mo_isSeen 5 = .ok (.istore_n 1, 1) := by decide +kernel
theorem d_Mo_isSeen_6 : decode b_Mo_isSeen 6 = .ok (.iconst 0, 1) := by decide +kernel
theorem d_Mo_isSeen_7 : decode b_Mo_isSeen 7 = .ok (.istore_n 2, 1) := by decide +kernel
theorem d_Mo_isSeen_8 : decode b_Mo_isSeen 8 = .ok (.iload_n 2, 1) := by decide +kernel
theorem d_Mo_isSeen_9 : decode b_Mo_isSeen 9 = .ok (.aload_n 0, 1) := by decide +kernel
theorem d_Mo_isSeen_10 : decode b_Mo_isSeen 10 = .ok (.getfield 294, 3) := by decide +kernel
theorem d_Mo_isSeen_13 : decode b_Mo_isSeen 13 = .ok (.if_icmp .ge 62, 3) := by decide +kernel
theorem d_Mo_isSeen_16 : decode b_Mo_isSeen 16 = .ok (.iload_n 1, 1) := by decide +kernel
theorem d_Mo_isSeen_17 : decode b_Mo_isSeen 17 = .ok (.ifCond .eq 58, 3) := by decide +kernel
theorem d_Mo_isSeen_20 : decode b_Mo_isSeen 20 = .ok (.aload_n 0, 1) := by decide +kernel
theorem d_Mo_isSeen_21 : decode b_Mo_isSeen 21 = .ok (.getfield 88, 3) := by decide +kernel
theorem d_Mo_isSeen_24 : decode b_Mo_isSeen 24 = .ok (.iload_n 2, 1) := by decide +kernel
theorem d_Mo_isSeen_25 : decode b_Mo_isSeen 25 = .ok (.iaload, 1) := by decide +kernel
theorem d_Mo_isSeen_26 : decode b_Mo_isSeen 26 = .ok (.aload_n 0, 1) := by decide +kernel
theorem d_Mo_isSeen_27 : decode b_Mo_isSeen 27 = .ok (.getfield 127, 3) := by decide +kernel
theorem d_Mo_isSeen_30 : decode b_Mo_isSeen 30 = .ok (.if_icmp .ge 37, 3) := by decide +kernel
theorem d_Mo_isSeen_33 : decode b_Mo_isSeen 33 = .ok (.aload_n 0, 1) := by decide +kernel
theorem d_Mo_isSeen_34 : decode b_Mo_isSeen 34 = .ok (.getfield 61, 3) := by decide +kernel
theorem d_Mo_isSeen_37 : decode b_Mo_isSeen 37 = .ok (.bipush 8, 2) := by decide +kernel
theorem d_Mo_isSeen_39 : decode b_Mo_isSeen 39 = .ok (.aload_n 0, 1) := by decide +kernel
theorem d_Mo_isSeen_40 : decode b_Mo_isSeen 40 = .ok (.getfield 85, 3) := by decide +kernel
theorem d_Mo_isSeen_43 : decode b_Mo_isSeen 43 = .ok (.iload_n 2, 1) := by decide +kernel
theorem d_Mo_isSeen_44 : decode b_Mo_isSeen 44 = .ok (.iaload, 1) := by decide +kernel
theorem d_Mo_isSeen_45 : decode b_Mo_isSeen 45 = .ok (.imul, 1) := by decide +kernel
theorem d_Mo_isSeen_46 : decode b_Mo_isSeen 46 = .ok (.aload_n 0, 1) := by decide +kernel
theorem d_Mo_isSeen_47 : decode b_Mo_isSeen 47 = .ok (.getfield 88, 3) := by decide +kernel
theorem d_Mo_isSeen_50 : decode b_Mo_isSeen 50 = .ok (.iload_n 2, 1) := by decide +kernel
theorem d_Mo_isSeen_51 : decode b_Mo_isSeen 51 = .ok (.iaload, 1) := by decide +kernel
theorem d_Mo_isSeen_52 : decode b_Mo_isSeen 52 = .ok (.iadd, 1) := by decide +kernel
theorem d_Mo_isSeen_53 : decode b_Mo_isSeen 53 = .ok (.iaload, 1) := by decide +kernel
theorem d_Mo_isSeen_54 : decode b_Mo_isSeen 54 = .ok (.aload_n 0, 1) := by decide +kernel
theorem d_Mo_isSeen_55 : decode b_Mo_isSeen 55 = .ok (.getfield 91, 3) := by decide +kernel
theorem d_Mo_isSeen_58 : decode b_Mo_isSeen 58 = .ok (.iload_n 2, 1) := by decide +kernel
theorem d_Mo_isSeen_59 : decode b_Mo_isSeen 59 = .ok (.iaload, 1) := by decide +kernel
theorem d_Mo_isSeen_60 : decode b_Mo_isSeen 60 = .ok (.if_icmp .ne 7, 3) := by decide +kernel
theorem d_Mo_isSeen_63 : decode b_Mo_isSeen 63 = .ok (.iconst 1, 1) := by decide +kernel
theorem d_Mo_isSeen_64 : decode b_Mo_isSeen 64 = .ok (.goto 4, 3) := by decide +kernel
theorem d_Mo_isSeen_67 : decode b_Mo_isSeen 67 = .ok (.iconst 0, 1) := by decide +kernel
theorem d_Mo_isSeen_68 : decode b_Mo_isSeen 68 = .ok (.istore_n 1, 1) := by decide +kernel
theorem d_Mo_isSeen_69 : decode b_Mo_isSeen 69 = .ok (.iinc 2 1, 3) := by decide +kernel
theorem d_Mo_isSeen_72 : decode b_Mo_isSeen 72 = .ok (.goto (-64), 3) := by decide +kernel
theorem d_Mo_isSeen_75 : decode b_Mo_isSeen 75 = .ok (.iload_n 1, 1) := by decide +kernel
theorem d_Mo_isSeen_76 : decode b_Mo_isSeen 76 = .ok (.ireturn, 1) := by decide +kernel
theorem d_Mo_neverNow_0 : decode b_Mo_neverNow 0 = .ok (.aload_n 0, 1) := by decide +kernel
theorem d_Mo_neverNow_1 : decode b_Mo_neverNow 1 = .ok (.invokevirtual 235, 3) := by decide +kernel
theorem d_Mo_neverNow_4 : decode b_Mo_neverNow 4 = .ok (.iconst 0, 1) := by decide +kernel
theorem d_Mo_neverNow_5 : decode b_Mo_neverNow 5 = .ok (.istore_n 1, 1) := by decide +kernel
theorem d_Mo_neverNow_6 : decode b_Mo_neverNow 6 = .ok (.iconst 0, 1) := by decide +kernel
theorem d_Mo_neverNow_7 : decode b_Mo_neverNow 7 = .ok (.istore_n 2, 1) := by decide +kernel
theorem d_Mo_neverNow_8 : decode b_Mo_neverNow 8 = .ok (.iload_n 2, 1) := by decide +kernel
theorem d_Mo_neverNow_9 : decode b_Mo_neverNow 9 = .ok (.aload_n 0, 1) := by decide +kernel
theorem d_Mo_neverNow_10 : decode b_Mo_neverNow 10 = .ok (.getfield 171, 3) := by decide +kernel
theorem d_Mo_neverNow_13 : decode b_Mo_neverNow 13 = .ok (.if_icmp .ge 33, 3) := by decide +kernel
theorem d_Mo_neverNow_16 : decode b_Mo_neverNow 16 = .ok (.aload_n 0, 1) := by decide +kernel
theorem d_Mo_neverNow_17 : decode b_Mo_neverNow 17 = .ok (.iconst 1, 1) := by decide +kernel
theorem d_Mo_neverNow_18 : decode b_Mo_neverNow 18 = .ok (.iload_n 2, 1) := by decide +kernel
theorem d_Mo_neverNow_19 : decode b_Mo_neverNow 19 = .ok (.ishl, 1) := by decide +kernel
theorem d_Mo_neverNow_20 : decode b_Mo_neverNow 20 = .ok (.putfield 186, 3) := by decide +kernel
theorem d_Mo_neverNow_23 : decode b_Mo_neverNow 23 = .ok (.iload_n 1, 1) := by decide +kernel
theorem d_Mo_neverNow_24 : decode b_Mo_neverNow 24 = .ok (.aload_n 0, 1) := by decide +kernel
theorem d_Mo_neverNow_25 : decode b_Mo_neverNow 25 = .ok (.invokevirtual 297, 3) := by decide +kernel
theorem d_Mo_neverNow_28 : decode b_Mo_neverNow 28 = .ok (.ifCond .eq 9, 3) := by decide +kernel
theorem d_Mo_neverNow_31 : decode b_Mo_neverNow 31 = .ok (.iconst 1, 1) := by decide +kernel
theorem d_Mo_neverNow_32 : decode b_Mo_neverNow 32 = .ok (.iload_n 2, 1) := by decide +kernel
theorem d_Mo_neverNow_33 : decode b_Mo_neverNow 33 = .ok (.ishl, 1) := by decide +kernel
theorem d_Mo_neverNow_34 : decode b_Mo_neverNow 34 = .ok (.goto 4, 3) := by decide +kernel
theorem d_Mo_neverNow_37 : decode b_Mo_neverNow 37 = .ok (.iconst 0, 1) := by decide +kernel
theorem d_Mo_neverNow_38 : decode b_Mo_neverNow 38 = .ok (.ior, 1) := by decide +kernel
theorem d_Mo_neverNow_39 : decode b_Mo_neverNow 39 = .ok (.istore_n 1, 1) := by decide +kernel
theorem d_Mo_neverNow_40 : decode b_Mo_neverNow 40 = .ok (.iinc 2 1, 3) := by decide +kernel
theorem d_Mo_neverNow_43 : decode b_Mo_neverNow 43 = .ok (.goto (-35), 3) := by decide +kernel
theorem d_Mo_neverNow_46 : decode b_Mo_neverNow 46 = .ok (.iload_n 1, 1) := by decide +kernel
theorem d_Mo_neverNow_47 : decode b_Mo_neverNow 47 = .ok (.ireturn, 1) := by decide +kernel
theorem d_Mo_never_0 : decode b_Mo_never 0 = .ok (.aload_n 0, 1) := by decide +kernel
theorem d_Mo_never_1 : decode b_Mo_never 1 = .ok (.invokevirtual 301, 3) := by decide +kernel
theorem d_Mo_never_4 : decode b_Mo_never 4 = .ok (.ireturn, 1) := by decide +kernel
theorem d_Mo_sortsBy_0 : decode b_Mo_sortsBy 0 = .ok (.aload_n 0, 1) := by decide +kernel
theorem d_Mo_sortsBy_1 : decode b_Mo_sortsBy 1 = .ok (.invokevirtual 235, 3) := by decide +kernel
theorem d_Mo_sortsBy_4 : decode b_Mo_sortsBy 4 = .ok (.aload_n 0, 1) := by decide +kernel
theorem d_Mo_sortsBy_5 : decode b_Mo_sortsBy 5 = .ok (.getfield 16, 3) := by decide +kernel
theorem d_Mo_sortsBy_8 : decode b_Mo_sortsBy 8 = .ok (.iload_n 1, 1) := by decide +kernel
theorem d_Mo_sortsBy_9 : decode b_Mo_sortsBy 9 = .ok (.iaload, 1) := by decide +kernel
theorem d_Mo_sortsBy_10 : decode b_Mo_sortsBy 10 = .ok (.istore_n 2, 1) := by decide +kernel
theorem d_Mo_sortsBy_11 : decode b_Mo_sortsBy 11 = .ok (.iconst 0, 1) := by decide +kernel
theorem d_Mo_sortsBy_12 : decode b_Mo_sortsBy 12 = .ok (.istore_n 3, 1) := by decide +kernel
theorem d_Mo_sortsBy_13 : decode b_Mo_sortsBy 13 = .ok (.iconst 0, 1) := by decide +kernel
theorem d_Mo_sortsBy_14 : decode b_Mo_sortsBy 14 = .ok (.istore 4, 2) := by decide +kernel
theorem d_Mo_sortsBy_16 : decode b_Mo_sortsBy 16 = .ok (.iload 4, 2) := by decide +kernel
theorem d_Mo_sortsBy_18 : decode b_Mo_sortsBy 18 = .ok (.iconst 3, 1) := by decide +kernel
theorem d_Mo_sortsBy_19 : decode b_Mo_sortsBy 19 = .ok (.if_icmp .ge 35, 3) := by decide +kernel
theorem d_Mo_sortsBy_22 : decode b_Mo_sortsBy 22 = .ok (.aload_n 0, 1) := by decide +kernel
theorem d_Mo_sortsBy_23 : decode b_Mo_sortsBy 23 = .ok (.getfield 16, 3) := by decide +kernel
theorem d_Mo_sortsBy_26 : decode b_Mo_sortsBy 26 = .ok (.iload_n 1, 1) := by decide +kernel
theorem d_Mo_sortsBy_27 : decode b_Mo_sortsBy 27 = .ok (.iload 4, 2) := by decide +kernel
theorem d_Mo_sortsBy_29 : decode b_Mo_sortsBy 29 = .ok (.iastore, 1) := by decide +kernel
theorem d_Mo_sortsBy_30 : decode b_Mo_sortsBy 30 = .ok (.iload_n 3, 1) := by decide +kernel
theorem d_Mo_sortsBy_31 : decode b_Mo_sortsBy 31 = .ok (.aload_n 0, 1) := by decide +kernel
theorem d_Mo_sortsBy_32 : decode b_Mo_sortsBy 32 = .ok (.invokevirtual 297, 3) := by decide +kernel
theorem d_Mo_sortsBy_35 : decode b_Mo_sortsBy 35 = .ok (.ifCond .eq 10, 3) := by decide +kernel
theorem d_Mo_sortsBy_38 : decode b_Mo_sortsBy 38 = .ok (.iconst 1, 1) := by decide +kernel
theorem d_Mo_sortsBy_39 : decode b_Mo_sortsBy 39 = .ok (.iload 4, 2) := by decide +kernel
theorem d_Mo_sortsBy_41 : decode b_Mo_sortsBy 41 = .ok (.ishl, 1) := by decide +kernel
theorem d_Mo_sortsBy_42 : decode b_Mo_sortsBy 42 = .ok (.goto 4, 3) := by decide +kernel
theorem d_Mo_sortsBy_45 : decode b_Mo_sortsBy 45 = .ok (.iconst 0, 1) := by decide +kernel
theorem d_Mo_sortsBy_46 : decode b_Mo_sortsBy 46 = .ok (.ior, 1) := by decide +kernel
theorem d_Mo_sortsBy_47 : decode b_Mo_sortsBy 47 = .ok (.istore_n 3, 1) := by decide +kernel
theorem d_Mo_sortsBy_48 : decode b_Mo_sortsBy 48 = .ok (.iinc 4 1, 3) := by decide +kernel
theorem d_Mo_sortsBy_51 : decode b_Mo_sortsBy 51 = .ok (.goto (-35), 3) := by decide +kernel
theorem d_Mo_sortsBy_54 : decode b_Mo_sortsBy 54 = .ok (.aload_n 0, 1) := by decide +kernel
theorem d_Mo_sortsBy_55 : decode b_Mo_sortsBy 55 = .ok (.getfield 16, 3) := by decide +kernel
theorem d_Mo_sortsBy_58 : decode b_Mo_sortsBy 58 = .ok (.iload_n 1, 1) := by decide +kernel
theorem d_Mo_sortsBy_59 : decode b_Mo_sortsBy 59 = .ok (.iload_n 2, 1) := by decide +kernel
theorem d_Mo_sortsBy_60 : decode b_Mo_sortsBy 60 = .ok (.iastore, 1) := by decide +kernel
theorem d_Mo_sortsBy_61 : decode b_Mo_sortsBy 61 = .ok (.iload_n 3, 1) := by decide +kernel
theorem d_Mo_sortsBy_62 : decode b_Mo_sortsBy 62 = .ok (.ireturn, 1) := by decide +kernel
theorem d_Mo_strongBy_0 : decode b_Mo_strongBy 0 = .ok (.aload_n 0, 1) := by decide +kernel
theorem d_Mo_strongBy_1 : decode b_Mo_strongBy 1 = .ok (.invokevirtual 235, 3) := by decide +kernel
theorem d_Mo_strongBy_4 : decode b_Mo_strongBy 4 = .ok (.aload_n 0, 1) := by decide +kernel
theorem d_Mo_strongBy_5 : decode b_Mo_strongBy 5 = .ok (.getfield 19, 3) := by decide +kernel
theorem d_Mo_strongBy_8 : decode b_Mo_strongBy 8 = .ok (.iload_n 1, 1) := by decide +kernel
theorem d_Mo_strongBy_9 : decode b_Mo_strongBy 9 = .ok (.iaload, 1) := by decide +kernel
theorem d_Mo_strongBy_10 : decode b_Mo_strongBy 10 = .ok (.istore_n 2, 1) := by decide +kernel
theorem d_Mo_strongBy_11 : decode b_Mo_strongBy 11 = .ok (.iconst 0, 1) := by decide +kernel
theorem d_Mo_strongBy_12 : decode b_Mo_strongBy 12 = .ok (.istore_n 3, 1) := by decide +kernel
theorem d_Mo_strongBy_13 : decode b_Mo_strongBy 13 = .ok (.iconst 1, 1) := by decide +kernel
theorem d_Mo_strongBy_14 : decode b_Mo_strongBy 14 = .ok (.istore 4, 2) := by decide +kernel
theorem d_Mo_strongBy_16 : decode b_Mo_strongBy 16 = .ok (.iload 4, 2) := by decide +kernel
theorem d_Mo_strongBy_18 : decode b_Mo_strongBy 18 = .ok (.bipush 10, 2) := by decide +kernel
theorem d_Mo_strongBy_20 : decode b_Mo_strongBy 20 = .ok (.if_icmp .ge 76, 3) := by decide +kernel
theorem d_Mo_strongBy_23 : decode b_Mo_strongBy 23 = .ok (.aload_n 0, 1) := by decide +kernel
theorem d_Mo_strongBy_24 : decode b_Mo_strongBy 24 = .ok (.getfield 19, 3) := by decide +kernel
theorem d_Mo_strongBy_27 : decode b_Mo_strongBy 27 = .ok (.iload_n 1, 1) := by decide +kernel
theorem d_Mo_strongBy_28 : decode b_Mo_strongBy 28 = .ok (.iload 4, 2) := by decide +kernel
theorem d_Mo_strongBy_30 : decode b_Mo_strongBy 30 = .ok (.iastore, 1) := by decide +kernel
theorem d_Mo_strongBy_31 : decode b_Mo_strongBy 31 = .ok (.iload_n 3, 1) := by decide +kernel
theorem d_Mo_strongBy_32 : decode b_Mo_strongBy 32 = .ok (.aload_n 0, 1) := by decide +kernel
theorem d_Mo_strongBy_33 : decode b_Mo_strongBy 33 = .ok (.invokevirtual 297, 3) := by decide +kernel
theorem d_Mo_strongBy_36 : decode b_Mo_strongBy 36 = .ok (.ifCond .eq 10, 3) := by decide +kernel
theorem d_Mo_strongBy_39 : decode b_Mo_strongBy 39 = .ok (.iconst 1, 1) := by decide +kernel
theorem d_Mo_strongBy_40 : decode b_Mo_strongBy 40 = .ok (.iload 4, 2) := by decide +kernel
theorem d_Mo_strongBy_42 : decode b_Mo_strongBy 42 = .ok (.ishl, 1) := by decide +kernel
theorem d_Mo_strongBy_43 : decode b_Mo_strongBy 43 = .ok (.goto 4, 3) := by decide +kernel
theorem d_Mo_strongBy_46 : decode b_Mo_strongBy 46 = .ok (.iconst 0, 1) := by decide +kernel
theorem d_Mo_strongBy_47 : decode b_Mo_strongBy 47 = .ok (.ior, 1) := by decide +kernel
theorem d_Mo_strongBy_48 : decode b_Mo_strongBy 48 = .ok (.istore_n 3, 1) := by decide +kernel
theorem d_Mo_strongBy_49 : decode b_Mo_strongBy 49 = .ok (.iconst 0, 1) := by decide +kernel
theorem d_Mo_strongBy_50 : decode b_Mo_strongBy 50 = .ok (.istore 5, 2) := by decide +kernel
theorem d_Mo_strongBy_52 : decode b_Mo_strongBy 52 = .ok (.iload 5, 2) := by decide +kernel
theorem d_Mo_strongBy_54 : decode b_Mo_strongBy 54 = .ok (.bipush 24, 2) := by decide +kernel
theorem d_Mo_strongBy_56 : decode b_Mo_strongBy 56 = .ok (.if_icmp .ge 34, 3) := by decide +kernel
theorem d_Mo_strongBy_59 : decode b_Mo_strongBy 59 = .ok (.aload_n 0, 1) := by decide +kernel
theorem d_Mo_strongBy_60 : decode b_Mo_strongBy 60 = .ok (.getfield 94, 3) := by decide +kernel
theorem d_Mo_strongBy_63 : decode b_Mo_strongBy 63 = .ok (.bipush 24, 2) := by decide +kernel
theorem d_Mo_strongBy_65 : decode b_Mo_strongBy 65 = .ok (.iload 4, 2) := by decide +kernel
theorem d_Mo_strongBy_67 : decode b_Mo_strongBy 67 = .ok (.imul, 1) := by decide +kernel
theorem d_Mo_strongBy_68 : decode b_Mo_strongBy 68 = .ok (.iload 5, 2) := by decide +kernel
theorem d_Mo_strongBy_70 : decode b_Mo_strongBy 70 = .ok (.iadd, 1) := by decide +kernel
theorem d_Mo_strongBy_71 : decode b_Mo_strongBy 71 = .ok (.aload_n 0, 1) := by decide +kernel
theorem d_Mo_strongBy_72 : decode b_Mo_strongBy 72 = .ok (.getfield 61, 3) := by decide +kernel
theorem d_Mo_strongBy_75 : decode b_Mo_strongBy 75 = .ok (.bipush 8, 2) := by decide +kernel
theorem d_Mo_strongBy_77 : decode b_Mo_strongBy 77 = .ok (.iload 5, 2) := by decide +kernel
theorem d_Mo_strongBy_79 : decode b_Mo_strongBy 79 = .ok (.imul, 1) := by decide +kernel
theorem d_Mo_strongBy_80 : decode b_Mo_strongBy 80 = .ok (.iload_n 1, 1) := by decide +kernel
theorem d_Mo_strongBy_81 : decode b_Mo_strongBy 81 = .ok (.iadd, 1) := by decide +kernel
theorem d_Mo_strongBy_82 : decode b_Mo_strongBy 82 = .ok (.iaload, 1) := by decide +kernel
theorem d_Mo_strongBy_83 : decode b_Mo_strongBy 83 = .ok (.iastore, 1) := by decide +kernel
theorem d_Mo_strongBy_84 : decode b_Mo_strongBy 84 = .ok (.iinc 5 1, 3) := by decide +kernel
theorem d_Mo_strongBy_87 : decode b_Mo_strongBy 87 = .ok (.goto (-35), 3) := by decide +kernel
theorem d_Mo_strongBy_90 : decode b_Mo_strongBy 90 = .ok (.iinc 4 1, 3) := by decide +kernel
theorem d_Mo_strongBy_93 : decode b_Mo_strongBy 93 = .ok (.goto (-77), 3) := by decide +kernel
theorem d_Mo_strongBy_96 : decode b_Mo_strongBy 96 = .ok (.aload_n 0, 1) := by decide +kernel
theorem d_Mo_strongBy_97 : decode b_Mo_strongBy 97 = .ok (.getfield 19, 3) := by decide +kernel
theorem d_Mo_strongBy_100 : decode b_Mo_strongBy 100 = .ok (.iload_n 1, 1) := by decide +kernel
theorem d_Mo_strongBy_101 : decode b_Mo_strongBy 101 = .ok (.iload_n 2, 1) := by decide +kernel
theorem d_Mo_strongBy_102 : decode b_Mo_strongBy 102 = .ok (.iastore, 1) := by decide +kernel
theorem d_Mo_strongBy_103 : decode b_Mo_strongBy 103 = .ok (.iload_n 3, 1) := by decide +kernel
theorem d_Mo_strongBy_104 : decode b_Mo_strongBy 104 = .ok (.ireturn, 1) := by decide +kernel
theorem d_Mo_was_0 : decode b_Mo_was 0 = .ok (.aload_n 0, 1) := by decide +kernel
theorem d_Mo_was_1 : decode b_Mo_was 1 = .ok (.iload_n 1, 1) := by decide +kernel
theorem d_Mo_was_2 : decode b_Mo_was 2 = .ok (.invokevirtual 150, 3) := by decide +kernel
theorem d_Mo_was_5 : decode b_Mo_was 5 = .ok (.ifCond .eq 30, 3) := by decide +kernel
theorem d_Mo_was_8 : decode b_Mo_was 8 = .ok (.iload_n 2, 1) := by decide +kernel
theorem d_Mo_was_9 : decode b_Mo_was 9 = .ok (.invokestatic 153, 3) := by decide +kernel
theorem d_Mo_was_12 : decode b_Mo_was 12 = .ok (.ifCond .eq 23, 3) := by decide +kernel
theorem d_Mo_was_15 : decode b_Mo_was 15 = .ok (.iload_n 2, 1) := by decide +kernel
theorem d_Mo_was_16 : decode b_Mo_was 16 = .ok (.ifCond .ne 11, 3) := by decide +kernel
theorem d_Mo_was_19 : decode b_Mo_was 19 = .ok (.aload_n 0, 1) := by decide +kernel
theorem d_Mo_was_20 : decode b_Mo_was 20 = .ok (.iload_n 1, 1) := by decide +kernel
theorem d_Mo_was_21 : decode b_Mo_was 21 = .ok (.invokevirtual 304, 3) := by decide +kernel
theorem d_Mo_was_24 : decode b_Mo_was 24 = .ok (.goto 13, 3) := by decide +kernel
theorem d_Mo_was_27 : decode b_Mo_was 27 = .ok (.aload_n 0, 1) := by decide +kernel
theorem d_Mo_was_28 : decode b_Mo_was 28 = .ok (.iload_n 1, 1) := by decide +kernel
theorem d_Mo_was_29 : decode b_Mo_was 29 = .ok (.invokevirtual 307, 3) := by decide +kernel
theorem d_Mo_was_32 : decode b_Mo_was 32 = .ok (.goto 5, 3) := by decide +kernel
theorem d_Mo_was_35 : decode b_Mo_was 35 = .ok (.bipush (-2), 2) := by decide +kernel
theorem d_Mo_was_37 : decode b_Mo_was 37 = .ok (.ireturn, 1) := by decide +kernel
theorem d_Mo_askOf_0 : decode b_Mo_askOf 0 = .ok (.aload_n 0, 1) := by decide +kernel
theorem d_Mo_askOf_1 : decode b_Mo_askOf 1 = .ok (.iload_n 1, 1) := by decide +kernel
theorem d_Mo_askOf_2 : decode b_Mo_askOf 2 = .ok (.invokevirtual 307, 3) := by decide +kernel
theorem d_Mo_askOf_5 : decode b_Mo_askOf 5 = .ok (.istore_n 2, 1) := by decide +kernel
theorem d_Mo_askOf_6 : decode b_Mo_askOf 6 = .ok (.iconst (-1), 1) := by decide +kernel
theorem d_Mo_askOf_7 : decode b_Mo_askOf 7 = .ok (.istore_n 3, 1) := by decide +kernel
theorem d_Mo_askOf_8 : decode b_Mo_askOf 8 = .ok (.iconst 0, 1) := by decide +kernel
theorem d_Mo_askOf_9 : decode b_Mo_askOf 9 = .ok (.istore 4, 2) := by decide +kernel
theorem d_Mo_askOf_11 : decode b_Mo_askOf 11 = .ok (.iconst 0, 1) := by decide +kernel
theorem d_Mo_askOf_12 : decode b_Mo_askOf 12 = .ok (.istore 5, 2) := by decide +kernel
theorem d_Mo_askOf_14 : decode b_Mo_askOf 14 = .ok (.iload 5, 2) := by decide +kernel
theorem d_Mo_askOf_16 : decode b_Mo_askOf 16 = .ok (.bipush 24, 2) := by decide +kernel
theorem d_Mo_askOf_18 : decode b_Mo_askOf 18 = .ok (.if_icmp .ge 165, 3) := by decide +kernel
theorem d_Mo_askOf_21 : decode b_Mo_askOf 21 = .ok (.iconst 0, 1) := by decide +kernel
theorem d_Mo_askOf_22 : decode b_Mo_askOf 22 = .ok (.istore 6, 2) := by decide +kernel
theorem d_Mo_askOf_24 : decode b_Mo_askOf 24 = .ok (.iconst 1, 1) := by decide +kernel
theorem d_Mo_askOf_25 : decode b_Mo_askOf 25 = .ok (.istore 7, 2) := by decide +kernel
theorem d_Mo_askOf_27 : decode b_Mo_askOf 27 = .ok (.iload 7, 2) := by decide +kernel
theorem d_Mo_askOf_29 : decode b_Mo_askOf 29 = .ok (.bipush 10, 2) := by decide +kernel
theorem d_Mo_askOf_31 : decode b_Mo_askOf 31 = .ok (.if_icmp .ge 101, 3) := by decide +kernel
theorem d_Mo_askOf_34 : decode b_Mo_askOf 34 = .ok (.iconst 0, 1) := by decide +kernel
theorem d_Mo_askOf_35 : decode b_Mo_askOf 35 = .ok (.istore 8, 2) := by decide +kernel
theorem d_Mo_askOf_37 : decode b_Mo_askOf 37 = .ok (.iconst 1, 1) := by decide +kernel
theorem d_Mo_askOf_38 : decode b_Mo_askOf 38 = .ok (.istore 9, 2) := by decide +kernel
theorem d_Mo_askOf_40 : decode b_Mo_askOf 40 = .ok (.iload 9, 2) := by decide +kernel
theorem d_Mo_askOf_42 : decode b_Mo_askOf 42 = .ok (.bipush 10, 2) := by decide +kernel
theorem d_Mo_askOf_44 : decode b_Mo_askOf 44 = .ok (.if_icmp .ge 66, 3) := by decide +kernel
theorem d_Mo_askOf_47 : decode b_Mo_askOf 47 = .ok (.iload 8, 2) := by decide +kernel
theorem d_Mo_askOf_49 : decode b_Mo_askOf 49 = .ok (.iload_n 2, 1) := by decide +kernel
theorem d_Mo_askOf_50 : decode b_Mo_askOf 50 = .ok (.iload 7, 2) := by decide +kernel
theorem d_Mo_askOf_52 : decode b_Mo_askOf 52 = .ok (.invokestatic 209, 3) := by decide +kernel
theorem d_Mo_askOf_55 : decode b_Mo_askOf 55 = .ok (.ifCond .eq 45, 3) := by decide +kernel
theorem d_Mo_askOf_58 : decode b_Mo_askOf 58 = .ok (.iload_n 2, 1) := by decide +kernel
theorem d_Mo_askOf_59 : decode b_Mo_askOf 59 = .ok (.iload 9, 2) := by decide +kernel
theorem d_Mo_askOf_61 : decode b_Mo_askOf 61 = .ok (.invokestatic 209, 3) := by decide +kernel
theorem d_Mo_askOf_64 : decode b_Mo_askOf 64 = .ok (.ifCond .eq 36, 3) := by decide +kernel
theorem d_Mo_askOf_67 : decode b_Mo_askOf 67 = .ok (.aload_n 0, 1) := by decide +kernel
theorem d_Mo_askOf_68 : decode b_Mo_askOf 68 = .ok (.getfield 94, 3) := by decide +kernel
theorem d_Mo_askOf_71 : decode b_Mo_askOf 71 = .ok (.bipush 24, 2) := by decide +kernel
theorem d_Mo_askOf_73 : decode b_Mo_askOf 73 = .ok (.iload 7, 2) := by decide +kernel
theorem d_Mo_askOf_75 : decode b_Mo_askOf 75 = .ok (.imul, 1) := by decide +kernel
theorem d_Mo_askOf_76 : decode b_Mo_askOf 76 = .ok (.iload 5, 2) := by decide +kernel
theorem d_Mo_askOf_78 : decode b_Mo_askOf 78 = .ok (.iadd, 1) := by decide +kernel
theorem d_Mo_askOf_79 : decode b_Mo_askOf 79 = .ok (.iaload, 1) := by decide +kernel
theorem d_Mo_askOf_80 : decode b_Mo_askOf 80 = .ok (.aload_n 0, 1) := by decide +kernel
theorem d_Mo_askOf_81 : decode b_Mo_askOf 81 = .ok (.getfield 94, 3) := by decide +kernel
theorem d_Mo_askOf_84 : decode b_Mo_askOf 84 = .ok (.bipush 24, 2) := by decide +kernel
theorem d_Mo_askOf_86 : decode b_Mo_askOf 86 = .ok (.iload 9, 2) := by decide +kernel
theorem d_Mo_askOf_88 : decode b_Mo_askOf 88 = .ok (.imul, 1) := by decide +kernel
theorem d_Mo_askOf_89 : decode b_Mo_askOf 89 = .ok (.iload 5, 2) := by decide +kernel
theorem d_Mo_askOf_91 : decode b_Mo_askOf 91 = .ok (.iadd, 1) := by decide +kernel
theorem d_Mo_askOf_92 : decode b_Mo_askOf 92 = .ok (.iaload, 1) := by decide +kernel
theorem d_Mo_askOf_93 : decode b_Mo_askOf 93 = .ok (.if_icmp .ne 7, 3) := by decide +kernel
theorem d_Mo_askOf_96 : decode b_Mo_askOf 96 = .ok (.iconst 1, 1) := by decide +kernel
theorem d_Mo_askOf_97 : decode b_Mo_askOf 97 = .ok (.goto 4, 3) := by decide +kernel
theorem d_Mo_askOf_100 : decode b_Mo_askOf 100 = .ok (.iconst 0, 1) := by decide +kernel
theorem d_Mo_askOf_101 : decode b_Mo_askOf 101 = .ok (.iadd, 1) := by decide +kernel
theorem d_Mo_askOf_102 : decode b_Mo_askOf 102 = .ok (.istore 8, 2) := by decide +kernel
theorem d_Mo_askOf_104 : decode b_Mo_askOf 104 = .ok (.iinc 9 1, 3) := by decide +kernel
theorem d_Mo_askOf_107 : decode b_Mo_askOf 107 = .ok (.goto (-67), 3) := by decide +kernel
theorem d_Mo_askOf_110 : decode b_Mo_askOf 110 = .ok (.iload 8, 2) := by decide +kernel
theorem d_Mo_askOf_112 : decode b_Mo_askOf 112 = .ok (.iload 6, 2) := by decide +kernel
theorem d_Mo_askOf_114 : decode b_Mo_askOf 114 = .ok (.if_icmp .le 8, 3) := by decide +kernel
theorem d_Mo_askOf_117 : decode b_Mo_askOf 117 = .ok (.iload 8, 2) := by decide +kernel
theorem d_Mo_askOf_119 : decode b_Mo_askOf 119 = .ok (.goto 5, 3) := by decide +kernel
theorem d_Mo_askOf_122 : decode b_Mo_askOf 122 = .ok (.iload 6, 2) := by decide +kernel
theorem d_Mo_askOf_124 : decode b_Mo_askOf 124 = .ok (.istore 6, 2) := by decide +kernel
theorem d_Mo_askOf_126 : decode b_Mo_askOf 126 = .ok (.iinc 7 1, 3) := by decide +kernel
theorem d_Mo_askOf_129 : decode b_Mo_askOf 129 = .ok (.goto (-102), 3) := by decide +kernel
theorem d_Mo_askOf_132 : decode b_Mo_askOf 132 = .ok (.iload_n 3, 1) := by decide +kernel
theorem d_Mo_askOf_133 : decode b_Mo_askOf 133 = .ok (.iconst (-1), 1) := by decide +kernel
theorem d_Mo_askOf_134 : decode b_Mo_askOf 134 = .ok (.if_icmp .eq 10, 3) := by decide +kernel
theorem d_Mo_askOf_137 : decode b_Mo_askOf 137 = .ok (.iload 6, 2) := by decide +kernel
theorem d_Mo_askOf_139 : decode b_Mo_askOf 139 = .ok (.iload 4, 2) := by decide +kernel
theorem d_Mo_askOf_141 : decode b_Mo_askOf 141 = .ok (.if_icmp .ge 7, 3) := by decide +kernel
theorem d_Mo_askOf_144 : decode b_Mo_askOf 144 = .ok (.iconst 1, 1) := by decide +kernel
theorem d_Mo_askOf_145 : decode b_Mo_askOf 145 = .ok (.goto 4, 3) := by decide +kernel
theorem d_Mo_askOf_148 : decode b_Mo_askOf 148 = .ok (.iconst 0, 1) := by decide +kernel
theorem d_Mo_askOf_149 : decode b_Mo_askOf 149 = .ok (.istore 7, 2) := by decide +kernel
theorem d_Mo_askOf_151 : decode b_Mo_askOf 151 = .ok (.iload 7, 2) := by decide +kernel
theorem d_Mo_askOf_153 : decode b_Mo_askOf 153 = .ok (.ifCond .eq 8, 3) := by decide +kernel
theorem d_Mo_askOf_156 : decode b_Mo_askOf 156 = .ok (.iload 5, 2) := by decide +kernel
theorem d_Mo_askOf_158 : decode b_Mo_askOf 158 = .ok (.goto 4, 3) := by decide +kernel
theorem d_Mo_askOf_161 : decode b_Mo_askOf 161 = .ok (.iload_n 3, 1) := by decide +kernel
theorem d_Mo_askOf_162 : decode b_Mo_askOf 162 = .ok (.istore_n 3, 1) := by decide +kernel
theorem d_Mo_askOf_163 : decode b_Mo_askOf 163 = .ok (.iload 7, 2) := by decide +kernel
theorem d_Mo_askOf_165 : decode b_Mo_askOf 165 = .ok (.ifCond .eq 8, 3) := by decide +kernel
theorem d_Mo_askOf_168 : decode b_Mo_askOf 168 = .ok (.iload 6, 2) := by decide +kernel
theorem d_Mo_askOf_170 : decode b_Mo_askOf 170 = .ok (.goto 5, 3) := by decide +kernel
theorem d_Mo_askOf_173 : decode b_Mo_askOf 173 = .ok (.iload 4, 2) := by decide +kernel
theorem d_Mo_askOf_175 : decode b_Mo_askOf 175 = .ok (.istore 4, 2) := by decide +kernel
theorem d_Mo_askOf_177 : decode b_Mo_askOf 177 = .ok (.iinc 5 1, 3) := by decide +kernel
theorem d_Mo_askOf_180 : decode b_Mo_askOf 180 = .ok (.goto (-166), 3) := by decide +kernel
theorem d_Mo_askOf_183 : decode b_Mo_askOf 183 = .ok (.iload_n 3, 1) := by decide +kernel
theorem d_Mo_askOf_184 : decode b_Mo_askOf 184 = .ok (.ireturn, 1) := by decide +kernel
theorem d_Mo_ask_0 : decode b_Mo_ask 0 = .ok (.aload_n 0, 1) := by decide +kernel
theorem d_Mo_ask_1 : decode b_Mo_ask 1 = .ok (.iload_n 1, 1) := by decide +kernel
theorem d_Mo_ask_2 : decode b_Mo_ask 2 = .ok (.invokevirtual 150, 3) := by decide +kernel
theorem d_Mo_ask_5 : decode b_Mo_ask 5 = .ok (.ifCond .eq 11, 3) := by decide +kernel
theorem d_Mo_ask_8 : decode b_Mo_ask 8 = .ok (.aload_n 0, 1) := by decide +kernel
theorem d_Mo_ask_9 : decode b_Mo_ask 9 = .ok (.iload_n 1, 1) := by decide +kernel
theorem d_Mo_ask_10 : decode b_Mo_ask 10 = .ok (.invokevirtual 310, 3) := by decide +kernel
theorem d_Mo_ask_13 : decode b_Mo_ask 13 = .ok (.goto 5, 3) := by decide +kernel
theorem d_Mo_ask_16 : decode b_Mo_ask 16 = .ok (.bipush (-2), 2) := by decide +kernel
theorem d_Mo_ask_18 : decode b_Mo_ask 18 = .ok (.ireturn, 1) := by decide +kernel
theorem d_Mo_lowest_0 : decode b_Mo_lowest 0 = .ok (.lload_n 0, 1) := by decide +kernel
theorem d_Mo_lowest_1 : decode b_Mo_lowest 1 = .ok (.lstore 5, 2) := by decide +kernel
theorem d_Mo_lowest_3 : decode b_Mo_lowest 3 = .ok (.lload_n 2, 1) := by decide +kernel
theorem d_Mo_lowest_4 : decode b_Mo_lowest 4 = .ok (.lstore 7, 2) := by decide +kernel
theorem d_Mo_lowest_6 : decode b_Mo_lowest 6 = .ok (.lload 7, 2) := by decide +kernel
theorem d_Mo_lowest_8 : decode b_Mo_lowest 8 = .ok (.lconst 0, 1) := by decide +kernel
theorem d_Mo_lowest_9 : decode b_Mo_lowest 9 = .ok (.lcmp, 1) := by decide +kernel
theorem d_Mo_lowest_10 : decode b_Mo_lowest 10 = .ok (.ifCond .eq 21, 3) := by decide +kernel
theorem d_Mo_lowest_13 : decode b_Mo_lowest 13 = .ok (.lload 5, 2) := by decide +kernel
theorem d_Mo_lowest_15 : decode b_Mo_lowest 15 = .ok (.lload 7, 2) := by decide +kernel
theorem d_Mo_lowest_17 : decode b_Mo_lowest 17 = .ok (.lrem, 1) := by decide +kernel
theorem d_Mo_lowest_18 : decode b_Mo_lowest 18 = .ok (.lstore 9, 2) := by decide +kernel
theorem d_Mo_lowest_20 : decode b_Mo_lowest 20 = .ok (.lload 7, 2) := by decide +kernel
theorem d_Mo_lowest_22 : decode b_Mo_lowest 22 = .ok (.lstore 5, 2) := by decide +kernel
theorem d_Mo_lowest_24 : decode b_Mo_lowest 24 = .ok (.lload 9, 2) := by decide +kernel
theorem d_Mo_lowest_26 : decode b_Mo_lowest 26 = .ok (.lstore 7, 2) := by decide +kernel
theorem d_Mo_lowest_28 : decode b_Mo_lowest 28 = .ok (.goto (-22), 3) := by decide +kernel
theorem d_Mo_lowest_31 : decode b_Mo_lowest 31 = .ok (.iload 4, 2) := by decide +kernel
theorem d_Mo_lowest_33 : decode b_Mo_lowest 33 = .ok (.ifCond .ne 10, 3) := by decide +kernel
theorem d_Mo_lowest_36 : decode b_Mo_lowest 36 = .ok (.lload_n 0, 1) := by decide +kernel
theorem d_Mo_lowest_37 : decode b_Mo_lowest 37 = .ok (.lload 5, 2) := by decide +kernel
theorem d_Mo_lowest_39 : decode b_Mo_lowest 39 = .ok (.ldiv, 1) := by decide +kernel
theorem d_Mo_lowest_40 : decode b_Mo_lowest 40 = .ok (.goto 7, 3) := by decide +kernel
theorem d_Mo_lowest_43 : decode b_Mo_lowest 43 = .ok (.lload_n 2, 1) := by decide +kernel
theorem d_Mo_lowest_44 : decode b_Mo_lowest 44 = .ok (.lload 5, 2) := by decide +kernel
theorem d_Mo_lowest_46 : decode b_Mo_lowest 46 = .ok (.ldiv, 1) := by decide +kernel
theorem d_Mo_lowest_47 : decode b_Mo_lowest 47 = .ok (.lreturn, 1) := by decide +kernel
theorem d_Mo_chanceOf_0 : decode b_Mo_chanceOf 0 = .ok (.aload_n 0, 1) := by decide +kernel
theorem d_Mo_chanceOf_1 : decode b_Mo_chanceOf 1 = .ok (.invokevirtual 235, 3) := by decide +kernel
theorem d_Mo_chanceOf_4 : decode b_Mo_chanceOf 4 = .ok (.lconst 0, 1) := by decide +kernel
theorem d_Mo_chanceOf_5 : decode b_Mo_chanceOf 5 = .ok (.lstore 4, 2) := by decide +kernel
theorem d_Mo_chanceOf_7 : decode b_Mo_chanceOf 7 = .ok (.iconst 0, 1) := by decide +kernel
theorem d_Mo_chanceOf_8 : decode b_Mo_chanceOf 8 = .ok (.istore 6, 2) := by decide +kernel
theorem d_Mo_chanceOf_10 : decode b_Mo_chanceOf 10 = .ok (.iload 6, 2) := by decide +kernel
theorem d_Mo_chanceOf_12 : decode b_Mo_chanceOf 12 = .ok (.iconst 1, 1) := by decide +kernel
theorem d_Mo_chanceOf_13 : decode b_Mo_chanceOf 13 = .ok (.aload_n 0, 1) := by decide +kernel
theorem d_Mo_chanceOf_14 : decode b_Mo_chanceOf 14 = .ok (.getfield 171, 3) := by decide +kernel
theorem d_Mo_chanceOf_17 : decode b_Mo_chanceOf 17 = .ok (.ishl, 1) := by decide +kernel
theorem d_Mo_chanceOf_18 : decode b_Mo_chanceOf 18 = .ok (.if_icmp .ge 92, 3) := by decide +kernel
theorem d_Mo_chanceOf_21 : decode b_Mo_chanceOf 21 = .ok (.lconst 1, 1) := by decide +kernel
theorem d_Mo_chanceOf_22 : decode b_Mo_chanceOf 22 = .ok (.lstore 7, 2) := by decide +kernel
theorem d_Mo_chanceOf_24 : decode b_Mo_chanceOf 24 = .ok (.iconst 0, 1) := by decide +kernel
theorem d_Mo_chanceOf_25 : decode b_Mo_chanceOf 25 = .ok (.istore 9, 2) := by decide +kernel
theorem d_Mo_chanceOf_27 : decode b_Mo_chanceOf 27 = .ok (.iload 9, 2) := by decide +kernel
theorem d_Mo_chanceOf_29 : decode b_Mo_chanceOf 29 = .ok (.aload_n 0, 1) := by decide +kernel
theorem d_Mo_chanceOf_30 : decode b_Mo_chanceOf 30 = .ok (.getfield 171, 3) := by decide +kernel
theorem d_Mo_chanceOf_33 : decode b_Mo_chanceOf 33 = .ok (.if_icmp .ge 34, 3) := by decide +kernel
theorem d_Mo_chanceOf_36 : decode b_Mo_chanceOf 36 = .ok (.lload 7, 2) := by decide +kernel
theorem d_Mo_chanceOf_38 : decode b_Mo_chanceOf 38 = .ok (.iload 6, 2) := by decide +kernel
theorem d_Mo_chanceOf_40 : decode b_Mo_chanceOf 40 = .ok (.iload 9, 2) := by decide +kernel
theorem d_Mo_chanceOf_42 : decode b_Mo_chanceOf 42 = .ok (.invokestatic 209, 3) := by decide +kernel
theorem d_Mo_chanceOf_45 : decode b_Mo_chanceOf 45 = .ok (.ifCond .eq 11, 3) := by decide +kernel
theorem d_Mo_chanceOf_48 : decode b_Mo_chanceOf 48 = .ok (.bipush 16, 2) := by decide +kernel
theorem d_Mo_chanceOf_50 : decode b_Mo_chanceOf 50 = .ok (.iload_n 1, 1) := by decide +kernel
theorem d_Mo_chanceOf_51 : decode b_Mo_chanceOf 51 = .ok (.isub, 1) := by decide +kernel
theorem d_Mo_chanceOf_52 : decode b_Mo_chanceOf 52 = .ok (.i2l, 1) := by decide +kernel
theorem d_Mo_chanceOf_53 : decode b_Mo_chanceOf 53 = .ok (.goto 5, 3) := by decide +kernel
theorem d_Mo_chanceOf_56 : decode b_Mo_chanceOf 56 = .ok (.iload_n 1, 1) := by decide +kernel
theorem d_Mo_chanceOf_57 : decode b_Mo_chanceOf 57 = .ok (.i2l, 1) := by decide +kernel
theorem d_Mo_chanceOf_58 : decode b_Mo_chanceOf 58 = .ok (.lmul, 1) := by decide +kernel
theorem d_Mo_chanceOf_59 : decode b_Mo_chanceOf 59 = .ok (.lstore 7, 2) := by decide +kernel
theorem d_Mo_chanceOf_61 : decode b_Mo_chanceOf 61 = .ok (.iinc 9 1, 3) := by decide +kernel
theorem d_Mo_chanceOf_64 : decode b_Mo_chanceOf 64 = .ok (.goto (-37), 3) := by decide +kernel
theorem d_Mo_chanceOf_67 : decode b_Mo_chanceOf 67 = .ok (.lload 7, 2) := by decide +kernel
theorem d_Mo_chanceOf_69 : decode b_Mo_chanceOf 69 = .ok (.lconst 0, 1) := by decide +kernel
theorem d_Mo_chanceOf_70 : decode b_Mo_chanceOf 70 = .ok (.lcmp, 1) := by decide +kernel
theorem d_Mo_chanceOf_71 : decode b_Mo_chanceOf 71 = .ok (.ifCond .le 33, 3) := by decide +kernel
theorem d_Mo_chanceOf_74 : decode b_Mo_chanceOf 74 = .ok (.aload_n 0, 1) := by decide +kernel
theorem d_Mo_chanceOf_75 : decode b_Mo_chanceOf 75 = .ok (.iload 6, 2) := by decide +kernel
theorem d_Mo_chanceOf_77 : decode b_Mo_chanceOf 77 = .ok (.putfield 186, 3) := by decide +kernel
theorem d_Mo_chanceOf_80 : decode b_Mo_chanceOf 80 = .ok (.aload_n 0, 1) := by decide +kernel
theorem d_Mo_chanceOf_81 : decode b_Mo_chanceOf 81 = .ok (.invokevirtual 238, 3) := by decide +kernel
theorem d_Mo_chanceOf_84 : decode b_Mo_chanceOf 84 = .ok (.lload 4, 2) := by decide +kernel
theorem d_Mo_chanceOf_86 : decode b_Mo_chanceOf 86 = .ok (.aload_n 0, 1) := by decide +kernel
theorem d_Mo_chanceOf_87 : decode b_Mo_chanceOf 87 = .ok (.getfield 58, 3) := by decide +kernel
theorem d_Mo_chanceOf_90 : decode b_Mo_chanceOf 90 = .ok (.iload_n 2, 1) := by decide +kernel
theorem d_Mo_chanceOf_91 : decode b_Mo_chanceOf 91 = .ok (.iaload, 1) := by decide +kernel
theorem d_Mo_chanceOf_92 : decode b_Mo_chanceOf 92 = .ok (.ifCond .le 8, 3) := by decide +kernel
theorem d_Mo_chanceOf_95 : decode b_Mo_chanceOf 95 = .ok (.lload 7, 2) := by decide +kernel
theorem d_Mo_chanceOf_97 : decode b_Mo_chanceOf 97 = .ok (.goto 4, 3) := by decide +kernel
theorem d_Mo_chanceOf_100 : decode b_Mo_chanceOf 100 = .ok (.lconst 0, 1) := by decide +kernel
theorem d_Mo_chanceOf_101 : decode b_Mo_chanceOf 101 = .ok (.ladd, 1) := by decide +kernel
theorem d_Mo_chanceOf_102 : decode b_Mo_chanceOf 102 = .ok (.lstore 4, 2) := by decide +kernel
theorem d_Mo_chanceOf_104 : decode b_Mo_chanceOf 104 = .ok (.iinc 6 1, 3) := by decide +kernel
theorem d_Mo_chanceOf_107 : decode b_Mo_chanceOf 107 = .ok (.goto (-97), 3) := by decide +kernel
theorem d_Mo_chanceOf_110 : decode b_Mo_chanceOf 110 = .ok (.lload 4, 2) := by decide +kernel
theorem d_Mo_chanceOf_112 : decode b_Mo_chanceOf 112 = .ok (.lconst 1, 1) := by decide +kernel
theorem d_Mo_chanceOf_113 : decode b_Mo_chanceOf 113 = .ok (.iconst 4, 1) := by decide +kernel
theorem d_Mo_chanceOf_114 : decode b_Mo_chanceOf 114 = .ok (.aload_n 0, 1) := by decide +kernel
theorem d_Mo_chanceOf_115 : decode b_Mo_chanceOf 115 = .ok (.getfield 171, 3) := by decide +kernel
theorem d_Mo_chanceOf_118 : decode b_Mo_chanceOf 118 = .ok (.imul, 1) := by decide +kernel
theorem d_Mo_chanceOf_119 : decode b_Mo_chanceOf 119 = .ok (.lshl, 1) := by decide +kernel
theorem d_Mo_chanceOf_120 : decode b_Mo_chanceOf 120 = .ok (.iload_n 3, 1) := by decide +kernel
theorem d_Mo_chanceOf_121 : decode b_Mo_chanceOf 121 = .ok (.invokestatic 313, 3) := by decide +kernel
theorem d_Mo_chanceOf_124 : decode b_Mo_chanceOf 124 = .ok (.lreturn, 1) := by decide +kernel
theorem d_Mo_no_0 : decode b_Mo_no 0 = .ok (.ldc2_w 113, 3) := by decide +kernel
theorem d_Mo_no_3 : decode b_Mo_no 3 = .ok (.iload_n 0, 1) := by decide +kernel
theorem d_Mo_no_4 : decode b_Mo_no 4 = .ok (.i2l, 1) := by decide +kernel
theorem d_Mo_no_5 : decode b_Mo_no 5 = .ok (.lsub, 1) := by decide +kernel
theorem d_Mo_no_6 : decode b_Mo_no 6 = .ok (.lreturn, 1) := by decide +kernel
theorem d_Mo_chance_0 : decode b_Mo_chance 0 = .ok (.iload_n 1, 1) := by decide +kernel
theorem d_Mo_chance_1 : decode b_Mo_chance 1 = .ok (.iconst 0, 1) := by decide +kernel
theorem d_Mo_chance_2 : decode b_Mo_chance 2 = .ok (.bipush 16, 2) := by decide +kernel
theorem d_Mo_chance_4 : decode b_Mo_chance 4 = .ok (.invokestatic 115, 3) := by decide +kernel
theorem d_Mo_chance_7 : decode b_Mo_chance 7 = .ok (.ifCond .eq 28, 3) := by decide +kernel
theorem d_Mo_chance_10 : decode b_Mo_chance 10 = .ok (.aload_n 0, 1) := by decide +kernel
theorem d_Mo_chance_11 : decode b_Mo_chance 11 = .ok (.iload_n 2, 1) := by decide +kernel
theorem d_Mo_chance_12 : decode b_Mo_chance 12 = .ok (.invokevirtual 150, 3) := by decide +kernel
theorem d_Mo_chance_15 : decode b_Mo_chance 15 = .ok (.ifCond .eq 20, 3) := by decide +kernel
theorem d_Mo_chance_18 : decode b_Mo_chance 18 = .ok (.iload_n 3, 1) := by decide +kernel
theorem d_Mo_chance_19 : decode b_Mo_chance 19 = .ok (.invokestatic 153, 3) := by decide +kernel
theorem d_Mo_chance_22 : decode b_Mo_chance 22 = .ok (.ifCond .eq 13, 3) := by decide +kernel
theorem d_Mo_chance_25 : decode b_Mo_chance 25 = .ok (.aload_n 0, 1) := by decide +kernel
theorem d_Mo_chance_26 : decode b_Mo_chance 26 = .ok (.iload_n 1, 1) := by decide +kernel
theorem d_Mo_chance_27 : decode b_Mo_chance 27 = .ok (.iload_n 2, 1) := by decide +kernel
theorem d_Mo_chance_28 : decode b_Mo_chance 28 = .ok (.iload_n 3, 1) := by decide +kernel
theorem d_Mo_chance_29 : decode b_Mo_chance 29 = .ok (.invokevirtual 317, 3) := by decide +kernel
theorem d_Mo_chance_32 : decode b_Mo_chance 32 = .ok (.goto 8, 3) := by decide +kernel
theorem d_Mo_chance_35 : decode b_Mo_chance 35 = .ok (.bipush (-2), 2) := by decide +kernel
theorem d_Mo_chance_37 : decode b_Mo_chance 37 = .ok (.invokestatic 321, 3) := by decide +kernel
theorem d_Mo_chance_40 : decode b_Mo_chance 40 = .ok (.lreturn, 1) := by decide +kernel
theorem d_Mo_yearsOf_0 : decode b_Mo_yearsOf 0 = .ok (.aload_n 0, 1) := by decide +kernel
theorem d_Mo_yearsOf_1 : decode b_Mo_yearsOf 1 = .ok (.invokevirtual 235, 3) := by decide +kernel
theorem d_Mo_yearsOf_4 : decode b_Mo_yearsOf 4 = .ok (.iload_n 1, 1) := by decide +kernel
theorem d_Mo_yearsOf_5 : decode b_Mo_yearsOf 5 = .ok (.istore 4, 2) := by decide +kernel
theorem d_Mo_yearsOf_7 : decode b_Mo_yearsOf 7 = .ok (.aload_n 0, 1) := by decide +kernel
theorem d_Mo_yearsOf_8 : decode b_Mo_yearsOf 8 = .ok (.aload_n 0, 1) := by decide +kernel
theorem d_Mo_yearsOf_9 : decode b_Mo_yearsOf 9 = .ok (.getfield 127, 3) := by decide +kernel
theorem d_Mo_yearsOf_12 : decode b_Mo_yearsOf 12 = .ok (.ifCond .ne 7, 3) := by decide +kernel
theorem d_Mo_yearsOf_15 : decode b_Mo_yearsOf 15 = .ok (.iconst 0, 1) := by decide +kernel
theorem d_Mo_yearsOf_16 : decode b_Mo_yearsOf 16 = .ok (.goto 4, 3) := by decide +kernel
theorem d_Mo_yearsOf_19 : decode b_Mo_yearsOf 19 = .ok (.iload_n 2, 1) := by decide +kernel
theorem d_Mo_yearsOf_20 : decode b_Mo_yearsOf 20 = .ok (.putfield 183, 3) := by decide +kernel
theorem d_Mo_yearsOf_23 : decode b_Mo_yearsOf 23 = .ok (.iconst 0, 1) := by decide +kernel
theorem d_Mo_yearsOf_24 : decode b_Mo_yearsOf 24 = .ok (.istore 5, 2) := by decide +kernel
theorem d_Mo_yearsOf_26 : decode b_Mo_yearsOf 26 = .ok (.iload 5, 2) := by decide +kernel
theorem d_Mo_yearsOf_28 : decode b_Mo_yearsOf 28 = .ok (.aload_n 0, 1) := by decide +kernel
theorem d_Mo_yearsOf_29 : decode b_Mo_yearsOf 29 = .ok (.getfield 183, 3) := by decide +kernel
theorem d_Mo_yearsOf_32 : decode b_Mo_yearsOf 32 = .ok (.if_icmp .ge 65, 3) := by decide +kernel
theorem d_Mo_yearsOf_35 : decode b_Mo_yearsOf 35 = .ok (.ldc_w 325, 3) := by decide +kernel
theorem d_Mo_yearsOf_38 : decode b_Mo_yearsOf 38 = .ok (.iload 4, 2) := by decide +kernel
theorem d_Mo_yearsOf_40 : decode b_Mo_yearsOf 40 = .ok (.imul, 1) := by decide +kernel
theorem d_Mo_yearsOf_41 : decode b_Mo_yearsOf 41 = .ok (.sipush 12345, 3) := by decide +kernel
theorem d_Mo_yearsOf_44 : decode b_Mo_yearsOf 44 = .ok (.iadd, 1) := by decide +kernel
theorem d_Mo_yearsOf_45 : decode b_Mo_yearsOf 45 = .ok (.istore 4, 2) := by decide +kernel
theorem d_Mo_yearsOf_47 : decode b_Mo_yearsOf 47 = .ok (.aload_n 0, 1) := by decide +kernel
theorem d_Mo_yearsOf_48 : decode b_Mo_yearsOf 48 = .ok (.getfield 37, 3) := by decide +kernel
theorem d_Mo_yearsOf_51 : decode b_Mo_yearsOf 51 = .ok (.iload 5, 2) := by decide +kernel
theorem d_Mo_yearsOf_53 : decode b_Mo_yearsOf 53 = .ok (.iload 4, 2) := by decide +kernel
theorem d_Mo_yearsOf_55 : decode b_Mo_yearsOf 55 = .ok (.bipush 16, 2) := by decide +kernel
theorem d_Mo_yearsOf_57 : decode b_Mo_yearsOf 57 = .ok (.iushr, 1) := by decide +kernel
theorem d_Mo_yearsOf_58 : decode b_Mo_yearsOf 58 = .ok (.bipush 24, 2) := by decide +kernel
theorem d_Mo_yearsOf_60 : decode b_Mo_yearsOf 60 = .ok (.irem, 1) := by decide +kernel
theorem d_Mo_yearsOf_61 : decode b_Mo_yearsOf 61 = .ok (.iastore, 1) := by decide +kernel
theorem d_Mo_yearsOf_62 : decode b_Mo_yearsOf 62 = .ok (.ldc_w 325, 3) := by decide +kernel
theorem d_Mo_yearsOf_65 : decode b_Mo_yearsOf 65 = .ok (.iload 4, 2) := by decide +kernel
theorem d_Mo_yearsOf_67 : decode b_Mo_yearsOf 67 = .ok (.imul, 1) := by decide +kernel
theorem d_Mo_yearsOf_68 : decode b_Mo_yearsOf 68 = .ok (.sipush 12345, 3) := by decide +kernel
theorem d_Mo_yearsOf_71 : decode b_Mo_yearsOf 71 = .ok (.iadd, 1) := by decide +kernel
theorem d_Mo_yearsOf_72 : decode b_Mo_yearsOf 72 = .ok (.istore 4, 2) := by decide +kernel
theorem d_Mo_yearsOf_74 : decode b_Mo_yearsOf 74 = .ok (.aload_n 0, 1) := by decide +kernel
theorem d_Mo_yearsOf_75 : decode b_Mo_yearsOf 75 = .ok (.getfield 40, 3) := by decide +kernel
theorem d_Mo_yearsOf_78 : decode b_Mo_yearsOf 78 = .ok (.iload 5, 2) := by decide +kernel
theorem d_Mo_yearsOf_80 : decode b_Mo_yearsOf 80 = .ok (.iload 4, 2) := by decide +kernel
theorem d_Mo_yearsOf_82 : decode b_Mo_yearsOf 82 = .ok (.bipush 16, 2) := by decide +kernel
theorem d_Mo_yearsOf_84 : decode b_Mo_yearsOf 84 = .ok (.iushr, 1) := by decide +kernel
theorem d_Mo_yearsOf_85 : decode b_Mo_yearsOf 85 = .ok (.aload_n 0, 1) := by decide +kernel
theorem d_Mo_yearsOf_86 : decode b_Mo_yearsOf 86 = .ok (.getfield 127, 3) := by decide +kernel
theorem d_Mo_yearsOf_89 : decode b_Mo_yearsOf 89 = .ok (.irem, 1) := by decide +kernel
theorem d_Mo_yearsOf_90 : decode b_Mo_yearsOf 90 = .ok (.iastore, 1) := by decide +kernel
theorem d_Mo_yearsOf_91 : decode b_Mo_yearsOf 91 = .ok (.iinc 5 1, 3) := by decide +kernel
theorem d_Mo_yearsOf_94 : decode b_Mo_yearsOf 94 = .ok (.goto (-68), 3) := by decide +kernel
theorem d_Mo_yearsOf_97 : decode b_Mo_yearsOf 97 = .ok (.aload_n 0, 1) := by decide +kernel
theorem d_Mo_yearsOf_98 : decode b_Mo_yearsOf 98 = .ok (.invokevirtual 238, 3) := by decide +kernel
theorem d_Mo_yearsOf_101 : decode b_Mo_yearsOf 101 = .ok (.iload_n 3, 1) := by decide +kernel
theorem d_Mo_yearsOf_102 : decode b_Mo_yearsOf 102 = .ok (.ifCond .ne 10, 3) := by decide +kernel
theorem d_Mo_yearsOf_105 : decode b_Mo_yearsOf 105 = .ok (.aload_n 0, 1) := by decide +kernel
theorem d_Mo_yearsOf_106 : decode b_Mo_yearsOf 106 = .ok (.invokevirtual 282, 3) := by decide +kernel
theorem d_Mo_yearsOf_109 : decode b_Mo_yearsOf 109 = .ok (.goto 7, 3) := by decide +kernel
theorem d_Mo_yearsOf_112 : decode b_Mo_yearsOf 112 = .ok (.aload_n 0, 1) := by decide +kernel
theorem d_Mo_yearsOf_113 : decode b_Mo_yearsOf 113 = .ok (.invokevirtual 248, 3) := by decide +kernel
theorem d_Mo_yearsOf_116 : decode b_Mo_yearsOf 116 = .ok (.ireturn, 1) := by decide +kernel
end
section
/-! decode rows (printed) -/
theorem d_Mo_years_0 : decode b_Mo_years 0 = .ok (.iload_n 2, 1) := by decide +kernel
theorem d_Mo_years_1 : decode b_Mo_years 1 = .ok (.iconst 0, 1) := by decide +kernel
theorem d_Mo_years_2 : decode b_Mo_years 2 = .ok (.bipush 8, 2) := by decide +kernel
theorem d_Mo_years_4 : decode b_Mo_years 4 = .ok (.invokestatic 115, 3) := by decide +kernel
theorem d_Mo_years_7 : decode b_Mo_years 7 = .ok (.ifCond .eq 20, 3) := by decide +kernel
theorem d_Mo_years_10 : decode b_Mo_years 10 = .ok (.iload_n 3, 1) := by decide +kernel
theorem d_Mo_years_11 : decode b_Mo_years 11 = .ok (.invokestatic 153, 3) := by decide +kernel
theorem d_Mo_years_14 : decode b_Mo_years 14 = .ok (.ifCond .eq 13, 3) := by decide +kernel
theorem d_Mo_years_17 : decode b_Mo_years 17 = .ok (.aload_n 0, 1) := by decide +kernel
theorem d_Mo_years_18 : decode b_Mo_years 18 = .ok (.iload_n 1, 1) := by decide +kernel
theorem d_Mo_years_19 : decode b_Mo_years 19 = .ok (.iload_n 2, 1) := by decide +kernel
theorem d_Mo_years_20 : decode b_Mo_years 20 = .ok (.iload_n 3, 1) := by decide +kernel
theorem d_Mo_years_21 : decode b_Mo_years 21 = .ok (.invokevirtual 326, 3) := by decide +kernel
theorem d_Mo_years_24 : decode b_Mo_years 24 = .ok (.goto 5, 3) := by decide +kernel
theorem d_Mo_years_27 : decode b_Mo_years 27 = .ok (.bipush (-2), 2) := by decide +kernel
theorem d_Mo_years_29 : decode b_Mo_years 29 = .ok (.ireturn, 1) := by decide +kernel
theorem d_Mo_sheet_0 : decode b_Mo_sheet 0 = .ok (.iload_n 1, 1) := by decide +kernel
theorem d_Mo_sheet_1 : decode b_Mo_sheet 1 = .ok (.invokestatic 174, 3) := by decide +kernel
theorem d_Mo_sheet_4 : decode b_Mo_sheet 4 = .ok (.ifCond .eq 18, 3) := by decide +kernel
theorem d_Mo_sheet_7 : decode b_Mo_sheet 7 = .ok (.iload_n 2, 1) := by decide +kernel
theorem d_Mo_sheet_8 : decode b_Mo_sheet 8 = .ok (.iconst 0, 1) := by decide +kernel
theorem d_Mo_sheet_9 : decode b_Mo_sheet 9 = .ok (.iconst 2, 1) := by decide +kernel
theorem d_Mo_sheet_10 : decode b_Mo_sheet 10 = .ok (.invokestatic 115, 3) := by decide +kernel
theorem d_Mo_sheet_13 : decode b_Mo_sheet 13 = .ok (.ifCond .eq 9, 3) := by decide +kernel
theorem d_Mo_sheet_16 : decode b_Mo_sheet 16 = .ok (.iload_n 3, 1) := by decide +kernel
theorem d_Mo_sheet_17 : decode b_Mo_sheet 17 = .ok (.bipush 60, 2) := by decide +kernel
theorem d_Mo_sheet_19 : decode b_Mo_sheet 19 = .ok (.if_icmp .le 6, 3) := by decide +kernel
theorem d_Mo_sheet_22 : decode b_Mo_sheet 22 = .ok (.bipush (-2), 2) := by decide +kernel
theorem d_Mo_sheet_24 : decode b_Mo_sheet 24 = .ok (.ireturn, 1) := by decide +kernel
theorem d_Mo_sheet_25 : decode b_Mo_sheet 25 = .ok (.iload_n 3, 1) := by decide +kernel
theorem d_Mo_sheet_26 : decode b_Mo_sheet 26 = .ok (.ifCond .ge 9, 3) := by decide +kernel
theorem d_Mo_sheet_29 : decode b_Mo_sheet 29 = .ok (.aload_n 0, 1) := by decide +kernel
theorem d_Mo_sheet_30 : decode b_Mo_sheet 30 = .ok (.iconst 5, 1) := by decide +kernel
theorem d_Mo_sheet_31 : decode b_Mo_sheet 31 = .ok (.invokevirtual 177, 3) := by decide +kernel
theorem d_Mo_sheet_34 : decode b_Mo_sheet 34 = .ok (.ireturn, 1) := by decide +kernel
theorem d_Mo_sheet_35 : decode b_Mo_sheet 35 = .ok (.aload_n 0, 1) := by decide +kernel
theorem d_Mo_sheet_36 : decode b_Mo_sheet 36 = .ok (.getfield 97, 3) := by decide +kernel
theorem d_Mo_sheet_39 : decode b_Mo_sheet 39 = .ok (.iload_n 1, 1) := by decide +kernel
theorem d_Mo_sheet_40 : decode b_Mo_sheet 40 = .ok (.iconst 1, 1) := by decide +kernel
theorem d_Mo_sheet_41 : decode b_Mo_sheet 41 = .ok (.bastore, 1) := by decide +kernel
theorem d_Mo_sheet_42 : decode b_Mo_sheet 42 = .ok (.aload_n 0, 1) := by decide +kernel
theorem d_Mo_sheet_43 : decode b_Mo_sheet 43 = .ok (.getfield 101, 3) := by decide +kernel
theorem d_Mo_sheet_46 : decode b_Mo_sheet 46 = .ok (.iload_n 1, 1) := by decide +kernel
theorem d_Mo_sheet_47 : decode b_Mo_sheet 47 = .ok (.iload_n 2, 1) := by decide +kernel
theorem d_Mo_sheet_48 : decode b_Mo_sheet 48 = .ok (.iastore, 1) := by decide +kernel
theorem d_Mo_sheet_49 : decode b_Mo_sheet 49 = .ok (.aload_n 0, 1) := by decide +kernel
theorem d_Mo_sheet_50 : decode b_Mo_sheet 50 = .ok (.getfield 104, 3) := by decide +kernel
theorem d_Mo_sheet_53 : decode b_Mo_sheet 53 = .ok (.iload_n 1, 1) := by decide +kernel
theorem d_Mo_sheet_54 : decode b_Mo_sheet 54 = .ok (.iload_n 3, 1) := by decide +kernel
theorem d_Mo_sheet_55 : decode b_Mo_sheet 55 = .ok (.iastore, 1) := by decide +kernel
theorem d_Mo_sheet_56 : decode b_Mo_sheet 56 = .ok (.iconst 0, 1) := by decide +kernel
theorem d_Mo_sheet_57 : decode b_Mo_sheet 57 = .ok (.istore 4, 2) := by decide +kernel
theorem d_Mo_sheet_59 : decode b_Mo_sheet 59 = .ok (.iload 4, 2) := by decide +kernel
theorem d_Mo_sheet_61 : decode b_Mo_sheet 61 = .ok (.bipush 60, 2) := by decide +kernel
theorem d_Mo_sheet_63 : decode b_Mo_sheet 63 = .ok (.if_icmp .ge 22, 3) := by decide +kernel
theorem d_Mo_sheet_66 : decode b_Mo_sheet 66 = .ok (.aload_n 0, 1) := by decide +kernel
theorem d_Mo_sheet_67 : decode b_Mo_sheet 67 = .ok (.getfield 107, 3) := by decide +kernel
theorem d_Mo_sheet_70 : decode b_Mo_sheet 70 = .ok (.bipush 60, 2) := by decide +kernel
theorem d_Mo_sheet_72 : decode b_Mo_sheet 72 = .ok (.iload_n 1, 1) := by decide +kernel
theorem d_Mo_sheet_73 : decode b_Mo_sheet 73 = .ok (.imul, 1) := by decide +kernel
theorem d_Mo_sheet_74 : decode b_Mo_sheet 74 = .ok (.iload 4, 2) := by decide +kernel
theorem d_Mo_sheet_76 : decode b_Mo_sheet 76 = .ok (.iadd, 1) := by decide +kernel
theorem d_Mo_sheet_77 : decode b_Mo_sheet 77 = .ok (.iconst 0, 1) := by decide +kernel
theorem d_Mo_sheet_78 : decode b_Mo_sheet 78 = .ok (.iastore, 1) := by decide +kernel
theorem d_Mo_sheet_79 : decode b_Mo_sheet 79 = .ok (.iinc 4 1, 3) := by decide +kernel
theorem d_Mo_sheet_82 : decode b_Mo_sheet 82 = .ok (.goto (-23), 3) := by decide +kernel
theorem d_Mo_sheet_85 : decode b_Mo_sheet 85 = .ok (.iload_n 3, 1) := by decide +kernel
theorem d_Mo_sheet_86 : decode b_Mo_sheet 86 = .ok (.ireturn, 1) := by decide +kernel
theorem d_Mo_lose_0 : decode b_Mo_lose 0 = .ok (.iload_n 1, 1) := by decide +kernel
theorem d_Mo_lose_1 : decode b_Mo_lose 1 = .ok (.invokestatic 174, 3) := by decide +kernel
theorem d_Mo_lose_4 : decode b_Mo_lose 4 = .ok (.ifCond .ne 6, 3) := by decide +kernel
theorem d_Mo_lose_7 : decode b_Mo_lose 7 = .ok (.bipush (-2), 2) := by decide +kernel
theorem d_Mo_lose_9 : decode b_Mo_lose 9 = .ok (.ireturn, 1) := by decide +kernel
theorem d_Mo_lose_10 : decode b_Mo_lose 10 = .ok (.aload_n 0, 1) := by decide +kernel
theorem d_Mo_lose_11 : decode b_Mo_lose 11 = .ok (.getfield 97, 3) := by decide +kernel
theorem d_Mo_lose_14 : decode b_Mo_lose 14 = .ok (.iload_n 1, 1) := by decide +kernel
theorem d_Mo_lose_15 : decode b_Mo_lose 15 = .ok (.baload, 1) := by decide +kernel
theorem d_Mo_lose_16 : decode b_Mo_lose 16 = .ok (.ifCond .ne 9, 3) := by decide +kernel
theorem d_Mo_lose_19 : decode b_Mo_lose 19 = .ok (.aload_n 0, 1) := by decide +kernel
theorem d_Mo_lose_20 : decode b_Mo_lose 20 = .ok (.iconst 1, 1) := by decide +kernel
theorem d_Mo_lose_21 : decode b_Mo_lose 21 = .ok (.invokevirtual 177, 3) := by decide +kernel
theorem d_Mo_lose_24 : decode b_Mo_lose 24 = .ok (.ireturn, 1) := by decide +kernel
theorem d_Mo_lose_25 : decode b_Mo_lose 25 = .ok (.aload_n 0, 1) := by decide +kernel
theorem d_Mo_lose_26 : decode b_Mo_lose 26 = .ok (.getfield 97, 3) := by decide +kernel
theorem d_Mo_lose_29 : decode b_Mo_lose 29 = .ok (.iload_n 1, 1) := by decide +kernel
theorem d_Mo_lose_30 : decode b_Mo_lose 30 = .ok (.iconst 0, 1) := by decide +kernel
theorem d_Mo_lose_31 : decode b_Mo_lose 31 = .ok (.bastore, 1) := by decide +kernel
theorem d_Mo_lose_32 : decode b_Mo_lose 32 = .ok (.aload_n 0, 1) := by decide +kernel
theorem d_Mo_lose_33 : decode b_Mo_lose 33 = .ok (.getfield 104, 3) := by decide +kernel
theorem d_Mo_lose_36 : decode b_Mo_lose 36 = .ok (.iload_n 1, 1) := by decide +kernel
theorem d_Mo_lose_37 : decode b_Mo_lose 37 = .ok (.iaload, 1) := by decide +kernel
theorem d_Mo_lose_38 : decode b_Mo_lose 38 = .ok (.ireturn, 1) := by decide +kernel
theorem d_Mo_lacks_0 : decode b_Mo_lacks 0 = .ok (.aload_n 0, 1) := by decide +kernel
theorem d_Mo_lacks_1 : decode b_Mo_lacks 1 = .ok (.getfield 97, 3) := by decide +kernel
theorem d_Mo_lacks_4 : decode b_Mo_lacks 4 = .ok (.iload_n 1, 1) := by decide +kernel
theorem d_Mo_lacks_5 : decode b_Mo_lacks 5 = .ok (.baload, 1) := by decide +kernel
theorem d_Mo_lacks_6 : decode b_Mo_lacks 6 = .ok (.ifCond .ne 7, 3) := by decide +kernel
theorem d_Mo_lacks_9 : decode b_Mo_lacks 9 = .ok (.iconst 1, 1) := by decide +kernel
theorem d_Mo_lacks_10 : decode b_Mo_lacks 10 = .ok (.goto 38, 3) := by decide +kernel
theorem d_Mo_lacks_13 : decode b_Mo_lacks 13 = .ok (.aload_n 0, 1) := by decide +kernel
theorem d_Mo_lacks_14 : decode b_Mo_lacks 14 = .ok (.getfield 101, 3) := by decide +kernel
theorem d_Mo_lacks_17 : decode b_Mo_lacks 17 = .ok (.iload_n 1, 1) := by decide +kernel
theorem d_Mo_lacks_18 : decode b_Mo_lacks 18 = .ok (.iaload, 1) := by decide +kernel
theorem d_Mo_lacks_19 : decode b_Mo_lacks 19 = .ok (.iload_n 2, 1) := by decide +kernel
theorem d_Mo_lacks_20 : decode b_Mo_lacks 20 = .ok (.if_icmp .eq 7, 3) := by decide +kernel
theorem d_Mo_lacks_23 : decode b_Mo_lacks 23 = .ok (.iconst 3, 1) := by decide +kernel
theorem d_Mo_lacks_24 : decode b_Mo_lacks 24 = .ok (.goto 24, 3) := by decide +kernel
theorem d_Mo_lacks_27 : decode b_Mo_lacks 27 = .ok (.iload_n 3, 1) := by decide +kernel
theorem d_Mo_lacks_28 : decode b_Mo_lacks 28 = .ok (.iconst 0, 1) := by decide +kernel
theorem d_Mo_lacks_29 : decode b_Mo_lacks 29 = .ok (.aload_n 0, 1) := by decide +kernel
theorem d_Mo_lacks_30 : decode b_Mo_lacks 30 = .ok (.getfield 104, 3) := by decide +kernel
theorem d_Mo_lacks_33 : decode b_Mo_lacks 33 = .ok (.iload_n 1, 1) := by decide +kernel
theorem d_Mo_lacks_34 : decode b_Mo_lacks 34 = .ok (.iaload, 1) := by decide +kernel
theorem d_Mo_lacks_35 : decode b_Mo_lacks 35 = .ok (.iconst 1, 1) := by decide +kernel
theorem d_Mo_lacks_36 : decode b_Mo_lacks 36 = .ok (.isub, 1) := by decide +kernel
theorem d_Mo_lacks_37 : decode b_Mo_lacks 37 = .ok (.invokestatic 115, 3) := by decide +kernel
theorem d_Mo_lacks_40 : decode b_Mo_lacks 40 = .ok (.ifCond .eq 7, 3) := by decide +kernel
theorem d_Mo_lacks_43 : decode b_Mo_lacks 43 = .ok (.iconst 0, 1) := by decide +kernel
theorem d_Mo_lacks_44 : decode b_Mo_lacks 44 = .ok (.goto 4, 3) := by decide +kernel
theorem d_Mo_lacks_47 : decode b_Mo_lacks 47 = .ok (.iconst 2, 1) := by decide +kernel
theorem d_Mo_lacks_48 : decode b_Mo_lacks 48 = .ok (.ireturn, 1) := by decide +kernel
theorem d_Mo_keep_0 : decode b_Mo_keep 0 = .ok (.aload_n 0, 1) := by decide +kernel
theorem d_Mo_keep_1 : decode b_Mo_keep 1 = .ok (.getfield 107, 3) := by decide +kernel
theorem d_Mo_keep_4 : decode b_Mo_keep 4 = .ok (.bipush 60, 2) := by decide +kernel
theorem d_Mo_keep_6 : decode b_Mo_keep 6 = .ok (.iload_n 1, 1) := by decide +kernel
theorem d_Mo_keep_7 : decode b_Mo_keep 7 = .ok (.imul, 1) := by decide +kernel
theorem d_Mo_keep_8 : decode b_Mo_keep 8 = .ok (.iload_n 2, 1) := by decide +kernel
theorem d_Mo_keep_9 : decode b_Mo_keep 9 = .ok (.iadd, 1) := by decide +kernel
theorem d_Mo_keep_10 : decode b_Mo_keep 10 = .ok (.aload_n 0, 1) := by decide +kernel
theorem d_Mo_keep_11 : decode b_Mo_keep 11 = .ok (.getfield 101, 3) := by decide +kernel
theorem d_Mo_keep_14 : decode b_Mo_keep 14 = .ok (.iload_n 1, 1) := by decide +kernel
theorem d_Mo_keep_15 : decode b_Mo_keep 15 = .ok (.iaload, 1) := by decide +kernel
theorem d_Mo_keep_16 : decode b_Mo_keep 16 = .ok (.ifCond .ne 8, 3) := by decide +kernel
theorem d_Mo_keep_19 : decode b_Mo_keep 19 = .ok (.iload_n 3, 1) := by decide +kernel
theorem d_Mo_keep_20 : decode b_Mo_keep 20 = .ok (.i2b, 1) := by decide +kernel
theorem d_Mo_keep_21 : decode b_Mo_keep 21 = .ok (.goto 19, 3) := by decide +kernel
theorem d_Mo_keep_24 : decode b_Mo_keep 24 = .ok (.aload_n 0, 1) := by decide +kernel
theorem d_Mo_keep_25 : decode b_Mo_keep 25 = .ok (.getfield 101, 3) := by decide +kernel
theorem d_Mo_keep_28 : decode b_Mo_keep 28 = .ok (.iload_n 1, 1) := by decide +kernel
theorem d_Mo_keep_29 : decode b_Mo_keep 29 = .ok (.iaload, 1) := by decide +kernel
theorem d_Mo_keep_30 : decode b_Mo_keep 30 = .ok (.iconst 1, 1) := by decide +kernel
theorem d_Mo_keep_31 : decode b_Mo_keep 31 = .ok (.if_icmp .ne 8, 3) := by decide +kernel
theorem d_Mo_keep_34 : decode b_Mo_keep 34 = .ok (.iload_n 3, 1) := by decide +kernel
theorem d_Mo_keep_35 : decode b_Mo_keep 35 = .ok (.i2s, 1) := by decide +kernel
theorem d_Mo_keep_36 : decode b_Mo_keep 36 = .ok (.goto 4, 3) := by decide +kernel
theorem d_Mo_keep_39 : decode b_Mo_keep 39 = .ok (.iload_n 3, 1) := by decide +kernel
theorem d_Mo_keep_40 : decode b_Mo_keep 40 = .ok (.iastore, 1) := by decide +kernel
theorem d_Mo_keep_41 : decode b_Mo_keep 41 = .ok (.return_, 1) := by decide +kernel
theorem d_Mo_put_0 : decode b_Mo_put 0 = .ok (.iload_n 1, 1) := by decide +kernel
theorem d_Mo_put_1 : decode b_Mo_put 1 = .ok (.invokestatic 174, 3) := by decide +kernel
theorem d_Mo_put_4 : decode b_Mo_put 4 = .ok (.ifCond .eq 12, 3) := by decide +kernel
theorem d_Mo_put_7 : decode b_Mo_put 7 = .ok (.iload_n 2, 1) := by decide +kernel
theorem d_Mo_put_8 : decode b_Mo_put 8 = .ok (.iconst 0, 1) := by decide +kernel
theorem d_Mo_put_9 : decode b_Mo_put 9 = .ok (.iconst 2, 1) := by decide +kernel
theorem d_Mo_put_10 : decode b_Mo_put 10 = .ok (.invokestatic 115, 3) := by decide +kernel
theorem d_Mo_put_13 : decode b_Mo_put 13 = .ok (.ifCond .ne 6, 3) := by decide +kernel
theorem d_Mo_put_16 : decode b_Mo_put 16 = .ok (.bipush (-2), 2) := by decide +kernel
theorem d_Mo_put_18 : decode b_Mo_put 18 = .ok (.ireturn, 1) := by decide +kernel
theorem d_Mo_put_19 : decode b_Mo_put 19 = .ok (.aload_n 0, 1) := by decide +kernel
theorem d_Mo_put_20 : decode b_Mo_put 20 = .ok (.iload_n 1, 1) := by decide +kernel
theorem d_Mo_put_21 : decode b_Mo_put 21 = .ok (.iload_n 2, 1) := by decide +kernel
theorem d_Mo_put_22 : decode b_Mo_put 22 = .ok (.iload_n 3, 1) := by decide +kernel
theorem d_Mo_put_23 : decode b_Mo_put 23 = .ok (.invokevirtual 332, 3) := by decide +kernel
theorem d_Mo_put_26 : decode b_Mo_put 26 = .ok (.istore 5, 2) := by decide +kernel
theorem d_Mo_put_28 : decode b_Mo_put 28 = .ok (.iload 5, 2) := by decide +kernel
theorem d_Mo_put_30 : decode b_Mo_put 30 = .ok (.ifCond .le 10, 3) := by decide +kernel
theorem d_Mo_put_33 : decode b_Mo_put 33 = .ok (.aload_n 0, 1) := by decide +kernel
theorem d_Mo_put_34 : decode b_Mo_put 34 = .ok (.iload 5, 2) := by decide +kernel
theorem d_Mo_put_36 : decode b_Mo_put 36 = .ok (.invokevirtual 177, 3) := by decide +kernel
theorem d_Mo_put_39 : decode b_Mo_put 39 = .ok (.ireturn, 1) := by decide +kernel
theorem d_Mo_put_40 : decode b_Mo_put 40 = .ok (.aload_n 0, 1) := by decide +kernel
theorem d_Mo_put_41 : decode b_Mo_put 41 = .ok (.iload_n 1, 1) := by decide +kernel
theorem d_Mo_put_42 : decode b_Mo_put 42 = .ok (.iload_n 3, 1) := by decide +kernel
theorem d_Mo_put_43 : decode b_Mo_put 43 = .ok (.iload 4, 2) := by decide +kernel
theorem d_Mo_put_45 : decode b_Mo_put 45 = .ok (.invokevirtual 335, 3) := by decide +kernel
theorem d_Mo_put_48 : decode b_Mo_put 48 = .ok (.iconst 1, 1) := by decide +kernel
theorem d_Mo_put_49 : decode b_Mo_put 49 = .ok (.ireturn, 1) := by decide +kernel
theorem d_Mo_get_0 : decode b_Mo_get 0 = .ok (.iload_n 1, 1) := by decide +kernel
theorem d_Mo_get_1 : decode b_Mo_get 1 = .ok (.invokestatic 174, 3) := by decide +kernel
theorem d_Mo_get_4 : decode b_Mo_get 4 = .ok (.ifCond .eq 12, 3) := by decide +kernel
theorem d_Mo_get_7 : decode b_Mo_get 7 = .ok (.iload_n 2, 1) := by decide +kernel
theorem d_Mo_get_8 : decode b_Mo_get 8 = .ok (.iconst 0, 1) := by decide +kernel
theorem d_Mo_get_9 : decode b_Mo_get 9 = .ok (.iconst 2, 1) := by decide +kernel
theorem d_Mo_get_10 : decode b_Mo_get 10 = .ok (.invokestatic 115, 3) := by decide +kernel
theorem d_Mo_get_13 : decode b_Mo_get 13 = .ok (.ifCond .ne 7, 3) := by decide +kernel
theorem d_Mo_get_16 : decode b_Mo_get 16 = .ok (.ldc_w 339, 3) := by decide +kernel
theorem d_Mo_get_19 : decode b_Mo_get 19 = .ok (.ireturn, 1) := by decide +kernel
theorem d_Mo_get_20 : decode b_Mo_get 20 = .ok (.aload_n 0, 1) := by decide +kernel
theorem d_Mo_get_21 : decode b_Mo_get 21 = .ok (.iload_n 1, 1) := by decide +kernel
theorem d_Mo_get_22 : decode b_Mo_get 22 = .ok (.iload_n 2, 1) := by decide +kernel
theorem d_Mo_get_23 : decode b_Mo_get 23 = .ok (.iload_n 3, 1) := by decide +kernel
theorem d_Mo_get_24 : decode b_Mo_get 24 = .ok (.invokevirtual 332, 3) := by decide +kernel
theorem d_Mo_get_27 : decode b_Mo_get 27 = .ok (.istore 4, 2) := by decide +kernel
theorem d_Mo_get_29 : decode b_Mo_get 29 = .ok (.iload 4, 2) := by decide +kernel
theorem d_Mo_get_31 : decode b_Mo_get 31 = .ok (.ifCond .le 13, 3) := by decide +kernel
theorem d_Mo_get_34 : decode b_Mo_get 34 = .ok (.aload_n 0, 1) := by decide +kernel
theorem d_Mo_get_35 : decode b_Mo_get 35 = .ok (.iload 4, 2) := by decide +kernel
theorem d_Mo_get_37 : decode b_Mo_get 37 = .ok (.putfield 329, 3) := by decide +kernel
theorem d_Mo_get_40 : decode b_Mo_get 40 = .ok (.ldc_w 339, 3) := by decide +kernel
theorem d_Mo_get_43 : decode b_Mo_get 43 = .ok (.ireturn, 1) := by decide +kernel
theorem d_Mo_get_44 : decode b_Mo_get 44 = .ok (.aload_n 0, 1) := by decide +kernel
theorem d_Mo_get_45 : decode b_Mo_get 45 = .ok (.getfield 107, 3) := by decide +kernel
theorem d_Mo_get_48 : decode b_Mo_get 48 = .ok (.bipush 60, 2) := by decide +kernel
theorem d_Mo_get_50 : decode b_Mo_get 50 = .ok (.iload_n 1, 1) := by decide +kernel
theorem d_Mo_get_51 : decode b_Mo_get 51 = .ok (.imul, 1) := by decide +kernel
theorem d_Mo_get_52 : decode b_Mo_get 52 = .ok (.iload_n 3, 1) := by decide +kernel
theorem d_Mo_get_53 : decode b_Mo_get 53 = .ok (.iadd, 1) := by decide +kernel
theorem d_Mo_get_54 : decode b_Mo_get 54 = .ok (.iaload, 1) := by decide +kernel
theorem d_Mo_get_55 : decode b_Mo_get 55 = .ok (.ireturn, 1) := by decide +kernel
theorem d_Mo_copy_0 : decode b_Mo_copy 0 = .ok (.iload_n 1, 1) := by decide +kernel
theorem d_Mo_copy_1 : decode b_Mo_copy 1 = .ok (.invokestatic 174, 3) := by decide +kernel
theorem d_Mo_copy_4 : decode b_Mo_copy 4 = .ok (.ifCond .eq 10, 3) := by decide +kernel
theorem d_Mo_copy_7 : decode b_Mo_copy 7 = .ok (.iload_n 3, 1) := by decide +kernel
theorem d_Mo_copy_8 : decode b_Mo_copy 8 = .ok (.invokestatic 174, 3) := by decide +kernel
theorem d_Mo_copy_11 : decode b_Mo_copy 11 = .ok (.ifCond .ne 6, 3) := by decide +kernel
theorem d_Mo_copy_14 : decode b_Mo_copy 14 = .ok (.bipush (-2), 2) := by decide +kernel
theorem d_Mo_copy_16 : decode b_Mo_copy 16 = .ok (.ireturn, 1) := by decide +kernel
theorem d_Mo_copy_17 : decode b_Mo_copy 17 = .ok (.aload_n 0, 1) := by decide +kernel
theorem d_Mo_copy_18 : decode b_Mo_copy 18 = .ok (.getfield 97, 3) := by decide +kernel
theorem d_Mo_copy_21 : decode b_Mo_copy 21 = .ok (.iload_n 1, 1) := by decide +kernel
theorem d_Mo_copy_22 : decode b_Mo_copy 22 = .ok (.baload, 1) := by decide +kernel
theorem d_Mo_copy_23 : decode b_Mo_copy 23 = .ok (.ifCond .eq 12, 3) := by decide +kernel
theorem d_Mo_copy_26 : decode b_Mo_copy 26 = .ok (.aload_n 0, 1) := by decide +kernel
theorem d_Mo_copy_27 : decode b_Mo_copy 27 = .ok (.getfield 97, 3) := by decide +kernel
theorem d_Mo_copy_30 : decode b_Mo_copy 30 = .ok (.iload_n 3, 1) := by decide +kernel
theorem d_Mo_copy_31 : decode b_Mo_copy 31 = .ok (.baload, 1) := by decide +kernel
theorem d_Mo_copy_32 : decode b_Mo_copy 32 = .ok (.ifCond .ne 9, 3) := by decide +kernel
theorem d_Mo_copy_35 : decode b_Mo_copy 35 = .ok (.aload_n 0, 1) := by decide +kernel
theorem d_Mo_copy_36 : decode b_Mo_copy 36 = .ok (.iconst 1, 1) := by decide +kernel
theorem d_Mo_copy_37 : decode b_Mo_copy 37 = .ok (.invokevirtual 177, 3) := by decide +kernel
theorem d_Mo_copy_40 : decode b_Mo_copy 40 = .ok (.ireturn, 1) := by decide +kernel
theorem d_Mo_copy_41 : decode b_Mo_copy 41 = .ok (.aload_n 0, 1) := by decide +kernel
theorem d_Mo_copy_42 : decode b_Mo_copy 42 = .ok (.getfield 101, 3) := by decide +kernel
theorem d_Mo_copy_45 : decode b_Mo_copy 45 = .ok (.iload_n 1, 1) := by decide +kernel
theorem d_Mo_copy_46 : decode b_Mo_copy 46 = .ok (.iaload, 1) := by decide +kernel
theorem d_Mo_copy_47 : decode b_Mo_copy 47 = .ok (.aload_n 0, 1) := by decide +kernel
theorem d_Mo_copy_48 : decode b_Mo_copy 48 = .ok (.getfield 101, 3) := by decide +kernel
theorem d_Mo_copy_51 : decode b_Mo_copy 51 = .ok (.iload_n 3, 1) := by decide +kernel
theorem d_Mo_copy_52 : decode b_Mo_copy 52 = .ok (.iaload, 1) := by decide +kernel
theorem d_Mo_copy_53 : decode b_Mo_copy 53 = .ok (.if_icmp .eq 9, 3) := by decide +kernel
theorem d_Mo_copy_56 : decode b_Mo_copy 56 = .ok (.aload_n 0, 1) := by decide +kernel
theorem d_Mo_copy_57 : decode b_Mo_copy 57 = .ok (.iconst 4, 1) := by decide +kernel
theorem d_Mo_copy_58 : decode b_Mo_copy 58 = .ok (.invokevirtual 177, 3) := by decide +kernel
theorem d_Mo_copy_61 : decode b_Mo_copy 61 = .ok (.ireturn, 1) := by decide +kernel
theorem d_Mo_copy_62 : decode b_Mo_copy 62 = .ok (.iload_n 2, 1) := by decide +kernel
theorem d_Mo_copy_63 : decode b_Mo_copy 63 = .ok (.ifCond .lt 48, 3) := by decide +kernel
theorem d_Mo_copy_66 : decode b_Mo_copy 66 = .ok (.iload 4, 2) := by decide +kernel
theorem d_Mo_copy_68 : decode b_Mo_copy 68 = .ok (.ifCond .lt 43, 3) := by decide +kernel
theorem d_Mo_copy_71 : decode b_Mo_copy 71 = .ok (.iload 5, 2) := by decide +kernel
theorem d_Mo_copy_73 : decode b_Mo_copy 73 = .ok (.ifCond .lt 38, 3) := by decide +kernel
theorem d_Mo_copy_76 : decode b_Mo_copy 76 = .ok (.iload_n 2, 1) := by decide +kernel
theorem d_Mo_copy_77 : decode b_Mo_copy 77 = .ok (.i2l, 1) := by decide +kernel
theorem d_Mo_copy_78 : decode b_Mo_copy 78 = .ok (.iload 5, 2) := by decide +kernel
theorem d_Mo_copy_80 : decode b_Mo_copy 80 = .ok (.i2l, 1) := by decide +kernel
theorem d_Mo_copy_81 : decode b_Mo_copy 81 = .ok (.ladd, 1) := by decide +kernel
theorem d_Mo_copy_82 : decode b_Mo_copy 82 = .ok (.aload_n 0, 1) := by decide +kernel
theorem d_Mo_copy_83 : decode b_Mo_copy 83 = .ok (.getfield 104, 3) := by decide +kernel
theorem d_Mo_copy_86 : decode b_Mo_copy 86 = .ok (.iload_n 1, 1) := by decide +kernel
theorem d_Mo_copy_87 : decode b_Mo_copy 87 = .ok (.iaload, 1) := by decide +kernel
theorem d_Mo_copy_88 : decode b_Mo_copy 88 = .ok (.i2l, 1) := by decide +kernel
theorem d_Mo_copy_89 : decode b_Mo_copy 89 = .ok (.lcmp, 1) := by decide +kernel
theorem d_Mo_copy_90 : decode b_Mo_copy 90 = .ok (.ifCond .gt 21, 3) := by decide +kernel
theorem d_Mo_copy_93 : decode b_Mo_copy 93 = .ok (.iload 4, 2) := by decide +kernel
theorem d_Mo_copy_95 : decode b_Mo_copy 95 = .ok (.i2l, 1) := by decide +kernel
theorem d_Mo_copy_96 : decode b_Mo_copy 96 = .ok (.iload 5, 2) := by decide +kernel
theorem d_Mo_copy_98 : decode b_Mo_copy 98 = .ok (.i2l, 1) := by decide +kernel
theorem d_Mo_copy_99 : decode b_Mo_copy 99 = .ok (.ladd, 1) := by decide +kernel
theorem d_Mo_copy_100 : decode b_Mo_copy 100 = .ok (.aload_n 0, 1) := by decide +kernel
theorem d_Mo_copy_101 : decode b_Mo_copy 101 = .ok (.getfield 104, 3) := by decide +kernel
theorem d_Mo_copy_104 : decode b_Mo_copy 104 = .ok (.iload_n 3, 1) := by decide +kernel
theorem d_Mo_copy_105 : decode b_Mo_copy 105 = .ok (.iaload, 1) := by decide +kernel
theorem d_Mo_copy_106 : decode b_Mo_copy 106 = .ok (.i2l, 1) := by decide +kernel
theorem d_Mo_copy_107 : decode b_Mo_copy 107 = .ok (.lcmp, 1) := by decide +kernel
theorem d_Mo_copy_108 : decode b_Mo_copy 108 = .ok (.ifCond .le 9, 3) := by decide +kernel
theorem d_Mo_copy_111 : decode b_Mo_copy 111 = .ok (.aload_n 0, 1) := by decide +kernel
theorem d_Mo_copy_112 : decode b_Mo_copy 112 = .ok (.iconst 2, 1) := by decide +kernel
theorem d_Mo_copy_113 : decode b_Mo_copy 113 = .ok (.invokevirtual 177, 3) := by decide +kernel
theorem d_Mo_copy_116 : decode b_Mo_copy 116 = .ok (.ireturn, 1) := by decide +kernel
theorem d_Mo_copy_117 : decode b_Mo_copy 117 = .ok (.iconst 0, 1) := by decide +kernel
theorem d_Mo_copy_118 : decode b_Mo_copy 118 = .ok (.istore 6, 2) := by decide +kernel
theorem d_Mo_copy_120 : decode b_Mo_copy 120 = .ok (.iload 6, 2) := by decide +kernel
theorem d_Mo_copy_122 : decode b_Mo_copy 122 = .ok (.iload 5, 2) := by decide +kernel
theorem d_Mo_copy_124 : decode b_Mo_copy 124 = .ok (.if_icmp .ge 30, 3) := by decide +kernel
theorem d_Mo_copy_127 : decode b_Mo_copy 127 = .ok (.aload_n 0, 1) := by decide +kernel
theorem d_Mo_copy_128 : decode b_Mo_copy 128 = .ok (.getfield 110, 3) := by decide +kernel
theorem d_Mo_copy_131 : decode b_Mo_copy 131 = .ok (.iload 6, 2) := by decide +kernel
theorem d_Mo_copy_133 : decode b_Mo_copy 133 = .ok (.aload_n 0, 1) := by decide +kernel
theorem d_Mo_copy_134 : decode b_Mo_copy 134 = .ok (.getfield 107, 3) := by decide +kernel
theorem d_Mo_copy_137 : decode b_Mo_copy 137 = .ok (.bipush 60, 2) := by decide +kernel
theorem d_Mo_copy_139 : decode b_Mo_copy 139 = .ok (.iload_n 1, 1) := by decide +kernel
theorem d_Mo_copy_140 : decode b_Mo_copy 140 = .ok (.imul, 1) := by decide +kernel
theorem d_Mo_copy_141 : decode b_Mo_copy 141 = .ok (.iload_n 2, 1) := by decide +kernel
theorem d_Mo_copy_142 : decode b_Mo_copy 142 = .ok (.iadd, 1) := by decide +kernel
theorem d_Mo_copy_143 : decode b_Mo_copy 143 = .ok (.iload 6, 2) := by decide +kernel
theorem d_Mo_copy_145 : decode b_Mo_copy 145 = .ok (.iadd, 1) := by decide +kernel
theorem d_Mo_copy_146 : decode b_Mo_copy 146 = .ok (.iaload, 1) := by decide +kernel
theorem d_Mo_copy_147 : decode b_Mo_copy 147 = .ok (.iastore, 1) := by decide +kernel
theorem d_Mo_copy_148 : decode b_Mo_copy 148 = .ok (.iinc 6 1, 3) := by decide +kernel
theorem d_Mo_copy_151 : decode b_Mo_copy 151 = .ok (.goto (-31), 3) := by decide +kernel
theorem d_Mo_copy_154 : decode b_Mo_copy 154 = .ok (.iconst 0, 1) := by decide +kernel
theorem d_Mo_copy_155 : decode b_Mo_copy 155 = .ok (.istore 6, 2) := by decide +kernel
theorem d_Mo_copy_157 : decode b_Mo_copy 157 = .ok (.iload 6, 2) := by decide +kernel
theorem d_Mo_copy_159 : decode b_Mo_copy 159 = .ok (.iload 5, 2) := by decide +kernel
theorem d_Mo_copy_161 : decode b_Mo_copy 161 = .ok (.if_icmp .ge 31, 3) := by decide +kernel
theorem d_Mo_copy_164 : decode b_Mo_copy 164 = .ok (.aload_n 0, 1) := by decide +kernel
theorem d_Mo_copy_165 : decode b_Mo_copy 165 = .ok (.getfield 107, 3) := by decide +kernel
theorem d_Mo_copy_168 : decode b_Mo_copy 168 = .ok (.bipush 60, 2) := by decide +kernel
theorem d_Mo_copy_170 : decode b_Mo_copy 170 = .ok (.iload_n 3, 1) := by decide +kernel
theorem d_Mo_copy_171 : decode b_Mo_copy 171 = .ok (.imul, 1) := by decide +kernel
theorem d_Mo_copy_172 : decode b_Mo_copy 172 = .ok (.iload 4, 2) := by decide +kernel
theorem d_Mo_copy_174 : decode b_Mo_copy 174 = .ok (.iadd, 1) := by decide +kernel
theorem d_Mo_copy_175 : decode b_Mo_copy 175 = .ok (.iload 6, 2) := by decide +kernel
theorem d_Mo_copy_177 : decode b_Mo_copy 177 = .ok (.iadd, 1) := by decide +kernel
theorem d_Mo_copy_178 : decode b_Mo_copy 178 = .ok (.aload_n 0, 1) := by decide +kernel
theorem d_Mo_copy_179 : decode b_Mo_copy 179 = .ok (.getfield 110, 3) := by decide +kernel
theorem d_Mo_copy_182 : decode b_Mo_copy 182 = .ok (.iload 6, 2) := by decide +kernel
theorem d_Mo_copy_184 : decode b_Mo_copy 184 = .ok (.iaload, 1) := by decide +kernel
theorem d_Mo_copy_185 : decode b_Mo_copy 185 = .ok (.iastore, 1) := by decide +kernel
theorem d_Mo_copy_186 : decode b_Mo_copy 186 = .ok (.iinc 6 1, 3) := by decide +kernel
theorem d_Mo_copy_189 : decode b_Mo_copy 189 = .ok (.goto (-32), 3) := by decide +kernel
theorem d_Mo_copy_192 : decode b_Mo_copy 192 = .ok (.iconst 1, 1) := by decide +kernel
theorem d_Mo_copy_193 : decode b_Mo_copy 193 = .ok (.ireturn, 1) := by decide +kernel
theorem d_Mo_write_0 : decode b_Mo_write 0 = .ok (.aload_n 0, 1) := by decide +kernel
theorem d_Mo_write_1 : decode b_Mo_write 1 = .ok (.iload_n 1, 1) := by decide +kernel
theorem d_Mo_write_2 : decode b_Mo_write 2 = .ok (.invokevirtual 150, 3) := by decide +kernel
theorem d_Mo_write_5 : decode b_Mo_write 5 = .ok (.ifCond .eq 10, 3) := by decide +kernel
theorem d_Mo_write_8 : decode b_Mo_write 8 = .ok (.iload_n 2, 1) := by decide +kernel
theorem d_Mo_write_9 : decode b_Mo_write 9 = .ok (.invokestatic 174, 3) := by decide +kernel
theorem d_Mo_write_12 : decode b_Mo_write 12 = .ok (.ifCond .ne 6, 3) := by decide +kernel
theorem d_Mo_write_15 : decode b_Mo_write 15 = .ok (.bipush (-2), 2) := by decide +kernel
theorem d_Mo_write_17 : decode b_Mo_write 17 = .ok (.ireturn, 1) := by decide +kernel
theorem d_Mo_write_18 : decode b_Mo_write 18 = .ok (.aload_n 0, 1) := by decide +kernel
theorem d_Mo_write_19 : decode b_Mo_write 19 = .ok (.getfield 97, 3) := by decide +kernel
theorem d_Mo_write_22 : decode b_Mo_write 22 = .ok (.iload_n 2, 1) := by decide +kernel
theorem d_Mo_write_23 : decode b_Mo_write 23 = .ok (.baload, 1) := by decide +kernel
theorem d_Mo_write_24 : decode b_Mo_write 24 = .ok (.ifCond .ne 9, 3) := by decide +kernel
theorem d_Mo_write_27 : decode b_Mo_write 27 = .ok (.aload_n 0, 1) := by decide +kernel
theorem d_Mo_write_28 : decode b_Mo_write 28 = .ok (.iconst 1, 1) := by decide +kernel
theorem d_Mo_write_29 : decode b_Mo_write 29 = .ok (.invokevirtual 177, 3) := by decide +kernel
theorem d_Mo_write_32 : decode b_Mo_write 32 = .ok (.ireturn, 1) := by decide +kernel
theorem d_Mo_write_33 : decode b_Mo_write 33 = .ok (.aload_n 0, 1) := by decide +kernel
theorem d_Mo_write_34 : decode b_Mo_write 34 = .ok (.invokevirtual 241, 3) := by decide +kernel
theorem d_Mo_write_37 : decode b_Mo_write 37 = .ok (.iconst 0, 1) := by decide +kernel
theorem d_Mo_write_38 : decode b_Mo_write 38 = .ok (.istore_n 3, 1) := by decide +kernel
theorem d_Mo_write_39 : decode b_Mo_write 39 = .ok (.iload_n 3, 1) := by decide +kernel
theorem d_Mo_write_40 : decode b_Mo_write 40 = .ok (.aload_n 0, 1) := by decide +kernel
theorem d_Mo_write_41 : decode b_Mo_write 41 = .ok (.getfield 104, 3) := by decide +kernel
theorem d_Mo_write_44 : decode b_Mo_write 44 = .ok (.iload_n 2, 1) := by decide +kernel
theorem d_Mo_write_45 : decode b_Mo_write 45 = .ok (.iaload, 1) := by decide +kernel
theorem d_Mo_write_46 : decode b_Mo_write 46 = .ok (.if_icmp .ge 32, 3) := by decide +kernel
theorem d_Mo_write_49 : decode b_Mo_write 49 = .ok (.iload_n 3, 1) := by decide +kernel
theorem d_Mo_write_50 : decode b_Mo_write 50 = .ok (.bipush 24, 2) := by decide +kernel
theorem d_Mo_write_52 : decode b_Mo_write 52 = .ok (.if_icmp .ge 26, 3) := by decide +kernel
theorem d_Mo_write_55 : decode b_Mo_write 55 = .ok (.aload_n 0, 1) := by decide +kernel
theorem d_Mo_write_56 : decode b_Mo_write 56 = .ok (.iload_n 2, 1) := by decide +kernel
theorem d_Mo_write_57 : decode b_Mo_write 57 = .ok (.iload_n 3, 1) := by decide +kernel
theorem d_Mo_write_58 : decode b_Mo_write 58 = .ok (.aload_n 0, 1) := by decide +kernel
theorem d_Mo_write_59 : decode b_Mo_write 59 = .ok (.getfield 64, 3) := by decide +kernel
theorem d_Mo_write_62 : decode b_Mo_write 62 = .ok (.bipush 8, 2) := by decide +kernel
theorem d_Mo_write_64 : decode b_Mo_write 64 = .ok (.iload_n 3, 1) := by decide +kernel
theorem d_Mo_write_65 : decode b_Mo_write 65 = .ok (.imul, 1) := by decide +kernel
theorem d_Mo_write_66 : decode b_Mo_write 66 = .ok (.iload_n 1, 1) := by decide +kernel
theorem d_Mo_write_67 : decode b_Mo_write 67 = .ok (.iadd, 1) := by decide +kernel
theorem d_Mo_write_68 : decode b_Mo_write 68 = .ok (.iaload, 1) := by decide +kernel
theorem d_Mo_write_69 : decode b_Mo_write 69 = .ok (.invokevirtual 335, 3) := by decide +kernel
theorem d_Mo_write_72 : decode b_Mo_write 72 = .ok (.iinc 3 1, 3) := by decide +kernel
theorem d_Mo_write_75 : decode b_Mo_write 75 = .ok (.goto (-36), 3) := by decide +kernel
theorem d_Mo_write_78 : decode b_Mo_write 78 = .ok (.iload_n 3, 1) := by decide +kernel
theorem d_Mo_write_79 : decode b_Mo_write 79 = .ok (.ireturn, 1) := by decide +kernel
theorem d_Mo_feesAll_0 : decode b_Mo_feesAll 0 = .ok (.iconst 0, 1) := by decide +kernel
theorem d_Mo_feesAll_1 : decode b_Mo_feesAll 1 = .ok (.istore_n 1, 1) := by decide +kernel
theorem d_Mo_feesAll_2 : decode b_Mo_feesAll 2 = .ok (.iconst 0, 1) := by decide +kernel
theorem d_Mo_feesAll_3 : decode b_Mo_feesAll 3 = .ok (.istore_n 2, 1) := by decide +kernel
theorem d_Mo_feesAll_4 : decode b_Mo_feesAll 4 = .ok (.iload_n 2, 1) := by decide +kernel
theorem d_Mo_feesAll_5 : decode b_Mo_feesAll 5 = .ok (.aload_n 0, 1) := by decide +kernel
theorem d_Mo_feesAll_6 : decode b_Mo_feesAll 6 = .ok (.getfield 127, 3) := by decide +kernel
theorem d_Mo_feesAll_9 : decode b_Mo_feesAll 9 = .ok (.if_icmp .ge 18, 3) := by decide +kernel
theorem d_Mo_feesAll_12 : decode b_Mo_feesAll 12 = .ok (.iload_n 1, 1) := by decide +kernel
theorem d_Mo_feesAll_13 : decode b_Mo_feesAll 13 = .ok (.aload_n 0, 1) := by decide +kernel
theorem d_Mo_feesAll_14 : decode b_Mo_feesAll 14 = .ok (.getfield 52, 3) := by decide +kernel
theorem d_Mo_feesAll_17 : decode b_Mo_feesAll 17 = .ok (.iload_n 2, 1) := by decide +kernel
theorem d_Mo_feesAll_18 : decode b_Mo_feesAll 18 = .ok (.iaload, 1) := by decide +kernel
theorem d_Mo_feesAll_19 : decode b_Mo_feesAll 19 = .ok (.iadd, 1) := by decide +kernel
theorem d_Mo_feesAll_20 : decode b_Mo_feesAll 20 = .ok (.istore_n 1, 1) := by decide +kernel
theorem d_Mo_feesAll_21 : decode b_Mo_feesAll 21 = .ok (.iinc 2 1, 3) := by decide +kernel
theorem d_Mo_feesAll_24 : decode b_Mo_feesAll 24 = .ok (.goto (-20), 3) := by decide +kernel
theorem d_Mo_feesAll_27 : decode b_Mo_feesAll 27 = .ok (.iload_n 1, 1) := by decide +kernel
theorem d_Mo_feesAll_28 : decode b_Mo_feesAll 28 = .ok (.ireturn, 1) := by decide +kernel
theorem d_Mo_sumOf_0 : decode b_Mo_sumOf 0 = .ok (.aload_n 0, 1) := by decide +kernel
theorem d_Mo_sumOf_1 : decode b_Mo_sumOf 1 = .ok (.invokevirtual 241, 3) := by decide +kernel
theorem d_Mo_sumOf_4 : decode b_Mo_sumOf 4 = .ok (.iload_n 1, 1) := by decide +kernel
theorem d_Mo_sumOf_5 : decode b_Mo_sumOf 5 = .ok (.ifCond .ne 10, 3) := by decide +kernel
theorem d_Mo_sumOf_8 : decode b_Mo_sumOf 8 = .ok (.aload_n 0, 1) := by decide +kernel
theorem d_Mo_sumOf_9 : decode b_Mo_sumOf 9 = .ok (.getfield 127, 3) := by decide +kernel
theorem d_Mo_sumOf_12 : decode b_Mo_sumOf 12 = .ok (.goto 31, 3) := by decide +kernel
theorem d_Mo_sumOf_15 : decode b_Mo_sumOf 15 = .ok (.iload_n 1, 1) := by decide +kernel
theorem d_Mo_sumOf_16 : decode b_Mo_sumOf 16 = .ok (.iconst 1, 1) := by decide +kernel
theorem d_Mo_sumOf_17 : decode b_Mo_sumOf 17 = .ok (.if_icmp .ne 10, 3) := by decide +kernel
theorem d_Mo_sumOf_20 : decode b_Mo_sumOf 20 = .ok (.aload_n 0, 1) := by decide +kernel
theorem d_Mo_sumOf_21 : decode b_Mo_sumOf 21 = .ok (.getfield 131, 3) := by decide +kernel
theorem d_Mo_sumOf_24 : decode b_Mo_sumOf 24 = .ok (.goto 19, 3) := by decide +kernel
theorem d_Mo_sumOf_27 : decode b_Mo_sumOf 27 = .ok (.iload_n 1, 1) := by decide +kernel
theorem d_Mo_sumOf_28 : decode b_Mo_sumOf 28 = .ok (.iconst 5, 1) := by decide +kernel
theorem d_Mo_sumOf_29 : decode b_Mo_sumOf 29 = .ok (.if_icmp .ne 10, 3) := by decide +kernel
theorem d_Mo_sumOf_32 : decode b_Mo_sumOf 32 = .ok (.aload_n 0, 1) := by decide +kernel
theorem d_Mo_sumOf_33 : decode b_Mo_sumOf 33 = .ok (.invokevirtual 340, 3) := by decide +kernel
theorem d_Mo_sumOf_36 : decode b_Mo_sumOf 36 = .ok (.goto 7, 3) := by decide +kernel
theorem d_Mo_sumOf_39 : decode b_Mo_sumOf 39 = .ok (.aload_n 0, 1) := by decide +kernel
theorem d_Mo_sumOf_40 : decode b_Mo_sumOf 40 = .ok (.invokevirtual 282, 3) := by decide +kernel
theorem d_Mo_sumOf_43 : decode b_Mo_sumOf 43 = .ok (.ireturn, 1) := by decide +kernel
theorem d_Mo_count_0 : decode b_Mo_count 0 = .ok (.iload_n 1, 1) := by decide +kernel
theorem d_Mo_count_1 : decode b_Mo_count 1 = .ok (.tableswitch 81 0 8 #[51, 51, 57, 57, 66, 51, 51, 71, 76], 51) := by decide +kernel
theorem d_Mo_count_52 : decode b_Mo_count 52 = .ok (.aload_n 0, 1) := by decide +kernel
theorem d_Mo_count_53 : decode b_Mo_count 53 = .ok (.iload_n 1, 1) := by decide +kernel
theorem d_Mo_count_54 : decode b_Mo_count 54 = .ok (.invokevirtual 343, 3) := by decide +kernel
theorem d_Mo_count_57 : decode b_Mo_count 57 = .ok (.ireturn, 1) := by decide +kernel
theorem d_Mo_count_58 : decode b_Mo_count 58 = .ok (.aload_n 0, 1) := by decide +kernel
theorem d_Mo_count_59 : decode b_Mo_count 59 = .ok (.getfield 7, 3) := by decide +kernel
theorem d_Mo_count_62 : decode b_Mo_count 62 = .ok (.iload_n 1, 1) := by decide +kernel
theorem d_Mo_count_63 : decode b_Mo_count 63 = .ok (.iconst 2, 1) := by decide +kernel
theorem d_Mo_count_64 : decode b_Mo_count 64 = .ok (.isub, 1) := by decide +kernel
theorem d_Mo_count_65 : decode b_Mo_count 65 = .ok (.iaload, 1) := by decide +kernel
theorem d_Mo_count_66 : decode b_Mo_count 66 = .ok (.ireturn, 1) := by decide +kernel
theorem d_Mo_count_67 : decode b_Mo_count 67 = .ok (.aload_n 0, 1) := by decide +kernel
theorem d_Mo_count_68 : decode b_Mo_count 68 = .ok (.getfield 171, 3) := by decide +kernel
theorem d_Mo_count_71 : decode b_Mo_count 71 = .ok (.ireturn, 1) := by decide +kernel
theorem d_Mo_count_72 : decode b_Mo_count 72 = .ok (.aload_n 0, 1) := by decide +kernel
theorem d_Mo_count_73 : decode b_Mo_count 73 = .ok (.getfield 294, 3) := by decide +kernel
theorem d_Mo_count_76 : decode b_Mo_count 76 = .ok (.ireturn, 1) := by decide +kernel
theorem d_Mo_count_77 : decode b_Mo_count 77 = .ok (.aload_n 0, 1) := by decide +kernel
theorem d_Mo_count_78 : decode b_Mo_count 78 = .ok (.getfield 329, 3) := by decide +kernel
theorem d_Mo_count_81 : decode b_Mo_count 81 = .ok (.ireturn, 1) := by decide +kernel
theorem d_Mo_count_82 : decode b_Mo_count 82 = .ok (.bipush (-2), 2) := by decide +kernel
theorem d_Mo_count_84 : decode b_Mo_count 84 = .ok (.ireturn, 1) := by decide +kernel
theorem d_Mo_baleDigest_0 : decode b_Mo_baleDigest 0 = .ok (.lload_n 1, 1) := by decide +kernel
theorem d_Mo_baleDigest_1 : decode b_Mo_baleDigest 1 = .ok (.lstore 4, 2) := by decide +kernel
theorem d_Mo_baleDigest_3 : decode b_Mo_baleDigest 3 = .ok (.iconst 0, 1) := by decide +kernel
theorem d_Mo_baleDigest_4 : decode b_Mo_baleDigest 4 = .ok (.istore 6, 2) := by decide +kernel
theorem d_Mo_baleDigest_6 : decode b_Mo_baleDigest 6 = .ok (.iload 6, 2) := by decide +kernel
theorem d_Mo_baleDigest_8 : decode b_Mo_baleDigest 8 = .ok (.iconst 3, 1) := by decide +kernel
theorem d_Mo_baleDigest_9 : decode b_Mo_baleDigest 9 = .ok (.if_icmp .ge 26, 3) := by decide +kernel
theorem d_Mo_baleDigest_12 : decode b_Mo_baleDigest 12 = .ok (.ldc2_w 346, 3) := by decide +kernel
theorem d_Mo_baleDigest_15 : decode b_Mo_baleDigest 15 = .ok (.lload 4, 2) := by decide +kernel
theorem d_Mo_baleDigest_17 : decode b_Mo_baleDigest 17 = .ok (.lmul, 1) := by decide +kernel
theorem d_Mo_baleDigest_18 : decode b_Mo_baleDigest 18 = .ok (.aload_n 0, 1) := by decide +kernel
theorem d_Mo_baleDigest_19 : decode b_Mo_baleDigest 19 = .ok (.iload_n 3, 1) := by decide +kernel
theorem d_Mo_baleDigest_20 : decode b_Mo_baleDigest 20 = .ok (.iload 6, 2) := by decide +kernel
theorem d_Mo_baleDigest_22 : decode b_Mo_baleDigest 22 = .ok (.invokevirtual 162, 3) := by decide +kernel
theorem d_Mo_baleDigest_25 : decode b_Mo_baleDigest 25 = .ok (.i2l, 1) := by decide +kernel
theorem d_Mo_baleDigest_26 : decode b_Mo_baleDigest 26 = .ok (.ladd, 1) := by decide +kernel
theorem d_Mo_baleDigest_27 : decode b_Mo_baleDigest 27 = .ok (.lstore 4, 2) := by decide +kernel
theorem d_Mo_baleDigest_29 : decode b_Mo_baleDigest 29 = .ok (.iinc 6 1, 3) := by decide +kernel
theorem d_Mo_baleDigest_32 : decode b_Mo_baleDigest 32 = .ok (.goto (-26), 3) := by decide +kernel
theorem d_Mo_baleDigest_35 : decode b_Mo_baleDigest 35 = .ok (.ldc2_w 346, 3) := by decide +kernel
theorem d_Mo_baleDigest_38 : decode b_Mo_baleDigest 38 = .ok (.lload 4, 2) := by decide +kernel
theorem d_Mo_baleDigest_40 : decode b_Mo_baleDigest 40 = .ok (.lmul, 1) := by decide +kernel
theorem d_Mo_baleDigest_41 : decode b_Mo_baleDigest 41 = .ok (.aload_n 0, 1) := by decide +kernel
theorem d_Mo_baleDigest_42 : decode b_Mo_baleDigest 42 = .ok (.iload_n 3, 1) := by decide +kernel
theorem d_Mo_baleDigest_43 : decode b_Mo_baleDigest 43 = .ok (.iconst 0, 1) := by decide +kernel
theorem d_Mo_baleDigest_44 : decode b_Mo_baleDigest 44 = .ok (.invokevirtual 276, 3) := by decide +kernel
theorem d_Mo_baleDigest_47 : decode b_Mo_baleDigest 47 = .ok (.i2l, 1) := by decide +kernel
theorem d_Mo_baleDigest_48 : decode b_Mo_baleDigest 48 = .ok (.ladd, 1) := by decide +kernel
theorem d_Mo_baleDigest_49 : decode b_Mo_baleDigest 49 = .ok (.lstore 4, 2) := by decide +kernel
theorem d_Mo_baleDigest_51 : decode b_Mo_baleDigest 51 = .ok (.ldc2_w 346, 3) := by decide +kernel
theorem d_Mo_baleDigest_54 : decode b_Mo_baleDigest 54 = .ok (.lload 4, 2) := by decide +kernel
theorem d_Mo_baleDigest_56 : decode b_Mo_baleDigest 56 = .ok (.lmul, 1) := by decide +kernel
theorem d_Mo_baleDigest_57 : decode b_Mo_baleDigest 57 = .ok (.aload_n 0, 1) := by decide +kernel
theorem d_Mo_baleDigest_58 : decode b_Mo_baleDigest 58 = .ok (.iload_n 3, 1) := by decide +kernel
theorem d_Mo_baleDigest_59 : decode b_Mo_baleDigest 59 = .ok (.iconst 1, 1) := by decide +kernel
theorem d_Mo_baleDigest_60 : decode b_Mo_baleDigest 60 = .ok (.invokevirtual 276, 3) := by decide +kernel
theorem d_Mo_baleDigest_63 : decode b_Mo_baleDigest 63 = .ok (.i2l, 1) := by decide +kernel
theorem d_Mo_baleDigest_64 : decode b_Mo_baleDigest 64 = .ok (.ladd, 1) := by decide +kernel
theorem d_Mo_baleDigest_65 : decode b_Mo_baleDigest 65 = .ok (.lstore 4, 2) := by decide +kernel
theorem d_Mo_baleDigest_67 : decode b_Mo_baleDigest 67 = .ok (.ldc2_w 346, 3) := by decide +kernel
theorem d_Mo_baleDigest_70 : decode b_Mo_baleDigest 70 = .ok (.lload 4, 2) := by decide +kernel
theorem d_Mo_baleDigest_72 : decode b_Mo_baleDigest 72 = .ok (.lmul, 1) := by decide +kernel
theorem d_Mo_baleDigest_73 : decode b_Mo_baleDigest 73 = .ok (.aload_n 0, 1) := by decide +kernel
theorem d_Mo_baleDigest_74 : decode b_Mo_baleDigest 74 = .ok (.iload_n 3, 1) := by decide +kernel
theorem d_Mo_baleDigest_75 : decode b_Mo_baleDigest 75 = .ok (.iconst 0, 1) := by decide +kernel
theorem d_Mo_baleDigest_76 : decode b_Mo_baleDigest 76 = .ok (.invokevirtual 279, 3) := by decide +kernel
theorem d_Mo_baleDigest_79 : decode b_Mo_baleDigest 79 = .ok (.i2l, 1) := by decide +kernel
theorem d_Mo_baleDigest_80 : decode b_Mo_baleDigest 80 = .ok (.ladd, 1) := by decide +kernel
theorem d_Mo_baleDigest_81 : decode b_Mo_baleDigest 81 = .ok (.lstore 4, 2) := by decide +kernel
theorem d_Mo_baleDigest_83 : decode b_Mo_baleDigest 83 = .ok (.ldc2_w 346, 3) := by decide +kernel
theorem d_Mo_baleDigest_86 : decode b_Mo_baleDigest 86 = .ok (.lload 4, 2) := by decide +kernel
theorem d_Mo_baleDigest_88 : decode b_Mo_baleDigest 88 = .ok (.lmul, 1) := by decide +kernel
theorem d_Mo_baleDigest_89 : decode b_Mo_baleDigest 89 = .ok (.aload_n 0, 1) := by decide +kernel
theorem d_Mo_baleDigest_90 : decode b_Mo_baleDigest 90 = .ok (.iload_n 3, 1) := by decide +kernel
theorem d_Mo_baleDigest_91 : decode b_Mo_baleDigest 91 = .ok (.iconst 1, 1) := by decide +kernel
theorem d_Mo_baleDigest_92 : decode b_Mo_baleDigest 92 = .ok (.invokevirtual 279, 3) := by decide +kernel
theorem d_Mo_baleDigest_95 : decode b_Mo_baleDigest 95 = .ok (.i2l, 1) := by decide +kernel
theorem d_Mo_baleDigest_96 : decode b_Mo_baleDigest 96 = .ok (.ladd, 1) := by decide +kernel
theorem d_Mo_baleDigest_97 : decode b_Mo_baleDigest 97 = .ok (.lreturn, 1) := by decide +kernel
theorem d_Mo_dayDigest_0 : decode b_Mo_dayDigest 0 = .ok (.lload_n 1, 1) := by decide +kernel
theorem d_Mo_dayDigest_1 : decode b_Mo_dayDigest 1 = .ok (.lstore 5, 2) := by decide +kernel
theorem d_Mo_dayDigest_3 : decode b_Mo_dayDigest 3 = .ok (.iconst 0, 1) := by decide +kernel
theorem d_Mo_dayDigest_4 : decode b_Mo_dayDigest 4 = .ok (.istore 7, 2) := by decide +kernel
theorem d_Mo_dayDigest_6 : decode b_Mo_dayDigest 6 = .ok (.iload 7, 2) := by decide +kernel
theorem d_Mo_dayDigest_8 : decode b_Mo_dayDigest 8 = .ok (.bipush 6, 2) := by decide +kernel
theorem d_Mo_dayDigest_10 : decode b_Mo_dayDigest 10 = .ok (.if_icmp .ge 28, 3) := by decide +kernel
theorem d_Mo_dayDigest_13 : decode b_Mo_dayDigest 13 = .ok (.ldc2_w 346, 3) := by decide +kernel
theorem d_Mo_dayDigest_16 : decode b_Mo_dayDigest 16 = .ok (.lload 5, 2) := by decide +kernel
theorem d_Mo_dayDigest_18 : decode b_Mo_dayDigest 18 = .ok (.lmul, 1) := by decide +kernel
theorem d_Mo_dayDigest_19 : decode b_Mo_dayDigest 19 = .ok (.aload_n 0, 1) := by decide +kernel
theorem d_Mo_dayDigest_20 : decode b_Mo_dayDigest 20 = .ok (.iload_n 3, 1) := by decide +kernel
theorem d_Mo_dayDigest_21 : decode b_Mo_dayDigest 21 = .ok (.iload 4, 2) := by decide +kernel
theorem d_Mo_dayDigest_23 : decode b_Mo_dayDigest 23 = .ok (.iload 7, 2) := by decide +kernel
theorem d_Mo_dayDigest_25 : decode b_Mo_dayDigest 25 = .ok (.invokevirtual 244, 3) := by decide +kernel
theorem d_Mo_dayDigest_28 : decode b_Mo_dayDigest 28 = .ok (.i2l, 1) := by decide +kernel
theorem d_Mo_dayDigest_29 : decode b_Mo_dayDigest 29 = .ok (.ladd, 1) := by decide +kernel
theorem d_Mo_dayDigest_30 : decode b_Mo_dayDigest 30 = .ok (.lstore 5, 2) := by decide +kernel
theorem d_Mo_dayDigest_32 : decode b_Mo_dayDigest 32 = .ok (.iinc 7 1, 3) := by decide +kernel
theorem d_Mo_dayDigest_35 : decode b_Mo_dayDigest 35 = .ok (.goto (-29), 3) := by decide +kernel
theorem d_Mo_dayDigest_38 : decode b_Mo_dayDigest 38 = .ok (.lload 5, 2) := by decide +kernel
theorem d_Mo_dayDigest_40 : decode b_Mo_dayDigest 40 = .ok (.lreturn, 1) := by decide +kernel
theorem d_Mo_camelDigest_0 : decode b_Mo_camelDigest 0 = .ok (.ldc2_w 346, 3) := by decide +kernel
theorem d_Mo_camelDigest_3 : decode b_Mo_camelDigest 3 = .ok (.lload_n 1, 1) := by decide +kernel
theorem d_Mo_camelDigest_4 : decode b_Mo_camelDigest 4 = .ok (.lmul, 1) := by decide +kernel
theorem d_Mo_camelDigest_5 : decode b_Mo_camelDigest 5 = .ok (.aload_n 0, 1) := by decide +kernel
theorem d_Mo_camelDigest_6 : decode b_Mo_camelDigest 6 = .ok (.iload_n 3, 1) := by decide +kernel
theorem d_Mo_camelDigest_7 : decode b_Mo_camelDigest 7 = .ok (.iconst 0, 1) := by decide +kernel
theorem d_Mo_camelDigest_8 : decode b_Mo_camelDigest 8 = .ok (.invokevirtual 156, 3) := by decide +kernel
theorem d_Mo_camelDigest_11 : decode b_Mo_camelDigest 11 = .ok (.i2l, 1) := by decide +kernel
theorem d_Mo_camelDigest_12 : decode b_Mo_camelDigest 12 = .ok (.ladd, 1) := by decide +kernel
theorem d_Mo_camelDigest_13 : decode b_Mo_camelDigest 13 = .ok (.lstore 4, 2) := by decide +kernel
theorem d_Mo_camelDigest_15 : decode b_Mo_camelDigest 15 = .ok (.ldc2_w 346, 3) := by decide +kernel
theorem d_Mo_camelDigest_18 : decode b_Mo_camelDigest 18 = .ok (.lload 4, 2) := by decide +kernel
theorem d_Mo_camelDigest_20 : decode b_Mo_camelDigest 20 = .ok (.lmul, 1) := by decide +kernel
theorem d_Mo_camelDigest_21 : decode b_Mo_camelDigest 21 = .ok (.aload_n 0, 1) := by decide +kernel
theorem d_Mo_camelDigest_22 : decode b_Mo_camelDigest 22 = .ok (.iload_n 3, 1) := by decide +kernel
theorem d_Mo_camelDigest_23 : decode b_Mo_camelDigest 23 = .ok (.iconst 1, 1) := by decide +kernel
theorem d_Mo_camelDigest_24 : decode b_Mo_camelDigest 24 = .ok (.invokevirtual 156, 3) := by decide +kernel
theorem d_Mo_camelDigest_27 : decode b_Mo_camelDigest 27 = .ok (.i2l, 1) := by decide +kernel
theorem d_Mo_camelDigest_28 : decode b_Mo_camelDigest 28 = .ok (.ladd, 1) := by decide +kernel
theorem d_Mo_camelDigest_29 : decode b_Mo_camelDigest 29 = .ok (.lstore 4, 2) := by decide +kernel
theorem d_Mo_camelDigest_31 : decode b_Mo_camelDigest 31 = .ok (.aload_n 0, 1) := by decide +kernel
theorem d_Mo_camelDigest_32 : decode b_Mo_camelDigest 32 = .ok (.lload 4, 2) := by decide +kernel
theorem d_Mo_camelDigest_34 : decode b_Mo_camelDigest 34 = .ok (.iconst 0, 1) := by decide +kernel
theorem d_Mo_camelDigest_35 : decode b_Mo_camelDigest 35 = .ok (.iload_n 3, 1) := by decide +kernel
theorem d_Mo_camelDigest_36 : decode b_Mo_camelDigest 36 = .ok (.invokevirtual 348, 3) := by decide +kernel
theorem d_Mo_camelDigest_39 : decode b_Mo_camelDigest 39 = .ok (.lstore 4, 2) := by decide +kernel
theorem d_Mo_camelDigest_41 : decode b_Mo_camelDigest 41 = .ok (.aload_n 0, 1) := by decide +kernel
theorem d_Mo_camelDigest_42 : decode b_Mo_camelDigest 42 = .ok (.lload 4, 2) := by decide +kernel
theorem d_Mo_camelDigest_44 : decode b_Mo_camelDigest 44 = .ok (.bipush 7, 2) := by decide +kernel
theorem d_Mo_camelDigest_46 : decode b_Mo_camelDigest 46 = .ok (.iload_n 3, 1) := by decide +kernel
theorem d_Mo_camelDigest_47 : decode b_Mo_camelDigest 47 = .ok (.invokevirtual 348, 3) := by decide +kernel
theorem d_Mo_camelDigest_50 : decode b_Mo_camelDigest 50 = .ok (.lstore 4, 2) := by decide +kernel
theorem d_Mo_camelDigest_52 : decode b_Mo_camelDigest 52 = .ok (.aload_n 0, 1) := by decide +kernel
theorem d_Mo_camelDigest_53 : decode b_Mo_camelDigest 53 = .ok (.lload 4, 2) := by decide +kernel
theorem d_Mo_camelDigest_55 : decode b_Mo_camelDigest 55 = .ok (.bipush 14, 2) := by decide +kernel
theorem d_Mo_camelDigest_57 : decode b_Mo_camelDigest 57 = .ok (.iload_n 3, 1) := by decide +kernel
theorem d_Mo_camelDigest_58 : decode b_Mo_camelDigest 58 = .ok (.invokevirtual 348, 3) := by decide +kernel
theorem d_Mo_camelDigest_61 : decode b_Mo_camelDigest 61 = .ok (.lstore 4, 2) := by decide +kernel
theorem d_Mo_camelDigest_63 : decode b_Mo_camelDigest 63 = .ok (.aload_n 0, 1) := by decide +kernel
theorem d_Mo_camelDigest_64 : decode b_Mo_camelDigest 64 = .ok (.lload 4, 2) := by decide +kernel
theorem d_Mo_camelDigest_66 : decode b_Mo_camelDigest 66 = .ok (.bipush 23, 2) := by decide +kernel
theorem d_Mo_camelDigest_68 : decode b_Mo_camelDigest 68 = .ok (.iload_n 3, 1) := by decide +kernel
theorem d_Mo_camelDigest_69 : decode b_Mo_camelDigest 69 = .ok (.invokevirtual 348, 3) := by decide +kernel
theorem d_Mo_camelDigest_72 : decode b_Mo_camelDigest 72 = .ok (.lstore 4, 2) := by decide +kernel
theorem d_Mo_camelDigest_74 : decode b_Mo_camelDigest 74 = .ok (.ldc2_w 346, 3) := by decide +kernel
theorem d_Mo_camelDigest_77 : decode b_Mo_camelDigest 77 = .ok (.lload 4, 2) := by decide +kernel
theorem d_Mo_camelDigest_79 : decode b_Mo_camelDigest 79 = .ok (.lmul, 1) := by decide +kernel
theorem d_Mo_camelDigest_80 : decode b_Mo_camelDigest 80 = .ok (.aload_n 0, 1) := by decide +kernel
theorem d_Mo_camelDigest_81 : decode b_Mo_camelDigest 81 = .ok (.iload_n 3, 1) := by decide +kernel
theorem d_Mo_camelDigest_82 : decode b_Mo_camelDigest 82 = .ok (.iconst 5, 1) := by decide +kernel
theorem d_Mo_camelDigest_83 : decode b_Mo_camelDigest 83 = .ok (.invokevirtual 273, 3) := by decide +kernel
theorem d_Mo_camelDigest_86 : decode b_Mo_camelDigest 86 = .ok (.i2l, 1) := by decide +kernel
theorem d_Mo_camelDigest_87 : decode b_Mo_camelDigest 87 = .ok (.ladd, 1) := by decide +kernel
theorem d_Mo_camelDigest_88 : decode b_Mo_camelDigest 88 = .ok (.lstore 4, 2) := by decide +kernel
theorem d_Mo_camelDigest_90 : decode b_Mo_camelDigest 90 = .ok (.ldc2_w 346, 3) := by decide +kernel
theorem d_Mo_camelDigest_93 : decode b_Mo_camelDigest 93 = .ok (.lload 4, 2) := by decide +kernel
theorem d_Mo_camelDigest_95 : decode b_Mo_camelDigest 95 = .ok (.lmul, 1) := by decide +kernel
theorem d_Mo_camelDigest_96 : decode b_Mo_camelDigest 96 = .ok (.aload_n 0, 1) := by decide +kernel
theorem d_Mo_camelDigest_97 : decode b_Mo_camelDigest 97 = .ok (.iload_n 3, 1) := by decide +kernel
theorem d_Mo_camelDigest_98 : decode b_Mo_camelDigest 98 = .ok (.invokevirtual 304, 3) := by decide +kernel
theorem d_Mo_camelDigest_101 : decode b_Mo_camelDigest 101 = .ok (.i2l, 1) := by decide +kernel
theorem d_Mo_camelDigest_102 : decode b_Mo_camelDigest 102 = .ok (.ladd, 1) := by decide +kernel
theorem d_Mo_camelDigest_103 : decode b_Mo_camelDigest 103 = .ok (.lstore 4, 2) := by decide +kernel
theorem d_Mo_camelDigest_105 : decode b_Mo_camelDigest 105 = .ok (.ldc2_w 346, 3) := by decide +kernel
theorem d_Mo_camelDigest_108 : decode b_Mo_camelDigest 108 = .ok (.lload 4, 2) := by decide +kernel
theorem d_Mo_camelDigest_110 : decode b_Mo_camelDigest 110 = .ok (.lmul, 1) := by decide +kernel
theorem d_Mo_camelDigest_111 : decode b_Mo_camelDigest 111 = .ok (.aload_n 0, 1) := by decide +kernel
theorem d_Mo_camelDigest_112 : decode b_Mo_camelDigest 112 = .ok (.iload_n 3, 1) := by decide +kernel
theorem d_Mo_camelDigest_113 : decode b_Mo_camelDigest 113 = .ok (.invokevirtual 307, 3) := by decide +kernel
theorem d_Mo_camelDigest_116 : decode b_Mo_camelDigest 116 = .ok (.i2l, 1) := by decide +kernel
theorem d_Mo_camelDigest_117 : decode b_Mo_camelDigest 117 = .ok (.ladd, 1) := by decide +kernel
theorem d_Mo_camelDigest_118 : decode b_Mo_camelDigest 118 = .ok (.lstore 4, 2) := by decide +kernel
theorem d_Mo_camelDigest_120 : decode b_Mo_camelDigest 120 = .ok (.ldc2_w 346, 3) := by decide +kernel
theorem d_Mo_camelDigest_123 : decode b_Mo_camelDigest 123 = .ok (.lload 4, 2) := by decide +kernel
theorem d_Mo_camelDigest_125 : decode b_Mo_camelDigest 125 = .ok (.lmul, 1) := by decide +kernel
theorem d_Mo_camelDigest_126 : decode b_Mo_camelDigest 126 = .ok (.aload_n 0, 1) := by decide +kernel
theorem d_Mo_camelDigest_127 : decode b_Mo_camelDigest 127 = .ok (.iload_n 3, 1) := by decide +kernel
theorem d_Mo_camelDigest_128 : decode b_Mo_camelDigest 128 = .ok (.invokevirtual 310, 3) := by decide +kernel
theorem d_Mo_camelDigest_131 : decode b_Mo_camelDigest 131 = .ok (.i2l, 1) := by decide +kernel
theorem d_Mo_camelDigest_132 : decode b_Mo_camelDigest 132 = .ok (.ladd, 1) := by decide +kernel
theorem d_Mo_camelDigest_133 : decode b_Mo_camelDigest 133 = .ok (.lstore 4, 2) := by decide +kernel
theorem d_Mo_camelDigest_135 : decode b_Mo_camelDigest 135 = .ok (.ldc2_w 346, 3) := by decide +kernel
theorem d_Mo_camelDigest_138 : decode b_Mo_camelDigest 138 = .ok (.lload 4, 2) := by decide +kernel
theorem d_Mo_camelDigest_140 : decode b_Mo_camelDigest 140 = .ok (.lmul, 1) := by decide +kernel
theorem d_Mo_camelDigest_141 : decode b_Mo_camelDigest 141 = .ok (.aload_n 0, 1) := by decide +kernel
theorem d_Mo_camelDigest_142 : decode b_Mo_camelDigest 142 = .ok (.iconst 5, 1) := by decide +kernel
theorem d_Mo_camelDigest_143 : decode b_Mo_camelDigest 143 = .ok (.iload_n 3, 1) := by decide +kernel
theorem d_Mo_camelDigest_144 : decode b_Mo_camelDigest 144 = .ok (.iconst 0, 1) := by decide +kernel
theorem d_Mo_camelDigest_145 : decode b_Mo_camelDigest 145 = .ok (.invokevirtual 317, 3) := by decide +kernel
theorem d_Mo_camelDigest_148 : decode b_Mo_camelDigest 148 = .ok (.ladd, 1) := by decide +kernel
theorem d_Mo_camelDigest_149 : decode b_Mo_camelDigest 149 = .ok (.lstore 4, 2) := by decide +kernel
theorem d_Mo_camelDigest_151 : decode b_Mo_camelDigest 151 = .ok (.ldc2_w 346, 3) := by decide +kernel
theorem d_Mo_camelDigest_154 : decode b_Mo_camelDigest 154 = .ok (.lload 4, 2) := by decide +kernel
theorem d_Mo_camelDigest_156 : decode b_Mo_camelDigest 156 = .ok (.lmul, 1) := by decide +kernel
theorem d_Mo_camelDigest_157 : decode b_Mo_camelDigest 157 = .ok (.aload_n 0, 1) := by decide +kernel
theorem d_Mo_camelDigest_158 : decode b_Mo_camelDigest 158 = .ok (.iconst 5, 1) := by decide +kernel
theorem d_Mo_camelDigest_159 : decode b_Mo_camelDigest 159 = .ok (.iload_n 3, 1) := by decide +kernel
theorem d_Mo_camelDigest_160 : decode b_Mo_camelDigest 160 = .ok (.iconst 1, 1) := by decide +kernel
theorem d_Mo_camelDigest_161 : decode b_Mo_camelDigest 161 = .ok (.invokevirtual 317, 3) := by decide +kernel
theorem d_Mo_camelDigest_164 : decode b_Mo_camelDigest 164 = .ok (.ladd, 1) := by decide +kernel
theorem d_Mo_camelDigest_165 : decode b_Mo_camelDigest 165 = .ok (.lreturn, 1) := by decide +kernel
theorem d_Mo_digest_0 : decode b_Mo_digest 0 = .ok (.ldc2_w 352, 3) := by decide +kernel
theorem d_Mo_digest_3 : decode b_Mo_digest 3 = .ok (.lstore_n 1, 1) := by decide +kernel
theorem d_Mo_digest_4 : decode b_Mo_digest 4 = .ok (.iconst 0, 1) := by decide +kernel
theorem d_Mo_digest_5 : decode b_Mo_digest 5 = .ok (.istore_n 3, 1) := by decide +kernel
theorem d_Mo_digest_6 : decode b_Mo_digest 6 = .ok (.iload_n 3, 1) := by decide +kernel
theorem d_Mo_digest_7 : decode b_Mo_digest 7 = .ok (.bipush 8, 2) := by decide +kernel
theorem d_Mo_digest_9 : decode b_Mo_digest 9 = .ok (.if_icmp .ge 22, 3) := by decide +kernel
theorem d_Mo_digest_12 : decode b_Mo_digest 12 = .ok (.ldc2_w 346, 3) := by decide +kernel
theorem d_Mo_digest_15 : decode b_Mo_digest 15 = .ok (.lload_n 1, 1) := by decide +kernel
theorem d_Mo_digest_16 : decode b_Mo_digest 16 = .ok (.lmul, 1) := by decide +kernel
theorem d_Mo_digest_17 : decode b_Mo_digest 17 = .ok (.aload_n 0, 1) := by decide +kernel
theorem d_Mo_digest_18 : decode b_Mo_digest 18 = .ok (.iload_n 3, 1) := by decide +kernel
theorem d_Mo_digest_19 : decode b_Mo_digest 19 = .ok (.invokevirtual 354, 3) := by decide +kernel
theorem d_Mo_digest_22 : decode b_Mo_digest 22 = .ok (.i2l, 1) := by decide +kernel
theorem d_Mo_digest_23 : decode b_Mo_digest 23 = .ok (.ladd, 1) := by decide +kernel
theorem d_Mo_digest_24 : decode b_Mo_digest 24 = .ok (.lstore_n 1, 1) := by decide +kernel
theorem d_Mo_digest_25 : decode b_Mo_digest 25 = .ok (.iinc 3 1, 3) := by decide +kernel
theorem d_Mo_digest_28 : decode b_Mo_digest 28 = .ok (.goto (-22), 3) := by decide +kernel
theorem d_Mo_digest_31 : decode b_Mo_digest 31 = .ok (.ldc2_w 346, 3) := by decide +kernel
theorem d_Mo_digest_34 : decode b_Mo_digest 34 = .ok (.lload_n 1, 1) := by decide +kernel
theorem d_Mo_digest_35 : decode b_Mo_digest 35 = .ok (.lmul, 1) := by decide +kernel
theorem d_Mo_digest_36 : decode b_Mo_digest 36 = .ok (.aload_n 0, 1) := by decide +kernel
theorem d_Mo_digest_37 : decode b_Mo_digest 37 = .ok (.iconst 0, 1) := by decide +kernel
theorem d_Mo_digest_38 : decode b_Mo_digest 38 = .ok (.invokevirtual 144, 3) := by decide +kernel
theorem d_Mo_digest_41 : decode b_Mo_digest 41 = .ok (.i2l, 1) := by decide +kernel
theorem d_Mo_digest_42 : decode b_Mo_digest 42 = .ok (.ladd, 1) := by decide +kernel
theorem d_Mo_digest_43 : decode b_Mo_digest 43 = .ok (.lstore_n 1, 1) := by decide +kernel
theorem d_Mo_digest_44 : decode b_Mo_digest 44 = .ok (.ldc2_w 346, 3) := by decide +kernel
theorem d_Mo_digest_47 : decode b_Mo_digest 47 = .ok (.lload_n 1, 1) := by decide +kernel
theorem d_Mo_digest_48 : decode b_Mo_digest 48 = .ok (.lmul, 1) := by decide +kernel
theorem d_Mo_digest_49 : decode b_Mo_digest 49 = .ok (.aload_n 0, 1) := by decide +kernel
theorem d_Mo_digest_50 : decode b_Mo_digest 50 = .ok (.iconst 1, 1) := by decide +kernel
theorem d_Mo_digest_51 : decode b_Mo_digest 51 = .ok (.invokevirtual 144, 3) := by decide +kernel
theorem d_Mo_digest_54 : decode b_Mo_digest 54 = .ok (.i2l, 1) := by decide +kernel
theorem d_Mo_digest_55 : decode b_Mo_digest 55 = .ok (.ladd, 1) := by decide +kernel
theorem d_Mo_digest_56 : decode b_Mo_digest 56 = .ok (.lstore_n 1, 1) := by decide +kernel
theorem d_Mo_digest_57 : decode b_Mo_digest 57 = .ok (.iconst 0, 1) := by decide +kernel
theorem d_Mo_digest_58 : decode b_Mo_digest 58 = .ok (.istore_n 3, 1) := by decide +kernel
theorem d_Mo_digest_59 : decode b_Mo_digest 59 = .ok (.iload_n 3, 1) := by decide +kernel
theorem d_Mo_digest_60 : decode b_Mo_digest 60 = .ok (.aload_n 0, 1) := by decide +kernel
theorem d_Mo_digest_61 : decode b_Mo_digest 61 = .ok (.getfield 131, 3) := by decide +kernel
theorem d_Mo_digest_64 : decode b_Mo_digest 64 = .ok (.if_icmp .ge 16, 3) := by decide +kernel
theorem d_Mo_digest_67 : decode b_Mo_digest 67 = .ok (.aload_n 0, 1) := by decide +kernel
theorem d_Mo_digest_68 : decode b_Mo_digest 68 = .ok (.lload_n 1, 1) := by decide +kernel
theorem d_Mo_digest_69 : decode b_Mo_digest 69 = .ok (.iload_n 3, 1) := by decide +kernel
theorem d_Mo_digest_70 : decode b_Mo_digest 70 = .ok (.invokevirtual 357, 3) := by decide +kernel
theorem d_Mo_digest_73 : decode b_Mo_digest 73 = .ok (.lstore_n 1, 1) := by decide +kernel
theorem d_Mo_digest_74 : decode b_Mo_digest 74 = .ok (.iinc 3 1, 3) := by decide +kernel
theorem d_Mo_digest_77 : decode b_Mo_digest 77 = .ok (.goto (-18), 3) := by decide +kernel
theorem d_Mo_digest_80 : decode b_Mo_digest 80 = .ok (.iconst 0, 1) := by decide +kernel
theorem d_Mo_digest_81 : decode b_Mo_digest 81 = .ok (.istore_n 3, 1) := by decide +kernel
theorem d_Mo_digest_82 : decode b_Mo_digest 82 = .ok (.iload_n 3, 1) := by decide +kernel
theorem d_Mo_digest_83 : decode b_Mo_digest 83 = .ok (.aload_n 0, 1) := by decide +kernel
theorem d_Mo_digest_84 : decode b_Mo_digest 84 = .ok (.getfield 127, 3) := by decide +kernel
theorem d_Mo_digest_87 : decode b_Mo_digest 87 = .ok (.if_icmp .ge 16, 3) := by decide +kernel
theorem d_Mo_digest_90 : decode b_Mo_digest 90 = .ok (.aload_n 0, 1) := by decide +kernel
theorem d_Mo_digest_91 : decode b_Mo_digest 91 = .ok (.lload_n 1, 1) := by decide +kernel
theorem d_Mo_digest_92 : decode b_Mo_digest 92 = .ok (.iload_n 3, 1) := by decide +kernel
theorem d_Mo_digest_93 : decode b_Mo_digest 93 = .ok (.invokevirtual 361, 3) := by decide +kernel
theorem d_Mo_digest_96 : decode b_Mo_digest 96 = .ok (.lstore_n 1, 1) := by decide +kernel
theorem d_Mo_digest_97 : decode b_Mo_digest 97 = .ok (.iinc 3 1, 3) := by decide +kernel
theorem d_Mo_digest_100 : decode b_Mo_digest 100 = .ok (.goto (-18), 3) := by decide +kernel
theorem d_Mo_digest_103 : decode b_Mo_digest 103 = .ok (.ldc2_w 346, 3) := by decide +kernel
theorem d_Mo_digest_106 : decode b_Mo_digest 106 = .ok (.lload_n 1, 1) := by decide +kernel
theorem d_Mo_digest_107 : decode b_Mo_digest 107 = .ok (.lmul, 1) := by decide +kernel
theorem d_Mo_digest_108 : decode b_Mo_digest 108 = .ok (.aload_n 0, 1) := by decide +kernel
theorem d_Mo_digest_109 : decode b_Mo_digest 109 = .ok (.invokevirtual 252, 3) := by decide +kernel
theorem d_Mo_digest_112 : decode b_Mo_digest 112 = .ok (.i2l, 1) := by decide +kernel
theorem d_Mo_digest_113 : decode b_Mo_digest 113 = .ok (.ladd, 1) := by decide +kernel
theorem d_Mo_digest_114 : decode b_Mo_digest 114 = .ok (.lstore_n 1, 1) := by decide +kernel
theorem d_Mo_digest_115 : decode b_Mo_digest 115 = .ok (.ldc2_w 346, 3) := by decide +kernel
theorem d_Mo_digest_118 : decode b_Mo_digest 118 = .ok (.lload_n 1, 1) := by decide +kernel
theorem d_Mo_digest_119 : decode b_Mo_digest 119 = .ok (.lmul, 1) := by decide +kernel
theorem d_Mo_digest_120 : decode b_Mo_digest 120 = .ok (.aload_n 0, 1) := by decide +kernel
theorem d_Mo_digest_121 : decode b_Mo_digest 121 = .ok (.invokevirtual 255, 3) := by decide +kernel
theorem d_Mo_digest_124 : decode b_Mo_digest 124 = .ok (.i2l, 1) := by decide +kernel
theorem d_Mo_digest_125 : decode b_Mo_digest 125 = .ok (.ladd, 1) := by decide +kernel
theorem d_Mo_digest_126 : decode b_Mo_digest 126 = .ok (.lstore_n 1, 1) := by decide +kernel
theorem d_Mo_digest_127 : decode b_Mo_digest 127 = .ok (.ldc2_w 346, 3) := by decide +kernel
theorem d_Mo_digest_130 : decode b_Mo_digest 130 = .ok (.lload_n 1, 1) := by decide +kernel
theorem d_Mo_digest_131 : decode b_Mo_digest 131 = .ok (.lmul, 1) := by decide +kernel
theorem d_Mo_digest_132 : decode b_Mo_digest 132 = .ok (.aload_n 0, 1) := by decide +kernel
theorem d_Mo_digest_133 : decode b_Mo_digest 133 = .ok (.iconst 0, 1) := by decide +kernel
theorem d_Mo_digest_134 : decode b_Mo_digest 134 = .ok (.invokevirtual 258, 3) := by decide +kernel
theorem d_Mo_digest_137 : decode b_Mo_digest 137 = .ok (.i2l, 1) := by decide +kernel
theorem d_Mo_digest_138 : decode b_Mo_digest 138 = .ok (.ladd, 1) := by decide +kernel
theorem d_Mo_digest_139 : decode b_Mo_digest 139 = .ok (.lstore_n 1, 1) := by decide +kernel
theorem d_Mo_digest_140 : decode b_Mo_digest 140 = .ok (.ldc2_w 346, 3) := by decide +kernel
theorem d_Mo_digest_143 : decode b_Mo_digest 143 = .ok (.lload_n 1, 1) := by decide +kernel
theorem d_Mo_digest_144 : decode b_Mo_digest 144 = .ok (.lmul, 1) := by decide +kernel
theorem d_Mo_digest_145 : decode b_Mo_digest 145 = .ok (.aload_n 0, 1) := by decide +kernel
theorem d_Mo_digest_146 : decode b_Mo_digest 146 = .ok (.iconst 1, 1) := by decide +kernel
theorem d_Mo_digest_147 : decode b_Mo_digest 147 = .ok (.invokevirtual 258, 3) := by decide +kernel
theorem d_Mo_digest_150 : decode b_Mo_digest 150 = .ok (.i2l, 1) := by decide +kernel
theorem d_Mo_digest_151 : decode b_Mo_digest 151 = .ok (.ladd, 1) := by decide +kernel
theorem d_Mo_digest_152 : decode b_Mo_digest 152 = .ok (.lstore_n 1, 1) := by decide +kernel
theorem d_Mo_digest_153 : decode b_Mo_digest 153 = .ok (.ldc2_w 346, 3) := by decide +kernel
theorem d_Mo_digest_156 : decode b_Mo_digest 156 = .ok (.lload_n 1, 1) := by decide +kernel
theorem d_Mo_digest_157 : decode b_Mo_digest 157 = .ok (.lmul, 1) := by decide +kernel
theorem d_Mo_digest_158 : decode b_Mo_digest 158 = .ok (.aload_n 0, 1) := by decide +kernel
theorem d_Mo_digest_159 : decode b_Mo_digest 159 = .ok (.invokevirtual 261, 3) := by decide +kernel
theorem d_Mo_digest_162 : decode b_Mo_digest 162 = .ok (.i2l, 1) := by decide +kernel
theorem d_Mo_digest_163 : decode b_Mo_digest 163 = .ok (.ladd, 1) := by decide +kernel
theorem d_Mo_digest_164 : decode b_Mo_digest 164 = .ok (.lstore_n 1, 1) := by decide +kernel
theorem d_Mo_digest_165 : decode b_Mo_digest 165 = .ok (.ldc2_w 346, 3) := by decide +kernel
theorem d_Mo_digest_168 : decode b_Mo_digest 168 = .ok (.lload_n 1, 1) := by decide +kernel
theorem d_Mo_digest_169 : decode b_Mo_digest 169 = .ok (.lmul, 1) := by decide +kernel
theorem d_Mo_digest_170 : decode b_Mo_digest 170 = .ok (.aload_n 0, 1) := by decide +kernel
theorem d_Mo_digest_171 : decode b_Mo_digest 171 = .ok (.invokevirtual 264, 3) := by decide +kernel
theorem d_Mo_digest_174 : decode b_Mo_digest 174 = .ok (.i2l, 1) := by decide +kernel
theorem d_Mo_digest_175 : decode b_Mo_digest 175 = .ok (.ladd, 1) := by decide +kernel
theorem d_Mo_digest_176 : decode b_Mo_digest 176 = .ok (.lstore_n 1, 1) := by decide +kernel
theorem d_Mo_digest_177 : decode b_Mo_digest 177 = .ok (.ldc2_w 346, 3) := by decide +kernel
theorem d_Mo_digest_180 : decode b_Mo_digest 180 = .ok (.lload_n 1, 1) := by decide +kernel
theorem d_Mo_digest_181 : decode b_Mo_digest 181 = .ok (.lmul, 1) := by decide +kernel
theorem d_Mo_digest_182 : decode b_Mo_digest 182 = .ok (.aload_n 0, 1) := by decide +kernel
theorem d_Mo_digest_183 : decode b_Mo_digest 183 = .ok (.invokevirtual 270, 3) := by decide +kernel
theorem d_Mo_digest_186 : decode b_Mo_digest 186 = .ok (.i2l, 1) := by decide +kernel
theorem d_Mo_digest_187 : decode b_Mo_digest 187 = .ok (.ladd, 1) := by decide +kernel
theorem d_Mo_digest_188 : decode b_Mo_digest 188 = .ok (.lstore_n 1, 1) := by decide +kernel
theorem d_Mo_digest_189 : decode b_Mo_digest 189 = .ok (.aload_n 0, 1) := by decide +kernel
theorem d_Mo_digest_190 : decode b_Mo_digest 190 = .ok (.invokevirtual 288, 3) := by decide +kernel
theorem d_Mo_digest_193 : decode b_Mo_digest 193 = .ok (.istore_n 3, 1) := by decide +kernel
theorem d_Mo_digest_194 : decode b_Mo_digest 194 = .ok (.ldc2_w 346, 3) := by decide +kernel
theorem d_Mo_digest_197 : decode b_Mo_digest 197 = .ok (.lload_n 1, 1) := by decide +kernel
theorem d_Mo_digest_198 : decode b_Mo_digest 198 = .ok (.lmul, 1) := by decide +kernel
theorem d_Mo_digest_199 : decode b_Mo_digest 199 = .ok (.iload_n 3, 1) := by decide +kernel
theorem d_Mo_digest_200 : decode b_Mo_digest 200 = .ok (.i2l, 1) := by decide +kernel
theorem d_Mo_digest_201 : decode b_Mo_digest 201 = .ok (.ladd, 1) := by decide +kernel
theorem d_Mo_digest_202 : decode b_Mo_digest 202 = .ok (.lstore_n 1, 1) := by decide +kernel
theorem d_Mo_digest_203 : decode b_Mo_digest 203 = .ok (.ldc2_w 346, 3) := by decide +kernel
theorem d_Mo_digest_206 : decode b_Mo_digest 206 = .ok (.lload_n 1, 1) := by decide +kernel
theorem d_Mo_digest_207 : decode b_Mo_digest 207 = .ok (.lmul, 1) := by decide +kernel
theorem d_Mo_digest_208 : decode b_Mo_digest 208 = .ok (.aload_n 0, 1) := by decide +kernel
theorem d_Mo_digest_209 : decode b_Mo_digest 209 = .ok (.iload_n 3, 1) := by decide +kernel
theorem d_Mo_digest_210 : decode b_Mo_digest 210 = .ok (.iconst 0, 1) := by decide +kernel
theorem d_Mo_digest_211 : decode b_Mo_digest 211 = .ok (.invokevirtual 291, 3) := by decide +kernel
theorem d_Mo_digest_214 : decode b_Mo_digest 214 = .ok (.i2l, 1) := by decide +kernel
theorem d_Mo_digest_215 : decode b_Mo_digest 215 = .ok (.ladd, 1) := by decide +kernel
theorem d_Mo_digest_216 : decode b_Mo_digest 216 = .ok (.lstore_n 1, 1) := by decide +kernel
theorem d_Mo_digest_217 : decode b_Mo_digest 217 = .ok (.ldc2_w 346, 3) := by decide +kernel
theorem d_Mo_digest_220 : decode b_Mo_digest 220 = .ok (.lload_n 1, 1) := by decide +kernel
theorem d_Mo_digest_221 : decode b_Mo_digest 221 = .ok (.lmul, 1) := by decide +kernel
theorem d_Mo_digest_222 : decode b_Mo_digest 222 = .ok (.aload_n 0, 1) := by decide +kernel
theorem d_Mo_digest_223 : decode b_Mo_digest 223 = .ok (.invokevirtual 301, 3) := by decide +kernel
theorem d_Mo_digest_226 : decode b_Mo_digest 226 = .ok (.i2l, 1) := by decide +kernel
theorem d_Mo_digest_227 : decode b_Mo_digest 227 = .ok (.ladd, 1) := by decide +kernel
theorem d_Mo_digest_228 : decode b_Mo_digest 228 = .ok (.lstore_n 1, 1) := by decide +kernel
theorem d_Mo_digest_229 : decode b_Mo_digest 229 = .ok (.ldc2_w 346, 3) := by decide +kernel
theorem d_Mo_digest_232 : decode b_Mo_digest 232 = .ok (.lload_n 1, 1) := by decide +kernel
theorem d_Mo_digest_233 : decode b_Mo_digest 233 = .ok (.lmul, 1) := by decide +kernel
theorem d_Mo_digest_234 : decode b_Mo_digest 234 = .ok (.aload_n 0, 1) := by decide +kernel
theorem d_Mo_digest_235 : decode b_Mo_digest 235 = .ok (.bipush 7, 2) := by decide +kernel
theorem d_Mo_digest_237 : decode b_Mo_digest 237 = .ok (.bipush 6, 2) := by decide +kernel
theorem d_Mo_digest_239 : decode b_Mo_digest 239 = .ok (.iconst 0, 1) := by decide +kernel
theorem d_Mo_digest_240 : decode b_Mo_digest 240 = .ok (.invokevirtual 326, 3) := by decide +kernel
theorem d_Mo_digest_243 : decode b_Mo_digest 243 = .ok (.i2l, 1) := by decide +kernel
theorem d_Mo_digest_244 : decode b_Mo_digest 244 = .ok (.ladd, 1) := by decide +kernel
theorem d_Mo_digest_245 : decode b_Mo_digest 245 = .ok (.lstore_n 1, 1) := by decide +kernel
theorem d_Mo_digest_246 : decode b_Mo_digest 246 = .ok (.ldc2_w 346, 3) := by decide +kernel
theorem d_Mo_digest_249 : decode b_Mo_digest 249 = .ok (.lload_n 1, 1) := by decide +kernel
theorem d_Mo_digest_250 : decode b_Mo_digest 250 = .ok (.lmul, 1) := by decide +kernel
theorem d_Mo_digest_251 : decode b_Mo_digest 251 = .ok (.aload_n 0, 1) := by decide +kernel
theorem d_Mo_digest_252 : decode b_Mo_digest 252 = .ok (.bipush 7, 2) := by decide +kernel
theorem d_Mo_digest_254 : decode b_Mo_digest 254 = .ok (.bipush 6, 2) := by decide +kernel
theorem d_Mo_digest_256 : decode b_Mo_digest 256 = .ok (.iconst 1, 1) := by decide +kernel
theorem d_Mo_digest_257 : decode b_Mo_digest 257 = .ok (.invokevirtual 326, 3) := by decide +kernel
theorem d_Mo_digest_260 : decode b_Mo_digest 260 = .ok (.i2l, 1) := by decide +kernel
theorem d_Mo_digest_261 : decode b_Mo_digest 261 = .ok (.ladd, 1) := by decide +kernel
theorem d_Mo_digest_262 : decode b_Mo_digest 262 = .ok (.lreturn, 1) := by decide +kernel
end
section
-- ===== PART A: goes FIRST, ahead of the names: the tables' words, and 'selects' of the private methods out of them =====
/-- a private method of a class that the tables say can be made, by its rows of tables_1 -/
def lw_okq (q : MethodName × Nat) : Prop := (q.1.cls ≠ "java/lang/invoke/MethodHandle" ∧ q.1.cls ≠ "java/lang/invoke/VarHandle") ∧ Cond.instantiable q.1.cls q.2 ∈ tables_1 ∧ Cond.privateMethod q.1 ∈ tables_1 ∧ Cond.instanceMethod q.1 ∈ tables_1
theorem lw_p0 : lw_okq (⟨"CamelStraws", "isCamel", "(I)Z"⟩, 11) := ⟨⟨by decide +kernel, by decide +kernel⟩, List.mem_of_getElem? (i := 18) (by decide +kernel), List.mem_of_getElem? (i := 398) (by decide +kernel), List.mem_of_getElem? (i := 399) (by decide +kernel)⟩
theorem lw_p1 : lw_okq (⟨"CamelStraws", "isBale", "(I)Z"⟩, 11) := ⟨⟨by decide +kernel, by decide +kernel⟩, List.mem_of_getElem? (i := 18) (by decide +kernel), List.mem_of_getElem? (i := 409) (by decide +kernel), List.mem_of_getElem? (i := 410) (by decide +kernel)⟩
theorem lw_p2 : lw_okq (⟨"CamelStraws", "finding", "(I)I"⟩, 11) := ⟨⟨by decide +kernel, by decide +kernel⟩, List.mem_of_getElem? (i := 18) (by decide +kernel), List.mem_of_getElem? (i := 442) (by decide +kernel), List.mem_of_getElem? (i := 443) (by decide +kernel)⟩
theorem lw_p3 : lw_okq (⟨"CamelStraws$Caravan", "busyDaysOf", "(I)I"⟩, 6) := ⟨⟨by decide +kernel, by decide +kernel⟩, List.mem_of_getElem? (i := 133) (by decide +kernel), List.mem_of_getElem? (i := 455) (by decide +kernel), List.mem_of_getElem? (i := 456) (by decide +kernel)⟩
theorem lw_p4 : lw_okq (⟨"CamelStraws$Plans", "beginChoice", "()V"⟩, 3) := ⟨⟨by decide +kernel, by decide +kernel⟩, List.mem_of_getElem? (i := 217) (by decide +kernel), List.mem_of_getElem? (i := 566) (by decide +kernel), List.mem_of_getElem? (i := 567) (by decide +kernel)⟩
theorem lw_p5 : lw_okq (⟨"CamelStraws$Plans", "choose", "(II)V"⟩, 3) := ⟨⟨by decide +kernel, by decide +kernel⟩, List.mem_of_getElem? (i := 217) (by decide +kernel), List.mem_of_getElem? (i := 571) (by decide +kernel), List.mem_of_getElem? (i := 572) (by decide +kernel)⟩
theorem lw_p6 : lw_okq (⟨"CamelStraws$Plans", "allStandWithout", "(I)Z"⟩, 3) := ⟨⟨by decide +kernel, by decide +kernel⟩, List.mem_of_getElem? (i := 217) (by decide +kernel), List.mem_of_getElem? (i := 591) (by decide +kernel), List.mem_of_getElem? (i := 592) (by decide +kernel)⟩
theorem lw_p7 : lw_okq (⟨"CamelStraws$Guesses", "allComesOut", "()Z"⟩, 6) := ⟨⟨by decide +kernel, by decide +kernel⟩, List.mem_of_getElem? (i := 235) (by decide +kernel), List.mem_of_getElem? (i := 626) (by decide +kernel), List.mem_of_getElem? (i := 627) (by decide +kernel)⟩
theorem lw_p8 : lw_okq (⟨"CamelStraws$Guesses", "noteLoads", "(II)V"⟩, 6) := ⟨⟨by decide +kernel, by decide +kernel⟩, List.mem_of_getElem? (i := 235) (by decide +kernel), List.mem_of_getElem? (i := 648) (by decide +kernel), List.mem_of_getElem? (i := 649) (by decide +kernel)⟩
theorem lw_p9 : lw_okq (⟨"CamelStraws$Guesses", "mostAlike", "(II)I"⟩, 6) := ⟨⟨by decide +kernel, by decide +kernel⟩, List.mem_of_getElem? (i := 235) (by decide +kernel), List.mem_of_getElem? (i := 652) (by decide +kernel), List.mem_of_getElem? (i := 653) (by decide +kernel)⟩
theorem lw_p10 : lw_okq (⟨"CamelStraws$Odds", "breaksWithout", "(II)Z"⟩, 3) := ⟨⟨by decide +kernel, by decide +kernel⟩, List.mem_of_getElem? (i := 261) (by decide +kernel), List.mem_of_getElem? (i := 672) (by decide +kernel), List.mem_of_getElem? (i := 673) (by decide +kernel)⟩
theorem lw_p11 : lw_okq (⟨"CamelStraws$Odds", "reduce", "()V"⟩, 3) := ⟨⟨by decide +kernel, by decide +kernel⟩, List.mem_of_getElem? (i := 261) (by decide +kernel), List.mem_of_getElem? (i := 681) (by decide +kernel), List.mem_of_getElem? (i := 682) (by decide +kernel)⟩
theorem lw_p12 : lw_okq (⟨"CamelStraws", "mixBale", "(JI)J"⟩, 11) := ⟨⟨by decide +kernel, by decide +kernel⟩, List.mem_of_getElem? (i := 18) (by decide +kernel), List.mem_of_getElem? (i := 766) (by decide +kernel), List.mem_of_getElem? (i := 767) (by decide +kernel)⟩
theorem lw_p13 : lw_okq (⟨"CamelStraws", "mixCamel", "(JI)J"⟩, 11) := ⟨⟨by decide +kernel, by decide +kernel⟩, List.mem_of_getElem? (i := 18) (by decide +kernel), List.mem_of_getElem? (i := 773) (by decide +kernel), List.mem_of_getElem? (i := 774) (by decide +kernel)⟩
theorem lw_p14 : lw_okq (⟨"CamelStraws", "mixDay", "(JII)J"⟩, 11) := ⟨⟨by decide +kernel, by decide +kernel⟩, List.mem_of_getElem? (i := 18) (by decide +kernel), List.mem_of_getElem? (i := 778) (by decide +kernel), List.mem_of_getElem? (i := 779) (by decide +kernel)⟩
theorem lw_p15 : lw_okq (⟨"CamelStrawsModel", "faultOf", "(I)I"⟩, 45) := ⟨⟨by decide +kernel, by decide +kernel⟩, List.mem_of_getElem? (i := 796) (by decide +kernel), List.mem_of_getElem? (i := 961) (by decide +kernel), List.mem_of_getElem? (i := 962) (by decide +kernel)⟩
def lw_privs_1 : List (MethodName × Nat) := [(⟨"CamelStraws", "isCamel", "(I)Z"⟩, 11), (⟨"CamelStraws", "isBale", "(I)Z"⟩, 11), (⟨"CamelStraws", "finding", "(I)I"⟩, 11), (⟨"CamelStraws$Caravan", "busyDaysOf", "(I)I"⟩, 6), (⟨"CamelStraws$Plans", "beginChoice", "()V"⟩, 3), (⟨"CamelStraws$Plans", "choose", "(II)V"⟩, 3), (⟨"CamelStraws$Plans", "allStandWithout", "(I)Z"⟩, 3), (⟨"CamelStraws$Guesses", "allComesOut", "()Z"⟩, 6), (⟨"CamelStraws$Guesses", "noteLoads", "(II)V"⟩, 6), (⟨"CamelStraws$Guesses", "mostAlike", "(II)I"⟩, 6), (⟨"CamelStraws$Odds", "breaksWithout", "(II)Z"⟩, 3), (⟨"CamelStraws$Odds", "reduce", "()V"⟩, 3), (⟨"CamelStraws", "mixBale", "(JI)J"⟩, 11), (⟨"CamelStraws", "mixCamel", "(JI)J"⟩, 11), (⟨"CamelStraws", "mixDay", "(JII)J"⟩, 11), (⟨"CamelStrawsModel", "faultOf", "(I)I"⟩, 45)]
theorem lw_r1 : ∀ q ∈ lw_privs_1, lw_okq q := List.forall_mem_cons.mpr ⟨lw_p0, List.forall_mem_cons.mpr ⟨lw_p1, List.forall_mem_cons.mpr ⟨lw_p2, List.forall_mem_cons.mpr ⟨lw_p3, List.forall_mem_cons.mpr ⟨lw_p4, List.forall_mem_cons.mpr ⟨lw_p5, List.forall_mem_cons.mpr ⟨lw_p6, List.forall_mem_cons.mpr ⟨lw_p7, List.forall_mem_cons.mpr ⟨lw_p8, List.forall_mem_cons.mpr ⟨lw_p9, List.forall_mem_cons.mpr ⟨lw_p10, List.forall_mem_cons.mpr ⟨lw_p11, List.forall_mem_cons.mpr ⟨lw_p12, List.forall_mem_cons.mpr ⟨lw_p13, List.forall_mem_cons.mpr ⟨lw_p14, List.forall_mem_cons.mpr ⟨lw_p15, fun _ h => absurd h List.not_mem_nil⟩⟩⟩⟩⟩⟩⟩⟩⟩⟩⟩⟩⟩⟩⟩⟩
theorem lw_p16 : lw_okq (⟨"CamelStrawsModel", "readsParts", "(I)I"⟩, 45) := ⟨⟨by decide +kernel, by decide +kernel⟩, List.mem_of_getElem? (i := 796) (by decide +kernel), List.mem_of_getElem? (i := 965) (by decide +kernel), List.mem_of_getElem? (i := 966) (by decide +kernel)⟩
theorem lw_p17 : lw_okq (⟨"CamelStrawsModel", "readsCamel", "(II)I"⟩, 45) := ⟨⟨by decide +kernel, by decide +kernel⟩, List.mem_of_getElem? (i := 796) (by decide +kernel), List.mem_of_getElem? (i := 969) (by decide +kernel), List.mem_of_getElem? (i := 970) (by decide +kernel)⟩
theorem lw_p18 : lw_okq (⟨"CamelStrawsModel", "byteAt", "(II)I"⟩, 45) := ⟨⟨by decide +kernel, by decide +kernel⟩, List.mem_of_getElem? (i := 796) (by decide +kernel), List.mem_of_getElem? (i := 973) (by decide +kernel), List.mem_of_getElem? (i := 974) (by decide +kernel)⟩
theorem lw_p19 : lw_okq (⟨"CamelStrawsModel", "readsBale", "(II)I"⟩, 45) := ⟨⟨by decide +kernel, by decide +kernel⟩, List.mem_of_getElem? (i := 796) (by decide +kernel), List.mem_of_getElem? (i := 977) (by decide +kernel), List.mem_of_getElem? (i := 978) (by decide +kernel)⟩
theorem lw_p20 : lw_okq (⟨"CamelStrawsModel", "isCamel", "(I)Z"⟩, 45) := ⟨⟨by decide +kernel, by decide +kernel⟩, List.mem_of_getElem? (i := 796) (by decide +kernel), List.mem_of_getElem? (i := 985) (by decide +kernel), List.mem_of_getElem? (i := 986) (by decide +kernel)⟩
theorem lw_p21 : lw_okq (⟨"CamelStrawsModel", "reads", "()V"⟩, 45) := ⟨⟨by decide +kernel, by decide +kernel⟩, List.mem_of_getElem? (i := 796) (by decide +kernel), List.mem_of_getElem? (i := 989) (by decide +kernel), List.mem_of_getElem? (i := 990) (by decide +kernel)⟩
theorem lw_p22 : lw_okq (⟨"CamelStrawsModel", "camelOf", "(II)I"⟩, 45) := ⟨⟨by decide +kernel, by decide +kernel⟩, List.mem_of_getElem? (i := 796) (by decide +kernel), List.mem_of_getElem? (i := 996) (by decide +kernel), List.mem_of_getElem? (i := 997) (by decide +kernel)⟩
theorem lw_p23 : lw_okq (⟨"CamelStrawsModel", "isBale", "(I)Z"⟩, 45) := ⟨⟨by decide +kernel, by decide +kernel⟩, List.mem_of_getElem? (i := 796) (by decide +kernel), List.mem_of_getElem? (i := 1004) (by decide +kernel), List.mem_of_getElem? (i := 1005) (by decide +kernel)⟩
theorem lw_p24 : lw_okq (⟨"CamelStrawsModel", "baleOf", "(II)I"⟩, 45) := ⟨⟨by decide +kernel, by decide +kernel⟩, List.mem_of_getElem? (i := 796) (by decide +kernel), List.mem_of_getElem? (i := 1008) (by decide +kernel), List.mem_of_getElem? (i := 1009) (by decide +kernel)⟩
theorem lw_p25 : lw_okq (⟨"CamelStrawsModel", "meets", "(I)I"⟩, 45) := ⟨⟨by decide +kernel, by decide +kernel⟩, List.mem_of_getElem? (i := 796) (by decide +kernel), List.mem_of_getElem? (i := 1033) (by decide +kernel), List.mem_of_getElem? (i := 1034) (by decide +kernel)⟩
theorem lw_p26 : lw_okq (⟨"CamelStrawsModel", "atOf", "(III)I"⟩, 45) := ⟨⟨by decide +kernel, by decide +kernel⟩, List.mem_of_getElem? (i := 796) (by decide +kernel), List.mem_of_getElem? (i := 1042) (by decide +kernel), List.mem_of_getElem? (i := 1043) (by decide +kernel)⟩
theorem lw_p27 : lw_okq (⟨"CamelStrawsModel", "runsTold", "()V"⟩, 45) := ⟨⟨by decide +kernel, by decide +kernel⟩, List.mem_of_getElem? (i := 796) (by decide +kernel), List.mem_of_getElem? (i := 1046) (by decide +kernel), List.mem_of_getElem? (i := 1047) (by decide +kernel)⟩
theorem lw_p28 : lw_okq (⟨"CamelStrawsModel", "asTold", "()V"⟩, 45) := ⟨⟨by decide +kernel, by decide +kernel⟩, List.mem_of_getElem? (i := 796) (by decide +kernel), List.mem_of_getElem? (i := 1050) (by decide +kernel), List.mem_of_getElem? (i := 1051) (by decide +kernel)⟩
theorem lw_p29 : lw_okq (⟨"CamelStrawsModel", "runs", "()V"⟩, 45) := ⟨⟨by decide +kernel, by decide +kernel⟩, List.mem_of_getElem? (i := 796) (by decide +kernel), List.mem_of_getElem? (i := 1054) (by decide +kernel), List.mem_of_getElem? (i := 1055) (by decide +kernel)⟩
theorem lw_p30 : lw_okq (⟨"CamelStrawsModel", "goesBy", "(I)V"⟩, 45) := ⟨⟨by decide +kernel, by decide +kernel⟩, List.mem_of_getElem? (i := 796) (by decide +kernel), List.mem_of_getElem? (i := 1058) (by decide +kernel), List.mem_of_getElem? (i := 1059) (by decide +kernel)⟩
theorem lw_p31 : lw_okq (⟨"CamelStrawsModel", "bears", "(I)V"⟩, 45) := ⟨⟨by decide +kernel, by decide +kernel⟩, List.mem_of_getElem? (i := 796) (by decide +kernel), List.mem_of_getElem? (i := 1062) (by decide +kernel), List.mem_of_getElem? (i := 1063) (by decide +kernel)⟩
def lw_privs_2 : List (MethodName × Nat) := [(⟨"CamelStrawsModel", "readsParts", "(I)I"⟩, 45), (⟨"CamelStrawsModel", "readsCamel", "(II)I"⟩, 45), (⟨"CamelStrawsModel", "byteAt", "(II)I"⟩, 45), (⟨"CamelStrawsModel", "readsBale", "(II)I"⟩, 45), (⟨"CamelStrawsModel", "isCamel", "(I)Z"⟩, 45), (⟨"CamelStrawsModel", "reads", "()V"⟩, 45), (⟨"CamelStrawsModel", "camelOf", "(II)I"⟩, 45), (⟨"CamelStrawsModel", "isBale", "(I)Z"⟩, 45), (⟨"CamelStrawsModel", "baleOf", "(II)I"⟩, 45), (⟨"CamelStrawsModel", "meets", "(I)I"⟩, 45), (⟨"CamelStrawsModel", "atOf", "(III)I"⟩, 45), (⟨"CamelStrawsModel", "runsTold", "()V"⟩, 45), (⟨"CamelStrawsModel", "asTold", "()V"⟩, 45), (⟨"CamelStrawsModel", "runs", "()V"⟩, 45), (⟨"CamelStrawsModel", "goesBy", "(I)V"⟩, 45), (⟨"CamelStrawsModel", "bears", "(I)V"⟩, 45)]
theorem lw_r2 : ∀ q ∈ lw_privs_2, lw_okq q := List.forall_mem_cons.mpr ⟨lw_p16, List.forall_mem_cons.mpr ⟨lw_p17, List.forall_mem_cons.mpr ⟨lw_p18, List.forall_mem_cons.mpr ⟨lw_p19, List.forall_mem_cons.mpr ⟨lw_p20, List.forall_mem_cons.mpr ⟨lw_p21, List.forall_mem_cons.mpr ⟨lw_p22, List.forall_mem_cons.mpr ⟨lw_p23, List.forall_mem_cons.mpr ⟨lw_p24, List.forall_mem_cons.mpr ⟨lw_p25, List.forall_mem_cons.mpr ⟨lw_p26, List.forall_mem_cons.mpr ⟨lw_p27, List.forall_mem_cons.mpr ⟨lw_p28, List.forall_mem_cons.mpr ⟨lw_p29, List.forall_mem_cons.mpr ⟨lw_p30, List.forall_mem_cons.mpr ⟨lw_p31, fun _ h => absurd h List.not_mem_nil⟩⟩⟩⟩⟩⟩⟩⟩⟩⟩⟩⟩⟩⟩⟩⟩
theorem lw_p32 : lw_okq (⟨"CamelStrawsModel", "takes", "(I)Z"⟩, 45) := ⟨⟨by decide +kernel, by decide +kernel⟩, List.mem_of_getElem? (i := 796) (by decide +kernel), List.mem_of_getElem? (i := 1066) (by decide +kernel), List.mem_of_getElem? (i := 1067) (by decide +kernel)⟩
theorem lw_p33 : lw_okq (⟨"CamelStrawsModel", "breaks", "(II)V"⟩, 45) := ⟨⟨by decide +kernel, by decide +kernel⟩, List.mem_of_getElem? (i := 796) (by decide +kernel), List.mem_of_getElem? (i := 1070) (by decide +kernel), List.mem_of_getElem? (i := 1071) (by decide +kernel)⟩
theorem lw_p34 : lw_okq (⟨"CamelStrawsModel", "comeStraws", "(I)V"⟩, 45) := ⟨⟨by decide +kernel, by decide +kernel⟩, List.mem_of_getElem? (i := 796) (by decide +kernel), List.mem_of_getElem? (i := 1074) (by decide +kernel), List.mem_of_getElem? (i := 1075) (by decide +kernel)⟩
theorem lw_p35 : lw_okq (⟨"CamelStrawsModel", "comesStraw", "(II)V"⟩, 45) := ⟨⟨by decide +kernel, by decide +kernel⟩, List.mem_of_getElem? (i := 796) (by decide +kernel), List.mem_of_getElem? (i := 1081) (by decide +kernel), List.mem_of_getElem? (i := 1082) (by decide +kernel)⟩
theorem lw_p36 : lw_okq (⟨"CamelStrawsModel", "tires", "(II)V"⟩, 45) := ⟨⟨by decide +kernel, by decide +kernel⟩, List.mem_of_getElem? (i := 796) (by decide +kernel), List.mem_of_getElem? (i := 1085) (by decide +kernel), List.mem_of_getElem? (i := 1086) (by decide +kernel)⟩
theorem lw_p37 : lw_okq (⟨"CamelStrawsModel", "wears", "(II)Z"⟩, 45) := ⟨⟨by decide +kernel, by decide +kernel⟩, List.mem_of_getElem? (i := 796) (by decide +kernel), List.mem_of_getElem? (i := 1089) (by decide +kernel), List.mem_of_getElem? (i := 1090) (by decide +kernel)⟩
theorem lw_p38 : lw_okq (⟨"CamelStrawsModel", "ends", "(II)V"⟩, 45) := ⟨⟨by decide +kernel, by decide +kernel⟩, List.mem_of_getElem? (i := 796) (by decide +kernel), List.mem_of_getElem? (i := 1093) (by decide +kernel), List.mem_of_getElem? (i := 1094) (by decide +kernel)⟩
theorem lw_p39 : lw_okq (⟨"CamelStrawsModel", "throughOf", "()I"⟩, 45) := ⟨⟨by decide +kernel, by decide +kernel⟩, List.mem_of_getElem? (i := 796) (by decide +kernel), List.mem_of_getElem? (i := 1101) (by decide +kernel), List.mem_of_getElem? (i := 1102) (by decide +kernel)⟩
theorem lw_p40 : lw_okq (⟨"CamelStrawsModel", "throughNow", "()I"⟩, 45) := ⟨⟨by decide +kernel, by decide +kernel⟩, List.mem_of_getElem? (i := 796) (by decide +kernel), List.mem_of_getElem? (i := 1105) (by decide +kernel), List.mem_of_getElem? (i := 1106) (by decide +kernel)⟩
theorem lw_p41 : lw_okq (⟨"CamelStrawsModel", "lostOf", "()I"⟩, 45) := ⟨⟨by decide +kernel, by decide +kernel⟩, List.mem_of_getElem? (i := 796) (by decide +kernel), List.mem_of_getElem? (i := 1113) (by decide +kernel), List.mem_of_getElem? (i := 1114) (by decide +kernel)⟩
theorem lw_p42 : lw_okq (⟨"CamelStrawsModel", "firstOf", "(I)I"⟩, 45) := ⟨⟨by decide +kernel, by decide +kernel⟩, List.mem_of_getElem? (i := 796) (by decide +kernel), List.mem_of_getElem? (i := 1121) (by decide +kernel), List.mem_of_getElem? (i := 1122) (by decide +kernel)⟩
theorem lw_p43 : lw_okq (⟨"CamelStrawsModel", "bestOf", "()I"⟩, 45) := ⟨⟨by decide +kernel, by decide +kernel⟩, List.mem_of_getElem? (i := 796) (by decide +kernel), List.mem_of_getElem? (i := 1129) (by decide +kernel), List.mem_of_getElem? (i := 1130) (by decide +kernel)⟩
theorem lw_p44 : lw_okq (⟨"CamelStrawsModel", "wholeOf", "()I"⟩, 45) := ⟨⟨by decide +kernel, by decide +kernel⟩, List.mem_of_getElem? (i := 796) (by decide +kernel), List.mem_of_getElem? (i := 1137) (by decide +kernel), List.mem_of_getElem? (i := 1138) (by decide +kernel)⟩
theorem lw_p45 : lw_okq (⟨"CamelStrawsModel", "tiredOf", "()I"⟩, 45) := ⟨⟨by decide +kernel, by decide +kernel⟩, List.mem_of_getElem? (i := 796) (by decide +kernel), List.mem_of_getElem? (i := 1145) (by decide +kernel), List.mem_of_getElem? (i := 1146) (by decide +kernel)⟩
theorem lw_p46 : lw_okq (⟨"CamelStrawsModel", "strengthOn", "(I)I"⟩, 45) := ⟨⟨by decide +kernel, by decide +kernel⟩, List.mem_of_getElem? (i := 796) (by decide +kernel), List.mem_of_getElem? (i := 1149) (by decide +kernel), List.mem_of_getElem? (i := 1150) (by decide +kernel)⟩
theorem lw_p47 : lw_okq (⟨"CamelStrawsModel", "lastOf", "(II)I"⟩, 45) := ⟨⟨by decide +kernel, by decide +kernel⟩, List.mem_of_getElem? (i := 796) (by decide +kernel), List.mem_of_getElem? (i := 1157) (by decide +kernel), List.mem_of_getElem? (i := 1158) (by decide +kernel)⟩
def lw_privs_3 : List (MethodName × Nat) := [(⟨"CamelStrawsModel", "takes", "(I)Z"⟩, 45), (⟨"CamelStrawsModel", "breaks", "(II)V"⟩, 45), (⟨"CamelStrawsModel", "comeStraws", "(I)V"⟩, 45), (⟨"CamelStrawsModel", "comesStraw", "(II)V"⟩, 45), (⟨"CamelStrawsModel", "tires", "(II)V"⟩, 45), (⟨"CamelStrawsModel", "wears", "(II)Z"⟩, 45), (⟨"CamelStrawsModel", "ends", "(II)V"⟩, 45), (⟨"CamelStrawsModel", "throughOf", "()I"⟩, 45), (⟨"CamelStrawsModel", "throughNow", "()I"⟩, 45), (⟨"CamelStrawsModel", "lostOf", "()I"⟩, 45), (⟨"CamelStrawsModel", "firstOf", "(I)I"⟩, 45), (⟨"CamelStrawsModel", "bestOf", "()I"⟩, 45), (⟨"CamelStrawsModel", "wholeOf", "()I"⟩, 45), (⟨"CamelStrawsModel", "tiredOf", "()I"⟩, 45), (⟨"CamelStrawsModel", "strengthOn", "(I)I"⟩, 45), (⟨"CamelStrawsModel", "lastOf", "(II)I"⟩, 45)]
theorem lw_r3 : ∀ q ∈ lw_privs_3, lw_okq q := List.forall_mem_cons.mpr ⟨lw_p32, List.forall_mem_cons.mpr ⟨lw_p33, List.forall_mem_cons.mpr ⟨lw_p34, List.forall_mem_cons.mpr ⟨lw_p35, List.forall_mem_cons.mpr ⟨lw_p36, List.forall_mem_cons.mpr ⟨lw_p37, List.forall_mem_cons.mpr ⟨lw_p38, List.forall_mem_cons.mpr ⟨lw_p39, List.forall_mem_cons.mpr ⟨lw_p40, List.forall_mem_cons.mpr ⟨lw_p41, List.forall_mem_cons.mpr ⟨lw_p42, List.forall_mem_cons.mpr ⟨lw_p43, List.forall_mem_cons.mpr ⟨lw_p44, List.forall_mem_cons.mpr ⟨lw_p45, List.forall_mem_cons.mpr ⟨lw_p46, List.forall_mem_cons.mpr ⟨lw_p47, fun _ h => absurd h List.not_mem_nil⟩⟩⟩⟩⟩⟩⟩⟩⟩⟩⟩⟩⟩⟩⟩⟩
theorem lw_p48 : lw_okq (⟨"CamelStrawsModel", "bearOf", "(II)I"⟩, 45) := ⟨⟨by decide +kernel, by decide +kernel⟩, List.mem_of_getElem? (i := 796) (by decide +kernel), List.mem_of_getElem? (i := 1165) (by decide +kernel), List.mem_of_getElem? (i := 1166) (by decide +kernel)⟩
theorem lw_p49 : lw_okq (⟨"CamelStrawsModel", "whenOf", "(II)I"⟩, 45) := ⟨⟨by decide +kernel, by decide +kernel⟩, List.mem_of_getElem? (i := 796) (by decide +kernel), List.mem_of_getElem? (i := 1173) (by decide +kernel), List.mem_of_getElem? (i := 1174) (by decide +kernel)⟩
theorem lw_p50 : lw_okq (⟨"CamelStrawsModel", "spareBy", "()I"⟩, 45) := ⟨⟨by decide +kernel, by decide +kernel⟩, List.mem_of_getElem? (i := 796) (by decide +kernel), List.mem_of_getElem? (i := 1181) (by decide +kernel), List.mem_of_getElem? (i := 1182) (by decide +kernel)⟩
theorem lw_p51 : lw_okq (⟨"CamelStrawsModel", "isSpared", "(I)Z"⟩, 45) := ⟨⟨by decide +kernel, by decide +kernel⟩, List.mem_of_getElem? (i := 796) (by decide +kernel), List.mem_of_getElem? (i := 1185) (by decide +kernel), List.mem_of_getElem? (i := 1186) (by decide +kernel)⟩
theorem lw_p52 : lw_okq (⟨"CamelStrawsModel", "brokeAll", "()I"⟩, 45) := ⟨⟨by decide +kernel, by decide +kernel⟩, List.mem_of_getElem? (i := 796) (by decide +kernel), List.mem_of_getElem? (i := 1189) (by decide +kernel), List.mem_of_getElem? (i := 1190) (by decide +kernel)⟩
theorem lw_p53 : lw_okq (⟨"CamelStrawsModel", "ofRow", "(II)I"⟩, 45) := ⟨⟨by decide +kernel, by decide +kernel⟩, List.mem_of_getElem? (i := 796) (by decide +kernel), List.mem_of_getElem? (i := 1193) (by decide +kernel), List.mem_of_getElem? (i := 1194) (by decide +kernel)⟩
theorem lw_p54 : lw_okq (⟨"CamelStrawsModel", "neverNow", "()I"⟩, 45) := ⟨⟨by decide +kernel, by decide +kernel⟩, List.mem_of_getElem? (i := 796) (by decide +kernel), List.mem_of_getElem? (i := 1209) (by decide +kernel), List.mem_of_getElem? (i := 1210) (by decide +kernel)⟩
theorem lw_p55 : lw_okq (⟨"CamelStrawsModel", "isSeen", "()Z"⟩, 45) := ⟨⟨by decide +kernel, by decide +kernel⟩, List.mem_of_getElem? (i := 796) (by decide +kernel), List.mem_of_getElem? (i := 1213) (by decide +kernel), List.mem_of_getElem? (i := 1214) (by decide +kernel)⟩
theorem lw_p56 : lw_okq (⟨"CamelStrawsModel", "sortsBy", "(I)I"⟩, 45) := ⟨⟨by decide +kernel, by decide +kernel⟩, List.mem_of_getElem? (i := 796) (by decide +kernel), List.mem_of_getElem? (i := 1221) (by decide +kernel), List.mem_of_getElem? (i := 1222) (by decide +kernel)⟩
theorem lw_p57 : lw_okq (⟨"CamelStrawsModel", "strongBy", "(I)I"⟩, 45) := ⟨⟨by decide +kernel, by decide +kernel⟩, List.mem_of_getElem? (i := 796) (by decide +kernel), List.mem_of_getElem? (i := 1225) (by decide +kernel), List.mem_of_getElem? (i := 1226) (by decide +kernel)⟩
theorem lw_p58 : lw_okq (⟨"CamelStrawsModel", "askOf", "(I)I"⟩, 45) := ⟨⟨by decide +kernel, by decide +kernel⟩, List.mem_of_getElem? (i := 796) (by decide +kernel), List.mem_of_getElem? (i := 1233) (by decide +kernel), List.mem_of_getElem? (i := 1234) (by decide +kernel)⟩
theorem lw_p59 : lw_okq (⟨"CamelStrawsModel", "chanceOf", "(III)J"⟩, 45) := ⟨⟨by decide +kernel, by decide +kernel⟩, List.mem_of_getElem? (i := 796) (by decide +kernel), List.mem_of_getElem? (i := 1241) (by decide +kernel), List.mem_of_getElem? (i := 1242) (by decide +kernel)⟩
theorem lw_p60 : lw_okq (⟨"CamelStrawsModel", "yearsOf", "(III)I"⟩, 45) := ⟨⟨by decide +kernel, by decide +kernel⟩, List.mem_of_getElem? (i := 796) (by decide +kernel), List.mem_of_getElem? (i := 1256) (by decide +kernel), List.mem_of_getElem? (i := 1257) (by decide +kernel)⟩
theorem lw_p61 : lw_okq (⟨"CamelStrawsModel", "lacks", "(III)I"⟩, 45) := ⟨⟨by decide +kernel, by decide +kernel⟩, List.mem_of_getElem? (i := 796) (by decide +kernel), List.mem_of_getElem? (i := 1273) (by decide +kernel), List.mem_of_getElem? (i := 1274) (by decide +kernel)⟩
theorem lw_p62 : lw_okq (⟨"CamelStrawsModel", "keep", "(III)V"⟩, 45) := ⟨⟨by decide +kernel, by decide +kernel⟩, List.mem_of_getElem? (i := 796) (by decide +kernel), List.mem_of_getElem? (i := 1277) (by decide +kernel), List.mem_of_getElem? (i := 1278) (by decide +kernel)⟩
theorem lw_p63 : lw_okq (⟨"CamelStrawsModel", "sumOf", "(I)I"⟩, 45) := ⟨⟨by decide +kernel, by decide +kernel⟩, List.mem_of_getElem? (i := 796) (by decide +kernel), List.mem_of_getElem? (i := 1298) (by decide +kernel), List.mem_of_getElem? (i := 1299) (by decide +kernel)⟩
def lw_privs_4 : List (MethodName × Nat) := [(⟨"CamelStrawsModel", "bearOf", "(II)I"⟩, 45), (⟨"CamelStrawsModel", "whenOf", "(II)I"⟩, 45), (⟨"CamelStrawsModel", "spareBy", "()I"⟩, 45), (⟨"CamelStrawsModel", "isSpared", "(I)Z"⟩, 45), (⟨"CamelStrawsModel", "brokeAll", "()I"⟩, 45), (⟨"CamelStrawsModel", "ofRow", "(II)I"⟩, 45), (⟨"CamelStrawsModel", "neverNow", "()I"⟩, 45), (⟨"CamelStrawsModel", "isSeen", "()Z"⟩, 45), (⟨"CamelStrawsModel", "sortsBy", "(I)I"⟩, 45), (⟨"CamelStrawsModel", "strongBy", "(I)I"⟩, 45), (⟨"CamelStrawsModel", "askOf", "(I)I"⟩, 45), (⟨"CamelStrawsModel", "chanceOf", "(III)J"⟩, 45), (⟨"CamelStrawsModel", "yearsOf", "(III)I"⟩, 45), (⟨"CamelStrawsModel", "lacks", "(III)I"⟩, 45), (⟨"CamelStrawsModel", "keep", "(III)V"⟩, 45), (⟨"CamelStrawsModel", "sumOf", "(I)I"⟩, 45)]
theorem lw_r4 : ∀ q ∈ lw_privs_4, lw_okq q := List.forall_mem_cons.mpr ⟨lw_p48, List.forall_mem_cons.mpr ⟨lw_p49, List.forall_mem_cons.mpr ⟨lw_p50, List.forall_mem_cons.mpr ⟨lw_p51, List.forall_mem_cons.mpr ⟨lw_p52, List.forall_mem_cons.mpr ⟨lw_p53, List.forall_mem_cons.mpr ⟨lw_p54, List.forall_mem_cons.mpr ⟨lw_p55, List.forall_mem_cons.mpr ⟨lw_p56, List.forall_mem_cons.mpr ⟨lw_p57, List.forall_mem_cons.mpr ⟨lw_p58, List.forall_mem_cons.mpr ⟨lw_p59, List.forall_mem_cons.mpr ⟨lw_p60, List.forall_mem_cons.mpr ⟨lw_p61, List.forall_mem_cons.mpr ⟨lw_p62, List.forall_mem_cons.mpr ⟨lw_p63, fun _ h => absurd h List.not_mem_nil⟩⟩⟩⟩⟩⟩⟩⟩⟩⟩⟩⟩⟩⟩⟩⟩
theorem lw_p64 : lw_okq (⟨"CamelStrawsModel", "feesAll", "()I"⟩, 45) := ⟨⟨by decide +kernel, by decide +kernel⟩, List.mem_of_getElem? (i := 796) (by decide +kernel), List.mem_of_getElem? (i := 1302) (by decide +kernel), List.mem_of_getElem? (i := 1303) (by decide +kernel)⟩
theorem lw_p65 : lw_okq (⟨"CamelStrawsModel", "baleDigest", "(JI)J"⟩, 45) := ⟨⟨by decide +kernel, by decide +kernel⟩, List.mem_of_getElem? (i := 796) (by decide +kernel), List.mem_of_getElem? (i := 1313) (by decide +kernel), List.mem_of_getElem? (i := 1314) (by decide +kernel)⟩
theorem lw_p66 : lw_okq (⟨"CamelStrawsModel", "camelDigest", "(JI)J"⟩, 45) := ⟨⟨by decide +kernel, by decide +kernel⟩, List.mem_of_getElem? (i := 796) (by decide +kernel), List.mem_of_getElem? (i := 1317) (by decide +kernel), List.mem_of_getElem? (i := 1318) (by decide +kernel)⟩
theorem lw_p67 : lw_okq (⟨"CamelStrawsModel", "dayDigest", "(JII)J"⟩, 45) := ⟨⟨by decide +kernel, by decide +kernel⟩, List.mem_of_getElem? (i := 796) (by decide +kernel), List.mem_of_getElem? (i := 1321) (by decide +kernel), List.mem_of_getElem? (i := 1322) (by decide +kernel)⟩
def lw_privs_5 : List (MethodName × Nat) := [(⟨"CamelStrawsModel", "feesAll", "()I"⟩, 45), (⟨"CamelStrawsModel", "baleDigest", "(JI)J"⟩, 45), (⟨"CamelStrawsModel", "camelDigest", "(JI)J"⟩, 45), (⟨"CamelStrawsModel", "dayDigest", "(JII)J"⟩, 45)]
theorem lw_r5 : ∀ q ∈ lw_privs_5, lw_okq q := List.forall_mem_cons.mpr ⟨lw_p64, List.forall_mem_cons.mpr ⟨lw_p65, List.forall_mem_cons.mpr ⟨lw_p66, List.forall_mem_cons.mpr ⟨lw_p67, fun _ h => absurd h List.not_mem_nil⟩⟩⟩⟩
def lw_privs : List (MethodName × Nat) := lw_privs_1 ++ (lw_privs_2 ++ (lw_privs_3 ++ (lw_privs_4 ++ (lw_privs_5))))
def lw_tbl : List Cond := k2_sels lw_privs ++ tables_1
theorem lw_privs_ok : ∀ q ∈ lw_privs, lw_okq q := by
  show ∀ q ∈ lw_privs_1 ++ (lw_privs_2 ++ (lw_privs_3 ++ (lw_privs_4 ++ (lw_privs_5)))), lw_okq q
  exact List.forall_mem_append.mpr ⟨lw_r1, List.forall_mem_append.mpr ⟨lw_r2, List.forall_mem_append.mpr ⟨lw_r3, List.forall_mem_append.mpr ⟨lw_r4, lw_r5⟩⟩⟩⟩
end
section
/-! names of the classes, their fields, the cells that the two constructors make (printed by wip/gen/names.py out of the claim) -/
def K_0 : String := "CamelStraws"
def T_0 : u_T := fun k => match k with
  | 0 => ("CamelStraws", "camels", "LCamelStraws$Camels;", true)
  | 1 => ("CamelStraws", "bales", "LCamelStraws$Bales;", true)
  | 2 => ("CamelStraws", "texts", "[LCamelStraws$Text;", true)
  | 3 => ("CamelStraws", "straws", "LCamelStraws$Straws;", true)
  | 4 => ("CamelStraws", "drawn", "LCamelStraws$Straws;", true)
  | 5 => ("CamelStraws", "caravan", "LCamelStraws$Caravan;", true)
  | 6 => ("CamelStraws", "plans", "LCamelStraws$Plans;", true)
  | 7 => ("CamelStraws", "guesses", "LCamelStraws$Guesses;", true)
  | 8 => ("CamelStraws", "odds", "LCamelStraws$Odds;", true)
  | 9 => ("CamelStraws", "sheets", "[LCamelStraws$Sheet;", true)
  | _ => ("CamelStraws", "latestFinding", "I", false)
def ft_0 : Nat → FieldType := fun k => match k with
  | 0 => .object "CamelStraws$Camels"
  | 1 => .object "CamelStraws$Bales"
  | 2 => .array (.object "CamelStraws$Text")
  | 3 => .object "CamelStraws$Straws"
  | 4 => .object "CamelStraws$Straws"
  | 5 => .object "CamelStraws$Caravan"
  | 6 => .object "CamelStraws$Plans"
  | 7 => .object "CamelStraws$Guesses"
  | 8 => .object "CamelStraws$Odds"
  | 9 => .array (.object "CamelStraws$Sheet")
  | _ => .int
def K_1 : String := "CamelStraws$Bales"
def T_1 : u_T := fun k => match k with
  | 0 => ("CamelStraws$Text", "bytes", "[I", true)
  | 1 => ("CamelStraws$Text", "period", "I", true)
  | 2 => ("CamelStraws$Text", "size", "I", false)
  | 3 => ("CamelStraws$Text", "faultPlace", "I", false)
  | 4 => ("CamelStraws$Text", "items", "I", false)
  | 5 => ("CamelStraws$Bales", "camels", "[I", true)
  | 6 => ("CamelStraws$Bales", "weights", "[I", true)
  | _ => ("CamelStraws$Bales", "days", "[I", true)
def ft_1 : Nat → FieldType := fun k => match k with
  | 0 => .array (.int)
  | 1 => .int
  | 2 => .int
  | 3 => .int
  | 4 => .int
  | 5 => .array (.int)
  | 6 => .array (.int)
  | _ => .array (.int)
def K_2 : String := "CamelStraws$Camels"
def T_2 : u_T := fun k => match k with
  | 0 => ("CamelStraws$Text", "bytes", "[I", true)
  | 1 => ("CamelStraws$Text", "period", "I", true)
  | 2 => ("CamelStraws$Text", "size", "I", false)
  | 3 => ("CamelStraws$Text", "faultPlace", "I", false)
  | 4 => ("CamelStraws$Text", "items", "I", false)
  | 5 => ("CamelStraws$Camels", "sorts", "[I", true)
  | _ => ("CamelStraws$Camels", "figures", "[I", true)
def ft_2 : Nat → FieldType := fun k => match k with
  | 0 => .array (.int)
  | 1 => .int
  | 2 => .int
  | 3 => .int
  | 4 => .int
  | 5 => .array (.int)
  | _ => .array (.int)
def K_3 : String := "CamelStraws$Caravan"
def T_3 : u_T := fun k => match k with
  | 0 => ("CamelStraws$Caravan", "camels", "LCamelStraws$Camels;", true)
  | 1 => ("CamelStraws$Caravan", "bales", "LCamelStraws$Bales;", true)
  | 2 => ("CamelStraws$Caravan", "straws", "LCamelStraws$Straws;", false)
  | 3 => ("CamelStraws$Caravan", "leftOut", "I", false)
  | 4 => ("CamelStraws$Caravan", "walk", "LCamelStraws$Walk;", true)
  | _ => ("CamelStraws$Caravan", "strengths", "[I", true)
def ft_3 : Nat → FieldType := fun k => match k with
  | 0 => .object "CamelStraws$Camels"
  | 1 => .object "CamelStraws$Bales"
  | 2 => .object "CamelStraws$Straws"
  | 3 => .int
  | 4 => .object "CamelStraws$Walk"
  | _ => .array (.int)
def K_4 : String := "CamelStraws$Guesses"
def T_4 : u_T := fun k => match k with
  | 0 => ("CamelStraws$Guesses", "caravan", "LCamelStraws$Caravan;", true)
  | 1 => ("CamelStraws$Guesses", "days", "[I", true)
  | 2 => ("CamelStraws$Guesses", "places", "[I", true)
  | 3 => ("CamelStraws$Guesses", "loads", "[I", true)
  | 4 => ("CamelStraws$Guesses", "number", "I", false)
  | _ => ("CamelStraws$Guesses", "loadsByFigure", "[I", true)
def ft_4 : Nat → FieldType := fun k => match k with
  | 0 => .object "CamelStraws$Caravan"
  | 1 => .array (.int)
  | 2 => .array (.int)
  | 3 => .array (.int)
  | 4 => .int
  | _ => .array (.int)
def K_5 : String := "CamelStraws$Odds"
def T_5 : u_T := fun k => match k with
  | 0 => ("CamelStraws$Odds", "caravan", "LCamelStraws$Caravan;", true)
  | 1 => ("CamelStraws$Odds", "above", "J", false)
  | _ => ("CamelStraws$Odds", "below", "J", false)
def ft_5 : Nat → FieldType := fun k => match k with
  | 0 => .object "CamelStraws$Caravan"
  | 1 => .long
  | _ => .long
def K_6 : String := "CamelStraws$Plans"
def T_6 : u_T := fun k => match k with
  | 0 => ("CamelStraws$Plans", "caravan", "LCamelStraws$Caravan;", true)
  | 1 => ("CamelStraws$Plans", "which", "I", false)
  | _ => ("CamelStraws$Plans", "howMuch", "I", false)
def ft_6 : Nat → FieldType := fun k => match k with
  | 0 => .object "CamelStraws$Caravan"
  | 1 => .int
  | _ => .int
def K_7 : String := "CamelStraws$Sheet"
def T_7 : u_T := fun k => match k with
  | 0 => ("CamelStraws$Sheet", "items", "[I", true)
  | 1 => ("CamelStraws$Sheet", "form", "I", false)
  | _ => ("CamelStraws$Sheet", "size", "I", false)
def ft_7 : Nat → FieldType := fun k => match k with
  | 0 => .array (.int)
  | 1 => .int
  | _ => .int
def K_8 : String := "CamelStraws$Straws"
def T_8 : u_T := fun k => match k with
  | 0 => ("CamelStraws$Straws", "days", "[I", true)
  | 1 => ("CamelStraws$Straws", "camels", "[I", true)
  | _ => ("CamelStraws$Straws", "number", "I", false)
def ft_8 : Nat → FieldType := fun k => match k with
  | 0 => .array (.int)
  | 1 => .array (.int)
  | _ => .int
def K_9 : String := "CamelStraws$Walk"
def T_9 : u_T := fun k => match k with
  | 0 => ("CamelStraws$Walk", "kept", "[I", true)
  | 1 => ("CamelStraws$Walk", "sort", "I", false)
  | 2 => ("CamelStraws$Walk", "strengthAtFirst", "I", false)
  | 3 => ("CamelStraws$Walk", "load", "I", false)
  | 4 => ("CamelStraws$Walk", "strength", "I", false)
  | 5 => ("CamelStraws$Walk", "dayOfFall", "I", false)
  | 6 => ("CamelStraws$Walk", "fees", "I", false)
  | 7 => ("CamelStraws$Walk", "brought", "I", false)
  | 8 => ("CamelStraws$Walk", "spilt", "I", false)
  | 9 => ("CamelStraws$Walk", "room", "I", false)
  | 10 => ("CamelStraws$Walk", "lies", "Z", false)
  | 11 => ("CamelStraws$Walk", "broke", "I", false)
  | _ => ("CamelStraws$Walk", "firstFall", "I", false)
def ft_9 : Nat → FieldType := fun k => match k with
  | 0 => .array (.int)
  | 1 => .int
  | 2 => .int
  | 3 => .int
  | 4 => .int
  | 5 => .int
  | 6 => .int
  | 7 => .int
  | 8 => .int
  | 9 => .int
  | 10 => .boolean
  | 11 => .int
  | _ => .int
def K_10 : String := "CamelStrawsModel"
def T_10 : u_T := fun k => match k with
  | 0 => ("CamelStrawsModel", "typed", "[I", true)
  | 1 => ("CamelStrawsModel", "texts", "[I", true)
  | 2 => ("CamelStrawsModel", "camels", "I", false)
  | 3 => ("CamelStrawsModel", "sorts", "[I", true)
  | 4 => ("CamelStrawsModel", "figures", "[I", true)
  | 5 => ("CamelStrawsModel", "bales", "I", false)
  | 6 => ("CamelStrawsModel", "baleOn", "[I", true)
  | 7 => ("CamelStrawsModel", "baleBy", "[I", true)
  | 8 => ("CamelStrawsModel", "baleDay", "[I", true)
  | 9 => ("CamelStrawsModel", "straws", "I", false)
  | 10 => ("CamelStrawsModel", "strawDay", "[I", true)
  | 11 => ("CamelStrawsModel", "strawOn", "[I", true)
  | 12 => ("CamelStrawsModel", "strawsNow", "I", false)
  | 13 => ("CamelStrawsModel", "dayNow", "[I", true)
  | 14 => ("CamelStrawsModel", "onNow", "[I", true)
  | 15 => ("CamelStrawsModel", "notStraws", "I", false)
  | 16 => ("CamelStrawsModel", "isLast", "Z", false)
  | 17 => ("CamelStrawsModel", "loads", "[I", true)
  | 18 => ("CamelStrawsModel", "strengths", "[I", true)
  | 19 => ("CamelStrawsModel", "lies", "[I", true)
  | 20 => ("CamelStrawsModel", "fees", "[I", true)
  | 21 => ("CamelStrawsModel", "brought", "[I", true)
  | 22 => ("CamelStrawsModel", "broke", "[I", true)
  | 23 => ("CamelStrawsModel", "lostNow", "I", false)
  | 24 => ("CamelStrawsModel", "firstDay", "I", false)
  | 25 => ("CamelStrawsModel", "firstWho", "I", false)
  | 26 => ("CamelStrawsModel", "loadAt", "[I", true)
  | 27 => ("CamelStrawsModel", "strengthAt", "[I", true)
  | 28 => ("CamelStrawsModel", "lieAt", "[I", true)
  | 29 => ("CamelStrawsModel", "feeAt", "[I", true)
  | 30 => ("CamelStrawsModel", "broughtAt", "[I", true)
  | 31 => ("CamelStrawsModel", "brokeAt", "[I", true)
  | 32 => ("CamelStrawsModel", "lastAt", "[I", true)
  | 33 => ("CamelStrawsModel", "planRow", "[I", true)
  | 34 => ("CamelStrawsModel", "seens", "I", false)
  | 35 => ("CamelStrawsModel", "seenDay", "[I", true)
  | 36 => ("CamelStrawsModel", "seenWho", "[I", true)
  | 37 => ("CamelStrawsModel", "seenLoad", "[I", true)
  | 38 => ("CamelStrawsModel", "loadBy", "[I", true)
  | 39 => ("CamelStrawsModel", "isThere", "[Z", true)
  | 40 => ("CamelStrawsModel", "forms", "[I", true)
  | 41 => ("CamelStrawsModel", "sizes", "[I", true)
  | 42 => ("CamelStrawsModel", "items", "[I", true)
  | 43 => ("CamelStrawsModel", "moved", "[I", true)
  | _ => ("CamelStrawsModel", "finding", "I", false)
def ft_10 : Nat → FieldType := fun k => match k with
  | 0 => .array (.int)
  | 1 => .array (.int)
  | 2 => .int
  | 3 => .array (.int)
  | 4 => .array (.int)
  | 5 => .int
  | 6 => .array (.int)
  | 7 => .array (.int)
  | 8 => .array (.int)
  | 9 => .int
  | 10 => .array (.int)
  | 11 => .array (.int)
  | 12 => .int
  | 13 => .array (.int)
  | 14 => .array (.int)
  | 15 => .int
  | 16 => .boolean
  | 17 => .array (.int)
  | 18 => .array (.int)
  | 19 => .array (.int)
  | 20 => .array (.int)
  | 21 => .array (.int)
  | 22 => .array (.int)
  | 23 => .int
  | 24 => .int
  | 25 => .int
  | 26 => .array (.int)
  | 27 => .array (.int)
  | 28 => .array (.int)
  | 29 => .array (.int)
  | 30 => .array (.int)
  | 31 => .array (.int)
  | 32 => .array (.int)
  | 33 => .array (.int)
  | 34 => .int
  | 35 => .array (.int)
  | 36 => .array (.int)
  | 37 => .array (.int)
  | 38 => .array (.int)
  | 39 => .array (.boolean)
  | 40 => .array (.int)
  | 41 => .array (.int)
  | 42 => .array (.int)
  | 43 => .array (.int)
  | _ => .int
def softW : Cond → Bool
  | .methodLinkNest _ _ _ _ => true
  | .declares _ => true
  | .castable _ _ => true
  | .arrayOver (.object _) => true
  | _ => false
def okW (w : Cond) : Bool := goodWord w || softW w
def ex_l : List Cond := [.selects "CamelStraws$Camels" ⟨"CamelStraws$Text", "parse", "()V"⟩ ⟨"CamelStraws$Text", "parse", "()V"⟩, .selects "CamelStraws$Bales" ⟨"CamelStraws$Text", "parse", "()V"⟩ ⟨"CamelStraws$Text", "parse", "()V"⟩, .selects "CamelStraws$Camels" ⟨"CamelStraws$Text", "findFault", "()I"⟩ ⟨"CamelStraws$Text", "findFault", "()I"⟩, .selects "CamelStraws$Bales" ⟨"CamelStraws$Text", "findFault", "()I"⟩ ⟨"CamelStraws$Text", "findFault", "()I"⟩]
def lw_t2 : List Cond := lw_tbl ++ ex_l
def tb_l : List Cond := lw_t2.filter okW
def cl_s : List vw_C := [(K_0, T_0, 11), (K_1, T_1, 8), (K_2, T_2, 7), (K_3, T_3, 6), (K_4, T_4, 6), (K_5, T_5, 3), (K_6, T_6, 3), (K_7, T_7, 3), (K_8, T_8, 3), (K_9, T_9, 13), (K_10, T_10, 45)]
def nc_c : Nat := 72
def kd_l : List Nat := [20, 20, 20, 20, 21, 20, 20, 20, 20, 20, 20, 20, 20, 20, 20, 20, 20, 20, 20, 20, 20, 20, 20, 20, 20, 20, 20, 20, 20, 20, 20, 20, 20, 20, 10, 20, 7, 20, 7, 20, 7, 20, 7, 23, 5, 20, 20, 20, 20, 4, 6, 20, 20, 9, 3, 20, 20, 8, 20, 20, 8, 22, 20, 20, 20, 20, 1, 20, 20, 20, 2, 0]
def ln_l : List Nat := [60, 240, 4, 4, 4, 240, 8, 8, 8, 2, 24, 192, 192, 192, 192, 192, 192, 8, 8, 8, 8, 8, 8, 17, 17, 8, 8, 11, 11, 11, 9, 9, 78, 2, 0, 60, 0, 60, 0, 60, 0, 60, 0, 4, 0, 240, 8, 8, 8, 0, 0, 24, 192, 0, 0, 8, 8, 0, 8, 8, 0, 2, 10, 10, 10, 39, 0, 8, 8, 23, 0, 0]
def fd_l : List (List (Nat × Nat)) := [[], [], [], [], [], [], [], [], [], [], [], [], [], [], [], [], [], [], [], [], [], [], [], [], [], [], [], [], [], [], [], [], [], [], [(2, 33), (2, 32), (0, 0), (2, 31), (2, 30), (0, 0), (2, 29), (2, 28), (2, 27), (0, 0), (2, 26), (2, 25), (0, 0), (2, 24), (2, 23), (0, 0), (0, 0), (2, 22), (2, 21), (2, 20), (2, 19), (2, 18), (2, 17), (0, 0), (0, 0), (0, 0), (2, 16), (2, 15), (2, 14), (2, 13), (2, 12), (2, 11), (2, 10), (2, 9), (0, 0), (2, 8), (2, 7), (2, 6), (2, 5), (2, 4), (2, 3), (2, 2), (2, 1), (2, 0), (0, 0)], [], [(2, 35), (0, 0), (0, 0)], [], [(2, 37), (0, 0), (0, 0)], [], [(2, 39), (0, 0), (0, 0)], [], [(2, 41), (0, 0), (0, 0)], [], [(2, 54), (1, 0), (1, 0)], [], [], [], [], [(2, 54), (2, 48), (2, 47), (2, 46), (0, 0), (2, 45)], [(2, 54), (0, 0), (0, 0)], [], [], [(2, 52), (0, 0), (0, 0), (0, 0), (0, 0), (0, 0), (0, 0), (0, 0), (0, 0), (0, 0), (0, 0), (0, 0), (0, 0)], [(2, 70), (2, 66), (3, 0), (0, 0), (2, 53), (2, 51)], [], [], [(2, 56), (2, 55), (0, 0)], [], [], [(2, 59), (2, 58), (0, 0)], [], [], [], [], [], [(2, 65), (0, 0), (0, 0), (0, 0), (0, 0), (2, 64), (2, 63), (2, 62)], [], [], [], [(2, 69), (0, 0), (0, 0), (0, 0), (0, 0), (2, 68), (2, 67)], [(2, 70), (2, 66), (2, 61), (2, 60), (2, 57), (2, 54), (2, 50), (2, 49), (2, 44), (2, 43), (0, 0)]]
def rx_l : List (List Nat) := [[], [], [], [], [], [], [], [], [], [], [], [], [], [], [], [], [], [], [], [], [], [], [], [], [], [], [], [], [], [], [], [], [], [], [], [], [], [], [], [], [], [], [], [42, 40, 38, 36], [], [], [], [], [], [], [], [], [], [], [], [], [], [], [], [], [], [70, 66], [], [], [], [], [], [], [], [], [], []]
def kd (a : Nat) : Nat := kd_l.getD a 99
def ln (a : Nat) : Nat := ln_l.getD a 0
def fdl (a : Nat) : List (Nat × Nat) := fd_l.getD a []
def rfx (a i : Nat) : Nat := (rx_l.getD a []).getD i 0
def cl_ok (ci : Nat) (C : String) (T : u_T) (N : Nat) (ty : Nat → FieldType) : Prop := cl_s[ci]? = some (C, T, N) ∧ (∀ w ∈ u_ws C T N, w ∈ tb_l) ∧ (∀ k, k < N → parseFieldDescriptor (T k).2.2.1 = some (ty k)) ∧ (∀ a, a < N → ∀ b, b < N → a ≠ b → (T a).2.1 ≠ (T b).2.1)
theorem in_0 : ∀ w ∈ u_ws K_0 T_0 11, w ∈ tb_l := by
  have h : u_ws K_0 T_0 11 = [377, 379, 381, 383, 385, 387, 389, 391, 393, 395, 397].filterMap (fun i => lw_t2[i]?) := by decide +kernel
  have h2 : (u_ws K_0 T_0 11).all okW = true := by decide +kernel
  intro w hw
  have h3 := List.all_eq_true.mp h2 w hw
  rw [h] at hw
  obtain ⟨j, -, hj⟩ := List.mem_filterMap.mp hw
  exact List.mem_filter.mpr ⟨List.mem_of_getElem? hj, h3⟩
theorem cq_0 : cl_ok 0 K_0 T_0 11 ft_0 := ⟨rfl, in_0, by decide +kernel, by decide +kernel⟩
theorem in_1 : ∀ w ∈ u_ws K_1 T_1 8, w ∈ tb_l := by
  have h : u_ws K_1 T_1 8 = [170, 171, 172, 173, 174, 164, 166, 168].filterMap (fun i => lw_t2[i]?) := by decide +kernel
  have h2 : (u_ws K_1 T_1 8).all okW = true := by decide +kernel
  intro w hw
  have h3 := List.all_eq_true.mp h2 w hw
  rw [h] at hw
  obtain ⟨j, -, hj⟩ := List.mem_filterMap.mp hw
  exact List.mem_filter.mpr ⟨List.mem_of_getElem? hj, h3⟩
theorem cq_1 : cl_ok 1 K_1 T_1 8 ft_1 := ⟨rfl, in_1, by decide +kernel, by decide +kernel⟩
theorem in_2 : ∀ w ∈ u_ws K_2 T_2 7, w ∈ tb_l := by
  have h : u_ws K_2 T_2 7 = [135, 137, 139, 141, 143, 131, 133].filterMap (fun i => lw_t2[i]?) := by decide +kernel
  have h2 : (u_ws K_2 T_2 7).all okW = true := by decide +kernel
  intro w hw
  have h3 := List.all_eq_true.mp h2 w hw
  rw [h] at hw
  obtain ⟨j, -, hj⟩ := List.mem_filterMap.mp hw
  exact List.mem_filter.mpr ⟨List.mem_of_getElem? hj, h3⟩
theorem cq_2 : cl_ok 2 K_2 T_2 7 ft_2 := ⟨rfl, in_2, by decide +kernel, by decide +kernel⟩
theorem in_3 : ∀ w ∈ u_ws K_3 T_3 6, w ∈ tb_l := by
  have h : u_ws K_3 T_3 6 = [271, 273, 275, 277, 279, 281].filterMap (fun i => lw_t2[i]?) := by decide +kernel
  have h2 : (u_ws K_3 T_3 6).all okW = true := by decide +kernel
  intro w hw
  have h3 := List.all_eq_true.mp h2 w hw
  rw [h] at hw
  obtain ⟨j, -, hj⟩ := List.mem_filterMap.mp hw
  exact List.mem_filter.mpr ⟨List.mem_of_getElem? hj, h3⟩
theorem cq_3 : cl_ok 3 K_3 T_3 6 ft_3 := ⟨rfl, in_3, by decide +kernel, by decide +kernel⟩
theorem in_4 : ∀ w ∈ u_ws K_4 T_4 6, w ∈ tb_l := by
  have h : u_ws K_4 T_4 6 = [315, 317, 319, 321, 323, 325].filterMap (fun i => lw_t2[i]?) := by decide +kernel
  have h2 : (u_ws K_4 T_4 6).all okW = true := by decide +kernel
  intro w hw
  have h3 := List.all_eq_true.mp h2 w hw
  rw [h] at hw
  obtain ⟨j, -, hj⟩ := List.mem_filterMap.mp hw
  exact List.mem_filter.mpr ⟨List.mem_of_getElem? hj, h3⟩
theorem cq_4 : cl_ok 4 K_4 T_4 6 ft_4 := ⟨rfl, in_4, by decide +kernel, by decide +kernel⟩
theorem in_5 : ∀ w ∈ u_ws K_5 T_5 3, w ∈ tb_l := by
  have h : u_ws K_5 T_5 3 = [339, 341, 343].filterMap (fun i => lw_t2[i]?) := by decide +kernel
  have h2 : (u_ws K_5 T_5 3).all okW = true := by decide +kernel
  intro w hw
  have h3 := List.all_eq_true.mp h2 w hw
  rw [h] at hw
  obtain ⟨j, -, hj⟩ := List.mem_filterMap.mp hw
  exact List.mem_filter.mpr ⟨List.mem_of_getElem? hj, h3⟩
theorem cq_5 : cl_ok 5 K_5 T_5 3 ft_5 := ⟨rfl, in_5, by decide +kernel, by decide +kernel⟩
theorem in_6 : ∀ w ∈ u_ws K_6 T_6 3, w ∈ tb_l := by
  have h : u_ws K_6 T_6 3 = [295, 297, 299].filterMap (fun i => lw_t2[i]?) := by decide +kernel
  have h2 : (u_ws K_6 T_6 3).all okW = true := by decide +kernel
  intro w hw
  have h3 := List.all_eq_true.mp h2 w hw
  rw [h] at hw
  obtain ⟨j, -, hj⟩ := List.mem_filterMap.mp hw
  exact List.mem_filter.mpr ⟨List.mem_of_getElem? hj, h3⟩
theorem cq_6 : cl_ok 6 K_6 T_6 3 ft_6 := ⟨rfl, in_6, by decide +kernel, by decide +kernel⟩
theorem in_7 : ∀ w ∈ u_ws K_7 T_7 3, w ∈ tb_l := by
  have h : u_ws K_7 T_7 3 = [359, 361, 363].filterMap (fun i => lw_t2[i]?) := by decide +kernel
  have h2 : (u_ws K_7 T_7 3).all okW = true := by decide +kernel
  intro w hw
  have h3 := List.all_eq_true.mp h2 w hw
  rw [h] at hw
  obtain ⟨j, -, hj⟩ := List.mem_filterMap.mp hw
  exact List.mem_filter.mpr ⟨List.mem_of_getElem? hj, h3⟩
theorem cq_7 : cl_ok 7 K_7 T_7 3 ft_7 := ⟨rfl, in_7, by decide +kernel, by decide +kernel⟩
theorem in_8 : ∀ w ∈ u_ws K_8 T_8 3, w ∈ tb_l := by
  have h : u_ws K_8 T_8 3 = [193, 195, 197].filterMap (fun i => lw_t2[i]?) := by decide +kernel
  have h2 : (u_ws K_8 T_8 3).all okW = true := by decide +kernel
  intro w hw
  have h3 := List.all_eq_true.mp h2 w hw
  rw [h] at hw
  obtain ⟨j, -, hj⟩ := List.mem_filterMap.mp hw
  exact List.mem_filter.mpr ⟨List.mem_of_getElem? hj, h3⟩
theorem cq_8 : cl_ok 8 K_8 T_8 3 ft_8 := ⟨rfl, in_8, by decide +kernel, by decide +kernel⟩
theorem in_9 : ∀ w ∈ u_ws K_9 T_9 13, w ∈ tb_l := by
  have h : u_ws K_9 T_9 13 = [229, 231, 233, 235, 237, 239, 241, 243, 245, 247, 249, 251, 253].filterMap (fun i => lw_t2[i]?) := by decide +kernel
  have h2 : (u_ws K_9 T_9 13).all okW = true := by decide +kernel
  intro w hw
  have h3 := List.all_eq_true.mp h2 w hw
  rw [h] at hw
  obtain ⟨j, -, hj⟩ := List.mem_filterMap.mp hw
  exact List.mem_filter.mpr ⟨List.mem_of_getElem? hj, h3⟩
theorem cq_9 : cl_ok 9 K_9 T_9 13 ft_9 := ⟨rfl, in_9, by decide +kernel, by decide +kernel⟩
theorem in_10 : ∀ w ∈ u_ws K_10 T_10 45, w ∈ tb_l := by
  have h : u_ws K_10 T_10 45 = [914, 916, 918, 920, 922, 924, 926, 928, 930, 932, 934, 936, 938, 940, 942, 944, 946, 948, 950, 952, 954, 956, 958, 960, 962, 964, 966, 968, 970, 972, 974, 976, 978, 980, 982, 984, 986, 988, 990, 992, 994, 996, 998, 1000, 1002].filterMap (fun i => lw_t2[i]?) := by decide +kernel
  have h2 : (u_ws K_10 T_10 45).all okW = true := by decide +kernel
  intro w hw
  have h3 := List.all_eq_true.mp h2 w hw
  rw [h] at hw
  obtain ⟨j, -, hj⟩ := List.mem_filterMap.mp hw
  exact List.mem_filter.mpr ⟨List.mem_of_getElem? hj, h3⟩
theorem cq_10 : cl_ok 10 K_10 T_10 45 ft_10 := ⟨rfl, in_10, by decide +kernel, by decide +kernel⟩
theorem tb_ok : ∀ w ∈ tb_l, okW w = true := fun w h => (List.mem_filter.mp h).2
theorem tb_in {w : Cond} (i : Nat) (h : lw_t2[i]? = some w) (hk : okW w = true) : w ∈ tb_l := List.mem_filter.mpr ⟨List.mem_of_getElem? h, hk⟩
end
section
/-! the judgement over the abstract heap: one world (72 cells), every method's body a walk in it -/
abbrev GG : Type := va_G × (ClassId × ClassId × ClassId × ClassId)
def ty4 (g : GG) : List (ClassId × FieldType) := [(g.2.1, .int), (g.2.2.1, .boolean), (g.2.2.2.1, .object "CamelStraws$Text"), (g.2.2.2.2, .object "CamelStraws$Sheet")]
def XW (U : State) : Prop := ∀ w ∈ tb_l, w.before #[] U = true
theorem okW_tab {w : Cond} (h : okW w = true) : w.onTables = true ∨ (∃ ty, w = .arrayClass ty) ∨ ∃ C, w = .arrayOver (.object C) := by
  unfold okW at h
  rcases Bool.or_eq_true_iff.mp h with h | h
  · rcases good_of_word h with h | ⟨ty, rfl⟩
    · exact Or.inl (Bool.and_eq_true_iff.mp h).1
    · exact Or.inr (Or.inl ⟨ty, rfl⟩)
  · unfold softW at h
    split at h
    · exact Or.inl rfl
    · exact Or.inl rfl
    · exact Or.inl rfl
    · exact Or.inr (Or.inr ⟨_, rfl⟩)
    · cases h
theorem okW_any {w : Cond} (hw : okW w = true) {A A' : Array Value} {u U : State} (h : u.vm = U.vm) (hb : w.before A u = true) : w.before A' U = true := by
  rcases okW_tab hw with ht | ⟨ty, rfl⟩ | ⟨C, rfl⟩
  · exact va_tabs ht h hb
  · have h2 : u.WarmedH U.vm := by rw [← h]; exact State.WarmedH.refl u
    exact word_at h2 (Or.inr ⟨_, rfl⟩) hb
  · exact va_AO.use (va_AO.moved (by rw [h]; exact Vm.Alike.refl _) (va_AO.of hb))
theorem XW.same {u U : State} (h : u.vm = U.vm) (hx : XW u) : XW U := fun w hw => okW_any (tb_ok w hw) h (hx w hw)
theorem XW.hts {s : State} (h : XW s) (args : Array Value) : ∀ w ∈ tb_l, w.before args s = true := fun w hw => okW_any (tb_ok w hw) rfl (h w hw)
theorem XW.warm {s U : State} (hW : s.WarmedH U.vm) (h : XW s) : XW U := by
  intro w hw
  have hb := h w hw
  have hk := tb_ok w hw
  unfold okW at hk
  rcases Bool.or_eq_true_iff.mp hk with hk | hk
  · exact word_at hW (good_of_word hk) hb
  · unfold softW at hk
    split at hk
    · exact va_Nw.warmM hW hb
    · exact va_Nw.warmD hW hb
    · exact va_Nw.warmC hW hb
    · exact va_AO.use (va_AO.moved hW.alike (va_AO.of hb))
    · cases hk
def wk (g : GG) (U : State) : Prop := va_K g.1 cl_s (ty4 g) U ∧ XW U
theorem wk.warm {g : GG} {s U : State} (hW : s.WarmedH U.vm) (h : wk g s) : wk g U := ⟨va_K.moved hW.alike h.1, XW.warm hW h.2⟩
theorem wk.calling {g : GG} {U : State} {f : JFrame} {mk : MethodId} {a : Array Value} (h : wk g U) : wk g (U.calling f mk a) := ⟨va_K.moved (u := U) (U := U.calling f mk a) (Vm.Alike.refl U.vm) h.1, XW.same (u := U) (U := U.calling f mk a) rfl h.2⟩
/-! the abstract heap: ints by cell and place, longs by cell and place, the one reference that changes -/
abbrev HP : Type := (Nat → Nat → Int32) × (Nat → Nat → Int64) × Nat
def fv_ (ad : Nat → Nat) (h : HP) (a j : Nat) (fd : Nat × Nat) : Value := if fd.1 = 0 then .int (h.1 a j) else if fd.1 = 1 then .long (h.2.1 a j) else if fd.1 = 2 then .ref (ad fd.2) else .ref (ad h.2.2)
def ce_ (g : GG) (ad : Nat → Nat) (h : HP) (a : Nat) : va_E :=
  if kd a = 20 then .inl (g.2.1, ln a, .inl (h.1 a))
  else if kd a = 21 then .inl (g.2.2.1, ln a, .inl (h.1 a))
  else if kd a = 22 then .inl (g.2.2.2.1, ln a, .inr (.inr (.inr (.inr (fun i => some (ad (rfx a i)))))))
  else if kd a = 23 then .inl (g.2.2.2.2, ln a, .inr (.inr (.inr (.inr (fun i => some (ad (rfx a i)))))))
  else .inr (kd a, (fdl a).mapIdx (fun j fd => fv_ ad h a j fd))
def pic (g : GG) (ad : Nat → Nat) (h : HP) : va_W := (List.range nc_c).map (fun a => (ad a, ce_ g ad h a))
def sI (h : HP) (a j : Nat) (v : Int32) : HP := (fun b k => if b = a then (if k = j then v else h.1 b k) else h.1 b k, h.2.1, h.2.2)
def sL (h : HP) (a j : Nat) (v : Int64) : HP := (h.1, fun b k => if b = a then (if k = j then v else h.2.1 b k) else h.2.1 b k, h.2.2)
def sR (h : HP) (v : Nat) : HP := (h.1, h.2.1, v)
theorem pic_get {g : GG} {ad : Nat → Nat} {h : HP} {a : Nat} (ha : a < nc_c) : (pic g ad h)[a]? = some (ad a, ce_ g ad h a) := by
  unfold pic
  rw [List.getElem?_map, List.getElem?_range ha]
  rfl
theorem pic_set {g : GG} {ad : Nat → Nat} {h h' : HP} {a : Nat} {e : va_E} (ha : a < nc_c) (he : e = ce_ g ad h' a) (ho : ∀ b, b ≠ a → ce_ g ad h' b = ce_ g ad h b) : (pic g ad h).set a (ad a, e) = pic g ad h' := by
  apply List.ext_getElem?
  intro i
  rw [List.getElem?_set]
  by_cases hi : a = i
  · subst hi
    rw [if_pos rfl, if_pos (by simpa [pic] using ha), pic_get ha, he]
  · rw [if_neg hi]
    unfold pic
    rw [List.getElem?_map, List.getElem?_map]
    cases hr : (List.range nc_c)[i]? with
    | none => rfl
    | some b =>
      have hb : b = i := by
        have := List.getElem?_eq_some_iff.mp hr
        obtain ⟨h1, h2⟩ := this
        simpa using h2.symm
      subst hb
      simp [ho _ (Ne.symm hi)]
theorem fv_sI {ad : Nat → Nat} {h : HP} {a b j i : Nat} {v : Int32} {fd : Nat × Nat} (hn : b ≠ a ∨ i ≠ j) : fv_ ad (sI h a j v) b i fd = fv_ ad h b i fd := by
  unfold fv_ sI
  rcases hn with hn | hn
  · simp [hn]
  · by_cases hb : b = a <;> simp [hn, hb]
theorem fv_sL {ad : Nat → Nat} {h : HP} {a b j i : Nat} {v : Int64} {fd : Nat × Nat} (hn : b ≠ a ∨ i ≠ j) : fv_ ad (sL h a j v) b i fd = fv_ ad h b i fd := by
  unfold fv_ sL
  rcases hn with hn | hn
  · simp [hn]
  · by_cases hb : b = a <;> simp [hn, hb]
theorem ce_sI_ne {g : GG} {ad : Nat → Nat} {h : HP} {a j : Nat} {v : Int32} (b : Nat) (hb : b ≠ a) : ce_ g ad (sI h a j v) b = ce_ g ad h b := by
  have e1 : (sI h a j v).1 b = h.1 b := by funext k; simp [sI, hb]
  have e2 : (fun (i : Nat) (fd : Nat × Nat) => fv_ ad (sI h a j v) b i fd) = fun i fd => fv_ ad h b i fd := by funext i fd; exact fv_sI (Or.inl hb)
  unfold ce_
  rw [e1, e2]
theorem ce_sL_ne {g : GG} {ad : Nat → Nat} {h : HP} {a j : Nat} {v : Int64} (b : Nat) (hb : b ≠ a) : ce_ g ad (sL h a j v) b = ce_ g ad h b := by
  have e1 : (sL h a j v).1 b = h.1 b := rfl
  have e2 : (fun (i : Nat) (fd : Nat × Nat) => fv_ ad (sL h a j v) b i fd) = fun i fd => fv_ ad h b i fd := by funext i fd; exact fv_sL (Or.inl hb)
  unfold ce_
  rw [e1, e2]
theorem ce_obj {g : GG} {ad : Nat → Nat} {h : HP} {a : Nat} (hk : kd a < 20) : ce_ g ad h a = .inr (kd a, (fdl a).mapIdx (fun j fd => fv_ ad h a j fd)) := by
  unfold ce_
  rw [if_neg (by omega), if_neg (by omega), if_neg (by omega), if_neg (by omega)]
theorem ce_int {g : GG} {ad : Nat → Nat} {h : HP} {a : Nat} (hk : kd a = 20) : ce_ g ad h a = .inl (g.2.1, ln a, .inl (h.1 a)) := by
  unfold ce_
  rw [if_pos hk]
theorem ce_bool {g : GG} {ad : Nat → Nat} {h : HP} {a : Nat} (hk : kd a = 21) : ce_ g ad h a = .inl (g.2.2.1, ln a, .inl (h.1 a)) := by
  unfold ce_
  rw [if_neg (by omega), if_pos hk]
theorem ce_txt {g : GG} {ad : Nat → Nat} {h : HP} {a : Nat} (hk : kd a = 22) : ce_ g ad h a = .inl (g.2.2.2.1, ln a, .inr (.inr (.inr (.inr (fun i => some (ad (rfx a i))))))) := by
  unfold ce_
  rw [if_neg (by omega), if_neg (by omega), if_pos hk]
theorem ce_sht {g : GG} {ad : Nat → Nat} {h : HP} {a : Nat} (hk : kd a = 23) : ce_ g ad h a = .inl (g.2.2.2.2, ln a, .inr (.inr (.inr (.inr (fun i => some (ad (rfx a i))))))) := by
  unfold ce_
  rw [if_neg (by omega), if_neg (by omega), if_neg (by omega), if_pos hk]
theorem mapIdx_set {α β : Type} (f f' : Nat → α → β) (l : List α) (j : Nat) (v : β) (h1 : ∀ x, l[j]? = some x → f' j x = v) (h2 : ∀ i x, i ≠ j → f' i x = f i x) : (l.mapIdx f).set j v = l.mapIdx f' := by
  apply List.ext_getElem?
  intro i
  rw [List.getElem?_set, List.getElem?_mapIdx, List.getElem?_mapIdx, List.length_mapIdx]
  by_cases hi : j = i
  · subst hi
    rw [if_pos rfl]
    by_cases hl : j < l.length
    · rw [if_pos hl, List.getElem?_eq_getElem hl]
      exact congrArg some (h1 _ (List.getElem?_eq_getElem hl)).symm
    · rw [if_neg hl, List.getElem?_eq_none (by omega)]
      rfl
  · rw [if_neg hi]
    cases l[i]? with
    | none => rfl
    | some x => exact congrArg some (h2 i x (Ne.symm hi)).symm
theorem pic_sI_f {g : GG} {ad : Nat → Nat} {h : HP} {a j t : Nat} {v : Int32} (ha : a < nc_c) (hk : kd a < 20) (hf : (fdl a)[j]? = some (0, t)) : (pic g ad h).set a (ad a, .inr (kd a, ((fdl a).mapIdx (fun j fd => fv_ ad h a j fd)).set j (.int v))) = pic g ad (sI h a j v) := by
  refine pic_set ha ?_ ce_sI_ne
  rw [ce_obj hk, mapIdx_set _ (fun i fd => fv_ ad (sI h a j v) a i fd)]
  · intro x hx
    rw [hf] at hx
    cases hx
    simp [fv_, sI]
  · intro i x hi
    exact fv_sI (Or.inr hi)
theorem pic_sL_f {g : GG} {ad : Nat → Nat} {h : HP} {a j t : Nat} {v : Int64} (ha : a < nc_c) (hk : kd a < 20) (hf : (fdl a)[j]? = some (1, t)) : (pic g ad h).set a (ad a, .inr (kd a, ((fdl a).mapIdx (fun j fd => fv_ ad h a j fd)).set j (.long v))) = pic g ad (sL h a j v) := by
  refine pic_set ha ?_ ce_sL_ne
  rw [ce_obj hk, mapIdx_set _ (fun i fd => fv_ ad (sL h a j v) a i fd)]
  · intro x hx
    rw [hf] at hx
    cases hx
    simp [fv_, sL]
  · intro i x hi
    exact fv_sL (Or.inr hi)
theorem pic_sI_a {g : GG} {ad : Nat → Nat} {h : HP} {a j : Nat} {v : Int32} (ha : a < nc_c) (hk : kd a = 20) : (pic g ad h).set a (ad a, .inl (g.2.1, ln a, .inl (upd (h.1 a) j v))) = pic g ad (sI h a j v) := by
  refine pic_set ha ?_ ce_sI_ne
  rw [ce_int hk]
  have e : upd (h.1 a) j v = (sI h a j v).1 a := by funext k; simp [upd, sI]
  rw [e]
theorem pic_sI_z {g : GG} {ad : Nat → Nat} {h : HP} {a j : Nat} {v : Int32} (ha : a < nc_c) (hk : kd a = 21) : (pic g ad h).set a (ad a, .inl (g.2.2.1, ln a, .inl (upd (h.1 a) j v))) = pic g ad (sI h a j v) := by
  refine pic_set ha ?_ ce_sI_ne
  rw [ce_bool hk]
  have e : upd (h.1 a) j v = (sI h a j v).1 a := by funext k; simp [upd, sI]
  rw [e]
/-- a whole array anew -/
def sA (h : HP) (a : Nat) (f : Nat → Int32) : HP := (fun b => if b = a then f else h.1 b, h.2.1, h.2.2)
theorem pic_sA {g : GG} {ad : Nat → Nat} {h : HP} {a : Nat} {f : Nat → Int32} (ha : a < nc_c) (hk : kd a = 20) : (pic g ad h).set a (ad a, .inl (g.2.1, ln a, .inl f)) = pic g ad (sA h a f) := by
  refine pic_set ha ?_ (fun b hb => ?_)
  · rw [ce_int hk]
    simp [sA]
  · have e1 : (sA h a f).1 b = h.1 b := by simp [sA, hb]
    have e2 : (fun (i : Nat) (fd : Nat × Nat) => fv_ ad (sA h a f) b i fd) = fun i fd => fv_ ad h b i fd := by funext i fd; simp [fv_, sA, hb]
    unfold ce_
    rw [e1, e2]
theorem pic_sR {g : GG} {ad : Nat → Nat} {h : HP} {a j t v : Nat} (ha : a < nc_c) (hk : kd a < 20) (hf : (fdl a)[j]? = some (3, t)) (ho : ∀ b i x, (b ≠ a ∨ i ≠ j) → (fdl b)[i]? = some x → x.1 ≠ 3) (hz : ∀ b, (fdl b).all (fun x => decide (x.1 ≤ 3)) = true) : (pic g ad h).set a (ad a, .inr (kd a, ((fdl a).mapIdx (fun j fd => fv_ ad h a j fd)).set j (.ref (ad v)))) = pic g ad (sR h v) := by
  have e0 : ∀ b i x, (b ≠ a ∨ i ≠ j) → (fdl b)[i]? = some x → fv_ ad (sR h v) b i x = fv_ ad h b i x := by
    intro b i x hn hx
    have h1 := ho b i x hn hx
    have h2 := List.all_eq_true.mp (hz b) x (List.mem_of_getElem? hx)
    have h2 : x.1 ≤ 3 := of_decide_eq_true h2
    have h3 : x.1 = 0 ∨ x.1 = 1 ∨ x.1 = 2 := by omega
    unfold fv_ sR
    rcases h3 with h3 | h3 | h3 <;> simp [h3]
  refine pic_set ha ?_ (fun b hb => ?_)
  · rw [ce_obj hk]
    congr 2
    apply List.ext_getElem?
    intro i
    rw [List.getElem?_set, List.getElem?_mapIdx, List.getElem?_mapIdx, List.length_mapIdx]
    by_cases hi : j = i
    · subst hi
      have hl : j < (fdl a).length := (List.getElem?_eq_some_iff.mp hf).1
      rw [if_pos rfl, if_pos hl, hf]
      simp [fv_, sR]
    · rw [if_neg hi]
      cases hx : (fdl a)[i]? with
      | none => rfl
      | some x => exact congrArg some (e0 a i x (Or.inr (Ne.symm hi)) hx).symm
  · have e2 : (fdl b).mapIdx (fun i fd => fv_ ad (sR h v) b i fd) = (fdl b).mapIdx (fun i fd => fv_ ad h b i fd) := by
      apply List.ext_getElem?
      intro i
      rw [List.getElem?_mapIdx, List.getElem?_mapIdx]
      cases hx : (fdl b)[i]? with
      | none => rfl
      | some x => exact congrArg some (e0 b i x (Or.inl hb) hx)
    unfold ce_
    rw [e2]
    rfl
theorem pic_D {g : GG} {ad : Nat → Nat} {h h' : HP} {A : Nat → Prop} (hD : va_D A (pic g ad h)) : va_D A (pic g ad h') := by
  have key : ∀ (k : Nat) (q : Nat × va_E), (pic g ad h')[k]? = some q → ∃ q0, (pic g ad h)[k]? = some q0 ∧ q0.1 = q.1 := by
    intro k q hk
    unfold pic at hk ⊢
    rw [List.getElem?_map] at hk ⊢
    cases hr : (List.range nc_c)[k]? with
    | none => rw [hr] at hk; cases hk
    | some b =>
      rw [hr] at hk
      cases hk
      exact ⟨_, rfl, rfl⟩
  refine ⟨fun i j x y hi hj hxy => ?_, fun k q hk => ?_⟩
  · obtain ⟨x0, h1, h2⟩ := key i x hi
    obtain ⟨y0, h3, h4⟩ := key j y hj
    exact hD.1 i j x0 y0 h1 h3 (h2.trans (hxy.trans h4.symm))
  · obtain ⟨q0, h1, h2⟩ := key k q hk
    rw [← h2]
    exact hD.2 k q0 h1
end
section
/-! the judgement Vw (a method's walk over a world), Jj (the same, guarded by a pure computation), and their rows; written with the help of a short program -/
abbrev KX : Type := Launch × GG × Option (Nat × Nat × (Nat → Int32)) × Room × String × ByteArray × Nat × Bool × Nat × Nat × (Option Value → va_W → Prop) × Option FieldType
abbrev xl (x : KX) : Launch := x.1
abbrev xg (x : KX) : GG := x.2.1
abbrev xsc (x : KX) : Option (Nat × Nat × (Nat → Int32)) := x.2.2.1
abbrev xR (x : KX) : Room := x.2.2.2.1
abbrev xow (x : KX) : String := x.2.2.2.2.1
abbrev xcc (x : KX) : ByteArray := x.2.2.2.2.2.1
abbrev xnL (x : KX) : Nat := x.2.2.2.2.2.2.1
abbrev xini (x : KX) : Bool := x.2.2.2.2.2.2.2.1
abbrev xkE (x : KX) : Nat := x.2.2.2.2.2.2.2.2.1
abbrev xnE (x : KX) : Nat := x.2.2.2.2.2.2.2.2.2.1
abbrev xQ (x : KX) : Option Value → va_W → Prop := x.2.2.2.2.2.2.2.2.2.2.1
abbrev xret (x : KX) : Option FieldType := x.2.2.2.2.2.2.2.2.2.2.2
def Rw (g : GG) (A : Nat → Prop) (H0 : Heap) (ws : va_W) (H : Heap) (locs : List Loc) : Prop := va_P g.1 cl_s ws H ∧ va_D A ws ∧ va_S A H0 H locs
def Sf (x : KX) (p : Program) (s : State) (m : MethodId) (args : Array Value) (meth : Method) (c : Code) (A : Nat → Prop) : Prop :=
  p.tables.exec = Jvm.exec ∧ c.code = xcc x ∧ c.maxLocals = xnL x ∧ s.vm.findClass (xow x) = some m.cls ∧ wk (xg x) s ∧ (∀ q, s.heap.size ≤ q → A q) ∧ (xini x = true → meth.name = "<init>") ∧ ∀ b L xs, xsc x = some (b, L, xs) → va_X b L xs s s.heap ∧ b < s.heap.size ∧ ¬ A b
def RetI (cc : ByteArray) (pc : Nat) (ret : Option FieldType) (v : Option Value) : Prop :=
  (∃ r : Int32, v = some (.int r) ∧ decode cc pc = .ok (.ireturn, 1) ∧ ∃ ty, ret = some ty ∧ narrow ty (.int r) = .int r) ∨ (∃ r : Int64, v = some (.long r) ∧ decode cc pc = .ok (.lreturn, 1) ∧ ret = some .long) ∨ (∃ (a : Nat) (C : String), v = some (.ref a) ∧ decode cc pc = .ok (.areturn, 1) ∧ ret = some (.object C)) ∨ (v = none ∧ decode cc pc = .ok (.return_, 1) ∧ ret = none)
def Vw (x : KX) (k n pc : Nat) (lv : List (Nat × Value)) (st : List Value) (ws : va_W) : Prop :=
  ∀ (p : Program) (e : Env) (s : State) (m : MethodId) (args : Array Value) (below : List Frame) (meth : Method) (c : Code) (H : Heap) (locs : List Loc) (A : Nat → Prop) (Z : State → Prop) (ls : Array Slot),
    Sf x p s m args meth c A → Rw (xg x) A s.heap ws H locs → lv_has ls (xnL x) lv →
    (∀ (v : Option Value) (ws' : va_W) (H' : Heap) (locs' : List Loc) (ls' : Array Slot) (pc' : Nat), xQ x v ws' → Rw (xg x) A s.heap ws' H' locs' → RetI (xcc x) pc' (xret x) v → W p (xl x) e (xR x) s m args below meth c H' locs' (xkE x) (xnE x) Z (F0 m pc' ls' v.toList)) →
    W p (xl x) e (xR x) s m args below meth c H locs k n Z (F0 m pc ls st)
def Jj {α : Type} (X : α → Prop) (o : Option α) (P : Prop) : Prop := (∃ a, o = some a ∧ X a) → P
section ROWS
variable {x : KX} {k n pc : Nat} {lv : List (Nat × Value)} {st : List Value} {ws : va_W} {α β : Type} {X : α → Prop} {o : Option α}

theorem V_iconst {z : Int} {v : Int32} (hv : Int32.ofInt z = v) (hd : decode (xcc x) pc = .ok (.iconst z, 1)) (kk : Vw x k n (pc + 1) lv (.int v :: st) ws) : Vw x k n pc lv (st) ws := fun p e s m args below meth c H locs A Z ls S r hl hE => lv_iconst S.1 S.2.1 hd hv (kk p e s m args below meth c H locs A Z ls S r hl hE)
theorem V_bipush {z : Int} {v : Int32} (hv : (Int8.ofInt z).toInt32 = v) (hd : decode (xcc x) pc = .ok (.bipush z, 2)) (kk : Vw x k n (pc + 2) lv (.int v :: st) ws) : Vw x k n pc lv (st) ws := fun p e s m args below meth c H locs A Z ls S r hl hE => lv_bipush S.1 S.2.1 hd hv (kk p e s m args below meth c H locs A Z ls S r hl hE)
theorem V_sipush {z : Int} {v : Int32} (hv : (Int16.ofInt z).toInt32 = v) (hd : decode (xcc x) pc = .ok (.sipush z, 3)) (kk : Vw x k n (pc + 3) lv (.int v :: st) ws) : Vw x k n pc lv (st) ws := fun p e s m args below meth c H locs A Z ls S r hl hE => lv_sipush S.1 S.2.1 hd hv (kk p e s m args below meth c H locs A Z ls S r hl hE)
theorem V_lconst {z : Fin 2} {v : Int64} (hv : Int64.ofNat (z : Nat) = v) (hd : decode (xcc x) pc = .ok (.lconst z, 1)) (kk : Vw x k n (pc + 1) lv (.long v :: st) ws) : Vw x k n pc lv (st) ws := fun p e s m args below meth c H locs A Z ls S r hl hE => lv_lconst S.1 S.2.1 hd hv (kk p e s m args below meth c H locs A Z ls S r hl hE)
theorem V_ldc {ix : Nat} {v : Int32} (hw : Cond.constant (xow x) ix v ∈ tb_l) (hd : decode (xcc x) pc = .ok (.ldc ix, 2)) (kk : Vw x k n (pc + 2) lv (.int v :: st) ws) : Vw x k n pc lv (st) ws := fun p e s m args below meth c H locs A Z ls S r hl hE => lv_ldc S.1 S.2.1 S.2.2.2.1 (S.2.2.2.2.1.2.hts args _ hw) hd (kk p e s m args below meth c H locs A Z ls S r hl hE)
theorem V_ldcw {ix : Nat} {v : Int32} (hw : Cond.constant (xow x) ix v ∈ tb_l) (hd : decode (xcc x) pc = .ok (.ldc_w ix, 3)) (kk : Vw x k n (pc + 3) lv (.int v :: st) ws) : Vw x k n pc lv (st) ws := fun p e s m args below meth c H locs A Z ls S r hl hE => lv_ldcw S.1 S.2.1 S.2.2.2.1 (S.2.2.2.2.1.2.hts args _ hw) hd (kk p e s m args below meth c H locs A Z ls S r hl hE)
theorem V_ldc2 {ix : Nat} {v : Int64} (hw : Cond.constantLong (xow x) ix v ∈ tb_l) (hd : decode (xcc x) pc = .ok (.ldc2_w ix, 3)) (kk : Vw x k n (pc + 3) lv (.long v :: st) ws) : Vw x k n pc lv (st) ws := fun p e s m args below meth c H locs A Z ls S r hl hE => lv_ldc2 S.1 S.2.1 S.2.2.2.1 (S.2.2.2.2.1.2.hts args _ hw) hd (kk p e s m args below meth c H locs A Z ls S r hl hE)
theorem V_iload_n {z : Fin 4} {u : Int32} (j : Nat) (hj : lv[j]? = some ((z : Nat), .int u)) (hd : decode (xcc x) pc = .ok (.iload_n z, 1)) (kk : Vw x k n (pc + 1) lv (.int u :: st) ws) : Vw x k n pc lv (st) ws := fun p e s m args below meth c H locs A Z ls S r hl hE => lv_iload_n S.1 S.2.1 hd rfl (lv_at hl j hj) (kk p e s m args below meth c H locs A Z ls S r hl hE)
theorem V_iload {i : Nat} {u : Int32} (j : Nat) (hj : lv[j]? = some (i, .int u)) (hd : decode (xcc x) pc = .ok (.iload i, 2)) (kk : Vw x k n (pc + 2) lv (.int u :: st) ws) : Vw x k n pc lv (st) ws := fun p e s m args below meth c H locs A Z ls S r hl hE => lv_iload S.1 S.2.1 hd (lv_at hl j hj) (kk p e s m args below meth c H locs A Z ls S r hl hE)
theorem V_lload_n {z : Fin 4} {u : Int64} (j : Nat) (hj : lv[j]? = some ((z : Nat), .long u)) (hd : decode (xcc x) pc = .ok (.lload_n z, 1)) (kk : Vw x k n (pc + 1) lv (.long u :: st) ws) : Vw x k n pc lv (st) ws := fun p e s m args below meth c H locs A Z ls S r hl hE => lv_lload_n S.1 S.2.1 hd rfl (lv_at hl j hj) (kk p e s m args below meth c H locs A Z ls S r hl hE)
theorem V_lload {i : Nat} {u : Int64} (j : Nat) (hj : lv[j]? = some (i, .long u)) (hd : decode (xcc x) pc = .ok (.lload i, 2)) (kk : Vw x k n (pc + 2) lv (.long u :: st) ws) : Vw x k n pc lv (st) ws := fun p e s m args below meth c H locs A Z ls S r hl hE => lv_lload S.1 S.2.1 hd (lv_at hl j hj) (kk p e s m args below meth c H locs A Z ls S r hl hE)
theorem V_aload_n {z : Fin 4} {u : Nat} (j : Nat) (hj : lv[j]? = some ((z : Nat), .ref u)) (hd : decode (xcc x) pc = .ok (.aload_n z, 1)) (kk : Vw x k n (pc + 1) lv (.ref u :: st) ws) : Vw x k n pc lv (st) ws := fun p e s m args below meth c H locs A Z ls S r hl hE => lv_aload_n S.1 S.2.1 hd rfl (lv_at hl j hj) (kk p e s m args below meth c H locs A Z ls S r hl hE)
theorem V_aload {i : Nat} {u : Nat} (j : Nat) (hj : lv[j]? = some (i, .ref u)) (hd : decode (xcc x) pc = .ok (.aload i, 2)) (kk : Vw x k n (pc + 2) lv (.ref u :: st) ws) : Vw x k n pc lv (st) ws := fun p e s m args below meth c H locs A Z ls S r hl hE => lv_aload S.1 S.2.1 hd (lv_at hl j hj) (kk p e s m args below meth c H locs A Z ls S r hl hE)
theorem V_iadd {u v : Int32} (hd : decode (xcc x) pc = .ok (.iadd, 1)) (kk : Vw x k n (pc + 1) lv (.int (u + v) :: st) ws) : Vw x k n pc lv (.int v :: .int u :: st) ws := fun p e s m args below meth c H locs A Z ls S r hl hE => lv_iadd S.1 S.2.1 hd (kk p e s m args below meth c H locs A Z ls S r hl hE)
theorem V_isub {u v : Int32} (hd : decode (xcc x) pc = .ok (.isub, 1)) (kk : Vw x k n (pc + 1) lv (.int (u - v) :: st) ws) : Vw x k n pc lv (.int v :: .int u :: st) ws := fun p e s m args below meth c H locs A Z ls S r hl hE => lv_isub S.1 S.2.1 hd (kk p e s m args below meth c H locs A Z ls S r hl hE)
theorem V_imul {u v : Int32} (hd : decode (xcc x) pc = .ok (.imul, 1)) (kk : Vw x k n (pc + 1) lv (.int (u * v) :: st) ws) : Vw x k n pc lv (.int v :: .int u :: st) ws := fun p e s m args below meth c H locs A Z ls S r hl hE => lv_imul S.1 S.2.1 hd (kk p e s m args below meth c H locs A Z ls S r hl hE)
theorem V_iand {u v : Int32} (hd : decode (xcc x) pc = .ok (.iand, 1)) (kk : Vw x k n (pc + 1) lv (.int (u &&& v) :: st) ws) : Vw x k n pc lv (.int v :: .int u :: st) ws := fun p e s m args below meth c H locs A Z ls S r hl hE => lv_iand S.1 S.2.1 hd (kk p e s m args below meth c H locs A Z ls S r hl hE)
theorem V_ior {u v : Int32} (hd : decode (xcc x) pc = .ok (.ior, 1)) (kk : Vw x k n (pc + 1) lv (.int (u ||| v) :: st) ws) : Vw x k n pc lv (.int v :: .int u :: st) ws := fun p e s m args below meth c H locs A Z ls S r hl hE => lv_ior S.1 S.2.1 hd (kk p e s m args below meth c H locs A Z ls S r hl hE)
theorem V_ixor {u v : Int32} (hd : decode (xcc x) pc = .ok (.ixor, 1)) (kk : Vw x k n (pc + 1) lv (.int (u ^^^ v) :: st) ws) : Vw x k n pc lv (.int v :: .int u :: st) ws := fun p e s m args below meth c H locs A Z ls S r hl hE => lv_ixor S.1 S.2.1 hd (kk p e s m args below meth c H locs A Z ls S r hl hE)
theorem V_ishl {u v : Int32} (hd : decode (xcc x) pc = .ok (.ishl, 1)) (kk : Vw x k n (pc + 1) lv (.int (u <<< (v &&& 31)) :: st) ws) : Vw x k n pc lv (.int v :: .int u :: st) ws := fun p e s m args below meth c H locs A Z ls S r hl hE => lv_ishl S.1 S.2.1 hd (kk p e s m args below meth c H locs A Z ls S r hl hE)
theorem V_ishr {u v : Int32} (hd : decode (xcc x) pc = .ok (.ishr, 1)) (kk : Vw x k n (pc + 1) lv (.int (u >>> (v &&& 31)) :: st) ws) : Vw x k n pc lv (.int v :: .int u :: st) ws := fun p e s m args below meth c H locs A Z ls S r hl hE => lv_ishr S.1 S.2.1 hd (kk p e s m args below meth c H locs A Z ls S r hl hE)
theorem V_iushr {u v : Int32} (hd : decode (xcc x) pc = .ok (.iushr, 1)) (kk : Vw x k n (pc + 1) lv (.int ((u.toUInt32 >>> (v.toUInt32 &&& Int32.toUInt32 31)).toInt32) :: st) ws) : Vw x k n pc lv (.int v :: .int u :: st) ws := fun p e s m args below meth c H locs A Z ls S r hl hE => lv_iushr S.1 S.2.1 hd rfl (kk p e s m args below meth c H locs A Z ls S r hl hE)
theorem V_idiv {u v : Int32} (hne : ¬ v = 0) (hd : decode (xcc x) pc = .ok (.idiv, 1)) (kk : Vw x k n (pc + 1) lv (.int (u / v) :: st) ws) : Vw x k n pc lv (.int v :: .int u :: st) ws := fun p e s m args below meth c H locs A Z ls S r hl hE => lv_idiv S.1 S.2.1 hd hne (kk p e s m args below meth c H locs A Z ls S r hl hE)
theorem V_irem {u v : Int32} (hne : ¬ v = 0) (hd : decode (xcc x) pc = .ok (.irem, 1)) (kk : Vw x k n (pc + 1) lv (.int (u - u / v * v) :: st) ws) : Vw x k n pc lv (.int v :: .int u :: st) ws := fun p e s m args below meth c H locs A Z ls S r hl hE => lv_irem S.1 S.2.1 hd hne (kk p e s m args below meth c H locs A Z ls S r hl hE)
theorem V_ladd {u v : Int64} (hd : decode (xcc x) pc = .ok (.ladd, 1)) (kk : Vw x k n (pc + 1) lv (.long (u + v) :: st) ws) : Vw x k n pc lv (.long v :: .long u :: st) ws := fun p e s m args below meth c H locs A Z ls S r hl hE => lv_ladd S.1 S.2.1 hd (kk p e s m args below meth c H locs A Z ls S r hl hE)
theorem V_lsub {u v : Int64} (hd : decode (xcc x) pc = .ok (.lsub, 1)) (kk : Vw x k n (pc + 1) lv (.long (u - v) :: st) ws) : Vw x k n pc lv (.long v :: .long u :: st) ws := fun p e s m args below meth c H locs A Z ls S r hl hE => lv_lsub S.1 S.2.1 hd (kk p e s m args below meth c H locs A Z ls S r hl hE)
theorem V_lmul {u v : Int64} (hd : decode (xcc x) pc = .ok (.lmul, 1)) (kk : Vw x k n (pc + 1) lv (.long (u * v) :: st) ws) : Vw x k n pc lv (.long v :: .long u :: st) ws := fun p e s m args below meth c H locs A Z ls S r hl hE => lv_lmul S.1 S.2.1 hd (kk p e s m args below meth c H locs A Z ls S r hl hE)
theorem V_ldiv {u v : Int64} (hne : ¬ v = 0) (hd : decode (xcc x) pc = .ok (.ldiv, 1)) (kk : Vw x k n (pc + 1) lv (.long (u / v) :: st) ws) : Vw x k n pc lv (.long v :: .long u :: st) ws := fun p e s m args below meth c H locs A Z ls S r hl hE => lv_ldiv S.1 S.2.1 hd hne (kk p e s m args below meth c H locs A Z ls S r hl hE)
theorem V_lrem {u v : Int64} (hne : ¬ v = 0) (hd : decode (xcc x) pc = .ok (.lrem, 1)) (kk : Vw x k n (pc + 1) lv (.long (u - u / v * v) :: st) ws) : Vw x k n pc lv (.long v :: .long u :: st) ws := fun p e s m args below meth c H locs A Z ls S r hl hE => lv_lrem S.1 S.2.1 hd hne (kk p e s m args below meth c H locs A Z ls S r hl hE)
theorem V_lshl {u : Int64} {v : Int32} (hd : decode (xcc x) pc = .ok (.lshl, 1)) (kk : Vw x k n (pc + 1) lv (.long (u <<< (v.toInt64 &&& 63)) :: st) ws) : Vw x k n pc lv (.int v :: .long u :: st) ws := fun p e s m args below meth c H locs A Z ls S r hl hE => lv_lshl S.1 S.2.1 hd rfl (kk p e s m args below meth c H locs A Z ls S r hl hE)
theorem V_i2l {u : Int32} (hd : decode (xcc x) pc = .ok (.i2l, 1)) (kk : Vw x k n (pc + 1) lv (.long u.toInt64 :: st) ws) : Vw x k n pc lv (.int u :: st) ws := fun p e s m args below meth c H locs A Z ls S r hl hE => lv_i2l S.1 S.2.1 hd rfl (kk p e s m args below meth c H locs A Z ls S r hl hE)
theorem V_i2b {u : Int32} (hd : decode (xcc x) pc = .ok (.i2b, 1)) (kk : Vw x k n (pc + 1) lv (.int u.toInt8.toInt32 :: st) ws) : Vw x k n pc lv (.int u :: st) ws := fun p e s m args below meth c H locs A Z ls S r hl hE => lv_i2b S.1 S.2.1 hd rfl (kk p e s m args below meth c H locs A Z ls S r hl hE)
theorem V_i2s {u : Int32} (hd : decode (xcc x) pc = .ok (.i2s, 1)) (kk : Vw x k n (pc + 1) lv (.int u.toInt16.toInt32 :: st) ws) : Vw x k n pc lv (.int u :: st) ws := fun p e s m args below meth c H locs A Z ls S r hl hE => lv_i2s S.1 S.2.1 hd rfl (kk p e s m args below meth c H locs A Z ls S r hl hE)
theorem V_lcmp {u v : Int64} (hd : decode (xcc x) pc = .ok (.lcmp, 1)) (kk : Vw x k n (pc + 1) lv (.int (lg_cmp u v) :: st) ws) : Vw x k n pc lv (.long v :: .long u :: st) ws := fun p e s m args below meth c H locs A Z ls S r hl hE => W.lcmp S.1 S.2.1 hd (kk p e s m args below meth c H locs A Z ls S r hl hE)
theorem V_dup {v : Value} (hv : v.category = 1) (hd : decode (xcc x) pc = .ok (.dup, 1)) (kk : Vw x k n (pc + 1) lv (v :: v :: st) ws) : Vw x k n pc lv (v :: st) ws := fun p e s m args below meth c H locs A Z ls S r hl hE => lv_dup S.1 S.2.1 hd hv (kk p e s m args below meth c H locs A Z ls S r hl hE)
theorem V_pop {v : Value} (hv : v.category = 1) (hd : decode (xcc x) pc = .ok (.pop, 1)) (kk : Vw x k n (pc + 1) lv (st) ws) : Vw x k n pc lv (v :: st) ws := fun p e s m args below meth c H locs A Z ls S r hl hE => lv_pop S.1 S.2.1 hd hv (kk p e s m args below meth c H locs A Z ls S r hl hE)
theorem V_dup2 {v u : Value} (hv : v.category = 1) (hu : u.category = 1) (hd : decode (xcc x) pc = .ok (.dup2, 1)) (kk : Vw x k n (pc + 1) lv (v :: u :: v :: u :: st) ws) : Vw x k n pc lv (v :: u :: st) ws := fun p e s m args below meth c H locs A Z ls S r hl hE => lv_dup2_11 S.1 S.2.1 hd hv hu (kk p e s m args below meth c H locs A Z ls S r hl hE)
theorem J_iconst {z : Int} {v : Int32} (hv : Int32.ofInt z = v) (hd : decode (xcc x) pc = .ok (.iconst z, 1)) (kk : Jj X o (Vw x k n (pc + 1) lv (.int v :: st) ws)) : Jj X o (Vw x k n pc lv (st) ws) := fun q => V_iconst hv hd (kk q)
theorem J_bipush {z : Int} {v : Int32} (hv : (Int8.ofInt z).toInt32 = v) (hd : decode (xcc x) pc = .ok (.bipush z, 2)) (kk : Jj X o (Vw x k n (pc + 2) lv (.int v :: st) ws)) : Jj X o (Vw x k n pc lv (st) ws) := fun q => V_bipush hv hd (kk q)
theorem J_sipush {z : Int} {v : Int32} (hv : (Int16.ofInt z).toInt32 = v) (hd : decode (xcc x) pc = .ok (.sipush z, 3)) (kk : Jj X o (Vw x k n (pc + 3) lv (.int v :: st) ws)) : Jj X o (Vw x k n pc lv (st) ws) := fun q => V_sipush hv hd (kk q)
theorem J_lconst {z : Fin 2} {v : Int64} (hv : Int64.ofNat (z : Nat) = v) (hd : decode (xcc x) pc = .ok (.lconst z, 1)) (kk : Jj X o (Vw x k n (pc + 1) lv (.long v :: st) ws)) : Jj X o (Vw x k n pc lv (st) ws) := fun q => V_lconst hv hd (kk q)
theorem J_ldc {ix : Nat} {v : Int32} (hw : Cond.constant (xow x) ix v ∈ tb_l) (hd : decode (xcc x) pc = .ok (.ldc ix, 2)) (kk : Jj X o (Vw x k n (pc + 2) lv (.int v :: st) ws)) : Jj X o (Vw x k n pc lv (st) ws) := fun q => V_ldc hw hd (kk q)
theorem J_ldcw {ix : Nat} {v : Int32} (hw : Cond.constant (xow x) ix v ∈ tb_l) (hd : decode (xcc x) pc = .ok (.ldc_w ix, 3)) (kk : Jj X o (Vw x k n (pc + 3) lv (.int v :: st) ws)) : Jj X o (Vw x k n pc lv (st) ws) := fun q => V_ldcw hw hd (kk q)
theorem J_ldc2 {ix : Nat} {v : Int64} (hw : Cond.constantLong (xow x) ix v ∈ tb_l) (hd : decode (xcc x) pc = .ok (.ldc2_w ix, 3)) (kk : Jj X o (Vw x k n (pc + 3) lv (.long v :: st) ws)) : Jj X o (Vw x k n pc lv (st) ws) := fun q => V_ldc2 hw hd (kk q)
theorem J_iload_n {z : Fin 4} {u : Int32} (j : Nat) (hj : lv[j]? = some ((z : Nat), .int u)) (hd : decode (xcc x) pc = .ok (.iload_n z, 1)) (kk : Jj X o (Vw x k n (pc + 1) lv (.int u :: st) ws)) : Jj X o (Vw x k n pc lv (st) ws) := fun q => V_iload_n j hj hd (kk q)
theorem J_iload {i : Nat} {u : Int32} (j : Nat) (hj : lv[j]? = some (i, .int u)) (hd : decode (xcc x) pc = .ok (.iload i, 2)) (kk : Jj X o (Vw x k n (pc + 2) lv (.int u :: st) ws)) : Jj X o (Vw x k n pc lv (st) ws) := fun q => V_iload j hj hd (kk q)
theorem J_lload_n {z : Fin 4} {u : Int64} (j : Nat) (hj : lv[j]? = some ((z : Nat), .long u)) (hd : decode (xcc x) pc = .ok (.lload_n z, 1)) (kk : Jj X o (Vw x k n (pc + 1) lv (.long u :: st) ws)) : Jj X o (Vw x k n pc lv (st) ws) := fun q => V_lload_n j hj hd (kk q)
theorem J_lload {i : Nat} {u : Int64} (j : Nat) (hj : lv[j]? = some (i, .long u)) (hd : decode (xcc x) pc = .ok (.lload i, 2)) (kk : Jj X o (Vw x k n (pc + 2) lv (.long u :: st) ws)) : Jj X o (Vw x k n pc lv (st) ws) := fun q => V_lload j hj hd (kk q)
theorem J_aload_n {z : Fin 4} {u : Nat} (j : Nat) (hj : lv[j]? = some ((z : Nat), .ref u)) (hd : decode (xcc x) pc = .ok (.aload_n z, 1)) (kk : Jj X o (Vw x k n (pc + 1) lv (.ref u :: st) ws)) : Jj X o (Vw x k n pc lv (st) ws) := fun q => V_aload_n j hj hd (kk q)
theorem J_aload {i : Nat} {u : Nat} (j : Nat) (hj : lv[j]? = some (i, .ref u)) (hd : decode (xcc x) pc = .ok (.aload i, 2)) (kk : Jj X o (Vw x k n (pc + 2) lv (.ref u :: st) ws)) : Jj X o (Vw x k n pc lv (st) ws) := fun q => V_aload j hj hd (kk q)
theorem J_iadd {u v : Int32} (hd : decode (xcc x) pc = .ok (.iadd, 1)) (kk : Jj X o (Vw x k n (pc + 1) lv (.int (u + v) :: st) ws)) : Jj X o (Vw x k n pc lv (.int v :: .int u :: st) ws) := fun q => V_iadd  hd (kk q)
theorem J_isub {u v : Int32} (hd : decode (xcc x) pc = .ok (.isub, 1)) (kk : Jj X o (Vw x k n (pc + 1) lv (.int (u - v) :: st) ws)) : Jj X o (Vw x k n pc lv (.int v :: .int u :: st) ws) := fun q => V_isub  hd (kk q)
theorem J_imul {u v : Int32} (hd : decode (xcc x) pc = .ok (.imul, 1)) (kk : Jj X o (Vw x k n (pc + 1) lv (.int (u * v) :: st) ws)) : Jj X o (Vw x k n pc lv (.int v :: .int u :: st) ws) := fun q => V_imul  hd (kk q)
theorem J_iand {u v : Int32} (hd : decode (xcc x) pc = .ok (.iand, 1)) (kk : Jj X o (Vw x k n (pc + 1) lv (.int (u &&& v) :: st) ws)) : Jj X o (Vw x k n pc lv (.int v :: .int u :: st) ws) := fun q => V_iand  hd (kk q)
theorem J_ior {u v : Int32} (hd : decode (xcc x) pc = .ok (.ior, 1)) (kk : Jj X o (Vw x k n (pc + 1) lv (.int (u ||| v) :: st) ws)) : Jj X o (Vw x k n pc lv (.int v :: .int u :: st) ws) := fun q => V_ior  hd (kk q)
theorem J_ixor {u v : Int32} (hd : decode (xcc x) pc = .ok (.ixor, 1)) (kk : Jj X o (Vw x k n (pc + 1) lv (.int (u ^^^ v) :: st) ws)) : Jj X o (Vw x k n pc lv (.int v :: .int u :: st) ws) := fun q => V_ixor  hd (kk q)
theorem J_ishl {u v : Int32} (hd : decode (xcc x) pc = .ok (.ishl, 1)) (kk : Jj X o (Vw x k n (pc + 1) lv (.int (u <<< (v &&& 31)) :: st) ws)) : Jj X o (Vw x k n pc lv (.int v :: .int u :: st) ws) := fun q => V_ishl  hd (kk q)
theorem J_ishr {u v : Int32} (hd : decode (xcc x) pc = .ok (.ishr, 1)) (kk : Jj X o (Vw x k n (pc + 1) lv (.int (u >>> (v &&& 31)) :: st) ws)) : Jj X o (Vw x k n pc lv (.int v :: .int u :: st) ws) := fun q => V_ishr  hd (kk q)
theorem J_iushr {u v : Int32} (hd : decode (xcc x) pc = .ok (.iushr, 1)) (kk : Jj X o (Vw x k n (pc + 1) lv (.int ((u.toUInt32 >>> (v.toUInt32 &&& Int32.toUInt32 31)).toInt32) :: st) ws)) : Jj X o (Vw x k n pc lv (.int v :: .int u :: st) ws) := fun q => V_iushr  hd (kk q)
theorem J_idiv {u v : Int32} (hne : ¬ v = 0) (hd : decode (xcc x) pc = .ok (.idiv, 1)) (kk : Jj X o (Vw x k n (pc + 1) lv (.int (u / v) :: st) ws)) : Jj X o (Vw x k n pc lv (.int v :: .int u :: st) ws) := fun q => V_idiv hne hd (kk q)
theorem J_irem {u v : Int32} (hne : ¬ v = 0) (hd : decode (xcc x) pc = .ok (.irem, 1)) (kk : Jj X o (Vw x k n (pc + 1) lv (.int (u - u / v * v) :: st) ws)) : Jj X o (Vw x k n pc lv (.int v :: .int u :: st) ws) := fun q => V_irem hne hd (kk q)
theorem J_ladd {u v : Int64} (hd : decode (xcc x) pc = .ok (.ladd, 1)) (kk : Jj X o (Vw x k n (pc + 1) lv (.long (u + v) :: st) ws)) : Jj X o (Vw x k n pc lv (.long v :: .long u :: st) ws) := fun q => V_ladd  hd (kk q)
theorem J_lsub {u v : Int64} (hd : decode (xcc x) pc = .ok (.lsub, 1)) (kk : Jj X o (Vw x k n (pc + 1) lv (.long (u - v) :: st) ws)) : Jj X o (Vw x k n pc lv (.long v :: .long u :: st) ws) := fun q => V_lsub  hd (kk q)
theorem J_lmul {u v : Int64} (hd : decode (xcc x) pc = .ok (.lmul, 1)) (kk : Jj X o (Vw x k n (pc + 1) lv (.long (u * v) :: st) ws)) : Jj X o (Vw x k n pc lv (.long v :: .long u :: st) ws) := fun q => V_lmul  hd (kk q)
theorem J_ldiv {u v : Int64} (hne : ¬ v = 0) (hd : decode (xcc x) pc = .ok (.ldiv, 1)) (kk : Jj X o (Vw x k n (pc + 1) lv (.long (u / v) :: st) ws)) : Jj X o (Vw x k n pc lv (.long v :: .long u :: st) ws) := fun q => V_ldiv hne hd (kk q)
theorem J_lrem {u v : Int64} (hne : ¬ v = 0) (hd : decode (xcc x) pc = .ok (.lrem, 1)) (kk : Jj X o (Vw x k n (pc + 1) lv (.long (u - u / v * v) :: st) ws)) : Jj X o (Vw x k n pc lv (.long v :: .long u :: st) ws) := fun q => V_lrem hne hd (kk q)
theorem J_lshl {u : Int64} {v : Int32} (hd : decode (xcc x) pc = .ok (.lshl, 1)) (kk : Jj X o (Vw x k n (pc + 1) lv (.long (u <<< (v.toInt64 &&& 63)) :: st) ws)) : Jj X o (Vw x k n pc lv (.int v :: .long u :: st) ws) := fun q => V_lshl  hd (kk q)
theorem J_i2l {u : Int32} (hd : decode (xcc x) pc = .ok (.i2l, 1)) (kk : Jj X o (Vw x k n (pc + 1) lv (.long u.toInt64 :: st) ws)) : Jj X o (Vw x k n pc lv (.int u :: st) ws) := fun q => V_i2l  hd (kk q)
theorem J_i2b {u : Int32} (hd : decode (xcc x) pc = .ok (.i2b, 1)) (kk : Jj X o (Vw x k n (pc + 1) lv (.int u.toInt8.toInt32 :: st) ws)) : Jj X o (Vw x k n pc lv (.int u :: st) ws) := fun q => V_i2b  hd (kk q)
theorem J_i2s {u : Int32} (hd : decode (xcc x) pc = .ok (.i2s, 1)) (kk : Jj X o (Vw x k n (pc + 1) lv (.int u.toInt16.toInt32 :: st) ws)) : Jj X o (Vw x k n pc lv (.int u :: st) ws) := fun q => V_i2s  hd (kk q)
theorem J_lcmp {u v : Int64} (hd : decode (xcc x) pc = .ok (.lcmp, 1)) (kk : Jj X o (Vw x k n (pc + 1) lv (.int (lg_cmp u v) :: st) ws)) : Jj X o (Vw x k n pc lv (.long v :: .long u :: st) ws) := fun q => V_lcmp  hd (kk q)
theorem J_dup {v : Value} (hv : v.category = 1) (hd : decode (xcc x) pc = .ok (.dup, 1)) (kk : Jj X o (Vw x k n (pc + 1) lv (v :: v :: st) ws)) : Jj X o (Vw x k n pc lv (v :: st) ws) := fun q => V_dup hv hd (kk q)
theorem J_pop {v : Value} (hv : v.category = 1) (hd : decode (xcc x) pc = .ok (.pop, 1)) (kk : Jj X o (Vw x k n (pc + 1) lv (st) ws)) : Jj X o (Vw x k n pc lv (v :: st) ws) := fun q => V_pop hv hd (kk q)
theorem J_dup2 {v u : Value} (hv : v.category = 1) (hu : u.category = 1) (hd : decode (xcc x) pc = .ok (.dup2, 1)) (kk : Jj X o (Vw x k n (pc + 1) lv (v :: u :: v :: u :: st) ws)) : Jj X o (Vw x k n pc lv (v :: u :: st) ws) := fun q => V_dup2 hv hu hd (kk q)
theorem J_istore_n {z : Fin 4} {u : Int32} {lv' : List (Nat × Value)} (i : Nat) (hi : (z : Nat) = i) (hn : i < xnL x) (hlv : (i, Value.int u) :: lv.filter (fun q => !(q.1 == i) && !(q.1 + 1 == i && q.2.category == 2)) = lv') (hd : decode (xcc x) pc = .ok (.istore_n z, 1)) (kk : Jj X o (Vw x k n (pc + 1) lv' st ws)) : Jj X o (Vw x k n pc lv (.int u :: st) ws) := fun q p e s m args below meth c H locs A Z ls S r hl hE => lv_istore_n S.1 S.2.1 hd hi hl hn hlv (fun ls' hl' => kk q p e s m args below meth c H locs A Z ls' S r hl' hE)
theorem J_istore {u : Int32} {lv' : List (Nat × Value)} {i : Nat} (hn : i < xnL x) (hlv : (i, Value.int u) :: lv.filter (fun q => !(q.1 == i) && !(q.1 + 1 == i && q.2.category == 2)) = lv') (hd : decode (xcc x) pc = .ok (.istore i, 2)) (kk : Jj X o (Vw x k n (pc + 2) lv' st ws)) : Jj X o (Vw x k n pc lv (.int u :: st) ws) := fun q p e s m args below meth c H locs A Z ls S r hl hE => lv_istore S.1 S.2.1 hd hl hn hlv (fun ls' hl' => kk q p e s m args below meth c H locs A Z ls' S r hl' hE)
theorem J_astore_n {z : Fin 4} {u : Nat} {lv' : List (Nat × Value)} (i : Nat) (hi : (z : Nat) = i) (hn : i < xnL x) (hlv : (i, Value.ref u) :: lv.filter (fun q => !(q.1 == i) && !(q.1 + 1 == i && q.2.category == 2)) = lv') (hd : decode (xcc x) pc = .ok (.astore_n z, 1)) (kk : Jj X o (Vw x k n (pc + 1) lv' st ws)) : Jj X o (Vw x k n pc lv (.ref u :: st) ws) := fun q p e s m args below meth c H locs A Z ls S r hl hE => lv_astore_n S.1 S.2.1 hd hi hl hn hlv (fun ls' hl' => kk q p e s m args below meth c H locs A Z ls' S r hl' hE)
theorem J_astore {u : Nat} {lv' : List (Nat × Value)} {i : Nat} (hn : i < xnL x) (hlv : (i, Value.ref u) :: lv.filter (fun q => !(q.1 == i) && !(q.1 + 1 == i && q.2.category == 2)) = lv') (hd : decode (xcc x) pc = .ok (.astore i, 2)) (kk : Jj X o (Vw x k n (pc + 2) lv' st ws)) : Jj X o (Vw x k n pc lv (.ref u :: st) ws) := fun q p e s m args below meth c H locs A Z ls S r hl hE => lv_astore S.1 S.2.1 hd hl hn hlv (fun ls' hl' => kk q p e s m args below meth c H locs A Z ls' S r hl' hE)
theorem J_lstore_n {z : Fin 4} {u : Int64} {lv' : List (Nat × Value)} (i : Nat) (hi : (z : Nat) = i) (hn : i + 1 < xnL x) (hlv : (i, Value.long u) :: lv.filter (fun q => !(q.1 == i) && (!(q.1 == i + 1) && !(q.1 + 1 == i && q.2.category == 2))) = lv') (hd : decode (xcc x) pc = .ok (.lstore_n z, 1)) (kk : Jj X o (Vw x k n (pc + 1) lv' st ws)) : Jj X o (Vw x k n pc lv (.long u :: st) ws) := fun q p e s m args below meth c H locs A Z ls S r hl hE => lv_lstore_n S.1 S.2.1 hd hi hl hn hlv (fun ls' hl' => kk q p e s m args below meth c H locs A Z ls' S r hl' hE)
theorem J_lstore {u : Int64} {lv' : List (Nat × Value)} {i : Nat} (hn : i + 1 < xnL x) (hlv : (i, Value.long u) :: lv.filter (fun q => !(q.1 == i) && (!(q.1 == i + 1) && !(q.1 + 1 == i && q.2.category == 2))) = lv') (hd : decode (xcc x) pc = .ok (.lstore i, 2)) (kk : Jj X o (Vw x k n (pc + 2) lv' st ws)) : Jj X o (Vw x k n pc lv (.long u :: st) ws) := fun q p e s m args below meth c H locs A Z ls S r hl hE => lv_lstore S.1 S.2.1 hd hl hn hlv (fun ls' hl' => kk q p e s m args below meth c H locs A Z ls' S r hl' hE)
theorem J_icmp_eq {u v : Int32} {off : Int} {o1 o2 : Option α} (tgt : Nat) (ht : (pc : Int) + off = (tgt : Int)) (hd : decode (xcc x) pc = .ok (.if_icmp .eq off, 3)) (k1 : u = v → Jj X o1 (Vw x k n tgt lv st ws)) (k2 : ¬ (u = v) → Jj X o2 (Vw x k n (pc + 3) lv st ws)) : Jj X (if u = v then o1 else o2) (Vw x k n pc lv (.int v :: .int u :: st) ws) := fun q p e s m args below meth c H locs A Z ls S r hl hE => lv_icmp_eq S.1 S.2.1 hd ht (fun hc => k1 hc (by rw [if_pos hc] at q; exact q) p e s m args below meth c H locs A Z ls S r hl hE) (fun hc => k2 hc (by rw [if_neg hc] at q; exact q) p e s m args below meth c H locs A Z ls S r hl hE)
theorem J_if_eq {u : Int32} {off : Int} {o1 o2 : Option α} (tgt : Nat) (ht : (pc : Int) + off = (tgt : Int)) (hd : decode (xcc x) pc = .ok (.ifCond .eq off, 3)) (k1 : u = 0 → Jj X o1 (Vw x k n tgt lv st ws)) (k2 : ¬ (u = 0) → Jj X o2 (Vw x k n (pc + 3) lv st ws)) : Jj X (if u = 0 then o1 else o2) (Vw x k n pc lv (.int u :: st) ws) := fun q p e s m args below meth c H locs A Z ls S r hl hE => lv_if_eq S.1 S.2.1 hd ht (fun hc => k1 hc (by rw [if_pos hc] at q; exact q) p e s m args below meth c H locs A Z ls S r hl hE) (fun hc => k2 hc (by rw [if_neg hc] at q; exact q) p e s m args below meth c H locs A Z ls S r hl hE)
theorem J_icmp_ne {u v : Int32} {off : Int} {o1 o2 : Option α} (tgt : Nat) (ht : (pc : Int) + off = (tgt : Int)) (hd : decode (xcc x) pc = .ok (.if_icmp .ne off, 3)) (k1 : ¬ u = v → Jj X o1 (Vw x k n tgt lv st ws)) (k2 : u = v → Jj X o2 (Vw x k n (pc + 3) lv st ws)) : Jj X (if u = v then o2 else o1) (Vw x k n pc lv (.int v :: .int u :: st) ws) := fun q p e s m args below meth c H locs A Z ls S r hl hE => lv_icmp_ne S.1 S.2.1 hd ht (fun hc => k1 hc (by rw [if_neg hc] at q; exact q) p e s m args below meth c H locs A Z ls S r hl hE) (fun hc => k2 hc (by rw [if_pos hc] at q; exact q) p e s m args below meth c H locs A Z ls S r hl hE)
theorem J_if_ne {u : Int32} {off : Int} {o1 o2 : Option α} (tgt : Nat) (ht : (pc : Int) + off = (tgt : Int)) (hd : decode (xcc x) pc = .ok (.ifCond .ne off, 3)) (k1 : ¬ u = 0 → Jj X o1 (Vw x k n tgt lv st ws)) (k2 : u = 0 → Jj X o2 (Vw x k n (pc + 3) lv st ws)) : Jj X (if u = 0 then o2 else o1) (Vw x k n pc lv (.int u :: st) ws) := fun q p e s m args below meth c H locs A Z ls S r hl hE => lv_if_ne S.1 S.2.1 hd ht (fun hc => k1 hc (by rw [if_neg hc] at q; exact q) p e s m args below meth c H locs A Z ls S r hl hE) (fun hc => k2 hc (by rw [if_pos hc] at q; exact q) p e s m args below meth c H locs A Z ls S r hl hE)
theorem J_icmp_lt {u v : Int32} {off : Int} {o1 o2 : Option α} (tgt : Nat) (ht : (pc : Int) + off = (tgt : Int)) (hd : decode (xcc x) pc = .ok (.if_icmp .lt off, 3)) (k1 : u < v → Jj X o1 (Vw x k n tgt lv st ws)) (k2 : ¬ (u < v) → Jj X o2 (Vw x k n (pc + 3) lv st ws)) : Jj X (if u < v then o1 else o2) (Vw x k n pc lv (.int v :: .int u :: st) ws) := fun q p e s m args below meth c H locs A Z ls S r hl hE => lv_icmp_lt S.1 S.2.1 hd ht (fun hc => k1 hc (by rw [if_pos hc] at q; exact q) p e s m args below meth c H locs A Z ls S r hl hE) (fun hc => k2 hc (by rw [if_neg hc] at q; exact q) p e s m args below meth c H locs A Z ls S r hl hE)
theorem J_if_lt {u : Int32} {off : Int} {o1 o2 : Option α} (tgt : Nat) (ht : (pc : Int) + off = (tgt : Int)) (hd : decode (xcc x) pc = .ok (.ifCond .lt off, 3)) (k1 : u < 0 → Jj X o1 (Vw x k n tgt lv st ws)) (k2 : ¬ (u < 0) → Jj X o2 (Vw x k n (pc + 3) lv st ws)) : Jj X (if u < 0 then o1 else o2) (Vw x k n pc lv (.int u :: st) ws) := fun q p e s m args below meth c H locs A Z ls S r hl hE => lv_if_lt S.1 S.2.1 hd ht (fun hc => k1 hc (by rw [if_pos hc] at q; exact q) p e s m args below meth c H locs A Z ls S r hl hE) (fun hc => k2 hc (by rw [if_neg hc] at q; exact q) p e s m args below meth c H locs A Z ls S r hl hE)
theorem J_icmp_ge {u v : Int32} {off : Int} {o1 o2 : Option α} (tgt : Nat) (ht : (pc : Int) + off = (tgt : Int)) (hd : decode (xcc x) pc = .ok (.if_icmp .ge off, 3)) (k1 : v ≤ u → Jj X o1 (Vw x k n tgt lv st ws)) (k2 : ¬ (v ≤ u) → Jj X o2 (Vw x k n (pc + 3) lv st ws)) : Jj X (if v ≤ u then o1 else o2) (Vw x k n pc lv (.int v :: .int u :: st) ws) := fun q p e s m args below meth c H locs A Z ls S r hl hE => lv_icmp_ge S.1 S.2.1 hd ht (fun hc => k1 hc (by rw [if_pos hc] at q; exact q) p e s m args below meth c H locs A Z ls S r hl hE) (fun hc => k2 hc (by rw [if_neg hc] at q; exact q) p e s m args below meth c H locs A Z ls S r hl hE)
theorem J_if_ge {u : Int32} {off : Int} {o1 o2 : Option α} (tgt : Nat) (ht : (pc : Int) + off = (tgt : Int)) (hd : decode (xcc x) pc = .ok (.ifCond .ge off, 3)) (k1 : 0 ≤ u → Jj X o1 (Vw x k n tgt lv st ws)) (k2 : ¬ (0 ≤ u) → Jj X o2 (Vw x k n (pc + 3) lv st ws)) : Jj X (if 0 ≤ u then o1 else o2) (Vw x k n pc lv (.int u :: st) ws) := fun q p e s m args below meth c H locs A Z ls S r hl hE => lv_if_ge S.1 S.2.1 hd ht (fun hc => k1 hc (by rw [if_pos hc] at q; exact q) p e s m args below meth c H locs A Z ls S r hl hE) (fun hc => k2 hc (by rw [if_neg hc] at q; exact q) p e s m args below meth c H locs A Z ls S r hl hE)
theorem J_icmp_gt {u v : Int32} {off : Int} {o1 o2 : Option α} (tgt : Nat) (ht : (pc : Int) + off = (tgt : Int)) (hd : decode (xcc x) pc = .ok (.if_icmp .gt off, 3)) (k1 : v < u → Jj X o1 (Vw x k n tgt lv st ws)) (k2 : ¬ (v < u) → Jj X o2 (Vw x k n (pc + 3) lv st ws)) : Jj X (if v < u then o1 else o2) (Vw x k n pc lv (.int v :: .int u :: st) ws) := fun q p e s m args below meth c H locs A Z ls S r hl hE => lv_icmp_gt S.1 S.2.1 hd ht (fun hc => k1 hc (by rw [if_pos hc] at q; exact q) p e s m args below meth c H locs A Z ls S r hl hE) (fun hc => k2 hc (by rw [if_neg hc] at q; exact q) p e s m args below meth c H locs A Z ls S r hl hE)
theorem J_if_gt {u : Int32} {off : Int} {o1 o2 : Option α} (tgt : Nat) (ht : (pc : Int) + off = (tgt : Int)) (hd : decode (xcc x) pc = .ok (.ifCond .gt off, 3)) (k1 : 0 < u → Jj X o1 (Vw x k n tgt lv st ws)) (k2 : ¬ (0 < u) → Jj X o2 (Vw x k n (pc + 3) lv st ws)) : Jj X (if 0 < u then o1 else o2) (Vw x k n pc lv (.int u :: st) ws) := fun q p e s m args below meth c H locs A Z ls S r hl hE => lv_if_gt S.1 S.2.1 hd ht (fun hc => k1 hc (by rw [if_pos hc] at q; exact q) p e s m args below meth c H locs A Z ls S r hl hE) (fun hc => k2 hc (by rw [if_neg hc] at q; exact q) p e s m args below meth c H locs A Z ls S r hl hE)
theorem J_icmp_le {u v : Int32} {off : Int} {o1 o2 : Option α} (tgt : Nat) (ht : (pc : Int) + off = (tgt : Int)) (hd : decode (xcc x) pc = .ok (.if_icmp .le off, 3)) (k1 : u ≤ v → Jj X o1 (Vw x k n tgt lv st ws)) (k2 : ¬ (u ≤ v) → Jj X o2 (Vw x k n (pc + 3) lv st ws)) : Jj X (if u ≤ v then o1 else o2) (Vw x k n pc lv (.int v :: .int u :: st) ws) := fun q p e s m args below meth c H locs A Z ls S r hl hE => lv_icmp_le S.1 S.2.1 hd ht (fun hc => k1 hc (by rw [if_pos hc] at q; exact q) p e s m args below meth c H locs A Z ls S r hl hE) (fun hc => k2 hc (by rw [if_neg hc] at q; exact q) p e s m args below meth c H locs A Z ls S r hl hE)
theorem J_if_le {u : Int32} {off : Int} {o1 o2 : Option α} (tgt : Nat) (ht : (pc : Int) + off = (tgt : Int)) (hd : decode (xcc x) pc = .ok (.ifCond .le off, 3)) (k1 : u ≤ 0 → Jj X o1 (Vw x k n tgt lv st ws)) (k2 : ¬ (u ≤ 0) → Jj X o2 (Vw x k n (pc + 3) lv st ws)) : Jj X (if u ≤ 0 then o1 else o2) (Vw x k n pc lv (.int u :: st) ws) := fun q p e s m args below meth c H locs A Z ls S r hl hE => lv_if_le S.1 S.2.1 hd ht (fun hc => k1 hc (by rw [if_pos hc] at q; exact q) p e s m args below meth c H locs A Z ls S r hl hE) (fun hc => k2 hc (by rw [if_neg hc] at q; exact q) p e s m args below meth c H locs A Z ls S r hl hE)
theorem J_goto {off : Int} (tgt : Nat) (ht : (pc : Int) + off = (tgt : Int)) (hd : decode (xcc x) pc = .ok (.goto off, 3)) (kk : Jj X o (Vw x k n tgt lv st ws)) : Jj X o (Vw x k n pc lv st ws) := fun q p e s m args below meth c H locs A Z ls S r hl hE => lv_goto S.1 S.2.1 hd ht (kk q p e s m args below meth c H locs A Z ls S r hl hE)
theorem J_iinc {i : Nat} {z : Int} {u : Int32} {lv' : List (Nat × Value)} (j : Nat) (hj : lv[j]? = some (i, .int u)) (v : Int32) (hv : u + Int32.ofInt z = v) (hn : i < xnL x) (hlv : (i, Value.int v) :: lv.filter (fun q => !(q.1 == i) && !(q.1 + 1 == i && q.2.category == 2)) = lv') (hd : decode (xcc x) pc = .ok (.iinc i z, 3)) (kk : Jj X o (Vw x k n (pc + 3) lv' st ws)) : Jj X o (Vw x k n pc lv st ws) := fun q p e s m args below meth c H locs A Z ls S r hl hE => lv_iinc S.1 S.2.1 hd hl hj hv hn hlv (fun ls' hl' => kk q p e s m args below meth c H locs A Z ls' S r hl' hE)
/-! pure steps -/
def ltt {α β : Type} (v : α) (f : α → Option β) : Option β := f v
def ckk {β : Type} (b : Bool) (o : Option β) : Option β := if b = true then o else none
def bd1 {α β : Type} (o : Option α) (f : α → Option β) : Option β := match o with
  | none => none
  | some a => f a
theorem J_ck {b : Bool} {P : Prop} (kk : b = true → Jj X o P) : Jj X (ckk b o) P := by
  intro q
  unfold ckk at q
  by_cases hb : b = true
  · rw [if_pos hb] at q
    exact kk hb q
  · rw [if_neg hb] at q
    obtain ⟨a, h, -⟩ := q
    cases h
theorem J_none {P : Prop} : Jj X (none : Option α) P := fun ⟨_, h, _⟩ => by cases h
theorem J_topi {u : Int32} {f : Int32 → Option α} (kk : ∀ v, Jj X (f v) (Vw x k n pc lv (.int v :: st) ws)) : Jj X (ltt u f) (Vw x k n pc lv (.int u :: st) ws) := kk u
theorem J_topl {u : Int64} {f : Int64 → Option α} (kk : ∀ v, Jj X (f v) (Vw x k n pc lv (.long v :: st) ws)) : Jj X (ltt u f) (Vw x k n pc lv (.long u :: st) ws) := kk u
theorem J_val {γ : Type} {u : γ} {f : γ → Option α} {P : Prop} (kk : ∀ v, v = u → Jj X (f v) P) : Jj X (ltt u f) P := kk u rfl
theorem J_hp {g : GG} {ad : Nat → Nat} {h : HP} {f : HP → Option α} (kk : ∀ h', Jj X (f h') (Vw x k n pc lv st (pic g ad h'))) : Jj X (ltt h f) (Vw x k n pc lv st (pic g ad h)) := kk h
theorem J_ite {c : Prop} [Decidable c] {o1 o2 : Option α} {P : Prop} (k1 : c → Jj X o1 P) (k2 : ¬ c → Jj X o2 P) : Jj X (if c then o1 else o2) P := by
  by_cases hc : c
  · rw [if_pos hc]; exact k1 hc
  · rw [if_neg hc]; exact k2 hc
theorem J_sub {lv' : List (Nat × Value)} (ks : List Nat) (hl : lv_pick lv ks = lv') (kk : Jj X o (Vw x k n pc lv' st ws)) : Jj X o (Vw x k n pc lv st ws) := fun q p e s m args below meth c H locs A Z ls S r h hE => kk q p e s m args below meth c H locs A Z ls S r (lv_sub h ks hl) hE
theorem J_exit {a : α} {lv' : List (Nat × Value)} (ks : List Nat) (hl : lv_pick lv ks = lv') (hX : X a → Vw x k n pc lv' st ws) : Jj X (some a) (Vw x k n pc lv st ws) := fun ⟨b, hb, hx⟩ p e s m args below meth c H locs A Z ls S r h hE => hX (by cases hb; exact hx) p e s m args below meth c H locs A Z ls S r (lv_sub h ks hl) hE
theorem V_ret {v : Option Value} (hk : k ≤ xkE x) (hn : n ≤ xnE x) (hr : RetI (xcc x) pc (xret x) v) (hQ : xQ x v ws) : Vw x k n pc lv v.toList ws := fun p e s m args below meth c H locs A Z ls S r hl hE => W.widen hk hn (hE v ws H locs ls pc hQ r hr)
theorem J_iret {a : α} {v : Int32} (hk : k ≤ xkE x) (hn : n ≤ xnE x) (hd : decode (xcc x) pc = .ok (.ireturn, 1)) (hr : xret x = some .int) (hX : X a → xQ x (some (.int v)) ws) : Jj X (some a) (Vw x k n pc lv [.int v] ws) := fun ⟨b, hb, hx⟩ => V_ret (v := some (.int v)) hk hn (Or.inl ⟨v, rfl, hd, .int, hr, rfl⟩) (hX (by cases hb; exact hx))
theorem J_zret {a : α} {v : Int32} (hk : k ≤ xkE x) (hn : n ≤ xnE x) (hd : decode (xcc x) pc = .ok (.ireturn, 1)) (hr : xret x = some .boolean) (hv : narrow .boolean (.int v) = .int v) (hX : X a → xQ x (some (.int v)) ws) : Jj X (some a) (Vw x k n pc lv [.int v] ws) := fun ⟨b, hb, hx⟩ => V_ret (v := some (.int v)) hk hn (Or.inl ⟨v, rfl, hd, .boolean, hr, hv⟩) (hX (by cases hb; exact hx))
theorem J_lret {a : α} {v : Int64} (hk : k ≤ xkE x) (hn : n ≤ xnE x) (hd : decode (xcc x) pc = .ok (.lreturn, 1)) (hr : xret x = some .long) (hX : X a → xQ x (some (.long v)) ws) : Jj X (some a) (Vw x k n pc lv [.long v] ws) := fun ⟨b, hb, hx⟩ => V_ret (v := some (.long v)) hk hn (Or.inr (Or.inl ⟨v, rfl, hd, hr⟩)) (hX (by cases hb; exact hx))
theorem J_aret {a : α} {v : Nat} {C : String} (hk : k ≤ xkE x) (hn : n ≤ xnE x) (hd : decode (xcc x) pc = .ok (.areturn, 1)) (hr : xret x = some (.object C)) (hX : X a → xQ x (some (.ref v)) ws) : Jj X (some a) (Vw x k n pc lv [.ref v] ws) := fun ⟨b, hb, hx⟩ => V_ret (v := some (.ref v)) hk hn (Or.inr (Or.inr (Or.inl ⟨v, C, rfl, hd, hr⟩))) (hX (by cases hb; exact hx))
theorem J_vret {a : α} (hk : k ≤ xkE x) (hn : n ≤ xnE x) (hd : decode (xcc x) pc = .ok (.return_, 1)) (hr : xret x = none) (hX : X a → xQ x none ws) : Jj X (some a) (Vw x k n pc lv [] ws) := fun ⟨b, hb, hx⟩ => V_ret (v := none) hk hn (Or.inr (Or.inr (Or.inr ⟨rfl, hd, hr⟩))) (hX (by cases hb; exact hx))
theorem J_tswIn {dflt lo hi : Int} {offs : Array Int} {len : Nat} {u : Int32} {off : Int} (tgt : Nat) (h1 : ¬ u.toInt < lo) (h2 : ¬ hi < u.toInt) (ho : offs[(u.toInt - lo).toNat]? = some off) (ht : (pc : Int) + off = (tgt : Int)) (hd : decode (xcc x) pc = .ok (.tableswitch dflt lo hi offs, len)) (kk : Jj X o (Vw x k n tgt lv st ws)) : Jj X o (Vw x k n pc lv (.int u :: st) ws) := fun q p e s m args below meth c H locs A Z ls S r hl hE => lv_tableIn S.1 S.2.1 hd h1 h2 ho ht (kk q p e s m args below meth c H locs A Z ls S r hl hE)
theorem J_tswOut {dflt lo hi : Int} {offs : Array Int} {len : Nat} {u : Int32} (tgt : Nat) (h : u.toInt < lo ∨ hi < u.toInt) (ht : (pc : Int) + dflt = (tgt : Int)) (hd : decode (xcc x) pc = .ok (.tableswitch dflt lo hi offs, len)) (kk : Jj X o (Vw x k n tgt lv st ws)) : Jj X o (Vw x k n pc lv (.int u :: st) ws) := fun q p e s m args below meth c H locs A Z ls S r hl hE => lv_tableOut S.1 S.2.1 hd h ht (kk q p e s m args below meth c H locs A Z ls S r hl hE)
theorem J_lsw {dflt : Int} {ps : Array (Int × Int)} {len : Nat} {u : Int32} {off : Int} (tgt : Nat) (hp : (ps.toList.zip (ps.toList.drop 1)).all (fun (a, next) => a.1 < next.1) = true) (ho : Op.lookupswitch.offset ps.toList dflt u.toInt = off) (ht : (pc : Int) + off = (tgt : Int)) (hd : decode (xcc x) pc = .ok (.lookupswitch dflt ps, len)) (kk : Jj X o (Vw x k n tgt lv st ws)) : Jj X o (Vw x k n pc lv (.int u :: st) ws) := fun q p e s m args below meth c H locs A Z ls S r hl hE => lv_lookup S.1 S.2.1 hd hp ho ht (kk q p e s m args below meth c H locs A Z ls S r hl hE)

theorem J_bd1 {γ : Type} {o1 : Option γ} {f : γ → Option α} {P : Prop} (X1 : γ → Prop) (k1 : Jj X1 o1 P) (k2 : ∀ a, Jj X (f a) (X1 a)) : Jj X (bd1 o1 f) P := by
  intro ⟨a, h, hx⟩
  cases o1 with
  | none => cases h
  | some b => exact k1 ⟨b, rfl, k2 b ⟨a, h, hx⟩⟩
def bd2 {A1 A2 β : Type} (o : Option (A1 × A2)) (f : A1 → A2 → Option β) : Option β := bd1 o (fun q => f q.1 q.2)
theorem J_bd2 {A1 A2 : Type} {o1 : Option (A1 × A2)} {f : A1 → A2 → Option α} {P : Prop} (X1 : A1 → A2 → Prop) (k1 : Jj (fun q => X1 q.1 q.2) o1 P) (k2 : ∀ a0 a1, Jj X (f a0 a1) (X1 a0 a1)) : Jj X (bd2 o1 f) P := J_bd1 _ k1 (fun q => k2 q.1 q.2)
def bd3 {A1 A2 A3 β : Type} (o : Option (A1 × A2 × A3)) (f : A1 → A2 → A3 → Option β) : Option β := bd1 o (fun q => f q.1 q.2.1 q.2.2)
theorem J_bd3 {A1 A2 A3 : Type} {o1 : Option (A1 × A2 × A3)} {f : A1 → A2 → A3 → Option α} {P : Prop} (X1 : A1 → A2 → A3 → Prop) (k1 : Jj (fun q => X1 q.1 q.2.1 q.2.2) o1 P) (k2 : ∀ a0 a1 a2, Jj X (f a0 a1 a2) (X1 a0 a1 a2)) : Jj X (bd3 o1 f) P := J_bd1 _ k1 (fun q => k2 q.1 q.2.1 q.2.2)
def bd4 {A1 A2 A3 A4 β : Type} (o : Option (A1 × A2 × A3 × A4)) (f : A1 → A2 → A3 → A4 → Option β) : Option β := bd1 o (fun q => f q.1 q.2.1 q.2.2.1 q.2.2.2)
theorem J_bd4 {A1 A2 A3 A4 : Type} {o1 : Option (A1 × A2 × A3 × A4)} {f : A1 → A2 → A3 → A4 → Option α} {P : Prop} (X1 : A1 → A2 → A3 → A4 → Prop) (k1 : Jj (fun q => X1 q.1 q.2.1 q.2.2.1 q.2.2.2) o1 P) (k2 : ∀ a0 a1 a2 a3, Jj X (f a0 a1 a2 a3) (X1 a0 a1 a2 a3)) : Jj X (bd4 o1 f) P := J_bd1 _ k1 (fun q => k2 q.1 q.2.1 q.2.2.1 q.2.2.2)
def bd5 {A1 A2 A3 A4 A5 β : Type} (o : Option (A1 × A2 × A3 × A4 × A5)) (f : A1 → A2 → A3 → A4 → A5 → Option β) : Option β := bd1 o (fun q => f q.1 q.2.1 q.2.2.1 q.2.2.2.1 q.2.2.2.2)
theorem J_bd5 {A1 A2 A3 A4 A5 : Type} {o1 : Option (A1 × A2 × A3 × A4 × A5)} {f : A1 → A2 → A3 → A4 → A5 → Option α} {P : Prop} (X1 : A1 → A2 → A3 → A4 → A5 → Prop) (k1 : Jj (fun q => X1 q.1 q.2.1 q.2.2.1 q.2.2.2.1 q.2.2.2.2) o1 P) (k2 : ∀ a0 a1 a2 a3 a4, Jj X (f a0 a1 a2 a3 a4) (X1 a0 a1 a2 a3 a4)) : Jj X (bd5 o1 f) P := J_bd1 _ k1 (fun q => k2 q.1 q.2.1 q.2.2.1 q.2.2.2.1 q.2.2.2.2)
def bd6 {A1 A2 A3 A4 A5 A6 β : Type} (o : Option (A1 × A2 × A3 × A4 × A5 × A6)) (f : A1 → A2 → A3 → A4 → A5 → A6 → Option β) : Option β := bd1 o (fun q => f q.1 q.2.1 q.2.2.1 q.2.2.2.1 q.2.2.2.2.1 q.2.2.2.2.2)
theorem J_bd6 {A1 A2 A3 A4 A5 A6 : Type} {o1 : Option (A1 × A2 × A3 × A4 × A5 × A6)} {f : A1 → A2 → A3 → A4 → A5 → A6 → Option α} {P : Prop} (X1 : A1 → A2 → A3 → A4 → A5 → A6 → Prop) (k1 : Jj (fun q => X1 q.1 q.2.1 q.2.2.1 q.2.2.2.1 q.2.2.2.2.1 q.2.2.2.2.2) o1 P) (k2 : ∀ a0 a1 a2 a3 a4 a5, Jj X (f a0 a1 a2 a3 a4 a5) (X1 a0 a1 a2 a3 a4 a5)) : Jj X (bd6 o1 f) P := J_bd1 _ k1 (fun q => k2 q.1 q.2.1 q.2.2.1 q.2.2.2.1 q.2.2.2.2.1 q.2.2.2.2.2)
def bd7 {A1 A2 A3 A4 A5 A6 A7 β : Type} (o : Option (A1 × A2 × A3 × A4 × A5 × A6 × A7)) (f : A1 → A2 → A3 → A4 → A5 → A6 → A7 → Option β) : Option β := bd1 o (fun q => f q.1 q.2.1 q.2.2.1 q.2.2.2.1 q.2.2.2.2.1 q.2.2.2.2.2.1 q.2.2.2.2.2.2)
theorem J_bd7 {A1 A2 A3 A4 A5 A6 A7 : Type} {o1 : Option (A1 × A2 × A3 × A4 × A5 × A6 × A7)} {f : A1 → A2 → A3 → A4 → A5 → A6 → A7 → Option α} {P : Prop} (X1 : A1 → A2 → A3 → A4 → A5 → A6 → A7 → Prop) (k1 : Jj (fun q => X1 q.1 q.2.1 q.2.2.1 q.2.2.2.1 q.2.2.2.2.1 q.2.2.2.2.2.1 q.2.2.2.2.2.2) o1 P) (k2 : ∀ a0 a1 a2 a3 a4 a5 a6, Jj X (f a0 a1 a2 a3 a4 a5 a6) (X1 a0 a1 a2 a3 a4 a5 a6)) : Jj X (bd7 o1 f) P := J_bd1 _ k1 (fun q => k2 q.1 q.2.1 q.2.2.1 q.2.2.2.1 q.2.2.2.2.1 q.2.2.2.2.2.1 q.2.2.2.2.2.2)
def bd8 {A1 A2 A3 A4 A5 A6 A7 A8 β : Type} (o : Option (A1 × A2 × A3 × A4 × A5 × A6 × A7 × A8)) (f : A1 → A2 → A3 → A4 → A5 → A6 → A7 → A8 → Option β) : Option β := bd1 o (fun q => f q.1 q.2.1 q.2.2.1 q.2.2.2.1 q.2.2.2.2.1 q.2.2.2.2.2.1 q.2.2.2.2.2.2.1 q.2.2.2.2.2.2.2)
theorem J_bd8 {A1 A2 A3 A4 A5 A6 A7 A8 : Type} {o1 : Option (A1 × A2 × A3 × A4 × A5 × A6 × A7 × A8)} {f : A1 → A2 → A3 → A4 → A5 → A6 → A7 → A8 → Option α} {P : Prop} (X1 : A1 → A2 → A3 → A4 → A5 → A6 → A7 → A8 → Prop) (k1 : Jj (fun q => X1 q.1 q.2.1 q.2.2.1 q.2.2.2.1 q.2.2.2.2.1 q.2.2.2.2.2.1 q.2.2.2.2.2.2.1 q.2.2.2.2.2.2.2) o1 P) (k2 : ∀ a0 a1 a2 a3 a4 a5 a6 a7, Jj X (f a0 a1 a2 a3 a4 a5 a6 a7) (X1 a0 a1 a2 a3 a4 a5 a6 a7)) : Jj X (bd8 o1 f) P := J_bd1 _ k1 (fun q => k2 q.1 q.2.1 q.2.2.1 q.2.2.2.1 q.2.2.2.2.1 q.2.2.2.2.2.1 q.2.2.2.2.2.2.1 q.2.2.2.2.2.2.2)
def bd9 {A1 A2 A3 A4 A5 A6 A7 A8 A9 β : Type} (o : Option (A1 × A2 × A3 × A4 × A5 × A6 × A7 × A8 × A9)) (f : A1 → A2 → A3 → A4 → A5 → A6 → A7 → A8 → A9 → Option β) : Option β := bd1 o (fun q => f q.1 q.2.1 q.2.2.1 q.2.2.2.1 q.2.2.2.2.1 q.2.2.2.2.2.1 q.2.2.2.2.2.2.1 q.2.2.2.2.2.2.2.1 q.2.2.2.2.2.2.2.2)
theorem J_bd9 {A1 A2 A3 A4 A5 A6 A7 A8 A9 : Type} {o1 : Option (A1 × A2 × A3 × A4 × A5 × A6 × A7 × A8 × A9)} {f : A1 → A2 → A3 → A4 → A5 → A6 → A7 → A8 → A9 → Option α} {P : Prop} (X1 : A1 → A2 → A3 → A4 → A5 → A6 → A7 → A8 → A9 → Prop) (k1 : Jj (fun q => X1 q.1 q.2.1 q.2.2.1 q.2.2.2.1 q.2.2.2.2.1 q.2.2.2.2.2.1 q.2.2.2.2.2.2.1 q.2.2.2.2.2.2.2.1 q.2.2.2.2.2.2.2.2) o1 P) (k2 : ∀ a0 a1 a2 a3 a4 a5 a6 a7 a8, Jj X (f a0 a1 a2 a3 a4 a5 a6 a7 a8) (X1 a0 a1 a2 a3 a4 a5 a6 a7 a8)) : Jj X (bd9 o1 f) P := J_bd1 _ k1 (fun q => k2 q.1 q.2.1 q.2.2.1 q.2.2.2.1 q.2.2.2.2.1 q.2.2.2.2.2.1 q.2.2.2.2.2.2.1 q.2.2.2.2.2.2.2.1 q.2.2.2.2.2.2.2.2)
end ROWS
end
section
/-! rows that touch the heap, and calls -/
def FOk (own : String) (idx a j : Nat) (fty : FieldType) (fin : Bool) : Prop := ∃ (C : String) (T : u_T) (N : Nat) (ty : Nat → FieldType) (ref : String), cl_ok (kd a) C T N ty ∧ j < N ∧ kd a < 20 ∧ a < nc_c ∧ (fdl a).length = N ∧ Cond.fieldLink own idx ref (T j).2.1 (T j).2.2.1 ∈ tb_l ∧ (ref = (T j).1 ∨ Cond.sameField ref (T j).1 (T j).2.1 (T j).2.2.1 ∈ tb_l) ∧ ty j = fty ∧ (T j).2.2.2 = fin
theorem FOk.mk0 {own : String} {idx a j : Nat} {fty : FieldType} {fin : Bool} {C : String} {T : u_T} {N : Nat} {ty : Nat → FieldType} (hc : cl_ok (kd a) C T N ty) (hj : j < N) (hk : kd a < 20) (ha : a < nc_c) (hl : (fdl a).length = N) (hlk : Cond.fieldLink own idx (T j).1 (T j).2.1 (T j).2.2.1 ∈ tb_l) (hty : ty j = fty) (hf : (T j).2.2.2 = fin) : FOk own idx a j fty fin := ⟨C, T, N, ty, _, hc, hj, hk, ha, hl, hlk, Or.inl rfl, hty, hf⟩
theorem FOk.mk1 {own : String} {idx a j : Nat} {fty : FieldType} {fin : Bool} {C : String} {T : u_T} {N : Nat} {ty : Nat → FieldType} (ref : String) (hc : cl_ok (kd a) C T N ty) (hj : j < N) (hk : kd a < 20) (ha : a < nc_c) (hl : (fdl a).length = N) (hlk : Cond.fieldLink own idx ref (T j).2.1 (T j).2.2.1 ∈ tb_l) (hs : Cond.sameField ref (T j).1 (T j).2.1 (T j).2.2.1 ∈ tb_l) (hty : ty j = fty) (hf : (T j).2.2.2 = fin) : FOk own idx a j fty fin := ⟨C, T, N, ty, ref, hc, hj, hk, ha, hl, hlk, Or.inr hs, hty, hf⟩
def inb (i : Int32) (n : Nat) : Bool := decide (¬ (i < 0 ∨ n ≤ i.toNatClampNeg))
theorem inb_in {i : Int32} {n : Nat} (h : inb i n = true) : vp_in i n := by
  unfold inb at h
  have h2 : ¬ (i < 0 ∨ n ≤ i.toNatClampNeg) := of_decide_eq_true h
  exact h2
section HROWS
variable {x : KX} {k n pc : Nat} {lv : List (Nat × Value)} {st : List Value} {α β : Type} {X : α → Prop} {o : Option α} {ad : Nat → Nat} {h : HP}
theorem V_get {idx a j : Nat} {fty : FieldType} {fin : Bool} {fd : Nat × Nat} (hF : FOk (xow x) idx a j fty fin) (hf : (fdl a)[j]? = some fd) (hd : decode (xcc x) pc = .ok (.getfield idx, 3)) (kk : Vw x k n (pc + 3) lv (fv_ ad h a j fd :: st) (pic (xg x) ad h)) : Vw x k n pc lv (.ref (ad a) :: st) (pic (xg x) ad h) := by
  intro p e s m args below meth c H locs A Z ls S r hl hE
  obtain ⟨C, T, N, ty, ref, hc, hj, hk, ha, hlen, hlk, hsm, -, -⟩ := hF
  have hts := S.2.2.2.2.1.2.hts args
  have hw : (pic (xg x) ad h)[a]? = some (ad a, .inr (kd a, (fdl a).mapIdx (fun j fd => fv_ ad h a j fd))) := by rw [pic_get ha, ce_obj hk]
  refine va_get (ci := kd a) (v := fv_ ad h a j fd) (ref := ref) S.1 S.2.1 hts hc.2.1 S.2.2.2.1 S.2.2.2.2.1.1 r.1 a hw hc.1 j hj (hts _ hlk) ?_ ?_ hd (kk p e s m args below meth c H locs A Z ls S r hl hE)
  · rcases hsm with rfl | hsm
    · exact fun _ h => h
    · exact fun z hz => u_same (hts _ hsm) z hz
  · rw [List.getElem?_mapIdx, hf]
    rfl
theorem V_put {idx a j : Nat} {fty : FieldType} {v : Value} {h' : HP} (hF : FOk (xow x) idx a j fty false) (hn : narrow fty v = v) (hfit : fits fty v = true) (hset : (pic (xg x) ad h).set a (ad a, .inr (kd a, ((fdl a).mapIdx (fun j fd => fv_ ad h a j fd)).set j v)) = pic (xg x) ad h') (hd : decode (xcc x) pc = .ok (.putfield idx, 3)) (kk : Vw x k n (pc + 3) lv st (pic (xg x) ad h')) : Vw x k n pc lv (v :: .ref (ad a) :: st) (pic (xg x) ad h) := by
  intro p e s m args below meth c H locs A Z ls S r hl hE
  obtain ⟨C, T, N, ty, ref, hc, hj, hk, ha, hlen, hlk, hsm, hty, hfin⟩ := hF
  have hts := S.2.2.2.2.1.2.hts args
  have hw : (pic (xg x) ad h)[a]? = some (ad a, .inr (kd a, (fdl a).mapIdx (fun j fd => fv_ ad h a j fd))) := by rw [pic_get ha, ce_obj hk]
  subst hty
  refine va_put (ci := kd a) (v := v) (ref := ref) S.1 S.2.1 hts hc.2.1 ty hc.2.2.1 hc.2.2.2 S.2.2.2.1 S.2.2.2.2.1.1 r.1 r.2.1 r.2.2 a hw hc.1 j hj (hts _ hlk) ?_ hfin (hc.2.2.1 j hj) hn hfit ?_ hd (fun H1 locs1 q1 q2 q3 => ?_)
  · rcases hsm with rfl | hsm
    · exact fun _ h => h
    · exact fun z hz => u_same (hts _ hsm) z hz
  · rw [List.length_mapIdx, hlen]
    exact hj
  · rw [hset] at q1 q2
    exact kk p e s m args below meth c H1 locs1 A Z ls S ⟨q1, q2, q3⟩ hl hE
theorem J_getI {idx a j t : Nat} (hF : FOk (xow x) idx a j .int false) (hf : (fdl a)[j]? = some (0, t)) (hd : decode (xcc x) pc = .ok (.getfield idx, 3)) (kk : Jj X o (Vw x k n (pc + 3) lv (.int (h.1 a j) :: st) (pic (xg x) ad h))) : Jj X o (Vw x k n pc lv (.ref (ad a) :: st) (pic (xg x) ad h)) := fun q => V_get hF hf hd (kk q)
theorem J_getIf {idx a j t : Nat} {fin : Bool} (hF : FOk (xow x) idx a j .int fin) (hf : (fdl a)[j]? = some (0, t)) (hd : decode (xcc x) pc = .ok (.getfield idx, 3)) (kk : Jj X o (Vw x k n (pc + 3) lv (.int (h.1 a j) :: st) (pic (xg x) ad h))) : Jj X o (Vw x k n pc lv (.ref (ad a) :: st) (pic (xg x) ad h)) := fun q => V_get hF hf hd (kk q)
theorem J_getZ {idx a j t : Nat} (hF : FOk (xow x) idx a j .boolean false) (hf : (fdl a)[j]? = some (0, t)) (hd : decode (xcc x) pc = .ok (.getfield idx, 3)) (kk : Jj X o (Vw x k n (pc + 3) lv (.int (h.1 a j) :: st) (pic (xg x) ad h))) : Jj X o (Vw x k n pc lv (.ref (ad a) :: st) (pic (xg x) ad h)) := fun q => V_get hF hf hd (kk q)
theorem J_getL {idx a j t : Nat} (hF : FOk (xow x) idx a j .long false) (hf : (fdl a)[j]? = some (1, t)) (hd : decode (xcc x) pc = .ok (.getfield idx, 3)) (kk : Jj X o (Vw x k n (pc + 3) lv (.long (h.2.1 a j) :: st) (pic (xg x) ad h))) : Jj X o (Vw x k n pc lv (.ref (ad a) :: st) (pic (xg x) ad h)) := fun q => V_get hF hf hd (kk q)
theorem J_getR {idx a j t : Nat} {fty : FieldType} {fin : Bool} (hF : FOk (xow x) idx a j fty fin) (hf : (fdl a)[j]? = some (2, t)) (hd : decode (xcc x) pc = .ok (.getfield idx, 3)) (kk : Jj X o (Vw x k n (pc + 3) lv (.ref (ad t) :: st) (pic (xg x) ad h))) : Jj X o (Vw x k n pc lv (.ref (ad a) :: st) (pic (xg x) ad h)) := fun q => V_get hF hf hd (kk q)
theorem J_getM {idx a j t : Nat} {fty : FieldType} {fin : Bool} (hF : FOk (xow x) idx a j fty fin) (hf : (fdl a)[j]? = some (3, t)) (hd : decode (xcc x) pc = .ok (.getfield idx, 3)) (kk : Jj X o (Vw x k n (pc + 3) lv (.ref (ad h.2.2) :: st) (pic (xg x) ad h))) : Jj X o (Vw x k n pc lv (.ref (ad a) :: st) (pic (xg x) ad h)) := fun q => V_get hF hf hd (kk q)
theorem FOk.lt {own : String} {idx a j : Nat} {fty : FieldType} {fin : Bool} (h : FOk own idx a j fty fin) : a < nc_c ∧ kd a < 20 := by
  obtain ⟨C, T, N, ty, ref, hc, hj, hk, ha, -⟩ := h
  exact ⟨ha, hk⟩
theorem J_putI {idx a j t : Nat} {v : Int32} (hF : FOk (xow x) idx a j .int false) (hf : (fdl a)[j]? = some (0, t)) (hd : decode (xcc x) pc = .ok (.putfield idx, 3)) (kk : Jj X o (Vw x k n (pc + 3) lv st (pic (xg x) ad (sI h a j v)))) : Jj X o (Vw x k n pc lv (.int v :: .ref (ad a) :: st) (pic (xg x) ad h)) := fun q => V_put hF rfl rfl (pic_sI_f hF.lt.1 hF.lt.2 hf) hd (kk q)
theorem zfit {v : Int32} (hv : v = 0 ∨ v = 1) : narrow .boolean (.int v) = .int v ∧ fits .boolean (.int v) = true := by
  rcases hv with rfl | rfl
  · exact ⟨by decide, by decide⟩
  · exact ⟨by decide, by decide⟩
theorem J_putZ {idx a j t : Nat} {v : Int32} (hv : v = 0 ∨ v = 1) (hF : FOk (xow x) idx a j .boolean false) (hf : (fdl a)[j]? = some (0, t)) (hd : decode (xcc x) pc = .ok (.putfield idx, 3)) (kk : Jj X o (Vw x k n (pc + 3) lv st (pic (xg x) ad (sI h a j v)))) : Jj X o (Vw x k n pc lv (.int v :: .ref (ad a) :: st) (pic (xg x) ad h)) := fun q => V_put hF (zfit hv).1 (zfit hv).2 (pic_sI_f hF.lt.1 hF.lt.2 hf) hd (kk q)
theorem J_putL {idx a j t : Nat} {v : Int64} (hF : FOk (xow x) idx a j .long false) (hf : (fdl a)[j]? = some (1, t)) (hd : decode (xcc x) pc = .ok (.putfield idx, 3)) (kk : Jj X o (Vw x k n (pc + 3) lv st (pic (xg x) ad (sL h a j v)))) : Jj X o (Vw x k n pc lv (.long v :: .ref (ad a) :: st) (pic (xg x) ad h)) := fun q => V_put hF rfl rfl (pic_sL_f hF.lt.1 hF.lt.2 hf) hd (kk q)
theorem J_putM {idx a j t v : Nat} {C : String} (ho : ∀ b i x, (b ≠ a ∨ i ≠ j) → (fdl b)[i]? = some x → x.1 ≠ 3) (hz : ∀ b, (fdl b).all (fun x => decide (x.1 ≤ 3)) = true) (hF : FOk (xow x) idx a j (.object C) false) (hf : (fdl a)[j]? = some (3, t)) (hd : decode (xcc x) pc = .ok (.putfield idx, 3)) (kk : Jj X o (Vw x k n (pc + 3) lv st (pic (xg x) ad (sR h v)))) : Jj X o (Vw x k n pc lv (.ref (ad v) :: .ref (ad a) :: st) (pic (xg x) ad h)) := fun q => V_put hF rfl rfl (pic_sR hF.lt.1 hF.lt.2 hf ho hz) hd (kk q)
theorem J_iald {a N : Nat} {i : Int32} (ha : a < nc_c) (hk : kd a = 20) (hN : ln a = N) (hd : decode (xcc x) pc = .ok (.iaload, 1)) (kk : Jj X o (Vw x k n (pc + 1) lv (.int (h.1 a i.toNatClampNeg) :: st) (pic (xg x) ad h))) : Jj X (ckk (inb i N) o) (Vw x k n pc lv (.int i :: .ref (ad a) :: st) (pic (xg x) ad h)) := by
  refine J_ck (fun hb q p e s m args below meth c H locs A Z ls S r hl hE => ?_)
  subst hN
  exact va_iald S.1 S.2.1 S.2.2.2.2.1.1 r.1 a 0 (by rw [pic_get ha, ce_int hk]) rfl (inb_in hb) hd (kk q p e s m args below meth c H locs A Z ls S r hl hE)
theorem J_zald {a N : Nat} {i : Int32} (ha : a < nc_c) (hk : kd a = 21) (hN : ln a = N) (hd : decode (xcc x) pc = .ok (.baload, 1)) (kk : Jj X o (Vw x k n (pc + 1) lv (.int (h.1 a i.toNatClampNeg) :: st) (pic (xg x) ad h))) : Jj X (ckk (inb i N) o) (Vw x k n pc lv (.int i :: .ref (ad a) :: st) (pic (xg x) ad h)) := by
  refine J_ck (fun hb q p e s m args below meth c H locs A Z ls S r hl hE => ?_)
  subst hN
  exact va_zald S.1 S.2.1 S.2.2.2.2.1.1 r.1 a 1 (by rw [pic_get ha, ce_bool hk]) rfl (inb_in hb) hd (kk q p e s m args below meth c H locs A Z ls S r hl hE)
theorem J_iast {a N : Nat} {i v : Int32} (ha : a < nc_c) (hk : kd a = 20) (hN : ln a = N) (hd : decode (xcc x) pc = .ok (.iastore, 1)) (kk : Jj X o (Vw x k n (pc + 1) lv st (pic (xg x) ad (sI h a i.toNatClampNeg v)))) : Jj X (ckk (inb i N) o) (Vw x k n pc lv (.int v :: .int i :: .ref (ad a) :: st) (pic (xg x) ad h)) := by
  refine J_ck (fun hb q p e s m args below meth c H locs A Z ls S r hl hE => ?_)
  subst hN
  refine va_iast S.1 S.2.1 S.2.2.2.2.1.1 r.1 r.2.1 r.2.2 a 0 (by rw [pic_get ha, ce_int hk]) rfl (inb_in hb) hd (fun H1 locs1 q1 q2 q3 => ?_)
  rw [pic_sI_a ha hk] at q1 q2
  exact kk q p e s m args below meth c H1 locs1 A Z ls S ⟨q1, q2, q3⟩ hl hE
theorem J_zast {a N : Nat} {i v : Int32} (hv : vp_nar .boolean v = v) (ha : a < nc_c) (hk : kd a = 21) (hN : ln a = N) (hd : decode (xcc x) pc = .ok (.bastore, 1)) (kk : Jj X o (Vw x k n (pc + 1) lv st (pic (xg x) ad (sI h a i.toNatClampNeg v)))) : Jj X (ckk (inb i N) o) (Vw x k n pc lv (.int v :: .int i :: .ref (ad a) :: st) (pic (xg x) ad h)) := by
  refine J_ck (fun hb q p e s m args below meth c H locs A Z ls S r hl hE => ?_)
  subst hN
  refine va_zast S.1 S.2.1 S.2.2.2.2.1.1 r.1 r.2.1 r.2.2 a 1 (by rw [pic_get ha, ce_bool hk]) rfl (inb_in hb) hd (fun H1 locs1 q1 q2 q3 => ?_)
  rw [hv, pic_sI_z ha hk] at q1 q2
  exact kk q p e s m args below meth c H1 locs1 A Z ls S ⟨q1, q2, q3⟩ hl hE
theorem J_alen {a : Nat} {v : Int32} (ha : a < nc_c) (hk : kd a = 20) (hv : Int32.ofNat (ln a) = v) (hd : decode (xcc x) pc = .ok (.arraylength, 1)) (kk : Jj X o (Vw x k n (pc + 1) lv (.int v :: st) (pic (xg x) ad h))) : Jj X o (Vw x k n pc lv (.ref (ad a) :: st) (pic (xg x) ad h)) := fun q p e s m args below meth c H locs A Z ls S r hl hE => va_alen S.1 S.2.1 S.2.2.2.2.1.1 r.1 a 0 (by rw [pic_get ha, ce_int hk]) rfl hv hd (kk q p e s m args below meth c H locs A Z ls S r hl hE)
theorem J_aaldT {a N : Nat} {i : Int32} (ha : a < nc_c) (hk : kd a = 22) (hN : ln a = N) (hd : decode (xcc x) pc = .ok (.aaload, 1)) (kk : inb i N = true → Jj X o (Vw x k n (pc + 1) lv (.ref (ad (rfx a i.toNatClampNeg)) :: st) (pic (xg x) ad h))) : Jj X (ckk (inb i N) o) (Vw x k n pc lv (.int i :: .ref (ad a) :: st) (pic (xg x) ad h)) := by
  refine J_ck (fun hb q p e s m args below meth c H locs A Z ls S r hl hE => ?_)
  subst hN
  exact va_aldq (f := fun i => some (ad (rfx a i))) S.1 S.2.1 S.2.2.2.2.1.1 r.1 a 2 (by rw [pic_get ha, ce_txt hk]) rfl (inb_in hb) hd (kk hb q p e s m args below meth c H locs A Z ls S r hl hE)
theorem J_aaldS {a N : Nat} {i : Int32} (ha : a < nc_c) (hk : kd a = 23) (hN : ln a = N) (hd : decode (xcc x) pc = .ok (.aaload, 1)) (kk : inb i N = true → Jj X o (Vw x k n (pc + 1) lv (.ref (ad (rfx a i.toNatClampNeg)) :: st) (pic (xg x) ad h))) : Jj X (ckk (inb i N) o) (Vw x k n pc lv (.int i :: .ref (ad a) :: st) (pic (xg x) ad h)) := by
  refine J_ck (fun hb q p e s m args below meth c H locs A Z ls S r hl hE => ?_)
  subst hN
  exact va_aldq (f := fun i => some (ad (rfx a i))) S.1 S.2.1 S.2.2.2.2.1.1 r.1 a 3 (by rw [pic_get ha, ce_sht hk]) rfl (inb_in hb) hd (kk hb q p e s m args below meth c H locs A Z ls S r hl hE)
theorem J_sld {ws : va_W} {b L : Nat} {xs : Nat → Int32} {i : Int32} (hs : xsc x = some (b, L, xs)) (hd : decode (xcc x) pc = .ok (.iaload, 1)) (kk : Jj X o (Vw x k n (pc + 1) lv (.int (xs i.toNatClampNeg) :: st) ws)) : Jj X (ckk (inb i L) o) (Vw x k n pc lv (.int i :: .ref b :: st) ws) := by
  refine J_ck (fun hb q p e s m args below meth c H locs A Z ls S r hl hE => ?_)
  obtain ⟨h1, h2, h3⟩ := S.2.2.2.2.2.2.2 b L xs hs
  exact va_sld S.1 S.2.1 h1 h2 h3 r.2.2 (inb_in hb) hd (kk q p e s m args below meth c H locs A Z ls S r hl hE)
theorem J_slen {ws : va_W} {b L : Nat} {xs : Nat → Int32} (hs : xsc x = some (b, L, xs)) (hd : decode (xcc x) pc = .ok (.arraylength, 1)) (kk : Jj X o (Vw x k n (pc + 1) lv (.int (Int32.ofNat L) :: st) ws)) : Jj X o (Vw x k n pc lv (.ref b :: st) ws) := by
  intro q p e s m args below meth c H locs A Z ls S r hl hE
  obtain ⟨h1, h2, h3⟩ := S.2.2.2.2.2.2.2 b L xs hs
  exact va_slen S.1 S.2.1 h1 h2 h3 r.2.2 hd (kk q p e s m args below meth c H locs A Z ls S r hl hE)
def cpk (sp dp m : Int32) (la lb : Nat) : Bool := decide (¬ sp < 0) && decide (¬ dp < 0) && decide (¬ m < 0) && decide (sp.toNatClampNeg + m.toNatClampNeg ≤ la) && decide (dp.toNatClampNeg + m.toNatClampNeg ≤ lb)
def wC (h : HP) (a b : Nat) (sp dp m : Int32) : HP := sA h b (va_cpy (h.1 a) (h.1 b) sp.toNatClampNeg dp.toNatClampNeg m.toNatClampNeg)
theorem J_copy {idx a b la lb : Nat} {sp dp m : Int32} (hlk : Cond.methodLink (xow x) idx arraycopyName ∈ tb_l) (hnat : Cond.native arraycopyName ∈ tb_l) (hst : Cond.static arraycopyName ∈ tb_l) (hini : Cond.initialized "java/lang/System" ∈ tb_l) (ha : a < nc_c) (hka : kd a = 20) (hla : ln a = la) (hb : b < nc_c) (hkb : kd b = 20) (hlb : ln b = lb) (hfr : 1 ≤ (xR x).frames) (hlo : (st.map fun v => v.category).sum + (nativeFrameWords "java/lang/System" "arraycopy" 5 + 11) ≤ (xR x).locals) (hd : decode (xcc x) pc = .ok (.invokestatic idx, 3)) (kk : Jj X o (Vw x k n (pc + 3) lv st (pic (xg x) ad (wC h a b sp dp m)))) : Jj X (ckk (cpk sp dp m la lb) o) (Vw x k n pc lv (.int m :: .int dp :: .ref (ad b) :: .int sp :: .ref (ad a) :: st) (pic (xg x) ad h)) := by
  refine J_ck (fun hc q p e s mm args below meth c H locs A Z ls S r hl hE => ?_)
  subst hla
  subst hlb
  unfold cpk at hc
  simp only [Bool.and_eq_true, decide_eq_true_eq] at hc
  obtain ⟨⟨⟨⟨h1, h2⟩, h3⟩, h4⟩, h5⟩ := hc
  have hts := S.2.2.2.2.1.2.hts args
  refine va_copyi S.1 S.2.1 (S.2.2.1.trans hl.1.symm) S.2.2.2.1 (hts _ hlk) (hts _ hnat) (hts _ hst) (hts _ hini) S.2.2.2.2.1.1 r.1 r.2.1 r.2.2 a b 0 0 (by rw [pic_get ha, ce_int hka]) (by rw [pic_get hb, ce_int hkb]) rfl rfl rfl h1 h2 h3 h4 h5 (fun _ _ => rfl) hfr hlo hd (fun H1 locs1 q1 q2 q3 => ?_)
  rw [pic_sA hb hkb] at q1 q2
  exact kk q p e s mm args below meth c H1 locs1 A Z ls S ⟨q1, q2, q3⟩ hl hE
end HROWS
end
section
/-! contracts over the abstract heap, and the calls that use them -/
def Pm (g : GG) (ad : Nat → Nat) (h : HP) (argv : List Value) (sz : Nat) : Array Value → State → Prop := va_Pc argv (fun U => U.heap.size = sz ∧ va_P g.1 cl_s (pic g ad h) U.heap ∧ va_D (fun _ => True) (pic g ad h) ∧ wk g U)
def Qm (g : GG) (ad : Nat → Nat) (h : HP) (sz : Nat) (v : Option Value) (h' : HP) : Array Value → State → Outcome → State → Prop := fun _ st oc t => oc = .returned v ∧ va_P g.1 cl_s (pic g ad h') t.heap ∧ va_F (va_A (pic g ad h) sz) st t
def Ct (l : Launch) (g : GG) (ad : Nat → Nat) (y : MethodName) (bytes : ByteArray) (mL : Nat) (ret : Option FieldType) (R : Room) (argv : List Value) (h : HP) (v : Option Value) (h' : HP) : Prop := ∀ sz, Met l y [.code y bytes mL ret] R (Pm g ad h argv sz) (Qm g ad h sz v h') 0 0 (va_A (pic g ad h) sz)
def CM {γ : Type} (l : Launch) (g : GG) (ad : Nat → Nat) (y : MethodName) (bytes : ByteArray) (mL : Nat) (ret : Option FieldType) (R : Room) (argv : List Value) (h : HP) (enc : γ → Option Value × HP) (o : Option γ) : Prop := ∀ a, o = some a → Ct l g ad y bytes mL ret R argv h (enc a).1 (enc a).2
def enI (q : Int32 × HP) : Option Value × HP := (some (.int q.1), q.2)
def enL (q : Int64 × HP) : Option Value × HP := (some (.long q.1), q.2)
def enV (h : HP) : Option Value × HP := (none, h)
def enA (v : Nat) (h : HP) : Option Value × HP := (some (.ref v), h)
theorem Pm.blind {g : GG} {ad : Nat → Nat} {h : HP} {argv : List Value} {sz : Nat} : FrameBlind (Pm g ad h argv sz) := fun _ _ _ _ q => ⟨q.1, q.2.1, q.2.2.1, q.2.2.2.1, wk.calling q.2.2.2.2⟩
/-- a body's walk gives the contract -/
theorem Ct.of {l : Launch} {g : GG} {ad : Nat → Nat} {y : MethodName} {bytes : ByteArray} {mL : Nat} {ret : Option FieldType} {R : Room} {argv : List Value} {h : HP} {v : Option Value} {h' : HP} (hy : plainName y.cls = true) (hlen : (lg_sl argv).length ≤ mL)
    (hV : Vw (l, g, none, R, y.cls, bytes, mL, false, 0, 0, fun v2 ws => v2 = v ∧ ws = pic g ad h', ret) 0 0 0 (lv_args 0 argv) [] (pic g ad h)) : Ct l g ad y bytes mL ret R argv h v h' := by
  intro sz
  refine Met.ofW (cc := bytes) (maxL := mL) (ret := ret) hy rfl ?_
  intro p e s m args below meth c s₁ B hml hv
  obtain ⟨rfl, hsz, hP, hD0, hK⟩ := hv
  have hr := B.returns
  have hlocks := B.notSynchronized
  rw [lg_entry_eq]
  have hSf : Sf (l, g, none, R, y.cls, bytes, mL, false, 0, 0, fun v2 ws => v2 = v ∧ ws = pic g ad h', ret) p s m argv.toArray meth c (va_A (pic g ad h) sz) := by
    refine ⟨B.exec, B.bytes, hml, findClass_of_methodNamed B.named, hK, fun q hq => Or.inr (by rw [← hsz]; exact hq), ?_, ?_⟩
    · intro hh
      have h2 : false = true := hh
      cases h2
    · intro b1 L1 xs1 hh
      have h2 : (none : Option (Nat × Nat × (Nat → Int32))) = some (b1, L1, xs1) := hh
      cases h2
  refine hV p e s m _ below meth c s.heap [] (va_A (pic g ad h) sz) _ _ hSf ⟨hP, hD0.self, va_S.rf⟩ (lv_entry argv hlen) ?_
  intro v' ws' H' locs' ls' pc' hQ hR hret
  obtain ⟨rfl, rfl⟩ := hQ
  have hq : ∀ t : State, t.heap = H' → s.WarmedH t.vm → Qm g ad h sz v' h' argv.toArray s (.returned v') t := fun t ht _ => ⟨rfl, by rw [ht]; exact hR.1, hR.2.2.F ht⟩
  rcases hret with ⟨r, rfl, hd, ty, hty, hn⟩ | ⟨r, rfl, hd, hty⟩ | ⟨a, C, rfl, hd, hty⟩ | ⟨rfl, hd, hty⟩
  · exact W.zret B.exec B.bytes (hr.trans hty) hn hq hR.2.2.2.2 hd
  · exact W.lret B.exec B.bytes (hr.trans hty) hq hR.2.2.2.2 hd
  · exact W.aret B.exec B.bytes (hr.trans hty) (Or.inl ⟨_, rfl⟩) (Or.inr ⟨_, rfl⟩) hq hR.2.2.2.2 hd
  · exact W.vret B.exec B.bytes (hr.trans hty) hq hR.2.2.2.2 hd
theorem CM.of {γ : Type} {l : Launch} {g : GG} {ad : Nat → Nat} {y : MethodName} {bytes : ByteArray} {mL : Nat} {ret : Option FieldType} {R : Room} {argv : List Value} {h : HP} {enc : γ → Option Value × HP} {o : Option γ} (hy : plainName y.cls = true) (hlen : (lg_sl argv).length ≤ mL)
    (hV : ∀ Q, Jj (fun a => Q (enc a).1 (pic g ad (enc a).2)) o (Vw (l, g, none, R, y.cls, bytes, mL, false, 0, 0, Q, ret) 0 0 0 (lv_args 0 argv) [] (pic g ad h))) : CM l g ad y bytes mL ret R argv h enc o := fun a ha => Ct.of hy hlen (hV _ ⟨a, ha, rfl, rfl⟩)
/-- what a caller must know of a method: its words -/
def MOk (y : MethodName) (bytes : ByteArray) (mL : Nat) (ret : Option FieldType) (np : Nat) : Prop := Cond.code y bytes mL ret ∈ tb_l ∧ Cond.initialized y.cls ∈ tb_l ∧ y.cls ≠ "java/lang/invoke/MethodHandle" ∧ y.cls ≠ "java/lang/invoke/VarHandle" ∧ (parseMethodDescriptor y.desc).map (fun d => d.parameters.length) = some np
def Rok (rm R : Room) (mL : Nat) : Prop := rm.cells = 0 ∧ rm.slots = 0 ∧ rm.frames + 1 ≤ R.frames ∧ 8 + (mL + 11) + rm.locals ≤ R.locals
theorem good_code {y : MethodName} {bytes : ByteArray} {mL : Nat} {ret : Option FieldType} (h : Cond.code y bytes mL ret ∈ tb_l) : GoodIn tb_l [.code y bytes mL ret] := by
  intro w hw
  rw [List.mem_singleton.mp hw]
  exact ⟨h, Or.inl rfl⟩
section CROWS
variable {x : KX} {k n pc : Nat} {lv : List (Nat × Value)} {st rest : List Value} {α β : Type} {X : α → Prop} {o : Option α} {ad : Nat → Nat} {h h' : HP}
variable {y : MethodName} {bytes : ByteArray} {mL : Nat} {ret : Option FieldType} {np : Nat} {rm : Room} {argv : List Value} {v : Option Value} {idx : Nat}
theorem V_run {aa : Array Value} (hr : ∀ p e s m args below meth c H locs A ls, Sf x p s m args meth c A → Rw (xg x) A s.heap (pic (xg x) ad h) H locs → lv_has ls (xnL x) lv → va_Run p (xl x) e (xR x) s m args below meth c H locs k n 0 0 (F0 m pc ls st) rest (Qm (xg x) ad h H.size v h' aa) (va_A (pic (xg x) ad h) H.size)) (kk : Vw x k n (pc + 3) lv (v.toList ++ rest) (pic (xg x) ad h')) : Vw x k n pc lv st (pic (xg x) ad h) := by
  intro p e s m args below meth c H locs A Z ls S r hl hE T hT X
  obtain ⟨v', st₀, t, T', L, h0, X', hL, e1, e2, ⟨hv, hP', hz, hk2⟩, stp⟩ := hr p e s m args below meth c H locs A ls S r hl T hT X
  cases hv
  rw [h0] at hz hk2
  have hF : ∀ q, va_A (pic (xg x) ad h) H.size q → A q := by
    intro q hq
    rcases hq with ⟨i, en, hq⟩ | hq
    · exact r.2.1.2 i _ hq
    · exact S.2.2.2.2.2.1 q (Nat.le_trans r.2.2.1 hq)
  obtain ⟨t2, a1, b1⟩ := kk p e s m args below meth c T'.heap (locs ++ L) A Z ls S ⟨by rw [e1]; exact hP', pic_D r.2.1, Nat.le_trans r.2.2.1 (by rw [e1]; exact hz), fun q h1 h2 => by rw [e1, hk2 q (Nat.lt_of_lt_of_le h1 r.2.2.1) (fun z => h2 (hF q z))]; exact r.2.2.2.1 q h1 h2, fun q hq => by
      rcases List.mem_append.mp hq with hq | hq
      · exact r.2.2.2.2 q hq
      · exact hF _ (hL q hq)⟩ hl hE T' rfl X'
  exact ⟨t2, stp t2 a1, b1⟩
theorem Pm.pre {g : GG} {s U : State} {H : Heap} {A : Nat → Prop} {H0 : Heap} {locs : List Loc} (hU : U.heap = H) (hW : s.WarmedH U.vm) (hK : wk g s) (r : Rw g A H0 (pic g ad h) H locs) : Pm g ad h argv H.size argv.toArray U := ⟨rfl, by rw [hU], by rw [hU]; exact r.1, r.2.1.weaken (fun _ _ _ _ => trivial), hK.warm hW⟩
theorem cb_ {R : Room} {s : State} {args : Array Value} {own : String} (hts : ∀ w ∈ tb_l, w.before args s = true) (ok : MOk y bytes mL ret np) (hlk : Cond.methodLink own idx y ∈ tb_l) (hR : Rok rm R mL) : CallB R s args own idx y bytes mL ret [.code y bytes mL ret] rm 0 0 np :=
  callB_of np hts (good_code ok.1) rfl hR.1 hR.2.1 (hts _ ok.2.1) (hts _ hlk) ok.2.2 hR.2.2
def Ckn (x : KX) (k n : Nat) : Prop := k + 0 ≤ (xR x).cells ∧ n + 0 ≤ (xR x).slots
theorem V_callS (hC : Ct (xl x) (xg x) ad y bytes mL ret rm argv h v h') (ok : MOk y bytes mL ret np) (hs : Cond.static y ∈ tb_l) (hlk : Cond.methodLink (xow x) idx y ∈ tb_l) (hR : Rok rm (xR x) mL) (hkn : Ckn x k n) (hn : argv.length = np) (hst : st = argv.reverse ++ rest) (hw : (rest.map fun v => v.category).sum ≤ 8) (hd : decode (xcc x) pc = .ok (.invokestatic idx, 3)) (kk : Vw x k n (pc + 3) lv (v.toList ++ rest) (pic (xg x) ad h')) : Vw x k n pc lv st (pic (xg x) ad h) := by
  refine V_run (aa := argv.toArray) (fun p e s m args below meth c H locs A ls S r hl => ?_) kk
  have hts := S.2.2.2.2.1.2.hts args
  exact va_runS (As := argv) ⟨S.1, S.2.1, S.2.2.1, S.2.2.2.1, hts⟩ (hC H.size) ⟨cb_ hts ok hlk hR, hts _ hs⟩ ⟨Pm.blind, fun U hU hW => Pm.pre hU hW S.2.2.2.2.1 r⟩ rfl hn hl.1 hst (lv_room hw) hd hkn
theorem V_callSN {host : String} (hC : Ct (xl x) (xg x) ad y bytes mL ret rm argv h v h') (ok : MOk y bytes mL ret np) (hs : Cond.static y ∈ tb_l) (hlk : Cond.methodLinkNest (xow x) idx y host ∈ tb_l) (hR : Rok rm (xR x) mL) (hkn : Ckn x k n) (hn : argv.length = np) (hst : st = argv.reverse ++ rest) (hw : (rest.map fun v => v.category).sum ≤ 8) (hd : decode (xcc x) pc = .ok (.invokestatic idx, 3)) (kk : Vw x k n (pc + 3) lv (v.toList ++ rest) (pic (xg x) ad h')) : Vw x k n pc lv st (pic (xg x) ad h) := by
  refine V_run (aa := argv.toArray) (fun p e s m args below meth c H locs A ls S r hl => ?_) kk
  have hts := S.2.2.2.2.1.2.hts args
  exact va_runSN (As := argv) ⟨S.1, S.2.1, S.2.2.1, S.2.2.2.1, hts⟩ (hC H.size) ⟨va_cnB np hts (good_code ok.1) rfl hR.1 hR.2.1 (S.2.2.2.2.1.2 _ hlk) (hts _ ok.2.1) ok.2.2 hR.2.2, hts _ hs, trivial⟩ ⟨Pm.blind, fun U hU hW => Pm.pre hU hW S.2.2.2.2.1 r⟩ rfl hn hl.1 hst (lv_room hw) hd hkn
/-- the receiver: a cell that is an object of the class of that name -/
def Rcv (a : Nat) (C : String) : Prop := a < nc_c ∧ kd a < 20 ∧ ∃ q, cl_s[kd a]? = some q ∧ q.1 = C
theorem Rcv.use {g : GG} {s : State} {H : Heap} {A : Nat → Prop} {H0 : Heap} {locs : List Loc} {a : Nat} {C : String} (h1 : Rcv a C) (hK : wk g s) (r : Rw g A H0 (pic g ad h) H locs) : ∃ cell : Cell, H[ad a]? = some cell ∧ cell.vm.isStatics = false ∧ s.vm.findClass C = some cell.cls := by
  obtain ⟨ha, hk, q, hq, rfl⟩ := h1
  exact va_recv hK.1 r.1 hq (by rw [pic_get ha, ce_obj hk])
theorem V_callV {a : Nat} {As : List Value} (hC : Ct (xl x) (xg x) ad y bytes mL ret rm (.ref (ad a) :: As) h v h') (ok : MOk y bytes mL ret np) (hrc : Rcv a y.cls) (hs : Cond.instanceMethod y ∈ tb_l) (hse : Cond.selects y.cls y y ∈ tb_l) (hlk : Cond.methodLink (xow x) idx y ∈ tb_l) (hR : Rok rm (xR x) mL) (hkn : Ckn x k n) (hn : As.length = np) (hst : st = As.reverse ++ .ref (ad a) :: rest) (hw : (rest.map fun v => v.category).sum ≤ 8) (hd : decode (xcc x) pc = .ok (.invokevirtual idx, 3)) (kk : Vw x k n (pc + 3) lv (v.toList ++ rest) (pic (xg x) ad h')) : Vw x k n pc lv st (pic (xg x) ad h) := by
  refine V_run (aa := (Value.ref (ad a) :: As).toArray) (fun p e s m args below meth c H locs A ls S r hl => ?_) kk
  have hts := S.2.2.2.2.1.2.hts args
  exact va_runV (As := As) (C := y.cls) ⟨S.1, S.2.1, S.2.2.1, S.2.2.2.1, hts⟩ (hC H.size) ⟨cb_ hts ok hlk hR, hts _ hs, hts _ hse⟩ ⟨Pm.blind, hrc.use S.2.2.2.2.1 r, fun U hU hW => Pm.pre hU hW S.2.2.2.2.1 r⟩ rfl hn hl.1 hst (lv_room hw) hd hkn
/-- a private method of the superclass is selected on an object of a subclass -/
theorem sel_up {args : Array Value} {s : State} {C : String} {y : MethodName} {n : Nat} (hins : (Cond.instantiable C n).before args s = true) (hsame : (Cond.sameMethod y.cls y.cls y.name y.desc).before args s = true) (hpriv : (Cond.privateMethod y).before args s = true) (hinst : (Cond.instanceMethod y).before args s = true) : (Cond.selects C y y).before args s = true := by
  obtain ⟨c, k, hc, hk, -⟩ := Cond.instantiable_spec hins
  obtain ⟨cn, ck, r, hcn, hck, hni, hf, hn⟩ := Cond.sameMethod_found hsame
  obtain ⟨mq, methM, hnamed, hmethM, -, -⟩ := Cond.instanceMethod_spec hinst
  have hn2 : s.methodNamed? y = some r := hn
  have e0 : mq = r := Option.some.inj (hnamed.symm.trans hn2)
  subst e0
  have hcls : mq.cls = cn := Option.some.inj ((findClass_of_methodNamed hnamed).symm.trans hcn)
  have hsel : selectMethod {} s.vm c mq = .method mq := selectMethod_private hmethM (Cond.privateMethod_at hpriv mq methM hnamed hmethM)
  simp only [Cond.before, Cond.holds, Cond.value, hc, hf, hnamed, hsel, hcls, hck]
  simp; exact hni
/-- the words of a call whose method is named through the superclass x0.cls and found, or overridden, as y on the receiver's class C -/
def UOk (C : String) (x0 y : MethodName) : Prop := Cond.sameMethod x0.cls x0.cls x0.name x0.desc ∈ tb_l ∧ Cond.instanceMethod y ∈ tb_l ∧ Cond.selects C x0 y ∈ tb_l ∧ (x0 = y ∨ Cond.declares x0 ∈ tb_l) ∧ (x0.cls ≠ "java/lang/invoke/MethodHandle" ∧ x0.cls ≠ "java/lang/invoke/VarHandle") ∧ x0.desc = y.desc
theorem V_callU {a : Nat} {C : String} {x0 : MethodName} {As : List Value} (hC : Ct (xl x) (xg x) ad y bytes mL ret rm (.ref (ad a) :: As) h v h') (ok : MOk y bytes mL ret np) (hrc : Rcv a C) (hu : UOk C x0 y) (hlk : Cond.methodLink (xow x) idx x0 ∈ tb_l) (hR : Rok rm (xR x) mL) (hkn : Ckn x k n) (hn : As.length = np) (hst : st = As.reverse ++ .ref (ad a) :: rest) (hw : (rest.map fun v => v.category).sum ≤ 8) (hd : decode (xcc x) pc = .ok (.invokevirtual idx, 3)) (kk : Vw x k n (pc + 3) lv (v.toList ++ rest) (pic (xg x) ad h')) : Vw x k n pc lv st (pic (xg x) ad h) := by
  refine V_run (aa := (Value.ref (ad a) :: As).toArray) (fun p e s m args below meth c H locs A ls S r hl => ?_) kk
  have hts := S.2.2.2.2.1.2.hts args
  obtain ⟨hsm, hin, hse, hde, hmh, hdesc⟩ := hu
  have hsel : (Cond.selects C x0 y).before args s = true := hts _ hse
  have hdecl : va_Decl s ⟨x0.cls, x0.name, x0.desc⟩ := by
    rcases hde with rfl | hde
    · exact va_Decl.of (hts _ hin) (hts _ ok.1)
    · exact va_Decl.abs (S.2.2.2.2.1.2 _ hde)
  refine va_runU (As := As) (C := C) (owner := x0.cls) ⟨S.1, S.2.1, S.2.2.1, S.2.2.2.1, hts⟩ (hC H.size) ⟨⟨hR.1, hR.2.1, hR.2.2.1, hR.2.2.2, pay_in hts (good_code ok.1), List.mem_singleton.mpr rfl⟩, hts _ ok.1, hts _ ok.2.1, hmh, fun sig hsig => ?_, hts _ hlk, hts _ hsm, hdecl, hsel, hts _ hin⟩ ⟨Pm.blind, hrc.use S.2.2.2.2.1 r, fun U hU hW => Pm.pre hU hW S.2.2.2.2.1 r⟩ rfl hn hl.1 hst (lv_room hw) hd hkn
  have h2 := ok.2.2.2.2
  rw [← hdesc, hsig] at h2
  exact (Option.some.inj h2).symm
/-! the same, guarded: a call in front of a computation -/
theorem J_call {γ : Type} {enc : γ → Option Value × HP} {o1 : Option γ} {f : γ → Option α} {P : Prop} (hm : CM (xl x) (xg x) ad y bytes mL ret rm argv h enc o1) (hv : ∀ a, Ct (xl x) (xg x) ad y bytes mL ret rm argv h (enc a).1 (enc a).2 → Vw x k n (pc + 3) lv ((enc a).1.toList ++ rest) (pic (xg x) ad (enc a).2) → P) (kk : ∀ a, Jj X (f a) (Vw x k n (pc + 3) lv ((enc a).1.toList ++ rest) (pic (xg x) ad (enc a).2))) : Jj X (bd1 o1 f) P := by
  intro ⟨a, hb, hx⟩
  cases o1 with
  | none => cases hb
  | some q => exact hv q (hm q rfl) (kk q ⟨a, hb, hx⟩)
end CROWS
section CROWS2
variable {x : KX} {k n pc : Nat} {lv : List (Nat × Value)} {st rest : List Value} {α β : Type} {X : α → Prop} {o : Option α} {ad : Nat → Nat} {h h' : HP}
variable {y : MethodName} {bytes : ByteArray} {mL : Nat} {ret : Option FieldType} {np : Nat} {rm : Room} {argv : List Value} {idx : Nat}
theorem J_callSi {o1 : Option (Int32 × HP)} {f : Int32 → HP → Option α} (hm : CM (xl x) (xg x) ad y bytes mL ret rm argv h enI o1) (ok : MOk y bytes mL ret np) (hs : Cond.static y ∈ tb_l) (hlk : Cond.methodLink (xow x) idx y ∈ tb_l) (hR : Rok rm (xR x) mL) (hkn : Ckn x k n) (hn : argv.length = np) (hst : st = argv.reverse ++ rest) (hw : (rest.map fun v => v.category).sum ≤ 8) (hd : decode (xcc x) pc = .ok (.invokestatic idx, 3)) (kk : ∀ r h', Jj X (f r h') (Vw x k n (pc + 3) lv (.int r :: rest) (pic (xg x) ad h'))) : Jj X (bd2 o1 f) (Vw x k n pc lv st (pic (xg x) ad h)) := J_call hm (fun a hC hv => V_callS hC ok hs hlk hR hkn hn hst hw hd hv) (fun q => kk q.1 q.2)
theorem J_callSl {o1 : Option (Int64 × HP)} {f : Int64 → HP → Option α} (hm : CM (xl x) (xg x) ad y bytes mL ret rm argv h enL o1) (ok : MOk y bytes mL ret np) (hs : Cond.static y ∈ tb_l) (hlk : Cond.methodLink (xow x) idx y ∈ tb_l) (hR : Rok rm (xR x) mL) (hkn : Ckn x k n) (hn : argv.length = np) (hst : st = argv.reverse ++ rest) (hw : (rest.map fun v => v.category).sum ≤ 8) (hd : decode (xcc x) pc = .ok (.invokestatic idx, 3)) (kk : ∀ r h', Jj X (f r h') (Vw x k n (pc + 3) lv (.long r :: rest) (pic (xg x) ad h'))) : Jj X (bd2 o1 f) (Vw x k n pc lv st (pic (xg x) ad h)) := J_call hm (fun a hC hv => V_callS hC ok hs hlk hR hkn hn hst hw hd hv) (fun q => kk q.1 q.2)
theorem J_callSv {o1 : Option (HP)} {f : HP → Option α} (hm : CM (xl x) (xg x) ad y bytes mL ret rm argv h enV o1) (ok : MOk y bytes mL ret np) (hs : Cond.static y ∈ tb_l) (hlk : Cond.methodLink (xow x) idx y ∈ tb_l) (hR : Rok rm (xR x) mL) (hkn : Ckn x k n) (hn : argv.length = np) (hst : st = argv.reverse ++ rest) (hw : (rest.map fun v => v.category).sum ≤ 8) (hd : decode (xcc x) pc = .ok (.invokestatic idx, 3)) (kk : ∀ h', Jj X (f h') (Vw x k n (pc + 3) lv rest (pic (xg x) ad h'))) : Jj X (bd1 o1 f) (Vw x k n pc lv st (pic (xg x) ad h)) := J_call hm (fun a hC hv => V_callS hC ok hs hlk hR hkn hn hst hw hd hv) (fun q => kk q)
theorem J_callSNi {host : String} {o1 : Option (Int32 × HP)} {f : Int32 → HP → Option α} (hm : CM (xl x) (xg x) ad y bytes mL ret rm argv h enI o1) (ok : MOk y bytes mL ret np) (hs : Cond.static y ∈ tb_l) (hlk : Cond.methodLinkNest (xow x) idx y host ∈ tb_l) (hR : Rok rm (xR x) mL) (hkn : Ckn x k n) (hn : argv.length = np) (hst : st = argv.reverse ++ rest) (hw : (rest.map fun v => v.category).sum ≤ 8) (hd : decode (xcc x) pc = .ok (.invokestatic idx, 3)) (kk : ∀ r h', Jj X (f r h') (Vw x k n (pc + 3) lv (.int r :: rest) (pic (xg x) ad h'))) : Jj X (bd2 o1 f) (Vw x k n pc lv st (pic (xg x) ad h)) := J_call hm (fun a hC hv => V_callSN hC ok hs hlk hR hkn hn hst hw hd hv) (fun q => kk q.1 q.2)
theorem J_callSNv {host : String} {o1 : Option (HP)} {f : HP → Option α} (hm : CM (xl x) (xg x) ad y bytes mL ret rm argv h enV o1) (ok : MOk y bytes mL ret np) (hs : Cond.static y ∈ tb_l) (hlk : Cond.methodLinkNest (xow x) idx y host ∈ tb_l) (hR : Rok rm (xR x) mL) (hkn : Ckn x k n) (hn : argv.length = np) (hst : st = argv.reverse ++ rest) (hw : (rest.map fun v => v.category).sum ≤ 8) (hd : decode (xcc x) pc = .ok (.invokestatic idx, 3)) (kk : ∀ h', Jj X (f h') (Vw x k n (pc + 3) lv rest (pic (xg x) ad h'))) : Jj X (bd1 o1 f) (Vw x k n pc lv st (pic (xg x) ad h)) := J_call hm (fun a hC hv => V_callSN hC ok hs hlk hR hkn hn hst hw hd hv) (fun q => kk q)
theorem J_callVi {a : Nat} {As : List Value} {o1 : Option (Int32 × HP)} {f : Int32 → HP → Option α} (hm : CM (xl x) (xg x) ad y bytes mL ret rm (.ref (ad a) :: As) h enI o1) (ok : MOk y bytes mL ret np) (hrc : Rcv a y.cls) (hs : Cond.instanceMethod y ∈ tb_l) (hse : Cond.selects y.cls y y ∈ tb_l) (hlk : Cond.methodLink (xow x) idx y ∈ tb_l) (hR : Rok rm (xR x) mL) (hkn : Ckn x k n) (hn : As.length = np) (hst : st = As.reverse ++ .ref (ad a) :: rest) (hw : (rest.map fun v => v.category).sum ≤ 8) (hd : decode (xcc x) pc = .ok (.invokevirtual idx, 3)) (kk : ∀ r h', Jj X (f r h') (Vw x k n (pc + 3) lv (.int r :: rest) (pic (xg x) ad h'))) : Jj X (bd2 o1 f) (Vw x k n pc lv st (pic (xg x) ad h)) := J_call hm (fun a hC hv => V_callV hC ok hrc hs hse hlk hR hkn hn hst hw hd hv) (fun q => kk q.1 q.2)
theorem J_callVl {a : Nat} {As : List Value} {o1 : Option (Int64 × HP)} {f : Int64 → HP → Option α} (hm : CM (xl x) (xg x) ad y bytes mL ret rm (.ref (ad a) :: As) h enL o1) (ok : MOk y bytes mL ret np) (hrc : Rcv a y.cls) (hs : Cond.instanceMethod y ∈ tb_l) (hse : Cond.selects y.cls y y ∈ tb_l) (hlk : Cond.methodLink (xow x) idx y ∈ tb_l) (hR : Rok rm (xR x) mL) (hkn : Ckn x k n) (hn : As.length = np) (hst : st = As.reverse ++ .ref (ad a) :: rest) (hw : (rest.map fun v => v.category).sum ≤ 8) (hd : decode (xcc x) pc = .ok (.invokevirtual idx, 3)) (kk : ∀ r h', Jj X (f r h') (Vw x k n (pc + 3) lv (.long r :: rest) (pic (xg x) ad h'))) : Jj X (bd2 o1 f) (Vw x k n pc lv st (pic (xg x) ad h)) := J_call hm (fun a hC hv => V_callV hC ok hrc hs hse hlk hR hkn hn hst hw hd hv) (fun q => kk q.1 q.2)
theorem J_callVv {a : Nat} {As : List Value} {o1 : Option (HP)} {f : HP → Option α} (hm : CM (xl x) (xg x) ad y bytes mL ret rm (.ref (ad a) :: As) h enV o1) (ok : MOk y bytes mL ret np) (hrc : Rcv a y.cls) (hs : Cond.instanceMethod y ∈ tb_l) (hse : Cond.selects y.cls y y ∈ tb_l) (hlk : Cond.methodLink (xow x) idx y ∈ tb_l) (hR : Rok rm (xR x) mL) (hkn : Ckn x k n) (hn : As.length = np) (hst : st = As.reverse ++ .ref (ad a) :: rest) (hw : (rest.map fun v => v.category).sum ≤ 8) (hd : decode (xcc x) pc = .ok (.invokevirtual idx, 3)) (kk : ∀ h', Jj X (f h') (Vw x k n (pc + 3) lv rest (pic (xg x) ad h'))) : Jj X (bd1 o1 f) (Vw x k n pc lv st (pic (xg x) ad h)) := J_call hm (fun a hC hv => V_callV hC ok hrc hs hse hlk hR hkn hn hst hw hd hv) (fun q => kk q)
theorem J_callVa {a : Nat} {As : List Value} {vv : Nat} {o1 : Option (HP)} {f : HP → Option α} (hm : CM (xl x) (xg x) ad y bytes mL ret rm (.ref (ad a) :: As) h (enA vv) o1) (ok : MOk y bytes mL ret np) (hrc : Rcv a y.cls) (hs : Cond.instanceMethod y ∈ tb_l) (hse : Cond.selects y.cls y y ∈ tb_l) (hlk : Cond.methodLink (xow x) idx y ∈ tb_l) (hR : Rok rm (xR x) mL) (hkn : Ckn x k n) (hn : As.length = np) (hst : st = As.reverse ++ .ref (ad a) :: rest) (hw : (rest.map fun v => v.category).sum ≤ 8) (hd : decode (xcc x) pc = .ok (.invokevirtual idx, 3)) (kk : ∀ h', Jj X (f h') (Vw x k n (pc + 3) lv (.ref vv :: rest) (pic (xg x) ad h'))) : Jj X (bd1 o1 f) (Vw x k n pc lv st (pic (xg x) ad h)) := J_call hm (fun a hC hv => V_callV hC ok hrc hs hse hlk hR hkn hn hst hw hd hv) (fun q => kk q)
theorem J_callUi {a : Nat} {C : String} {x0 : MethodName} {As : List Value} {o1 : Option (Int32 × HP)} {f : Int32 → HP → Option α} (hm : CM (xl x) (xg x) ad y bytes mL ret rm (.ref (ad a) :: As) h enI o1) (ok : MOk y bytes mL ret np) (hrc : Rcv a C) (hu : UOk C x0 y) (hlk : Cond.methodLink (xow x) idx x0 ∈ tb_l) (hR : Rok rm (xR x) mL) (hkn : Ckn x k n) (hn : As.length = np) (hst : st = As.reverse ++ .ref (ad a) :: rest) (hw : (rest.map fun v => v.category).sum ≤ 8) (hd : decode (xcc x) pc = .ok (.invokevirtual idx, 3)) (kk : ∀ r h', Jj X (f r h') (Vw x k n (pc + 3) lv (.int r :: rest) (pic (xg x) ad h'))) : Jj X (bd2 o1 f) (Vw x k n pc lv st (pic (xg x) ad h)) := J_call hm (fun a hC hv => V_callU hC ok hrc hu hlk hR hkn hn hst hw hd hv) (fun q => kk q.1 q.2)
theorem J_callUv {a : Nat} {C : String} {x0 : MethodName} {As : List Value} {o1 : Option (HP)} {f : HP → Option α} (hm : CM (xl x) (xg x) ad y bytes mL ret rm (.ref (ad a) :: As) h enV o1) (ok : MOk y bytes mL ret np) (hrc : Rcv a C) (hu : UOk C x0 y) (hlk : Cond.methodLink (xow x) idx x0 ∈ tb_l) (hR : Rok rm (xR x) mL) (hkn : Ckn x k n) (hn : As.length = np) (hst : st = As.reverse ++ .ref (ad a) :: rest) (hw : (rest.map fun v => v.category).sum ≤ 8) (hd : decode (xcc x) pc = .ok (.invokevirtual idx, 3)) (kk : ∀ h', Jj X (f h') (Vw x k n (pc + 3) lv rest (pic (xg x) ad h'))) : Jj X (bd1 o1 f) (Vw x k n pc lv st (pic (xg x) ad h)) := J_call hm (fun a hC hv => V_callU hC ok hrc hu hlk hR hkn hn hst hw hd hv) (fun q => kk q)
end CROWS2
/-! rows in the shape that the printed methods use -/
def rI (h : HP) (a j : Nat) : Int32 := h.1 a j
def rL (h : HP) (a j : Nat) : Int64 := h.2.1 a j
def rA (h : HP) (a : Nat) (i : Int32) : Int32 := h.1 a i.toNatClampNeg
def wA (h : HP) (a : Nat) (i v : Int32) : HP := sI h a i.toNatClampNeg v
def rf1 (a j : Nat) : Nat := ((fdl a).getD j (0, 0)).2
def z01 (v : Int32) : Bool := decide (v = 0 ∨ v = 1)
theorem z01_or {v : Int32} (h : z01 v = true) : v = 0 ∨ v = 1 := by
  unfold z01 at h
  exact of_decide_eq_true h
theorem me2 {P : Nat → Prop} {p q a : Nat} (h : a ∈ [p, q]) (h1 : P p) (h2 : P q) : P a := by
  simp only [List.mem_cons, List.not_mem_nil, or_false] at h
  rcases h with rfl | rfl <;> assumption
theorem me4 {P : Nat → Prop} {p q r s a : Nat} (h : a ∈ [p, q, r, s]) (h1 : P p) (h2 : P q) (h3 : P r) (h4 : P s) : P a := by
  simp only [List.mem_cons, List.not_mem_nil, or_false] at h
  rcases h with rfl | rfl | rfl | rfl <;> assumption
theorem me5 {P : Nat → Prop} {p q r s t a : Nat} (h : a ∈ [p, q, r, s, t]) (h1 : P p) (h2 : P q) (h3 : P r) (h4 : P s) (h5 : P t) : P a := by
  simp only [List.mem_cons, List.not_mem_nil, or_false] at h
  rcases h with rfl | rfl | rfl | rfl | rfl <;> assumption
theorem mR_only : ∀ b i x, (b ≠ 54 ∨ i ≠ 2) → (fdl b)[i]? = some x → x.1 ≠ 3 := by
  intro b i x hn hx h3
  have hb : ∀ b : Nat, b < 72 → ∀ i : Nat, i < (fdl b).length → (b = 54 ∧ i = 2) ∨ ((fdl b).getD i (0, 0)).1 ≠ 3 := by decide +kernel
  have hi : i < (fdl b).length := (List.getElem?_eq_some_iff.mp hx).1
  by_cases hlt : b < 72
  · rcases hb b hlt i hi with ⟨h1, h2⟩ | h4
    · rcases hn with hn | hn
      · exact hn h1
      · exact hn h2
    · apply h4
      rw [List.getD_eq_getElem?_getD, hx]
      exact h3
  · have hz : fdl b = [] := by
      unfold fdl
      rw [List.getD_eq_getElem?_getD, List.getElem?_eq_none (by simp only [fd_l, List.length_cons, List.length_nil]; omega)]
      rfl
    rw [hz] at hi
    exact absurd hi (Nat.not_lt_zero _)
theorem mR_le : ∀ b, (fdl b).all (fun x => decide (x.1 ≤ 3)) = true := by
  intro b
  have hb : ∀ b : Nat, b < 72 → (fdl b).all (fun x => decide (x.1 ≤ 3)) = true := by decide +kernel
  by_cases hlt : b < 72
  · exact hb b hlt
  · have hz : fdl b = [] := by
      unfold fdl
      rw [List.getD_eq_getElem?_getD, List.getElem?_eq_none (by simp only [fd_l, List.length_cons, List.length_nil]; omega)]
      rfl
    rw [hz]
    rfl
section PROWS
variable {x : KX} {k n pc : Nat} {lv : List (Nat × Value)} {st : List Value} {α : Type} {X : α → Prop} {o : Option α} {ad : Nat → Nat} {h : HP}
theorem P_gI {idx a j t : Nat} {fin : Bool} {f : Int32 → Option α} (hF : FOk (xow x) idx a j .int fin) (hf : (fdl a)[j]? = some (0, t)) (hd : decode (xcc x) pc = .ok (.getfield idx, 3)) (kk : ∀ v, Jj X (f v) (Vw x k n (pc + 3) lv (.int v :: st) (pic (xg x) ad h))) : Jj X (ltt (rI h a j) f) (Vw x k n pc lv (.ref (ad a) :: st) (pic (xg x) ad h)) := J_getIf hF hf hd (kk _)
theorem P_gZ {idx a j t : Nat} {f : Int32 → Option α} (hF : FOk (xow x) idx a j .boolean false) (hf : (fdl a)[j]? = some (0, t)) (hd : decode (xcc x) pc = .ok (.getfield idx, 3)) (kk : ∀ v, Jj X (f v) (Vw x k n (pc + 3) lv (.int v :: st) (pic (xg x) ad h))) : Jj X (ltt (rI h a j) f) (Vw x k n pc lv (.ref (ad a) :: st) (pic (xg x) ad h)) := J_getZ hF hf hd (kk _)
theorem P_gL {idx a j t : Nat} {f : Int64 → Option α} (hF : FOk (xow x) idx a j .long false) (hf : (fdl a)[j]? = some (1, t)) (hd : decode (xcc x) pc = .ok (.getfield idx, 3)) (kk : ∀ v, Jj X (f v) (Vw x k n (pc + 3) lv (.long v :: st) (pic (xg x) ad h))) : Jj X (ltt (rL h a j) f) (Vw x k n pc lv (.ref (ad a) :: st) (pic (xg x) ad h)) := J_getL hF hf hd (kk _)
theorem P_gRv {idx a j : Nat} {fty : FieldType} {fin : Bool} {cs : List Nat} {f : Nat → Option α} (hc : rf1 a j ∈ cs) (hF : FOk (xow x) idx a j fty fin) (hf : (fdl a)[j]? = some (2, rf1 a j)) (hd : decode (xcc x) pc = .ok (.getfield idx, 3)) (kk : ∀ v, v ∈ cs → Jj X (f v) (Vw x k n (pc + 3) lv (.ref (ad v) :: st) (pic (xg x) ad h))) : Jj X (ltt (rf1 a j) f) (Vw x k n pc lv (.ref (ad a) :: st) (pic (xg x) ad h)) := J_getR hF hf hd (kk _ hc)
theorem P_gM {idx a j t : Nat} {fty : FieldType} {fin : Bool} {cs : List Nat} {f : Nat → Option α} (hF : FOk (xow x) idx a j fty fin) (hf : (fdl a)[j]? = some (3, t)) (hd : decode (xcc x) pc = .ok (.getfield idx, 3)) (kk : ∀ v, v ∈ cs → Jj X (f v) (Vw x k n (pc + 3) lv (.ref (ad v) :: st) (pic (xg x) ad h))) : Jj X (ckk (cs.contains h.2.2) (ltt h.2.2 f)) (Vw x k n pc lv (.ref (ad a) :: st) (pic (xg x) ad h)) := J_ck (fun hb => J_getM hF hf hd (kk _ (List.contains_iff_mem.mp hb)))
theorem P_wI {idx a j t : Nat} {v : Int32} {f : HP → Option α} (hF : FOk (xow x) idx a j .int false) (hf : (fdl a)[j]? = some (0, t)) (hd : decode (xcc x) pc = .ok (.putfield idx, 3)) (kk : ∀ h', Jj X (f h') (Vw x k n (pc + 3) lv st (pic (xg x) ad h'))) : Jj X (ltt (sI h a j v) f) (Vw x k n pc lv (.int v :: .ref (ad a) :: st) (pic (xg x) ad h)) := J_putI hF hf hd (kk _)
theorem P_wZ {idx a j t : Nat} {v : Int32} {f : HP → Option α} (hv : v = 0 ∨ v = 1) (hF : FOk (xow x) idx a j .boolean false) (hf : (fdl a)[j]? = some (0, t)) (hd : decode (xcc x) pc = .ok (.putfield idx, 3)) (kk : ∀ h', Jj X (f h') (Vw x k n (pc + 3) lv st (pic (xg x) ad h'))) : Jj X (ltt (sI h a j v) f) (Vw x k n pc lv (.int v :: .ref (ad a) :: st) (pic (xg x) ad h)) := J_putZ hv hF hf hd (kk _)
theorem P_wZv {idx a j t : Nat} {v : Int32} {f : HP → Option α} (hF : FOk (xow x) idx a j .boolean false) (hf : (fdl a)[j]? = some (0, t)) (hd : decode (xcc x) pc = .ok (.putfield idx, 3)) (kk : ∀ h', Jj X (f h') (Vw x k n (pc + 3) lv st (pic (xg x) ad h'))) : Jj X (ckk (z01 v) (ltt (sI h a j v) f)) (Vw x k n pc lv (.int v :: .ref (ad a) :: st) (pic (xg x) ad h)) := J_ck (fun hb => J_putZ (z01_or hb) hF hf hd (kk _))
theorem P_wL {idx a j t : Nat} {v : Int64} {f : HP → Option α} (hF : FOk (xow x) idx a j .long false) (hf : (fdl a)[j]? = some (1, t)) (hd : decode (xcc x) pc = .ok (.putfield idx, 3)) (kk : ∀ h', Jj X (f h') (Vw x k n (pc + 3) lv st (pic (xg x) ad h'))) : Jj X (ltt (sL h a j v) f) (Vw x k n pc lv (.long v :: .ref (ad a) :: st) (pic (xg x) ad h)) := J_putL hF hf hd (kk _)
theorem P_wM {idx t v : Nat} {C : String} {f : HP → Option α} (hF : FOk (xow x) idx 54 2 (.object C) false) (hf : (fdl 54)[2]? = some (3, t)) (hd : decode (xcc x) pc = .ok (.putfield idx, 3)) (kk : ∀ h', Jj X (f h') (Vw x k n (pc + 3) lv st (pic (xg x) ad h'))) : Jj X (ltt (sR h v) f) (Vw x k n pc lv (.ref (ad v) :: .ref (ad 54) :: st) (pic (xg x) ad h)) := J_putM mR_only mR_le hF hf hd (kk _)
theorem P_ia {a N : Nat} {i : Int32} {f : Int32 → Option α} (ha : a < nc_c) (hk : kd a = 20) (hN : ln a = N) (hd : decode (xcc x) pc = .ok (.iaload, 1)) (kk : ∀ v, Jj X (f v) (Vw x k n (pc + 1) lv (.int v :: st) (pic (xg x) ad h))) : Jj X (ckk (inb i N) (ltt (rA h a i) f)) (Vw x k n pc lv (.int i :: .ref (ad a) :: st) (pic (xg x) ad h)) := J_iald ha hk hN hd (kk _)
theorem P_za {a N : Nat} {i : Int32} {f : Int32 → Option α} (ha : a < nc_c) (hk : kd a = 21) (hN : ln a = N) (hd : decode (xcc x) pc = .ok (.baload, 1)) (kk : ∀ v, Jj X (f v) (Vw x k n (pc + 1) lv (.int v :: st) (pic (xg x) ad h))) : Jj X (ckk (inb i N) (ltt (rA h a i) f)) (Vw x k n pc lv (.int i :: .ref (ad a) :: st) (pic (xg x) ad h)) := J_zald ha hk hN hd (kk _)
theorem P_wa {a N : Nat} {i v : Int32} {f : HP → Option α} (ha : a < nc_c) (hk : kd a = 20) (hN : ln a = N) (hd : decode (xcc x) pc = .ok (.iastore, 1)) (kk : ∀ h', Jj X (f h') (Vw x k n (pc + 1) lv st (pic (xg x) ad h'))) : Jj X (ckk (inb i N) (ltt (wA h a i v) f)) (Vw x k n pc lv (.int v :: .int i :: .ref (ad a) :: st) (pic (xg x) ad h)) := J_iast ha hk hN hd (kk _)
theorem P_wza {a N : Nat} {i v : Int32} {f : HP → Option α} (hv : vp_nar .boolean v = v) (ha : a < nc_c) (hk : kd a = 21) (hN : ln a = N) (hd : decode (xcc x) pc = .ok (.bastore, 1)) (kk : ∀ h', Jj X (f h') (Vw x k n (pc + 1) lv st (pic (xg x) ad h'))) : Jj X (ckk (inb i N) (ltt (wA h a i v) f)) (Vw x k n pc lv (.int v :: .int i :: .ref (ad a) :: st) (pic (xg x) ad h)) := J_zast hv ha hk hN hd (kk _)
theorem inb_lt {i : Int32} {n : Nat} (h : inb i n = true) : i.toNatClampNeg < n := Nat.not_le.mp fun q => inb_in h (Or.inr q)
theorem P_aaT {a N : Nat} {i : Int32} {cs : List Nat} {f : Nat → Option α} (hc : ∀ j, j < N → rfx a j ∈ cs) (ha : a < nc_c) (hk : kd a = 22) (hN : ln a = N) (hd : decode (xcc x) pc = .ok (.aaload, 1)) (kk : ∀ v, v ∈ cs → Jj X (f v) (Vw x k n (pc + 1) lv (.ref (ad v) :: st) (pic (xg x) ad h))) : Jj X (ckk (inb i N) (ltt (rfx a i.toNatClampNeg) f)) (Vw x k n pc lv (.int i :: .ref (ad a) :: st) (pic (xg x) ad h)) := J_aaldT ha hk hN hd (fun hb => kk _ (hc _ (inb_lt hb)))
theorem P_aaS {a N : Nat} {i : Int32} {cs : List Nat} {f : Nat → Option α} (hc : ∀ j, j < N → rfx a j ∈ cs) (ha : a < nc_c) (hk : kd a = 23) (hN : ln a = N) (hd : decode (xcc x) pc = .ok (.aaload, 1)) (kk : ∀ v, v ∈ cs → Jj X (f v) (Vw x k n (pc + 1) lv (.ref (ad v) :: st) (pic (xg x) ad h))) : Jj X (ckk (inb i N) (ltt (rfx a i.toNatClampNeg) f)) (Vw x k n pc lv (.int i :: .ref (ad a) :: st) (pic (xg x) ad h)) := J_aaldS ha hk hN hd (fun hb => kk _ (hc _ (inb_lt hb)))
theorem P_ist_n {z : Fin 4} {u : Int32} {lv' : Int32 → List (Nat × Value)} {f : Int32 → Option α} {ws : va_W} (i : Nat) (hi : (z : Nat) = i) (hn : i < xnL x) (hlv : ∀ v, (i, Value.int v) :: lv.filter (fun q => !(q.1 == i) && !(q.1 + 1 == i && q.2.category == 2)) = lv' v) (hd : decode (xcc x) pc = .ok (.istore_n z, 1)) (kk : ∀ v, Jj X (f v) (Vw x k n (pc + 1) (lv' v) st ws)) : Jj X (ltt u f) (Vw x k n pc lv (.int u :: st) ws) := J_istore_n i hi hn (hlv u) hd (kk u)
theorem P_ist {u : Int32} {i : Nat} {lv' : Int32 → List (Nat × Value)} {f : Int32 → Option α} {ws : va_W} (hn : i < xnL x) (hlv : ∀ v, (i, Value.int v) :: lv.filter (fun q => !(q.1 == i) && !(q.1 + 1 == i && q.2.category == 2)) = lv' v) (hd : decode (xcc x) pc = .ok (.istore i, 2)) (kk : ∀ v, Jj X (f v) (Vw x k n (pc + 2) (lv' v) st ws)) : Jj X (ltt u f) (Vw x k n pc lv (.int u :: st) ws) := J_istore hn (hlv u) hd (kk u)
theorem P_lst_n {z : Fin 4} {u : Int64} {lv' : Int64 → List (Nat × Value)} {f : Int64 → Option α} {ws : va_W} (i : Nat) (hi : (z : Nat) = i) (hn : i + 1 < xnL x) (hlv : ∀ v, (i, Value.long v) :: lv.filter (fun q => !(q.1 == i) && (!(q.1 == i + 1) && !(q.1 + 1 == i && q.2.category == 2))) = lv' v) (hd : decode (xcc x) pc = .ok (.lstore_n z, 1)) (kk : ∀ v, Jj X (f v) (Vw x k n (pc + 1) (lv' v) st ws)) : Jj X (ltt u f) (Vw x k n pc lv (.long u :: st) ws) := J_lstore_n i hi hn (hlv u) hd (kk u)
theorem P_lst {u : Int64} {i : Nat} {lv' : Int64 → List (Nat × Value)} {f : Int64 → Option α} {ws : va_W} (hn : i + 1 < xnL x) (hlv : ∀ v, (i, Value.long v) :: lv.filter (fun q => !(q.1 == i) && (!(q.1 == i + 1) && !(q.1 + 1 == i && q.2.category == 2))) = lv' v) (hd : decode (xcc x) pc = .ok (.lstore i, 2)) (kk : ∀ v, Jj X (f v) (Vw x k n (pc + 2) (lv' v) st ws)) : Jj X (ltt u f) (Vw x k n pc lv (.long u :: st) ws) := J_lstore hn (hlv u) hd (kk u)
theorem P_inc {i : Nat} {z : Int} {u w : Int32} {lv' : Int32 → List (Nat × Value)} {f : Int32 → Option α} {ws : va_W} (j : Nat) (hj : lv[j]? = some (i, .int u)) (hz : Int32.ofInt z = w) (hn : i < xnL x) (hlv : ∀ v, (i, Value.int v) :: lv.filter (fun q => !(q.1 == i) && !(q.1 + 1 == i && q.2.category == 2)) = lv' v) (hd : decode (xcc x) pc = .ok (.iinc i z, 3)) (kk : ∀ v, Jj X (f v) (Vw x k n (pc + 3) (lv' v) st ws)) : Jj X (ltt (u + w) f) (Vw x k n pc lv st ws) := J_iinc j hj (u + w) (by rw [hz]) hn (hlv _) hd (kk _)
theorem P_irem {u v : Int32} {ws : va_W} (hd : decode (xcc x) pc = .ok (.irem, 1)) (kk : Jj X o (Vw x k n (pc + 1) lv (.int (u - u / v * v) :: st) ws)) : Jj X (ckk (decide (¬ v = 0)) o) (Vw x k n pc lv (.int v :: .int u :: st) ws) := J_ck (fun hb => J_irem (of_decide_eq_true hb) hd kk)
theorem P_lrem {u v : Int64} {ws : va_W} (hd : decode (xcc x) pc = .ok (.lrem, 1)) (kk : Jj X o (Vw x k n (pc + 1) lv (.long (u - u / v * v) :: st) ws)) : Jj X (ckk (decide (¬ v = 0)) o) (Vw x k n pc lv (.long v :: .long u :: st) ws) := J_ck (fun hb => J_lrem (of_decide_eq_true hb) hd kk)
theorem P_ldiv {u v : Int64} {ws : va_W} (hd : decode (xcc x) pc = .ok (.ldiv, 1)) (kk : Jj X o (Vw x k n (pc + 1) lv (.long (u / v) :: st) ws)) : Jj X (ckk (decide (¬ v = 0)) o) (Vw x k n pc lv (.long v :: .long u :: st) ws) := J_ck (fun hb => J_ldiv (of_decide_eq_true hb) hd kk)
theorem P_zret {a : α} {v : Int32} {ws : va_W} (hk : k ≤ xkE x) (hn : n ≤ xnE x) (hd : decode (xcc x) pc = .ok (.ireturn, 1)) (hr : xret x = some .boolean) (hX : X a → xQ x (some (.int v)) ws) : Jj X (ckk (z01 v) (some a)) (Vw x k n pc lv [.int v] ws) := J_ck (fun hb => J_zret hk hn hd hr (zfit (z01_or hb)).1 hX)
end PROWS
section CROWS3
variable {x : KX} {k n pc : Nat} {lv : List (Nat × Value)} {st rest : List Value} {α β : Type} {X : α → Prop} {o : Option α} {ad : Nat → Nat} {h h' : HP}
variable {yA yB x0 : MethodName} {bA bB : ByteArray} {mA mB : Nat} {ret : Option FieldType} {np : Nat} {rA_ rB_ : Room} {CA CB : String} {idx a aA aB : Nat} {As : List Value}
theorem P_callU {y : MethodName} {bytes : ByteArray} {mL : Nat} {rm : Room} {γ : Type} {enc : γ → Option Value × HP} {o1 : Option γ} {f : γ → Option α} (hm : CM (xl x) (xg x) ad y bytes mL ret rm (.ref (ad a) :: As) h enc o1) (ok : MOk y bytes mL ret np) (hru : ∃ C, Rcv a C ∧ UOk C x0 y) (hlk : Cond.methodLink (xow x) idx x0 ∈ tb_l) (hR : Rok rm (xR x) mL) (hkn : Ckn x k n) (hn : As.length = np) (hst : st = As.reverse ++ .ref (ad a) :: rest) (hw : (rest.map fun v => v.category).sum ≤ 8) (hd : decode (xcc x) pc = .ok (.invokevirtual idx, 3)) (kk : ∀ a, Jj X (f a) (Vw x k n (pc + 3) lv ((enc a).1.toList ++ rest) (pic (xg x) ad (enc a).2))) : Jj X (bd1 o1 f) (Vw x k n pc lv st (pic (xg x) ad h)) := by
  obtain ⟨C, hrc, hu⟩ := hru
  exact J_call hm (fun _ hC hv => V_callU hC ok hrc hu hlk hR hkn hn hst hw hd hv) kk
theorem P_callUi {y : MethodName} {bytes : ByteArray} {mL : Nat} {rm : Room} {o1 : Option (Int32 × HP)} {f : Int32 → HP → Option α} (hm : CM (xl x) (xg x) ad y bytes mL ret rm (.ref (ad a) :: As) h enI o1) (ok : MOk y bytes mL ret np) (hru : ∃ C, Rcv a C ∧ UOk C x0 y) (hlk : Cond.methodLink (xow x) idx x0 ∈ tb_l) (hR : Rok rm (xR x) mL) (hkn : Ckn x k n) (hn : As.length = np) (hst : st = As.reverse ++ .ref (ad a) :: rest) (hw : (rest.map fun v => v.category).sum ≤ 8) (hd : decode (xcc x) pc = .ok (.invokevirtual idx, 3)) (kk : ∀ r h', Jj X (f r h') (Vw x k n (pc + 3) lv (.int r :: rest) (pic (xg x) ad h'))) : Jj X (bd2 o1 f) (Vw x k n pc lv st (pic (xg x) ad h)) := P_callU hm ok hru hlk hR hkn hn hst hw hd (fun q => kk q.1 q.2)
theorem P_callUv {y : MethodName} {bytes : ByteArray} {mL : Nat} {rm : Room} {o1 : Option HP} {f : HP → Option α} (hm : CM (xl x) (xg x) ad y bytes mL ret rm (.ref (ad a) :: As) h enV o1) (ok : MOk y bytes mL ret np) (hru : ∃ C, Rcv a C ∧ UOk C x0 y) (hlk : Cond.methodLink (xow x) idx x0 ∈ tb_l) (hR : Rok rm (xR x) mL) (hkn : Ckn x k n) (hn : As.length = np) (hst : st = As.reverse ++ .ref (ad a) :: rest) (hw : (rest.map fun v => v.category).sum ≤ 8) (hd : decode (xcc x) pc = .ok (.invokevirtual idx, 3)) (kk : ∀ h', Jj X (f h') (Vw x k n (pc + 3) lv rest (pic (xg x) ad h'))) : Jj X (bd1 o1 f) (Vw x k n pc lv st (pic (xg x) ad h)) := P_callU hm ok hru hlk hR hkn hn hst hw hd (fun q => kk q)
theorem P_callD {γ : Type} {enc : γ → Option Value × HP} {oA oB : Option γ} {f : γ → Option α} (ha : a ∈ [aA, aB]) (hmA : CM (xl x) (xg x) ad yA bA mA ret rA_ (.ref (ad aA) :: As) h enc oA) (hmB : CM (xl x) (xg x) ad yB bB mB ret rB_ (.ref (ad aB) :: As) h enc oB) (okA : MOk yA bA mA ret np) (okB : MOk yB bB mB ret np) (hA : Rcv aA CA ∧ UOk CA x0 yA) (hB : Rcv aB CB ∧ UOk CB x0 yB) (hlk : Cond.methodLink (xow x) idx x0 ∈ tb_l) (hRA : Rok rA_ (xR x) mA) (hRB : Rok rB_ (xR x) mB) (hkn : Ckn x k n) (hn : As.length = np) (hst : st = As.reverse ++ .ref (ad a) :: rest) (hw : (rest.map fun v => v.category).sum ≤ 8) (hd : decode (xcc x) pc = .ok (.invokevirtual idx, 3)) (kk : ∀ a, Jj X (f a) (Vw x k n (pc + 3) lv ((enc a).1.toList ++ rest) (pic (xg x) ad (enc a).2))) : Jj X (bd1 (if a = aA then oA else oB) f) (Vw x k n pc lv st (pic (xg x) ad h)) := by
  by_cases he : a = aA
  · subst he
    rw [if_pos rfl]
    exact J_call hmA (fun _ hC hv => V_callU hC okA hA.1 hA.2 hlk hRA hkn hn hst hw hd hv) kk
  · have hb : a = aB := by
      simp only [List.mem_cons, List.not_mem_nil, or_false] at ha
      rcases ha with ha | ha
      · exact absurd ha he
      · exact ha
    rw [if_neg he]
    subst hb
    exact J_call hmB (fun _ hC hv => V_callU hC okB hB.1 hB.2 hlk hRB hkn hn hst hw hd hv) kk
theorem P_callDi {oA oB : Option (Int32 × HP)} {f : Int32 → HP → Option α} (ha : a ∈ [aA, aB]) (hmA : CM (xl x) (xg x) ad yA bA mA ret rA_ (.ref (ad aA) :: As) h enI oA) (hmB : CM (xl x) (xg x) ad yB bB mB ret rB_ (.ref (ad aB) :: As) h enI oB) (okA : MOk yA bA mA ret np) (okB : MOk yB bB mB ret np) (hA : Rcv aA CA ∧ UOk CA x0 yA) (hB : Rcv aB CB ∧ UOk CB x0 yB) (hlk : Cond.methodLink (xow x) idx x0 ∈ tb_l) (hRA : Rok rA_ (xR x) mA) (hRB : Rok rB_ (xR x) mB) (hkn : Ckn x k n) (hn : As.length = np) (hst : st = As.reverse ++ .ref (ad a) :: rest) (hw : (rest.map fun v => v.category).sum ≤ 8) (hd : decode (xcc x) pc = .ok (.invokevirtual idx, 3)) (kk : ∀ r h', Jj X (f r h') (Vw x k n (pc + 3) lv (.int r :: rest) (pic (xg x) ad h'))) : Jj X (bd2 (if a = aA then oA else oB) f) (Vw x k n pc lv st (pic (xg x) ad h)) := P_callD ha hmA hmB okA okB hA hB hlk hRA hRB hkn hn hst hw hd (fun q => kk q.1 q.2)
theorem P_callDv {oA oB : Option HP} {f : HP → Option α} (ha : a ∈ [aA, aB]) (hmA : CM (xl x) (xg x) ad yA bA mA ret rA_ (.ref (ad aA) :: As) h enV oA) (hmB : CM (xl x) (xg x) ad yB bB mB ret rB_ (.ref (ad aB) :: As) h enV oB) (okA : MOk yA bA mA ret np) (okB : MOk yB bB mB ret np) (hA : Rcv aA CA ∧ UOk CA x0 yA) (hB : Rcv aB CB ∧ UOk CB x0 yB) (hlk : Cond.methodLink (xow x) idx x0 ∈ tb_l) (hRA : Rok rA_ (xR x) mA) (hRB : Rok rB_ (xR x) mB) (hkn : Ckn x k n) (hn : As.length = np) (hst : st = As.reverse ++ .ref (ad a) :: rest) (hw : (rest.map fun v => v.category).sum ≤ 8) (hd : decode (xcc x) pc = .ok (.invokevirtual idx, 3)) (kk : ∀ h', Jj X (f h') (Vw x k n (pc + 3) lv rest (pic (xg x) ad h'))) : Jj X (bd1 (if a = aA then oA else oB) f) (Vw x k n pc lv st (pic (xg x) ad h)) := P_callD ha hmA hmB okA okB hA hB hlk hRA hRB hkn hn hst hw hd (fun q => kk q)
end CROWS3
end
section
/-! rooms; words of the tables that the methods use (printed) -/
abbrev rm_CS_isText : Room := { frames := 0, cells := 0, slots := 0, locals := 0 }
abbrev kx_CS_isText (l : Launch) (g : GG) (Q : Option Value → va_W → Prop) : KX := (l, g, none, rm_CS_isText, y_CS_isText.cls, b_CS_isText, 1, false, 0, 0, Q, (some .boolean))
abbrev rm_CS_isBetween : Room := { frames := 0, cells := 0, slots := 0, locals := 0 }
abbrev kx_CS_isBetween (l : Launch) (g : GG) (Q : Option Value → va_W → Prop) : KX := (l, g, none, rm_CS_isBetween, y_CS_isBetween.cls, b_CS_isBetween, 3, false, 0, 0, Q, (some .boolean))
abbrev rm_Ca_fits : Room := { frames := 1, cells := 0, slots := 0, locals := 22 }
abbrev kx_Ca_fits (l : Launch) (g : GG) (Q : Option Value → va_W → Prop) : KX := (l, g, none, rm_Ca_fits, y_Ca_fits.cls, b_Ca_fits, 3, false, 0, 0, Q, (some .boolean))
abbrev rm_Ba_fits : Room := { frames := 1, cells := 0, slots := 0, locals := 22 }
abbrev kx_Ba_fits (l : Launch) (g : GG) (Q : Option Value → va_W → Prop) : KX := (l, g, none, rm_Ba_fits, y_Ba_fits.cls, b_Ba_fits, 3, false, 0, 0, Q, (some .boolean))
abbrev rm_Tx_findFault : Room := { frames := 2, cells := 0, slots := 0, locals := 44 }
abbrev kx_Tx_findFault (l : Launch) (g : GG) (Q : Option Value → va_W → Prop) : KX := (l, g, none, rm_Tx_findFault, y_Tx_findFault.cls, b_Tx_findFault, 3, false, 0, 0, Q, (some .int))
abbrev rm_Ca_learn : Room := { frames := 0, cells := 0, slots := 0, locals := 0 }
abbrev kx_Ca_learn (l : Launch) (g : GG) (Q : Option Value → va_W → Prop) : KX := (l, g, none, rm_Ca_learn, y_Ca_learn.cls, b_Ca_learn, 4, false, 0, 0, Q, none)
abbrev rm_Ba_learn : Room := { frames := 0, cells := 0, slots := 0, locals := 0 }
abbrev kx_Ba_learn (l : Launch) (g : GG) (Q : Option Value → va_W → Prop) : KX := (l, g, none, rm_Ba_learn, y_Ba_learn.cls, b_Ba_learn, 3, false, 0, 0, Q, none)
abbrev rm_Tx_parse : Room := { frames := 3, cells := 0, slots := 0, locals := 66 }
abbrev kx_Tx_parse (l : Launch) (g : GG) (Q : Option Value → va_W → Prop) : KX := (l, g, none, rm_Tx_parse, y_Tx_parse.cls, b_Tx_parse, 2, false, 0, 0, Q, none)
abbrev rm_Tx_append : Room := { frames := 4, cells := 0, slots := 0, locals := 87 }
abbrev kx_Tx_append (l : Launch) (g : GG) (Q : Option Value → va_W → Prop) : KX := (l, g, none, rm_Tx_append, y_Tx_append.cls, b_Tx_append, 2, false, 0, 0, Q, (some .boolean))
abbrev rm_CS_type : Room := { frames := 5, cells := 0, slots := 0, locals := 108 }
abbrev kx_CS_type (l : Launch) (g : GG) (Q : Option Value → va_W → Prop) : KX := (l, g, none, rm_CS_type, y_CS_type.cls, b_CS_type, 3, false, 0, 0, Q, (some .int))
abbrev rm_Tx_cutTo : Room := { frames := 4, cells := 0, slots := 0, locals := 87 }
abbrev kx_Tx_cutTo (l : Launch) (g : GG) (Q : Option Value → va_W → Prop) : KX := (l, g, none, rm_Tx_cutTo, y_Tx_cutTo.cls, b_Tx_cutTo, 2, false, 0, 0, Q, none)
abbrev rm_CS_wipe : Room := { frames := 5, cells := 0, slots := 0, locals := 108 }
abbrev kx_CS_wipe (l : Launch) (g : GG) (Q : Option Value → va_W → Prop) : KX := (l, g, none, rm_CS_wipe, y_CS_wipe.cls, b_CS_wipe, 3, false, 0, 0, Q, (some .int))
abbrev rm_CS_undo : Room := { frames := 5, cells := 0, slots := 0, locals := 108 }
abbrev kx_CS_undo (l : Launch) (g : GG) (Q : Option Value → va_W → Prop) : KX := (l, g, none, rm_CS_undo, y_CS_undo.cls, b_CS_undo, 3, false, 0, 0, Q, (some .int))
abbrev rm_CS_fault : Room := { frames := 1, cells := 0, slots := 0, locals := 20 }
abbrev kx_CS_fault (l : Launch) (g : GG) (Q : Option Value → va_W → Prop) : KX := (l, g, none, rm_CS_fault, y_CS_fault.cls, b_CS_fault, 2, false, 0, 0, Q, (some .int))
abbrev rm_CS_isCamel : Room := { frames := 0, cells := 0, slots := 0, locals := 0 }
abbrev kx_CS_isCamel (l : Launch) (g : GG) (Q : Option Value → va_W → Prop) : KX := (l, g, none, rm_CS_isCamel, y_CS_isCamel.cls, b_CS_isCamel, 2, false, 0, 0, Q, (some .boolean))
abbrev rm_CS_strengthOf : Room := { frames := 0, cells := 0, slots := 0, locals := 0 }
abbrev kx_CS_strengthOf (l : Launch) (g : GG) (Q : Option Value → va_W → Prop) : KX := (l, g, none, rm_CS_strengthOf, y_CS_strengthOf.cls, b_CS_strengthOf, 1, false, 0, 0, Q, (some .int))
abbrev rm_CS_camel : Room := { frames := 1, cells := 0, slots := 0, locals := 21 }
abbrev kx_CS_camel (l : Launch) (g : GG) (Q : Option Value → va_W → Prop) : KX := (l, g, none, rm_CS_camel, y_CS_camel.cls, b_CS_camel, 3, false, 0, 0, Q, (some .int))
abbrev rm_CS_isBale : Room := { frames := 0, cells := 0, slots := 0, locals := 0 }
abbrev kx_CS_isBale (l : Launch) (g : GG) (Q : Option Value → va_W → Prop) : KX := (l, g, none, rm_CS_isBale, y_CS_isBale.cls, b_CS_isBale, 2, false, 0, 0, Q, (some .boolean))
abbrev rm_CS_bale : Room := { frames := 1, cells := 0, slots := 0, locals := 21 }
abbrev kx_CS_bale (l : Launch) (g : GG) (Q : Option Value → va_W → Prop) : KX := (l, g, none, rm_CS_bale, y_CS_bale.cls, b_CS_bale, 3, false, 0, 0, Q, (some .int))
abbrev rm_CS_isDay : Room := { frames := 0, cells := 0, slots := 0, locals := 0 }
abbrev kx_CS_isDay (l : Launch) (g : GG) (Q : Option Value → va_W → Prop) : KX := (l, g, none, rm_CS_isDay, y_CS_isDay.cls, b_CS_isDay, 1, false, 0, 0, Q, (some .boolean))
abbrev rm_CS_isPlaceOfCamel : Room := { frames := 0, cells := 0, slots := 0, locals := 0 }
abbrev kx_CS_isPlaceOfCamel (l : Launch) (g : GG) (Q : Option Value → va_W → Prop) : KX := (l, g, none, rm_CS_isPlaceOfCamel, y_CS_isPlaceOfCamel.cls, b_CS_isPlaceOfCamel, 1, false, 0, 0, Q, (some .boolean))
abbrev rm_St_append : Room := { frames := 0, cells := 0, slots := 0, locals := 0 }
abbrev kx_St_append (l : Launch) (g : GG) (Q : Option Value → va_W → Prop) : KX := (l, g, none, rm_St_append, y_St_append.cls, b_St_append, 3, false, 0, 0, Q, (some .boolean))
abbrev rm_CS_straw : Room := { frames := 1, cells := 0, slots := 0, locals := 22 }
abbrev kx_CS_straw (l : Launch) (g : GG) (Q : Option Value → va_W → Prop) : KX := (l, g, none, rm_CS_straw, y_CS_straw.cls, b_CS_straw, 3, false, 0, 0, Q, (some .int))
abbrev rm_CS_back : Room := { frames := 0, cells := 0, slots := 0, locals := 0 }
abbrev kx_CS_back (l : Launch) (g : GG) (Q : Option Value → va_W → Prop) : KX := (l, g, none, rm_CS_back, y_CS_back.cls, b_CS_back, 1, false, 0, 0, Q, (some .int))
abbrev rm_CS_isSheet : Room := { frames := 0, cells := 0, slots := 0, locals := 0 }
abbrev kx_CS_isSheet (l : Launch) (g : GG) (Q : Option Value → va_W → Prop) : KX := (l, g, none, rm_CS_isSheet, y_CS_isSheet.cls, b_CS_isSheet, 1, false, 0, 0, Q, (some .boolean))
abbrev rm_Sh_isLost : Room := { frames := 0, cells := 0, slots := 0, locals := 0 }
abbrev kx_Sh_isLost (l : Launch) (g : GG) (Q : Option Value → va_W → Prop) : KX := (l, g, none, rm_Sh_isLost, y_Sh_isLost.cls, b_Sh_isLost, 1, false, 0, 0, Q, (some .boolean))
abbrev rm_CS_finding : Room := { frames := 0, cells := 0, slots := 0, locals := 0 }
abbrev kx_CS_finding (l : Launch) (g : GG) (Q : Option Value → va_W → Prop) : KX := (l, g, none, rm_CS_finding, y_CS_finding.cls, b_CS_finding, 2, false, 0, 0, Q, (some .int))
abbrev rm_CS_read : Room := { frames := 2, cells := 0, slots := 0, locals := 44 }
abbrev kx_CS_read (l : Launch) (g : GG) (Q : Option Value → va_W → Prop) : KX := (l, g, none, rm_CS_read, y_CS_read.cls, b_CS_read, 5, false, 0, 0, Q, (some .int))
abbrev rm_Cv_busyDaysOf : Room := { frames := 0, cells := 0, slots := 0, locals := 0 }
abbrev kx_Cv_busyDaysOf (l : Launch) (g : GG) (Q : Option Value → va_W → Prop) : KX := (l, g, none, rm_Cv_busyDaysOf, y_Cv_busyDaysOf.cls, b_Cv_busyDaysOf, 4, false, 0, 0, Q, (some .int))
abbrev rm_Wa_start : Room := { frames := 1, cells := 0, slots := 0, locals := 20 }
abbrev kx_Wa_start (l : Launch) (g : GG) (Q : Option Value → va_W → Prop) : KX := (l, g, none, rm_Wa_start, y_Wa_start.cls, b_Wa_start, 3, false, 0, 0, Q, none)
abbrev rm_Wa_rise : Room := { frames := 0, cells := 0, slots := 0, locals := 0 }
abbrev kx_Wa_rise (l : Launch) (g : GG) (Q : Option Value → va_W → Prop) : KX := (l, g, none, rm_Wa_rise, y_Wa_rise.cls, b_Wa_rise, 2, false, 0, 0, Q, none)
abbrev rm_Wa_take : Room := { frames := 0, cells := 0, slots := 0, locals := 0 }
abbrev kx_Wa_take (l : Launch) (g : GG) (Q : Option Value → va_W → Prop) : KX := (l, g, none, rm_Wa_take, y_Wa_take.cls, b_Wa_take, 2, false, 0, 0, Q, none)
abbrev rm_Wa_breakIfOver : Room := { frames := 0, cells := 0, slots := 0, locals := 0 }
abbrev kx_Wa_breakIfOver (l : Launch) (g : GG) (Q : Option Value → va_W → Prop) : KX := (l, g, none, rm_Wa_breakIfOver, y_Wa_breakIfOver.cls, b_Wa_breakIfOver, 2, false, 0, 0, Q, none)
abbrev rm_Wa_payIfLast : Room := { frames := 0, cells := 0, slots := 0, locals := 0 }
abbrev kx_Wa_payIfLast (l : Launch) (g : GG) (Q : Option Value → va_W → Prop) : KX := (l, g, none, rm_Wa_payIfLast, y_Wa_payIfLast.cls, b_Wa_payIfLast, 1, false, 0, 0, Q, none)
abbrev rm_Wa_measureRoom : Room := { frames := 0, cells := 0, slots := 0, locals := 0 }
abbrev kx_Wa_measureRoom (l : Launch) (g : GG) (Q : Option Value → va_W → Prop) : KX := (l, g, none, rm_Wa_measureRoom, y_Wa_measureRoom.cls, b_Wa_measureRoom, 1, false, 0, 0, Q, none)
abbrev rm_Wa_wear : Room := { frames := 0, cells := 0, slots := 0, locals := 0 }
abbrev kx_Wa_wear (l : Launch) (g : GG) (Q : Option Value → va_W → Prop) : KX := (l, g, none, rm_Wa_wear, y_Wa_wear.cls, b_Wa_wear, 3, false, 0, 0, Q, none)
abbrev rm_Wa_unloadAtWell : Room := { frames := 0, cells := 0, slots := 0, locals := 0 }
abbrev kx_Wa_unloadAtWell (l : Launch) (g : GG) (Q : Option Value → va_W → Prop) : KX := (l, g, none, rm_Wa_unloadAtWell, y_Wa_unloadAtWell.cls, b_Wa_unloadAtWell, 2, false, 0, 0, Q, none)
abbrev rm_Wa_keep : Room := { frames := 0, cells := 0, slots := 0, locals := 0 }
abbrev kx_Wa_keep (l : Launch) (g : GG) (Q : Option Value → va_W → Prop) : KX := (l, g, none, rm_Wa_keep, y_Wa_keep.cls, b_Wa_keep, 3, false, 0, 0, Q, none)
abbrev rm_Cv_march : Room := { frames := 2, cells := 0, slots := 0, locals := 42 }
abbrev kx_Cv_march (l : Launch) (g : GG) (Q : Option Value → va_W → Prop) : KX := (l, g, none, rm_Cv_march, y_Cv_march.cls, b_Cv_march, 6, false, 0, 0, Q, (some (.object "CamelStraws$Walk")))
abbrev rm_Wa_behind : Room := { frames := 0, cells := 0, slots := 0, locals := 0 }
abbrev kx_Wa_behind (l : Launch) (g : GG) (Q : Option Value → va_W → Prop) : KX := (l, g, none, rm_Wa_behind, y_Wa_behind.cls, b_Wa_behind, 3, false, 0, 0, Q, (some .int))
abbrev rm_CS_at : Room := { frames := 3, cells := 0, slots := 0, locals := 67 }
abbrev kx_CS_at (l : Launch) (g : GG) (Q : Option Value → va_W → Prop) : KX := (l, g, none, rm_CS_at, y_CS_at.cls, b_CS_at, 4, false, 0, 0, Q, (some .int))
abbrev rm_Cv_inAll : Room := { frames := 3, cells := 0, slots := 0, locals := 67 }
abbrev kx_Cv_inAll (l : Launch) (g : GG) (Q : Option Value → va_W → Prop) : KX := (l, g, none, rm_Cv_inAll, y_Cv_inAll.cls, b_Cv_inAll, 4, false, 0, 0, Q, (some .int))
abbrev rm_CS_through : Room := { frames := 4, cells := 0, slots := 0, locals := 90 }
abbrev kx_CS_through (l : Launch) (g : GG) (Q : Option Value → va_W → Prop) : KX := (l, g, none, rm_CS_through, y_CS_through.cls, b_CS_through, 1, false, 0, 0, Q, (some .int))
abbrev rm_CS_lost : Room := { frames := 4, cells := 0, slots := 0, locals := 90 }
abbrev kx_CS_lost (l : Launch) (g : GG) (Q : Option Value → va_W → Prop) : KX := (l, g, none, rm_CS_lost, y_CS_lost.cls, b_CS_lost, 1, false, 0, 0, Q, (some .int))
abbrev rm_Cv_firstToBreak : Room := { frames := 3, cells := 0, slots := 0, locals := 67 }
abbrev kx_Cv_firstToBreak (l : Launch) (g : GG) (Q : Option Value → va_W → Prop) : KX := (l, g, none, rm_Cv_firstToBreak, y_Cv_firstToBreak.cls, b_Cv_firstToBreak, 5, false, 0, 0, Q, (some .int))
abbrev rm_CS_first : Room := { frames := 4, cells := 0, slots := 0, locals := 91 }
abbrev kx_CS_first (l : Launch) (g : GG) (Q : Option Value → va_W → Prop) : KX := (l, g, none, rm_CS_first, y_CS_first.cls, b_CS_first, 3, false, 0, 0, Q, (some .int))
abbrev rm_Cv_broughtBy : Room := { frames := 3, cells := 0, slots := 0, locals := 67 }
abbrev kx_Cv_broughtBy (l : Launch) (g : GG) (Q : Option Value → va_W → Prop) : KX := (l, g, none, rm_Cv_broughtBy, y_Cv_broughtBy.cls, b_Cv_broughtBy, 2, false, 0, 0, Q, (some .int))
abbrev rm_Cv_bestCamel : Room := { frames := 4, cells := 0, slots := 0, locals := 88 }
abbrev kx_Cv_bestCamel (l : Launch) (g : GG) (Q : Option Value → va_W → Prop) : KX := (l, g, none, rm_Cv_bestCamel, y_Cv_bestCamel.cls, b_Cv_bestCamel, 5, false, 0, 0, Q, (some .int))
abbrev rm_CS_best : Room := { frames := 5, cells := 0, slots := 0, locals := 112 }
abbrev kx_CS_best (l : Launch) (g : GG) (Q : Option Value → va_W → Prop) : KX := (l, g, none, rm_CS_best, y_CS_best.cls, b_CS_best, 1, false, 0, 0, Q, (some .int))
abbrev rm_Cv_wholeCamels : Room := { frames := 3, cells := 0, slots := 0, locals := 67 }
abbrev kx_Cv_wholeCamels (l : Launch) (g : GG) (Q : Option Value → va_W → Prop) : KX := (l, g, none, rm_Cv_wholeCamels, y_Cv_wholeCamels.cls, b_Cv_wholeCamels, 3, false, 0, 0, Q, (some .int))
abbrev rm_CS_whole : Room := { frames := 4, cells := 0, slots := 0, locals := 89 }
abbrev kx_CS_whole (l : Launch) (g : GG) (Q : Option Value → va_W → Prop) : KX := (l, g, none, rm_CS_whole, y_CS_whole.cls, b_CS_whole, 1, false, 0, 0, Q, (some .int))
abbrev rm_Ar_fill : Room := { frames := 0, cells := 0, slots := 0, locals := 0 }
abbrev kx_Ar_fill (l : Launch) (g : GG) (Q : Option Value → va_W → Prop) : KX := (l, g, none, rm_Ar_fill, y_Ar_fill.cls, b_Ar_fill, 4, false, 0, 0, Q, none)
abbrev rm_Cv_tiredDay : Room := { frames := 3, cells := 0, slots := 0, locals := 67 }
abbrev kx_Cv_tiredDay (l : Launch) (g : GG) (Q : Option Value → va_W → Prop) : KX := (l, g, none, rm_Cv_tiredDay, y_Cv_tiredDay.cls, b_Cv_tiredDay, 3, false, 0, 0, Q, (some .int))
abbrev rm_CS_tired : Room := { frames := 4, cells := 0, slots := 0, locals := 89 }
abbrev kx_CS_tired (l : Launch) (g : GG) (Q : Option Value → va_W → Prop) : KX := (l, g, none, rm_CS_tired, y_CS_tired.cls, b_CS_tired, 1, false, 0, 0, Q, (some .int))
abbrev rm_CS_last : Room := { frames := 3, cells := 0, slots := 0, locals := 67 }
abbrev kx_CS_last (l : Launch) (g : GG) (Q : Option Value → va_W → Prop) : KX := (l, g, none, rm_CS_last, y_CS_last.cls, b_CS_last, 4, false, 0, 0, Q, (some .int))
abbrev rm_Pl_beginChoice : Room := { frames := 0, cells := 0, slots := 0, locals := 0 }
abbrev kx_Pl_beginChoice (l : Launch) (g : GG) (Q : Option Value → va_W → Prop) : KX := (l, g, none, rm_Pl_beginChoice, y_Pl_beginChoice.cls, b_Pl_beginChoice, 1, false, 0, 0, Q, none)
abbrev rm_Pl_choose : Room := { frames := 0, cells := 0, slots := 0, locals := 0 }
abbrev kx_Pl_choose (l : Launch) (g : GG) (Q : Option Value → va_W → Prop) : KX := (l, g, none, rm_Pl_choose, y_Pl_choose.cls, b_Pl_choose, 3, false, 0, 0, Q, none)
abbrev rm_Pl_tryCamels : Room := { frames := 4, cells := 0, slots := 0, locals := 90 }
abbrev kx_Pl_tryCamels (l : Launch) (g : GG) (Q : Option Value → va_W → Prop) : KX := (l, g, none, rm_Pl_tryCamels, y_Pl_tryCamels.cls, b_Pl_tryCamels, 7, false, 0, 0, Q, none)
abbrev rm_CS_bear : Room := { frames := 5, cells := 0, slots := 0, locals := 116 }
abbrev kx_CS_bear (l : Launch) (g : GG) (Q : Option Value → va_W → Prop) : KX := (l, g, none, rm_CS_bear, y_CS_bear.cls, b_CS_bear, 3, false, 0, 0, Q, (some .int))
abbrev rm_Pl_tryDays : Room := { frames := 4, cells := 0, slots := 0, locals := 90 }
abbrev kx_Pl_tryDays (l : Launch) (g : GG) (Q : Option Value → va_W → Prop) : KX := (l, g, none, rm_Pl_tryDays, y_Pl_tryDays.cls, b_Pl_tryDays, 7, false, 0, 0, Q, none)
abbrev rm_CS_when : Room := { frames := 5, cells := 0, slots := 0, locals := 116 }
abbrev kx_CS_when (l : Launch) (g : GG) (Q : Option Value → va_W → Prop) : KX := (l, g, none, rm_CS_when, y_CS_when.cls, b_CS_when, 3, false, 0, 0, Q, (some .int))
abbrev rm_Pl_allStandWithout : Room := { frames := 4, cells := 0, slots := 0, locals := 91 }
abbrev kx_Pl_allStandWithout (l : Launch) (g : GG) (Q : Option Value → va_W → Prop) : KX := (l, g, none, rm_Pl_allStandWithout, y_Pl_allStandWithout.cls, b_Pl_allStandWithout, 3, false, 0, 0, Q, (some .boolean))
abbrev rm_Pl_sparedStraws : Room := { frames := 5, cells := 0, slots := 0, locals := 113 }
abbrev kx_Pl_sparedStraws (l : Launch) (g : GG) (Q : Option Value → va_W → Prop) : KX := (l, g, none, rm_Pl_sparedStraws, y_Pl_sparedStraws.cls, b_Pl_sparedStraws, 4, false, 0, 0, Q, (some .int))
abbrev rm_In_bitCount : Room := { frames := 0, cells := 0, slots := 0, locals := 0 }
abbrev kx_In_bitCount (l : Launch) (g : GG) (Q : Option Value → va_W → Prop) : KX := (l, g, none, rm_In_bitCount, y_In_bitCount.cls, b_In_bitCount, 1, false, 0, 0, Q, (some .int))
abbrev rm_In_numberOfTrailingZeros : Room := { frames := 0, cells := 0, slots := 0, locals := 0 }
abbrev kx_In_numberOfTrailingZeros (l : Launch) (g : GG) (Q : Option Value → va_W → Prop) : KX := (l, g, none, rm_In_numberOfTrailingZeros, y_In_numberOfTrailingZeros.cls, b_In_numberOfTrailingZeros, 2, false, 0, 0, Q, (some .int))
abbrev rm_CS_spare : Room := { frames := 6, cells := 0, slots := 0, locals := 136 }
abbrev kx_CS_spare (l : Launch) (g : GG) (Q : Option Value → va_W → Prop) : KX := (l, g, none, rm_CS_spare, y_CS_spare.cls, b_CS_spare, 4, false, 0, 0, Q, (some .int))
abbrev rm_Gu_append : Room := { frames := 0, cells := 0, slots := 0, locals := 0 }
abbrev kx_Gu_append (l : Launch) (g : GG) (Q : Option Value → va_W → Prop) : KX := (l, g, none, rm_Gu_append, y_Gu_append.cls, b_Gu_append, 4, false, 0, 0, Q, (some .boolean))
abbrev rm_CS_seen : Room := { frames := 1, cells := 0, slots := 0, locals := 23 }
abbrev kx_CS_seen (l : Launch) (g : GG) (Q : Option Value → va_W → Prop) : KX := (l, g, none, rm_CS_seen, y_CS_seen.cls, b_CS_seen, 4, false, 0, 0, Q, (some .int))
abbrev rm_CS_forget : Room := { frames := 0, cells := 0, slots := 0, locals := 0 }
abbrev kx_CS_forget (l : Launch) (g : GG) (Q : Option Value → va_W → Prop) : KX := (l, g, none, rm_CS_forget, y_CS_forget.cls, b_CS_forget, 2, false, 0, 0, Q, (some .int))
abbrev rm_Gu_allComesOut : Room := { frames := 3, cells := 0, slots := 0, locals := 67 }
abbrev kx_Gu_allComesOut (l : Launch) (g : GG) (Q : Option Value → va_W → Prop) : KX := (l, g, none, rm_Gu_allComesOut, y_Gu_allComesOut.cls, b_Gu_allComesOut, 2, false, 0, 0, Q, (some .boolean))
abbrev rm_Gu_strawsThatNeverWere : Room := { frames := 4, cells := 0, slots := 0, locals := 88 }
abbrev kx_Gu_strawsThatNeverWere (l : Launch) (g : GG) (Q : Option Value → va_W → Prop) : KX := (l, g, none, rm_Gu_strawsThatNeverWere, y_Gu_strawsThatNeverWere.cls, b_Gu_strawsThatNeverWere, 3, false, 0, 0, Q, (some .int))
abbrev rm_CS_never : Room := { frames := 5, cells := 0, slots := 0, locals := 110 }
abbrev kx_CS_never (l : Launch) (g : GG) (Q : Option Value → va_W → Prop) : KX := (l, g, none, rm_CS_never, y_CS_never.cls, b_CS_never, 1, false, 0, 0, Q, (some .int))
abbrev rm_Gu_valuesThatFit : Room := { frames := 4, cells := 0, slots := 0, locals := 88 }
abbrev kx_Gu_valuesThatFit (l : Launch) (g : GG) (Q : Option Value → va_W → Prop) : KX := (l, g, none, rm_Gu_valuesThatFit, y_Gu_valuesThatFit.cls, b_Gu_valuesThatFit, 8, false, 0, 0, Q, (some .int))
abbrev rm_CS_was : Room := { frames := 5, cells := 0, slots := 0, locals := 115 }
abbrev kx_CS_was (l : Launch) (g : GG) (Q : Option Value → va_W → Prop) : KX := (l, g, none, rm_CS_was, y_CS_was.cls, b_CS_was, 3, false, 0, 0, Q, (some .int))
abbrev rm_Gu_noteLoads : Room := { frames := 3, cells := 0, slots := 0, locals := 67 }
abbrev kx_Gu_noteLoads (l : Launch) (g : GG) (Q : Option Value → va_W → Prop) : KX := (l, g, none, rm_Gu_noteLoads, y_Gu_noteLoads.cls, b_Gu_noteLoads, 8, false, 0, 0, Q, none)
abbrev rm_Ma_max : Room := { frames := 0, cells := 0, slots := 0, locals := 0 }
abbrev kx_Ma_max (l : Launch) (g : GG) (Q : Option Value → va_W → Prop) : KX := (l, g, none, rm_Ma_max, y_Ma_max.cls, b_Ma_max, 2, false, 0, 0, Q, (some .int))
abbrev rm_Gu_mostAlike : Room := { frames := 1, cells := 0, slots := 0, locals := 21 }
abbrev kx_Gu_mostAlike (l : Launch) (g : GG) (Q : Option Value → va_W → Prop) : KX := (l, g, none, rm_Gu_mostAlike, y_Gu_mostAlike.cls, b_Gu_mostAlike, 8, false, 0, 0, Q, (some .int))
abbrev rm_Gu_dayToLook : Room := { frames := 4, cells := 0, slots := 0, locals := 94 }
abbrev kx_Gu_dayToLook (l : Launch) (g : GG) (Q : Option Value → va_W → Prop) : KX := (l, g, none, rm_Gu_dayToLook, y_Gu_dayToLook.cls, b_Gu_dayToLook, 5, false, 0, 0, Q, (some .int))
abbrev rm_CS_ask : Room := { frames := 5, cells := 0, slots := 0, locals := 118 }
abbrev kx_CS_ask (l : Launch) (g : GG) (Q : Option Value → va_W → Prop) : KX := (l, g, none, rm_CS_ask, y_CS_ask.cls, b_CS_ask, 3, false, 0, 0, Q, (some .int))
abbrev rm_St_onCamel : Room := { frames := 0, cells := 0, slots := 0, locals := 0 }
abbrev kx_St_onCamel (l : Launch) (g : GG) (Q : Option Value → va_W → Prop) : KX := (l, g, none, rm_St_onCamel, y_St_onCamel.cls, b_St_onCamel, 4, false, 0, 0, Q, (some .int))
abbrev rm_Od_breaksWithout : Room := { frames := 3, cells := 0, slots := 0, locals := 67 }
abbrev kx_Od_breaksWithout (l : Launch) (g : GG) (Q : Option Value → va_W → Prop) : KX := (l, g, none, rm_Od_breaksWithout, y_Od_breaksWithout.cls, b_Od_breaksWithout, 4, false, 0, 0, Q, (some .boolean))
abbrev rm_Od_power : Room := { frames := 0, cells := 0, slots := 0, locals := 0 }
abbrev kx_Od_power (l : Launch) (g : GG) (Q : Option Value → va_W → Prop) : KX := (l, g, none, rm_Od_power, y_Od_power.cls, b_Od_power, 5, false, 0, 0, Q, (some .long))
abbrev rm_Od_reduce : Room := { frames := 0, cells := 0, slots := 0, locals := 0 }
abbrev kx_Od_reduce (l : Launch) (g : GG) (Q : Option Value → va_W → Prop) : KX := (l, g, none, rm_Od_reduce, y_Od_reduce.cls, b_Od_reduce, 2, false, 0, 0, Q, none)
abbrev rm_Od_ofBreaking : Room := { frames := 4, cells := 0, slots := 0, locals := 90 }
abbrev kx_Od_ofBreaking (l : Launch) (g : GG) (Q : Option Value → va_W → Prop) : KX := (l, g, none, rm_Od_ofBreaking, y_Od_ofBreaking.cls, b_Od_ofBreaking, 6, false, 0, 0, Q, none)
abbrev rm_CS_chance : Room := { frames := 5, cells := 0, slots := 0, locals := 115 }
abbrev kx_CS_chance (l : Launch) (g : GG) (Q : Option Value → va_W → Prop) : KX := (l, g, none, rm_CS_chance, y_CS_chance.cls, b_CS_chance, 4, false, 0, 0, Q, (some .long))
abbrev rm_St_nextSeed : Room := { frames := 0, cells := 0, slots := 0, locals := 0 }
abbrev kx_St_nextSeed (l : Launch) (g : GG) (Q : Option Value → va_W → Prop) : KX := (l, g, none, rm_St_nextSeed, y_St_nextSeed.cls, b_St_nextSeed, 1, false, 0, 0, Q, (some .int))
abbrev rm_St_draw : Room := { frames := 1, cells := 0, slots := 0, locals := 22 }
abbrev kx_St_draw (l : Launch) (g : GG) (Q : Option Value → va_W → Prop) : KX := (l, g, none, rm_St_draw, y_St_draw.cls, b_St_draw, 7, false, 0, 0, Q, none)
abbrev rm_CS_years : Room := { frames := 4, cells := 0, slots := 0, locals := 90 }
abbrev kx_CS_years (l : Launch) (g : GG) (Q : Option Value → va_W → Prop) : KX := (l, g, none, rm_CS_years, y_CS_years.cls, b_CS_years, 5, false, 0, 0, Q, (some .int))
abbrev rm_CS_isForm : Room := { frames := 0, cells := 0, slots := 0, locals := 0 }
abbrev kx_CS_isForm (l : Launch) (g : GG) (Q : Option Value → va_W → Prop) : KX := (l, g, none, rm_CS_isForm, y_CS_isForm.cls, b_CS_isForm, 1, false, 0, 0, Q, (some .boolean))
abbrev rm_Sh_renew : Room := { frames := 1, cells := 0, slots := 0, locals := 23 }
abbrev kx_Sh_renew (l : Launch) (g : GG) (Q : Option Value → va_W → Prop) : KX := (l, g, none, rm_Sh_renew, y_Sh_renew.cls, b_Sh_renew, 3, false, 0, 0, Q, none)
abbrev rm_CS_sheet : Room := { frames := 2, cells := 0, slots := 0, locals := 45 }
abbrev kx_CS_sheet (l : Launch) (g : GG) (Q : Option Value → va_W → Prop) : KX := (l, g, none, rm_CS_sheet, y_CS_sheet.cls, b_CS_sheet, 4, false, 0, 0, Q, (some .int))
abbrev rm_CS_lose : Room := { frames := 2, cells := 0, slots := 0, locals := 45 }
abbrev kx_CS_lose (l : Launch) (g : GG) (Q : Option Value → va_W → Prop) : KX := (l, g, none, rm_CS_lose, y_CS_lose.cls, b_CS_lose, 3, false, 0, 0, Q, (some .int))
abbrev rm_Sh_hasItems : Room := { frames := 0, cells := 0, slots := 0, locals := 0 }
abbrev kx_Sh_hasItems (l : Launch) (g : GG) (Q : Option Value → va_W → Prop) : KX := (l, g, none, rm_Sh_hasItems, y_Sh_hasItems.cls, b_Sh_hasItems, 3, false, 0, 0, Q, (some .boolean))
abbrev rm_Sh_whatForbids : Room := { frames := 1, cells := 0, slots := 0, locals := 22 }
abbrev kx_Sh_whatForbids (l : Launch) (g : GG) (Q : Option Value → va_W → Prop) : KX := (l, g, none, rm_Sh_whatForbids, y_Sh_whatForbids.cls, b_Sh_whatForbids, 3, false, 0, 0, Q, (some .int))
abbrev rm_CS_lowestBits : Room := { frames := 0, cells := 0, slots := 0, locals := 0 }
abbrev kx_CS_lowestBits (l : Launch) (g : GG) (Q : Option Value → va_W → Prop) : KX := (l, g, none, rm_CS_lowestBits, y_CS_lowestBits.cls, b_CS_lowestBits, 2, false, 0, 0, Q, (some .int))
abbrev rm_CS_put : Room := { frames := 2, cells := 0, slots := 0, locals := 44 }
abbrev kx_CS_put (l : Launch) (g : GG) (Q : Option Value → va_W → Prop) : KX := (l, g, none, rm_CS_put, y_CS_put.cls, b_CS_put, 6, false, 0, 0, Q, (some .int))
abbrev rm_CS_get : Room := { frames := 2, cells := 0, slots := 0, locals := 44 }
abbrev kx_CS_get (l : Launch) (g : GG) (Q : Option Value → va_W → Prop) : KX := (l, g, none, rm_CS_get, y_CS_get.cls, b_CS_get, 5, false, 0, 0, Q, (some .int))
abbrev rm_CS_copy : Room := { frames := 1, cells := 0, slots := 0, locals := 60 }
abbrev kx_CS_copy (l : Launch) (g : GG) (Q : Option Value → va_W → Prop) : KX := (l, g, none, rm_CS_copy, y_CS_copy.cls, b_CS_copy, 8, false, 0, 0, Q, (some .int))
abbrev rm_Ma_min : Room := { frames := 0, cells := 0, slots := 0, locals := 0 }
abbrev kx_Ma_min (l : Launch) (g : GG) (Q : Option Value → va_W → Prop) : KX := (l, g, none, rm_Ma_min, y_Ma_min.cls, b_Ma_min, 2, false, 0, 0, Q, (some .int))
abbrev rm_CS_write : Room := { frames := 3, cells := 0, slots := 0, locals := 67 }
abbrev kx_CS_write (l : Launch) (g : GG) (Q : Option Value → va_W → Prop) : KX := (l, g, none, rm_CS_write, y_CS_write.cls, b_CS_write, 7, false, 0, 0, Q, (some .int))
abbrev rm_CS_count : Room := { frames := 4, cells := 0, slots := 0, locals := 90 }
abbrev kx_CS_count (l : Launch) (g : GG) (Q : Option Value → va_W → Prop) : KX := (l, g, none, rm_CS_count, y_CS_count.cls, b_CS_count, 2, false, 0, 0, Q, (some .int))
abbrev rm_CS_mix : Room := { frames := 0, cells := 0, slots := 0, locals := 0 }
abbrev kx_CS_mix (l : Launch) (g : GG) (Q : Option Value → va_W → Prop) : KX := (l, g, none, rm_CS_mix, y_CS_mix.cls, b_CS_mix, 4, false, 0, 0, Q, (some .long))
abbrev rm_CS_mixBale : Room := { frames := 6, cells := 0, slots := 0, locals := 138 }
abbrev kx_CS_mixBale (l : Launch) (g : GG) (Q : Option Value → va_W → Prop) : KX := (l, g, none, rm_CS_mixBale, y_CS_mixBale.cls, b_CS_mixBale, 7, false, 0, 0, Q, (some .long))
abbrev rm_CS_mixDay : Room := { frames := 4, cells := 0, slots := 0, locals := 90 }
abbrev kx_CS_mixDay (l : Launch) (g : GG) (Q : Option Value → va_W → Prop) : KX := (l, g, none, rm_CS_mixDay, y_CS_mixDay.cls, b_CS_mixDay, 8, false, 0, 0, Q, (some .long))
abbrev rm_CS_mixCamel : Room := { frames := 6, cells := 0, slots := 0, locals := 140 }
abbrev kx_CS_mixCamel (l : Launch) (g : GG) (Q : Option Value → va_W → Prop) : KX := (l, g, none, rm_CS_mixCamel, y_CS_mixCamel.cls, b_CS_mixCamel, 6, false, 0, 0, Q, (some .long))
abbrev rm_CS_digest : Room := { frames := 7, cells := 0, slots := 0, locals := 165 }
abbrev kx_CS_digest (l : Launch) (g : GG) (Q : Option Value → va_W → Prop) : KX := (l, g, none, rm_CS_digest, y_CS_digest.cls, b_CS_digest, 4, false, 0, 0, Q, (some .long))
abbrev rm_Mo_in : Room := { frames := 0, cells := 0, slots := 0, locals := 0 }
abbrev kx_Mo_in (l : Launch) (g : GG) (Q : Option Value → va_W → Prop) : KX := (l, g, none, rm_Mo_in, y_Mo_in.cls, b_Mo_in, 3, false, 0, 0, Q, (some .boolean))
abbrev rm_Mo_isText : Room := { frames := 1, cells := 0, slots := 0, locals := 22 }
abbrev kx_Mo_isText (l : Launch) (g : GG) (Q : Option Value → va_W → Prop) : KX := (l, g, none, rm_Mo_isText, y_Mo_isText.cls, b_Mo_isText, 1, false, 0, 0, Q, (some .boolean))
abbrev rm_Mo_type : Room := { frames := 2, cells := 0, slots := 0, locals := 42 }
abbrev kx_Mo_type (l : Launch) (g : GG) (Q : Option Value → va_W → Prop) : KX := (l, g, none, rm_Mo_type, y_Mo_type.cls, b_Mo_type, 3, false, 0, 0, Q, (some .int))
abbrev rm_Mo_wipe : Room := { frames := 2, cells := 0, slots := 0, locals := 42 }
abbrev kx_Mo_wipe (l : Launch) (g : GG) (Q : Option Value → va_W → Prop) : KX := (l, g, none, rm_Mo_wipe, y_Mo_wipe.cls, b_Mo_wipe, 3, false, 0, 0, Q, (some .int))
abbrev rm_Mo_undo : Room := { frames := 2, cells := 0, slots := 0, locals := 42 }
abbrev kx_Mo_undo (l : Launch) (g : GG) (Q : Option Value → va_W → Prop) : KX := (l, g, none, rm_Mo_undo, y_Mo_undo.cls, b_Mo_undo, 2, false, 0, 0, Q, (some .int))
abbrev rm_Mo_byteAt : Room := { frames := 0, cells := 0, slots := 0, locals := 0 }
abbrev kx_Mo_byteAt (l : Launch) (g : GG) (Q : Option Value → va_W → Prop) : KX := (l, g, none, rm_Mo_byteAt, y_Mo_byteAt.cls, b_Mo_byteAt, 3, false, 0, 0, Q, (some .int))
abbrev rm_Mo_readsCamel : Room := { frames := 1, cells := 0, slots := 0, locals := 22 }
abbrev kx_Mo_readsCamel (l : Launch) (g : GG) (Q : Option Value → va_W → Prop) : KX := (l, g, none, rm_Mo_readsCamel, y_Mo_readsCamel.cls, b_Mo_readsCamel, 6, false, 0, 0, Q, (some .int))
abbrev rm_Mo_readsBale : Room := { frames := 1, cells := 0, slots := 0, locals := 22 }
abbrev kx_Mo_readsBale (l : Launch) (g : GG) (Q : Option Value → va_W → Prop) : KX := (l, g, none, rm_Mo_readsBale, y_Mo_readsBale.cls, b_Mo_readsBale, 6, false, 0, 0, Q, (some .int))
abbrev rm_Mo_readsParts : Room := { frames := 2, cells := 0, slots := 0, locals := 47 }
abbrev kx_Mo_readsParts (l : Launch) (g : GG) (Q : Option Value → va_W → Prop) : KX := (l, g, none, rm_Mo_readsParts, y_Mo_readsParts.cls, b_Mo_readsParts, 6, false, 0, 0, Q, (some .int))
abbrev rm_Mo_faultOf : Room := { frames := 3, cells := 0, slots := 0, locals := 72 }
abbrev kx_Mo_faultOf (l : Launch) (g : GG) (Q : Option Value → va_W → Prop) : KX := (l, g, none, rm_Mo_faultOf, y_Mo_faultOf.cls, b_Mo_faultOf, 4, false, 0, 0, Q, (some .int))
abbrev rm_Mo_fault : Room := { frames := 4, cells := 0, slots := 0, locals := 95 }
abbrev kx_Mo_fault (l : Launch) (g : GG) (Q : Option Value → va_W → Prop) : KX := (l, g, none, rm_Mo_fault, y_Mo_fault.cls, b_Mo_fault, 2, false, 0, 0, Q, (some .int))
abbrev rm_Mo_reads : Room := { frames := 4, cells := 0, slots := 0, locals := 95 }
abbrev kx_Mo_reads (l : Launch) (g : GG) (Q : Option Value → va_W → Prop) : KX := (l, g, none, rm_Mo_reads, y_Mo_reads.cls, b_Mo_reads, 2, false, 0, 0, Q, none)
abbrev rm_Mo_isCamel : Room := { frames := 5, cells := 0, slots := 0, locals := 116 }
abbrev kx_Mo_isCamel (l : Launch) (g : GG) (Q : Option Value → va_W → Prop) : KX := (l, g, none, rm_Mo_isCamel, y_Mo_isCamel.cls, b_Mo_isCamel, 2, false, 0, 0, Q, (some .boolean))
abbrev rm_Mo_isTwo : Room := { frames := 1, cells := 0, slots := 0, locals := 22 }
abbrev kx_Mo_isTwo (l : Launch) (g : GG) (Q : Option Value → va_W → Prop) : KX := (l, g, none, rm_Mo_isTwo, y_Mo_isTwo.cls, b_Mo_isTwo, 1, false, 0, 0, Q, (some .boolean))
abbrev rm_Mo_camelOf : Room := { frames := 0, cells := 0, slots := 0, locals := 0 }
abbrev kx_Mo_camelOf (l : Launch) (g : GG) (Q : Option Value → va_W → Prop) : KX := (l, g, none, rm_Mo_camelOf, y_Mo_camelOf.cls, b_Mo_camelOf, 3, false, 0, 0, Q, (some .int))
abbrev rm_Mo_camel : Room := { frames := 6, cells := 0, slots := 0, locals := 137 }
abbrev kx_Mo_camel (l : Launch) (g : GG) (Q : Option Value → va_W → Prop) : KX := (l, g, none, rm_Mo_camel, y_Mo_camel.cls, b_Mo_camel, 3, false, 0, 0, Q, (some .int))
abbrev rm_Mo_isBale : Room := { frames := 5, cells := 0, slots := 0, locals := 116 }
abbrev kx_Mo_isBale (l : Launch) (g : GG) (Q : Option Value → va_W → Prop) : KX := (l, g, none, rm_Mo_isBale, y_Mo_isBale.cls, b_Mo_isBale, 2, false, 0, 0, Q, (some .boolean))
abbrev rm_Mo_baleOf : Room := { frames := 0, cells := 0, slots := 0, locals := 0 }
abbrev kx_Mo_baleOf (l : Launch) (g : GG) (Q : Option Value → va_W → Prop) : KX := (l, g, none, rm_Mo_baleOf, y_Mo_baleOf.cls, b_Mo_baleOf, 3, false, 0, 0, Q, (some .int))
abbrev rm_Mo_bale : Room := { frames := 6, cells := 0, slots := 0, locals := 137 }
abbrev kx_Mo_bale (l : Launch) (g : GG) (Q : Option Value → va_W → Prop) : KX := (l, g, none, rm_Mo_bale, y_Mo_bale.cls, b_Mo_bale, 3, false, 0, 0, Q, (some .int))
abbrev rm_Mo_isDay : Room := { frames := 1, cells := 0, slots := 0, locals := 22 }
abbrev kx_Mo_isDay (l : Launch) (g : GG) (Q : Option Value → va_W → Prop) : KX := (l, g, none, rm_Mo_isDay, y_Mo_isDay.cls, b_Mo_isDay, 1, false, 0, 0, Q, (some .boolean))
abbrev rm_Mo_isEight : Room := { frames := 1, cells := 0, slots := 0, locals := 22 }
abbrev kx_Mo_isEight (l : Launch) (g : GG) (Q : Option Value → va_W → Prop) : KX := (l, g, none, rm_Mo_isEight, y_Mo_isEight.cls, b_Mo_isEight, 1, false, 0, 0, Q, (some .boolean))
abbrev rm_Mo_straw : Room := { frames := 2, cells := 0, slots := 0, locals := 42 }
abbrev kx_Mo_straw (l : Launch) (g : GG) (Q : Option Value → va_W → Prop) : KX := (l, g, none, rm_Mo_straw, y_Mo_straw.cls, b_Mo_straw, 3, false, 0, 0, Q, (some .int))
abbrev rm_Mo_back : Room := { frames := 0, cells := 0, slots := 0, locals := 0 }
abbrev kx_Mo_back (l : Launch) (g : GG) (Q : Option Value → va_W → Prop) : KX := (l, g, none, rm_Mo_back, y_Mo_back.cls, b_Mo_back, 1, false, 0, 0, Q, (some .int))
abbrev rm_Mo_isSheet : Room := { frames := 1, cells := 0, slots := 0, locals := 22 }
abbrev kx_Mo_isSheet (l : Launch) (g : GG) (Q : Option Value → va_W → Prop) : KX := (l, g, none, rm_Mo_isSheet, y_Mo_isSheet.cls, b_Mo_isSheet, 1, false, 0, 0, Q, (some .boolean))
abbrev rm_Mo_meets : Room := { frames := 0, cells := 0, slots := 0, locals := 0 }
abbrev kx_Mo_meets (l : Launch) (g : GG) (Q : Option Value → va_W → Prop) : KX := (l, g, none, rm_Mo_meets, y_Mo_meets.cls, b_Mo_meets, 2, false, 0, 0, Q, (some .int))
abbrev rm_Mo_read : Room := { frames := 3, cells := 0, slots := 0, locals := 64 }
abbrev kx_Mo_read (l : Launch) (g : GG) (Q : Option Value → va_W → Prop) : KX := (l, g, none, rm_Mo_read, y_Mo_read.cls, b_Mo_read, 3, false, 0, 0, Q, (some .int))
abbrev rm_Mo_asTold : Room := { frames := 5, cells := 0, slots := 0, locals := 116 }
abbrev kx_Mo_asTold (l : Launch) (g : GG) (Q : Option Value → va_W → Prop) : KX := (l, g, none, rm_Mo_asTold, y_Mo_asTold.cls, b_Mo_asTold, 2, false, 0, 0, Q, none)
abbrev rm_Mo_takes : Room := { frames := 0, cells := 0, slots := 0, locals := 0 }
abbrev kx_Mo_takes (l : Launch) (g : GG) (Q : Option Value → va_W → Prop) : KX := (l, g, none, rm_Mo_takes, y_Mo_takes.cls, b_Mo_takes, 2, false, 0, 0, Q, (some .boolean))
abbrev rm_Mo_breaks : Room := { frames := 0, cells := 0, slots := 0, locals := 0 }
abbrev kx_Mo_breaks (l : Launch) (g : GG) (Q : Option Value → va_W → Prop) : KX := (l, g, none, rm_Mo_breaks, y_Mo_breaks.cls, b_Mo_breaks, 3, false, 0, 0, Q, none)
abbrev rm_Mo_bears : Room := { frames := 1, cells := 0, slots := 0, locals := 22 }
abbrev kx_Mo_bears (l : Launch) (g : GG) (Q : Option Value → va_W → Prop) : KX := (l, g, none, rm_Mo_bears, y_Mo_bears.cls, b_Mo_bears, 3, false, 0, 0, Q, none)
abbrev rm_Mo_isIn : Room := { frames := 0, cells := 0, slots := 0, locals := 0 }
abbrev kx_Mo_isIn (l : Launch) (g : GG) (Q : Option Value → va_W → Prop) : KX := (l, g, none, rm_Mo_isIn, y_Mo_isIn.cls, b_Mo_isIn, 2, false, 0, 0, Q, (some .boolean))
abbrev rm_Mo_comesStraw : Room := { frames := 1, cells := 0, slots := 0, locals := 22 }
abbrev kx_Mo_comesStraw (l : Launch) (g : GG) (Q : Option Value → va_W → Prop) : KX := (l, g, none, rm_Mo_comesStraw, y_Mo_comesStraw.cls, b_Mo_comesStraw, 3, false, 0, 0, Q, none)
abbrev rm_Mo_comeStraws : Room := { frames := 2, cells := 0, slots := 0, locals := 44 }
abbrev kx_Mo_comeStraws (l : Launch) (g : GG) (Q : Option Value → va_W → Prop) : KX := (l, g, none, rm_Mo_comeStraws, y_Mo_comeStraws.cls, b_Mo_comeStraws, 3, false, 0, 0, Q, none)
abbrev rm_Mo_wears : Room := { frames := 0, cells := 0, slots := 0, locals := 0 }
abbrev kx_Mo_wears (l : Launch) (g : GG) (Q : Option Value → va_W → Prop) : KX := (l, g, none, rm_Mo_wears, y_Mo_wears.cls, b_Mo_wears, 3, false, 0, 0, Q, (some .boolean))
abbrev rm_Mo_tires : Room := { frames := 1, cells := 0, slots := 0, locals := 22 }
abbrev kx_Mo_tires (l : Launch) (g : GG) (Q : Option Value → va_W → Prop) : KX := (l, g, none, rm_Mo_tires, y_Mo_tires.cls, b_Mo_tires, 3, false, 0, 0, Q, none)
abbrev rm_Mo_ends : Room := { frames := 0, cells := 0, slots := 0, locals := 0 }
abbrev kx_Mo_ends (l : Launch) (g : GG) (Q : Option Value → va_W → Prop) : KX := (l, g, none, rm_Mo_ends, y_Mo_ends.cls, b_Mo_ends, 4, false, 0, 0, Q, none)
abbrev rm_Mo_goesBy : Room := { frames := 3, cells := 0, slots := 0, locals := 66 }
abbrev kx_Mo_goesBy (l : Launch) (g : GG) (Q : Option Value → va_W → Prop) : KX := (l, g, none, rm_Mo_goesBy, y_Mo_goesBy.cls, b_Mo_goesBy, 3, false, 0, 0, Q, none)
abbrev rm_Mo_runs : Room := { frames := 4, cells := 0, slots := 0, locals := 88 }
abbrev kx_Mo_runs (l : Launch) (g : GG) (Q : Option Value → va_W → Prop) : KX := (l, g, none, rm_Mo_runs, y_Mo_runs.cls, b_Mo_runs, 2, false, 0, 0, Q, none)
abbrev rm_Mo_runsTold : Room := { frames := 6, cells := 0, slots := 0, locals := 137 }
abbrev kx_Mo_runsTold (l : Launch) (g : GG) (Q : Option Value → va_W → Prop) : KX := (l, g, none, rm_Mo_runsTold, y_Mo_runsTold.cls, b_Mo_runsTold, 1, false, 0, 0, Q, none)
abbrev rm_Mo_atOf : Room := { frames := 7, cells := 0, slots := 0, locals := 157 }
abbrev kx_Mo_atOf (l : Launch) (g : GG) (Q : Option Value → va_W → Prop) : KX := (l, g, none, rm_Mo_atOf, y_Mo_atOf.cls, b_Mo_atOf, 5, false, 0, 0, Q, (some .int))
abbrev rm_Mo_at : Room := { frames := 8, cells := 0, slots := 0, locals := 181 }
abbrev kx_Mo_at (l : Launch) (g : GG) (Q : Option Value → va_W → Prop) : KX := (l, g, none, rm_Mo_at, y_Mo_at.cls, b_Mo_at, 4, false, 0, 0, Q, (some .int))
abbrev rm_Mo_throughNow : Room := { frames := 0, cells := 0, slots := 0, locals := 0 }
abbrev kx_Mo_throughNow (l : Launch) (g : GG) (Q : Option Value → va_W → Prop) : KX := (l, g, none, rm_Mo_throughNow, y_Mo_throughNow.cls, b_Mo_throughNow, 3, false, 0, 0, Q, (some .int))
abbrev rm_Mo_throughOf : Room := { frames := 7, cells := 0, slots := 0, locals := 157 }
abbrev kx_Mo_throughOf (l : Launch) (g : GG) (Q : Option Value → va_W → Prop) : KX := (l, g, none, rm_Mo_throughOf, y_Mo_throughOf.cls, b_Mo_throughOf, 1, false, 0, 0, Q, (some .int))
abbrev rm_Mo_through : Room := { frames := 8, cells := 0, slots := 0, locals := 177 }
abbrev kx_Mo_through (l : Launch) (g : GG) (Q : Option Value → va_W → Prop) : KX := (l, g, none, rm_Mo_through, y_Mo_through.cls, b_Mo_through, 1, false, 0, 0, Q, (some .int))
abbrev rm_Mo_lostOf : Room := { frames := 7, cells := 0, slots := 0, locals := 157 }
abbrev kx_Mo_lostOf (l : Launch) (g : GG) (Q : Option Value → va_W → Prop) : KX := (l, g, none, rm_Mo_lostOf, y_Mo_lostOf.cls, b_Mo_lostOf, 1, false, 0, 0, Q, (some .int))
abbrev rm_Mo_lost : Room := { frames := 8, cells := 0, slots := 0, locals := 177 }
abbrev kx_Mo_lost (l : Launch) (g : GG) (Q : Option Value → va_W → Prop) : KX := (l, g, none, rm_Mo_lost, y_Mo_lost.cls, b_Mo_lost, 1, false, 0, 0, Q, (some .int))
abbrev rm_Mo_firstOf : Room := { frames := 7, cells := 0, slots := 0, locals := 157 }
abbrev kx_Mo_firstOf (l : Launch) (g : GG) (Q : Option Value → va_W → Prop) : KX := (l, g, none, rm_Mo_firstOf, y_Mo_firstOf.cls, b_Mo_firstOf, 2, false, 0, 0, Q, (some .int))
abbrev rm_Mo_first : Room := { frames := 8, cells := 0, slots := 0, locals := 178 }
abbrev kx_Mo_first (l : Launch) (g : GG) (Q : Option Value → va_W → Prop) : KX := (l, g, none, rm_Mo_first, y_Mo_first.cls, b_Mo_first, 2, false, 0, 0, Q, (some .int))
abbrev rm_Mo_bestOf : Room := { frames := 7, cells := 0, slots := 0, locals := 157 }
abbrev kx_Mo_bestOf (l : Launch) (g : GG) (Q : Option Value → va_W → Prop) : KX := (l, g, none, rm_Mo_bestOf, y_Mo_bestOf.cls, b_Mo_bestOf, 3, false, 0, 0, Q, (some .int))
abbrev rm_Mo_best : Room := { frames := 8, cells := 0, slots := 0, locals := 179 }
abbrev kx_Mo_best (l : Launch) (g : GG) (Q : Option Value → va_W → Prop) : KX := (l, g, none, rm_Mo_best, y_Mo_best.cls, b_Mo_best, 1, false, 0, 0, Q, (some .int))
abbrev rm_Mo_wholeOf : Room := { frames := 7, cells := 0, slots := 0, locals := 157 }
abbrev kx_Mo_wholeOf (l : Launch) (g : GG) (Q : Option Value → va_W → Prop) : KX := (l, g, none, rm_Mo_wholeOf, y_Mo_wholeOf.cls, b_Mo_wholeOf, 3, false, 0, 0, Q, (some .int))
abbrev rm_Mo_whole : Room := { frames := 8, cells := 0, slots := 0, locals := 179 }
abbrev kx_Mo_whole (l : Launch) (g : GG) (Q : Option Value → va_W → Prop) : KX := (l, g, none, rm_Mo_whole, y_Mo_whole.cls, b_Mo_whole, 1, false, 0, 0, Q, (some .int))
abbrev rm_Mo_strengthOn : Room := { frames := 0, cells := 0, slots := 0, locals := 0 }
abbrev kx_Mo_strengthOn (l : Launch) (g : GG) (Q : Option Value → va_W → Prop) : KX := (l, g, none, rm_Mo_strengthOn, y_Mo_strengthOn.cls, b_Mo_strengthOn, 4, false, 0, 0, Q, (some .int))
abbrev rm_Mo_tiredOf : Room := { frames := 7, cells := 0, slots := 0, locals := 157 }
abbrev kx_Mo_tiredOf (l : Launch) (g : GG) (Q : Option Value → va_W → Prop) : KX := (l, g, none, rm_Mo_tiredOf, y_Mo_tiredOf.cls, b_Mo_tiredOf, 3, false, 0, 0, Q, (some .int))
abbrev rm_Mo_tired : Room := { frames := 8, cells := 0, slots := 0, locals := 179 }
abbrev kx_Mo_tired (l : Launch) (g : GG) (Q : Option Value → va_W → Prop) : KX := (l, g, none, rm_Mo_tired, y_Mo_tired.cls, b_Mo_tired, 1, false, 0, 0, Q, (some .int))
abbrev rm_Mo_lastOf : Room := { frames := 6, cells := 0, slots := 0, locals := 137 }
abbrev kx_Mo_lastOf (l : Launch) (g : GG) (Q : Option Value → va_W → Prop) : KX := (l, g, none, rm_Mo_lastOf, y_Mo_lastOf.cls, b_Mo_lastOf, 4, false, 0, 0, Q, (some .int))
abbrev rm_Mo_last : Room := { frames := 7, cells := 0, slots := 0, locals := 160 }
abbrev kx_Mo_last (l : Launch) (g : GG) (Q : Option Value → va_W → Prop) : KX := (l, g, none, rm_Mo_last, y_Mo_last.cls, b_Mo_last, 3, false, 0, 0, Q, (some .int))
abbrev rm_Mo_bearOf : Room := { frames := 6, cells := 0, slots := 0, locals := 137 }
abbrev kx_Mo_bearOf (l : Launch) (g : GG) (Q : Option Value → va_W → Prop) : KX := (l, g, none, rm_Mo_bearOf, y_Mo_bearOf.cls, b_Mo_bearOf, 8, false, 0, 0, Q, (some .int))
abbrev rm_Mo_bear : Room := { frames := 7, cells := 0, slots := 0, locals := 164 }
abbrev kx_Mo_bear (l : Launch) (g : GG) (Q : Option Value → va_W → Prop) : KX := (l, g, none, rm_Mo_bear, y_Mo_bear.cls, b_Mo_bear, 3, false, 0, 0, Q, (some .int))
abbrev rm_Mo_whenOf : Room := { frames := 6, cells := 0, slots := 0, locals := 137 }
abbrev kx_Mo_whenOf (l : Launch) (g : GG) (Q : Option Value → va_W → Prop) : KX := (l, g, none, rm_Mo_whenOf, y_Mo_whenOf.cls, b_Mo_whenOf, 8, false, 0, 0, Q, (some .int))
abbrev rm_Mo_when : Room := { frames := 7, cells := 0, slots := 0, locals := 164 }
abbrev kx_Mo_when (l : Launch) (g : GG) (Q : Option Value → va_W → Prop) : KX := (l, g, none, rm_Mo_when, y_Mo_when.cls, b_Mo_when, 3, false, 0, 0, Q, (some .int))
abbrev rm_Mo_brokeAll : Room := { frames := 0, cells := 0, slots := 0, locals := 0 }
abbrev kx_Mo_brokeAll (l : Launch) (g : GG) (Q : Option Value → va_W → Prop) : KX := (l, g, none, rm_Mo_brokeAll, y_Mo_brokeAll.cls, b_Mo_brokeAll, 3, false, 0, 0, Q, (some .int))
abbrev rm_Mo_isSpared : Room := { frames := 5, cells := 0, slots := 0, locals := 109 }
abbrev kx_Mo_isSpared (l : Launch) (g : GG) (Q : Option Value → va_W → Prop) : KX := (l, g, none, rm_Mo_isSpared, y_Mo_isSpared.cls, b_Mo_isSpared, 2, false, 0, 0, Q, (some .boolean))
abbrev rm_Mo_spareBy : Room := { frames := 6, cells := 0, slots := 0, locals := 137 }
abbrev kx_Mo_spareBy (l : Launch) (g : GG) (Q : Option Value → va_W → Prop) : KX := (l, g, none, rm_Mo_spareBy, y_Mo_spareBy.cls, b_Mo_spareBy, 3, false, 0, 0, Q, (some .int))
abbrev rm_Mo_ofRow : Room := { frames := 0, cells := 0, slots := 0, locals := 0 }
abbrev kx_Mo_ofRow (l : Launch) (g : GG) (Q : Option Value → va_W → Prop) : KX := (l, g, none, rm_Mo_ofRow, y_Mo_ofRow.cls, b_Mo_ofRow, 3, false, 0, 0, Q, (some .int))
abbrev rm_Mo_spare : Room := { frames := 7, cells := 0, slots := 0, locals := 159 }
abbrev kx_Mo_spare (l : Launch) (g : GG) (Q : Option Value → va_W → Prop) : KX := (l, g, none, rm_Mo_spare, y_Mo_spare.cls, b_Mo_spare, 2, false, 0, 0, Q, (some .int))
abbrev rm_Mo_seen : Room := { frames := 2, cells := 0, slots := 0, locals := 42 }
abbrev kx_Mo_seen (l : Launch) (g : GG) (Q : Option Value → va_W → Prop) : KX := (l, g, none, rm_Mo_seen, y_Mo_seen.cls, b_Mo_seen, 4, false, 0, 0, Q, (some .int))
abbrev rm_Mo_forget : Room := { frames := 0, cells := 0, slots := 0, locals := 0 }
abbrev kx_Mo_forget (l : Launch) (g : GG) (Q : Option Value → va_W → Prop) : KX := (l, g, none, rm_Mo_forget, y_Mo_forget.cls, b_Mo_forget, 2, false, 0, 0, Q, (some .int))
abbrev rm_Mo_isSeen : Room := { frames := 5, cells := 0, slots := 0, locals := 109 }
abbrev kx_Mo_isSeen (l : Launch) (g : GG) (Q : Option Value → va_W → Prop) : KX := (l, g, none, rm_Mo_isSeen, y_Mo_isSeen.cls, b_Mo_isSeen, 3, false, 0, 0, Q, (some .boolean))
abbrev rm_Mo_neverNow : Room := { frames := 6, cells := 0, slots := 0, locals := 137 }
abbrev kx_Mo_neverNow (l : Launch) (g : GG) (Q : Option Value → va_W → Prop) : KX := (l, g, none, rm_Mo_neverNow, y_Mo_neverNow.cls, b_Mo_neverNow, 3, false, 0, 0, Q, (some .int))
abbrev rm_Mo_never : Room := { frames := 7, cells := 0, slots := 0, locals := 159 }
abbrev kx_Mo_never (l : Launch) (g : GG) (Q : Option Value → va_W → Prop) : KX := (l, g, none, rm_Mo_never, y_Mo_never.cls, b_Mo_never, 1, false, 0, 0, Q, (some .int))
abbrev rm_Mo_sortsBy : Room := { frames := 6, cells := 0, slots := 0, locals := 137 }
abbrev kx_Mo_sortsBy (l : Launch) (g : GG) (Q : Option Value → va_W → Prop) : KX := (l, g, none, rm_Mo_sortsBy, y_Mo_sortsBy.cls, b_Mo_sortsBy, 5, false, 0, 0, Q, (some .int))
abbrev rm_Mo_strongBy : Room := { frames := 6, cells := 0, slots := 0, locals := 137 }
abbrev kx_Mo_strongBy (l : Launch) (g : GG) (Q : Option Value → va_W → Prop) : KX := (l, g, none, rm_Mo_strongBy, y_Mo_strongBy.cls, b_Mo_strongBy, 6, false, 0, 0, Q, (some .int))
abbrev rm_Mo_was : Room := { frames := 7, cells := 0, slots := 0, locals := 162 }
abbrev kx_Mo_was (l : Launch) (g : GG) (Q : Option Value → va_W → Prop) : KX := (l, g, none, rm_Mo_was, y_Mo_was.cls, b_Mo_was, 3, false, 0, 0, Q, (some .int))
abbrev rm_Mo_askOf : Room := { frames := 7, cells := 0, slots := 0, locals := 162 }
abbrev kx_Mo_askOf (l : Launch) (g : GG) (Q : Option Value → va_W → Prop) : KX := (l, g, none, rm_Mo_askOf, y_Mo_askOf.cls, b_Mo_askOf, 10, false, 0, 0, Q, (some .int))
abbrev rm_Mo_ask : Room := { frames := 8, cells := 0, slots := 0, locals := 191 }
abbrev kx_Mo_ask (l : Launch) (g : GG) (Q : Option Value → va_W → Prop) : KX := (l, g, none, rm_Mo_ask, y_Mo_ask.cls, b_Mo_ask, 2, false, 0, 0, Q, (some .int))
abbrev rm_Mo_lowest : Room := { frames := 0, cells := 0, slots := 0, locals := 0 }
abbrev kx_Mo_lowest (l : Launch) (g : GG) (Q : Option Value → va_W → Prop) : KX := (l, g, none, rm_Mo_lowest, y_Mo_lowest.cls, b_Mo_lowest, 11, false, 0, 0, Q, (some .long))
abbrev rm_Mo_chanceOf : Room := { frames := 6, cells := 0, slots := 0, locals := 137 }
abbrev kx_Mo_chanceOf (l : Launch) (g : GG) (Q : Option Value → va_W → Prop) : KX := (l, g, none, rm_Mo_chanceOf, y_Mo_chanceOf.cls, b_Mo_chanceOf, 10, false, 0, 0, Q, (some .long))
abbrev rm_Mo_no : Room := { frames := 0, cells := 0, slots := 0, locals := 0 }
abbrev kx_Mo_no (l : Launch) (g : GG) (Q : Option Value → va_W → Prop) : KX := (l, g, none, rm_Mo_no, y_Mo_no.cls, b_Mo_no, 1, false, 0, 0, Q, (some .long))
abbrev rm_Mo_chance : Room := { frames := 7, cells := 0, slots := 0, locals := 166 }
abbrev kx_Mo_chance (l : Launch) (g : GG) (Q : Option Value → va_W → Prop) : KX := (l, g, none, rm_Mo_chance, y_Mo_chance.cls, b_Mo_chance, 4, false, 0, 0, Q, (some .long))
abbrev rm_Mo_yearsOf : Room := { frames := 6, cells := 0, slots := 0, locals := 137 }
abbrev kx_Mo_yearsOf (l : Launch) (g : GG) (Q : Option Value → va_W → Prop) : KX := (l, g, none, rm_Mo_yearsOf, y_Mo_yearsOf.cls, b_Mo_yearsOf, 6, false, 0, 0, Q, (some .int))
abbrev rm_Mo_years : Room := { frames := 7, cells := 0, slots := 0, locals := 162 }
abbrev kx_Mo_years (l : Launch) (g : GG) (Q : Option Value → va_W → Prop) : KX := (l, g, none, rm_Mo_years, y_Mo_years.cls, b_Mo_years, 4, false, 0, 0, Q, (some .int))
abbrev rm_Mo_sheet : Room := { frames := 2, cells := 0, slots := 0, locals := 42 }
abbrev kx_Mo_sheet (l : Launch) (g : GG) (Q : Option Value → va_W → Prop) : KX := (l, g, none, rm_Mo_sheet, y_Mo_sheet.cls, b_Mo_sheet, 5, false, 0, 0, Q, (some .int))
abbrev rm_Mo_lose : Room := { frames := 2, cells := 0, slots := 0, locals := 42 }
abbrev kx_Mo_lose (l : Launch) (g : GG) (Q : Option Value → va_W → Prop) : KX := (l, g, none, rm_Mo_lose, y_Mo_lose.cls, b_Mo_lose, 2, false, 0, 0, Q, (some .int))
abbrev rm_Mo_lacks : Room := { frames := 1, cells := 0, slots := 0, locals := 22 }
abbrev kx_Mo_lacks (l : Launch) (g : GG) (Q : Option Value → va_W → Prop) : KX := (l, g, none, rm_Mo_lacks, y_Mo_lacks.cls, b_Mo_lacks, 4, false, 0, 0, Q, (some .int))
abbrev rm_Mo_keep : Room := { frames := 0, cells := 0, slots := 0, locals := 0 }
abbrev kx_Mo_keep (l : Launch) (g : GG) (Q : Option Value → va_W → Prop) : KX := (l, g, none, rm_Mo_keep, y_Mo_keep.cls, b_Mo_keep, 4, false, 0, 0, Q, none)
abbrev rm_Mo_put : Room := { frames := 2, cells := 0, slots := 0, locals := 45 }
abbrev kx_Mo_put (l : Launch) (g : GG) (Q : Option Value → va_W → Prop) : KX := (l, g, none, rm_Mo_put, y_Mo_put.cls, b_Mo_put, 6, false, 0, 0, Q, (some .int))
abbrev rm_Mo_get : Room := { frames := 2, cells := 0, slots := 0, locals := 45 }
abbrev kx_Mo_get (l : Launch) (g : GG) (Q : Option Value → va_W → Prop) : KX := (l, g, none, rm_Mo_get, y_Mo_get.cls, b_Mo_get, 5, false, 0, 0, Q, (some .int))
abbrev rm_Mo_copy : Room := { frames := 2, cells := 0, slots := 0, locals := 42 }
abbrev kx_Mo_copy (l : Launch) (g : GG) (Q : Option Value → va_W → Prop) : KX := (l, g, none, rm_Mo_copy, y_Mo_copy.cls, b_Mo_copy, 7, false, 0, 0, Q, (some .int))
abbrev rm_Mo_write : Room := { frames := 7, cells := 0, slots := 0, locals := 157 }
abbrev kx_Mo_write (l : Launch) (g : GG) (Q : Option Value → va_W → Prop) : KX := (l, g, none, rm_Mo_write, y_Mo_write.cls, b_Mo_write, 4, false, 0, 0, Q, (some .int))
abbrev rm_Mo_feesAll : Room := { frames := 0, cells := 0, slots := 0, locals := 0 }
abbrev kx_Mo_feesAll (l : Launch) (g : GG) (Q : Option Value → va_W → Prop) : KX := (l, g, none, rm_Mo_feesAll, y_Mo_feesAll.cls, b_Mo_feesAll, 3, false, 0, 0, Q, (some .int))
abbrev rm_Mo_sumOf : Room := { frames := 7, cells := 0, slots := 0, locals := 157 }
abbrev kx_Mo_sumOf (l : Launch) (g : GG) (Q : Option Value → va_W → Prop) : KX := (l, g, none, rm_Mo_sumOf, y_Mo_sumOf.cls, b_Mo_sumOf, 2, false, 0, 0, Q, (some .int))
abbrev rm_Mo_count : Room := { frames := 8, cells := 0, slots := 0, locals := 178 }
abbrev kx_Mo_count (l : Launch) (g : GG) (Q : Option Value → va_W → Prop) : KX := (l, g, none, rm_Mo_count, y_Mo_count.cls, b_Mo_count, 2, false, 0, 0, Q, (some .int))
abbrev rm_Mo_baleDigest : Room := { frames := 7, cells := 0, slots := 0, locals := 164 }
abbrev kx_Mo_baleDigest (l : Launch) (g : GG) (Q : Option Value → va_W → Prop) : KX := (l, g, none, rm_Mo_baleDigest, y_Mo_baleDigest.cls, b_Mo_baleDigest, 7, false, 0, 0, Q, (some .long))
abbrev rm_Mo_dayDigest : Room := { frames := 8, cells := 0, slots := 0, locals := 181 }
abbrev kx_Mo_dayDigest (l : Launch) (g : GG) (Q : Option Value → va_W → Prop) : KX := (l, g, none, rm_Mo_dayDigest, y_Mo_dayDigest.cls, b_Mo_dayDigest, 8, false, 0, 0, Q, (some .long))
abbrev rm_Mo_camelDigest : Room := { frames := 9, cells := 0, slots := 0, locals := 208 }
abbrev kx_Mo_camelDigest (l : Launch) (g : GG) (Q : Option Value → va_W → Prop) : KX := (l, g, none, rm_Mo_camelDigest, y_Mo_camelDigest.cls, b_Mo_camelDigest, 6, false, 0, 0, Q, (some .long))
abbrev rm_Mo_digest : Room := { frames := 10, cells := 0, slots := 0, locals := 233 }
abbrev kx_Mo_digest (l : Launch) (g : GG) (Q : Option Value → va_W → Prop) : KX := (l, g, none, rm_Mo_digest, y_Mo_digest.cls, b_Mo_digest, 4, false, 0, 0, Q, (some .long))
theorem wk_Ca_18 : Cond.methodLinkNest "CamelStraws$Camels" 18 y_CS_isBetween "CamelStraws" ∈ tb_l := (tb_in 433 (by decide +kernel) rfl)
theorem ok_CS_isBetween : MOk y_CS_isBetween b_CS_isBetween 3 (some .boolean) 3 := ⟨(tb_in 429 (by decide +kernel) rfl), (tb_in 69 (by decide +kernel) rfl), by decide +kernel, by decide +kernel, by decide +kernel⟩
theorem ws_CS_isBetween : Cond.static y_CS_isBetween ∈ tb_l := (tb_in 428 (by decide +kernel) rfl)
theorem wk_Ba_21 : Cond.methodLinkNest "CamelStraws$Bales" 21 y_CS_isBetween "CamelStraws" ∈ tb_l := (tb_in 427 (by decide +kernel) rfl)
theorem fo_Tx_22_70 : FOk "CamelStraws$Text" 22 70 2 .int false := FOk.mk0 cq_2 (by decide) (by decide) (by decide) rfl (tb_in 116 (by decide +kernel) rfl) rfl rfl
theorem fo_Tx_22_66 : FOk "CamelStraws$Text" 22 66 2 .int false := FOk.mk0 cq_1 (by decide) (by decide) (by decide) rfl (tb_in 116 (by decide +kernel) rfl) rfl rfl
theorem fo_Tx_22_s70_66 : ∀ a ∈ [70, 66], FOk "CamelStraws$Text" 22 a 2 .int false := fun a ha => me2 (P := fun a => FOk "CamelStraws$Text" 22 a 2 .int false) ha fo_Tx_22_70 fo_Tx_22_66
theorem fd_s70_66_2 : ∀ a ∈ [70, 66], (fdl a)[2]? = some (0, 0) := by decide
theorem fo_Tx_19_70 : FOk "CamelStraws$Text" 19 70 1 .int true := FOk.mk0 cq_2 (by decide) (by decide) (by decide) rfl (tb_in 114 (by decide +kernel) rfl) rfl rfl
theorem fo_Tx_19_66 : FOk "CamelStraws$Text" 19 66 1 .int true := FOk.mk0 cq_1 (by decide) (by decide) (by decide) rfl (tb_in 114 (by decide +kernel) rfl) rfl rfl
theorem fo_Tx_19_s70_66 : ∀ a ∈ [70, 66], FOk "CamelStraws$Text" 19 a 1 .int true := fun a ha => me2 (P := fun a => FOk "CamelStraws$Text" 19 a 1 .int true) ha fo_Tx_19_70 fo_Tx_19_66
theorem fd_s70_66_1 : ∀ a ∈ [70, 66], (fdl a)[1]? = some (0, 0) := by decide
theorem fo_Tx_15_70 : FOk "CamelStraws$Text" 15 70 0 (.array .int) true := FOk.mk0 cq_2 (by decide) (by decide) (by decide) rfl (tb_in 109 (by decide +kernel) rfl) rfl rfl
theorem fo_Tx_15_66 : FOk "CamelStraws$Text" 15 66 0 (.array .int) true := FOk.mk0 cq_1 (by decide) (by decide) (by decide) rfl (tb_in 109 (by decide +kernel) rfl) rfl rfl
theorem fo_Tx_15_s70_66 : ∀ a ∈ [70, 66], FOk "CamelStraws$Text" 15 a 0 (.array .int) true := fun a ha => me2 (P := fun a => FOk "CamelStraws$Text" 15 a 0 (.array .int) true) ha fo_Tx_15_70 fo_Tx_15_66
theorem rm_s70_66_0 : ∀ a ∈ [70, 66], rf1 a 0 ∈ [69, 65] := by decide
theorem al_s69_65 : ∀ a ∈ [69, 65], a < nc_c := by decide
theorem ak_s69_65 : ∀ a ∈ [69, 65], kd a = 20 := by decide
theorem wk_Tx_39 : Cond.methodLink "CamelStraws$Text" 39 y_Tx_fits ∈ tb_l := (tb_in 421 (by decide +kernel) rfl)
theorem ok_Ca_fits : MOk y_Ca_fits b_Ca_fits 3 (some .boolean) 2 := ⟨(tb_in 432 (by decide +kernel) rfl), (tb_in 71 (by decide +kernel) rfl), by decide +kernel, by decide +kernel, by decide +kernel⟩
theorem ok_Ba_fits : MOk y_Ba_fits b_Ba_fits 3 (some .boolean) 2 := ⟨(tb_in 426 (by decide +kernel) rfl), (tb_in 72 (by decide +kernel) rfl), by decide +kernel, by decide +kernel, by decide +kernel⟩
theorem rc_70 : Rcv 70 "CamelStraws$Camels" := ⟨by decide, by decide, _, rfl, rfl⟩
theorem uo_Ca_Ca_fits : UOk "CamelStraws$Camels" y_Tx_fits y_Ca_fits := ⟨(tb_in 423 (by decide +kernel) rfl), (tb_in 431 (by decide +kernel) rfl), (tb_in 430 (by decide +kernel) rfl), Or.inr (tb_in 422 (by decide +kernel) rfl), ⟨by decide +kernel, by decide +kernel⟩, rfl⟩
theorem rc_66 : Rcv 66 "CamelStraws$Bales" := ⟨by decide, by decide, _, rfl, rfl⟩
theorem uo_Ba_Ba_fits : UOk "CamelStraws$Bales" y_Tx_fits y_Ba_fits := ⟨(tb_in 423 (by decide +kernel) rfl), (tb_in 425 (by decide +kernel) rfl), (tb_in 424 (by decide +kernel) rfl), Or.inr (tb_in 422 (by decide +kernel) rfl), ⟨by decide +kernel, by decide +kernel⟩, rfl⟩
theorem fd_s70_66_0 : ∀ a ∈ [70, 66], (fdl a)[0]? = some (2, rf1 a 0) := by decide
theorem fo_Ca_22_70 : FOk "CamelStraws$Camels" 22 70 0 (.array .int) true := FOk.mk1 "CamelStraws$Camels" cq_2 (by decide) (by decide) (by decide) rfl (tb_in 110 (by decide +kernel) rfl) (tb_in 111 (by decide +kernel) rfl) rfl rfl
theorem fo_Ca_9_70 : FOk "CamelStraws$Camels" 9 70 5 (.array .int) true := FOk.mk0 cq_2 (by decide) (by decide) (by decide) rfl (tb_in 102 (by decide +kernel) rfl) rfl rfl
theorem fo_Ca_15_70 : FOk "CamelStraws$Camels" 15 70 6 (.array .int) true := FOk.mk0 cq_2 (by decide) (by decide) (by decide) rfl (tb_in 105 (by decide +kernel) rfl) rfl rfl
theorem fo_Ba_9_66 : FOk "CamelStraws$Bales" 9 66 5 (.array .int) true := FOk.mk0 cq_1 (by decide) (by decide) (by decide) rfl (tb_in 153 (by decide +kernel) rfl) rfl rfl
theorem fo_Ba_25_66 : FOk "CamelStraws$Bales" 25 66 0 (.array .int) true := FOk.mk1 "CamelStraws$Bales" cq_1 (by decide) (by decide) (by decide) rfl (tb_in 112 (by decide +kernel) rfl) (tb_in 113 (by decide +kernel) rfl) rfl rfl
theorem fo_Ba_15_66 : FOk "CamelStraws$Bales" 15 66 6 (.array .int) true := FOk.mk0 cq_1 (by decide) (by decide) (by decide) rfl (tb_in 157 (by decide +kernel) rfl) rfl rfl
theorem fo_Ba_18_66 : FOk "CamelStraws$Bales" 18 66 7 (.array .int) true := FOk.mk0 cq_1 (by decide) (by decide) (by decide) rfl (tb_in 160 (by decide +kernel) rfl) rfl rfl
theorem wk_Tx_28 : Cond.methodLink "CamelStraws$Text" 28 y_Tx_findFault ∈ tb_l := (tb_in 417 (by decide +kernel) rfl)
theorem uo_Ca_Tx_findFault : UOk "CamelStraws$Camels" y_Tx_findFault y_Tx_findFault := ⟨(tb_in 1393 (by decide +kernel) rfl), (tb_in 419 (by decide +kernel) rfl), (tb_in 1398 (by decide +kernel) rfl), Or.inl rfl, ⟨by decide +kernel, by decide +kernel⟩, rfl⟩
theorem uo_Ba_Tx_findFault : UOk "CamelStraws$Bales" y_Tx_findFault y_Tx_findFault := ⟨(tb_in 1393 (by decide +kernel) rfl), (tb_in 419 (by decide +kernel) rfl), (tb_in 1399 (by decide +kernel) rfl), Or.inl rfl, ⟨by decide +kernel, by decide +kernel⟩, rfl⟩
theorem ru_s70_66_Tx_findFault : ∀ a ∈ [70, 66], ∃ C, Rcv a C ∧ UOk C y_Tx_findFault y_Tx_findFault := fun a ha => me2 (P := fun a => ∃ C, Rcv a C ∧ UOk C y_Tx_findFault y_Tx_findFault) ha ⟨_, rc_70, uo_Ca_Tx_findFault⟩ ⟨_, rc_66, uo_Ba_Tx_findFault⟩
theorem ok_Tx_findFault : MOk y_Tx_findFault b_Tx_findFault 3 (some .int) 0 := ⟨(tb_in 420 (by decide +kernel) rfl), (tb_in 70 (by decide +kernel) rfl), by decide +kernel, by decide +kernel, by decide +kernel⟩
theorem fo_Tx_9_70 : FOk "CamelStraws$Text" 9 70 3 .int false := FOk.mk0 cq_2 (by decide) (by decide) (by decide) rfl (tb_in 121 (by decide +kernel) rfl) rfl rfl
theorem fo_Tx_9_66 : FOk "CamelStraws$Text" 9 66 3 .int false := FOk.mk0 cq_1 (by decide) (by decide) (by decide) rfl (tb_in 121 (by decide +kernel) rfl) rfl rfl
theorem fo_Tx_9_s70_66 : ∀ a ∈ [70, 66], FOk "CamelStraws$Text" 9 a 3 .int false := fun a ha => me2 (P := fun a => FOk "CamelStraws$Text" 9 a 3 .int false) ha fo_Tx_9_70 fo_Tx_9_66
theorem fd_s70_66_3 : ∀ a ∈ [70, 66], (fdl a)[3]? = some (0, 0) := by decide
theorem fo_Tx_32_70 : FOk "CamelStraws$Text" 32 70 4 .int false := FOk.mk0 cq_2 (by decide) (by decide) (by decide) rfl (tb_in 128 (by decide +kernel) rfl) rfl rfl
theorem fo_Tx_32_66 : FOk "CamelStraws$Text" 32 66 4 .int false := FOk.mk0 cq_1 (by decide) (by decide) (by decide) rfl (tb_in 128 (by decide +kernel) rfl) rfl rfl
theorem fo_Tx_32_s70_66 : ∀ a ∈ [70, 66], FOk "CamelStraws$Text" 32 a 4 .int false := fun a ha => me2 (P := fun a => FOk "CamelStraws$Text" 32 a 4 .int false) ha fo_Tx_32_70 fo_Tx_32_66
theorem fd_s70_66_4 : ∀ a ∈ [70, 66], (fdl a)[4]? = some (0, 0) := by decide
theorem wk_Tx_35 : Cond.methodLink "CamelStraws$Text" 35 y_Tx_learn ∈ tb_l := (tb_in 434 (by decide +kernel) rfl)
theorem ok_Ca_learn : MOk y_Ca_learn b_Ca_learn 4 none 2 := ⟨(tb_in 442 (by decide +kernel) rfl), (tb_in 71 (by decide +kernel) rfl), by decide +kernel, by decide +kernel, by decide +kernel⟩
theorem ok_Ba_learn : MOk y_Ba_learn b_Ba_learn 3 none 2 := ⟨(tb_in 439 (by decide +kernel) rfl), (tb_in 72 (by decide +kernel) rfl), by decide +kernel, by decide +kernel, by decide +kernel⟩
theorem uo_Ca_Ca_learn : UOk "CamelStraws$Camels" y_Tx_learn y_Ca_learn := ⟨(tb_in 436 (by decide +kernel) rfl), (tb_in 441 (by decide +kernel) rfl), (tb_in 440 (by decide +kernel) rfl), Or.inr (tb_in 435 (by decide +kernel) rfl), ⟨by decide +kernel, by decide +kernel⟩, rfl⟩
theorem uo_Ba_Ba_learn : UOk "CamelStraws$Bales" y_Tx_learn y_Ba_learn := ⟨(tb_in 436 (by decide +kernel) rfl), (tb_in 438 (by decide +kernel) rfl), (tb_in 437 (by decide +kernel) rfl), Or.inr (tb_in 435 (by decide +kernel) rfl), ⟨by decide +kernel, by decide +kernel⟩, rfl⟩
theorem wk_Tx_25 : Cond.methodLink "CamelStraws$Text" 25 y_Tx_parse ∈ tb_l := (tb_in 413 (by decide +kernel) rfl)
theorem uo_Ca_Tx_parse : UOk "CamelStraws$Camels" y_Tx_parse y_Tx_parse := ⟨(tb_in 1392 (by decide +kernel) rfl), (tb_in 415 (by decide +kernel) rfl), (tb_in 1396 (by decide +kernel) rfl), Or.inl rfl, ⟨by decide +kernel, by decide +kernel⟩, rfl⟩
theorem uo_Ba_Tx_parse : UOk "CamelStraws$Bales" y_Tx_parse y_Tx_parse := ⟨(tb_in 1392 (by decide +kernel) rfl), (tb_in 415 (by decide +kernel) rfl), (tb_in 1397 (by decide +kernel) rfl), Or.inl rfl, ⟨by decide +kernel, by decide +kernel⟩, rfl⟩
theorem ru_s70_66_Tx_parse : ∀ a ∈ [70, 66], ∃ C, Rcv a C ∧ UOk C y_Tx_parse y_Tx_parse := fun a ha => me2 (P := fun a => ∃ C, Rcv a C ∧ UOk C y_Tx_parse y_Tx_parse) ha ⟨_, rc_70, uo_Ca_Tx_parse⟩ ⟨_, rc_66, uo_Ba_Tx_parse⟩
theorem ok_Tx_parse : MOk y_Tx_parse b_Tx_parse 2 none 0 := ⟨(tb_in 416 (by decide +kernel) rfl), (tb_in 70 (by decide +kernel) rfl), by decide +kernel, by decide +kernel, by decide +kernel⟩
theorem wk_CS_78 : Cond.methodLink "CamelStraws" 78 y_CS_isText ∈ tb_l := (tb_in 404 (by decide +kernel) rfl)
theorem ok_CS_isText : MOk y_CS_isText b_CS_isText 1 (some .boolean) 1 := ⟨(tb_in 406 (by decide +kernel) rfl), (tb_in 69 (by decide +kernel) rfl), by decide +kernel, by decide +kernel, by decide +kernel⟩
theorem ws_CS_isText : Cond.static y_CS_isText ∈ tb_l := (tb_in 405 (by decide +kernel) rfl)
theorem fo_CS_25_71 : FOk "CamelStraws" 25 71 2 (.array (.object "CamelStraws$Text")) true := FOk.mk0 cq_0 (by decide) (by decide) (by decide) rfl (tb_in 368 (by decide +kernel) rfl) rfl rfl
theorem rx_61 : ∀ j, j < 2 → rfx 61 j ∈ [70, 66] := by decide
theorem wk_CS_82 : Cond.methodLink "CamelStraws" 82 y_Tx_append ∈ tb_l := (tb_in 407 (by decide +kernel) rfl)
theorem uo_Ca_Tx_append : UOk "CamelStraws$Camels" y_Tx_append y_Tx_append := ⟨(tb_in 409 (by decide +kernel) rfl), (tb_in 408 (by decide +kernel) rfl), (tb_in 411 (by decide +kernel) rfl), Or.inl rfl, ⟨by decide +kernel, by decide +kernel⟩, rfl⟩
theorem uo_Ba_Tx_append : UOk "CamelStraws$Bales" y_Tx_append y_Tx_append := ⟨(tb_in 409 (by decide +kernel) rfl), (tb_in 408 (by decide +kernel) rfl), (tb_in 410 (by decide +kernel) rfl), Or.inl rfl, ⟨by decide +kernel, by decide +kernel⟩, rfl⟩
theorem ru_s70_66_Tx_append : ∀ a ∈ [70, 66], ∃ C, Rcv a C ∧ UOk C y_Tx_append y_Tx_append := fun a ha => me2 (P := fun a => ∃ C, Rcv a C ∧ UOk C y_Tx_append y_Tx_append) ha ⟨_, rc_70, uo_Ca_Tx_append⟩ ⟨_, rc_66, uo_Ba_Tx_append⟩
theorem ok_Tx_append : MOk y_Tx_append b_Tx_append 2 (some .boolean) 1 := ⟨(tb_in 412 (by decide +kernel) rfl), (tb_in 70 (by decide +kernel) rfl), by decide +kernel, by decide +kernel, by decide +kernel⟩
theorem fo_CS_85_70 : FOk "CamelStraws" 85 70 2 .int false := FOk.mk0 cq_2 (by decide) (by decide) (by decide) rfl (tb_in 115 (by decide +kernel) rfl) rfl rfl
theorem fo_CS_85_66 : FOk "CamelStraws" 85 66 2 .int false := FOk.mk0 cq_1 (by decide) (by decide) (by decide) rfl (tb_in 115 (by decide +kernel) rfl) rfl rfl
theorem fo_CS_85_s70_66 : ∀ a ∈ [70, 66], FOk "CamelStraws" 85 a 2 .int false := fun a ha => me2 (P := fun a => FOk "CamelStraws" 85 a 2 .int false) ha fo_CS_85_70 fo_CS_85_66
theorem wk_CS_89 : Cond.methodLink "CamelStraws" 89 y_Tx_cutTo ∈ tb_l := (tb_in 447 (by decide +kernel) rfl)
theorem uo_Ca_Tx_cutTo : UOk "CamelStraws$Camels" y_Tx_cutTo y_Tx_cutTo := ⟨(tb_in 449 (by decide +kernel) rfl), (tb_in 448 (by decide +kernel) rfl), (tb_in 451 (by decide +kernel) rfl), Or.inl rfl, ⟨by decide +kernel, by decide +kernel⟩, rfl⟩
theorem uo_Ba_Tx_cutTo : UOk "CamelStraws$Bales" y_Tx_cutTo y_Tx_cutTo := ⟨(tb_in 449 (by decide +kernel) rfl), (tb_in 448 (by decide +kernel) rfl), (tb_in 450 (by decide +kernel) rfl), Or.inl rfl, ⟨by decide +kernel, by decide +kernel⟩, rfl⟩
theorem ru_s70_66_Tx_cutTo : ∀ a ∈ [70, 66], ∃ C, Rcv a C ∧ UOk C y_Tx_cutTo y_Tx_cutTo := fun a ha => me2 (P := fun a => ∃ C, Rcv a C ∧ UOk C y_Tx_cutTo y_Tx_cutTo) ha ⟨_, rc_70, uo_Ca_Tx_cutTo⟩ ⟨_, rc_66, uo_Ba_Tx_cutTo⟩
theorem ok_Tx_cutTo : MOk y_Tx_cutTo b_Tx_cutTo 2 none 1 := ⟨(tb_in 452 (by decide +kernel) rfl), (tb_in 70 (by decide +kernel) rfl), by decide +kernel, by decide +kernel, by decide +kernel⟩
theorem fo_CS_93_70 : FOk "CamelStraws" 93 70 3 .int false := FOk.mk0 cq_2 (by decide) (by decide) (by decide) rfl (tb_in 122 (by decide +kernel) rfl) rfl rfl
theorem fo_CS_93_66 : FOk "CamelStraws" 93 66 3 .int false := FOk.mk0 cq_1 (by decide) (by decide) (by decide) rfl (tb_in 122 (by decide +kernel) rfl) rfl rfl
theorem fo_CS_93_s70_66 : ∀ a ∈ [70, 66], FOk "CamelStraws" 93 a 3 .int false := fun a ha => me2 (P := fun a => FOk "CamelStraws" 93 a 3 .int false) ha fo_CS_93_70 fo_CS_93_66
theorem fo_CS_10_71 : FOk "CamelStraws" 10 71 0 (.object "CamelStraws$Camels") true := FOk.mk0 cq_0 (by decide) (by decide) (by decide) rfl (tb_in 366 (by decide +kernel) rfl) rfl rfl
theorem fo_CS_229_70 : FOk "CamelStraws" 229 70 4 .int false := FOk.mk1 "CamelStraws$Camels" cq_2 (by decide) (by decide) (by decide) rfl (tb_in 129 (by decide +kernel) rfl) (tb_in 126 (by decide +kernel) rfl) rfl rfl
theorem wk_CS_96 : Cond.methodLink "CamelStraws" 96 y_CS_isCamel ∈ tb_l := (tb_in 465 (by decide +kernel) rfl)
theorem ok_CS_isCamel : MOk y_CS_isCamel b_CS_isCamel 2 (some .boolean) 1 := ⟨(tb_in 468 (by decide +kernel) rfl), (tb_in 69 (by decide +kernel) rfl), by decide +kernel, by decide +kernel, by decide +kernel⟩
theorem rc_71 : Rcv 71 "CamelStraws" := ⟨by decide, by decide, _, rfl, rfl⟩
theorem wi_CS_isCamel : Cond.instanceMethod y_CS_isCamel ∈ tb_l := (tb_in 467 (by decide +kernel) rfl)
theorem wl_CS_CS_isCamel : Cond.selects "CamelStraws" y_CS_isCamel y_CS_isCamel ∈ tb_l := (tb_in 0 (by decide +kernel) rfl)
theorem fo_CS_103_70 : FOk "CamelStraws" 103 70 6 (.array .int) true := FOk.mk0 cq_2 (by decide) (by decide) (by decide) rfl (tb_in 107 (by decide +kernel) rfl) rfl rfl
theorem wk_CS_106 : Cond.methodLink "CamelStraws" 106 y_CS_strengthOf ∈ tb_l := (tb_in 469 (by decide +kernel) rfl)
theorem ok_CS_strengthOf : MOk y_CS_strengthOf b_CS_strengthOf 1 (some .int) 1 := ⟨(tb_in 471 (by decide +kernel) rfl), (tb_in 69 (by decide +kernel) rfl), by decide +kernel, by decide +kernel, by decide +kernel⟩
theorem ws_CS_strengthOf : Cond.static y_CS_strengthOf ∈ tb_l := (tb_in 470 (by decide +kernel) rfl)
theorem fo_CS_99_70 : FOk "CamelStraws" 99 70 5 (.array .int) true := FOk.mk0 cq_2 (by decide) (by decide) (by decide) rfl (tb_in 104 (by decide +kernel) rfl) rfl rfl
theorem fo_CS_19_71 : FOk "CamelStraws" 19 71 1 (.object "CamelStraws$Bales") true := FOk.mk0 cq_0 (by decide) (by decide) (by decide) rfl (tb_in 367 (by decide +kernel) rfl) rfl rfl
theorem fo_CS_269_66 : FOk "CamelStraws" 269 66 4 .int false := FOk.mk1 "CamelStraws$Bales" cq_1 (by decide) (by decide) (by decide) rfl (tb_in 130 (by decide +kernel) rfl) (tb_in 124 (by decide +kernel) rfl) rfl rfl
theorem wk_CS_110 : Cond.methodLink "CamelStraws" 110 y_CS_isBale ∈ tb_l := (tb_in 476 (by decide +kernel) rfl)
theorem ok_CS_isBale : MOk y_CS_isBale b_CS_isBale 2 (some .boolean) 1 := ⟨(tb_in 479 (by decide +kernel) rfl), (tb_in 69 (by decide +kernel) rfl), by decide +kernel, by decide +kernel, by decide +kernel⟩
theorem wi_CS_isBale : Cond.instanceMethod y_CS_isBale ∈ tb_l := (tb_in 478 (by decide +kernel) rfl)
theorem wl_CS_CS_isBale : Cond.selects "CamelStraws" y_CS_isBale y_CS_isBale ∈ tb_l := (tb_in 1 (by decide +kernel) rfl)
theorem fo_CS_113_66 : FOk "CamelStraws" 113 66 5 (.array .int) true := FOk.mk0 cq_1 (by decide) (by decide) (by decide) rfl (tb_in 156 (by decide +kernel) rfl) rfl rfl
theorem fo_CS_115_66 : FOk "CamelStraws" 115 66 6 (.array .int) true := FOk.mk0 cq_1 (by decide) (by decide) (by decide) rfl (tb_in 159 (by decide +kernel) rfl) rfl rfl
theorem fo_CS_118_66 : FOk "CamelStraws" 118 66 7 (.array .int) true := FOk.mk0 cq_1 (by decide) (by decide) (by decide) rfl (tb_in 163 (by decide +kernel) rfl) rfl rfl
theorem fo_St_18_60 : FOk "CamelStraws$Straws" 18 60 2 .int false := FOk.mk0 cq_8 (by decide) (by decide) (by decide) rfl (tb_in 188 (by decide +kernel) rfl) rfl rfl
theorem fo_St_18_57 : FOk "CamelStraws$Straws" 18 57 2 .int false := FOk.mk0 cq_8 (by decide) (by decide) (by decide) rfl (tb_in 188 (by decide +kernel) rfl) rfl rfl
theorem fo_St_18_s60_57 : ∀ a ∈ [60, 57], FOk "CamelStraws$Straws" 18 a 2 .int false := fun a ha => me2 (P := fun a => FOk "CamelStraws$Straws" 18 a 2 .int false) ha fo_St_18_60 fo_St_18_57
theorem fd_s60_57_2 : ∀ a ∈ [60, 57], (fdl a)[2]? = some (0, 0) := by decide
theorem fo_St_9_60 : FOk "CamelStraws$Straws" 9 60 0 (.array .int) true := FOk.mk0 cq_8 (by decide) (by decide) (by decide) rfl (tb_in 184 (by decide +kernel) rfl) rfl rfl
theorem fo_St_9_57 : FOk "CamelStraws$Straws" 9 57 0 (.array .int) true := FOk.mk0 cq_8 (by decide) (by decide) (by decide) rfl (tb_in 184 (by decide +kernel) rfl) rfl rfl
theorem fo_St_9_s60_57 : ∀ a ∈ [60, 57], FOk "CamelStraws$Straws" 9 a 0 (.array .int) true := fun a ha => me2 (P := fun a => FOk "CamelStraws$Straws" 9 a 0 (.array .int) true) ha fo_St_9_60 fo_St_9_57
theorem rm_s60_57_0 : ∀ a ∈ [60, 57], rf1 a 0 ∈ [59, 56] := by decide
theorem al_s59_56 : ∀ a ∈ [59, 56], a < nc_c := by decide
theorem ak_s59_56 : ∀ a ∈ [59, 56], kd a = 20 := by decide
theorem an_s59_56 : ∀ a ∈ [59, 56], ln a = 8 := by decide
theorem fo_St_15_60 : FOk "CamelStraws$Straws" 15 60 1 (.array .int) true := FOk.mk0 cq_8 (by decide) (by decide) (by decide) rfl (tb_in 186 (by decide +kernel) rfl) rfl rfl
theorem fo_St_15_57 : FOk "CamelStraws$Straws" 15 57 1 (.array .int) true := FOk.mk0 cq_8 (by decide) (by decide) (by decide) rfl (tb_in 186 (by decide +kernel) rfl) rfl rfl
theorem fo_St_15_s60_57 : ∀ a ∈ [60, 57], FOk "CamelStraws$Straws" 15 a 1 (.array .int) true := fun a ha => me2 (P := fun a => FOk "CamelStraws$Straws" 15 a 1 (.array .int) true) ha fo_St_15_60 fo_St_15_57
theorem rm_s60_57_1 : ∀ a ∈ [60, 57], rf1 a 1 ∈ [58, 55] := by decide
theorem al_s58_55 : ∀ a ∈ [58, 55], a < nc_c := by decide
theorem ak_s58_55 : ∀ a ∈ [58, 55], kd a = 20 := by decide
theorem an_s58_55 : ∀ a ∈ [58, 55], ln a = 8 := by decide
theorem fd_s60_57_1 : ∀ a ∈ [60, 57], (fdl a)[1]? = some (2, rf1 a 1) := by decide
theorem fd_s60_57_0 : ∀ a ∈ [60, 57], (fdl a)[0]? = some (2, rf1 a 0) := by decide
theorem wk_CS_121 : Cond.methodLink "CamelStraws" 121 y_CS_isDay ∈ tb_l := (tb_in 484 (by decide +kernel) rfl)
theorem ok_CS_isDay : MOk y_CS_isDay b_CS_isDay 1 (some .boolean) 1 := ⟨(tb_in 486 (by decide +kernel) rfl), (tb_in 69 (by decide +kernel) rfl), by decide +kernel, by decide +kernel, by decide +kernel⟩
theorem ws_CS_isDay : Cond.static y_CS_isDay ∈ tb_l := (tb_in 485 (by decide +kernel) rfl)
theorem wk_CS_124 : Cond.methodLink "CamelStraws" 124 y_CS_isPlaceOfCamel ∈ tb_l := (tb_in 487 (by decide +kernel) rfl)
theorem ok_CS_isPlaceOfCamel : MOk y_CS_isPlaceOfCamel b_CS_isPlaceOfCamel 1 (some .boolean) 1 := ⟨(tb_in 489 (by decide +kernel) rfl), (tb_in 69 (by decide +kernel) rfl), by decide +kernel, by decide +kernel, by decide +kernel⟩
theorem ws_CS_isPlaceOfCamel : Cond.static y_CS_isPlaceOfCamel ∈ tb_l := (tb_in 488 (by decide +kernel) rfl)
theorem fo_CS_32_71 : FOk "CamelStraws" 32 71 3 (.object "CamelStraws$Straws") true := FOk.mk0 cq_0 (by decide) (by decide) (by decide) rfl (tb_in 369 (by decide +kernel) rfl) rfl rfl
theorem wk_CS_127 : Cond.methodLink "CamelStraws" 127 y_St_append ∈ tb_l := (tb_in 490 (by decide +kernel) rfl)
theorem ok_St_append : MOk y_St_append b_St_append 3 (some .boolean) 2 := ⟨(tb_in 493 (by decide +kernel) rfl), (tb_in 73 (by decide +kernel) rfl), by decide +kernel, by decide +kernel, by decide +kernel⟩
theorem rc_60 : Rcv 60 "CamelStraws$Straws" := ⟨by decide, by decide, _, rfl, rfl⟩
theorem wi_St_append : Cond.instanceMethod y_St_append ∈ tb_l := (tb_in 491 (by decide +kernel) rfl)
theorem wl_St_St_append : Cond.selects "CamelStraws$Straws" y_St_append y_St_append ∈ tb_l := (tb_in 492 (by decide +kernel) rfl)
theorem fo_CS_130_60 : FOk "CamelStraws" 130 60 2 .int false := FOk.mk0 cq_8 (by decide) (by decide) (by decide) rfl (tb_in 192 (by decide +kernel) rfl) rfl rfl
theorem fo_Sh_15_42 : FOk "CamelStraws$Sheet" 15 42 1 .int false := FOk.mk0 cq_7 (by decide) (by decide) (by decide) rfl (tb_in 355 (by decide +kernel) rfl) rfl rfl
theorem fo_Sh_15_40 : FOk "CamelStraws$Sheet" 15 40 1 .int false := FOk.mk0 cq_7 (by decide) (by decide) (by decide) rfl (tb_in 355 (by decide +kernel) rfl) rfl rfl
theorem fo_Sh_15_38 : FOk "CamelStraws$Sheet" 15 38 1 .int false := FOk.mk0 cq_7 (by decide) (by decide) (by decide) rfl (tb_in 355 (by decide +kernel) rfl) rfl rfl
theorem fo_Sh_15_36 : FOk "CamelStraws$Sheet" 15 36 1 .int false := FOk.mk0 cq_7 (by decide) (by decide) (by decide) rfl (tb_in 355 (by decide +kernel) rfl) rfl rfl
theorem fo_Sh_15_s42_40_38_36 : ∀ a ∈ [42, 40, 38, 36], FOk "CamelStraws$Sheet" 15 a 1 .int false := fun a ha => me4 (P := fun a => FOk "CamelStraws$Sheet" 15 a 1 .int false) ha fo_Sh_15_42 fo_Sh_15_40 fo_Sh_15_38 fo_Sh_15_36
theorem fd_s42_40_38_36_1 : ∀ a ∈ [42, 40, 38, 36], (fdl a)[1]? = some (0, 0) := by decide
theorem fo_CS_249_71 : FOk "CamelStraws" 249 71 10 .int false := FOk.mk0 cq_0 (by decide) (by decide) (by decide) rfl (tb_in 376 (by decide +kernel) rfl) rfl rfl
theorem wk_CS_133 : Cond.methodLink "CamelStraws" 133 y_CS_isSheet ∈ tb_l := (tb_in 502 (by decide +kernel) rfl)
theorem ok_CS_isSheet : MOk y_CS_isSheet b_CS_isSheet 1 (some .boolean) 1 := ⟨(tb_in 504 (by decide +kernel) rfl), (tb_in 69 (by decide +kernel) rfl), by decide +kernel, by decide +kernel, by decide +kernel⟩
theorem ws_CS_isSheet : Cond.static y_CS_isSheet ∈ tb_l := (tb_in 503 (by decide +kernel) rfl)
theorem fo_CS_74_71 : FOk "CamelStraws" 74 71 9 (.array (.object "CamelStraws$Sheet")) true := FOk.mk0 cq_0 (by decide) (by decide) (by decide) rfl (tb_in 375 (by decide +kernel) rfl) rfl rfl
theorem rx_43 : ∀ j, j < 4 → rfx 43 j ∈ [42, 40, 38, 36] := by decide
theorem wk_CS_136 : Cond.methodLink "CamelStraws" 136 y_Sh_isLost ∈ tb_l := (tb_in 505 (by decide +kernel) rfl)
theorem ok_Sh_isLost : MOk y_Sh_isLost b_Sh_isLost 1 (some .boolean) 0 := ⟨(tb_in 508 (by decide +kernel) rfl), (tb_in 79 (by decide +kernel) rfl), by decide +kernel, by decide +kernel, by decide +kernel⟩
theorem rc_42 : Rcv 42 "CamelStraws$Sheet" := ⟨by decide, by decide, _, rfl, rfl⟩
theorem rc_40 : Rcv 40 "CamelStraws$Sheet" := ⟨by decide, by decide, _, rfl, rfl⟩
theorem rc_38 : Rcv 38 "CamelStraws$Sheet" := ⟨by decide, by decide, _, rfl, rfl⟩
theorem rc_36 : Rcv 36 "CamelStraws$Sheet" := ⟨by decide, by decide, _, rfl, rfl⟩
theorem rc_s42_40_38_36 : ∀ a ∈ [42, 40, 38, 36], Rcv a "CamelStraws$Sheet" := fun a ha => me4 (P := fun a => Rcv a "CamelStraws$Sheet") ha rc_42 rc_40 rc_38 rc_36
theorem wi_Sh_isLost : Cond.instanceMethod y_Sh_isLost ∈ tb_l := (tb_in 506 (by decide +kernel) rfl)
theorem wl_Sh_Sh_isLost : Cond.selects "CamelStraws$Sheet" y_Sh_isLost y_Sh_isLost ∈ tb_l := (tb_in 507 (by decide +kernel) rfl)
theorem fo_CS_143_42 : FOk "CamelStraws" 143 42 2 .int false := FOk.mk0 cq_7 (by decide) (by decide) (by decide) rfl (tb_in 358 (by decide +kernel) rfl) rfl rfl
theorem fo_CS_143_40 : FOk "CamelStraws" 143 40 2 .int false := FOk.mk0 cq_7 (by decide) (by decide) (by decide) rfl (tb_in 358 (by decide +kernel) rfl) rfl rfl
theorem fo_CS_143_38 : FOk "CamelStraws" 143 38 2 .int false := FOk.mk0 cq_7 (by decide) (by decide) (by decide) rfl (tb_in 358 (by decide +kernel) rfl) rfl rfl
theorem fo_CS_143_36 : FOk "CamelStraws" 143 36 2 .int false := FOk.mk0 cq_7 (by decide) (by decide) (by decide) rfl (tb_in 358 (by decide +kernel) rfl) rfl rfl
theorem fo_CS_143_s42_40_38_36 : ∀ a ∈ [42, 40, 38, 36], FOk "CamelStraws" 143 a 2 .int false := fun a ha => me4 (P := fun a => FOk "CamelStraws" 143 a 2 .int false) ha fo_CS_143_42 fo_CS_143_40 fo_CS_143_38 fo_CS_143_36
theorem fd_s42_40_38_36_2 : ∀ a ∈ [42, 40, 38, 36], (fdl a)[2]? = some (0, 0) := by decide
theorem fo_CS_144_42 : FOk "CamelStraws" 144 42 0 (.array .int) true := FOk.mk0 cq_7 (by decide) (by decide) (by decide) rfl (tb_in 354 (by decide +kernel) rfl) rfl rfl
theorem fo_CS_144_40 : FOk "CamelStraws" 144 40 0 (.array .int) true := FOk.mk0 cq_7 (by decide) (by decide) (by decide) rfl (tb_in 354 (by decide +kernel) rfl) rfl rfl
theorem fo_CS_144_38 : FOk "CamelStraws" 144 38 0 (.array .int) true := FOk.mk0 cq_7 (by decide) (by decide) (by decide) rfl (tb_in 354 (by decide +kernel) rfl) rfl rfl
theorem fo_CS_144_36 : FOk "CamelStraws" 144 36 0 (.array .int) true := FOk.mk0 cq_7 (by decide) (by decide) (by decide) rfl (tb_in 354 (by decide +kernel) rfl) rfl rfl
theorem fo_CS_144_s42_40_38_36 : ∀ a ∈ [42, 40, 38, 36], FOk "CamelStraws" 144 a 0 (.array .int) true := fun a ha => me4 (P := fun a => FOk "CamelStraws" 144 a 0 (.array .int) true) ha fo_CS_144_42 fo_CS_144_40 fo_CS_144_38 fo_CS_144_36
theorem rm_s42_40_38_36_0 : ∀ a ∈ [42, 40, 38, 36], rf1 a 0 ∈ [41, 39, 37, 35] := by decide
theorem al_s41_39_37_35 : ∀ a ∈ [41, 39, 37, 35], a < nc_c := by decide
theorem ak_s41_39_37_35 : ∀ a ∈ [41, 39, 37, 35], kd a = 20 := by decide
theorem an_s41_39_37_35 : ∀ a ∈ [41, 39, 37, 35], ln a = 60 := by decide
theorem wk_CS_147 : Cond.methodLink "CamelStraws" 147 y_CS_straw ∈ tb_l := (tb_in 513 (by decide +kernel) rfl)
theorem ok_CS_straw : MOk y_CS_straw b_CS_straw 3 (some .int) 2 := ⟨(tb_in 483 (by decide +kernel) rfl), (tb_in 69 (by decide +kernel) rfl), by decide +kernel, by decide +kernel, by decide +kernel⟩
theorem wi_CS_straw : Cond.instanceMethod y_CS_straw ∈ tb_l := (tb_in 481 (by decide +kernel) rfl)
theorem wl_CS_CS_straw : Cond.selects "CamelStraws" y_CS_straw y_CS_straw ∈ tb_l := (tb_in 482 (by decide +kernel) rfl)
theorem fd_s42_40_38_36_0 : ∀ a ∈ [42, 40, 38, 36], (fdl a)[0]? = some (2, rf1 a 0) := by decide
theorem wk_CS_140 : Cond.methodLink "CamelStraws" 140 y_CS_finding ∈ tb_l := (tb_in 509 (by decide +kernel) rfl)
theorem ok_CS_finding : MOk y_CS_finding b_CS_finding 2 (some .int) 1 := ⟨(tb_in 512 (by decide +kernel) rfl), (tb_in 69 (by decide +kernel) rfl), by decide +kernel, by decide +kernel, by decide +kernel⟩
theorem wi_CS_finding : Cond.instanceMethod y_CS_finding ∈ tb_l := (tb_in 511 (by decide +kernel) rfl)
theorem wl_CS_CS_finding : Cond.selects "CamelStraws" y_CS_finding y_CS_finding ∈ tb_l := (tb_in 2 (by decide +kernel) rfl)
theorem fo_Cv_26_54 : FOk "CamelStraws$Caravan" 26 54 1 (.object "CamelStraws$Bales") true := FOk.mk0 cq_3 (by decide) (by decide) (by decide) rfl (tb_in 258 (by decide +kernel) rfl) rfl rfl
theorem fo_Cv_54_66 : FOk "CamelStraws$Caravan" 54 66 4 .int false := FOk.mk1 "CamelStraws$Bales" cq_1 (by decide) (by decide) (by decide) rfl (tb_in 123 (by decide +kernel) rfl) (tb_in 124 (by decide +kernel) rfl) rfl rfl
theorem fo_Cv_63_66 : FOk "CamelStraws$Caravan" 63 66 5 (.array .int) true := FOk.mk0 cq_1 (by decide) (by decide) (by decide) rfl (tb_in 155 (by decide +kernel) rfl) rfl rfl
theorem fo_Cv_60_66 : FOk "CamelStraws$Caravan" 60 66 7 (.array .int) true := FOk.mk0 cq_1 (by decide) (by decide) (by decide) rfl (tb_in 161 (by decide +kernel) rfl) rfl rfl
theorem fo_Cv_30_54 : FOk "CamelStraws$Caravan" 30 54 2 (.object "CamelStraws$Straws") false := FOk.mk0 cq_3 (by decide) (by decide) (by decide) rfl (tb_in 260 (by decide +kernel) rfl) rfl rfl
theorem fo_Cv_74_60 : FOk "CamelStraws$Caravan" 74 60 2 .int false := FOk.mk0 cq_8 (by decide) (by decide) (by decide) rfl (tb_in 189 (by decide +kernel) rfl) rfl rfl
theorem fo_Cv_74_57 : FOk "CamelStraws$Caravan" 74 57 2 .int false := FOk.mk0 cq_8 (by decide) (by decide) (by decide) rfl (tb_in 189 (by decide +kernel) rfl) rfl rfl
theorem fo_Cv_74_s60_57 : ∀ a ∈ [60, 57], FOk "CamelStraws$Caravan" 74 a 2 .int false := fun a ha => me2 (P := fun a => FOk "CamelStraws$Caravan" 74 a 2 .int false) ha fo_Cv_74_60 fo_Cv_74_57
theorem fo_Cv_80_60 : FOk "CamelStraws$Caravan" 80 60 1 (.array .int) true := FOk.mk0 cq_8 (by decide) (by decide) (by decide) rfl (tb_in 187 (by decide +kernel) rfl) rfl rfl
theorem fo_Cv_80_57 : FOk "CamelStraws$Caravan" 80 57 1 (.array .int) true := FOk.mk0 cq_8 (by decide) (by decide) (by decide) rfl (tb_in 187 (by decide +kernel) rfl) rfl rfl
theorem fo_Cv_80_s60_57 : ∀ a ∈ [60, 57], FOk "CamelStraws$Caravan" 80 a 1 (.array .int) true := fun a ha => me2 (P := fun a => FOk "CamelStraws$Caravan" 80 a 1 (.array .int) true) ha fo_Cv_80_60 fo_Cv_80_57
theorem fo_Cv_79_60 : FOk "CamelStraws$Caravan" 79 60 0 (.array .int) true := FOk.mk0 cq_8 (by decide) (by decide) (by decide) rfl (tb_in 185 (by decide +kernel) rfl) rfl rfl
theorem fo_Cv_79_57 : FOk "CamelStraws$Caravan" 79 57 0 (.array .int) true := FOk.mk0 cq_8 (by decide) (by decide) (by decide) rfl (tb_in 185 (by decide +kernel) rfl) rfl rfl
theorem fo_Cv_79_s60_57 : ∀ a ∈ [60, 57], FOk "CamelStraws$Caravan" 79 a 0 (.array .int) true := fun a ha => me2 (P := fun a => FOk "CamelStraws$Caravan" 79 a 0 (.array .int) true) ha fo_Cv_79_60 fo_Cv_79_57
theorem fo_Wa_15_53 : FOk "CamelStraws$Walk" 15 53 1 .int false := FOk.mk0 cq_9 (by decide) (by decide) (by decide) rfl (tb_in 213 (by decide +kernel) rfl) rfl rfl
theorem wk_Wa_19 : Cond.methodLinkNest "CamelStraws$Walk" 19 y_CS_strengthOf "CamelStraws" ∈ tb_l := (tb_in 530 (by decide +kernel) rfl)
theorem fo_Wa_23_53 : FOk "CamelStraws$Walk" 23 53 2 .int false := FOk.mk0 cq_9 (by decide) (by decide) (by decide) rfl (tb_in 214 (by decide +kernel) rfl) rfl rfl
theorem fo_Wa_26_53 : FOk "CamelStraws$Walk" 26 53 4 .int false := FOk.mk0 cq_9 (by decide) (by decide) (by decide) rfl (tb_in 216 (by decide +kernel) rfl) rfl rfl
theorem fo_Wa_29_53 : FOk "CamelStraws$Walk" 29 53 3 .int false := FOk.mk0 cq_9 (by decide) (by decide) (by decide) rfl (tb_in 215 (by decide +kernel) rfl) rfl rfl
theorem fo_Wa_32_53 : FOk "CamelStraws$Walk" 32 53 10 .boolean false := FOk.mk0 cq_9 (by decide) (by decide) (by decide) rfl (tb_in 222 (by decide +kernel) rfl) rfl rfl
theorem fo_Wa_36_53 : FOk "CamelStraws$Walk" 36 53 6 .int false := FOk.mk0 cq_9 (by decide) (by decide) (by decide) rfl (tb_in 218 (by decide +kernel) rfl) rfl rfl
theorem fo_Wa_39_53 : FOk "CamelStraws$Walk" 39 53 7 .int false := FOk.mk0 cq_9 (by decide) (by decide) (by decide) rfl (tb_in 219 (by decide +kernel) rfl) rfl rfl
theorem fo_Wa_42_53 : FOk "CamelStraws$Walk" 42 53 8 .int false := FOk.mk0 cq_9 (by decide) (by decide) (by decide) rfl (tb_in 220 (by decide +kernel) rfl) rfl rfl
theorem fo_Wa_45_53 : FOk "CamelStraws$Walk" 45 53 11 .int false := FOk.mk0 cq_9 (by decide) (by decide) (by decide) rfl (tb_in 223 (by decide +kernel) rfl) rfl rfl
theorem fo_Wa_48_53 : FOk "CamelStraws$Walk" 48 53 12 .int false := FOk.mk0 cq_9 (by decide) (by decide) (by decide) rfl (tb_in 226 (by decide +kernel) rfl) rfl rfl
theorem fo_Wa_51_53 : FOk "CamelStraws$Walk" 51 53 5 .int false := FOk.mk0 cq_9 (by decide) (by decide) (by decide) rfl (tb_in 217 (by decide +kernel) rfl) rfl rfl
theorem fo_Wa_54_53 : FOk "CamelStraws$Walk" 54 53 9 .int false := FOk.mk0 cq_9 (by decide) (by decide) (by decide) rfl (tb_in 221 (by decide +kernel) rfl) rfl rfl
theorem fo_Wa_9_53 : FOk "CamelStraws$Walk" 9 53 0 (.array .int) true := FOk.mk0 cq_9 (by decide) (by decide) (by decide) rfl (tb_in 212 (by decide +kernel) rfl) rfl rfl
theorem wk_Cv_34 : Cond.methodLink "CamelStraws$Caravan" 34 y_Cv_busyDaysOf ∈ tb_l := (tb_in 522 (by decide +kernel) rfl)
theorem ok_Cv_busyDaysOf : MOk y_Cv_busyDaysOf b_Cv_busyDaysOf 4 (some .int) 1 := ⟨(tb_in 525 (by decide +kernel) rfl), (tb_in 74 (by decide +kernel) rfl), by decide +kernel, by decide +kernel, by decide +kernel⟩
theorem rc_54 : Rcv 54 "CamelStraws$Caravan" := ⟨by decide, by decide, _, rfl, rfl⟩
theorem wi_Cv_busyDaysOf : Cond.instanceMethod y_Cv_busyDaysOf ∈ tb_l := (tb_in 524 (by decide +kernel) rfl)
theorem wl_Cv_Cv_busyDaysOf : Cond.selects "CamelStraws$Caravan" y_Cv_busyDaysOf y_Cv_busyDaysOf ∈ tb_l := (tb_in 3 (by decide +kernel) rfl)
theorem fo_Cv_12_54 : FOk "CamelStraws$Caravan" 12 54 4 (.object "CamelStraws$Walk") true := FOk.mk0 cq_3 (by decide) (by decide) (by decide) rfl (tb_in 269 (by decide +kernel) rfl) rfl rfl
theorem fo_Cv_22_54 : FOk "CamelStraws$Caravan" 22 54 0 (.object "CamelStraws$Camels") true := FOk.mk0 cq_3 (by decide) (by decide) (by decide) rfl (tb_in 256 (by decide +kernel) rfl) rfl rfl
theorem fo_Cv_38_70 : FOk "CamelStraws$Caravan" 38 70 5 (.array .int) true := FOk.mk0 cq_2 (by decide) (by decide) (by decide) rfl (tb_in 103 (by decide +kernel) rfl) rfl rfl
theorem fo_Cv_43_70 : FOk "CamelStraws$Caravan" 43 70 6 (.array .int) true := FOk.mk0 cq_2 (by decide) (by decide) (by decide) rfl (tb_in 106 (by decide +kernel) rfl) rfl rfl
theorem wk_Cv_46 : Cond.methodLink "CamelStraws$Caravan" 46 y_Wa_start ∈ tb_l := (tb_in 526 (by decide +kernel) rfl)
theorem ok_Wa_start : MOk y_Wa_start b_Wa_start 3 none 2 := ⟨(tb_in 529 (by decide +kernel) rfl), (tb_in 75 (by decide +kernel) rfl), by decide +kernel, by decide +kernel, by decide +kernel⟩
theorem rc_53 : Rcv 53 "CamelStraws$Walk" := ⟨by decide, by decide, _, rfl, rfl⟩
theorem wi_Wa_start : Cond.instanceMethod y_Wa_start ∈ tb_l := (tb_in 527 (by decide +kernel) rfl)
theorem wl_Wa_Wa_start : Cond.selects "CamelStraws$Walk" y_Wa_start y_Wa_start ∈ tb_l := (tb_in 528 (by decide +kernel) rfl)
theorem wk_Cv_50 : Cond.methodLink "CamelStraws$Caravan" 50 y_Wa_rise ∈ tb_l := (tb_in 531 (by decide +kernel) rfl)
theorem ok_Wa_rise : MOk y_Wa_rise b_Wa_rise 2 none 1 := ⟨(tb_in 534 (by decide +kernel) rfl), (tb_in 75 (by decide +kernel) rfl), by decide +kernel, by decide +kernel, by decide +kernel⟩
theorem wi_Wa_rise : Cond.instanceMethod y_Wa_rise ∈ tb_l := (tb_in 532 (by decide +kernel) rfl)
theorem wl_Wa_Wa_rise : Cond.selects "CamelStraws$Walk" y_Wa_rise y_Wa_rise ∈ tb_l := (tb_in 533 (by decide +kernel) rfl)
theorem fo_Cv_65_66 : FOk "CamelStraws$Caravan" 65 66 6 (.array .int) true := FOk.mk0 cq_1 (by decide) (by decide) (by decide) rfl (tb_in 158 (by decide +kernel) rfl) rfl rfl
theorem wk_Cv_68 : Cond.methodLink "CamelStraws$Caravan" 68 y_Wa_take ∈ tb_l := (tb_in 535 (by decide +kernel) rfl)
theorem ok_Wa_take : MOk y_Wa_take b_Wa_take 2 none 1 := ⟨(tb_in 538 (by decide +kernel) rfl), (tb_in 75 (by decide +kernel) rfl), by decide +kernel, by decide +kernel, by decide +kernel⟩
theorem wi_Wa_take : Cond.instanceMethod y_Wa_take ∈ tb_l := (tb_in 536 (by decide +kernel) rfl)
theorem wl_Wa_Wa_take : Cond.selects "CamelStraws$Walk" y_Wa_take y_Wa_take ∈ tb_l := (tb_in 537 (by decide +kernel) rfl)
theorem wk_Cv_71 : Cond.methodLink "CamelStraws$Caravan" 71 y_Wa_breakIfOver ∈ tb_l := (tb_in 539 (by decide +kernel) rfl)
theorem ok_Wa_breakIfOver : MOk y_Wa_breakIfOver b_Wa_breakIfOver 2 none 1 := ⟨(tb_in 542 (by decide +kernel) rfl), (tb_in 75 (by decide +kernel) rfl), by decide +kernel, by decide +kernel, by decide +kernel⟩
theorem wi_Wa_breakIfOver : Cond.instanceMethod y_Wa_breakIfOver ∈ tb_l := (tb_in 540 (by decide +kernel) rfl)
theorem wl_Wa_Wa_breakIfOver : Cond.selects "CamelStraws$Walk" y_Wa_breakIfOver y_Wa_breakIfOver ∈ tb_l := (tb_in 541 (by decide +kernel) rfl)
theorem fo_Cv_81_54 : FOk "CamelStraws$Caravan" 81 54 3 .int false := FOk.mk0 cq_3 (by decide) (by decide) (by decide) rfl (tb_in 265 (by decide +kernel) rfl) rfl rfl
theorem wk_Cv_84 : Cond.methodLink "CamelStraws$Caravan" 84 y_Wa_payIfLast ∈ tb_l := (tb_in 543 (by decide +kernel) rfl)
theorem ok_Wa_payIfLast : MOk y_Wa_payIfLast b_Wa_payIfLast 1 none 0 := ⟨(tb_in 546 (by decide +kernel) rfl), (tb_in 75 (by decide +kernel) rfl), by decide +kernel, by decide +kernel, by decide +kernel⟩
theorem wi_Wa_payIfLast : Cond.instanceMethod y_Wa_payIfLast ∈ tb_l := (tb_in 544 (by decide +kernel) rfl)
theorem wl_Wa_Wa_payIfLast : Cond.selects "CamelStraws$Walk" y_Wa_payIfLast y_Wa_payIfLast ∈ tb_l := (tb_in 545 (by decide +kernel) rfl)
theorem wk_Cv_87 : Cond.methodLink "CamelStraws$Caravan" 87 y_Wa_measureRoom ∈ tb_l := (tb_in 547 (by decide +kernel) rfl)
theorem ok_Wa_measureRoom : MOk y_Wa_measureRoom b_Wa_measureRoom 1 none 0 := ⟨(tb_in 550 (by decide +kernel) rfl), (tb_in 75 (by decide +kernel) rfl), by decide +kernel, by decide +kernel, by decide +kernel⟩
theorem wi_Wa_measureRoom : Cond.instanceMethod y_Wa_measureRoom ∈ tb_l := (tb_in 548 (by decide +kernel) rfl)
theorem wl_Wa_Wa_measureRoom : Cond.selects "CamelStraws$Walk" y_Wa_measureRoom y_Wa_measureRoom ∈ tb_l := (tb_in 549 (by decide +kernel) rfl)
theorem wk_Cv_90 : Cond.methodLink "CamelStraws$Caravan" 90 y_Wa_wear ∈ tb_l := (tb_in 551 (by decide +kernel) rfl)
theorem ok_Wa_wear : MOk y_Wa_wear b_Wa_wear 3 none 1 := ⟨(tb_in 554 (by decide +kernel) rfl), (tb_in 75 (by decide +kernel) rfl), by decide +kernel, by decide +kernel, by decide +kernel⟩
theorem wi_Wa_wear : Cond.instanceMethod y_Wa_wear ∈ tb_l := (tb_in 552 (by decide +kernel) rfl)
theorem wl_Wa_Wa_wear : Cond.selects "CamelStraws$Walk" y_Wa_wear y_Wa_wear ∈ tb_l := (tb_in 553 (by decide +kernel) rfl)
theorem wk_Cv_93 : Cond.methodLink "CamelStraws$Caravan" 93 y_Wa_unloadAtWell ∈ tb_l := (tb_in 555 (by decide +kernel) rfl)
theorem ok_Wa_unloadAtWell : MOk y_Wa_unloadAtWell b_Wa_unloadAtWell 2 none 1 := ⟨(tb_in 558 (by decide +kernel) rfl), (tb_in 75 (by decide +kernel) rfl), by decide +kernel, by decide +kernel, by decide +kernel⟩
theorem wi_Wa_unloadAtWell : Cond.instanceMethod y_Wa_unloadAtWell ∈ tb_l := (tb_in 556 (by decide +kernel) rfl)
theorem wl_Wa_Wa_unloadAtWell : Cond.selects "CamelStraws$Walk" y_Wa_unloadAtWell y_Wa_unloadAtWell ∈ tb_l := (tb_in 557 (by decide +kernel) rfl)
theorem wk_Cv_96 : Cond.methodLink "CamelStraws$Caravan" 96 y_Wa_keep ∈ tb_l := (tb_in 559 (by decide +kernel) rfl)
theorem ok_Wa_keep : MOk y_Wa_keep b_Wa_keep 3 none 1 := ⟨(tb_in 562 (by decide +kernel) rfl), (tb_in 75 (by decide +kernel) rfl), by decide +kernel, by decide +kernel, by decide +kernel⟩
theorem wi_Wa_keep : Cond.instanceMethod y_Wa_keep ∈ tb_l := (tb_in 560 (by decide +kernel) rfl)
theorem wl_Wa_Wa_keep : Cond.selects "CamelStraws$Walk" y_Wa_keep y_Wa_keep ∈ tb_l := (tb_in 561 (by decide +kernel) rfl)
theorem fo_CS_44_71 : FOk "CamelStraws" 44 71 5 (.object "CamelStraws$Caravan") true := FOk.mk0 cq_0 (by decide) (by decide) (by decide) rfl (tb_in 371 (by decide +kernel) rfl) rfl rfl
theorem wk_CS_151 : Cond.methodLink "CamelStraws" 151 y_Cv_march ∈ tb_l := (tb_in 518 (by decide +kernel) rfl)
theorem ok_Cv_march : MOk y_Cv_march b_Cv_march 6 (some (.object "CamelStraws$Walk")) 1 := ⟨(tb_in 521 (by decide +kernel) rfl), (tb_in 74 (by decide +kernel) rfl), by decide +kernel, by decide +kernel, by decide +kernel⟩
theorem wi_Cv_march : Cond.instanceMethod y_Cv_march ∈ tb_l := (tb_in 519 (by decide +kernel) rfl)
theorem wl_Cv_Cv_march : Cond.selects "CamelStraws$Caravan" y_Cv_march y_Cv_march ∈ tb_l := (tb_in 520 (by decide +kernel) rfl)
theorem wk_CS_155 : Cond.methodLink "CamelStraws" 155 y_Wa_behind ∈ tb_l := (tb_in 563 (by decide +kernel) rfl)
theorem ok_Wa_behind : MOk y_Wa_behind b_Wa_behind 3 (some .int) 2 := ⟨(tb_in 566 (by decide +kernel) rfl), (tb_in 75 (by decide +kernel) rfl), by decide +kernel, by decide +kernel, by decide +kernel⟩
theorem wi_Wa_behind : Cond.instanceMethod y_Wa_behind ∈ tb_l := (tb_in 564 (by decide +kernel) rfl)
theorem wl_Wa_Wa_behind : Cond.selects "CamelStraws$Walk" y_Wa_behind y_Wa_behind ∈ tb_l := (tb_in 565 (by decide +kernel) rfl)
theorem fo_Cv_99_70 : FOk "CamelStraws$Caravan" 99 70 4 .int false := FOk.mk1 "CamelStraws$Camels" cq_2 (by decide) (by decide) (by decide) rfl (tb_in 127 (by decide +kernel) rfl) (tb_in 126 (by decide +kernel) rfl) rfl rfl
theorem wk_Cv_100 : Cond.methodLink "CamelStraws$Caravan" 100 y_Cv_march ∈ tb_l := (tb_in 575 (by decide +kernel) rfl)
theorem wk_Cv_104 : Cond.methodLink "CamelStraws$Caravan" 104 y_Wa_behind ∈ tb_l := (tb_in 576 (by decide +kernel) rfl)
theorem wk_CS_160 : Cond.methodLink "CamelStraws" 160 y_Cv_inAll ∈ tb_l := (tb_in 571 (by decide +kernel) rfl)
theorem ok_Cv_inAll : MOk y_Cv_inAll b_Cv_inAll 4 (some .int) 1 := ⟨(tb_in 574 (by decide +kernel) rfl), (tb_in 74 (by decide +kernel) rfl), by decide +kernel, by decide +kernel, by decide +kernel⟩
theorem wi_Cv_inAll : Cond.instanceMethod y_Cv_inAll ∈ tb_l := (tb_in 572 (by decide +kernel) rfl)
theorem wl_Cv_Cv_inAll : Cond.selects "CamelStraws$Caravan" y_Cv_inAll y_Cv_inAll ∈ tb_l := (tb_in 573 (by decide +kernel) rfl)
theorem fo_Cv_108_53 : FOk "CamelStraws$Caravan" 108 53 12 .int false := FOk.mk0 cq_9 (by decide) (by decide) (by decide) rfl (tb_in 227 (by decide +kernel) rfl) rfl rfl
theorem wk_CS_163 : Cond.methodLink "CamelStraws" 163 y_Cv_firstToBreak ∈ tb_l := (tb_in 585 (by decide +kernel) rfl)
theorem ok_Cv_firstToBreak : MOk y_Cv_firstToBreak b_Cv_firstToBreak 5 (some .int) 0 := ⟨(tb_in 588 (by decide +kernel) rfl), (tb_in 74 (by decide +kernel) rfl), by decide +kernel, by decide +kernel, by decide +kernel⟩
theorem wi_Cv_firstToBreak : Cond.instanceMethod y_Cv_firstToBreak ∈ tb_l := (tb_in 586 (by decide +kernel) rfl)
theorem wl_Cv_Cv_firstToBreak : Cond.selects "CamelStraws$Caravan" y_Cv_firstToBreak y_Cv_firstToBreak ∈ tb_l := (tb_in 587 (by decide +kernel) rfl)
theorem fo_CS_167_53 : FOk "CamelStraws" 167 53 12 .int false := FOk.mk0 cq_9 (by decide) (by decide) (by decide) rfl (tb_in 228 (by decide +kernel) rfl) rfl rfl
theorem wk_Cv_111 : Cond.methodLink "CamelStraws$Caravan" 111 y_Cv_broughtBy ∈ tb_l := (tb_in 597 (by decide +kernel) rfl)
theorem ok_Cv_broughtBy : MOk y_Cv_broughtBy b_Cv_broughtBy 2 (some .int) 1 := ⟨(tb_in 600 (by decide +kernel) rfl), (tb_in 74 (by decide +kernel) rfl), by decide +kernel, by decide +kernel, by decide +kernel⟩
theorem wi_Cv_broughtBy : Cond.instanceMethod y_Cv_broughtBy ∈ tb_l := (tb_in 598 (by decide +kernel) rfl)
theorem wl_Cv_Cv_broughtBy : Cond.selects "CamelStraws$Caravan" y_Cv_broughtBy y_Cv_broughtBy ∈ tb_l := (tb_in 599 (by decide +kernel) rfl)
theorem wk_CS_170 : Cond.methodLink "CamelStraws" 170 y_Cv_bestCamel ∈ tb_l := (tb_in 593 (by decide +kernel) rfl)
theorem ok_Cv_bestCamel : MOk y_Cv_bestCamel b_Cv_bestCamel 5 (some .int) 0 := ⟨(tb_in 596 (by decide +kernel) rfl), (tb_in 74 (by decide +kernel) rfl), by decide +kernel, by decide +kernel, by decide +kernel⟩
theorem wi_Cv_bestCamel : Cond.instanceMethod y_Cv_bestCamel ∈ tb_l := (tb_in 594 (by decide +kernel) rfl)
theorem wl_Cv_Cv_bestCamel : Cond.selects "CamelStraws$Caravan" y_Cv_bestCamel y_Cv_bestCamel ∈ tb_l := (tb_in 595 (by decide +kernel) rfl)
theorem fo_Cv_114_53 : FOk "CamelStraws$Caravan" 114 53 11 .int false := FOk.mk0 cq_9 (by decide) (by decide) (by decide) rfl (tb_in 225 (by decide +kernel) rfl) rfl rfl
theorem wk_CS_173 : Cond.methodLink "CamelStraws" 173 y_Cv_wholeCamels ∈ tb_l := (tb_in 605 (by decide +kernel) rfl)
theorem ok_Cv_wholeCamels : MOk y_Cv_wholeCamels b_Cv_wholeCamels 3 (some .int) 0 := ⟨(tb_in 608 (by decide +kernel) rfl), (tb_in 74 (by decide +kernel) rfl), by decide +kernel, by decide +kernel, by decide +kernel⟩
theorem wi_Cv_wholeCamels : Cond.instanceMethod y_Cv_wholeCamels ∈ tb_l := (tb_in 606 (by decide +kernel) rfl)
theorem wl_Cv_Cv_wholeCamels : Cond.selects "CamelStraws$Caravan" y_Cv_wholeCamels y_Cv_wholeCamels ∈ tb_l := (tb_in 607 (by decide +kernel) rfl)
theorem al_s51_41_39_37_35 : ∀ a ∈ [51, 41, 39, 37, 35], a < nc_c := by decide
theorem ak_s51_41_39_37_35 : ∀ a ∈ [51, 41, 39, 37, 35], kd a = 20 := by decide
theorem fo_Cv_18_54 : FOk "CamelStraws$Caravan" 18 54 5 (.array .int) true := FOk.mk0 cq_3 (by decide) (by decide) (by decide) rfl (tb_in 270 (by decide +kernel) rfl) rfl rfl
theorem wk_Cv_117 : Cond.methodLink "CamelStraws$Caravan" 117 y_Ar_fill ∈ tb_l := (tb_in 617 (by decide +kernel) rfl)
theorem ok_Ar_fill : MOk y_Ar_fill b_Ar_fill 4 none 2 := ⟨(tb_in 619 (by decide +kernel) rfl), (tb_in 81 (by decide +kernel) rfl), by decide +kernel, by decide +kernel, by decide +kernel⟩
theorem ws_Ar_fill : Cond.static y_Ar_fill ∈ tb_l := (tb_in 618 (by decide +kernel) rfl)
theorem wk_CS_176 : Cond.methodLink "CamelStraws" 176 y_Cv_tiredDay ∈ tb_l := (tb_in 613 (by decide +kernel) rfl)
theorem ok_Cv_tiredDay : MOk y_Cv_tiredDay b_Cv_tiredDay 3 (some .int) 0 := ⟨(tb_in 616 (by decide +kernel) rfl), (tb_in 74 (by decide +kernel) rfl), by decide +kernel, by decide +kernel, by decide +kernel⟩
theorem wi_Cv_tiredDay : Cond.instanceMethod y_Cv_tiredDay ∈ tb_l := (tb_in 614 (by decide +kernel) rfl)
theorem wl_Cv_Cv_tiredDay : Cond.selects "CamelStraws$Caravan" y_Cv_tiredDay y_Cv_tiredDay ∈ tb_l := (tb_in 615 (by decide +kernel) rfl)
theorem fo_Pl_44_50 : FOk "CamelStraws$Plans" 44 50 1 .int false := FOk.mk0 cq_6 (by decide) (by decide) (by decide) rfl (tb_in 291 (by decide +kernel) rfl) rfl rfl
theorem fo_Pl_48_50 : FOk "CamelStraws$Plans" 48 50 2 .int false := FOk.mk0 cq_6 (by decide) (by decide) (by decide) rfl (tb_in 293 (by decide +kernel) rfl) rfl rfl
theorem fo_Pl_9_50 : FOk "CamelStraws$Plans" 9 50 0 (.object "CamelStraws$Caravan") true := FOk.mk0 cq_6 (by decide) (by decide) (by decide) rfl (tb_in 290 (by decide +kernel) rfl) rfl rfl
theorem fo_Pl_15_54 : FOk "CamelStraws$Plans" 15 54 1 (.object "CamelStraws$Bales") true := FOk.mk0 cq_3 (by decide) (by decide) (by decide) rfl (tb_in 259 (by decide +kernel) rfl) rfl rfl
theorem fo_Pl_21_66 : FOk "CamelStraws$Plans" 21 66 5 (.array .int) true := FOk.mk0 cq_1 (by decide) (by decide) (by decide) rfl (tb_in 154 (by decide +kernel) rfl) rfl rfl
theorem wk_Pl_27 : Cond.methodLink "CamelStraws$Plans" 27 y_Cv_inAll ∈ tb_l := (tb_in 632 (by decide +kernel) rfl)
theorem wk_Pl_31 : Cond.methodLink "CamelStraws$Plans" 31 y_Pl_beginChoice ∈ tb_l := (tb_in 633 (by decide +kernel) rfl)
theorem ok_Pl_beginChoice : MOk y_Pl_beginChoice b_Pl_beginChoice 1 none 0 := ⟨(tb_in 636 (by decide +kernel) rfl), (tb_in 76 (by decide +kernel) rfl), by decide +kernel, by decide +kernel, by decide +kernel⟩
theorem rc_50 : Rcv 50 "CamelStraws$Plans" := ⟨by decide, by decide, _, rfl, rfl⟩
theorem wi_Pl_beginChoice : Cond.instanceMethod y_Pl_beginChoice ∈ tb_l := (tb_in 635 (by decide +kernel) rfl)
theorem wl_Pl_Pl_beginChoice : Cond.selects "CamelStraws$Plans" y_Pl_beginChoice y_Pl_beginChoice ∈ tb_l := (tb_in 4 (by decide +kernel) rfl)
theorem wk_Pl_34 : Cond.methodLink "CamelStraws$Plans" 34 y_Cv_broughtBy ∈ tb_l := (tb_in 637 (by decide +kernel) rfl)
theorem wk_Pl_37 : Cond.methodLink "CamelStraws$Plans" 37 y_Pl_choose ∈ tb_l := (tb_in 638 (by decide +kernel) rfl)
theorem ok_Pl_choose : MOk y_Pl_choose b_Pl_choose 3 none 2 := ⟨(tb_in 641 (by decide +kernel) rfl), (tb_in 76 (by decide +kernel) rfl), by decide +kernel, by decide +kernel, by decide +kernel⟩
theorem wi_Pl_choose : Cond.instanceMethod y_Pl_choose ∈ tb_l := (tb_in 640 (by decide +kernel) rfl)
theorem wl_Pl_Pl_choose : Cond.selects "CamelStraws$Plans" y_Pl_choose y_Pl_choose ∈ tb_l := (tb_in 5 (by decide +kernel) rfl)
theorem fo_CS_53_71 : FOk "CamelStraws" 53 71 6 (.object "CamelStraws$Plans") true := FOk.mk0 cq_0 (by decide) (by decide) (by decide) rfl (tb_in 372 (by decide +kernel) rfl) rfl rfl
theorem wk_CS_179 : Cond.methodLink "CamelStraws" 179 y_Pl_tryCamels ∈ tb_l := (tb_in 628 (by decide +kernel) rfl)
theorem ok_Pl_tryCamels : MOk y_Pl_tryCamels b_Pl_tryCamels 7 none 1 := ⟨(tb_in 631 (by decide +kernel) rfl), (tb_in 76 (by decide +kernel) rfl), by decide +kernel, by decide +kernel, by decide +kernel⟩
theorem wi_Pl_tryCamels : Cond.instanceMethod y_Pl_tryCamels ∈ tb_l := (tb_in 629 (by decide +kernel) rfl)
theorem wl_Pl_Pl_tryCamels : Cond.selects "CamelStraws$Plans" y_Pl_tryCamels y_Pl_tryCamels ∈ tb_l := (tb_in 630 (by decide +kernel) rfl)
theorem fo_CS_185_50 : FOk "CamelStraws" 185 50 2 .int false := FOk.mk0 cq_6 (by decide) (by decide) (by decide) rfl (tb_in 294 (by decide +kernel) rfl) rfl rfl
theorem fo_CS_182_50 : FOk "CamelStraws" 182 50 1 .int false := FOk.mk0 cq_6 (by decide) (by decide) (by decide) rfl (tb_in 292 (by decide +kernel) rfl) rfl rfl
theorem fo_Pl_41_66 : FOk "CamelStraws$Plans" 41 66 7 (.array .int) true := FOk.mk0 cq_1 (by decide) (by decide) (by decide) rfl (tb_in 162 (by decide +kernel) rfl) rfl rfl
theorem wk_CS_188 : Cond.methodLink "CamelStraws" 188 y_Pl_tryDays ∈ tb_l := (tb_in 646 (by decide +kernel) rfl)
theorem ok_Pl_tryDays : MOk y_Pl_tryDays b_Pl_tryDays 7 none 1 := ⟨(tb_in 649 (by decide +kernel) rfl), (tb_in 76 (by decide +kernel) rfl), by decide +kernel, by decide +kernel, by decide +kernel⟩
theorem wi_Pl_tryDays : Cond.instanceMethod y_Pl_tryDays ∈ tb_l := (tb_in 647 (by decide +kernel) rfl)
theorem wl_Pl_Pl_tryDays : Cond.selects "CamelStraws$Plans" y_Pl_tryDays y_Pl_tryDays ∈ tb_l := (tb_in 648 (by decide +kernel) rfl)
theorem fo_Pl_64_54 : FOk "CamelStraws$Plans" 64 54 3 .int false := FOk.mk0 cq_3 (by decide) (by decide) (by decide) rfl (tb_in 268 (by decide +kernel) rfl) rfl rfl
theorem wk_Pl_67 : Cond.methodLink "CamelStraws$Plans" 67 y_Cv_firstToBreak ∈ tb_l := (tb_in 662 (by decide +kernel) rfl)
theorem wk_Pl_51 : Cond.methodLink "CamelStraws$Plans" 51 y_Pl_allStandWithout ∈ tb_l := (tb_in 658 (by decide +kernel) rfl)
theorem ok_Pl_allStandWithout : MOk y_Pl_allStandWithout b_Pl_allStandWithout 3 (some .boolean) 1 := ⟨(tb_in 661 (by decide +kernel) rfl), (tb_in 76 (by decide +kernel) rfl), by decide +kernel, by decide +kernel, by decide +kernel⟩
theorem wi_Pl_allStandWithout : Cond.instanceMethod y_Pl_allStandWithout ∈ tb_l := (tb_in 660 (by decide +kernel) rfl)
theorem wl_Pl_Pl_allStandWithout : Cond.selects "CamelStraws$Plans" y_Pl_allStandWithout y_Pl_allStandWithout ∈ tb_l := (tb_in 6 (by decide +kernel) rfl)
theorem fo_Pl_55_54 : FOk "CamelStraws$Plans" 55 54 2 (.object "CamelStraws$Straws") false := FOk.mk0 cq_3 (by decide) (by decide) (by decide) rfl (tb_in 263 (by decide +kernel) rfl) rfl rfl
theorem fo_Pl_59_60 : FOk "CamelStraws$Plans" 59 60 2 .int false := FOk.mk0 cq_8 (by decide) (by decide) (by decide) rfl (tb_in 191 (by decide +kernel) rfl) rfl rfl
theorem fo_Pl_59_57 : FOk "CamelStraws$Plans" 59 57 2 .int false := FOk.mk0 cq_8 (by decide) (by decide) (by decide) rfl (tb_in 191 (by decide +kernel) rfl) rfl rfl
theorem fo_Pl_59_s60_57 : ∀ a ∈ [60, 57], FOk "CamelStraws$Plans" 59 a 2 .int false := fun a ha => me2 (P := fun a => FOk "CamelStraws$Plans" 59 a 2 .int false) ha fo_Pl_59_60 fo_Pl_59_57
theorem kc_In_265 : Cond.constant "java/lang/Integer" 265 1431655765 ∈ tb_l := (tb_in 666 (by decide +kernel) rfl)
theorem kc_In_266 : Cond.constant "java/lang/Integer" 266 858993459 ∈ tb_l := (tb_in 667 (by decide +kernel) rfl)
theorem kc_In_267 : Cond.constant "java/lang/Integer" 267 252645135 ∈ tb_l := (tb_in 668 (by decide +kernel) rfl)
theorem kc_In_264 : Cond.constant "java/lang/Integer" 264 65536 ∈ tb_l := (tb_in 672 (by decide +kernel) rfl)
theorem wk_CS_191 : Cond.methodLink "CamelStraws" 191 y_Pl_sparedStraws ∈ tb_l := (tb_in 654 (by decide +kernel) rfl)
theorem ok_Pl_sparedStraws : MOk y_Pl_sparedStraws b_Pl_sparedStraws 4 (some .int) 0 := ⟨(tb_in 657 (by decide +kernel) rfl), (tb_in 76 (by decide +kernel) rfl), by decide +kernel, by decide +kernel, by decide +kernel⟩
theorem wi_Pl_sparedStraws : Cond.instanceMethod y_Pl_sparedStraws ∈ tb_l := (tb_in 655 (by decide +kernel) rfl)
theorem wl_Pl_Pl_sparedStraws : Cond.selects "CamelStraws$Plans" y_Pl_sparedStraws y_Pl_sparedStraws ∈ tb_l := (tb_in 656 (by decide +kernel) rfl)
theorem wk_CS_199 : Cond.methodLink "CamelStraws" 199 y_In_numberOfTrailingZeros ∈ tb_l := (tb_in 669 (by decide +kernel) rfl)
theorem ok_In_numberOfTrailingZeros : MOk y_In_numberOfTrailingZeros b_In_numberOfTrailingZeros 2 (some .int) 1 := ⟨(tb_in 671 (by decide +kernel) rfl), (tb_in 82 (by decide +kernel) rfl), by decide +kernel, by decide +kernel, by decide +kernel⟩
theorem ws_In_numberOfTrailingZeros : Cond.static y_In_numberOfTrailingZeros ∈ tb_l := (tb_in 670 (by decide +kernel) rfl)
theorem wk_CS_194 : Cond.methodLink "CamelStraws" 194 y_In_bitCount ∈ tb_l := (tb_in 663 (by decide +kernel) rfl)
theorem ok_In_bitCount : MOk y_In_bitCount b_In_bitCount 1 (some .int) 1 := ⟨(tb_in 665 (by decide +kernel) rfl), (tb_in 82 (by decide +kernel) rfl), by decide +kernel, by decide +kernel, by decide +kernel⟩
theorem ws_In_bitCount : Cond.static y_In_bitCount ∈ tb_l := (tb_in 664 (by decide +kernel) rfl)
theorem fo_Gu_28_49 : FOk "CamelStraws$Guesses" 28 49 4 .int false := FOk.mk0 cq_4 (by decide) (by decide) (by decide) rfl (tb_in 312 (by decide +kernel) rfl) rfl rfl
theorem fo_Gu_9_49 : FOk "CamelStraws$Guesses" 9 49 1 (.array .int) true := FOk.mk0 cq_4 (by decide) (by decide) (by decide) rfl (tb_in 309 (by decide +kernel) rfl) rfl rfl
theorem fo_Gu_15_49 : FOk "CamelStraws$Guesses" 15 49 2 (.array .int) true := FOk.mk0 cq_4 (by decide) (by decide) (by decide) rfl (tb_in 310 (by decide +kernel) rfl) rfl rfl
theorem fo_Gu_18_49 : FOk "CamelStraws$Guesses" 18 49 3 (.array .int) true := FOk.mk0 cq_4 (by decide) (by decide) (by decide) rfl (tb_in 311 (by decide +kernel) rfl) rfl rfl
theorem fo_CS_60_71 : FOk "CamelStraws" 60 71 7 (.object "CamelStraws$Guesses") true := FOk.mk0 cq_0 (by decide) (by decide) (by decide) rfl (tb_in 373 (by decide +kernel) rfl) rfl rfl
theorem wk_CS_202 : Cond.methodLink "CamelStraws" 202 y_Gu_append ∈ tb_l := (tb_in 677 (by decide +kernel) rfl)
theorem ok_Gu_append : MOk y_Gu_append b_Gu_append 4 (some .boolean) 3 := ⟨(tb_in 680 (by decide +kernel) rfl), (tb_in 77 (by decide +kernel) rfl), by decide +kernel, by decide +kernel, by decide +kernel⟩
theorem rc_49 : Rcv 49 "CamelStraws$Guesses" := ⟨by decide, by decide, _, rfl, rfl⟩
theorem wi_Gu_append : Cond.instanceMethod y_Gu_append ∈ tb_l := (tb_in 678 (by decide +kernel) rfl)
theorem wl_Gu_Gu_append : Cond.selects "CamelStraws$Guesses" y_Gu_append y_Gu_append ∈ tb_l := (tb_in 679 (by decide +kernel) rfl)
theorem fo_CS_205_49 : FOk "CamelStraws" 205 49 4 .int false := FOk.mk0 cq_4 (by decide) (by decide) (by decide) rfl (tb_in 313 (by decide +kernel) rfl) rfl rfl
theorem fo_Gu_24_49 : FOk "CamelStraws$Guesses" 24 49 0 (.object "CamelStraws$Caravan") true := FOk.mk0 cq_4 (by decide) (by decide) (by decide) rfl (tb_in 308 (by decide +kernel) rfl) rfl rfl
theorem fo_Gu_32_54 : FOk "CamelStraws$Guesses" 32 54 0 (.object "CamelStraws$Camels") true := FOk.mk0 cq_3 (by decide) (by decide) (by decide) rfl (tb_in 257 (by decide +kernel) rfl) rfl rfl
theorem fo_Gu_38_70 : FOk "CamelStraws$Guesses" 38 70 4 .int false := FOk.mk1 "CamelStraws$Camels" cq_2 (by decide) (by decide) (by decide) rfl (tb_in 125 (by decide +kernel) rfl) (tb_in 126 (by decide +kernel) rfl) rfl rfl
theorem wk_Gu_43 : Cond.methodLink "CamelStraws$Guesses" 43 y_Cv_march ∈ tb_l := (tb_in 697 (by decide +kernel) rfl)
theorem wk_Gu_47 : Cond.methodLink "CamelStraws$Guesses" 47 y_Wa_behind ∈ tb_l := (tb_in 698 (by decide +kernel) rfl)
theorem fo_Gu_53_54 : FOk "CamelStraws$Guesses" 53 54 2 (.object "CamelStraws$Straws") false := FOk.mk0 cq_3 (by decide) (by decide) (by decide) rfl (tb_in 262 (by decide +kernel) rfl) rfl rfl
theorem fo_Gu_57_60 : FOk "CamelStraws$Guesses" 57 60 2 .int false := FOk.mk0 cq_8 (by decide) (by decide) (by decide) rfl (tb_in 190 (by decide +kernel) rfl) rfl rfl
theorem fo_Gu_57_57 : FOk "CamelStraws$Guesses" 57 57 2 .int false := FOk.mk0 cq_8 (by decide) (by decide) (by decide) rfl (tb_in 190 (by decide +kernel) rfl) rfl rfl
theorem fo_Gu_57_s60_57 : ∀ a ∈ [60, 57], FOk "CamelStraws$Guesses" 57 a 2 .int false := fun a ha => me2 (P := fun a => FOk "CamelStraws$Guesses" 57 a 2 .int false) ha fo_Gu_57_60 fo_Gu_57_57
theorem fo_Gu_60_54 : FOk "CamelStraws$Guesses" 60 54 3 .int false := FOk.mk0 cq_3 (by decide) (by decide) (by decide) rfl (tb_in 267 (by decide +kernel) rfl) rfl rfl
theorem wk_Gu_63 : Cond.methodLink "CamelStraws$Guesses" 63 y_Gu_allComesOut ∈ tb_l := (tb_in 693 (by decide +kernel) rfl)
theorem ok_Gu_allComesOut : MOk y_Gu_allComesOut b_Gu_allComesOut 2 (some .boolean) 0 := ⟨(tb_in 696 (by decide +kernel) rfl), (tb_in 77 (by decide +kernel) rfl), by decide +kernel, by decide +kernel, by decide +kernel⟩
theorem wi_Gu_allComesOut : Cond.instanceMethod y_Gu_allComesOut ∈ tb_l := (tb_in 695 (by decide +kernel) rfl)
theorem wl_Gu_Gu_allComesOut : Cond.selects "CamelStraws$Guesses" y_Gu_allComesOut y_Gu_allComesOut ∈ tb_l := (tb_in 7 (by decide +kernel) rfl)
theorem wk_CS_206 : Cond.methodLink "CamelStraws" 206 y_Gu_strawsThatNeverWere ∈ tb_l := (tb_in 689 (by decide +kernel) rfl)
theorem ok_Gu_strawsThatNeverWere : MOk y_Gu_strawsThatNeverWere b_Gu_strawsThatNeverWere 3 (some .int) 0 := ⟨(tb_in 692 (by decide +kernel) rfl), (tb_in 77 (by decide +kernel) rfl), by decide +kernel, by decide +kernel, by decide +kernel⟩
theorem wi_Gu_strawsThatNeverWere : Cond.instanceMethod y_Gu_strawsThatNeverWere ∈ tb_l := (tb_in 690 (by decide +kernel) rfl)
theorem wl_Gu_Gu_strawsThatNeverWere : Cond.selects "CamelStraws$Guesses" y_Gu_strawsThatNeverWere y_Gu_strawsThatNeverWere ∈ tb_l := (tb_in 691 (by decide +kernel) rfl)
theorem al_s68_67 : ∀ a ∈ [68, 67], a < nc_c := by decide
theorem ak_s68_67 : ∀ a ∈ [68, 67], kd a = 20 := by decide
theorem an_s68_67 : ∀ a ∈ [68, 67], ln a = 8 := by decide
theorem wk_CS_209 : Cond.methodLink "CamelStraws" 209 y_Gu_valuesThatFit ∈ tb_l := (tb_in 703 (by decide +kernel) rfl)
theorem ok_Gu_valuesThatFit : MOk y_Gu_valuesThatFit b_Gu_valuesThatFit 8 (some .int) 4 := ⟨(tb_in 706 (by decide +kernel) rfl), (tb_in 77 (by decide +kernel) rfl), by decide +kernel, by decide +kernel, by decide +kernel⟩
theorem wi_Gu_valuesThatFit : Cond.instanceMethod y_Gu_valuesThatFit ∈ tb_l := (tb_in 704 (by decide +kernel) rfl)
theorem wl_Gu_Gu_valuesThatFit : Cond.selects "CamelStraws$Guesses" y_Gu_valuesThatFit y_Gu_valuesThatFit ∈ tb_l := (tb_in 705 (by decide +kernel) rfl)
theorem fo_Gu_74_70 : FOk "CamelStraws$Guesses" 74 70 6 (.array .int) true := FOk.mk0 cq_2 (by decide) (by decide) (by decide) rfl (tb_in 108 (by decide +kernel) rfl) rfl rfl
theorem fo_Gu_21_49 : FOk "CamelStraws$Guesses" 21 49 5 (.array .int) true := FOk.mk0 cq_4 (by decide) (by decide) (by decide) rfl (tb_in 314 (by decide +kernel) rfl) rfl rfl
theorem wk_Gu_77 : Cond.methodLink "CamelStraws$Guesses" 77 y_Ma_max ∈ tb_l := (tb_in 723 (by decide +kernel) rfl)
theorem ok_Ma_max : MOk y_Ma_max b_Ma_max 2 (some .int) 2 := ⟨(tb_in 725 (by decide +kernel) rfl), (tb_in 83 (by decide +kernel) rfl), by decide +kernel, by decide +kernel, by decide +kernel⟩
theorem ws_Ma_max : Cond.static y_Ma_max ∈ tb_l := (tb_in 724 (by decide +kernel) rfl)
theorem wk_Gu_67 : Cond.methodLink "CamelStraws$Guesses" 67 y_Gu_noteLoads ∈ tb_l := (tb_in 715 (by decide +kernel) rfl)
theorem ok_Gu_noteLoads : MOk y_Gu_noteLoads b_Gu_noteLoads 8 none 2 := ⟨(tb_in 718 (by decide +kernel) rfl), (tb_in 77 (by decide +kernel) rfl), by decide +kernel, by decide +kernel, by decide +kernel⟩
theorem wi_Gu_noteLoads : Cond.instanceMethod y_Gu_noteLoads ∈ tb_l := (tb_in 717 (by decide +kernel) rfl)
theorem wl_Gu_Gu_noteLoads : Cond.selects "CamelStraws$Guesses" y_Gu_noteLoads y_Gu_noteLoads ∈ tb_l := (tb_in 8 (by decide +kernel) rfl)
theorem wk_Gu_71 : Cond.methodLink "CamelStraws$Guesses" 71 y_Gu_mostAlike ∈ tb_l := (tb_in 719 (by decide +kernel) rfl)
theorem ok_Gu_mostAlike : MOk y_Gu_mostAlike b_Gu_mostAlike 8 (some .int) 2 := ⟨(tb_in 722 (by decide +kernel) rfl), (tb_in 77 (by decide +kernel) rfl), by decide +kernel, by decide +kernel, by decide +kernel⟩
theorem wi_Gu_mostAlike : Cond.instanceMethod y_Gu_mostAlike ∈ tb_l := (tb_in 721 (by decide +kernel) rfl)
theorem wl_Gu_Gu_mostAlike : Cond.selects "CamelStraws$Guesses" y_Gu_mostAlike y_Gu_mostAlike ∈ tb_l := (tb_in 9 (by decide +kernel) rfl)
theorem wk_CS_213 : Cond.methodLink "CamelStraws" 213 y_Gu_dayToLook ∈ tb_l := (tb_in 711 (by decide +kernel) rfl)
theorem ok_Gu_dayToLook : MOk y_Gu_dayToLook b_Gu_dayToLook 5 (some .int) 2 := ⟨(tb_in 714 (by decide +kernel) rfl), (tb_in 77 (by decide +kernel) rfl), by decide +kernel, by decide +kernel, by decide +kernel⟩
theorem wi_Gu_dayToLook : Cond.instanceMethod y_Gu_dayToLook ∈ tb_l := (tb_in 712 (by decide +kernel) rfl)
theorem wl_Gu_Gu_dayToLook : Cond.selects "CamelStraws$Guesses" y_Gu_dayToLook y_Gu_dayToLook ∈ tb_l := (tb_in 713 (by decide +kernel) rfl)
theorem fo_Od_9_44 : FOk "CamelStraws$Odds" 9 44 0 (.object "CamelStraws$Caravan") true := FOk.mk0 cq_5 (by decide) (by decide) (by decide) rfl (tb_in 334 (by decide +kernel) rfl) rfl rfl
theorem fo_Od_50_54 : FOk "CamelStraws$Odds" 50 54 3 .int false := FOk.mk0 cq_3 (by decide) (by decide) (by decide) rfl (tb_in 266 (by decide +kernel) rfl) rfl rfl
theorem wk_Od_54 : Cond.methodLink "CamelStraws$Odds" 54 y_Cv_march ∈ tb_l := (tb_in 743 (by decide +kernel) rfl)
theorem fo_Od_58_53 : FOk "CamelStraws$Odds" 58 53 11 .int false := FOk.mk0 cq_9 (by decide) (by decide) (by decide) rfl (tb_in 224 (by decide +kernel) rfl) rfl rfl
theorem fo_Od_44_44 : FOk "CamelStraws$Odds" 44 44 2 .long false := FOk.mk0 cq_5 (by decide) (by decide) (by decide) rfl (tb_in 337 (by decide +kernel) rfl) rfl rfl
theorem fo_Od_27_44 : FOk "CamelStraws$Odds" 27 44 1 .long false := FOk.mk0 cq_5 (by decide) (by decide) (by decide) rfl (tb_in 335 (by decide +kernel) rfl) rfl rfl
theorem kl_Od_63 : Cond.constantLong "CamelStraws$Odds" 63 2 ∈ tb_l := (tb_in 752 (by decide +kernel) rfl)
theorem fo_Od_15_54 : FOk "CamelStraws$Odds" 15 54 2 (.object "CamelStraws$Straws") false := FOk.mk0 cq_3 (by decide) (by decide) (by decide) rfl (tb_in 261 (by decide +kernel) rfl) rfl rfl
theorem wk_Od_21 : Cond.methodLink "CamelStraws$Odds" 21 y_St_onCamel ∈ tb_l := (tb_in 735 (by decide +kernel) rfl)
theorem ok_St_onCamel : MOk y_St_onCamel b_St_onCamel 4 (some .int) 1 := ⟨(tb_in 738 (by decide +kernel) rfl), (tb_in 73 (by decide +kernel) rfl), by decide +kernel, by decide +kernel, by decide +kernel⟩
theorem rc_57 : Rcv 57 "CamelStraws$Straws" := ⟨by decide, by decide, _, rfl, rfl⟩
theorem rc_s60_57 : ∀ a ∈ [60, 57], Rcv a "CamelStraws$Straws" := fun a ha => me2 (P := fun a => Rcv a "CamelStraws$Straws") ha rc_60 rc_57
theorem wi_St_onCamel : Cond.instanceMethod y_St_onCamel ∈ tb_l := (tb_in 736 (by decide +kernel) rfl)
theorem wl_St_St_onCamel : Cond.selects "CamelStraws$Straws" y_St_onCamel y_St_onCamel ∈ tb_l := (tb_in 737 (by decide +kernel) rfl)
theorem wk_Od_31 : Cond.methodLink "CamelStraws$Odds" 31 y_Od_breaksWithout ∈ tb_l := (tb_in 739 (by decide +kernel) rfl)
theorem ok_Od_breaksWithout : MOk y_Od_breaksWithout b_Od_breaksWithout 4 (some .boolean) 2 := ⟨(tb_in 742 (by decide +kernel) rfl), (tb_in 78 (by decide +kernel) rfl), by decide +kernel, by decide +kernel, by decide +kernel⟩
theorem rc_44 : Rcv 44 "CamelStraws$Odds" := ⟨by decide, by decide, _, rfl, rfl⟩
theorem wi_Od_breaksWithout : Cond.instanceMethod y_Od_breaksWithout ∈ tb_l := (tb_in 741 (by decide +kernel) rfl)
theorem wl_Od_Od_breaksWithout : Cond.selects "CamelStraws$Odds" y_Od_breaksWithout y_Od_breaksWithout ∈ tb_l := (tb_in 10 (by decide +kernel) rfl)
theorem wk_Od_35 : Cond.methodLink "CamelStraws$Odds" 35 y_In_bitCount ∈ tb_l := (tb_in 744 (by decide +kernel) rfl)
theorem wk_Od_40 : Cond.methodLink "CamelStraws$Odds" 40 y_Od_power ∈ tb_l := (tb_in 745 (by decide +kernel) rfl)
theorem ok_Od_power : MOk y_Od_power b_Od_power 5 (some .long) 2 := ⟨(tb_in 747 (by decide +kernel) rfl), (tb_in 78 (by decide +kernel) rfl), by decide +kernel, by decide +kernel, by decide +kernel⟩
theorem ws_Od_power : Cond.static y_Od_power ∈ tb_l := (tb_in 746 (by decide +kernel) rfl)
theorem wk_Od_47 : Cond.methodLink "CamelStraws$Odds" 47 y_Od_reduce ∈ tb_l := (tb_in 748 (by decide +kernel) rfl)
theorem ok_Od_reduce : MOk y_Od_reduce b_Od_reduce 2 none 0 := ⟨(tb_in 751 (by decide +kernel) rfl), (tb_in 78 (by decide +kernel) rfl), by decide +kernel, by decide +kernel, by decide +kernel⟩
theorem wi_Od_reduce : Cond.instanceMethod y_Od_reduce ∈ tb_l := (tb_in 750 (by decide +kernel) rfl)
theorem wl_Od_Od_reduce : Cond.selects "CamelStraws$Odds" y_Od_reduce y_Od_reduce ∈ tb_l := (tb_in 11 (by decide +kernel) rfl)
theorem kl_CS_216 : Cond.constantLong "CamelStraws" 216 (-9223372036854775806) ∈ tb_l := (tb_in 730 (by decide +kernel) rfl)
theorem fo_CS_67_71 : FOk "CamelStraws" 67 71 8 (.object "CamelStraws$Odds") true := FOk.mk0 cq_0 (by decide) (by decide) (by decide) rfl (tb_in 374 (by decide +kernel) rfl) rfl rfl
theorem wk_CS_218 : Cond.methodLink "CamelStraws" 218 y_Od_ofBreaking ∈ tb_l := (tb_in 731 (by decide +kernel) rfl)
theorem ok_Od_ofBreaking : MOk y_Od_ofBreaking b_Od_ofBreaking 6 none 2 := ⟨(tb_in 734 (by decide +kernel) rfl), (tb_in 78 (by decide +kernel) rfl), by decide +kernel, by decide +kernel, by decide +kernel⟩
theorem wi_Od_ofBreaking : Cond.instanceMethod y_Od_ofBreaking ∈ tb_l := (tb_in 732 (by decide +kernel) rfl)
theorem wl_Od_Od_ofBreaking : Cond.selects "CamelStraws$Odds" y_Od_ofBreaking y_Od_ofBreaking ∈ tb_l := (tb_in 733 (by decide +kernel) rfl)
theorem fo_CS_226_44 : FOk "CamelStraws" 226 44 2 .long false := FOk.mk0 cq_5 (by decide) (by decide) (by decide) rfl (tb_in 338 (by decide +kernel) rfl) rfl rfl
theorem fo_CS_222_44 : FOk "CamelStraws" 222 44 1 .long false := FOk.mk0 cq_5 (by decide) (by decide) (by decide) rfl (tb_in 336 (by decide +kernel) rfl) rfl rfl
theorem kc_St_30 : Cond.constant "CamelStraws$Straws" 30 1103515245 ∈ tb_l := (tb_in 764 (by decide +kernel) rfl)
theorem wk_St_22 : Cond.methodLink "CamelStraws$Straws" 22 y_St_nextSeed ∈ tb_l := (tb_in 761 (by decide +kernel) rfl)
theorem ok_St_nextSeed : MOk y_St_nextSeed b_St_nextSeed 1 (some .int) 1 := ⟨(tb_in 763 (by decide +kernel) rfl), (tb_in 73 (by decide +kernel) rfl), by decide +kernel, by decide +kernel, by decide +kernel⟩
theorem ws_St_nextSeed : Cond.static y_St_nextSeed ∈ tb_l := (tb_in 762 (by decide +kernel) rfl)
theorem wk_St_26 : Cond.methodLink "CamelStraws$Straws" 26 y_St_append ∈ tb_l := (tb_in 765 (by decide +kernel) rfl)
theorem fo_CS_36_71 : FOk "CamelStraws" 36 71 4 (.object "CamelStraws$Straws") true := FOk.mk0 cq_0 (by decide) (by decide) (by decide) rfl (tb_in 370 (by decide +kernel) rfl) rfl rfl
theorem wk_CS_231 : Cond.methodLink "CamelStraws" 231 y_St_draw ∈ tb_l := (tb_in 757 (by decide +kernel) rfl)
theorem ok_St_draw : MOk y_St_draw b_St_draw 7 none 3 := ⟨(tb_in 760 (by decide +kernel) rfl), (tb_in 73 (by decide +kernel) rfl), by decide +kernel, by decide +kernel, by decide +kernel⟩
theorem wi_St_draw : Cond.instanceMethod y_St_draw ∈ tb_l := (tb_in 758 (by decide +kernel) rfl)
theorem wl_St_St_draw : Cond.selects "CamelStraws$Straws" y_St_draw y_St_draw ∈ tb_l := (tb_in 759 (by decide +kernel) rfl)
theorem fo_CS_235_54 : FOk "CamelStraws" 235 54 2 (.object "CamelStraws$Straws") false := FOk.mk0 cq_3 (by decide) (by decide) (by decide) rfl (tb_in 264 (by decide +kernel) rfl) rfl rfl
theorem fo_Sh_19_42 : FOk "CamelStraws$Sheet" 19 42 2 .int false := FOk.mk0 cq_7 (by decide) (by decide) (by decide) rfl (tb_in 357 (by decide +kernel) rfl) rfl rfl
theorem fo_Sh_19_40 : FOk "CamelStraws$Sheet" 19 40 2 .int false := FOk.mk0 cq_7 (by decide) (by decide) (by decide) rfl (tb_in 357 (by decide +kernel) rfl) rfl rfl
theorem fo_Sh_19_38 : FOk "CamelStraws$Sheet" 19 38 2 .int false := FOk.mk0 cq_7 (by decide) (by decide) (by decide) rfl (tb_in 357 (by decide +kernel) rfl) rfl rfl
theorem fo_Sh_19_36 : FOk "CamelStraws$Sheet" 19 36 2 .int false := FOk.mk0 cq_7 (by decide) (by decide) (by decide) rfl (tb_in 357 (by decide +kernel) rfl) rfl rfl
theorem fo_Sh_19_s42_40_38_36 : ∀ a ∈ [42, 40, 38, 36], FOk "CamelStraws$Sheet" 19 a 2 .int false := fun a ha => me4 (P := fun a => FOk "CamelStraws$Sheet" 19 a 2 .int false) ha fo_Sh_19_42 fo_Sh_19_40 fo_Sh_19_38 fo_Sh_19_36
theorem fo_Sh_9_42 : FOk "CamelStraws$Sheet" 9 42 0 (.array .int) true := FOk.mk0 cq_7 (by decide) (by decide) (by decide) rfl (tb_in 353 (by decide +kernel) rfl) rfl rfl
theorem fo_Sh_9_40 : FOk "CamelStraws$Sheet" 9 40 0 (.array .int) true := FOk.mk0 cq_7 (by decide) (by decide) (by decide) rfl (tb_in 353 (by decide +kernel) rfl) rfl rfl
theorem fo_Sh_9_38 : FOk "CamelStraws$Sheet" 9 38 0 (.array .int) true := FOk.mk0 cq_7 (by decide) (by decide) (by decide) rfl (tb_in 353 (by decide +kernel) rfl) rfl rfl
theorem fo_Sh_9_36 : FOk "CamelStraws$Sheet" 9 36 0 (.array .int) true := FOk.mk0 cq_7 (by decide) (by decide) (by decide) rfl (tb_in 353 (by decide +kernel) rfl) rfl rfl
theorem fo_Sh_9_s42_40_38_36 : ∀ a ∈ [42, 40, 38, 36], FOk "CamelStraws$Sheet" 9 a 0 (.array .int) true := fun a ha => me4 (P := fun a => FOk "CamelStraws$Sheet" 9 a 0 (.array .int) true) ha fo_Sh_9_42 fo_Sh_9_40 fo_Sh_9_38 fo_Sh_9_36
theorem wk_Sh_22 : Cond.methodLink "CamelStraws$Sheet" 22 y_Ar_fill ∈ tb_l := (tb_in 777 (by decide +kernel) rfl)
theorem wk_CS_236 : Cond.methodLink "CamelStraws" 236 y_CS_isForm ∈ tb_l := (tb_in 770 (by decide +kernel) rfl)
theorem ok_CS_isForm : MOk y_CS_isForm b_CS_isForm 1 (some .boolean) 1 := ⟨(tb_in 772 (by decide +kernel) rfl), (tb_in 69 (by decide +kernel) rfl), by decide +kernel, by decide +kernel, by decide +kernel⟩
theorem ws_CS_isForm : Cond.static y_CS_isForm ∈ tb_l := (tb_in 771 (by decide +kernel) rfl)
theorem wk_CS_239 : Cond.methodLink "CamelStraws" 239 y_Sh_renew ∈ tb_l := (tb_in 773 (by decide +kernel) rfl)
theorem ok_Sh_renew : MOk y_Sh_renew b_Sh_renew 3 none 2 := ⟨(tb_in 776 (by decide +kernel) rfl), (tb_in 79 (by decide +kernel) rfl), by decide +kernel, by decide +kernel, by decide +kernel⟩
theorem wi_Sh_renew : Cond.instanceMethod y_Sh_renew ∈ tb_l := (tb_in 774 (by decide +kernel) rfl)
theorem wl_Sh_Sh_renew : Cond.selects "CamelStraws$Sheet" y_Sh_renew y_Sh_renew ∈ tb_l := (tb_in 775 (by decide +kernel) rfl)
theorem wk_Sh_28 : Cond.methodLink "CamelStraws$Sheet" 28 y_Sh_isLost ∈ tb_l := (tb_in 790 (by decide +kernel) rfl)
theorem wk_Sh_32 : Cond.methodLink "CamelStraws$Sheet" 32 y_Sh_hasItems ∈ tb_l := (tb_in 791 (by decide +kernel) rfl)
theorem ok_Sh_hasItems : MOk y_Sh_hasItems b_Sh_hasItems 3 (some .boolean) 2 := ⟨(tb_in 794 (by decide +kernel) rfl), (tb_in 79 (by decide +kernel) rfl), by decide +kernel, by decide +kernel, by decide +kernel⟩
theorem wi_Sh_hasItems : Cond.instanceMethod y_Sh_hasItems ∈ tb_l := (tb_in 792 (by decide +kernel) rfl)
theorem wl_Sh_Sh_hasItems : Cond.selects "CamelStraws$Sheet" y_Sh_hasItems y_Sh_hasItems ∈ tb_l := (tb_in 793 (by decide +kernel) rfl)
theorem wk_CS_242 : Cond.methodLink "CamelStraws" 242 y_Sh_whatForbids ∈ tb_l := (tb_in 786 (by decide +kernel) rfl)
theorem ok_Sh_whatForbids : MOk y_Sh_whatForbids b_Sh_whatForbids 3 (some .int) 2 := ⟨(tb_in 789 (by decide +kernel) rfl), (tb_in 79 (by decide +kernel) rfl), by decide +kernel, by decide +kernel, by decide +kernel⟩
theorem wi_Sh_whatForbids : Cond.instanceMethod y_Sh_whatForbids ∈ tb_l := (tb_in 787 (by decide +kernel) rfl)
theorem wl_Sh_Sh_whatForbids : Cond.selects "CamelStraws$Sheet" y_Sh_whatForbids y_Sh_whatForbids ∈ tb_l := (tb_in 788 (by decide +kernel) rfl)
theorem wk_CS_245 : Cond.methodLink "CamelStraws" 245 y_CS_lowestBits ∈ tb_l := (tb_in 795 (by decide +kernel) rfl)
theorem ok_CS_lowestBits : MOk y_CS_lowestBits b_CS_lowestBits 2 (some .int) 2 := ⟨(tb_in 797 (by decide +kernel) rfl), (tb_in 69 (by decide +kernel) rfl), by decide +kernel, by decide +kernel, by decide +kernel⟩
theorem ws_CS_lowestBits : Cond.static y_CS_lowestBits ∈ tb_l := (tb_in 796 (by decide +kernel) rfl)
theorem kc_CS_248 : Cond.constant "CamelStraws" 248 (-2147483648) ∈ tb_l := (tb_in 802 (by decide +kernel) rfl)
theorem fo_CS_252_42 : FOk "CamelStraws" 252 42 1 .int false := FOk.mk0 cq_7 (by decide) (by decide) (by decide) rfl (tb_in 356 (by decide +kernel) rfl) rfl rfl
theorem fo_CS_252_40 : FOk "CamelStraws" 252 40 1 .int false := FOk.mk0 cq_7 (by decide) (by decide) (by decide) rfl (tb_in 356 (by decide +kernel) rfl) rfl rfl
theorem fo_CS_252_38 : FOk "CamelStraws" 252 38 1 .int false := FOk.mk0 cq_7 (by decide) (by decide) (by decide) rfl (tb_in 356 (by decide +kernel) rfl) rfl rfl
theorem fo_CS_252_36 : FOk "CamelStraws" 252 36 1 .int false := FOk.mk0 cq_7 (by decide) (by decide) (by decide) rfl (tb_in 356 (by decide +kernel) rfl) rfl rfl
theorem fo_CS_252_s42_40_38_36 : ∀ a ∈ [42, 40, 38, 36], FOk "CamelStraws" 252 a 1 .int false := fun a ha => me4 (P := fun a => FOk "CamelStraws" 252 a 1 .int false) ha fo_CS_252_42 fo_CS_252_40 fo_CS_252_38 fo_CS_252_36
theorem wk_CS_255 : Cond.methodLink "CamelStraws" 255 y_Sh_hasItems ∈ tb_l := (tb_in 807 (by decide +kernel) rfl)
theorem wk_CS_258 : Cond.methodLink "CamelStraws" 258 arraycopyName ∈ tb_l := (tb_in 808 (by decide +kernel) rfl)
theorem wn_copy : Cond.native arraycopyName ∈ tb_l ∧ Cond.static arraycopyName ∈ tb_l ∧ Cond.initialized "java/lang/System" ∈ tb_l := ⟨(tb_in 810 (by decide +kernel) rfl), (tb_in 809 (by decide +kernel) rfl), (tb_in 84 (by decide +kernel) rfl)⟩
theorem wk_CS_264 : Cond.methodLink "CamelStraws" 264 y_Ma_min ∈ tb_l := (tb_in 815 (by decide +kernel) rfl)
theorem ok_Ma_min : MOk y_Ma_min b_Ma_min 2 (some .int) 2 := ⟨(tb_in 817 (by decide +kernel) rfl), (tb_in 83 (by decide +kernel) rfl), by decide +kernel, by decide +kernel, by decide +kernel⟩
theorem ws_Ma_min : Cond.static y_Ma_min ∈ tb_l := (tb_in 816 (by decide +kernel) rfl)
theorem fo_CS_270_70 : FOk "CamelStraws" 270 70 2 .int false := FOk.mk1 "CamelStraws$Camels" cq_2 (by decide) (by decide) (by decide) rfl (tb_in 117 (by decide +kernel) rfl) (tb_in 118 (by decide +kernel) rfl) rfl rfl
theorem fo_CS_271_66 : FOk "CamelStraws" 271 66 2 .int false := FOk.mk1 "CamelStraws$Bales" cq_1 (by decide) (by decide) (by decide) rfl (tb_in 119 (by decide +kernel) rfl) (tb_in 120 (by decide +kernel) rfl) rfl rfl
theorem kl_CS_351 : Cond.constantLong "CamelStraws" 351 31 ∈ tb_l := (tb_in 831 (by decide +kernel) rfl)
theorem wk_CS_319 : Cond.methodLink "CamelStraws" 319 y_CS_bale ∈ tb_l := (tb_in 837 (by decide +kernel) rfl)
theorem ok_CS_bale : MOk y_CS_bale b_CS_bale 3 (some .int) 2 := ⟨(tb_in 475 (by decide +kernel) rfl), (tb_in 69 (by decide +kernel) rfl), by decide +kernel, by decide +kernel, by decide +kernel⟩
theorem wi_CS_bale : Cond.instanceMethod y_CS_bale ∈ tb_l := (tb_in 473 (by decide +kernel) rfl)
theorem wl_CS_CS_bale : Cond.selects "CamelStraws" y_CS_bale y_CS_bale ∈ tb_l := (tb_in 474 (by decide +kernel) rfl)
theorem wk_CS_277 : Cond.methodLink "CamelStraws" 277 y_CS_mix ∈ tb_l := (tb_in 828 (by decide +kernel) rfl)
theorem ok_CS_mix : MOk y_CS_mix b_CS_mix 4 (some .long) 2 := ⟨(tb_in 830 (by decide +kernel) rfl), (tb_in 69 (by decide +kernel) rfl), by decide +kernel, by decide +kernel, by decide +kernel⟩
theorem ws_CS_mix : Cond.static y_CS_mix ∈ tb_l := (tb_in 829 (by decide +kernel) rfl)
theorem wk_CS_322 : Cond.methodLink "CamelStraws" 322 y_CS_bear ∈ tb_l := (tb_in 838 (by decide +kernel) rfl)
theorem ok_CS_bear : MOk y_CS_bear b_CS_bear 3 (some .int) 2 := ⟨(tb_in 627 (by decide +kernel) rfl), (tb_in 69 (by decide +kernel) rfl), by decide +kernel, by decide +kernel, by decide +kernel⟩
theorem wi_CS_bear : Cond.instanceMethod y_CS_bear ∈ tb_l := (tb_in 625 (by decide +kernel) rfl)
theorem wl_CS_CS_bear : Cond.selects "CamelStraws" y_CS_bear y_CS_bear ∈ tb_l := (tb_in 626 (by decide +kernel) rfl)
theorem wk_CS_325 : Cond.methodLink "CamelStraws" 325 y_CS_when ∈ tb_l := (tb_in 839 (by decide +kernel) rfl)
theorem ok_CS_when : MOk y_CS_when b_CS_when 3 (some .int) 2 := ⟨(tb_in 645 (by decide +kernel) rfl), (tb_in 69 (by decide +kernel) rfl), by decide +kernel, by decide +kernel, by decide +kernel⟩
theorem wi_CS_when : Cond.instanceMethod y_CS_when ∈ tb_l := (tb_in 643 (by decide +kernel) rfl)
theorem wl_CS_CS_when : Cond.selects "CamelStraws" y_CS_when y_CS_when ∈ tb_l := (tb_in 644 (by decide +kernel) rfl)
theorem wk_CS_348 : Cond.methodLink "CamelStraws" 348 y_CS_at ∈ tb_l := (tb_in 849 (by decide +kernel) rfl)
theorem ok_CS_at : MOk y_CS_at b_CS_at 4 (some .int) 3 := ⟨(tb_in 517 (by decide +kernel) rfl), (tb_in 69 (by decide +kernel) rfl), by decide +kernel, by decide +kernel, by decide +kernel⟩
theorem wi_CS_at : Cond.instanceMethod y_CS_at ∈ tb_l := (tb_in 515 (by decide +kernel) rfl)
theorem wl_CS_CS_at : Cond.selects "CamelStraws" y_CS_at y_CS_at ∈ tb_l := (tb_in 516 (by decide +kernel) rfl)
theorem wk_CS_328 : Cond.methodLink "CamelStraws" 328 y_CS_camel ∈ tb_l := (tb_in 844 (by decide +kernel) rfl)
theorem ok_CS_camel : MOk y_CS_camel b_CS_camel 3 (some .int) 2 := ⟨(tb_in 464 (by decide +kernel) rfl), (tb_in 69 (by decide +kernel) rfl), by decide +kernel, by decide +kernel, by decide +kernel⟩
theorem wi_CS_camel : Cond.instanceMethod y_CS_camel ∈ tb_l := (tb_in 462 (by decide +kernel) rfl)
theorem wl_CS_CS_camel : Cond.selects "CamelStraws" y_CS_camel y_CS_camel ∈ tb_l := (tb_in 463 (by decide +kernel) rfl)
theorem wk_CS_331 : Cond.methodLink "CamelStraws" 331 y_CS_mixDay ∈ tb_l := (tb_in 845 (by decide +kernel) rfl)
theorem ok_CS_mixDay : MOk y_CS_mixDay b_CS_mixDay 8 (some .long) 3 := ⟨(tb_in 848 (by decide +kernel) rfl), (tb_in 69 (by decide +kernel) rfl), by decide +kernel, by decide +kernel, by decide +kernel⟩
theorem wi_CS_mixDay : Cond.instanceMethod y_CS_mixDay ∈ tb_l := (tb_in 847 (by decide +kernel) rfl)
theorem wl_CS_CS_mixDay : Cond.selects "CamelStraws" y_CS_mixDay y_CS_mixDay ∈ tb_l := (tb_in 14 (by decide +kernel) rfl)
theorem wk_CS_335 : Cond.methodLink "CamelStraws" 335 y_CS_last ∈ tb_l := (tb_in 850 (by decide +kernel) rfl)
theorem ok_CS_last : MOk y_CS_last b_CS_last 4 (some .int) 2 := ⟨(tb_in 623 (by decide +kernel) rfl), (tb_in 69 (by decide +kernel) rfl), by decide +kernel, by decide +kernel, by decide +kernel⟩
theorem wi_CS_last : Cond.instanceMethod y_CS_last ∈ tb_l := (tb_in 621 (by decide +kernel) rfl)
theorem wl_CS_CS_last : Cond.selects "CamelStraws" y_CS_last y_CS_last ∈ tb_l := (tb_in 622 (by decide +kernel) rfl)
theorem wk_CS_338 : Cond.methodLink "CamelStraws" 338 y_CS_was ∈ tb_l := (tb_in 851 (by decide +kernel) rfl)
theorem ok_CS_was : MOk y_CS_was b_CS_was 3 (some .int) 2 := ⟨(tb_in 702 (by decide +kernel) rfl), (tb_in 69 (by decide +kernel) rfl), by decide +kernel, by decide +kernel, by decide +kernel⟩
theorem wi_CS_was : Cond.instanceMethod y_CS_was ∈ tb_l := (tb_in 700 (by decide +kernel) rfl)
theorem wl_CS_CS_was : Cond.selects "CamelStraws" y_CS_was y_CS_was ∈ tb_l := (tb_in 701 (by decide +kernel) rfl)
theorem wk_CS_341 : Cond.methodLink "CamelStraws" 341 y_CS_ask ∈ tb_l := (tb_in 852 (by decide +kernel) rfl)
theorem ok_CS_ask : MOk y_CS_ask b_CS_ask 3 (some .int) 1 := ⟨(tb_in 710 (by decide +kernel) rfl), (tb_in 69 (by decide +kernel) rfl), by decide +kernel, by decide +kernel, by decide +kernel⟩
theorem wi_CS_ask : Cond.instanceMethod y_CS_ask ∈ tb_l := (tb_in 708 (by decide +kernel) rfl)
theorem wl_CS_CS_ask : Cond.selects "CamelStraws" y_CS_ask y_CS_ask ∈ tb_l := (tb_in 709 (by decide +kernel) rfl)
theorem wk_CS_344 : Cond.methodLink "CamelStraws" 344 y_CS_chance ∈ tb_l := (tb_in 853 (by decide +kernel) rfl)
theorem ok_CS_chance : MOk y_CS_chance b_CS_chance 4 (some .long) 3 := ⟨(tb_in 729 (by decide +kernel) rfl), (tb_in 69 (by decide +kernel) rfl), by decide +kernel, by decide +kernel, by decide +kernel⟩
theorem wi_CS_chance : Cond.instanceMethod y_CS_chance ∈ tb_l := (tb_in 727 (by decide +kernel) rfl)
theorem wl_CS_CS_chance : Cond.selects "CamelStraws" y_CS_chance y_CS_chance ∈ tb_l := (tb_in 728 (by decide +kernel) rfl)
theorem kl_CS_272 : Cond.constantLong "CamelStraws" 272 17 ∈ tb_l := (tb_in 826 (by decide +kernel) rfl)
theorem wk_CS_274 : Cond.methodLink "CamelStraws" 274 y_CS_count ∈ tb_l := (tb_in 827 (by decide +kernel) rfl)
theorem ok_CS_count : MOk y_CS_count b_CS_count 2 (some .int) 1 := ⟨(tb_in 821 (by decide +kernel) rfl), (tb_in 69 (by decide +kernel) rfl), by decide +kernel, by decide +kernel, by decide +kernel⟩
theorem wi_CS_count : Cond.instanceMethod y_CS_count ∈ tb_l := (tb_in 819 (by decide +kernel) rfl)
theorem wl_CS_CS_count : Cond.selects "CamelStraws" y_CS_count y_CS_count ∈ tb_l := (tb_in 820 (by decide +kernel) rfl)
theorem wk_CS_281 : Cond.methodLink "CamelStraws" 281 y_CS_fault ∈ tb_l := (tb_in 832 (by decide +kernel) rfl)
theorem ok_CS_fault : MOk y_CS_fault b_CS_fault 2 (some .int) 1 := ⟨(tb_in 460 (by decide +kernel) rfl), (tb_in 69 (by decide +kernel) rfl), by decide +kernel, by decide +kernel, by decide +kernel⟩
theorem wi_CS_fault : Cond.instanceMethod y_CS_fault ∈ tb_l := (tb_in 458 (by decide +kernel) rfl)
theorem wl_CS_CS_fault : Cond.selects "CamelStraws" y_CS_fault y_CS_fault ∈ tb_l := (tb_in 459 (by decide +kernel) rfl)
theorem wk_CS_284 : Cond.methodLink "CamelStraws" 284 y_CS_mixBale ∈ tb_l := (tb_in 833 (by decide +kernel) rfl)
theorem ok_CS_mixBale : MOk y_CS_mixBale b_CS_mixBale 7 (some .long) 2 := ⟨(tb_in 836 (by decide +kernel) rfl), (tb_in 69 (by decide +kernel) rfl), by decide +kernel, by decide +kernel, by decide +kernel⟩
theorem wi_CS_mixBale : Cond.instanceMethod y_CS_mixBale ∈ tb_l := (tb_in 835 (by decide +kernel) rfl)
theorem wl_CS_CS_mixBale : Cond.selects "CamelStraws" y_CS_mixBale y_CS_mixBale ∈ tb_l := (tb_in 12 (by decide +kernel) rfl)
theorem wk_CS_288 : Cond.methodLink "CamelStraws" 288 y_CS_mixCamel ∈ tb_l := (tb_in 840 (by decide +kernel) rfl)
theorem ok_CS_mixCamel : MOk y_CS_mixCamel b_CS_mixCamel 6 (some .long) 2 := ⟨(tb_in 843 (by decide +kernel) rfl), (tb_in 69 (by decide +kernel) rfl), by decide +kernel, by decide +kernel, by decide +kernel⟩
theorem wi_CS_mixCamel : Cond.instanceMethod y_CS_mixCamel ∈ tb_l := (tb_in 842 (by decide +kernel) rfl)
theorem wl_CS_CS_mixCamel : Cond.selects "CamelStraws" y_CS_mixCamel y_CS_mixCamel ∈ tb_l := (tb_in 13 (by decide +kernel) rfl)
theorem wk_CS_291 : Cond.methodLink "CamelStraws" 291 y_CS_through ∈ tb_l := (tb_in 854 (by decide +kernel) rfl)
theorem ok_CS_through : MOk y_CS_through b_CS_through 1 (some .int) 0 := ⟨(tb_in 570 (by decide +kernel) rfl), (tb_in 69 (by decide +kernel) rfl), by decide +kernel, by decide +kernel, by decide +kernel⟩
theorem wi_CS_through : Cond.instanceMethod y_CS_through ∈ tb_l := (tb_in 568 (by decide +kernel) rfl)
theorem wl_CS_CS_through : Cond.selects "CamelStraws" y_CS_through y_CS_through ∈ tb_l := (tb_in 569 (by decide +kernel) rfl)
theorem wk_CS_294 : Cond.methodLink "CamelStraws" 294 y_CS_lost ∈ tb_l := (tb_in 855 (by decide +kernel) rfl)
theorem ok_CS_lost : MOk y_CS_lost b_CS_lost 1 (some .int) 0 := ⟨(tb_in 580 (by decide +kernel) rfl), (tb_in 69 (by decide +kernel) rfl), by decide +kernel, by decide +kernel, by decide +kernel⟩
theorem wi_CS_lost : Cond.instanceMethod y_CS_lost ∈ tb_l := (tb_in 578 (by decide +kernel) rfl)
theorem wl_CS_CS_lost : Cond.selects "CamelStraws" y_CS_lost y_CS_lost ∈ tb_l := (tb_in 579 (by decide +kernel) rfl)
theorem wk_CS_297 : Cond.methodLink "CamelStraws" 297 y_CS_first ∈ tb_l := (tb_in 856 (by decide +kernel) rfl)
theorem ok_CS_first : MOk y_CS_first b_CS_first 3 (some .int) 1 := ⟨(tb_in 584 (by decide +kernel) rfl), (tb_in 69 (by decide +kernel) rfl), by decide +kernel, by decide +kernel, by decide +kernel⟩
theorem wi_CS_first : Cond.instanceMethod y_CS_first ∈ tb_l := (tb_in 582 (by decide +kernel) rfl)
theorem wl_CS_CS_first : Cond.selects "CamelStraws" y_CS_first y_CS_first ∈ tb_l := (tb_in 583 (by decide +kernel) rfl)
theorem wk_CS_300 : Cond.methodLink "CamelStraws" 300 y_CS_best ∈ tb_l := (tb_in 857 (by decide +kernel) rfl)
theorem ok_CS_best : MOk y_CS_best b_CS_best 1 (some .int) 0 := ⟨(tb_in 592 (by decide +kernel) rfl), (tb_in 69 (by decide +kernel) rfl), by decide +kernel, by decide +kernel, by decide +kernel⟩
theorem wi_CS_best : Cond.instanceMethod y_CS_best ∈ tb_l := (tb_in 590 (by decide +kernel) rfl)
theorem wl_CS_CS_best : Cond.selects "CamelStraws" y_CS_best y_CS_best ∈ tb_l := (tb_in 591 (by decide +kernel) rfl)
theorem wk_CS_303 : Cond.methodLink "CamelStraws" 303 y_CS_whole ∈ tb_l := (tb_in 858 (by decide +kernel) rfl)
theorem ok_CS_whole : MOk y_CS_whole b_CS_whole 1 (some .int) 0 := ⟨(tb_in 604 (by decide +kernel) rfl), (tb_in 69 (by decide +kernel) rfl), by decide +kernel, by decide +kernel, by decide +kernel⟩
theorem wi_CS_whole : Cond.instanceMethod y_CS_whole ∈ tb_l := (tb_in 602 (by decide +kernel) rfl)
theorem wl_CS_CS_whole : Cond.selects "CamelStraws" y_CS_whole y_CS_whole ∈ tb_l := (tb_in 603 (by decide +kernel) rfl)
theorem wk_CS_306 : Cond.methodLink "CamelStraws" 306 y_CS_tired ∈ tb_l := (tb_in 859 (by decide +kernel) rfl)
theorem ok_CS_tired : MOk y_CS_tired b_CS_tired 1 (some .int) 0 := ⟨(tb_in 612 (by decide +kernel) rfl), (tb_in 69 (by decide +kernel) rfl), by decide +kernel, by decide +kernel, by decide +kernel⟩
theorem wi_CS_tired : Cond.instanceMethod y_CS_tired ∈ tb_l := (tb_in 610 (by decide +kernel) rfl)
theorem wl_CS_CS_tired : Cond.selects "CamelStraws" y_CS_tired y_CS_tired ∈ tb_l := (tb_in 611 (by decide +kernel) rfl)
theorem wk_CS_309 : Cond.methodLink "CamelStraws" 309 y_CS_spare ∈ tb_l := (tb_in 860 (by decide +kernel) rfl)
theorem ok_CS_spare : MOk y_CS_spare b_CS_spare 4 (some .int) 1 := ⟨(tb_in 653 (by decide +kernel) rfl), (tb_in 69 (by decide +kernel) rfl), by decide +kernel, by decide +kernel, by decide +kernel⟩
theorem wi_CS_spare : Cond.instanceMethod y_CS_spare ∈ tb_l := (tb_in 651 (by decide +kernel) rfl)
theorem wl_CS_CS_spare : Cond.selects "CamelStraws" y_CS_spare y_CS_spare ∈ tb_l := (tb_in 652 (by decide +kernel) rfl)
theorem wk_CS_312 : Cond.methodLink "CamelStraws" 312 y_CS_never ∈ tb_l := (tb_in 861 (by decide +kernel) rfl)
theorem ok_CS_never : MOk y_CS_never b_CS_never 1 (some .int) 0 := ⟨(tb_in 688 (by decide +kernel) rfl), (tb_in 69 (by decide +kernel) rfl), by decide +kernel, by decide +kernel, by decide +kernel⟩
theorem wi_CS_never : Cond.instanceMethod y_CS_never ∈ tb_l := (tb_in 686 (by decide +kernel) rfl)
theorem wl_CS_CS_never : Cond.selects "CamelStraws" y_CS_never y_CS_never ∈ tb_l := (tb_in 687 (by decide +kernel) rfl)
theorem wk_CS_315 : Cond.methodLink "CamelStraws" 315 y_CS_years ∈ tb_l := (tb_in 862 (by decide +kernel) rfl)
theorem ok_CS_years : MOk y_CS_years b_CS_years 5 (some .int) 3 := ⟨(tb_in 756 (by decide +kernel) rfl), (tb_in 69 (by decide +kernel) rfl), by decide +kernel, by decide +kernel, by decide +kernel⟩
theorem wi_CS_years : Cond.instanceMethod y_CS_years ∈ tb_l := (tb_in 754 (by decide +kernel) rfl)
theorem wl_CS_CS_years : Cond.selects "CamelStraws" y_CS_years y_CS_years ∈ tb_l := (tb_in 755 (by decide +kernel) rfl)
theorem wk_Mo_115 : Cond.methodLink "CamelStrawsModel" 115 y_Mo_in ∈ tb_l := (tb_in 1013 (by decide +kernel) rfl)
theorem ok_Mo_in : MOk y_Mo_in b_Mo_in 3 (some .boolean) 3 := ⟨(tb_in 1015 (by decide +kernel) rfl), (tb_in 80 (by decide +kernel) rfl), by decide +kernel, by decide +kernel, by decide +kernel⟩
theorem ws_Mo_in : Cond.static y_Mo_in ∈ tb_l := (tb_in 1014 (by decide +kernel) rfl)
theorem wk_Mo_119 : Cond.methodLink "CamelStrawsModel" 119 y_Mo_isText ∈ tb_l := (tb_in 1010 (by decide +kernel) rfl)
theorem ok_Mo_isText : MOk y_Mo_isText b_Mo_isText 1 (some .boolean) 1 := ⟨(tb_in 1012 (by decide +kernel) rfl), (tb_in 80 (by decide +kernel) rfl), by decide +kernel, by decide +kernel, by decide +kernel⟩
theorem ws_Mo_isText : Cond.static y_Mo_isText ∈ tb_l := (tb_in 1011 (by decide +kernel) rfl)
theorem fo_Mo_7_34 : FOk "CamelStrawsModel" 7 34 0 (.array .int) true := FOk.mk0 cq_10 (by decide) (by decide) (by decide) rfl (tb_in 869 (by decide +kernel) rfl) rfl rfl
theorem fo_Mo_13_34 : FOk "CamelStrawsModel" 13 34 1 (.array .int) true := FOk.mk0 cq_10 (by decide) (by decide) (by decide) rfl (tb_in 870 (by decide +kernel) rfl) rfl rfl
theorem wk_Mo_123 : Cond.methodLink "CamelStrawsModel" 123 y_Mo_byteAt ∈ tb_l := (tb_in 1040 (by decide +kernel) rfl)
theorem ok_Mo_byteAt : MOk y_Mo_byteAt b_Mo_byteAt 3 (some .int) 2 := ⟨(tb_in 1043 (by decide +kernel) rfl), (tb_in 80 (by decide +kernel) rfl), by decide +kernel, by decide +kernel, by decide +kernel⟩
theorem rc_34 : Rcv 34 "CamelStrawsModel" := ⟨by decide, by decide, _, rfl, rfl⟩
theorem wi_Mo_byteAt : Cond.instanceMethod y_Mo_byteAt ∈ tb_l := (tb_in 1042 (by decide +kernel) rfl)
theorem wl_Mo_Mo_byteAt : Cond.selects "CamelStrawsModel" y_Mo_byteAt y_Mo_byteAt ∈ tb_l := (tb_in 18 (by decide +kernel) rfl)
theorem fo_Mo_16_34 : FOk "CamelStrawsModel" 16 34 3 (.array .int) true := FOk.mk0 cq_10 (by decide) (by decide) (by decide) rfl (tb_in 872 (by decide +kernel) rfl) rfl rfl
theorem fo_Mo_19_34 : FOk "CamelStrawsModel" 19 34 4 (.array .int) true := FOk.mk0 cq_10 (by decide) (by decide) (by decide) rfl (tb_in 873 (by decide +kernel) rfl) rfl rfl
theorem fo_Mo_22_34 : FOk "CamelStrawsModel" 22 34 6 (.array .int) true := FOk.mk0 cq_10 (by decide) (by decide) (by decide) rfl (tb_in 875 (by decide +kernel) rfl) rfl rfl
theorem fo_Mo_25_34 : FOk "CamelStrawsModel" 25 34 7 (.array .int) true := FOk.mk0 cq_10 (by decide) (by decide) (by decide) rfl (tb_in 876 (by decide +kernel) rfl) rfl rfl
theorem fo_Mo_28_34 : FOk "CamelStrawsModel" 28 34 8 (.array .int) true := FOk.mk0 cq_10 (by decide) (by decide) (by decide) rfl (tb_in 877 (by decide +kernel) rfl) rfl rfl
theorem fo_Mo_127_34 : FOk "CamelStrawsModel" 127 34 2 .int false := FOk.mk0 cq_10 (by decide) (by decide) (by decide) rfl (tb_in 871 (by decide +kernel) rfl) rfl rfl
theorem fo_Mo_131_34 : FOk "CamelStrawsModel" 131 34 5 .int false := FOk.mk0 cq_10 (by decide) (by decide) (by decide) rfl (tb_in 874 (by decide +kernel) rfl) rfl rfl
theorem wk_Mo_137 : Cond.methodLink "CamelStrawsModel" 137 y_Mo_readsBale ∈ tb_l := (tb_in 1044 (by decide +kernel) rfl)
theorem ok_Mo_readsBale : MOk y_Mo_readsBale b_Mo_readsBale 6 (some .int) 2 := ⟨(tb_in 1047 (by decide +kernel) rfl), (tb_in 80 (by decide +kernel) rfl), by decide +kernel, by decide +kernel, by decide +kernel⟩
theorem wi_Mo_readsBale : Cond.instanceMethod y_Mo_readsBale ∈ tb_l := (tb_in 1046 (by decide +kernel) rfl)
theorem wl_Mo_Mo_readsBale : Cond.selects "CamelStrawsModel" y_Mo_readsBale y_Mo_readsBale ∈ tb_l := (tb_in 19 (by decide +kernel) rfl)
theorem wk_Mo_134 : Cond.methodLink "CamelStrawsModel" 134 y_Mo_readsCamel ∈ tb_l := (tb_in 1036 (by decide +kernel) rfl)
theorem ok_Mo_readsCamel : MOk y_Mo_readsCamel b_Mo_readsCamel 6 (some .int) 2 := ⟨(tb_in 1039 (by decide +kernel) rfl), (tb_in 80 (by decide +kernel) rfl), by decide +kernel, by decide +kernel, by decide +kernel⟩
theorem wi_Mo_readsCamel : Cond.instanceMethod y_Mo_readsCamel ∈ tb_l := (tb_in 1038 (by decide +kernel) rfl)
theorem wl_Mo_Mo_readsCamel : Cond.selects "CamelStrawsModel" y_Mo_readsCamel y_Mo_readsCamel ∈ tb_l := (tb_in 17 (by decide +kernel) rfl)
theorem wk_Mo_140 : Cond.methodLink "CamelStrawsModel" 140 y_Mo_readsParts ∈ tb_l := (tb_in 1032 (by decide +kernel) rfl)
theorem ok_Mo_readsParts : MOk y_Mo_readsParts b_Mo_readsParts 6 (some .int) 1 := ⟨(tb_in 1035 (by decide +kernel) rfl), (tb_in 80 (by decide +kernel) rfl), by decide +kernel, by decide +kernel, by decide +kernel⟩
theorem wi_Mo_readsParts : Cond.instanceMethod y_Mo_readsParts ∈ tb_l := (tb_in 1034 (by decide +kernel) rfl)
theorem wl_Mo_Mo_readsParts : Cond.selects "CamelStrawsModel" y_Mo_readsParts y_Mo_readsParts ∈ tb_l := (tb_in 16 (by decide +kernel) rfl)
theorem wk_Mo_144 : Cond.methodLink "CamelStrawsModel" 144 y_Mo_faultOf ∈ tb_l := (tb_in 1028 (by decide +kernel) rfl)
theorem ok_Mo_faultOf : MOk y_Mo_faultOf b_Mo_faultOf 4 (some .int) 1 := ⟨(tb_in 1031 (by decide +kernel) rfl), (tb_in 80 (by decide +kernel) rfl), by decide +kernel, by decide +kernel, by decide +kernel⟩
theorem wi_Mo_faultOf : Cond.instanceMethod y_Mo_faultOf ∈ tb_l := (tb_in 1030 (by decide +kernel) rfl)
theorem wl_Mo_Mo_faultOf : Cond.selects "CamelStrawsModel" y_Mo_faultOf y_Mo_faultOf ∈ tb_l := (tb_in 15 (by decide +kernel) rfl)
theorem wk_Mo_147 : Cond.methodLink "CamelStrawsModel" 147 y_Mo_reads ∈ tb_l := (tb_in 1056 (by decide +kernel) rfl)
theorem ok_Mo_reads : MOk y_Mo_reads b_Mo_reads 2 none 0 := ⟨(tb_in 1059 (by decide +kernel) rfl), (tb_in 80 (by decide +kernel) rfl), by decide +kernel, by decide +kernel, by decide +kernel⟩
theorem wi_Mo_reads : Cond.instanceMethod y_Mo_reads ∈ tb_l := (tb_in 1058 (by decide +kernel) rfl)
theorem wl_Mo_Mo_reads : Cond.selects "CamelStrawsModel" y_Mo_reads y_Mo_reads ∈ tb_l := (tb_in 21 (by decide +kernel) rfl)
theorem wk_Mo_150 : Cond.methodLink "CamelStrawsModel" 150 y_Mo_isCamel ∈ tb_l := (tb_in 1052 (by decide +kernel) rfl)
theorem ok_Mo_isCamel : MOk y_Mo_isCamel b_Mo_isCamel 2 (some .boolean) 1 := ⟨(tb_in 1055 (by decide +kernel) rfl), (tb_in 80 (by decide +kernel) rfl), by decide +kernel, by decide +kernel, by decide +kernel⟩
theorem wi_Mo_isCamel : Cond.instanceMethod y_Mo_isCamel ∈ tb_l := (tb_in 1054 (by decide +kernel) rfl)
theorem wl_Mo_Mo_isCamel : Cond.selects "CamelStrawsModel" y_Mo_isCamel y_Mo_isCamel ∈ tb_l := (tb_in 20 (by decide +kernel) rfl)
theorem wk_Mo_153 : Cond.methodLink "CamelStrawsModel" 153 y_Mo_isTwo ∈ tb_l := (tb_in 1060 (by decide +kernel) rfl)
theorem ok_Mo_isTwo : MOk y_Mo_isTwo b_Mo_isTwo 1 (some .boolean) 1 := ⟨(tb_in 1062 (by decide +kernel) rfl), (tb_in 80 (by decide +kernel) rfl), by decide +kernel, by decide +kernel, by decide +kernel⟩
theorem ws_Mo_isTwo : Cond.static y_Mo_isTwo ∈ tb_l := (tb_in 1061 (by decide +kernel) rfl)
theorem wk_Mo_156 : Cond.methodLink "CamelStrawsModel" 156 y_Mo_camelOf ∈ tb_l := (tb_in 1063 (by decide +kernel) rfl)
theorem ok_Mo_camelOf : MOk y_Mo_camelOf b_Mo_camelOf 3 (some .int) 2 := ⟨(tb_in 1066 (by decide +kernel) rfl), (tb_in 80 (by decide +kernel) rfl), by decide +kernel, by decide +kernel, by decide +kernel⟩
theorem wi_Mo_camelOf : Cond.instanceMethod y_Mo_camelOf ∈ tb_l := (tb_in 1065 (by decide +kernel) rfl)
theorem wl_Mo_Mo_camelOf : Cond.selects "CamelStrawsModel" y_Mo_camelOf y_Mo_camelOf ∈ tb_l := (tb_in 22 (by decide +kernel) rfl)
theorem wk_Mo_159 : Cond.methodLink "CamelStrawsModel" 159 y_Mo_isBale ∈ tb_l := (tb_in 1071 (by decide +kernel) rfl)
theorem ok_Mo_isBale : MOk y_Mo_isBale b_Mo_isBale 2 (some .boolean) 1 := ⟨(tb_in 1074 (by decide +kernel) rfl), (tb_in 80 (by decide +kernel) rfl), by decide +kernel, by decide +kernel, by decide +kernel⟩
theorem wi_Mo_isBale : Cond.instanceMethod y_Mo_isBale ∈ tb_l := (tb_in 1073 (by decide +kernel) rfl)
theorem wl_Mo_Mo_isBale : Cond.selects "CamelStrawsModel" y_Mo_isBale y_Mo_isBale ∈ tb_l := (tb_in 23 (by decide +kernel) rfl)
theorem wk_Mo_162 : Cond.methodLink "CamelStrawsModel" 162 y_Mo_baleOf ∈ tb_l := (tb_in 1075 (by decide +kernel) rfl)
theorem ok_Mo_baleOf : MOk y_Mo_baleOf b_Mo_baleOf 3 (some .int) 2 := ⟨(tb_in 1078 (by decide +kernel) rfl), (tb_in 80 (by decide +kernel) rfl), by decide +kernel, by decide +kernel, by decide +kernel⟩
theorem wi_Mo_baleOf : Cond.instanceMethod y_Mo_baleOf ∈ tb_l := (tb_in 1077 (by decide +kernel) rfl)
theorem wl_Mo_Mo_baleOf : Cond.selects "CamelStrawsModel" y_Mo_baleOf y_Mo_baleOf ∈ tb_l := (tb_in 24 (by decide +kernel) rfl)
theorem wk_Mo_165 : Cond.methodLink "CamelStrawsModel" 165 y_Mo_isDay ∈ tb_l := (tb_in 1083 (by decide +kernel) rfl)
theorem ok_Mo_isDay : MOk y_Mo_isDay b_Mo_isDay 1 (some .boolean) 1 := ⟨(tb_in 1085 (by decide +kernel) rfl), (tb_in 80 (by decide +kernel) rfl), by decide +kernel, by decide +kernel, by decide +kernel⟩
theorem ws_Mo_isDay : Cond.static y_Mo_isDay ∈ tb_l := (tb_in 1084 (by decide +kernel) rfl)
theorem wk_Mo_168 : Cond.methodLink "CamelStrawsModel" 168 y_Mo_isEight ∈ tb_l := (tb_in 1086 (by decide +kernel) rfl)
theorem ok_Mo_isEight : MOk y_Mo_isEight b_Mo_isEight 1 (some .boolean) 1 := ⟨(tb_in 1088 (by decide +kernel) rfl), (tb_in 80 (by decide +kernel) rfl), by decide +kernel, by decide +kernel, by decide +kernel⟩
theorem ws_Mo_isEight : Cond.static y_Mo_isEight ∈ tb_l := (tb_in 1087 (by decide +kernel) rfl)
theorem fo_Mo_171_34 : FOk "CamelStrawsModel" 171 34 9 .int false := FOk.mk0 cq_10 (by decide) (by decide) (by decide) rfl (tb_in 878 (by decide +kernel) rfl) rfl rfl
theorem fo_Mo_31_34 : FOk "CamelStrawsModel" 31 34 10 (.array .int) true := FOk.mk0 cq_10 (by decide) (by decide) (by decide) rfl (tb_in 879 (by decide +kernel) rfl) rfl rfl
theorem fo_Mo_34_34 : FOk "CamelStrawsModel" 34 34 11 (.array .int) true := FOk.mk0 cq_10 (by decide) (by decide) (by decide) rfl (tb_in 880 (by decide +kernel) rfl) rfl rfl
theorem fo_Mo_329_34 : FOk "CamelStrawsModel" 329 34 44 .int false := FOk.mk0 cq_10 (by decide) (by decide) (by decide) rfl (tb_in 913 (by decide +kernel) rfl) rfl rfl
theorem wk_Mo_174 : Cond.methodLink "CamelStrawsModel" 174 y_Mo_isSheet ∈ tb_l := (tb_in 1097 (by decide +kernel) rfl)
theorem ok_Mo_isSheet : MOk y_Mo_isSheet b_Mo_isSheet 1 (some .boolean) 1 := ⟨(tb_in 1099 (by decide +kernel) rfl), (tb_in 80 (by decide +kernel) rfl), by decide +kernel, by decide +kernel, by decide +kernel⟩
theorem ws_Mo_isSheet : Cond.static y_Mo_isSheet ∈ tb_l := (tb_in 1098 (by decide +kernel) rfl)
theorem fo_Mo_97_34 : FOk "CamelStrawsModel" 97 34 39 (.array .boolean) true := FOk.mk0 cq_10 (by decide) (by decide) (by decide) rfl (tb_in 908 (by decide +kernel) rfl) rfl rfl
theorem fo_Mo_104_34 : FOk "CamelStrawsModel" 104 34 41 (.array .int) true := FOk.mk0 cq_10 (by decide) (by decide) (by decide) rfl (tb_in 910 (by decide +kernel) rfl) rfl rfl
theorem fo_Mo_107_34 : FOk "CamelStrawsModel" 107 34 42 (.array .int) true := FOk.mk0 cq_10 (by decide) (by decide) (by decide) rfl (tb_in 911 (by decide +kernel) rfl) rfl rfl
theorem wk_Mo_180 : Cond.methodLink "CamelStrawsModel" 180 y_Mo_straw ∈ tb_l := (tb_in 1104 (by decide +kernel) rfl)
theorem ok_Mo_straw : MOk y_Mo_straw b_Mo_straw 3 (some .int) 2 := ⟨(tb_in 1082 (by decide +kernel) rfl), (tb_in 80 (by decide +kernel) rfl), by decide +kernel, by decide +kernel, by decide +kernel⟩
theorem wi_Mo_straw : Cond.instanceMethod y_Mo_straw ∈ tb_l := (tb_in 1080 (by decide +kernel) rfl)
theorem wl_Mo_Mo_straw : Cond.selects "CamelStrawsModel" y_Mo_straw y_Mo_straw ∈ tb_l := (tb_in 1081 (by decide +kernel) rfl)
theorem wk_Mo_177 : Cond.methodLink "CamelStrawsModel" 177 y_Mo_meets ∈ tb_l := (tb_in 1100 (by decide +kernel) rfl)
theorem ok_Mo_meets : MOk y_Mo_meets b_Mo_meets 2 (some .int) 1 := ⟨(tb_in 1103 (by decide +kernel) rfl), (tb_in 80 (by decide +kernel) rfl), by decide +kernel, by decide +kernel, by decide +kernel⟩
theorem wi_Mo_meets : Cond.instanceMethod y_Mo_meets ∈ tb_l := (tb_in 1102 (by decide +kernel) rfl)
theorem wl_Mo_Mo_meets : Cond.selects "CamelStrawsModel" y_Mo_meets y_Mo_meets ∈ tb_l := (tb_in 25 (by decide +kernel) rfl)
theorem fo_Mo_183_34 : FOk "CamelStrawsModel" 183 34 12 .int false := FOk.mk0 cq_10 (by decide) (by decide) (by decide) rfl (tb_in 881 (by decide +kernel) rfl) rfl rfl
theorem fo_Mo_37_34 : FOk "CamelStrawsModel" 37 34 13 (.array .int) true := FOk.mk0 cq_10 (by decide) (by decide) (by decide) rfl (tb_in 882 (by decide +kernel) rfl) rfl rfl
theorem fo_Mo_40_34 : FOk "CamelStrawsModel" 40 34 14 (.array .int) true := FOk.mk0 cq_10 (by decide) (by decide) (by decide) rfl (tb_in 883 (by decide +kernel) rfl) rfl rfl
theorem fo_Mo_186_34 : FOk "CamelStrawsModel" 186 34 15 .int false := FOk.mk0 cq_10 (by decide) (by decide) (by decide) rfl (tb_in 884 (by decide +kernel) rfl) rfl rfl
theorem fo_Mo_49_34 : FOk "CamelStrawsModel" 49 34 19 (.array .int) true := FOk.mk0 cq_10 (by decide) (by decide) (by decide) rfl (tb_in 888 (by decide +kernel) rfl) rfl rfl
theorem fo_Mo_43_34 : FOk "CamelStrawsModel" 43 34 17 (.array .int) true := FOk.mk0 cq_10 (by decide) (by decide) (by decide) rfl (tb_in 886 (by decide +kernel) rfl) rfl rfl
theorem fo_Mo_46_34 : FOk "CamelStrawsModel" 46 34 18 (.array .int) true := FOk.mk0 cq_10 (by decide) (by decide) (by decide) rfl (tb_in 887 (by decide +kernel) rfl) rfl rfl
theorem fo_Mo_189_34 : FOk "CamelStrawsModel" 189 34 23 .int false := FOk.mk0 cq_10 (by decide) (by decide) (by decide) rfl (tb_in 892 (by decide +kernel) rfl) rfl rfl
theorem fo_Mo_58_34 : FOk "CamelStrawsModel" 58 34 22 (.array .int) true := FOk.mk0 cq_10 (by decide) (by decide) (by decide) rfl (tb_in 891 (by decide +kernel) rfl) rfl rfl
theorem fo_Mo_192_34 : FOk "CamelStrawsModel" 192 34 24 .int false := FOk.mk0 cq_10 (by decide) (by decide) (by decide) rfl (tb_in 893 (by decide +kernel) rfl) rfl rfl
theorem fo_Mo_195_34 : FOk "CamelStrawsModel" 195 34 25 .int false := FOk.mk0 cq_10 (by decide) (by decide) (by decide) rfl (tb_in 894 (by decide +kernel) rfl) rfl rfl
theorem wk_Mo_198 : Cond.methodLink "CamelStrawsModel" 198 y_Mo_takes ∈ tb_l := (tb_in 1133 (by decide +kernel) rfl)
theorem ok_Mo_takes : MOk y_Mo_takes b_Mo_takes 2 (some .boolean) 1 := ⟨(tb_in 1136 (by decide +kernel) rfl), (tb_in 80 (by decide +kernel) rfl), by decide +kernel, by decide +kernel, by decide +kernel⟩
theorem wi_Mo_takes : Cond.instanceMethod y_Mo_takes ∈ tb_l := (tb_in 1135 (by decide +kernel) rfl)
theorem wl_Mo_Mo_takes : Cond.selects "CamelStrawsModel" y_Mo_takes y_Mo_takes ∈ tb_l := (tb_in 32 (by decide +kernel) rfl)
theorem wk_Mo_201 : Cond.methodLink "CamelStrawsModel" 201 y_Mo_breaks ∈ tb_l := (tb_in 1137 (by decide +kernel) rfl)
theorem ok_Mo_breaks : MOk y_Mo_breaks b_Mo_breaks 3 none 2 := ⟨(tb_in 1140 (by decide +kernel) rfl), (tb_in 80 (by decide +kernel) rfl), by decide +kernel, by decide +kernel, by decide +kernel⟩
theorem wi_Mo_breaks : Cond.instanceMethod y_Mo_breaks ∈ tb_l := (tb_in 1139 (by decide +kernel) rfl)
theorem wl_Mo_Mo_breaks : Cond.selects "CamelStrawsModel" y_Mo_breaks y_Mo_breaks ∈ tb_l := (tb_in 33 (by decide +kernel) rfl)
theorem fo_Mo_205_34 : FOk "CamelStrawsModel" 205 34 16 .boolean false := FOk.mk0 cq_10 (by decide) (by decide) (by decide) rfl (tb_in 885 (by decide +kernel) rfl) rfl rfl
theorem fo_Mo_52_34 : FOk "CamelStrawsModel" 52 34 20 (.array .int) true := FOk.mk0 cq_10 (by decide) (by decide) (by decide) rfl (tb_in 889 (by decide +kernel) rfl) rfl rfl
theorem wk_Mo_209 : Cond.methodLink "CamelStrawsModel" 209 y_Mo_isIn ∈ tb_l := (tb_in 1145 (by decide +kernel) rfl)
theorem ok_Mo_isIn : MOk y_Mo_isIn b_Mo_isIn 2 (some .boolean) 2 := ⟨(tb_in 1147 (by decide +kernel) rfl), (tb_in 80 (by decide +kernel) rfl), by decide +kernel, by decide +kernel, by decide +kernel⟩
theorem ws_Mo_isIn : Cond.static y_Mo_isIn ∈ tb_l := (tb_in 1146 (by decide +kernel) rfl)
theorem wk_Mo_213 : Cond.methodLink "CamelStrawsModel" 213 y_Mo_comesStraw ∈ tb_l := (tb_in 1148 (by decide +kernel) rfl)
theorem ok_Mo_comesStraw : MOk y_Mo_comesStraw b_Mo_comesStraw 3 none 2 := ⟨(tb_in 1151 (by decide +kernel) rfl), (tb_in 80 (by decide +kernel) rfl), by decide +kernel, by decide +kernel, by decide +kernel⟩
theorem wi_Mo_comesStraw : Cond.instanceMethod y_Mo_comesStraw ∈ tb_l := (tb_in 1150 (by decide +kernel) rfl)
theorem wl_Mo_Mo_comesStraw : Cond.selects "CamelStrawsModel" y_Mo_comesStraw y_Mo_comesStraw ∈ tb_l := (tb_in 35 (by decide +kernel) rfl)
theorem wk_Mo_216 : Cond.methodLink "CamelStrawsModel" 216 y_Mo_wears ∈ tb_l := (tb_in 1156 (by decide +kernel) rfl)
theorem ok_Mo_wears : MOk y_Mo_wears b_Mo_wears 3 (some .boolean) 2 := ⟨(tb_in 1159 (by decide +kernel) rfl), (tb_in 80 (by decide +kernel) rfl), by decide +kernel, by decide +kernel, by decide +kernel⟩
theorem wi_Mo_wears : Cond.instanceMethod y_Mo_wears ∈ tb_l := (tb_in 1158 (by decide +kernel) rfl)
theorem wl_Mo_Mo_wears : Cond.selects "CamelStrawsModel" y_Mo_wears y_Mo_wears ∈ tb_l := (tb_in 37 (by decide +kernel) rfl)
theorem fo_Mo_55_34 : FOk "CamelStrawsModel" 55 34 21 (.array .int) true := FOk.mk0 cq_10 (by decide) (by decide) (by decide) rfl (tb_in 890 (by decide +kernel) rfl) rfl rfl
theorem fo_Mo_61_34 : FOk "CamelStrawsModel" 61 34 26 (.array .int) true := FOk.mk0 cq_10 (by decide) (by decide) (by decide) rfl (tb_in 895 (by decide +kernel) rfl) rfl rfl
theorem fo_Mo_64_34 : FOk "CamelStrawsModel" 64 34 27 (.array .int) true := FOk.mk0 cq_10 (by decide) (by decide) (by decide) rfl (tb_in 896 (by decide +kernel) rfl) rfl rfl
theorem fo_Mo_67_34 : FOk "CamelStrawsModel" 67 34 28 (.array .int) true := FOk.mk0 cq_10 (by decide) (by decide) (by decide) rfl (tb_in 897 (by decide +kernel) rfl) rfl rfl
theorem fo_Mo_70_34 : FOk "CamelStrawsModel" 70 34 29 (.array .int) true := FOk.mk0 cq_10 (by decide) (by decide) (by decide) rfl (tb_in 898 (by decide +kernel) rfl) rfl rfl
theorem fo_Mo_73_34 : FOk "CamelStrawsModel" 73 34 30 (.array .int) true := FOk.mk0 cq_10 (by decide) (by decide) (by decide) rfl (tb_in 899 (by decide +kernel) rfl) rfl rfl
theorem fo_Mo_76_34 : FOk "CamelStrawsModel" 76 34 31 (.array .int) true := FOk.mk0 cq_10 (by decide) (by decide) (by decide) rfl (tb_in 900 (by decide +kernel) rfl) rfl rfl
theorem wk_Mo_219 : Cond.methodLink "CamelStrawsModel" 219 y_Mo_bears ∈ tb_l := (tb_in 1129 (by decide +kernel) rfl)
theorem ok_Mo_bears : MOk y_Mo_bears b_Mo_bears 3 none 1 := ⟨(tb_in 1132 (by decide +kernel) rfl), (tb_in 80 (by decide +kernel) rfl), by decide +kernel, by decide +kernel, by decide +kernel⟩
theorem wi_Mo_bears : Cond.instanceMethod y_Mo_bears ∈ tb_l := (tb_in 1131 (by decide +kernel) rfl)
theorem wl_Mo_Mo_bears : Cond.selects "CamelStrawsModel" y_Mo_bears y_Mo_bears ∈ tb_l := (tb_in 31 (by decide +kernel) rfl)
theorem wk_Mo_223 : Cond.methodLink "CamelStrawsModel" 223 y_Mo_comeStraws ∈ tb_l := (tb_in 1141 (by decide +kernel) rfl)
theorem ok_Mo_comeStraws : MOk y_Mo_comeStraws b_Mo_comeStraws 3 none 1 := ⟨(tb_in 1144 (by decide +kernel) rfl), (tb_in 80 (by decide +kernel) rfl), by decide +kernel, by decide +kernel, by decide +kernel⟩
theorem wi_Mo_comeStraws : Cond.instanceMethod y_Mo_comeStraws ∈ tb_l := (tb_in 1143 (by decide +kernel) rfl)
theorem wl_Mo_Mo_comeStraws : Cond.selects "CamelStrawsModel" y_Mo_comeStraws y_Mo_comeStraws ∈ tb_l := (tb_in 34 (by decide +kernel) rfl)
theorem wk_Mo_226 : Cond.methodLink "CamelStrawsModel" 226 y_Mo_tires ∈ tb_l := (tb_in 1152 (by decide +kernel) rfl)
theorem ok_Mo_tires : MOk y_Mo_tires b_Mo_tires 3 none 2 := ⟨(tb_in 1155 (by decide +kernel) rfl), (tb_in 80 (by decide +kernel) rfl), by decide +kernel, by decide +kernel, by decide +kernel⟩
theorem wi_Mo_tires : Cond.instanceMethod y_Mo_tires ∈ tb_l := (tb_in 1154 (by decide +kernel) rfl)
theorem wl_Mo_Mo_tires : Cond.selects "CamelStrawsModel" y_Mo_tires y_Mo_tires ∈ tb_l := (tb_in 36 (by decide +kernel) rfl)
theorem wk_Mo_229 : Cond.methodLink "CamelStrawsModel" 229 y_Mo_ends ∈ tb_l := (tb_in 1160 (by decide +kernel) rfl)
theorem ok_Mo_ends : MOk y_Mo_ends b_Mo_ends 4 none 2 := ⟨(tb_in 1163 (by decide +kernel) rfl), (tb_in 80 (by decide +kernel) rfl), by decide +kernel, by decide +kernel, by decide +kernel⟩
theorem wi_Mo_ends : Cond.instanceMethod y_Mo_ends ∈ tb_l := (tb_in 1162 (by decide +kernel) rfl)
theorem wl_Mo_Mo_ends : Cond.selects "CamelStrawsModel" y_Mo_ends y_Mo_ends ∈ tb_l := (tb_in 38 (by decide +kernel) rfl)
theorem wk_Mo_232 : Cond.methodLink "CamelStrawsModel" 232 y_Mo_goesBy ∈ tb_l := (tb_in 1125 (by decide +kernel) rfl)
theorem ok_Mo_goesBy : MOk y_Mo_goesBy b_Mo_goesBy 3 none 1 := ⟨(tb_in 1128 (by decide +kernel) rfl), (tb_in 80 (by decide +kernel) rfl), by decide +kernel, by decide +kernel, by decide +kernel⟩
theorem wi_Mo_goesBy : Cond.instanceMethod y_Mo_goesBy ∈ tb_l := (tb_in 1127 (by decide +kernel) rfl)
theorem wl_Mo_Mo_goesBy : Cond.selects "CamelStrawsModel" y_Mo_goesBy y_Mo_goesBy ∈ tb_l := (tb_in 30 (by decide +kernel) rfl)
theorem fo_Mo_79_34 : FOk "CamelStrawsModel" 79 34 32 (.array .int) true := FOk.mk0 cq_10 (by decide) (by decide) (by decide) rfl (tb_in 901 (by decide +kernel) rfl) rfl rfl
theorem wk_Mo_235 : Cond.methodLink "CamelStrawsModel" 235 y_Mo_asTold ∈ tb_l := (tb_in 1117 (by decide +kernel) rfl)
theorem ok_Mo_asTold : MOk y_Mo_asTold b_Mo_asTold 2 none 0 := ⟨(tb_in 1120 (by decide +kernel) rfl), (tb_in 80 (by decide +kernel) rfl), by decide +kernel, by decide +kernel, by decide +kernel⟩
theorem wi_Mo_asTold : Cond.instanceMethod y_Mo_asTold ∈ tb_l := (tb_in 1119 (by decide +kernel) rfl)
theorem wl_Mo_Mo_asTold : Cond.selects "CamelStrawsModel" y_Mo_asTold y_Mo_asTold ∈ tb_l := (tb_in 28 (by decide +kernel) rfl)
theorem wk_Mo_238 : Cond.methodLink "CamelStrawsModel" 238 y_Mo_runs ∈ tb_l := (tb_in 1121 (by decide +kernel) rfl)
theorem ok_Mo_runs : MOk y_Mo_runs b_Mo_runs 2 none 0 := ⟨(tb_in 1124 (by decide +kernel) rfl), (tb_in 80 (by decide +kernel) rfl), by decide +kernel, by decide +kernel, by decide +kernel⟩
theorem wi_Mo_runs : Cond.instanceMethod y_Mo_runs ∈ tb_l := (tb_in 1123 (by decide +kernel) rfl)
theorem wl_Mo_Mo_runs : Cond.selects "CamelStrawsModel" y_Mo_runs y_Mo_runs ∈ tb_l := (tb_in 29 (by decide +kernel) rfl)
theorem wk_Mo_241 : Cond.methodLink "CamelStrawsModel" 241 y_Mo_runsTold ∈ tb_l := (tb_in 1113 (by decide +kernel) rfl)
theorem ok_Mo_runsTold : MOk y_Mo_runsTold b_Mo_runsTold 1 none 0 := ⟨(tb_in 1116 (by decide +kernel) rfl), (tb_in 80 (by decide +kernel) rfl), by decide +kernel, by decide +kernel, by decide +kernel⟩
theorem wi_Mo_runsTold : Cond.instanceMethod y_Mo_runsTold ∈ tb_l := (tb_in 1115 (by decide +kernel) rfl)
theorem wl_Mo_Mo_runsTold : Cond.selects "CamelStrawsModel" y_Mo_runsTold y_Mo_runsTold ∈ tb_l := (tb_in 27 (by decide +kernel) rfl)
theorem wk_Mo_244 : Cond.methodLink "CamelStrawsModel" 244 y_Mo_atOf ∈ tb_l := (tb_in 1109 (by decide +kernel) rfl)
theorem ok_Mo_atOf : MOk y_Mo_atOf b_Mo_atOf 5 (some .int) 3 := ⟨(tb_in 1112 (by decide +kernel) rfl), (tb_in 80 (by decide +kernel) rfl), by decide +kernel, by decide +kernel, by decide +kernel⟩
theorem wi_Mo_atOf : Cond.instanceMethod y_Mo_atOf ∈ tb_l := (tb_in 1111 (by decide +kernel) rfl)
theorem wl_Mo_Mo_atOf : Cond.selects "CamelStrawsModel" y_Mo_atOf y_Mo_atOf ∈ tb_l := (tb_in 26 (by decide +kernel) rfl)
theorem wk_Mo_248 : Cond.methodLink "CamelStrawsModel" 248 y_Mo_throughNow ∈ tb_l := (tb_in 1172 (by decide +kernel) rfl)
theorem ok_Mo_throughNow : MOk y_Mo_throughNow b_Mo_throughNow 3 (some .int) 0 := ⟨(tb_in 1175 (by decide +kernel) rfl), (tb_in 80 (by decide +kernel) rfl), by decide +kernel, by decide +kernel, by decide +kernel⟩
theorem wi_Mo_throughNow : Cond.instanceMethod y_Mo_throughNow ∈ tb_l := (tb_in 1174 (by decide +kernel) rfl)
theorem wl_Mo_Mo_throughNow : Cond.selects "CamelStrawsModel" y_Mo_throughNow y_Mo_throughNow ∈ tb_l := (tb_in 40 (by decide +kernel) rfl)
theorem wk_Mo_252 : Cond.methodLink "CamelStrawsModel" 252 y_Mo_throughOf ∈ tb_l := (tb_in 1168 (by decide +kernel) rfl)
theorem ok_Mo_throughOf : MOk y_Mo_throughOf b_Mo_throughOf 1 (some .int) 0 := ⟨(tb_in 1171 (by decide +kernel) rfl), (tb_in 80 (by decide +kernel) rfl), by decide +kernel, by decide +kernel, by decide +kernel⟩
theorem wi_Mo_throughOf : Cond.instanceMethod y_Mo_throughOf ∈ tb_l := (tb_in 1170 (by decide +kernel) rfl)
theorem wl_Mo_Mo_throughOf : Cond.selects "CamelStrawsModel" y_Mo_throughOf y_Mo_throughOf ∈ tb_l := (tb_in 39 (by decide +kernel) rfl)
theorem wk_Mo_255 : Cond.methodLink "CamelStrawsModel" 255 y_Mo_lostOf ∈ tb_l := (tb_in 1180 (by decide +kernel) rfl)
theorem ok_Mo_lostOf : MOk y_Mo_lostOf b_Mo_lostOf 1 (some .int) 0 := ⟨(tb_in 1183 (by decide +kernel) rfl), (tb_in 80 (by decide +kernel) rfl), by decide +kernel, by decide +kernel, by decide +kernel⟩
theorem wi_Mo_lostOf : Cond.instanceMethod y_Mo_lostOf ∈ tb_l := (tb_in 1182 (by decide +kernel) rfl)
theorem wl_Mo_Mo_lostOf : Cond.selects "CamelStrawsModel" y_Mo_lostOf y_Mo_lostOf ∈ tb_l := (tb_in 41 (by decide +kernel) rfl)
theorem wk_Mo_258 : Cond.methodLink "CamelStrawsModel" 258 y_Mo_firstOf ∈ tb_l := (tb_in 1188 (by decide +kernel) rfl)
theorem ok_Mo_firstOf : MOk y_Mo_firstOf b_Mo_firstOf 2 (some .int) 1 := ⟨(tb_in 1191 (by decide +kernel) rfl), (tb_in 80 (by decide +kernel) rfl), by decide +kernel, by decide +kernel, by decide +kernel⟩
theorem wi_Mo_firstOf : Cond.instanceMethod y_Mo_firstOf ∈ tb_l := (tb_in 1190 (by decide +kernel) rfl)
theorem wl_Mo_Mo_firstOf : Cond.selects "CamelStrawsModel" y_Mo_firstOf y_Mo_firstOf ∈ tb_l := (tb_in 42 (by decide +kernel) rfl)
theorem wk_Mo_261 : Cond.methodLink "CamelStrawsModel" 261 y_Mo_bestOf ∈ tb_l := (tb_in 1196 (by decide +kernel) rfl)
theorem ok_Mo_bestOf : MOk y_Mo_bestOf b_Mo_bestOf 3 (some .int) 0 := ⟨(tb_in 1199 (by decide +kernel) rfl), (tb_in 80 (by decide +kernel) rfl), by decide +kernel, by decide +kernel, by decide +kernel⟩
theorem wi_Mo_bestOf : Cond.instanceMethod y_Mo_bestOf ∈ tb_l := (tb_in 1198 (by decide +kernel) rfl)
theorem wl_Mo_Mo_bestOf : Cond.selects "CamelStrawsModel" y_Mo_bestOf y_Mo_bestOf ∈ tb_l := (tb_in 43 (by decide +kernel) rfl)
theorem wk_Mo_264 : Cond.methodLink "CamelStrawsModel" 264 y_Mo_wholeOf ∈ tb_l := (tb_in 1204 (by decide +kernel) rfl)
theorem ok_Mo_wholeOf : MOk y_Mo_wholeOf b_Mo_wholeOf 3 (some .int) 0 := ⟨(tb_in 1207 (by decide +kernel) rfl), (tb_in 80 (by decide +kernel) rfl), by decide +kernel, by decide +kernel, by decide +kernel⟩
theorem wi_Mo_wholeOf : Cond.instanceMethod y_Mo_wholeOf ∈ tb_l := (tb_in 1206 (by decide +kernel) rfl)
theorem wl_Mo_Mo_wholeOf : Cond.selects "CamelStrawsModel" y_Mo_wholeOf y_Mo_wholeOf ∈ tb_l := (tb_in 44 (by decide +kernel) rfl)
theorem wk_Mo_267 : Cond.methodLink "CamelStrawsModel" 267 y_Mo_strengthOn ∈ tb_l := (tb_in 1216 (by decide +kernel) rfl)
theorem ok_Mo_strengthOn : MOk y_Mo_strengthOn b_Mo_strengthOn 4 (some .int) 1 := ⟨(tb_in 1219 (by decide +kernel) rfl), (tb_in 80 (by decide +kernel) rfl), by decide +kernel, by decide +kernel, by decide +kernel⟩
theorem wi_Mo_strengthOn : Cond.instanceMethod y_Mo_strengthOn ∈ tb_l := (tb_in 1218 (by decide +kernel) rfl)
theorem wl_Mo_Mo_strengthOn : Cond.selects "CamelStrawsModel" y_Mo_strengthOn y_Mo_strengthOn ∈ tb_l := (tb_in 46 (by decide +kernel) rfl)
theorem wk_Mo_270 : Cond.methodLink "CamelStrawsModel" 270 y_Mo_tiredOf ∈ tb_l := (tb_in 1212 (by decide +kernel) rfl)
theorem ok_Mo_tiredOf : MOk y_Mo_tiredOf b_Mo_tiredOf 3 (some .int) 0 := ⟨(tb_in 1215 (by decide +kernel) rfl), (tb_in 80 (by decide +kernel) rfl), by decide +kernel, by decide +kernel, by decide +kernel⟩
theorem wi_Mo_tiredOf : Cond.instanceMethod y_Mo_tiredOf ∈ tb_l := (tb_in 1214 (by decide +kernel) rfl)
theorem wl_Mo_Mo_tiredOf : Cond.selects "CamelStrawsModel" y_Mo_tiredOf y_Mo_tiredOf ∈ tb_l := (tb_in 45 (by decide +kernel) rfl)
theorem wk_Mo_273 : Cond.methodLink "CamelStrawsModel" 273 y_Mo_lastOf ∈ tb_l := (tb_in 1224 (by decide +kernel) rfl)
theorem ok_Mo_lastOf : MOk y_Mo_lastOf b_Mo_lastOf 4 (some .int) 2 := ⟨(tb_in 1227 (by decide +kernel) rfl), (tb_in 80 (by decide +kernel) rfl), by decide +kernel, by decide +kernel, by decide +kernel⟩
theorem wi_Mo_lastOf : Cond.instanceMethod y_Mo_lastOf ∈ tb_l := (tb_in 1226 (by decide +kernel) rfl)
theorem wl_Mo_Mo_lastOf : Cond.selects "CamelStrawsModel" y_Mo_lastOf y_Mo_lastOf ∈ tb_l := (tb_in 47 (by decide +kernel) rfl)
theorem wk_Mo_276 : Cond.methodLink "CamelStrawsModel" 276 y_Mo_bearOf ∈ tb_l := (tb_in 1232 (by decide +kernel) rfl)
theorem ok_Mo_bearOf : MOk y_Mo_bearOf b_Mo_bearOf 8 (some .int) 2 := ⟨(tb_in 1235 (by decide +kernel) rfl), (tb_in 80 (by decide +kernel) rfl), by decide +kernel, by decide +kernel, by decide +kernel⟩
theorem wi_Mo_bearOf : Cond.instanceMethod y_Mo_bearOf ∈ tb_l := (tb_in 1234 (by decide +kernel) rfl)
theorem wl_Mo_Mo_bearOf : Cond.selects "CamelStrawsModel" y_Mo_bearOf y_Mo_bearOf ∈ tb_l := (tb_in 48 (by decide +kernel) rfl)
theorem wk_Mo_279 : Cond.methodLink "CamelStrawsModel" 279 y_Mo_whenOf ∈ tb_l := (tb_in 1240 (by decide +kernel) rfl)
theorem ok_Mo_whenOf : MOk y_Mo_whenOf b_Mo_whenOf 8 (some .int) 2 := ⟨(tb_in 1243 (by decide +kernel) rfl), (tb_in 80 (by decide +kernel) rfl), by decide +kernel, by decide +kernel, by decide +kernel⟩
theorem wi_Mo_whenOf : Cond.instanceMethod y_Mo_whenOf ∈ tb_l := (tb_in 1242 (by decide +kernel) rfl)
theorem wl_Mo_Mo_whenOf : Cond.selects "CamelStrawsModel" y_Mo_whenOf y_Mo_whenOf ∈ tb_l := (tb_in 49 (by decide +kernel) rfl)
theorem wk_Mo_282 : Cond.methodLink "CamelStrawsModel" 282 y_Mo_brokeAll ∈ tb_l := (tb_in 1256 (by decide +kernel) rfl)
theorem ok_Mo_brokeAll : MOk y_Mo_brokeAll b_Mo_brokeAll 3 (some .int) 0 := ⟨(tb_in 1259 (by decide +kernel) rfl), (tb_in 80 (by decide +kernel) rfl), by decide +kernel, by decide +kernel, by decide +kernel⟩
theorem wi_Mo_brokeAll : Cond.instanceMethod y_Mo_brokeAll ∈ tb_l := (tb_in 1258 (by decide +kernel) rfl)
theorem wl_Mo_Mo_brokeAll : Cond.selects "CamelStrawsModel" y_Mo_brokeAll y_Mo_brokeAll ∈ tb_l := (tb_in 52 (by decide +kernel) rfl)
theorem wk_Mo_285 : Cond.methodLink "CamelStrawsModel" 285 y_Mo_isSpared ∈ tb_l := (tb_in 1252 (by decide +kernel) rfl)
theorem ok_Mo_isSpared : MOk y_Mo_isSpared b_Mo_isSpared 2 (some .boolean) 1 := ⟨(tb_in 1255 (by decide +kernel) rfl), (tb_in 80 (by decide +kernel) rfl), by decide +kernel, by decide +kernel, by decide +kernel⟩
theorem wi_Mo_isSpared : Cond.instanceMethod y_Mo_isSpared ∈ tb_l := (tb_in 1254 (by decide +kernel) rfl)
theorem wl_Mo_Mo_isSpared : Cond.selects "CamelStrawsModel" y_Mo_isSpared y_Mo_isSpared ∈ tb_l := (tb_in 51 (by decide +kernel) rfl)
theorem fo_Mo_82_34 : FOk "CamelStrawsModel" 82 34 33 (.array .int) true := FOk.mk0 cq_10 (by decide) (by decide) (by decide) rfl (tb_in 902 (by decide +kernel) rfl) rfl rfl
theorem wk_Mo_288 : Cond.methodLink "CamelStrawsModel" 288 y_Mo_spareBy ∈ tb_l := (tb_in 1248 (by decide +kernel) rfl)
theorem ok_Mo_spareBy : MOk y_Mo_spareBy b_Mo_spareBy 3 (some .int) 0 := ⟨(tb_in 1251 (by decide +kernel) rfl), (tb_in 80 (by decide +kernel) rfl), by decide +kernel, by decide +kernel, by decide +kernel⟩
theorem wi_Mo_spareBy : Cond.instanceMethod y_Mo_spareBy ∈ tb_l := (tb_in 1250 (by decide +kernel) rfl)
theorem wl_Mo_Mo_spareBy : Cond.selects "CamelStrawsModel" y_Mo_spareBy y_Mo_spareBy ∈ tb_l := (tb_in 50 (by decide +kernel) rfl)
theorem wk_Mo_291 : Cond.methodLink "CamelStrawsModel" 291 y_Mo_ofRow ∈ tb_l := (tb_in 1260 (by decide +kernel) rfl)
theorem ok_Mo_ofRow : MOk y_Mo_ofRow b_Mo_ofRow 3 (some .int) 2 := ⟨(tb_in 1263 (by decide +kernel) rfl), (tb_in 80 (by decide +kernel) rfl), by decide +kernel, by decide +kernel, by decide +kernel⟩
theorem wi_Mo_ofRow : Cond.instanceMethod y_Mo_ofRow ∈ tb_l := (tb_in 1262 (by decide +kernel) rfl)
theorem wl_Mo_Mo_ofRow : Cond.selects "CamelStrawsModel" y_Mo_ofRow y_Mo_ofRow ∈ tb_l := (tb_in 53 (by decide +kernel) rfl)
theorem fo_Mo_294_34 : FOk "CamelStrawsModel" 294 34 34 .int false := FOk.mk0 cq_10 (by decide) (by decide) (by decide) rfl (tb_in 903 (by decide +kernel) rfl) rfl rfl
theorem fo_Mo_85_34 : FOk "CamelStrawsModel" 85 34 35 (.array .int) true := FOk.mk0 cq_10 (by decide) (by decide) (by decide) rfl (tb_in 904 (by decide +kernel) rfl) rfl rfl
theorem fo_Mo_88_34 : FOk "CamelStrawsModel" 88 34 36 (.array .int) true := FOk.mk0 cq_10 (by decide) (by decide) (by decide) rfl (tb_in 905 (by decide +kernel) rfl) rfl rfl
theorem fo_Mo_91_34 : FOk "CamelStrawsModel" 91 34 37 (.array .int) true := FOk.mk0 cq_10 (by decide) (by decide) (by decide) rfl (tb_in 906 (by decide +kernel) rfl) rfl rfl
theorem wk_Mo_297 : Cond.methodLink "CamelStrawsModel" 297 y_Mo_isSeen ∈ tb_l := (tb_in 1280 (by decide +kernel) rfl)
theorem ok_Mo_isSeen : MOk y_Mo_isSeen b_Mo_isSeen 3 (some .boolean) 0 := ⟨(tb_in 1283 (by decide +kernel) rfl), (tb_in 80 (by decide +kernel) rfl), by decide +kernel, by decide +kernel, by decide +kernel⟩
theorem wi_Mo_isSeen : Cond.instanceMethod y_Mo_isSeen ∈ tb_l := (tb_in 1282 (by decide +kernel) rfl)
theorem wl_Mo_Mo_isSeen : Cond.selects "CamelStrawsModel" y_Mo_isSeen y_Mo_isSeen ∈ tb_l := (tb_in 55 (by decide +kernel) rfl)
theorem wk_Mo_301 : Cond.methodLink "CamelStrawsModel" 301 y_Mo_neverNow ∈ tb_l := (tb_in 1276 (by decide +kernel) rfl)
theorem ok_Mo_neverNow : MOk y_Mo_neverNow b_Mo_neverNow 3 (some .int) 0 := ⟨(tb_in 1279 (by decide +kernel) rfl), (tb_in 80 (by decide +kernel) rfl), by decide +kernel, by decide +kernel, by decide +kernel⟩
theorem wi_Mo_neverNow : Cond.instanceMethod y_Mo_neverNow ∈ tb_l := (tb_in 1278 (by decide +kernel) rfl)
theorem wl_Mo_Mo_neverNow : Cond.selects "CamelStrawsModel" y_Mo_neverNow y_Mo_neverNow ∈ tb_l := (tb_in 54 (by decide +kernel) rfl)
theorem fo_Mo_94_34 : FOk "CamelStrawsModel" 94 34 38 (.array .int) true := FOk.mk0 cq_10 (by decide) (by decide) (by decide) rfl (tb_in 907 (by decide +kernel) rfl) rfl rfl
theorem wk_Mo_307 : Cond.methodLink "CamelStrawsModel" 307 y_Mo_strongBy ∈ tb_l := (tb_in 1292 (by decide +kernel) rfl)
theorem ok_Mo_strongBy : MOk y_Mo_strongBy b_Mo_strongBy 6 (some .int) 1 := ⟨(tb_in 1295 (by decide +kernel) rfl), (tb_in 80 (by decide +kernel) rfl), by decide +kernel, by decide +kernel, by decide +kernel⟩
theorem wi_Mo_strongBy : Cond.instanceMethod y_Mo_strongBy ∈ tb_l := (tb_in 1294 (by decide +kernel) rfl)
theorem wl_Mo_Mo_strongBy : Cond.selects "CamelStrawsModel" y_Mo_strongBy y_Mo_strongBy ∈ tb_l := (tb_in 57 (by decide +kernel) rfl)
theorem wk_Mo_304 : Cond.methodLink "CamelStrawsModel" 304 y_Mo_sortsBy ∈ tb_l := (tb_in 1288 (by decide +kernel) rfl)
theorem ok_Mo_sortsBy : MOk y_Mo_sortsBy b_Mo_sortsBy 5 (some .int) 1 := ⟨(tb_in 1291 (by decide +kernel) rfl), (tb_in 80 (by decide +kernel) rfl), by decide +kernel, by decide +kernel, by decide +kernel⟩
theorem wi_Mo_sortsBy : Cond.instanceMethod y_Mo_sortsBy ∈ tb_l := (tb_in 1290 (by decide +kernel) rfl)
theorem wl_Mo_Mo_sortsBy : Cond.selects "CamelStrawsModel" y_Mo_sortsBy y_Mo_sortsBy ∈ tb_l := (tb_in 56 (by decide +kernel) rfl)
theorem wk_Mo_310 : Cond.methodLink "CamelStrawsModel" 310 y_Mo_askOf ∈ tb_l := (tb_in 1300 (by decide +kernel) rfl)
theorem ok_Mo_askOf : MOk y_Mo_askOf b_Mo_askOf 10 (some .int) 1 := ⟨(tb_in 1303 (by decide +kernel) rfl), (tb_in 80 (by decide +kernel) rfl), by decide +kernel, by decide +kernel, by decide +kernel⟩
theorem wi_Mo_askOf : Cond.instanceMethod y_Mo_askOf ∈ tb_l := (tb_in 1302 (by decide +kernel) rfl)
theorem wl_Mo_Mo_askOf : Cond.selects "CamelStrawsModel" y_Mo_askOf y_Mo_askOf ∈ tb_l := (tb_in 58 (by decide +kernel) rfl)
theorem wk_Mo_313 : Cond.methodLink "CamelStrawsModel" 313 y_Mo_lowest ∈ tb_l := (tb_in 1312 (by decide +kernel) rfl)
theorem ok_Mo_lowest : MOk y_Mo_lowest b_Mo_lowest 11 (some .long) 3 := ⟨(tb_in 1314 (by decide +kernel) rfl), (tb_in 80 (by decide +kernel) rfl), by decide +kernel, by decide +kernel, by decide +kernel⟩
theorem ws_Mo_lowest : Cond.static y_Mo_lowest ∈ tb_l := (tb_in 1313 (by decide +kernel) rfl)
theorem kl_Mo_113 : Cond.constantLong "CamelStrawsModel" 113 (-9223372036854775808) ∈ tb_l := (tb_in 1318 (by decide +kernel) rfl)
theorem wk_Mo_321 : Cond.methodLink "CamelStrawsModel" 321 y_Mo_no ∈ tb_l := (tb_in 1315 (by decide +kernel) rfl)
theorem ok_Mo_no : MOk y_Mo_no b_Mo_no 1 (some .long) 1 := ⟨(tb_in 1317 (by decide +kernel) rfl), (tb_in 80 (by decide +kernel) rfl), by decide +kernel, by decide +kernel, by decide +kernel⟩
theorem ws_Mo_no : Cond.static y_Mo_no ∈ tb_l := (tb_in 1316 (by decide +kernel) rfl)
theorem wk_Mo_317 : Cond.methodLink "CamelStrawsModel" 317 y_Mo_chanceOf ∈ tb_l := (tb_in 1308 (by decide +kernel) rfl)
theorem ok_Mo_chanceOf : MOk y_Mo_chanceOf b_Mo_chanceOf 10 (some .long) 3 := ⟨(tb_in 1311 (by decide +kernel) rfl), (tb_in 80 (by decide +kernel) rfl), by decide +kernel, by decide +kernel, by decide +kernel⟩
theorem wi_Mo_chanceOf : Cond.instanceMethod y_Mo_chanceOf ∈ tb_l := (tb_in 1310 (by decide +kernel) rfl)
theorem wl_Mo_Mo_chanceOf : Cond.selects "CamelStrawsModel" y_Mo_chanceOf y_Mo_chanceOf ∈ tb_l := (tb_in 59 (by decide +kernel) rfl)
theorem kc_Mo_325 : Cond.constant "CamelStrawsModel" 325 1103515245 ∈ tb_l := (tb_in 1327 (by decide +kernel) rfl)
theorem wk_Mo_326 : Cond.methodLink "CamelStrawsModel" 326 y_Mo_yearsOf ∈ tb_l := (tb_in 1323 (by decide +kernel) rfl)
theorem ok_Mo_yearsOf : MOk y_Mo_yearsOf b_Mo_yearsOf 6 (some .int) 3 := ⟨(tb_in 1326 (by decide +kernel) rfl), (tb_in 80 (by decide +kernel) rfl), by decide +kernel, by decide +kernel, by decide +kernel⟩
theorem wi_Mo_yearsOf : Cond.instanceMethod y_Mo_yearsOf ∈ tb_l := (tb_in 1325 (by decide +kernel) rfl)
theorem wl_Mo_Mo_yearsOf : Cond.selects "CamelStrawsModel" y_Mo_yearsOf y_Mo_yearsOf ∈ tb_l := (tb_in 60 (by decide +kernel) rfl)
theorem fo_Mo_101_34 : FOk "CamelStrawsModel" 101 34 40 (.array .int) true := FOk.mk0 cq_10 (by decide) (by decide) (by decide) rfl (tb_in 909 (by decide +kernel) rfl) rfl rfl
theorem wk_Mo_332 : Cond.methodLink "CamelStrawsModel" 332 y_Mo_lacks ∈ tb_l := (tb_in 1340 (by decide +kernel) rfl)
theorem ok_Mo_lacks : MOk y_Mo_lacks b_Mo_lacks 4 (some .int) 3 := ⟨(tb_in 1343 (by decide +kernel) rfl), (tb_in 80 (by decide +kernel) rfl), by decide +kernel, by decide +kernel, by decide +kernel⟩
theorem wi_Mo_lacks : Cond.instanceMethod y_Mo_lacks ∈ tb_l := (tb_in 1342 (by decide +kernel) rfl)
theorem wl_Mo_Mo_lacks : Cond.selects "CamelStrawsModel" y_Mo_lacks y_Mo_lacks ∈ tb_l := (tb_in 61 (by decide +kernel) rfl)
theorem wk_Mo_335 : Cond.methodLink "CamelStrawsModel" 335 y_Mo_keep ∈ tb_l := (tb_in 1344 (by decide +kernel) rfl)
theorem ok_Mo_keep : MOk y_Mo_keep b_Mo_keep 4 none 3 := ⟨(tb_in 1347 (by decide +kernel) rfl), (tb_in 80 (by decide +kernel) rfl), by decide +kernel, by decide +kernel, by decide +kernel⟩
theorem wi_Mo_keep : Cond.instanceMethod y_Mo_keep ∈ tb_l := (tb_in 1346 (by decide +kernel) rfl)
theorem wl_Mo_Mo_keep : Cond.selects "CamelStrawsModel" y_Mo_keep y_Mo_keep ∈ tb_l := (tb_in 62 (by decide +kernel) rfl)
theorem kc_Mo_339 : Cond.constant "CamelStrawsModel" 339 (-2147483648) ∈ tb_l := (tb_in 1352 (by decide +kernel) rfl)
theorem fo_Mo_110_34 : FOk "CamelStrawsModel" 110 34 43 (.array .int) true := FOk.mk0 cq_10 (by decide) (by decide) (by decide) rfl (tb_in 912 (by decide +kernel) rfl) rfl rfl
theorem wk_Mo_340 : Cond.methodLink "CamelStrawsModel" 340 y_Mo_feesAll ∈ tb_l := (tb_in 1369 (by decide +kernel) rfl)
theorem ok_Mo_feesAll : MOk y_Mo_feesAll b_Mo_feesAll 3 (some .int) 0 := ⟨(tb_in 1372 (by decide +kernel) rfl), (tb_in 80 (by decide +kernel) rfl), by decide +kernel, by decide +kernel, by decide +kernel⟩
theorem wi_Mo_feesAll : Cond.instanceMethod y_Mo_feesAll ∈ tb_l := (tb_in 1371 (by decide +kernel) rfl)
theorem wl_Mo_Mo_feesAll : Cond.selects "CamelStrawsModel" y_Mo_feesAll y_Mo_feesAll ∈ tb_l := (tb_in 64 (by decide +kernel) rfl)
theorem wk_Mo_343 : Cond.methodLink "CamelStrawsModel" 343 y_Mo_sumOf ∈ tb_l := (tb_in 1365 (by decide +kernel) rfl)
theorem ok_Mo_sumOf : MOk y_Mo_sumOf b_Mo_sumOf 2 (some .int) 1 := ⟨(tb_in 1368 (by decide +kernel) rfl), (tb_in 80 (by decide +kernel) rfl), by decide +kernel, by decide +kernel, by decide +kernel⟩
theorem wi_Mo_sumOf : Cond.instanceMethod y_Mo_sumOf ∈ tb_l := (tb_in 1367 (by decide +kernel) rfl)
theorem wl_Mo_Mo_sumOf : Cond.selects "CamelStrawsModel" y_Mo_sumOf y_Mo_sumOf ∈ tb_l := (tb_in 63 (by decide +kernel) rfl)
theorem kl_Mo_346 : Cond.constantLong "CamelStrawsModel" 346 31 ∈ tb_l := (tb_in 1378 (by decide +kernel) rfl)
theorem wk_Mo_348 : Cond.methodLink "CamelStrawsModel" 348 y_Mo_dayDigest ∈ tb_l := (tb_in 1388 (by decide +kernel) rfl)
theorem ok_Mo_dayDigest : MOk y_Mo_dayDigest b_Mo_dayDigest 8 (some .long) 3 := ⟨(tb_in 1391 (by decide +kernel) rfl), (tb_in 80 (by decide +kernel) rfl), by decide +kernel, by decide +kernel, by decide +kernel⟩
theorem wi_Mo_dayDigest : Cond.instanceMethod y_Mo_dayDigest ∈ tb_l := (tb_in 1390 (by decide +kernel) rfl)
theorem wl_Mo_Mo_dayDigest : Cond.selects "CamelStrawsModel" y_Mo_dayDigest y_Mo_dayDigest ∈ tb_l := (tb_in 67 (by decide +kernel) rfl)
theorem kl_Mo_352 : Cond.constantLong "CamelStrawsModel" 352 17 ∈ tb_l := (tb_in 1377 (by decide +kernel) rfl)
theorem wk_Mo_354 : Cond.methodLink "CamelStrawsModel" 354 y_Mo_count ∈ tb_l := (tb_in 1379 (by decide +kernel) rfl)
theorem ok_Mo_count : MOk y_Mo_count b_Mo_count 2 (some .int) 1 := ⟨(tb_in 1364 (by decide +kernel) rfl), (tb_in 80 (by decide +kernel) rfl), by decide +kernel, by decide +kernel, by decide +kernel⟩
theorem wi_Mo_count : Cond.instanceMethod y_Mo_count ∈ tb_l := (tb_in 1362 (by decide +kernel) rfl)
theorem wl_Mo_Mo_count : Cond.selects "CamelStrawsModel" y_Mo_count y_Mo_count ∈ tb_l := (tb_in 1363 (by decide +kernel) rfl)
theorem wk_Mo_357 : Cond.methodLink "CamelStrawsModel" 357 y_Mo_baleDigest ∈ tb_l := (tb_in 1380 (by decide +kernel) rfl)
theorem ok_Mo_baleDigest : MOk y_Mo_baleDigest b_Mo_baleDigest 7 (some .long) 2 := ⟨(tb_in 1383 (by decide +kernel) rfl), (tb_in 80 (by decide +kernel) rfl), by decide +kernel, by decide +kernel, by decide +kernel⟩
theorem wi_Mo_baleDigest : Cond.instanceMethod y_Mo_baleDigest ∈ tb_l := (tb_in 1382 (by decide +kernel) rfl)
theorem wl_Mo_Mo_baleDigest : Cond.selects "CamelStrawsModel" y_Mo_baleDigest y_Mo_baleDigest ∈ tb_l := (tb_in 65 (by decide +kernel) rfl)
theorem wk_Mo_361 : Cond.methodLink "CamelStrawsModel" 361 y_Mo_camelDigest ∈ tb_l := (tb_in 1384 (by decide +kernel) rfl)
theorem ok_Mo_camelDigest : MOk y_Mo_camelDigest b_Mo_camelDigest 6 (some .long) 2 := ⟨(tb_in 1387 (by decide +kernel) rfl), (tb_in 80 (by decide +kernel) rfl), by decide +kernel, by decide +kernel, by decide +kernel⟩
theorem wi_Mo_camelDigest : Cond.instanceMethod y_Mo_camelDigest ∈ tb_l := (tb_in 1386 (by decide +kernel) rfl)
theorem wl_Mo_Mo_camelDigest : Cond.selects "CamelStrawsModel" y_Mo_camelDigest y_Mo_camelDigest ∈ tb_l := (tb_in 66 (by decide +kernel) rfl)
end
section
def f_CS_isText (a1 : Int32) (h0 : HP) : Option (Int32 × HP) :=
 (if a1 < 0 then
 some (0, h0)
 else
 (if 2 ≤ a1 then
 some (0, h0)
 else
 some (1, h0)))
set_option maxRecDepth 20000 in
set_option maxHeartbeats 4000000 in
theorem m_CS_isText (l : Launch) (g : GG) (ad : Nat → Nat) (a1 : Int32) (h0 : HP) : CM l g ad y_CS_isText b_CS_isText 1 (some .boolean) rm_CS_isText [.int a1] h0 enI (f_CS_isText a1 h0) := by
  refine CM.of (by decide) (Nat.le_of_ble_eq_true rfl) (fun Q => ?_)
  show Jj _ _ (Vw (kx_CS_isText l g Q) 0 0 0 _ _ _)
  refine J_sub [0] (lv' := [(0, .int a1)]) rfl ?_
  unfold f_CS_isText
  refine J_iload_n 0 rfl d_CS_isText_0 ?_
  refine J_if_lt 13 rfl d_CS_isText_1 (fun c2 => ?_) (fun c2 => ?_)
  · refine J_iconst (v := 0) rfl d_CS_isText_13 ?_
    exact J_zret (Nat.le_refl _) (Nat.le_refl _) d_CS_isText_14 rfl (zfit (Or.inl rfl)).1 (fun hx => hx)
  · refine J_iload_n 0 rfl d_CS_isText_4 ?_
    refine J_iconst (v := 2) rfl d_CS_isText_5 ?_
    refine J_icmp_ge 13 rfl d_CS_isText_6 (fun c3 => ?_) (fun c3 => ?_)
    · refine J_iconst (v := 0) rfl d_CS_isText_13 ?_
      exact J_zret (Nat.le_refl _) (Nat.le_refl _) d_CS_isText_14 rfl (zfit (Or.inl rfl)).1 (fun hx => hx)
    · refine J_iconst (v := 1) rfl d_CS_isText_9 ?_
      refine J_goto 14 rfl d_CS_isText_10 ?_
      exact J_zret (Nat.le_refl _) (Nat.le_refl _) d_CS_isText_14 rfl (zfit (Or.inr rfl)).1 (fun hx => hx)
def f_CS_isBetween (a1 : Int32) (a2 : Int32) (a3 : Int32) (h0 : HP) : Option (Int32 × HP) :=
 (if a1 < a2 then
 some (0, h0)
 else
 (if a3 < a1 then
 some (0, h0)
 else
 some (1, h0)))
set_option maxRecDepth 20000 in
set_option maxHeartbeats 4000000 in
theorem m_CS_isBetween (l : Launch) (g : GG) (ad : Nat → Nat) (a1 : Int32) (a2 : Int32) (a3 : Int32) (h0 : HP) : CM l g ad y_CS_isBetween b_CS_isBetween 3 (some .boolean) rm_CS_isBetween [.int a1, .int a2, .int a3] h0 enI (f_CS_isBetween a1 a2 a3 h0) := by
  refine CM.of (by decide) (Nat.le_of_ble_eq_true rfl) (fun Q => ?_)
  show Jj _ _ (Vw (kx_CS_isBetween l g Q) 0 0 0 _ _ _)
  refine J_sub [0, 1, 2] (lv' := [(0, .int a1), (1, .int a2), (2, .int a3)]) rfl ?_
  unfold f_CS_isBetween
  refine J_iload_n 0 rfl d_CS_isBetween_0 ?_
  refine J_iload_n 1 rfl d_CS_isBetween_1 ?_
  refine J_icmp_lt 14 rfl d_CS_isBetween_2 (fun c4 => ?_) (fun c4 => ?_)
  · refine J_iconst (v := 0) rfl d_CS_isBetween_14 ?_
    exact J_zret (Nat.le_refl _) (Nat.le_refl _) d_CS_isBetween_15 rfl (zfit (Or.inl rfl)).1 (fun hx => hx)
  · refine J_iload_n 0 rfl d_CS_isBetween_5 ?_
    refine J_iload_n 2 rfl d_CS_isBetween_6 ?_
    refine J_icmp_gt 14 rfl d_CS_isBetween_7 (fun c5 => ?_) (fun c5 => ?_)
    · refine J_iconst (v := 0) rfl d_CS_isBetween_14 ?_
      exact J_zret (Nat.le_refl _) (Nat.le_refl _) d_CS_isBetween_15 rfl (zfit (Or.inl rfl)).1 (fun hx => hx)
    · refine J_iconst (v := 1) rfl d_CS_isBetween_10 ?_
      refine J_goto 15 rfl d_CS_isBetween_11 ?_
      exact J_zret (Nat.le_refl _) (Nat.le_refl _) d_CS_isBetween_15 rfl (zfit (Or.inr rfl)).1 (fun hx => hx)
def f_Ca_fits (a1 : Int32) (a2 : Int32) (h0 : HP) : Option (Int32 × HP) :=
 (if a1 = 0 then
 (if a2 = 121 then
 some (1, h0)
 else
 (if a2 = 111 then
 some (1, h0)
 else
 (if a2 = 115 then
 some (1, h0)
 else
 some (0, h0))))
 else
 (if a1 = 1 then
 bd2 (f_CS_isBetween a2 49 57 h0) (fun (v8 : Int32) (h9 : HP) =>
 ckk (z01 v8) (some (v8, h9)))
 else
 (if a2 = 59 then
 some (1, h0)
 else
 some (0, h0))))
set_option maxRecDepth 20000 in
set_option maxHeartbeats 4000000 in
theorem m_Ca_fits (l : Launch) (g : GG) (ad : Nat → Nat) (a1 : Int32) (a2 : Int32) (h0 : HP) : CM l g ad y_Ca_fits b_Ca_fits 3 (some .boolean) rm_Ca_fits [.ref (ad 70), .int a1, .int a2] h0 enI (f_Ca_fits a1 a2 h0) := by
  refine CM.of (by decide) (Nat.le_of_ble_eq_true rfl) (fun Q => ?_)
  show Jj _ _ (Vw (kx_Ca_fits l g Q) 0 0 0 _ _ _)
  refine J_sub [0, 1, 2] (lv' := [(0, .ref (ad 70)), (1, .int a1), (2, .int a2)]) rfl ?_
  unfold f_Ca_fits
  refine J_iload_n 1 rfl d_Ca_fits_0 ?_
  refine J_ite (fun c3 => ?_) (fun c3 => ?_)
  · refine J_lsw 28 (by decide) (by rw [c3]; rfl) rfl d_Ca_fits_1 ?_
    refine J_iload_n 2 rfl d_Ca_fits_28 ?_
    refine J_bipush (v := 121) rfl d_Ca_fits_29 ?_
    refine J_icmp_eq 46 rfl d_Ca_fits_31 (fun c4 => ?_) (fun c4 => ?_)
    · refine J_iconst (v := 1) rfl d_Ca_fits_46 ?_
      refine J_goto 51 rfl d_Ca_fits_47 ?_
      exact J_zret (Nat.le_refl _) (Nat.le_refl _) d_Ca_fits_51 rfl (zfit (Or.inr rfl)).1 (fun hx => hx)
    · refine J_iload_n 2 rfl d_Ca_fits_34 ?_
      refine J_bipush (v := 111) rfl d_Ca_fits_35 ?_
      refine J_icmp_eq 46 rfl d_Ca_fits_37 (fun c5 => ?_) (fun c5 => ?_)
      · refine J_iconst (v := 1) rfl d_Ca_fits_46 ?_
        refine J_goto 51 rfl d_Ca_fits_47 ?_
        exact J_zret (Nat.le_refl _) (Nat.le_refl _) d_Ca_fits_51 rfl (zfit (Or.inr rfl)).1 (fun hx => hx)
      · refine J_iload_n 2 rfl d_Ca_fits_40 ?_
        refine J_bipush (v := 115) rfl d_Ca_fits_41 ?_
        refine J_icmp_ne 50 rfl d_Ca_fits_43 (fun c6 => ?_) (fun c6 => ?_)
        · refine J_iconst (v := 0) rfl d_Ca_fits_50 ?_
          exact J_zret (Nat.le_refl _) (Nat.le_refl _) d_Ca_fits_51 rfl (zfit (Or.inl rfl)).1 (fun hx => hx)
        · refine J_iconst (v := 1) rfl d_Ca_fits_46 ?_
          refine J_goto 51 rfl d_Ca_fits_47 ?_
          exact J_zret (Nat.le_refl _) (Nat.le_refl _) d_Ca_fits_51 rfl (zfit (Or.inr rfl)).1 (fun hx => hx)
  · refine J_ite (fun c7 => ?_) (fun c7 => ?_)
    · refine J_lsw 52 (by decide) (by rw [c7]; rfl) rfl d_Ca_fits_1 ?_
      refine J_iload_n 2 rfl d_Ca_fits_52 ?_
      refine J_bipush (v := 49) rfl d_Ca_fits_53 ?_
      refine J_bipush (v := 57) rfl d_Ca_fits_55 ?_
      refine J_callSNi (m_CS_isBetween l g ad _ _ _ _) ok_CS_isBetween ws_CS_isBetween wk_Ca_18 ⟨rfl, rfl, Nat.le_of_ble_eq_true rfl, Nat.le_of_ble_eq_true rfl⟩ ⟨Nat.zero_le _, Nat.zero_le _⟩ (rest := []) rfl rfl (Nat.le_of_ble_eq_true rfl) d_Ca_fits_57 (fun v8 h9 => ?_)
      exact P_zret (Nat.le_refl _) (Nat.le_refl _) d_Ca_fits_60 rfl (fun hx => hx)
    · refine J_lsw 61 (by decide) (by rw [lv_osw c3 rfl]; rw [lv_osw c7 rfl]; rfl) rfl d_Ca_fits_1 ?_
      refine J_iload_n 2 rfl d_Ca_fits_61 ?_
      refine J_bipush (v := 59) rfl d_Ca_fits_62 ?_
      refine J_icmp_ne 71 rfl d_Ca_fits_64 (fun c10 => ?_) (fun c10 => ?_)
      · refine J_iconst (v := 0) rfl d_Ca_fits_71 ?_
        exact J_zret (Nat.le_refl _) (Nat.le_refl _) d_Ca_fits_72 rfl (zfit (Or.inl rfl)).1 (fun hx => hx)
      · refine J_iconst (v := 1) rfl d_Ca_fits_67 ?_
        refine J_goto 72 rfl d_Ca_fits_68 ?_
        exact J_zret (Nat.le_refl _) (Nat.le_refl _) d_Ca_fits_72 rfl (zfit (Or.inr rfl)).1 (fun hx => hx)
def f_Ba_fits (a1 : Int32) (a2 : Int32) (h0 : HP) : Option (Int32 × HP) :=
 (if a1 = 0 then
 bd2 (f_CS_isBetween a2 97 104 h0) (fun (v4 : Int32) (h5 : HP) =>
 ckk (z01 v4) (some (v4, h5)))
 else
 (if a1 = 1 then
 bd2 (f_CS_isBetween a2 49 57 h0) (fun (v7 : Int32) (h8 : HP) =>
 ckk (z01 v7) (some (v7, h8)))
 else
 (if a1 = 2 then
 bd2 (f_CS_isBetween a2 97 120 h0) (fun (v10 : Int32) (h11 : HP) =>
 ckk (z01 v10) (some (v10, h11)))
 else
 (if a2 = 59 then
 some (1, h0)
 else
 some (0, h0)))))
set_option maxRecDepth 20000 in
set_option maxHeartbeats 4000000 in
theorem m_Ba_fits (l : Launch) (g : GG) (ad : Nat → Nat) (a1 : Int32) (a2 : Int32) (h0 : HP) : CM l g ad y_Ba_fits b_Ba_fits 3 (some .boolean) rm_Ba_fits [.ref (ad 66), .int a1, .int a2] h0 enI (f_Ba_fits a1 a2 h0) := by
  refine CM.of (by decide) (Nat.le_of_ble_eq_true rfl) (fun Q => ?_)
  show Jj _ _ (Vw (kx_Ba_fits l g Q) 0 0 0 _ _ _)
  refine J_sub [0, 1, 2] (lv' := [(0, .ref (ad 66)), (1, .int a1), (2, .int a2)]) rfl ?_
  unfold f_Ba_fits
  refine J_iload_n 1 rfl d_Ba_fits_0 ?_
  refine J_ite (fun c3 => ?_) (fun c3 => ?_)
  · refine J_tswIn 28 (by rw [c3]; decide) (by rw [c3]; decide) (by rw [c3]; rfl) rfl d_Ba_fits_1 ?_
    refine J_iload_n 2 rfl d_Ba_fits_28 ?_
    refine J_bipush (v := 97) rfl d_Ba_fits_29 ?_
    refine J_bipush (v := 104) rfl d_Ba_fits_31 ?_
    refine J_callSNi (m_CS_isBetween l g ad _ _ _ _) ok_CS_isBetween ws_CS_isBetween wk_Ba_21 ⟨rfl, rfl, Nat.le_of_ble_eq_true rfl, Nat.le_of_ble_eq_true rfl⟩ ⟨Nat.zero_le _, Nat.zero_le _⟩ (rest := []) rfl rfl (Nat.le_of_ble_eq_true rfl) d_Ba_fits_33 (fun v4 h5 => ?_)
    exact P_zret (Nat.le_refl _) (Nat.le_refl _) d_Ba_fits_36 rfl (fun hx => hx)
  · refine J_ite (fun c6 => ?_) (fun c6 => ?_)
    · refine J_tswIn 37 (by rw [c6]; decide) (by rw [c6]; decide) (by rw [c6]; rfl) rfl d_Ba_fits_1 ?_
      refine J_iload_n 2 rfl d_Ba_fits_37 ?_
      refine J_bipush (v := 49) rfl d_Ba_fits_38 ?_
      refine J_bipush (v := 57) rfl d_Ba_fits_40 ?_
      refine J_callSNi (m_CS_isBetween l g ad _ _ _ _) ok_CS_isBetween ws_CS_isBetween wk_Ba_21 ⟨rfl, rfl, Nat.le_of_ble_eq_true rfl, Nat.le_of_ble_eq_true rfl⟩ ⟨Nat.zero_le _, Nat.zero_le _⟩ (rest := []) rfl rfl (Nat.le_of_ble_eq_true rfl) d_Ba_fits_42 (fun v7 h8 => ?_)
      exact P_zret (Nat.le_refl _) (Nat.le_refl _) d_Ba_fits_45 rfl (fun hx => hx)
    · refine J_ite (fun c9 => ?_) (fun c9 => ?_)
      · refine J_tswIn 46 (by rw [c9]; decide) (by rw [c9]; decide) (by rw [c9]; rfl) rfl d_Ba_fits_1 ?_
        refine J_iload_n 2 rfl d_Ba_fits_46 ?_
        refine J_bipush (v := 97) rfl d_Ba_fits_47 ?_
        refine J_bipush (v := 120) rfl d_Ba_fits_49 ?_
        refine J_callSNi (m_CS_isBetween l g ad _ _ _ _) ok_CS_isBetween ws_CS_isBetween wk_Ba_21 ⟨rfl, rfl, Nat.le_of_ble_eq_true rfl, Nat.le_of_ble_eq_true rfl⟩ ⟨Nat.zero_le _, Nat.zero_le _⟩ (rest := []) rfl rfl (Nat.le_of_ble_eq_true rfl) d_Ba_fits_51 (fun v10 h11 => ?_)
        exact P_zret (Nat.le_refl _) (Nat.le_refl _) d_Ba_fits_54 rfl (fun hx => hx)
      · refine J_tswOut 55 (by have e0 := lv_neT (a := 0) c3 rfl; have e1 := lv_neT (a := 1) c6 rfl; have e2 := lv_neT (a := 2) c9 rfl; omega) rfl d_Ba_fits_1 ?_
        refine J_iload_n 2 rfl d_Ba_fits_55 ?_
        refine J_bipush (v := 59) rfl d_Ba_fits_56 ?_
        refine J_icmp_ne 65 rfl d_Ba_fits_58 (fun c12 => ?_) (fun c12 => ?_)
        · refine J_iconst (v := 0) rfl d_Ba_fits_65 ?_
          exact J_zret (Nat.le_refl _) (Nat.le_refl _) d_Ba_fits_66 rfl (zfit (Or.inl rfl)).1 (fun hx => hx)
        · refine J_iconst (v := 1) rfl d_Ba_fits_61 ?_
          refine J_goto 66 rfl d_Ba_fits_62 ?_
          exact J_zret (Nat.le_refl _) (Nat.le_refl _) d_Ba_fits_66 rfl (zfit (Or.inr rfl)).1 (fun hx => hx)
def lp_Tx_findFault_4 (o1 : Nat) : Nat → Int32 → Int32 → HP → Option (Int32 × HP)
 | 0, _, _, _ => none
 | fu + 1, v2, v3, h4 =>
 ltt (rI h4 o1 2) (fun (v5 : Int32) =>
 (if v5 ≤ v2 then
 ltt (rI h4 o1 2) (fun (v7 : Int32) =>
 bd1 ((if v7 = 0 then
 some (1)
 else
 ltt (rI h4 o1 1) (fun (v10 : Int32) =>
 (if v3 = v10 - 1 then
 some (1)
 else
 some (0)))) : Option (Int32)) (fun (v8 : Int32) =>
 (if v8 = 0 then
 ltt (rI h4 o1 2) (fun (v13 : Int32) =>
 some (v13, h4))
 else
 some ((-1), h4))))
 else
 ltt (rf1 o1 0) (fun (o14 : Nat) =>
 ckk (inb v2 (ln o14)) (ltt (rA h4 o14 v2) (fun (v15 : Int32) =>
 bd2 (if o1 = 70 then f_Ca_fits v3 v15 h4 else f_Ba_fits v3 v15 h4) (fun (v16 : Int32) (h17 : HP) =>
 (if v16 = 0 then
 some (v2, h17)
 else
 ltt (rI h17 o1 1) (fun (v19 : Int32) =>
 bd1 ((if v3 = v19 - 1 then
 some (0)
 else
 some (v3 + 1)) : Option (Int32)) (fun (v20 : Int32) =>
 ltt (v2 + 1) (fun (v22 : Int32) =>
 lp_Tx_findFault_4 o1 fu v22 v20 h17))))))))))
def f_Tx_findFault (o1 : Nat) (h0 : HP) : Option (Int32 × HP) :=
 lp_Tx_findFault_4 o1 400 0 0 h0
set_option maxRecDepth 20000 in
set_option maxHeartbeats 4000000 in
theorem mlp_Tx_findFault_4 (l : Launch) (g : GG) (ad : Nat → Nat) (Q : Option Value → va_W → Prop) (o1 : Nat) (ho1 : o1 ∈ [70, 66]) : ∀ (fu : Nat) (v2 : Int32) (v3 : Int32) (h4 : HP), Jj (fun a : Int32 × HP => Q (enI a).1 (pic g ad (enI a).2)) (lp_Tx_findFault_4 o1 fu v2 v3 h4) (Vw (kx_Tx_findFault l g Q) 0 0 4 [(2, .int v2), (1, .int v3), (0, .ref (ad o1))] [] (pic g ad h4)) := by
  intro fu
  induction fu with
  | zero =>
    intro v2 v3 h4
    exact J_none
  | succ fu ih =>
    intro v2 v3 h4
    rw [lp_Tx_findFault_4]
    refine J_iload_n 0 rfl d_Tx_findFault_4 ?_
    refine J_aload_n 2 rfl d_Tx_findFault_5 ?_
    refine P_gI (fo_Tx_22_s70_66 _ ho1) (fd_s70_66_2 _ ho1) d_Tx_findFault_6 (fun v5 => ?_)
    refine J_icmp_ge 52 rfl d_Tx_findFault_9 (fun c6 => ?_) (fun c6 => ?_)
    · refine J_aload_n 2 rfl d_Tx_findFault_52 ?_
      refine P_gI (fo_Tx_22_s70_66 _ ho1) (fd_s70_66_2 _ ho1) d_Tx_findFault_53 (fun v7 => ?_)
      refine J_bd1 (fun (v8 : Int32) => Vw (kx_Tx_findFault l g Q) 0 0 74 [(2, .int v2), (1, .int v3), (0, .ref (ad o1))] [.int v8] (pic g ad h4)) ?_ (fun v8 => ?_)
      · refine J_if_eq 69 rfl d_Tx_findFault_56 (fun c9 => ?_) (fun c9 => ?_)
        · refine J_iconst (v := 1) rfl d_Tx_findFault_69 ?_
          refine J_goto 74 rfl d_Tx_findFault_70 ?_
          exact J_exit [0, 1, 2] rfl (fun hx => hx)
        · refine J_iload_n 1 rfl d_Tx_findFault_59 ?_
          refine J_aload_n 2 rfl d_Tx_findFault_60 ?_
          refine P_gI (fo_Tx_19_s70_66 _ ho1) (fd_s70_66_1 _ ho1) d_Tx_findFault_61 (fun v10 => ?_)
          refine J_iconst (v := 1) rfl d_Tx_findFault_64 ?_
          refine J_isub d_Tx_findFault_65 ?_
          refine J_icmp_ne 73 rfl d_Tx_findFault_66 (fun c11 => ?_) (fun c11 => ?_)
          · refine J_iconst (v := 0) rfl d_Tx_findFault_73 ?_
            exact J_exit [0, 1, 2] rfl (fun hx => hx)
          · refine J_iconst (v := 1) rfl d_Tx_findFault_69 ?_
            refine J_goto 74 rfl d_Tx_findFault_70 ?_
            exact J_exit [0, 1, 2] rfl (fun hx => hx)
      · refine J_istore_n (lv' := [(2, .int v8), (1, .int v3), (0, .ref (ad o1))]) 2 rfl (Nat.le_of_ble_eq_true rfl) rfl d_Tx_findFault_74 ?_
        refine J_iload_n 0 rfl d_Tx_findFault_75 ?_
        refine J_if_eq 83 rfl d_Tx_findFault_76 (fun c12 => ?_) (fun c12 => ?_)
        · refine J_aload_n 2 rfl d_Tx_findFault_83 ?_
          refine P_gI (fo_Tx_22_s70_66 _ ho1) (fd_s70_66_2 _ ho1) d_Tx_findFault_84 (fun v13 => ?_)
          exact J_iret (Nat.le_refl _) (Nat.le_refl _) d_Tx_findFault_87 rfl (fun hx => hx)
        · refine J_iconst (v := (-1)) rfl d_Tx_findFault_79 ?_
          refine J_goto 87 rfl d_Tx_findFault_80 ?_
          exact J_iret (Nat.le_refl _) (Nat.le_refl _) d_Tx_findFault_87 rfl (fun hx => hx)
    · refine J_aload_n 2 rfl d_Tx_findFault_12 ?_
      refine J_iload_n 1 rfl d_Tx_findFault_13 ?_
      refine J_aload_n 2 rfl d_Tx_findFault_14 ?_
      refine P_gRv (rm_s70_66_0 _ ho1) (fo_Tx_15_s70_66 _ ho1) (fd_s70_66_0 _ ho1) d_Tx_findFault_15 (fun o14 ho14 => ?_)
      refine J_iload_n 0 rfl d_Tx_findFault_18 ?_
      refine P_ia (al_s69_65 _ ho14) (ak_s69_65 _ ho14) rfl d_Tx_findFault_19 (fun v15 => ?_)
      refine P_callDi ho1 (m_Ca_fits l g ad _ _ _) (m_Ba_fits l g ad _ _ _) ok_Ca_fits ok_Ba_fits ⟨rc_70, uo_Ca_Ca_fits⟩ ⟨rc_66, uo_Ba_Ba_fits⟩ wk_Tx_39 ⟨rfl, rfl, Nat.le_of_ble_eq_true rfl, Nat.le_of_ble_eq_true rfl⟩ ⟨rfl, rfl, Nat.le_of_ble_eq_true rfl, Nat.le_of_ble_eq_true rfl⟩ ⟨Nat.zero_le _, Nat.zero_le _⟩ (rest := []) rfl rfl (Nat.le_of_ble_eq_true rfl) d_Tx_findFault_20 (fun v16 h17 => ?_)
      refine J_if_ne 28 rfl d_Tx_findFault_23 (fun c18 => ?_) (fun c18 => ?_)
      · refine J_iload_n 1 rfl d_Tx_findFault_28 ?_
        refine J_aload_n 2 rfl d_Tx_findFault_29 ?_
        refine P_gI (fo_Tx_19_s70_66 _ ho1) (fd_s70_66_1 _ ho1) d_Tx_findFault_30 (fun v19 => ?_)
        refine J_iconst (v := 1) rfl d_Tx_findFault_33 ?_
        refine J_isub d_Tx_findFault_34 ?_
        refine J_bd1 (fun (v20 : Int32) => Vw (kx_Tx_findFault l g Q) 0 0 45 [(2, .int v2), (1, .int v3), (0, .ref (ad o1))] [.int v20] (pic g ad h17)) ?_ (fun v20 => ?_)
        · refine J_icmp_ne 42 rfl d_Tx_findFault_35 (fun c21 => ?_) (fun c21 => ?_)
          · refine J_iload_n 1 rfl d_Tx_findFault_42 ?_
            refine J_iconst (v := 1) rfl d_Tx_findFault_43 ?_
            refine J_iadd d_Tx_findFault_44 ?_
            exact J_exit [0, 1, 2] rfl (fun hx => hx)
          · refine J_iconst (v := 0) rfl d_Tx_findFault_38 ?_
            refine J_goto 45 rfl d_Tx_findFault_39 ?_
            exact J_exit [0, 1, 2] rfl (fun hx => hx)
        · refine J_istore_n (lv' := [(1, .int v20), (2, .int v2), (0, .ref (ad o1))]) 1 rfl (Nat.le_of_ble_eq_true rfl) rfl d_Tx_findFault_45 ?_
          refine P_inc (w := 1) (lv' := fun v22 => [(2, .int v22), (1, .int v20), (0, .ref (ad o1))]) 1 rfl rfl (Nat.le_of_ble_eq_true rfl) (fun _ => rfl) d_Tx_findFault_46 (fun v22 => ?_)
          refine J_goto 4 rfl d_Tx_findFault_49 ?_
          exact J_sub [0, 1, 2] rfl (ih _ _ _)
      · refine J_iload_n 0 rfl d_Tx_findFault_26 ?_
        exact J_iret (Nat.le_refl _) (Nat.le_refl _) d_Tx_findFault_27 rfl (fun hx => hx)
set_option maxRecDepth 20000 in
set_option maxHeartbeats 4000000 in
theorem m_Tx_findFault (l : Launch) (g : GG) (ad : Nat → Nat) (o1 : Nat) (ho1 : o1 ∈ [70, 66]) (h0 : HP) : CM l g ad y_Tx_findFault b_Tx_findFault 3 (some .int) rm_Tx_findFault [.ref (ad o1)] h0 enI (f_Tx_findFault o1 h0) := by
  refine CM.of (by decide) (Nat.le_of_ble_eq_true rfl) (fun Q => ?_)
  show Jj _ _ (Vw (kx_Tx_findFault l g Q) 0 0 0 _ _ _)
  refine J_sub [0] (lv' := [(0, .ref (ad o1))]) rfl ?_
  unfold f_Tx_findFault
  refine J_iconst (v := 0) rfl d_Tx_findFault_0 ?_
  refine J_istore_n (lv' := [(1, .int 0), (0, .ref (ad o1))]) 1 rfl (Nat.le_of_ble_eq_true rfl) rfl d_Tx_findFault_1 ?_
  refine J_iconst (v := 0) rfl d_Tx_findFault_2 ?_
  refine J_istore_n (lv' := [(2, .int 0), (1, .int 0), (0, .ref (ad o1))]) 2 rfl (Nat.le_of_ble_eq_true rfl) rfl d_Tx_findFault_3 ?_
  exact J_sub [0, 1, 2] rfl (mlp_Tx_findFault_4 l g ad Q o1 ho1 400 _ _ _)
def f_Ca_learn (a1 : Int32) (a2 : Int32) (h0 : HP) : Option (HP) :=
 ckk (inb a2 23) (ltt (rA h0 69 a2) (fun (v3 : Int32) =>
 bd1 ((if v3 = 121 then
 some (0)
 else
 (if v3 = 111 then
 some (1)
 else
 some (2))) : Option (Int32)) (fun (v4 : Int32) =>
 ckk (inb a1 8) (ltt (wA h0 68 a1 v4) (fun (h7 : HP) =>
 ckk (inb (a2 + 1) 23) (ltt (rA h7 69 (a2 + 1)) (fun (v8 : Int32) =>
 ckk (inb a1 8) (ltt (wA h7 67 a1 (v8 - 48)) (fun (h9 : HP) =>
 some h9)))))))))
set_option maxRecDepth 20000 in
set_option maxHeartbeats 4000000 in
theorem m_Ca_learn (l : Launch) (g : GG) (ad : Nat → Nat) (a1 : Int32) (a2 : Int32) (h0 : HP) : CM l g ad y_Ca_learn b_Ca_learn 4 none rm_Ca_learn [.ref (ad 70), .int a1, .int a2] h0 enV (f_Ca_learn a1 a2 h0) := by
  refine CM.of (by decide) (Nat.le_of_ble_eq_true rfl) (fun Q => ?_)
  show Jj _ _ (Vw (kx_Ca_learn l g Q) 0 0 0 _ _ _)
  refine J_sub [0, 1, 2] (lv' := [(0, .ref (ad 70)), (1, .int a1), (2, .int a2)]) rfl ?_
  unfold f_Ca_learn
  refine J_aload_n 0 rfl d_Ca_learn_0 ?_
  refine J_getR fo_Ca_22_70 rfl d_Ca_learn_1 ?_
  refine J_iload_n 2 rfl d_Ca_learn_4 ?_
  refine P_ia (by decide) rfl rfl d_Ca_learn_5 (fun v3 => ?_)
  refine J_istore_n (lv' := [(3, .int v3), (0, .ref (ad 70)), (1, .int a1), (2, .int a2)]) 3 rfl (Nat.le_of_ble_eq_true rfl) rfl d_Ca_learn_6 ?_
  refine J_aload_n 1 rfl d_Ca_learn_7 ?_
  refine J_getR fo_Ca_9_70 rfl d_Ca_learn_8 ?_
  refine J_iload_n 2 rfl d_Ca_learn_11 ?_
  refine J_iload_n 0 rfl d_Ca_learn_12 ?_
  refine J_bipush (v := 121) rfl d_Ca_learn_13 ?_
  refine J_bd1 (fun (v4 : Int32) => Vw (kx_Ca_learn l g Q) 0 0 33 [(3, .int v3), (0, .ref (ad 70)), (1, .int a1), (2, .int a2)] [.int v4, .int a1, .ref (ad 68)] (pic g ad h0)) ?_ (fun v4 => ?_)
  · refine J_icmp_ne 22 rfl d_Ca_learn_15 (fun c5 => ?_) (fun c5 => ?_)
    · refine J_iload_n 0 rfl d_Ca_learn_22 ?_
      refine J_bipush (v := 111) rfl d_Ca_learn_23 ?_
      refine J_icmp_ne 32 rfl d_Ca_learn_25 (fun c6 => ?_) (fun c6 => ?_)
      · refine J_iconst (v := 2) rfl d_Ca_learn_32 ?_
        exact J_exit [0, 1, 2, 3] rfl (fun hx => hx)
      · refine J_iconst (v := 1) rfl d_Ca_learn_28 ?_
        refine J_goto 33 rfl d_Ca_learn_29 ?_
        exact J_exit [0, 1, 2, 3] rfl (fun hx => hx)
    · refine J_iconst (v := 0) rfl d_Ca_learn_18 ?_
      refine J_goto 33 rfl d_Ca_learn_19 ?_
      exact J_exit [0, 1, 2, 3] rfl (fun hx => hx)
  · refine P_wa (by decide) rfl rfl d_Ca_learn_33 (fun h7 => ?_)
    refine J_aload_n 1 rfl d_Ca_learn_34 ?_
    refine J_getR fo_Ca_15_70 rfl d_Ca_learn_35 ?_
    refine J_iload_n 2 rfl d_Ca_learn_38 ?_
    refine J_aload_n 1 rfl d_Ca_learn_39 ?_
    refine J_getR fo_Ca_22_70 rfl d_Ca_learn_40 ?_
    refine J_iload_n 3 rfl d_Ca_learn_43 ?_
    refine J_iconst (v := 1) rfl d_Ca_learn_44 ?_
    refine J_iadd d_Ca_learn_45 ?_
    refine P_ia (by decide) rfl rfl d_Ca_learn_46 (fun v8 => ?_)
    refine J_bipush (v := 48) rfl d_Ca_learn_47 ?_
    refine J_isub d_Ca_learn_49 ?_
    refine P_wa (by decide) rfl rfl d_Ca_learn_50 (fun h9 => ?_)
    exact J_vret (Nat.le_refl _) (Nat.le_refl _) d_Ca_learn_51 rfl (fun hx => hx)
def f_Ba_learn (a1 : Int32) (a2 : Int32) (h0 : HP) : Option (HP) :=
 ckk (inb a2 39) (ltt (rA h0 65 a2) (fun (v3 : Int32) =>
 ckk (inb a1 10) (ltt (wA h0 64 a1 (v3 - 97)) (fun (h4 : HP) =>
 ckk (inb (a2 + 1) 39) (ltt (rA h4 65 (a2 + 1)) (fun (v5 : Int32) =>
 ckk (inb a1 10) (ltt (wA h4 63 a1 (v5 - 48)) (fun (h6 : HP) =>
 ckk (inb (a2 + 2) 39) (ltt (rA h6 65 (a2 + 2)) (fun (v7 : Int32) =>
 ckk (inb a1 10) (ltt (wA h6 62 a1 (v7 - 97)) (fun (h8 : HP) =>
 some h8))))))))))))
set_option maxRecDepth 20000 in
set_option maxHeartbeats 4000000 in
theorem m_Ba_learn (l : Launch) (g : GG) (ad : Nat → Nat) (a1 : Int32) (a2 : Int32) (h0 : HP) : CM l g ad y_Ba_learn b_Ba_learn 3 none rm_Ba_learn [.ref (ad 66), .int a1, .int a2] h0 enV (f_Ba_learn a1 a2 h0) := by
  refine CM.of (by decide) (Nat.le_of_ble_eq_true rfl) (fun Q => ?_)
  show Jj _ _ (Vw (kx_Ba_learn l g Q) 0 0 0 _ _ _)
  refine J_sub [0, 1, 2] (lv' := [(0, .ref (ad 66)), (1, .int a1), (2, .int a2)]) rfl ?_
  unfold f_Ba_learn
  refine J_aload_n 0 rfl d_Ba_learn_0 ?_
  refine J_getR fo_Ba_9_66 rfl d_Ba_learn_1 ?_
  refine J_iload_n 1 rfl d_Ba_learn_4 ?_
  refine J_aload_n 0 rfl d_Ba_learn_5 ?_
  refine J_getR fo_Ba_25_66 rfl d_Ba_learn_6 ?_
  refine J_iload_n 2 rfl d_Ba_learn_9 ?_
  refine P_ia (by decide) rfl rfl d_Ba_learn_10 (fun v3 => ?_)
  refine J_bipush (v := 97) rfl d_Ba_learn_11 ?_
  refine J_isub d_Ba_learn_13 ?_
  refine P_wa (by decide) rfl rfl d_Ba_learn_14 (fun h4 => ?_)
  refine J_aload_n 0 rfl d_Ba_learn_15 ?_
  refine J_getR fo_Ba_15_66 rfl d_Ba_learn_16 ?_
  refine J_iload_n 1 rfl d_Ba_learn_19 ?_
  refine J_aload_n 0 rfl d_Ba_learn_20 ?_
  refine J_getR fo_Ba_25_66 rfl d_Ba_learn_21 ?_
  refine J_iload_n 2 rfl d_Ba_learn_24 ?_
  refine J_iconst (v := 1) rfl d_Ba_learn_25 ?_
  refine J_iadd d_Ba_learn_26 ?_
  refine P_ia (by decide) rfl rfl d_Ba_learn_27 (fun v5 => ?_)
  refine J_bipush (v := 48) rfl d_Ba_learn_28 ?_
  refine J_isub d_Ba_learn_30 ?_
  refine P_wa (by decide) rfl rfl d_Ba_learn_31 (fun h6 => ?_)
  refine J_aload_n 0 rfl d_Ba_learn_32 ?_
  refine J_getR fo_Ba_18_66 rfl d_Ba_learn_33 ?_
  refine J_iload_n 1 rfl d_Ba_learn_36 ?_
  refine J_aload_n 0 rfl d_Ba_learn_37 ?_
  refine J_getR fo_Ba_25_66 rfl d_Ba_learn_38 ?_
  refine J_iload_n 2 rfl d_Ba_learn_41 ?_
  refine J_iconst (v := 2) rfl d_Ba_learn_42 ?_
  refine J_iadd d_Ba_learn_43 ?_
  refine P_ia (by decide) rfl rfl d_Ba_learn_44 (fun v7 => ?_)
  refine J_bipush (v := 97) rfl d_Ba_learn_45 ?_
  refine J_isub d_Ba_learn_47 ?_
  refine P_wa (by decide) rfl rfl d_Ba_learn_48 (fun h8 => ?_)
  exact J_vret (Nat.le_refl _) (Nat.le_refl _) d_Ba_learn_49 rfl (fun hx => hx)
def lp_Tx_parse_23 (o1 : Nat) : Nat → Int32 → HP → Option (Int32 × HP)
 | 0, _, _ => none
 | fu + 1, v8, h9 =>
 ltt (rI h9 o1 2) (fun (v10 : Int32) =>
 (if v10 ≤ v8 then
 some (v8, h9)
 else
 ltt (rI h9 o1 4) (fun (v12 : Int32) =>
 bd1 (if o1 = 70 then f_Ca_learn v12 v8 h9 else f_Ba_learn v12 v8 h9) (fun (h13 : HP) =>
 ltt (rI h13 o1 4) (fun (v14 : Int32) =>
 ltt (sI h13 o1 4 (v14 + 1)) (fun (h15 : HP) =>
 ltt (rI h15 o1 1) (fun (v16 : Int32) =>
 ltt (v8 + v16) (fun (v17 : Int32) =>
 lp_Tx_parse_23 o1 fu v17 h15))))))))
def f_Tx_parse (o1 : Nat) (h0 : HP) : Option (HP) :=
 bd2 (f_Tx_findFault o1 h0) (fun (v2 : Int32) (h3 : HP) =>
 ltt (sI h3 o1 3 v2) (fun (h4 : HP) =>
 ltt (sI h4 o1 4 0) (fun (h5 : HP) =>
 ltt (rI h5 o1 3) (fun (v6 : Int32) =>
 (if v6 = (-1) then
 bd2 (lp_Tx_parse_23 o1 400 0 h5) (fun (v18 : Int32) (h19 : HP) =>
 some h19)
 else
 some h5)))))
set_option maxRecDepth 20000 in
set_option maxHeartbeats 4000000 in
theorem mlp_Tx_parse_23 (l : Launch) (g : GG) (ad : Nat → Nat) (Q : Option Value → va_W → Prop) (o1 : Nat) (ho1 : o1 ∈ [70, 66]) : ∀ (fu : Nat) (v8 : Int32) (h9 : HP), Jj (fun q : Int32 × HP => Vw (kx_Tx_parse l g Q) 0 0 60 [(1, .int (q.1)), (0, .ref (ad o1))] [] (pic g ad q.2)) (lp_Tx_parse_23 o1 fu v8 h9) (Vw (kx_Tx_parse l g Q) 0 0 23 [(1, .int v8), (0, .ref (ad o1))] [] (pic g ad h9)) := by
  intro fu
  induction fu with
  | zero =>
    intro v8 h9
    exact J_none
  | succ fu ih =>
    intro v8 h9
    rw [lp_Tx_parse_23]
    refine J_iload_n 0 rfl d_Tx_parse_23 ?_
    refine J_aload_n 1 rfl d_Tx_parse_24 ?_
    refine P_gI (fo_Tx_22_s70_66 _ ho1) (fd_s70_66_2 _ ho1) d_Tx_parse_25 (fun v10 => ?_)
    refine J_icmp_ge 60 rfl d_Tx_parse_28 (fun c11 => ?_) (fun c11 => ?_)
    · exact J_exit [0, 1] rfl (fun hx => hx)
    · refine J_aload_n 1 rfl d_Tx_parse_31 ?_
      refine J_aload_n 1 rfl d_Tx_parse_32 ?_
      refine P_gI (fo_Tx_32_s70_66 _ ho1) (fd_s70_66_4 _ ho1) d_Tx_parse_33 (fun v12 => ?_)
      refine J_iload_n 0 rfl d_Tx_parse_36 ?_
      refine P_callDv ho1 (m_Ca_learn l g ad _ _ _) (m_Ba_learn l g ad _ _ _) ok_Ca_learn ok_Ba_learn ⟨rc_70, uo_Ca_Ca_learn⟩ ⟨rc_66, uo_Ba_Ba_learn⟩ wk_Tx_35 ⟨rfl, rfl, Nat.le_of_ble_eq_true rfl, Nat.le_of_ble_eq_true rfl⟩ ⟨rfl, rfl, Nat.le_of_ble_eq_true rfl, Nat.le_of_ble_eq_true rfl⟩ ⟨Nat.zero_le _, Nat.zero_le _⟩ (rest := []) rfl rfl (Nat.le_of_ble_eq_true rfl) d_Tx_parse_37 (fun h13 => ?_)
      refine J_aload_n 1 rfl d_Tx_parse_40 ?_
      refine J_dup rfl d_Tx_parse_41 ?_
      refine P_gI (fo_Tx_32_s70_66 _ ho1) (fd_s70_66_4 _ ho1) d_Tx_parse_42 (fun v14 => ?_)
      refine J_iconst (v := 1) rfl d_Tx_parse_45 ?_
      refine J_iadd d_Tx_parse_46 ?_
      refine P_wI (fo_Tx_32_s70_66 _ ho1) (fd_s70_66_4 _ ho1) d_Tx_parse_47 (fun h15 => ?_)
      refine J_iload_n 0 rfl d_Tx_parse_50 ?_
      refine J_aload_n 1 rfl d_Tx_parse_51 ?_
      refine P_gI (fo_Tx_19_s70_66 _ ho1) (fd_s70_66_1 _ ho1) d_Tx_parse_52 (fun v16 => ?_)
      refine J_iadd d_Tx_parse_55 ?_
      refine P_ist_n (lv' := fun v17 => [(1, .int v17), (0, .ref (ad o1))]) 1 rfl (Nat.le_of_ble_eq_true rfl) (fun _ => rfl) d_Tx_parse_56 (fun v17 => ?_)
      refine J_goto 23 rfl d_Tx_parse_57 ?_
      exact J_sub [0, 1] rfl (ih _ _)
set_option maxRecDepth 20000 in
set_option maxHeartbeats 4000000 in
theorem m_Tx_parse (l : Launch) (g : GG) (ad : Nat → Nat) (o1 : Nat) (ho1 : o1 ∈ [70, 66]) (h0 : HP) : CM l g ad y_Tx_parse b_Tx_parse 2 none rm_Tx_parse [.ref (ad o1)] h0 enV (f_Tx_parse o1 h0) := by
  refine CM.of (by decide) (Nat.le_of_ble_eq_true rfl) (fun Q => ?_)
  show Jj _ _ (Vw (kx_Tx_parse l g Q) 0 0 0 _ _ _)
  refine J_sub [0] (lv' := [(0, .ref (ad o1))]) rfl ?_
  unfold f_Tx_parse
  refine J_aload_n 0 rfl d_Tx_parse_0 ?_
  refine J_aload_n 0 rfl d_Tx_parse_1 ?_
  refine P_callUi (m_Tx_findFault l g ad o1 ho1 _) ok_Tx_findFault (ru_s70_66_Tx_findFault _ ho1) wk_Tx_28 ⟨rfl, rfl, Nat.le_of_ble_eq_true rfl, Nat.le_of_ble_eq_true rfl⟩ ⟨Nat.zero_le _, Nat.zero_le _⟩ (rest := [.ref (ad o1)]) rfl rfl (Nat.le_of_ble_eq_true rfl) d_Tx_parse_2 (fun v2 h3 => ?_)
  refine P_wI (fo_Tx_9_s70_66 _ ho1) (fd_s70_66_3 _ ho1) d_Tx_parse_5 (fun h4 => ?_)
  refine J_aload_n 0 rfl d_Tx_parse_8 ?_
  refine J_iconst (v := 0) rfl d_Tx_parse_9 ?_
  refine P_wI (fo_Tx_32_s70_66 _ ho1) (fd_s70_66_4 _ ho1) d_Tx_parse_10 (fun h5 => ?_)
  refine J_aload_n 0 rfl d_Tx_parse_13 ?_
  refine P_gI (fo_Tx_9_s70_66 _ ho1) (fd_s70_66_3 _ ho1) d_Tx_parse_14 (fun v6 => ?_)
  refine J_iconst (v := (-1)) rfl d_Tx_parse_17 ?_
  refine J_icmp_ne 60 rfl d_Tx_parse_18 (fun c7 => ?_) (fun c7 => ?_)
  · exact J_vret (Nat.le_refl _) (Nat.le_refl _) d_Tx_parse_60 rfl (fun hx => hx)
  · refine J_iconst (v := 0) rfl d_Tx_parse_21 ?_
    refine J_istore_n (lv' := [(1, .int 0), (0, .ref (ad o1))]) 1 rfl (Nat.le_of_ble_eq_true rfl) rfl d_Tx_parse_22 ?_
    refine J_bd2 (fun (v18 : Int32) (h19 : HP) => Vw (kx_Tx_parse l g Q) 0 0 60 [(1, .int v18), (0, .ref (ad o1))] [] (pic g ad h19)) ?_ (fun v18 h19 => ?_)
    · exact J_sub [0, 1] rfl (mlp_Tx_parse_23 l g ad Q o1 ho1 400 _ _)
    · exact J_vret (Nat.le_refl _) (Nat.le_refl _) d_Tx_parse_60 rfl (fun hx => hx)
def f_Tx_append (o1 : Nat) (a2 : Int32) (h0 : HP) : Option (Int32 × HP) :=
 ltt (rI h0 o1 2) (fun (v3 : Int32) =>
 ltt (rf1 o1 0) (fun (o4 : Nat) =>
 (if v3 < Int32.ofNat (ln o4) then
 ltt (rf1 o1 0) (fun (o6 : Nat) =>
 ltt (rI h0 o1 2) (fun (v7 : Int32) =>
 ckk (inb v7 (ln o6)) (ltt (wA h0 o6 v7 a2) (fun (h8 : HP) =>
 ltt (rI h8 o1 2) (fun (v9 : Int32) =>
 ltt (sI h8 o1 2 (v9 + 1)) (fun (h10 : HP) =>
 bd1 (f_Tx_parse o1 h10) (fun (h11 : HP) =>
 some (1, h11))))))))
 else
 some (0, h0))))
set_option maxRecDepth 20000 in
set_option maxHeartbeats 4000000 in
theorem m_Tx_append (l : Launch) (g : GG) (ad : Nat → Nat) (o1 : Nat) (ho1 : o1 ∈ [70, 66]) (a2 : Int32) (h0 : HP) : CM l g ad y_Tx_append b_Tx_append 2 (some .boolean) rm_Tx_append [.ref (ad o1), .int a2] h0 enI (f_Tx_append o1 a2 h0) := by
  refine CM.of (by decide) (Nat.le_of_ble_eq_true rfl) (fun Q => ?_)
  show Jj _ _ (Vw (kx_Tx_append l g Q) 0 0 0 _ _ _)
  refine J_sub [0, 1] (lv' := [(0, .ref (ad o1)), (1, .int a2)]) rfl ?_
  unfold f_Tx_append
  refine J_aload_n 0 rfl d_Tx_append_0 ?_
  refine P_gI (fo_Tx_22_s70_66 _ ho1) (fd_s70_66_2 _ ho1) d_Tx_append_1 (fun v3 => ?_)
  refine J_aload_n 0 rfl d_Tx_append_4 ?_
  refine P_gRv (rm_s70_66_0 _ ho1) (fo_Tx_15_s70_66 _ ho1) (fd_s70_66_0 _ ho1) d_Tx_append_5 (fun o4 ho4 => ?_)
  refine J_alen (v := Int32.ofNat (ln o4)) (al_s69_65 _ ho4) (ak_s69_65 _ ho4) rfl d_Tx_append_8 ?_
  refine J_icmp_lt 14 rfl d_Tx_append_9 (fun c5 => ?_) (fun c5 => ?_)
  · refine J_aload_n 0 rfl d_Tx_append_14 ?_
    refine P_gRv (rm_s70_66_0 _ ho1) (fo_Tx_15_s70_66 _ ho1) (fd_s70_66_0 _ ho1) d_Tx_append_15 (fun o6 ho6 => ?_)
    refine J_aload_n 0 rfl d_Tx_append_18 ?_
    refine P_gI (fo_Tx_22_s70_66 _ ho1) (fd_s70_66_2 _ ho1) d_Tx_append_19 (fun v7 => ?_)
    refine J_iload_n 1 rfl d_Tx_append_22 ?_
    refine P_wa (al_s69_65 _ ho6) (ak_s69_65 _ ho6) rfl d_Tx_append_23 (fun h8 => ?_)
    refine J_aload_n 0 rfl d_Tx_append_24 ?_
    refine J_dup rfl d_Tx_append_25 ?_
    refine P_gI (fo_Tx_22_s70_66 _ ho1) (fd_s70_66_2 _ ho1) d_Tx_append_26 (fun v9 => ?_)
    refine J_iconst (v := 1) rfl d_Tx_append_29 ?_
    refine J_iadd d_Tx_append_30 ?_
    refine P_wI (fo_Tx_22_s70_66 _ ho1) (fd_s70_66_2 _ ho1) d_Tx_append_31 (fun h10 => ?_)
    refine J_aload_n 0 rfl d_Tx_append_34 ?_
    refine P_callUv (m_Tx_parse l g ad o1 ho1 _) ok_Tx_parse (ru_s70_66_Tx_parse _ ho1) wk_Tx_25 ⟨rfl, rfl, Nat.le_of_ble_eq_true rfl, Nat.le_of_ble_eq_true rfl⟩ ⟨Nat.zero_le _, Nat.zero_le _⟩ (rest := []) rfl rfl (Nat.le_of_ble_eq_true rfl) d_Tx_append_35 (fun h11 => ?_)
    refine J_iconst (v := 1) rfl d_Tx_append_38 ?_
    exact J_zret (Nat.le_refl _) (Nat.le_refl _) d_Tx_append_39 rfl (zfit (Or.inr rfl)).1 (fun hx => hx)
  · refine J_iconst (v := 0) rfl d_Tx_append_12 ?_
    exact J_zret (Nat.le_refl _) (Nat.le_refl _) d_Tx_append_13 rfl (zfit (Or.inl rfl)).1 (fun hx => hx)
def f_CS_type (a1 : Int32) (a2 : Int32) (h0 : HP) : Option (Int32 × HP) :=
 bd2 (f_CS_isText a1 h0) (fun (v3 : Int32) (h4 : HP) =>
 (if v3 = 0 then
 some ((-2), h4)
 else
 (if a2 < 0 then
 some ((-2), h4)
 else
 (if a2 ≤ 255 then
 ckk (inb a1 2) (ltt (rfx 61 (Int32.toNatClampNeg a1)) (fun (o8 : Nat) =>
 bd2 (f_Tx_append o8 a2 h4) (fun (v9 : Int32) (h10 : HP) =>
 (if v9 = 0 then
 some ((-4), h10)
 else
 ckk (inb a1 2) (ltt (rfx 61 (Int32.toNatClampNeg a1)) (fun (o12 : Nat) =>
 ltt (rI h10 o12 2) (fun (v13 : Int32) =>
 some (v13, h10))))))))
 else
 some ((-2), h4)))))
set_option maxRecDepth 20000 in
set_option maxHeartbeats 4000000 in
theorem m_CS_type (l : Launch) (g : GG) (ad : Nat → Nat) (a1 : Int32) (a2 : Int32) (h0 : HP) : CM l g ad y_CS_type b_CS_type 3 (some .int) rm_CS_type [.ref (ad 71), .int a1, .int a2] h0 enI (f_CS_type a1 a2 h0) := by
  refine CM.of (by decide) (Nat.le_of_ble_eq_true rfl) (fun Q => ?_)
  show Jj _ _ (Vw (kx_CS_type l g Q) 0 0 0 _ _ _)
  refine J_sub [0, 1, 2] (lv' := [(0, .ref (ad 71)), (1, .int a1), (2, .int a2)]) rfl ?_
  unfold f_CS_type
  refine J_iload_n 1 rfl d_CS_type_0 ?_
  refine J_callSi (m_CS_isText l g ad _ _) ok_CS_isText ws_CS_isText wk_CS_78 ⟨rfl, rfl, Nat.le_of_ble_eq_true rfl, Nat.le_of_ble_eq_true rfl⟩ ⟨Nat.zero_le _, Nat.zero_le _⟩ (rest := []) rfl rfl (Nat.le_of_ble_eq_true rfl) d_CS_type_1 (fun v3 h4 => ?_)
  refine J_if_eq 18 rfl d_CS_type_4 (fun c5 => ?_) (fun c5 => ?_)
  · refine J_bipush (v := (-2)) rfl d_CS_type_18 ?_
    exact J_iret (Nat.le_refl _) (Nat.le_refl _) d_CS_type_20 rfl (fun hx => hx)
  · refine J_iload_n 2 rfl d_CS_type_7 ?_
    refine J_if_lt 18 rfl d_CS_type_8 (fun c6 => ?_) (fun c6 => ?_)
    · refine J_bipush (v := (-2)) rfl d_CS_type_18 ?_
      exact J_iret (Nat.le_refl _) (Nat.le_refl _) d_CS_type_20 rfl (fun hx => hx)
    · refine J_iload_n 2 rfl d_CS_type_11 ?_
      refine J_sipush (v := 255) rfl d_CS_type_12 ?_
      refine J_icmp_le 21 rfl d_CS_type_15 (fun c7 => ?_) (fun c7 => ?_)
      · refine J_aload_n 0 rfl d_CS_type_21 ?_
        refine J_getR fo_CS_25_71 rfl d_CS_type_22 ?_
        refine J_iload_n 1 rfl d_CS_type_25 ?_
        refine P_aaT rx_61 (by decide) rfl rfl d_CS_type_26 (fun o8 ho8 => ?_)
        refine J_iload_n 2 rfl d_CS_type_27 ?_
        refine P_callUi (m_Tx_append l g ad o8 ho8 _ _) ok_Tx_append (ru_s70_66_Tx_append _ ho8) wk_CS_82 ⟨rfl, rfl, Nat.le_of_ble_eq_true rfl, Nat.le_of_ble_eq_true rfl⟩ ⟨Nat.zero_le _, Nat.zero_le _⟩ (rest := []) rfl rfl (Nat.le_of_ble_eq_true rfl) d_CS_type_28 (fun v9 h10 => ?_)
        refine J_if_eq 46 rfl d_CS_type_31 (fun c11 => ?_) (fun c11 => ?_)
        · refine J_bipush (v := (-4)) rfl d_CS_type_46 ?_
          exact J_iret (Nat.le_refl _) (Nat.le_refl _) d_CS_type_48 rfl (fun hx => hx)
        · refine J_aload_n 0 rfl d_CS_type_34 ?_
          refine J_getR fo_CS_25_71 rfl d_CS_type_35 ?_
          refine J_iload_n 1 rfl d_CS_type_38 ?_
          refine P_aaT rx_61 (by decide) rfl rfl d_CS_type_39 (fun o12 ho12 => ?_)
          refine P_gI (fo_CS_85_s70_66 _ ho12) (fd_s70_66_2 _ ho12) d_CS_type_40 (fun v13 => ?_)
          refine J_goto 48 rfl d_CS_type_43 ?_
          exact J_iret (Nat.le_refl _) (Nat.le_refl _) d_CS_type_48 rfl (fun hx => hx)
      · refine J_bipush (v := (-2)) rfl d_CS_type_18 ?_
        exact J_iret (Nat.le_refl _) (Nat.le_refl _) d_CS_type_20 rfl (fun hx => hx)
def f_Tx_cutTo (o1 : Nat) (a2 : Int32) (h0 : HP) : Option (HP) :=
 ltt (sI h0 o1 2 a2) (fun (h3 : HP) =>
 bd1 (f_Tx_parse o1 h3) (fun (h4 : HP) =>
 some h4))
set_option maxRecDepth 20000 in
set_option maxHeartbeats 4000000 in
theorem m_Tx_cutTo (l : Launch) (g : GG) (ad : Nat → Nat) (o1 : Nat) (ho1 : o1 ∈ [70, 66]) (a2 : Int32) (h0 : HP) : CM l g ad y_Tx_cutTo b_Tx_cutTo 2 none rm_Tx_cutTo [.ref (ad o1), .int a2] h0 enV (f_Tx_cutTo o1 a2 h0) := by
  refine CM.of (by decide) (Nat.le_of_ble_eq_true rfl) (fun Q => ?_)
  show Jj _ _ (Vw (kx_Tx_cutTo l g Q) 0 0 0 _ _ _)
  refine J_sub [0, 1] (lv' := [(0, .ref (ad o1)), (1, .int a2)]) rfl ?_
  unfold f_Tx_cutTo
  refine J_aload_n 0 rfl d_Tx_cutTo_0 ?_
  refine J_iload_n 1 rfl d_Tx_cutTo_1 ?_
  refine P_wI (fo_Tx_22_s70_66 _ ho1) (fd_s70_66_2 _ ho1) d_Tx_cutTo_2 (fun h3 => ?_)
  refine J_aload_n 0 rfl d_Tx_cutTo_5 ?_
  refine P_callUv (m_Tx_parse l g ad o1 ho1 _) ok_Tx_parse (ru_s70_66_Tx_parse _ ho1) wk_Tx_25 ⟨rfl, rfl, Nat.le_of_ble_eq_true rfl, Nat.le_of_ble_eq_true rfl⟩ ⟨Nat.zero_le _, Nat.zero_le _⟩ (rest := []) rfl rfl (Nat.le_of_ble_eq_true rfl) d_Tx_cutTo_6 (fun h4 => ?_)
  exact J_vret (Nat.le_refl _) (Nat.le_refl _) d_Tx_cutTo_9 rfl (fun hx => hx)
def f_CS_wipe (a1 : Int32) (h0 : HP) : Option (Int32 × HP) :=
 bd2 (f_CS_isText a1 h0) (fun (v2 : Int32) (h3 : HP) =>
 (if v2 = 0 then
 some ((-2), h3)
 else
 ckk (inb a1 2) (ltt (rfx 61 (Int32.toNatClampNeg a1)) (fun (o5 : Nat) =>
 ltt (rI h3 o5 2) (fun (v6 : Int32) =>
 ckk (inb a1 2) (ltt (rfx 61 (Int32.toNatClampNeg a1)) (fun (o7 : Nat) =>
 bd1 (f_Tx_cutTo o7 0 h3) (fun (h8 : HP) =>
 some (v6, h8)))))))))
set_option maxRecDepth 20000 in
set_option maxHeartbeats 4000000 in
theorem m_CS_wipe (l : Launch) (g : GG) (ad : Nat → Nat) (a1 : Int32) (h0 : HP) : CM l g ad y_CS_wipe b_CS_wipe 3 (some .int) rm_CS_wipe [.ref (ad 71), .int a1] h0 enI (f_CS_wipe a1 h0) := by
  refine CM.of (by decide) (Nat.le_of_ble_eq_true rfl) (fun Q => ?_)
  show Jj _ _ (Vw (kx_CS_wipe l g Q) 0 0 0 _ _ _)
  refine J_sub [0, 1] (lv' := [(0, .ref (ad 71)), (1, .int a1)]) rfl ?_
  unfold f_CS_wipe
  refine J_iload_n 1 rfl d_CS_wipe_0 ?_
  refine J_callSi (m_CS_isText l g ad _ _) ok_CS_isText ws_CS_isText wk_CS_78 ⟨rfl, rfl, Nat.le_of_ble_eq_true rfl, Nat.le_of_ble_eq_true rfl⟩ ⟨Nat.zero_le _, Nat.zero_le _⟩ (rest := []) rfl rfl (Nat.le_of_ble_eq_true rfl) d_CS_wipe_1 (fun v2 h3 => ?_)
  refine J_if_ne 10 rfl d_CS_wipe_4 (fun c4 => ?_) (fun c4 => ?_)
  · refine J_aload_n 0 rfl d_CS_wipe_10 ?_
    refine J_getR fo_CS_25_71 rfl d_CS_wipe_11 ?_
    refine J_iload_n 1 rfl d_CS_wipe_14 ?_
    refine P_aaT rx_61 (by decide) rfl rfl d_CS_wipe_15 (fun o5 ho5 => ?_)
    refine P_gI (fo_CS_85_s70_66 _ ho5) (fd_s70_66_2 _ ho5) d_CS_wipe_16 (fun v6 => ?_)
    refine J_istore_n (lv' := [(2, .int v6), (0, .ref (ad 71)), (1, .int a1)]) 2 rfl (Nat.le_of_ble_eq_true rfl) rfl d_CS_wipe_19 ?_
    refine J_aload_n 1 rfl d_CS_wipe_20 ?_
    refine J_getR fo_CS_25_71 rfl d_CS_wipe_21 ?_
    refine J_iload_n 2 rfl d_CS_wipe_24 ?_
    refine P_aaT rx_61 (by decide) rfl rfl d_CS_wipe_25 (fun o7 ho7 => ?_)
    refine J_iconst (v := 0) rfl d_CS_wipe_26 ?_
    refine P_callUv (m_Tx_cutTo l g ad o7 ho7 _ _) ok_Tx_cutTo (ru_s70_66_Tx_cutTo _ ho7) wk_CS_89 ⟨rfl, rfl, Nat.le_of_ble_eq_true rfl, Nat.le_of_ble_eq_true rfl⟩ ⟨Nat.zero_le _, Nat.zero_le _⟩ (rest := []) rfl rfl (Nat.le_of_ble_eq_true rfl) d_CS_wipe_27 (fun h8 => ?_)
    refine J_iload_n 0 rfl d_CS_wipe_30 ?_
    exact J_iret (Nat.le_refl _) (Nat.le_refl _) d_CS_wipe_31 rfl (fun hx => hx)
  · refine J_bipush (v := (-2)) rfl d_CS_wipe_7 ?_
    exact J_iret (Nat.le_refl _) (Nat.le_refl _) d_CS_wipe_9 rfl (fun hx => hx)
def f_CS_undo (a1 : Int32) (h0 : HP) : Option (Int32 × HP) :=
 bd2 (f_CS_isText a1 h0) (fun (v2 : Int32) (h3 : HP) =>
 (if v2 = 0 then
 some ((-2), h3)
 else
 ckk (inb a1 2) (ltt (rfx 61 (Int32.toNatClampNeg a1)) (fun (o5 : Nat) =>
 ltt (rI h3 o5 2) (fun (v6 : Int32) =>
 (if v6 = 0 then
 some ((-3), h3)
 else
 ckk (inb a1 2) (ltt (rfx 61 (Int32.toNatClampNeg a1)) (fun (o8 : Nat) =>
 bd1 (f_Tx_cutTo o8 (v6 - 1) h3) (fun (h9 : HP) =>
 some (v6 - 1, h9))))))))))
set_option maxRecDepth 20000 in
set_option maxHeartbeats 4000000 in
theorem m_CS_undo (l : Launch) (g : GG) (ad : Nat → Nat) (a1 : Int32) (h0 : HP) : CM l g ad y_CS_undo b_CS_undo 3 (some .int) rm_CS_undo [.ref (ad 71), .int a1] h0 enI (f_CS_undo a1 h0) := by
  refine CM.of (by decide) (Nat.le_of_ble_eq_true rfl) (fun Q => ?_)
  show Jj _ _ (Vw (kx_CS_undo l g Q) 0 0 0 _ _ _)
  refine J_sub [0, 1] (lv' := [(0, .ref (ad 71)), (1, .int a1)]) rfl ?_
  unfold f_CS_undo
  refine J_iload_n 1 rfl d_CS_undo_0 ?_
  refine J_callSi (m_CS_isText l g ad _ _) ok_CS_isText ws_CS_isText wk_CS_78 ⟨rfl, rfl, Nat.le_of_ble_eq_true rfl, Nat.le_of_ble_eq_true rfl⟩ ⟨Nat.zero_le _, Nat.zero_le _⟩ (rest := []) rfl rfl (Nat.le_of_ble_eq_true rfl) d_CS_undo_1 (fun v2 h3 => ?_)
  refine J_if_ne 10 rfl d_CS_undo_4 (fun c4 => ?_) (fun c4 => ?_)
  · refine J_aload_n 0 rfl d_CS_undo_10 ?_
    refine J_getR fo_CS_25_71 rfl d_CS_undo_11 ?_
    refine J_iload_n 1 rfl d_CS_undo_14 ?_
    refine P_aaT rx_61 (by decide) rfl rfl d_CS_undo_15 (fun o5 ho5 => ?_)
    refine P_gI (fo_CS_85_s70_66 _ ho5) (fd_s70_66_2 _ ho5) d_CS_undo_16 (fun v6 => ?_)
    refine J_istore_n (lv' := [(2, .int v6), (0, .ref (ad 71)), (1, .int a1)]) 2 rfl (Nat.le_of_ble_eq_true rfl) rfl d_CS_undo_19 ?_
    refine J_iload_n 0 rfl d_CS_undo_20 ?_
    refine J_if_ne 27 rfl d_CS_undo_21 (fun c7 => ?_) (fun c7 => ?_)
    · refine J_aload_n 1 rfl d_CS_undo_27 ?_
      refine J_getR fo_CS_25_71 rfl d_CS_undo_28 ?_
      refine J_iload_n 2 rfl d_CS_undo_31 ?_
      refine P_aaT rx_61 (by decide) rfl rfl d_CS_undo_32 (fun o8 ho8 => ?_)
      refine J_iload_n 0 rfl d_CS_undo_33 ?_
      refine J_iconst (v := 1) rfl d_CS_undo_34 ?_
      refine J_isub d_CS_undo_35 ?_
      refine P_callUv (m_Tx_cutTo l g ad o8 ho8 _ _) ok_Tx_cutTo (ru_s70_66_Tx_cutTo _ ho8) wk_CS_89 ⟨rfl, rfl, Nat.le_of_ble_eq_true rfl, Nat.le_of_ble_eq_true rfl⟩ ⟨Nat.zero_le _, Nat.zero_le _⟩ (rest := []) rfl rfl (Nat.le_of_ble_eq_true rfl) d_CS_undo_36 (fun h9 => ?_)
      refine J_iload_n 0 rfl d_CS_undo_39 ?_
      refine J_iconst (v := 1) rfl d_CS_undo_40 ?_
      refine J_isub d_CS_undo_41 ?_
      exact J_iret (Nat.le_refl _) (Nat.le_refl _) d_CS_undo_42 rfl (fun hx => hx)
    · refine J_bipush (v := (-3)) rfl d_CS_undo_24 ?_
      exact J_iret (Nat.le_refl _) (Nat.le_refl _) d_CS_undo_26 rfl (fun hx => hx)
  · refine J_bipush (v := (-2)) rfl d_CS_undo_7 ?_
    exact J_iret (Nat.le_refl _) (Nat.le_refl _) d_CS_undo_9 rfl (fun hx => hx)
def f_CS_fault (a1 : Int32) (h0 : HP) : Option (Int32 × HP) :=
 bd2 (f_CS_isText a1 h0) (fun (v2 : Int32) (h3 : HP) =>
 (if v2 = 0 then
 some ((-2), h3)
 else
 ckk (inb a1 2) (ltt (rfx 61 (Int32.toNatClampNeg a1)) (fun (o5 : Nat) =>
 ltt (rI h3 o5 3) (fun (v6 : Int32) =>
 some (v6, h3))))))
set_option maxRecDepth 20000 in
set_option maxHeartbeats 4000000 in
theorem m_CS_fault (l : Launch) (g : GG) (ad : Nat → Nat) (a1 : Int32) (h0 : HP) : CM l g ad y_CS_fault b_CS_fault 2 (some .int) rm_CS_fault [.ref (ad 71), .int a1] h0 enI (f_CS_fault a1 h0) := by
  refine CM.of (by decide) (Nat.le_of_ble_eq_true rfl) (fun Q => ?_)
  show Jj _ _ (Vw (kx_CS_fault l g Q) 0 0 0 _ _ _)
  refine J_sub [0, 1] (lv' := [(0, .ref (ad 71)), (1, .int a1)]) rfl ?_
  unfold f_CS_fault
  refine J_iload_n 1 rfl d_CS_fault_0 ?_
  refine J_callSi (m_CS_isText l g ad _ _) ok_CS_isText ws_CS_isText wk_CS_78 ⟨rfl, rfl, Nat.le_of_ble_eq_true rfl, Nat.le_of_ble_eq_true rfl⟩ ⟨Nat.zero_le _, Nat.zero_le _⟩ (rest := []) rfl rfl (Nat.le_of_ble_eq_true rfl) d_CS_fault_1 (fun v2 h3 => ?_)
  refine J_if_eq 19 rfl d_CS_fault_4 (fun c4 => ?_) (fun c4 => ?_)
  · refine J_bipush (v := (-2)) rfl d_CS_fault_19 ?_
    exact J_iret (Nat.le_refl _) (Nat.le_refl _) d_CS_fault_21 rfl (fun hx => hx)
  · refine J_aload_n 0 rfl d_CS_fault_7 ?_
    refine J_getR fo_CS_25_71 rfl d_CS_fault_8 ?_
    refine J_iload_n 1 rfl d_CS_fault_11 ?_
    refine P_aaT rx_61 (by decide) rfl rfl d_CS_fault_12 (fun o5 ho5 => ?_)
    refine P_gI (fo_CS_93_s70_66 _ ho5) (fd_s70_66_3 _ ho5) d_CS_fault_13 (fun v6 => ?_)
    refine J_goto 21 rfl d_CS_fault_16 ?_
    exact J_iret (Nat.le_refl _) (Nat.le_refl _) d_CS_fault_21 rfl (fun hx => hx)
def f_CS_isCamel (a1 : Int32) (h0 : HP) : Option (Int32 × HP) :=
 (if a1 < 0 then
 some (0, h0)
 else
 ltt (rI h0 70 4) (fun (v3 : Int32) =>
 (if v3 ≤ a1 then
 some (0, h0)
 else
 some (1, h0))))
set_option maxRecDepth 20000 in
set_option maxHeartbeats 4000000 in
theorem m_CS_isCamel (l : Launch) (g : GG) (ad : Nat → Nat) (a1 : Int32) (h0 : HP) : CM l g ad y_CS_isCamel b_CS_isCamel 2 (some .boolean) rm_CS_isCamel [.ref (ad 71), .int a1] h0 enI (f_CS_isCamel a1 h0) := by
  refine CM.of (by decide) (Nat.le_of_ble_eq_true rfl) (fun Q => ?_)
  show Jj _ _ (Vw (kx_CS_isCamel l g Q) 0 0 0 _ _ _)
  refine J_sub [0, 1] (lv' := [(0, .ref (ad 71)), (1, .int a1)]) rfl ?_
  unfold f_CS_isCamel
  refine J_iload_n 1 rfl d_CS_isCamel_0 ?_
  refine J_if_lt 19 rfl d_CS_isCamel_1 (fun c2 => ?_) (fun c2 => ?_)
  · refine J_iconst (v := 0) rfl d_CS_isCamel_19 ?_
    exact J_zret (Nat.le_refl _) (Nat.le_refl _) d_CS_isCamel_20 rfl (zfit (Or.inl rfl)).1 (fun hx => hx)
  · refine J_iload_n 1 rfl d_CS_isCamel_4 ?_
    refine J_aload_n 0 rfl d_CS_isCamel_5 ?_
    refine J_getR fo_CS_10_71 rfl d_CS_isCamel_6 ?_
    refine P_gI fo_CS_229_70 rfl d_CS_isCamel_9 (fun v3 => ?_)
    refine J_icmp_ge 19 rfl d_CS_isCamel_12 (fun c4 => ?_) (fun c4 => ?_)
    · refine J_iconst (v := 0) rfl d_CS_isCamel_19 ?_
      exact J_zret (Nat.le_refl _) (Nat.le_refl _) d_CS_isCamel_20 rfl (zfit (Or.inl rfl)).1 (fun hx => hx)
    · refine J_iconst (v := 1) rfl d_CS_isCamel_15 ?_
      refine J_goto 20 rfl d_CS_isCamel_16 ?_
      exact J_zret (Nat.le_refl _) (Nat.le_refl _) d_CS_isCamel_20 rfl (zfit (Or.inr rfl)).1 (fun hx => hx)
def f_CS_strengthOf (a1 : Int32) (h0 : HP) : Option (Int32 × HP) :=
 some (4 * a1, h0)
set_option maxRecDepth 20000 in
set_option maxHeartbeats 4000000 in
theorem m_CS_strengthOf (l : Launch) (g : GG) (ad : Nat → Nat) (a1 : Int32) (h0 : HP) : CM l g ad y_CS_strengthOf b_CS_strengthOf 1 (some .int) rm_CS_strengthOf [.int a1] h0 enI (f_CS_strengthOf a1 h0) := by
  refine CM.of (by decide) (Nat.le_of_ble_eq_true rfl) (fun Q => ?_)
  show Jj _ _ (Vw (kx_CS_strengthOf l g Q) 0 0 0 _ _ _)
  refine J_sub [0] (lv' := [(0, .int a1)]) rfl ?_
  unfold f_CS_strengthOf
  refine J_iconst (v := 4) rfl d_CS_strengthOf_0 ?_
  refine J_iload_n 0 rfl d_CS_strengthOf_1 ?_
  refine J_imul d_CS_strengthOf_2 ?_
  exact J_iret (Nat.le_refl _) (Nat.le_refl _) d_CS_strengthOf_3 rfl (fun hx => hx)
def f_CS_camel (a1 : Int32) (a2 : Int32) (h0 : HP) : Option (Int32 × HP) :=
 bd2 (f_CS_isCamel a1 h0) (fun (v3 : Int32) (h4 : HP) =>
 (if v3 = 0 then
 some ((-2), h4)
 else
 (if a2 < 0 then
 some ((-2), h4)
 else
 (if a2 ≤ 1 then
 (if a2 = 0 then
 ckk (inb a1 8) (ltt (rA h4 68 a1) (fun (v12 : Int32) =>
 some (v12, h4)))
 else
 ckk (inb a1 8) (ltt (rA h4 67 a1) (fun (v9 : Int32) =>
 bd2 (f_CS_strengthOf v9 h4) (fun (v10 : Int32) (h11 : HP) =>
 some (v10, h11)))))
 else
 some ((-2), h4)))))
set_option maxRecDepth 20000 in
set_option maxHeartbeats 4000000 in
theorem m_CS_camel (l : Launch) (g : GG) (ad : Nat → Nat) (a1 : Int32) (a2 : Int32) (h0 : HP) : CM l g ad y_CS_camel b_CS_camel 3 (some .int) rm_CS_camel [.ref (ad 71), .int a1, .int a2] h0 enI (f_CS_camel a1 a2 h0) := by
  refine CM.of (by decide) (Nat.le_of_ble_eq_true rfl) (fun Q => ?_)
  show Jj _ _ (Vw (kx_CS_camel l g Q) 0 0 0 _ _ _)
  refine J_sub [0, 1, 2] (lv' := [(0, .ref (ad 71)), (1, .int a1), (2, .int a2)]) rfl ?_
  unfold f_CS_camel
  refine J_aload_n 0 rfl d_CS_camel_0 ?_
  refine J_iload_n 1 rfl d_CS_camel_1 ?_
  refine J_callVi (m_CS_isCamel l g ad _ _) ok_CS_isCamel rc_71 wi_CS_isCamel wl_CS_CS_isCamel wk_CS_96 ⟨rfl, rfl, Nat.le_of_ble_eq_true rfl, Nat.le_of_ble_eq_true rfl⟩ ⟨Nat.zero_le _, Nat.zero_le _⟩ (rest := []) rfl rfl (Nat.le_of_ble_eq_true rfl) d_CS_camel_2 (fun v3 h4 => ?_)
  refine J_if_eq 17 rfl d_CS_camel_5 (fun c5 => ?_) (fun c5 => ?_)
  · refine J_bipush (v := (-2)) rfl d_CS_camel_17 ?_
    exact J_iret (Nat.le_refl _) (Nat.le_refl _) d_CS_camel_19 rfl (fun hx => hx)
  · refine J_iload_n 2 rfl d_CS_camel_8 ?_
    refine J_if_lt 17 rfl d_CS_camel_9 (fun c6 => ?_) (fun c6 => ?_)
    · refine J_bipush (v := (-2)) rfl d_CS_camel_17 ?_
      exact J_iret (Nat.le_refl _) (Nat.le_refl _) d_CS_camel_19 rfl (fun hx => hx)
    · refine J_iload_n 2 rfl d_CS_camel_12 ?_
      refine J_iconst (v := 1) rfl d_CS_camel_13 ?_
      refine J_icmp_le 20 rfl d_CS_camel_14 (fun c7 => ?_) (fun c7 => ?_)
      · refine J_iload_n 2 rfl d_CS_camel_20 ?_
        refine J_if_ne 36 rfl d_CS_camel_21 (fun c8 => ?_) (fun c8 => ?_)
        · refine J_aload_n 0 rfl d_CS_camel_36 ?_
          refine J_getR fo_CS_10_71 rfl d_CS_camel_37 ?_
          refine J_getR fo_CS_103_70 rfl d_CS_camel_40 ?_
          refine J_iload_n 1 rfl d_CS_camel_43 ?_
          refine P_ia (by decide) rfl rfl d_CS_camel_44 (fun v9 => ?_)
          refine J_callSi (m_CS_strengthOf l g ad _ _) ok_CS_strengthOf ws_CS_strengthOf wk_CS_106 ⟨rfl, rfl, Nat.le_of_ble_eq_true rfl, Nat.le_of_ble_eq_true rfl⟩ ⟨Nat.zero_le _, Nat.zero_le _⟩ (rest := []) rfl rfl (Nat.le_of_ble_eq_true rfl) d_CS_camel_45 (fun v10 h11 => ?_)
          exact J_iret (Nat.le_refl _) (Nat.le_refl _) d_CS_camel_48 rfl (fun hx => hx)
        · refine J_aload_n 0 rfl d_CS_camel_24 ?_
          refine J_getR fo_CS_10_71 rfl d_CS_camel_25 ?_
          refine J_getR fo_CS_99_70 rfl d_CS_camel_28 ?_
          refine J_iload_n 1 rfl d_CS_camel_31 ?_
          refine P_ia (by decide) rfl rfl d_CS_camel_32 (fun v12 => ?_)
          refine J_goto 48 rfl d_CS_camel_33 ?_
          exact J_iret (Nat.le_refl _) (Nat.le_refl _) d_CS_camel_48 rfl (fun hx => hx)
      · refine J_bipush (v := (-2)) rfl d_CS_camel_17 ?_
        exact J_iret (Nat.le_refl _) (Nat.le_refl _) d_CS_camel_19 rfl (fun hx => hx)
def f_CS_isBale (a1 : Int32) (h0 : HP) : Option (Int32 × HP) :=
 (if a1 < 0 then
 some (0, h0)
 else
 ltt (rI h0 66 4) (fun (v3 : Int32) =>
 (if v3 ≤ a1 then
 some (0, h0)
 else
 some (1, h0))))
set_option maxRecDepth 20000 in
set_option maxHeartbeats 4000000 in
theorem m_CS_isBale (l : Launch) (g : GG) (ad : Nat → Nat) (a1 : Int32) (h0 : HP) : CM l g ad y_CS_isBale b_CS_isBale 2 (some .boolean) rm_CS_isBale [.ref (ad 71), .int a1] h0 enI (f_CS_isBale a1 h0) := by
  refine CM.of (by decide) (Nat.le_of_ble_eq_true rfl) (fun Q => ?_)
  show Jj _ _ (Vw (kx_CS_isBale l g Q) 0 0 0 _ _ _)
  refine J_sub [0, 1] (lv' := [(0, .ref (ad 71)), (1, .int a1)]) rfl ?_
  unfold f_CS_isBale
  refine J_iload_n 1 rfl d_CS_isBale_0 ?_
  refine J_if_lt 19 rfl d_CS_isBale_1 (fun c2 => ?_) (fun c2 => ?_)
  · refine J_iconst (v := 0) rfl d_CS_isBale_19 ?_
    exact J_zret (Nat.le_refl _) (Nat.le_refl _) d_CS_isBale_20 rfl (zfit (Or.inl rfl)).1 (fun hx => hx)
  · refine J_iload_n 1 rfl d_CS_isBale_4 ?_
    refine J_aload_n 0 rfl d_CS_isBale_5 ?_
    refine J_getR fo_CS_19_71 rfl d_CS_isBale_6 ?_
    refine P_gI fo_CS_269_66 rfl d_CS_isBale_9 (fun v3 => ?_)
    refine J_icmp_ge 19 rfl d_CS_isBale_12 (fun c4 => ?_) (fun c4 => ?_)
    · refine J_iconst (v := 0) rfl d_CS_isBale_19 ?_
      exact J_zret (Nat.le_refl _) (Nat.le_refl _) d_CS_isBale_20 rfl (zfit (Or.inl rfl)).1 (fun hx => hx)
    · refine J_iconst (v := 1) rfl d_CS_isBale_15 ?_
      refine J_goto 20 rfl d_CS_isBale_16 ?_
      exact J_zret (Nat.le_refl _) (Nat.le_refl _) d_CS_isBale_20 rfl (zfit (Or.inr rfl)).1 (fun hx => hx)
def f_CS_bale (a1 : Int32) (a2 : Int32) (h0 : HP) : Option (Int32 × HP) :=
 bd2 (f_CS_isBale a1 h0) (fun (v3 : Int32) (h4 : HP) =>
 (if v3 = 0 then
 some ((-2), h4)
 else
 (if a2 = 0 then
 ckk (inb a1 10) (ltt (rA h4 64 a1) (fun (v7 : Int32) =>
 some (v7, h4)))
 else
 (if a2 = 1 then
 ckk (inb a1 10) (ltt (rA h4 63 a1) (fun (v9 : Int32) =>
 some (v9, h4)))
 else
 (if a2 = 2 then
 ckk (inb a1 10) (ltt (rA h4 62 a1) (fun (v11 : Int32) =>
 some (v11, h4)))
 else
 some ((-2), h4))))))
set_option maxRecDepth 20000 in
set_option maxHeartbeats 4000000 in
theorem m_CS_bale (l : Launch) (g : GG) (ad : Nat → Nat) (a1 : Int32) (a2 : Int32) (h0 : HP) : CM l g ad y_CS_bale b_CS_bale 3 (some .int) rm_CS_bale [.ref (ad 71), .int a1, .int a2] h0 enI (f_CS_bale a1 a2 h0) := by
  refine CM.of (by decide) (Nat.le_of_ble_eq_true rfl) (fun Q => ?_)
  show Jj _ _ (Vw (kx_CS_bale l g Q) 0 0 0 _ _ _)
  refine J_sub [0, 1, 2] (lv' := [(0, .ref (ad 71)), (1, .int a1), (2, .int a2)]) rfl ?_
  unfold f_CS_bale
  refine J_aload_n 0 rfl d_CS_bale_0 ?_
  refine J_iload_n 1 rfl d_CS_bale_1 ?_
  refine J_callVi (m_CS_isBale l g ad _ _) ok_CS_isBale rc_71 wi_CS_isBale wl_CS_CS_isBale wk_CS_110 ⟨rfl, rfl, Nat.le_of_ble_eq_true rfl, Nat.le_of_ble_eq_true rfl⟩ ⟨Nat.zero_le _, Nat.zero_le _⟩ (rest := []) rfl rfl (Nat.le_of_ble_eq_true rfl) d_CS_bale_2 (fun v3 h4 => ?_)
  refine J_if_ne 11 rfl d_CS_bale_5 (fun c5 => ?_) (fun c5 => ?_)
  · refine J_iload_n 2 rfl d_CS_bale_11 ?_
    refine J_ite (fun c6 => ?_) (fun c6 => ?_)
    · refine J_tswIn 40 (by rw [c6]; decide) (by rw [c6]; decide) (by rw [c6]; rfl) rfl d_CS_bale_12 ?_
      refine J_aload_n 0 rfl d_CS_bale_40 ?_
      refine J_getR fo_CS_19_71 rfl d_CS_bale_41 ?_
      refine J_getR fo_CS_113_66 rfl d_CS_bale_44 ?_
      refine J_iload_n 1 rfl d_CS_bale_47 ?_
      refine P_ia (by decide) rfl rfl d_CS_bale_48 (fun v7 => ?_)
      exact J_iret (Nat.le_refl _) (Nat.le_refl _) d_CS_bale_49 rfl (fun hx => hx)
    · refine J_ite (fun c8 => ?_) (fun c8 => ?_)
      · refine J_tswIn 50 (by rw [c8]; decide) (by rw [c8]; decide) (by rw [c8]; rfl) rfl d_CS_bale_12 ?_
        refine J_aload_n 0 rfl d_CS_bale_50 ?_
        refine J_getR fo_CS_19_71 rfl d_CS_bale_51 ?_
        refine J_getR fo_CS_115_66 rfl d_CS_bale_54 ?_
        refine J_iload_n 1 rfl d_CS_bale_57 ?_
        refine P_ia (by decide) rfl rfl d_CS_bale_58 (fun v9 => ?_)
        exact J_iret (Nat.le_refl _) (Nat.le_refl _) d_CS_bale_59 rfl (fun hx => hx)
      · refine J_ite (fun c10 => ?_) (fun c10 => ?_)
        · refine J_tswIn 60 (by rw [c10]; decide) (by rw [c10]; decide) (by rw [c10]; rfl) rfl d_CS_bale_12 ?_
          refine J_aload_n 0 rfl d_CS_bale_60 ?_
          refine J_getR fo_CS_19_71 rfl d_CS_bale_61 ?_
          refine J_getR fo_CS_118_66 rfl d_CS_bale_64 ?_
          refine J_iload_n 1 rfl d_CS_bale_67 ?_
          refine P_ia (by decide) rfl rfl d_CS_bale_68 (fun v11 => ?_)
          exact J_iret (Nat.le_refl _) (Nat.le_refl _) d_CS_bale_69 rfl (fun hx => hx)
        · refine J_tswOut 70 (by have e0 := lv_neT (a := 0) c6 rfl; have e1 := lv_neT (a := 1) c8 rfl; have e2 := lv_neT (a := 2) c10 rfl; omega) rfl d_CS_bale_12 ?_
          refine J_bipush (v := (-2)) rfl d_CS_bale_70 ?_
          exact J_iret (Nat.le_refl _) (Nat.le_refl _) d_CS_bale_72 rfl (fun hx => hx)
  · refine J_bipush (v := (-2)) rfl d_CS_bale_8 ?_
    exact J_iret (Nat.le_refl _) (Nat.le_refl _) d_CS_bale_10 rfl (fun hx => hx)
def f_CS_isDay (a1 : Int32) (h0 : HP) : Option (Int32 × HP) :=
 (if a1 < 0 then
 some (0, h0)
 else
 (if 24 ≤ a1 then
 some (0, h0)
 else
 some (1, h0)))
set_option maxRecDepth 20000 in
set_option maxHeartbeats 4000000 in
theorem m_CS_isDay (l : Launch) (g : GG) (ad : Nat → Nat) (a1 : Int32) (h0 : HP) : CM l g ad y_CS_isDay b_CS_isDay 1 (some .boolean) rm_CS_isDay [.int a1] h0 enI (f_CS_isDay a1 h0) := by
  refine CM.of (by decide) (Nat.le_of_ble_eq_true rfl) (fun Q => ?_)
  show Jj _ _ (Vw (kx_CS_isDay l g Q) 0 0 0 _ _ _)
  refine J_sub [0] (lv' := [(0, .int a1)]) rfl ?_
  unfold f_CS_isDay
  refine J_iload_n 0 rfl d_CS_isDay_0 ?_
  refine J_if_lt 14 rfl d_CS_isDay_1 (fun c2 => ?_) (fun c2 => ?_)
  · refine J_iconst (v := 0) rfl d_CS_isDay_14 ?_
    exact J_zret (Nat.le_refl _) (Nat.le_refl _) d_CS_isDay_15 rfl (zfit (Or.inl rfl)).1 (fun hx => hx)
  · refine J_iload_n 0 rfl d_CS_isDay_4 ?_
    refine J_bipush (v := 24) rfl d_CS_isDay_5 ?_
    refine J_icmp_ge 14 rfl d_CS_isDay_7 (fun c3 => ?_) (fun c3 => ?_)
    · refine J_iconst (v := 0) rfl d_CS_isDay_14 ?_
      exact J_zret (Nat.le_refl _) (Nat.le_refl _) d_CS_isDay_15 rfl (zfit (Or.inl rfl)).1 (fun hx => hx)
    · refine J_iconst (v := 1) rfl d_CS_isDay_10 ?_
      refine J_goto 15 rfl d_CS_isDay_11 ?_
      exact J_zret (Nat.le_refl _) (Nat.le_refl _) d_CS_isDay_15 rfl (zfit (Or.inr rfl)).1 (fun hx => hx)
def f_CS_isPlaceOfCamel (a1 : Int32) (h0 : HP) : Option (Int32 × HP) :=
 (if a1 < 0 then
 some (0, h0)
 else
 (if 8 ≤ a1 then
 some (0, h0)
 else
 some (1, h0)))
set_option maxRecDepth 20000 in
set_option maxHeartbeats 4000000 in
theorem m_CS_isPlaceOfCamel (l : Launch) (g : GG) (ad : Nat → Nat) (a1 : Int32) (h0 : HP) : CM l g ad y_CS_isPlaceOfCamel b_CS_isPlaceOfCamel 1 (some .boolean) rm_CS_isPlaceOfCamel [.int a1] h0 enI (f_CS_isPlaceOfCamel a1 h0) := by
  refine CM.of (by decide) (Nat.le_of_ble_eq_true rfl) (fun Q => ?_)
  show Jj _ _ (Vw (kx_CS_isPlaceOfCamel l g Q) 0 0 0 _ _ _)
  refine J_sub [0] (lv' := [(0, .int a1)]) rfl ?_
  unfold f_CS_isPlaceOfCamel
  refine J_iload_n 0 rfl d_CS_isPlaceOfCamel_0 ?_
  refine J_if_lt 14 rfl d_CS_isPlaceOfCamel_1 (fun c2 => ?_) (fun c2 => ?_)
  · refine J_iconst (v := 0) rfl d_CS_isPlaceOfCamel_14 ?_
    exact J_zret (Nat.le_refl _) (Nat.le_refl _) d_CS_isPlaceOfCamel_15 rfl (zfit (Or.inl rfl)).1 (fun hx => hx)
  · refine J_iload_n 0 rfl d_CS_isPlaceOfCamel_4 ?_
    refine J_bipush (v := 8) rfl d_CS_isPlaceOfCamel_5 ?_
    refine J_icmp_ge 14 rfl d_CS_isPlaceOfCamel_7 (fun c3 => ?_) (fun c3 => ?_)
    · refine J_iconst (v := 0) rfl d_CS_isPlaceOfCamel_14 ?_
      exact J_zret (Nat.le_refl _) (Nat.le_refl _) d_CS_isPlaceOfCamel_15 rfl (zfit (Or.inl rfl)).1 (fun hx => hx)
    · refine J_iconst (v := 1) rfl d_CS_isPlaceOfCamel_10 ?_
      refine J_goto 15 rfl d_CS_isPlaceOfCamel_11 ?_
      exact J_zret (Nat.le_refl _) (Nat.le_refl _) d_CS_isPlaceOfCamel_15 rfl (zfit (Or.inr rfl)).1 (fun hx => hx)
def f_St_append (o1 : Nat) (a2 : Int32) (a3 : Int32) (h0 : HP) : Option (Int32 × HP) :=
 ltt (rI h0 o1 2) (fun (v4 : Int32) =>
 (if v4 < 8 then
 ltt (rf1 o1 0) (fun (o6 : Nat) =>
 ltt (rI h0 o1 2) (fun (v7 : Int32) =>
 ckk (inb v7 8) (ltt (wA h0 o6 v7 a2) (fun (h8 : HP) =>
 ltt (rf1 o1 1) (fun (o9 : Nat) =>
 ltt (rI h8 o1 2) (fun (v10 : Int32) =>
 ckk (inb v10 8) (ltt (wA h8 o9 v10 a3) (fun (h11 : HP) =>
 ltt (rI h11 o1 2) (fun (v12 : Int32) =>
 ltt (sI h11 o1 2 (v12 + 1)) (fun (h13 : HP) =>
 some (1, h13)))))))))))
 else
 some (0, h0)))
set_option maxRecDepth 20000 in
set_option maxHeartbeats 4000000 in
theorem m_St_append (l : Launch) (g : GG) (ad : Nat → Nat) (o1 : Nat) (ho1 : o1 ∈ [60, 57]) (a2 : Int32) (a3 : Int32) (h0 : HP) : CM l g ad y_St_append b_St_append 3 (some .boolean) rm_St_append [.ref (ad o1), .int a2, .int a3] h0 enI (f_St_append o1 a2 a3 h0) := by
  refine CM.of (by decide) (Nat.le_of_ble_eq_true rfl) (fun Q => ?_)
  show Jj _ _ (Vw (kx_St_append l g Q) 0 0 0 _ _ _)
  refine J_sub [0, 1, 2] (lv' := [(0, .ref (ad o1)), (1, .int a2), (2, .int a3)]) rfl ?_
  unfold f_St_append
  refine J_aload_n 0 rfl d_St_append_0 ?_
  refine P_gI (fo_St_18_s60_57 _ ho1) (fd_s60_57_2 _ ho1) d_St_append_1 (fun v4 => ?_)
  refine J_bipush (v := 8) rfl d_St_append_4 ?_
  refine J_icmp_lt 11 rfl d_St_append_6 (fun c5 => ?_) (fun c5 => ?_)
  · refine J_aload_n 0 rfl d_St_append_11 ?_
    refine P_gRv (rm_s60_57_0 _ ho1) (fo_St_9_s60_57 _ ho1) (fd_s60_57_0 _ ho1) d_St_append_12 (fun o6 ho6 => ?_)
    refine J_aload_n 0 rfl d_St_append_15 ?_
    refine P_gI (fo_St_18_s60_57 _ ho1) (fd_s60_57_2 _ ho1) d_St_append_16 (fun v7 => ?_)
    refine J_iload_n 1 rfl d_St_append_19 ?_
    refine P_wa (al_s59_56 _ ho6) (ak_s59_56 _ ho6) (an_s59_56 _ ho6) d_St_append_20 (fun h8 => ?_)
    refine J_aload_n 0 rfl d_St_append_21 ?_
    refine P_gRv (rm_s60_57_1 _ ho1) (fo_St_15_s60_57 _ ho1) (fd_s60_57_1 _ ho1) d_St_append_22 (fun o9 ho9 => ?_)
    refine J_aload_n 0 rfl d_St_append_25 ?_
    refine P_gI (fo_St_18_s60_57 _ ho1) (fd_s60_57_2 _ ho1) d_St_append_26 (fun v10 => ?_)
    refine J_iload_n 2 rfl d_St_append_29 ?_
    refine P_wa (al_s58_55 _ ho9) (ak_s58_55 _ ho9) (an_s58_55 _ ho9) d_St_append_30 (fun h11 => ?_)
    refine J_aload_n 0 rfl d_St_append_31 ?_
    refine J_dup rfl d_St_append_32 ?_
    refine P_gI (fo_St_18_s60_57 _ ho1) (fd_s60_57_2 _ ho1) d_St_append_33 (fun v12 => ?_)
    refine J_iconst (v := 1) rfl d_St_append_36 ?_
    refine J_iadd d_St_append_37 ?_
    refine P_wI (fo_St_18_s60_57 _ ho1) (fd_s60_57_2 _ ho1) d_St_append_38 (fun h13 => ?_)
    refine J_iconst (v := 1) rfl d_St_append_41 ?_
    exact J_zret (Nat.le_refl _) (Nat.le_refl _) d_St_append_42 rfl (zfit (Or.inr rfl)).1 (fun hx => hx)
  · refine J_iconst (v := 0) rfl d_St_append_9 ?_
    exact J_zret (Nat.le_refl _) (Nat.le_refl _) d_St_append_10 rfl (zfit (Or.inl rfl)).1 (fun hx => hx)
def f_CS_straw (a1 : Int32) (a2 : Int32) (h0 : HP) : Option (Int32 × HP) :=
 bd2 (f_CS_isDay a1 h0) (fun (v3 : Int32) (h4 : HP) =>
 (if v3 = 0 then
 some ((-2), h4)
 else
 bd2 (f_CS_isPlaceOfCamel a2 h4) (fun (v6 : Int32) (h7 : HP) =>
 (if v6 = 0 then
 some ((-2), h7)
 else
 bd2 (f_St_append 60 a1 a2 h7) (fun (v9 : Int32) (h10 : HP) =>
 (if v9 = 0 then
 some ((-4), h10)
 else
 ltt (rI h10 60 2) (fun (v12 : Int32) =>
 some (v12, h10))))))))
set_option maxRecDepth 20000 in
set_option maxHeartbeats 4000000 in
theorem m_CS_straw (l : Launch) (g : GG) (ad : Nat → Nat) (a1 : Int32) (a2 : Int32) (h0 : HP) : CM l g ad y_CS_straw b_CS_straw 3 (some .int) rm_CS_straw [.ref (ad 71), .int a1, .int a2] h0 enI (f_CS_straw a1 a2 h0) := by
  refine CM.of (by decide) (Nat.le_of_ble_eq_true rfl) (fun Q => ?_)
  show Jj _ _ (Vw (kx_CS_straw l g Q) 0 0 0 _ _ _)
  refine J_sub [0, 1, 2] (lv' := [(0, .ref (ad 71)), (1, .int a1), (2, .int a2)]) rfl ?_
  unfold f_CS_straw
  refine J_iload_n 1 rfl d_CS_straw_0 ?_
  refine J_callSi (m_CS_isDay l g ad _ _) ok_CS_isDay ws_CS_isDay wk_CS_121 ⟨rfl, rfl, Nat.le_of_ble_eq_true rfl, Nat.le_of_ble_eq_true rfl⟩ ⟨Nat.zero_le _, Nat.zero_le _⟩ (rest := []) rfl rfl (Nat.le_of_ble_eq_true rfl) d_CS_straw_1 (fun v3 h4 => ?_)
  refine J_if_eq 14 rfl d_CS_straw_4 (fun c5 => ?_) (fun c5 => ?_)
  · refine J_bipush (v := (-2)) rfl d_CS_straw_14 ?_
    exact J_iret (Nat.le_refl _) (Nat.le_refl _) d_CS_straw_16 rfl (fun hx => hx)
  · refine J_iload_n 2 rfl d_CS_straw_7 ?_
    refine J_callSi (m_CS_isPlaceOfCamel l g ad _ _) ok_CS_isPlaceOfCamel ws_CS_isPlaceOfCamel wk_CS_124 ⟨rfl, rfl, Nat.le_of_ble_eq_true rfl, Nat.le_of_ble_eq_true rfl⟩ ⟨Nat.zero_le _, Nat.zero_le _⟩ (rest := []) rfl rfl (Nat.le_of_ble_eq_true rfl) d_CS_straw_8 (fun v6 h7 => ?_)
    refine J_if_ne 17 rfl d_CS_straw_11 (fun c8 => ?_) (fun c8 => ?_)
    · refine J_aload_n 0 rfl d_CS_straw_17 ?_
      refine J_getR fo_CS_32_71 rfl d_CS_straw_18 ?_
      refine J_iload_n 1 rfl d_CS_straw_21 ?_
      refine J_iload_n 2 rfl d_CS_straw_22 ?_
      refine J_callVi (m_St_append l g ad 60 (by decide) _ _ _) ok_St_append rc_60 wi_St_append wl_St_St_append wk_CS_127 ⟨rfl, rfl, Nat.le_of_ble_eq_true rfl, Nat.le_of_ble_eq_true rfl⟩ ⟨Nat.zero_le _, Nat.zero_le _⟩ (rest := []) rfl rfl (Nat.le_of_ble_eq_true rfl) d_CS_straw_23 (fun v9 h10 => ?_)
      refine J_if_eq 39 rfl d_CS_straw_26 (fun c11 => ?_) (fun c11 => ?_)
      · refine J_bipush (v := (-4)) rfl d_CS_straw_39 ?_
        exact J_iret (Nat.le_refl _) (Nat.le_refl _) d_CS_straw_41 rfl (fun hx => hx)
      · refine J_aload_n 0 rfl d_CS_straw_29 ?_
        refine J_getR fo_CS_32_71 rfl d_CS_straw_30 ?_
        refine P_gI fo_CS_130_60 rfl d_CS_straw_33 (fun v12 => ?_)
        refine J_goto 41 rfl d_CS_straw_36 ?_
        exact J_iret (Nat.le_refl _) (Nat.le_refl _) d_CS_straw_41 rfl (fun hx => hx)
    · refine J_bipush (v := (-2)) rfl d_CS_straw_14 ?_
      exact J_iret (Nat.le_refl _) (Nat.le_refl _) d_CS_straw_16 rfl (fun hx => hx)
def f_CS_back (h0 : HP) : Option (Int32 × HP) :=
 ltt (rI h0 60 2) (fun (v1 : Int32) =>
 (if v1 = 0 then
 some ((-3), h0)
 else
 ltt (rI h0 60 2) (fun (v3 : Int32) =>
 ltt (sI h0 60 2 (v3 - 1)) (fun (h4 : HP) =>
 ltt (rI h4 60 2) (fun (v5 : Int32) =>
 some (v5, h4))))))
set_option maxRecDepth 20000 in
set_option maxHeartbeats 4000000 in
theorem m_CS_back (l : Launch) (g : GG) (ad : Nat → Nat) (h0 : HP) : CM l g ad y_CS_back b_CS_back 1 (some .int) rm_CS_back [.ref (ad 71)] h0 enI (f_CS_back h0) := by
  refine CM.of (by decide) (Nat.le_of_ble_eq_true rfl) (fun Q => ?_)
  show Jj _ _ (Vw (kx_CS_back l g Q) 0 0 0 _ _ _)
  refine J_sub [0] (lv' := [(0, .ref (ad 71))]) rfl ?_
  unfold f_CS_back
  refine J_aload_n 0 rfl d_CS_back_0 ?_
  refine J_getR fo_CS_32_71 rfl d_CS_back_1 ?_
  refine P_gI fo_CS_130_60 rfl d_CS_back_4 (fun v1 => ?_)
  refine J_if_ne 13 rfl d_CS_back_7 (fun c2 => ?_) (fun c2 => ?_)
  · refine J_aload_n 0 rfl d_CS_back_13 ?_
    refine J_getR fo_CS_32_71 rfl d_CS_back_14 ?_
    refine J_dup rfl d_CS_back_17 ?_
    refine P_gI fo_CS_130_60 rfl d_CS_back_18 (fun v3 => ?_)
    refine J_iconst (v := 1) rfl d_CS_back_21 ?_
    refine J_isub d_CS_back_22 ?_
    refine P_wI fo_CS_130_60 rfl d_CS_back_23 (fun h4 => ?_)
    refine J_aload_n 0 rfl d_CS_back_26 ?_
    refine J_getR fo_CS_32_71 rfl d_CS_back_27 ?_
    refine P_gI fo_CS_130_60 rfl d_CS_back_30 (fun v5 => ?_)
    exact J_iret (Nat.le_refl _) (Nat.le_refl _) d_CS_back_33 rfl (fun hx => hx)
  · refine J_bipush (v := (-3)) rfl d_CS_back_10 ?_
    exact J_iret (Nat.le_refl _) (Nat.le_refl _) d_CS_back_12 rfl (fun hx => hx)
def f_CS_isSheet (a1 : Int32) (h0 : HP) : Option (Int32 × HP) :=
 (if a1 < 0 then
 some (0, h0)
 else
 (if 4 ≤ a1 then
 some (0, h0)
 else
 some (1, h0)))
set_option maxRecDepth 20000 in
set_option maxHeartbeats 4000000 in
theorem m_CS_isSheet (l : Launch) (g : GG) (ad : Nat → Nat) (a1 : Int32) (h0 : HP) : CM l g ad y_CS_isSheet b_CS_isSheet 1 (some .boolean) rm_CS_isSheet [.int a1] h0 enI (f_CS_isSheet a1 h0) := by
  refine CM.of (by decide) (Nat.le_of_ble_eq_true rfl) (fun Q => ?_)
  show Jj _ _ (Vw (kx_CS_isSheet l g Q) 0 0 0 _ _ _)
  refine J_sub [0] (lv' := [(0, .int a1)]) rfl ?_
  unfold f_CS_isSheet
  refine J_iload_n 0 rfl d_CS_isSheet_0 ?_
  refine J_if_lt 13 rfl d_CS_isSheet_1 (fun c2 => ?_) (fun c2 => ?_)
  · refine J_iconst (v := 0) rfl d_CS_isSheet_13 ?_
    exact J_zret (Nat.le_refl _) (Nat.le_refl _) d_CS_isSheet_14 rfl (zfit (Or.inl rfl)).1 (fun hx => hx)
  · refine J_iload_n 0 rfl d_CS_isSheet_4 ?_
    refine J_iconst (v := 4) rfl d_CS_isSheet_5 ?_
    refine J_icmp_ge 13 rfl d_CS_isSheet_6 (fun c3 => ?_) (fun c3 => ?_)
    · refine J_iconst (v := 0) rfl d_CS_isSheet_13 ?_
      exact J_zret (Nat.le_refl _) (Nat.le_refl _) d_CS_isSheet_14 rfl (zfit (Or.inl rfl)).1 (fun hx => hx)
    · refine J_iconst (v := 1) rfl d_CS_isSheet_9 ?_
      refine J_goto 14 rfl d_CS_isSheet_10 ?_
      exact J_zret (Nat.le_refl _) (Nat.le_refl _) d_CS_isSheet_14 rfl (zfit (Or.inr rfl)).1 (fun hx => hx)
def f_Sh_isLost (o1 : Nat) (h0 : HP) : Option (Int32 × HP) :=
 ltt (rI h0 o1 1) (fun (v2 : Int32) =>
 (if v2 = (-1) then
 some (1, h0)
 else
 some (0, h0)))
set_option maxRecDepth 20000 in
set_option maxHeartbeats 4000000 in
theorem m_Sh_isLost (l : Launch) (g : GG) (ad : Nat → Nat) (o1 : Nat) (ho1 : o1 ∈ [42, 40, 38, 36]) (h0 : HP) : CM l g ad y_Sh_isLost b_Sh_isLost 1 (some .boolean) rm_Sh_isLost [.ref (ad o1)] h0 enI (f_Sh_isLost o1 h0) := by
  refine CM.of (by decide) (Nat.le_of_ble_eq_true rfl) (fun Q => ?_)
  show Jj _ _ (Vw (kx_Sh_isLost l g Q) 0 0 0 _ _ _)
  refine J_sub [0] (lv' := [(0, .ref (ad o1))]) rfl ?_
  unfold f_Sh_isLost
  refine J_aload_n 0 rfl d_Sh_isLost_0 ?_
  refine P_gI (fo_Sh_15_s42_40_38_36 _ ho1) (fd_s42_40_38_36_1 _ ho1) d_Sh_isLost_1 (fun v2 => ?_)
  refine J_iconst (v := (-1)) rfl d_Sh_isLost_4 ?_
  refine J_icmp_ne 12 rfl d_Sh_isLost_5 (fun c3 => ?_) (fun c3 => ?_)
  · refine J_iconst (v := 0) rfl d_Sh_isLost_12 ?_
    exact J_zret (Nat.le_refl _) (Nat.le_refl _) d_Sh_isLost_13 rfl (zfit (Or.inl rfl)).1 (fun hx => hx)
  · refine J_iconst (v := 1) rfl d_Sh_isLost_8 ?_
    refine J_goto 13 rfl d_Sh_isLost_9 ?_
    exact J_zret (Nat.le_refl _) (Nat.le_refl _) d_Sh_isLost_13 rfl (zfit (Or.inr rfl)).1 (fun hx => hx)
def f_CS_finding (a1 : Int32) (h0 : HP) : Option (Int32 × HP) :=
 ltt (sI h0 71 10 a1) (fun (h2 : HP) =>
 some ((-10) - a1, h2))
set_option maxRecDepth 20000 in
set_option maxHeartbeats 4000000 in
theorem m_CS_finding (l : Launch) (g : GG) (ad : Nat → Nat) (a1 : Int32) (h0 : HP) : CM l g ad y_CS_finding b_CS_finding 2 (some .int) rm_CS_finding [.ref (ad 71), .int a1] h0 enI (f_CS_finding a1 h0) := by
  refine CM.of (by decide) (Nat.le_of_ble_eq_true rfl) (fun Q => ?_)
  show Jj _ _ (Vw (kx_CS_finding l g Q) 0 0 0 _ _ _)
  refine J_sub [0, 1] (lv' := [(0, .ref (ad 71)), (1, .int a1)]) rfl ?_
  unfold f_CS_finding
  refine J_aload_n 0 rfl d_CS_finding_0 ?_
  refine J_iload_n 1 rfl d_CS_finding_1 ?_
  refine P_wI fo_CS_249_71 rfl d_CS_finding_2 (fun h2 => ?_)
  refine J_bipush (v := (-10)) rfl d_CS_finding_5 ?_
  refine J_iload_n 1 rfl d_CS_finding_7 ?_
  refine J_isub d_CS_finding_8 ?_
  exact J_iret (Nat.le_refl _) (Nat.le_refl _) d_CS_finding_9 rfl (fun hx => hx)
def lp_CS_read_35 (o5 : Nat) (a1 : Int32) : Nat → Int32 → Int32 → HP → Option (Int32 × HP)
 | 0, _, _, _ => none
 | fu + 1, v9, v10, h11 =>
 ltt (rI h11 o5 2) (fun (v12 : Int32) =>
 (if v12 ≤ v9 + 1 then
 some (v10, h11)
 else
 ltt (rf1 o5 0) (fun (o14 : Nat) =>
 ckk (inb v9 60) (ltt (rA h11 o14 v9) (fun (v15 : Int32) =>
 ltt (rf1 o5 0) (fun (o16 : Nat) =>
 ckk (inb (v9 + 1) 60) (ltt (rA h11 o16 (v9 + 1)) (fun (v17 : Int32) =>
 bd2 (f_CS_straw v15 v17 h11) (fun (v18 : Int32) (h19 : HP) =>
 (if 0 ≤ v18 then
 ltt (v10 + 1) (fun (v21 : Int32) =>
 ltt (v9 + 2) (fun (v22 : Int32) =>
 lp_CS_read_35 o5 a1 fu v22 v21 h19))
 else
 some (v10, h19)))))))))))
def f_CS_read (a1 : Int32) (h0 : HP) : Option (Int32 × HP) :=
 bd2 (f_CS_isSheet a1 h0) (fun (v2 : Int32) (h3 : HP) =>
 (if v2 = 0 then
 some ((-2), h3)
 else
 ckk (inb a1 4) (ltt (rfx 43 (Int32.toNatClampNeg a1)) (fun (o5 : Nat) =>
 bd2 (f_Sh_isLost o5 h3) (fun (v6 : Int32) (h7 : HP) =>
 (if v6 = 0 then
 lp_CS_read_35 o5 a1 400 0 0 h7
 else
 bd2 (f_CS_finding 1 h7) (fun (v23 : Int32) (h24 : HP) =>
 some (v23, h24))))))))
set_option maxRecDepth 20000 in
set_option maxHeartbeats 4000000 in
theorem mlp_CS_read_35 (l : Launch) (g : GG) (ad : Nat → Nat) (Q : Option Value → va_W → Prop) (o5 : Nat) (a1 : Int32) (ho5 : o5 ∈ [42, 40, 38, 36]) : ∀ (fu : Nat) (v9 : Int32) (v10 : Int32) (h11 : HP), Jj (fun a : Int32 × HP => Q (enI a).1 (pic g ad (enI a).2)) (lp_CS_read_35 o5 a1 fu v9 v10 h11) (Vw (kx_CS_read l g Q) 0 0 35 [(4, .int v9), (3, .int v10), (2, .ref (ad o5)), (0, .ref (ad 71)), (1, .int a1)] [] (pic g ad h11)) := by
  intro fu
  induction fu with
  | zero =>
    intro v9 v10 h11
    exact J_none
  | succ fu ih =>
    intro v9 v10 h11
    rw [lp_CS_read_35]
    refine J_iload 0 rfl d_CS_read_35 ?_
    refine J_iconst (v := 1) rfl d_CS_read_37 ?_
    refine J_iadd d_CS_read_38 ?_
    refine J_aload_n 2 rfl d_CS_read_39 ?_
    refine P_gI (fo_CS_143_s42_40_38_36 _ ho5) (fd_s42_40_38_36_2 _ ho5) d_CS_read_40 (fun v12 => ?_)
    refine J_icmp_ge 81 rfl d_CS_read_43 (fun c13 => ?_) (fun c13 => ?_)
    · refine J_iload_n 1 rfl d_CS_read_81 ?_
      exact J_iret (Nat.le_refl _) (Nat.le_refl _) d_CS_read_82 rfl (fun hx => hx)
    · refine J_aload_n 3 rfl d_CS_read_46 ?_
      refine J_aload_n 2 rfl d_CS_read_47 ?_
      refine P_gRv (rm_s42_40_38_36_0 _ ho5) (fo_CS_144_s42_40_38_36 _ ho5) (fd_s42_40_38_36_0 _ ho5) d_CS_read_48 (fun o14 ho14 => ?_)
      refine J_iload 0 rfl d_CS_read_51 ?_
      refine P_ia (al_s41_39_37_35 _ ho14) (ak_s41_39_37_35 _ ho14) (an_s41_39_37_35 _ ho14) d_CS_read_53 (fun v15 => ?_)
      refine J_aload_n 2 rfl d_CS_read_54 ?_
      refine P_gRv (rm_s42_40_38_36_0 _ ho5) (fo_CS_144_s42_40_38_36 _ ho5) (fd_s42_40_38_36_0 _ ho5) d_CS_read_55 (fun o16 ho16 => ?_)
      refine J_iload 0 rfl d_CS_read_58 ?_
      refine J_iconst (v := 1) rfl d_CS_read_60 ?_
      refine J_iadd d_CS_read_61 ?_
      refine P_ia (al_s41_39_37_35 _ ho16) (ak_s41_39_37_35 _ ho16) (an_s41_39_37_35 _ ho16) d_CS_read_62 (fun v17 => ?_)
      refine J_callVi (m_CS_straw l g ad _ _ _) ok_CS_straw rc_71 wi_CS_straw wl_CS_CS_straw wk_CS_147 ⟨rfl, rfl, Nat.le_of_ble_eq_true rfl, Nat.le_of_ble_eq_true rfl⟩ ⟨Nat.zero_le _, Nat.zero_le _⟩ (rest := []) rfl rfl (Nat.le_of_ble_eq_true rfl) d_CS_read_63 (fun v18 h19 => ?_)
      refine J_if_ge 72 rfl d_CS_read_66 (fun c20 => ?_) (fun c20 => ?_)
      · refine P_inc (w := 1) (lv' := fun v21 => [(3, .int v21), (4, .int v9), (2, .ref (ad o5)), (0, .ref (ad 71)), (1, .int a1)]) 1 rfl rfl (Nat.le_of_ble_eq_true rfl) (fun _ => rfl) d_CS_read_72 (fun v21 => ?_)
        refine P_inc (w := 2) (lv' := fun v22 => [(4, .int v22), (3, .int v21), (2, .ref (ad o5)), (0, .ref (ad 71)), (1, .int a1)]) 1 rfl rfl (Nat.le_of_ble_eq_true rfl) (fun _ => rfl) d_CS_read_75 (fun v22 => ?_)
        refine J_goto 35 rfl d_CS_read_78 ?_
        exact J_sub [0, 1, 2, 3, 4] rfl (ih _ _ _)
      · refine J_goto 81 rfl d_CS_read_69 ?_
        refine J_iload_n 1 rfl d_CS_read_81 ?_
        exact J_iret (Nat.le_refl _) (Nat.le_refl _) d_CS_read_82 rfl (fun hx => hx)
set_option maxRecDepth 20000 in
set_option maxHeartbeats 4000000 in
theorem m_CS_read (l : Launch) (g : GG) (ad : Nat → Nat) (a1 : Int32) (h0 : HP) : CM l g ad y_CS_read b_CS_read 5 (some .int) rm_CS_read [.ref (ad 71), .int a1] h0 enI (f_CS_read a1 h0) := by
  refine CM.of (by decide) (Nat.le_of_ble_eq_true rfl) (fun Q => ?_)
  show Jj _ _ (Vw (kx_CS_read l g Q) 0 0 0 _ _ _)
  refine J_sub [0, 1] (lv' := [(0, .ref (ad 71)), (1, .int a1)]) rfl ?_
  unfold f_CS_read
  refine J_iload_n 1 rfl d_CS_read_0 ?_
  refine J_callSi (m_CS_isSheet l g ad _ _) ok_CS_isSheet ws_CS_isSheet wk_CS_133 ⟨rfl, rfl, Nat.le_of_ble_eq_true rfl, Nat.le_of_ble_eq_true rfl⟩ ⟨Nat.zero_le _, Nat.zero_le _⟩ (rest := []) rfl rfl (Nat.le_of_ble_eq_true rfl) d_CS_read_1 (fun v2 h3 => ?_)
  refine J_if_ne 10 rfl d_CS_read_4 (fun c4 => ?_) (fun c4 => ?_)
  · refine J_aload_n 0 rfl d_CS_read_10 ?_
    refine J_getR fo_CS_74_71 rfl d_CS_read_11 ?_
    refine J_iload_n 1 rfl d_CS_read_14 ?_
    refine P_aaS rx_43 (by decide) rfl rfl d_CS_read_15 (fun o5 ho5 => ?_)
    refine J_astore_n (lv' := [(2, .ref (ad o5)), (0, .ref (ad 71)), (1, .int a1)]) 2 rfl (Nat.le_of_ble_eq_true rfl) rfl d_CS_read_16 ?_
    refine J_aload_n 0 rfl d_CS_read_17 ?_
    refine J_callVi (m_Sh_isLost l g ad o5 ho5 _) ok_Sh_isLost (rc_s42_40_38_36 _ ho5) wi_Sh_isLost wl_Sh_Sh_isLost wk_CS_136 ⟨rfl, rfl, Nat.le_of_ble_eq_true rfl, Nat.le_of_ble_eq_true rfl⟩ ⟨Nat.zero_le _, Nat.zero_le _⟩ (rest := []) rfl rfl (Nat.le_of_ble_eq_true rfl) d_CS_read_18 (fun v6 h7 => ?_)
    refine J_if_eq 30 rfl d_CS_read_21 (fun c8 => ?_) (fun c8 => ?_)
    · refine J_iconst (v := 0) rfl d_CS_read_30 ?_
      refine J_istore_n (lv' := [(3, .int 0), (2, .ref (ad o5)), (0, .ref (ad 71)), (1, .int a1)]) 3 rfl (Nat.le_of_ble_eq_true rfl) rfl d_CS_read_31 ?_
      refine J_iconst (v := 0) rfl d_CS_read_32 ?_
      refine J_istore (lv' := [(4, .int 0), (3, .int 0), (2, .ref (ad o5)), (0, .ref (ad 71)), (1, .int a1)]) (Nat.le_of_ble_eq_true rfl) rfl d_CS_read_33 ?_
      exact J_sub [0, 1, 2, 3, 4] rfl (mlp_CS_read_35 l g ad Q o5 a1 ho5 400 _ _ _)
    · refine J_aload_n 1 rfl d_CS_read_24 ?_
      refine J_iconst (v := 1) rfl d_CS_read_25 ?_
      refine J_callVi (m_CS_finding l g ad _ _) ok_CS_finding rc_71 wi_CS_finding wl_CS_CS_finding wk_CS_140 ⟨rfl, rfl, Nat.le_of_ble_eq_true rfl, Nat.le_of_ble_eq_true rfl⟩ ⟨Nat.zero_le _, Nat.zero_le _⟩ (rest := []) rfl rfl (Nat.le_of_ble_eq_true rfl) d_CS_read_26 (fun v23 h24 => ?_)
      exact J_iret (Nat.le_refl _) (Nat.le_refl _) d_CS_read_29 rfl (fun hx => hx)
  · refine J_bipush (v := (-2)) rfl d_CS_read_7 ?_
    exact J_iret (Nat.le_refl _) (Nat.le_refl _) d_CS_read_9 rfl (fun hx => hx)
end
