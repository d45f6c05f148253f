/-! rooms; words of the tables that the methods use (printed) -/
abbrev rm_CS_isText : Room := { frames := 0, cells := 0, slots := 0, locals := 0 }
abbrev kx_CS_isText (l : Launch) (g : GG) (Q : Option Value → va_W → Prop) : KX := (l, g, none, rm_CS_isText, y_CS_isText.cls, b_CS_isText, 1, false, 0, 0, Q, (some .boolean))
abbrev rm_CS_isBetween : Room := { frames := 0, cells := 0, slots := 0, locals := 0 }
abbrev kx_CS_isBetween (l : Launch) (g : GG) (Q : Option Value → va_W → Prop) : KX := (l, g, none, rm_CS_isBetween, y_CS_isBetween.cls, b_CS_isBetween, 3, false, 0, 0, Q, (some .boolean))
abbrev rm_Ca_fits : Room := { frames := 1, cells := 0, slots := 0, locals := 22 }
abbrev kx_Ca_fits (l : Launch) (g : GG) (Q : Option Value → va_W → Prop) : KX := (l, g, none, rm_Ca_fits, y_Ca_fits.cls, b_Ca_fits, 3, false, 0, 0, Q, (some .boolean))
abbrev rm_Ba_fits : Room := { frames := 1, cells := 0, slots := 0, locals := 22 }
abbrev kx_Ba_fits (l : Launch) (g : GG) (Q : Option Value → va_W → Prop) : KX := (l, g, none, rm_Ba_fits, y_Ba_fits.cls, b_Ba_fits, 3, false, 0, 0, Q, (some .boolean))
abbrev rm_Tx_findFault : Room := { frames := 2, cells := 0, slots := 0, locals := 44 }
abbrev kx_Tx_findFault (l : Launch) (g : GG) (Q : Option Value → va_W → Prop) : KX := (l, g, none, rm_Tx_findFault, y_Tx_findFault.cls, b_Tx_findFault, 3, false, 0, 0, Q, (some .int))
abbrev rm_Ca_learn : Room := { frames := 0, cells := 0, slots := 0, locals := 0 }
abbrev kx_Ca_learn (l : Launch) (g : GG) (Q : Option Value → va_W → Prop) : KX := (l, g, none, rm_Ca_learn, y_Ca_learn.cls, b_Ca_learn, 4, false, 0, 0, Q, none)
abbrev rm_Ba_learn : Room := { frames := 0, cells := 0, slots := 0, locals := 0 }
abbrev kx_Ba_learn (l : Launch) (g : GG) (Q : Option Value → va_W → Prop) : KX := (l, g, none, rm_Ba_learn, y_Ba_learn.cls, b_Ba_learn, 3, false, 0, 0, Q, none)
abbrev rm_Tx_parse : Room := { frames := 3, cells := 0, slots := 0, locals := 66 }
abbrev kx_Tx_parse (l : Launch) (g : GG) (Q : Option Value → va_W → Prop) : KX := (l, g, none, rm_Tx_parse, y_Tx_parse.cls, b_Tx_parse, 2, false, 0, 0, Q, none)
abbrev rm_Tx_append : Room := { frames := 4, cells := 0, slots := 0, locals := 87 }
abbrev kx_Tx_append (l : Launch) (g : GG) (Q : Option Value → va_W → Prop) : KX := (l, g, none, rm_Tx_append, y_Tx_append.cls, b_Tx_append, 2, false, 0, 0, Q, (some .boolean))
abbrev rm_CS_type : Room := { frames := 5, cells := 0, slots := 0, locals := 108 }
abbrev kx_CS_type (l : Launch) (g : GG) (Q : Option Value → va_W → Prop) : KX := (l, g, none, rm_CS_type, y_CS_type.cls, b_CS_type, 3, false, 0, 0, Q, (some .int))
abbrev rm_Tx_cutTo : Room := { frames := 4, cells := 0, slots := 0, locals := 87 }
abbrev kx_Tx_cutTo (l : Launch) (g : GG) (Q : Option Value → va_W → Prop) : KX := (l, g, none, rm_Tx_cutTo, y_Tx_cutTo.cls, b_Tx_cutTo, 2, false, 0, 0, Q, none)
abbrev rm_CS_wipe : Room := { frames := 5, cells := 0, slots := 0, locals := 108 }
abbrev kx_CS_wipe (l : Launch) (g : GG) (Q : Option Value → va_W → Prop) : KX := (l, g, none, rm_CS_wipe, y_CS_wipe.cls, b_CS_wipe, 3, false, 0, 0, Q, (some .int))
abbrev rm_CS_undo : Room := { frames := 5, cells := 0, slots := 0, locals := 108 }
abbrev kx_CS_undo (l : Launch) (g : GG) (Q : Option Value → va_W → Prop) : KX := (l, g, none, rm_CS_undo, y_CS_undo.cls, b_CS_undo, 3, false, 0, 0, Q, (some .int))
abbrev rm_CS_fault : Room := { frames := 1, cells := 0, slots := 0, locals := 20 }
abbrev kx_CS_fault (l : Launch) (g : GG) (Q : Option Value → va_W → Prop) : KX := (l, g, none, rm_CS_fault, y_CS_fault.cls, b_CS_fault, 2, false, 0, 0, Q, (some .int))
abbrev rm_CS_isCamel : Room := { frames := 0, cells := 0, slots := 0, locals := 0 }
abbrev kx_CS_isCamel (l : Launch) (g : GG) (Q : Option Value → va_W → Prop) : KX := (l, g, none, rm_CS_isCamel, y_CS_isCamel.cls, b_CS_isCamel, 2, false, 0, 0, Q, (some .boolean))
abbrev rm_CS_strengthOf : Room := { frames := 0, cells := 0, slots := 0, locals := 0 }
abbrev kx_CS_strengthOf (l : Launch) (g : GG) (Q : Option Value → va_W → Prop) : KX := (l, g, none, rm_CS_strengthOf, y_CS_strengthOf.cls, b_CS_strengthOf, 1, false, 0, 0, Q, (some .int))
abbrev rm_CS_camel : Room := { frames := 1, cells := 0, slots := 0, locals := 21 }
abbrev kx_CS_camel (l : Launch) (g : GG) (Q : Option Value → va_W → Prop) : KX := (l, g, none, rm_CS_camel, y_CS_camel.cls, b_CS_camel, 3, false, 0, 0, Q, (some .int))
abbrev rm_CS_isBale : Room := { frames := 0, cells := 0, slots := 0, locals := 0 }
abbrev kx_CS_isBale (l : Launch) (g : GG) (Q : Option Value → va_W → Prop) : KX := (l, g, none, rm_CS_isBale, y_CS_isBale.cls, b_CS_isBale, 2, false, 0, 0, Q, (some .boolean))
abbrev rm_CS_bale : Room := { frames := 1, cells := 0, slots := 0, locals := 21 }
abbrev kx_CS_bale (l : Launch) (g : GG) (Q : Option Value → va_W → Prop) : KX := (l, g, none, rm_CS_bale, y_CS_bale.cls, b_CS_bale, 3, false, 0, 0, Q, (some .int))
abbrev rm_CS_isDay : Room := { frames := 0, cells := 0, slots := 0, locals := 0 }
abbrev kx_CS_isDay (l : Launch) (g : GG) (Q : Option Value → va_W → Prop) : KX := (l, g, none, rm_CS_isDay, y_CS_isDay.cls, b_CS_isDay, 1, false, 0, 0, Q, (some .boolean))
abbrev rm_CS_isPlaceOfCamel : Room := { frames := 0, cells := 0, slots := 0, locals := 0 }
abbrev kx_CS_isPlaceOfCamel (l : Launch) (g : GG) (Q : Option Value → va_W → Prop) : KX := (l, g, none, rm_CS_isPlaceOfCamel, y_CS_isPlaceOfCamel.cls, b_CS_isPlaceOfCamel, 1, false, 0, 0, Q, (some .boolean))
abbrev rm_St_append : Room := { frames := 0, cells := 0, slots := 0, locals := 0 }
abbrev kx_St_append (l : Launch) (g : GG) (Q : Option Value → va_W → Prop) : KX := (l, g, none, rm_St_append, y_St_append.cls, b_St_append, 3, false, 0, 0, Q, (some .boolean))
abbrev rm_CS_straw : Room := { frames := 1, cells := 0, slots := 0, locals := 22 }
abbrev kx_CS_straw (l : Launch) (g : GG) (Q : Option Value → va_W → Prop) : KX := (l, g, none, rm_CS_straw, y_CS_straw.cls, b_CS_straw, 3, false, 0, 0, Q, (some .int))
abbrev rm_CS_back : Room := { frames := 0, cells := 0, slots := 0, locals := 0 }
abbrev kx_CS_back (l : Launch) (g : GG) (Q : Option Value → va_W → Prop) : KX := (l, g, none, rm_CS_back, y_CS_back.cls, b_CS_back, 1, false, 0, 0, Q, (some .int))
abbrev rm_CS_isSheet : Room := { frames := 0, cells := 0, slots := 0, locals := 0 }
abbrev kx_CS_isSheet (l : Launch) (g : GG) (Q : Option Value → va_W → Prop) : KX := (l, g, none, rm_CS_isSheet, y_CS_isSheet.cls, b_CS_isSheet, 1, false, 0, 0, Q, (some .boolean))
abbrev rm_Sh_isLost : Room := { frames := 0, cells := 0, slots := 0, locals := 0 }
abbrev kx_Sh_isLost (l : Launch) (g : GG) (Q : Option Value → va_W → Prop) : KX := (l, g, none, rm_Sh_isLost, y_Sh_isLost.cls, b_Sh_isLost, 1, false, 0, 0, Q, (some .boolean))
abbrev rm_CS_finding : Room := { frames := 0, cells := 0, slots := 0, locals := 0 }
abbrev kx_CS_finding (l : Launch) (g : GG) (Q : Option Value → va_W → Prop) : KX := (l, g, none, rm_CS_finding, y_CS_finding.cls, b_CS_finding, 2, false, 0, 0, Q, (some .int))
abbrev rm_CS_read : Room := { frames := 2, cells := 0, slots := 0, locals := 44 }
abbrev kx_CS_read (l : Launch) (g : GG) (Q : Option Value → va_W → Prop) : KX := (l, g, none, rm_CS_read, y_CS_read.cls, b_CS_read, 5, false, 0, 0, Q, (some .int))
abbrev rm_Cv_busyDaysOf : Room := { frames := 0, cells := 0, slots := 0, locals := 0 }
abbrev kx_Cv_busyDaysOf (l : Launch) (g : GG) (Q : Option Value → va_W → Prop) : KX := (l, g, none, rm_Cv_busyDaysOf, y_Cv_busyDaysOf.cls, b_Cv_busyDaysOf, 4, false, 0, 0, Q, (some .int))
abbrev rm_Wa_start : Room := { frames := 0, cells := 0, slots := 0, locals := 0 }
abbrev kx_Wa_start (l : Launch) (g : GG) (Q : Option Value → va_W → Prop) : KX := (l, g, none, rm_Wa_start, y_Wa_start.cls, b_Wa_start, 3, false, 0, 0, Q, none)
abbrev rm_Wa_rise : Room := { frames := 0, cells := 0, slots := 0, locals := 0 }
abbrev kx_Wa_rise (l : Launch) (g : GG) (Q : Option Value → va_W → Prop) : KX := (l, g, none, rm_Wa_rise, y_Wa_rise.cls, b_Wa_rise, 2, false, 0, 0, Q, none)
abbrev rm_Wa_take : Room := { frames := 0, cells := 0, slots := 0, locals := 0 }
abbrev kx_Wa_take (l : Launch) (g : GG) (Q : Option Value → va_W → Prop) : KX := (l, g, none, rm_Wa_take, y_Wa_take.cls, b_Wa_take, 2, false, 0, 0, Q, none)
abbrev rm_Wa_breakIfOver : Room := { frames := 0, cells := 0, slots := 0, locals := 0 }
abbrev kx_Wa_breakIfOver (l : Launch) (g : GG) (Q : Option Value → va_W → Prop) : KX := (l, g, none, rm_Wa_breakIfOver, y_Wa_breakIfOver.cls, b_Wa_breakIfOver, 2, false, 0, 0, Q, none)
abbrev rm_Wa_payIfLast : Room := { frames := 0, cells := 0, slots := 0, locals := 0 }
abbrev kx_Wa_payIfLast (l : Launch) (g : GG) (Q : Option Value → va_W → Prop) : KX := (l, g, none, rm_Wa_payIfLast, y_Wa_payIfLast.cls, b_Wa_payIfLast, 1, false, 0, 0, Q, none)
abbrev rm_Wa_measureRoom : Room := { frames := 0, cells := 0, slots := 0, locals := 0 }
abbrev kx_Wa_measureRoom (l : Launch) (g : GG) (Q : Option Value → va_W → Prop) : KX := (l, g, none, rm_Wa_measureRoom, y_Wa_measureRoom.cls, b_Wa_measureRoom, 1, false, 0, 0, Q, none)
abbrev rm_Wa_wear : Room := { frames := 0, cells := 0, slots := 0, locals := 0 }
abbrev kx_Wa_wear (l : Launch) (g : GG) (Q : Option Value → va_W → Prop) : KX := (l, g, none, rm_Wa_wear, y_Wa_wear.cls, b_Wa_wear, 3, false, 0, 0, Q, none)
abbrev rm_Wa_unloadAtWell : Room := { frames := 0, cells := 0, slots := 0, locals := 0 }
abbrev kx_Wa_unloadAtWell (l : Launch) (g : GG) (Q : Option Value → va_W → Prop) : KX := (l, g, none, rm_Wa_unloadAtWell, y_Wa_unloadAtWell.cls, b_Wa_unloadAtWell, 2, false, 0, 0, Q, none)
abbrev rm_Wa_keep : Room := { frames := 0, cells := 0, slots := 0, locals := 0 }
abbrev kx_Wa_keep (l : Launch) (g : GG) (Q : Option Value → va_W → Prop) : KX := (l, g, none, rm_Wa_keep, y_Wa_keep.cls, b_Wa_keep, 3, false, 0, 0, Q, none)
abbrev rm_Cv_march : Room := { frames := 1, cells := 0, slots := 0, locals := 23 }
abbrev kx_Cv_march (l : Launch) (g : GG) (Q : Option Value → va_W → Prop) : KX := (l, g, none, rm_Cv_march, y_Cv_march.cls, b_Cv_march, 6, false, 0, 0, Q, (some (.object "CamelStraws$Walk")))
abbrev rm_Wa_behind : Room := { frames := 0, cells := 0, slots := 0, locals := 0 }
abbrev kx_Wa_behind (l : Launch) (g : GG) (Q : Option Value → va_W → Prop) : KX := (l, g, none, rm_Wa_behind, y_Wa_behind.cls, b_Wa_behind, 3, false, 0, 0, Q, (some .int))
abbrev rm_CS_at : Room := { frames := 2, cells := 0, slots := 0, locals := 48 }
abbrev kx_CS_at (l : Launch) (g : GG) (Q : Option Value → va_W → Prop) : KX := (l, g, none, rm_CS_at, y_CS_at.cls, b_CS_at, 4, false, 0, 0, Q, (some .int))
abbrev rm_Cv_inAll : Room := { frames := 2, cells := 0, slots := 0, locals := 48 }
abbrev kx_Cv_inAll (l : Launch) (g : GG) (Q : Option Value → va_W → Prop) : KX := (l, g, none, rm_Cv_inAll, y_Cv_inAll.cls, b_Cv_inAll, 4, false, 0, 0, Q, (some .int))
abbrev rm_CS_through : Room := { frames := 3, cells := 0, slots := 0, locals := 71 }
abbrev kx_CS_through (l : Launch) (g : GG) (Q : Option Value → va_W → Prop) : KX := (l, g, none, rm_CS_through, y_CS_through.cls, b_CS_through, 1, false, 0, 0, Q, (some .int))
abbrev rm_CS_lost : Room := { frames := 3, cells := 0, slots := 0, locals := 71 }
abbrev kx_CS_lost (l : Launch) (g : GG) (Q : Option Value → va_W → Prop) : KX := (l, g, none, rm_CS_lost, y_CS_lost.cls, b_CS_lost, 1, false, 0, 0, Q, (some .int))
abbrev rm_Cv_firstToBreak : Room := { frames := 2, cells := 0, slots := 0, locals := 48 }
abbrev kx_Cv_firstToBreak (l : Launch) (g : GG) (Q : Option Value → va_W → Prop) : KX := (l, g, none, rm_Cv_firstToBreak, y_Cv_firstToBreak.cls, b_Cv_firstToBreak, 5, false, 0, 0, Q, (some .int))
abbrev rm_CS_first : Room := { frames := 3, cells := 0, slots := 0, locals := 72 }
abbrev kx_CS_first (l : Launch) (g : GG) (Q : Option Value → va_W → Prop) : KX := (l, g, none, rm_CS_first, y_CS_first.cls, b_CS_first, 3, false, 0, 0, Q, (some .int))
abbrev rm_Cv_broughtBy : Room := { frames := 2, cells := 0, slots := 0, locals := 48 }
abbrev kx_Cv_broughtBy (l : Launch) (g : GG) (Q : Option Value → va_W → Prop) : KX := (l, g, none, rm_Cv_broughtBy, y_Cv_broughtBy.cls, b_Cv_broughtBy, 2, false, 0, 0, Q, (some .int))
abbrev rm_Cv_bestCamel : Room := { frames := 3, cells := 0, slots := 0, locals := 69 }
abbrev kx_Cv_bestCamel (l : Launch) (g : GG) (Q : Option Value → va_W → Prop) : KX := (l, g, none, rm_Cv_bestCamel, y_Cv_bestCamel.cls, b_Cv_bestCamel, 5, false, 0, 0, Q, (some .int))
abbrev rm_CS_best : Room := { frames := 4, cells := 0, slots := 0, locals := 93 }
abbrev kx_CS_best (l : Launch) (g : GG) (Q : Option Value → va_W → Prop) : KX := (l, g, none, rm_CS_best, y_CS_best.cls, b_CS_best, 1, false, 0, 0, Q, (some .int))
abbrev rm_Cv_wholeCamels : Room := { frames := 2, cells := 0, slots := 0, locals := 48 }
abbrev kx_Cv_wholeCamels (l : Launch) (g : GG) (Q : Option Value → va_W → Prop) : KX := (l, g, none, rm_Cv_wholeCamels, y_Cv_wholeCamels.cls, b_Cv_wholeCamels, 3, false, 0, 0, Q, (some .int))
abbrev rm_CS_whole : Room := { frames := 3, cells := 0, slots := 0, locals := 70 }
abbrev kx_CS_whole (l : Launch) (g : GG) (Q : Option Value → va_W → Prop) : KX := (l, g, none, rm_CS_whole, y_CS_whole.cls, b_CS_whole, 1, false, 0, 0, Q, (some .int))
abbrev rm_Ar_fill : Room := { frames := 0, cells := 0, slots := 0, locals := 0 }
abbrev kx_Ar_fill (l : Launch) (g : GG) (Q : Option Value → va_W → Prop) : KX := (l, g, none, rm_Ar_fill, y_Ar_fill.cls, b_Ar_fill, 4, false, 0, 0, Q, none)
abbrev rm_Cv_tiredDay : Room := { frames := 2, cells := 0, slots := 0, locals := 48 }
abbrev kx_Cv_tiredDay (l : Launch) (g : GG) (Q : Option Value → va_W → Prop) : KX := (l, g, none, rm_Cv_tiredDay, y_Cv_tiredDay.cls, b_Cv_tiredDay, 3, false, 0, 0, Q, (some .int))
abbrev rm_CS_tired : Room := { frames := 3, cells := 0, slots := 0, locals := 70 }
abbrev kx_CS_tired (l : Launch) (g : GG) (Q : Option Value → va_W → Prop) : KX := (l, g, none, rm_CS_tired, y_CS_tired.cls, b_CS_tired, 1, false, 0, 0, Q, (some .int))
abbrev rm_CS_last : Room := { frames := 2, cells := 0, slots := 0, locals := 48 }
abbrev kx_CS_last (l : Launch) (g : GG) (Q : Option Value → va_W → Prop) : KX := (l, g, none, rm_CS_last, y_CS_last.cls, b_CS_last, 4, false, 0, 0, Q, (some .int))
abbrev rm_Pl_beginChoice : Room := { frames := 0, cells := 0, slots := 0, locals := 0 }
abbrev kx_Pl_beginChoice (l : Launch) (g : GG) (Q : Option Value → va_W → Prop) : KX := (l, g, none, rm_Pl_beginChoice, y_Pl_beginChoice.cls, b_Pl_beginChoice, 1, false, 0, 0, Q, none)
abbrev rm_Pl_choose : Room := { frames := 0, cells := 0, slots := 0, locals := 0 }
abbrev kx_Pl_choose (l : Launch) (g : GG) (Q : Option Value → va_W → Prop) : KX := (l, g, none, rm_Pl_choose, y_Pl_choose.cls, b_Pl_choose, 3, false, 0, 0, Q, none)
abbrev rm_Pl_tryCamels : Room := { frames := 3, cells := 0, slots := 0, locals := 71 }
abbrev kx_Pl_tryCamels (l : Launch) (g : GG) (Q : Option Value → va_W → Prop) : KX := (l, g, none, rm_Pl_tryCamels, y_Pl_tryCamels.cls, b_Pl_tryCamels, 7, false, 0, 0, Q, none)
abbrev rm_CS_bear : Room := { frames := 4, cells := 0, slots := 0, locals := 97 }
abbrev kx_CS_bear (l : Launch) (g : GG) (Q : Option Value → va_W → Prop) : KX := (l, g, none, rm_CS_bear, y_CS_bear.cls, b_CS_bear, 3, false, 0, 0, Q, (some .int))
abbrev rm_Pl_tryDays : Room := { frames := 3, cells := 0, slots := 0, locals := 71 }
abbrev kx_Pl_tryDays (l : Launch) (g : GG) (Q : Option Value → va_W → Prop) : KX := (l, g, none, rm_Pl_tryDays, y_Pl_tryDays.cls, b_Pl_tryDays, 7, false, 0, 0, Q, none)
abbrev rm_CS_when : Room := { frames := 4, cells := 0, slots := 0, locals := 97 }
abbrev kx_CS_when (l : Launch) (g : GG) (Q : Option Value → va_W → Prop) : KX := (l, g, none, rm_CS_when, y_CS_when.cls, b_CS_when, 3, false, 0, 0, Q, (some .int))
abbrev rm_Pl_allStandWithout : Room := { frames := 3, cells := 0, slots := 0, locals := 72 }
abbrev kx_Pl_allStandWithout (l : Launch) (g : GG) (Q : Option Value → va_W → Prop) : KX := (l, g, none, rm_Pl_allStandWithout, y_Pl_allStandWithout.cls, b_Pl_allStandWithout, 3, false, 0, 0, Q, (some .boolean))
abbrev rm_Pl_sparedStraws : Room := { frames := 4, cells := 0, slots := 0, locals := 94 }
abbrev kx_Pl_sparedStraws (l : Launch) (g : GG) (Q : Option Value → va_W → Prop) : KX := (l, g, none, rm_Pl_sparedStraws, y_Pl_sparedStraws.cls, b_Pl_sparedStraws, 4, false, 0, 0, Q, (some .int))
abbrev rm_In_bitCount : Room := { frames := 0, cells := 0, slots := 0, locals := 0 }
abbrev kx_In_bitCount (l : Launch) (g : GG) (Q : Option Value → va_W → Prop) : KX := (l, g, none, rm_In_bitCount, y_In_bitCount.cls, b_In_bitCount, 1, false, 0, 0, Q, (some .int))
abbrev rm_In_numberOfTrailingZeros : Room := { frames := 0, cells := 0, slots := 0, locals := 0 }
abbrev kx_In_numberOfTrailingZeros (l : Launch) (g : GG) (Q : Option Value → va_W → Prop) : KX := (l, g, none, rm_In_numberOfTrailingZeros, y_In_numberOfTrailingZeros.cls, b_In_numberOfTrailingZeros, 2, false, 0, 0, Q, (some .int))
abbrev rm_CS_spare : Room := { frames := 5, cells := 0, slots := 0, locals := 117 }
abbrev kx_CS_spare (l : Launch) (g : GG) (Q : Option Value → va_W → Prop) : KX := (l, g, none, rm_CS_spare, y_CS_spare.cls, b_CS_spare, 4, false, 0, 0, Q, (some .int))
abbrev rm_Gu_append : Room := { frames := 0, cells := 0, slots := 0, locals := 0 }
abbrev kx_Gu_append (l : Launch) (g : GG) (Q : Option Value → va_W → Prop) : KX := (l, g, none, rm_Gu_append, y_Gu_append.cls, b_Gu_append, 4, false, 0, 0, Q, (some .boolean))
abbrev rm_CS_seen : Room := { frames := 1, cells := 0, slots := 0, locals := 23 }
abbrev kx_CS_seen (l : Launch) (g : GG) (Q : Option Value → va_W → Prop) : KX := (l, g, none, rm_CS_seen, y_CS_seen.cls, b_CS_seen, 4, false, 0, 0, Q, (some .int))
abbrev rm_CS_forget : Room := { frames := 0, cells := 0, slots := 0, locals := 0 }
abbrev kx_CS_forget (l : Launch) (g : GG) (Q : Option Value → va_W → Prop) : KX := (l, g, none, rm_CS_forget, y_CS_forget.cls, b_CS_forget, 2, false, 0, 0, Q, (some .int))
abbrev rm_Gu_allComesOut : Room := { frames := 2, cells := 0, slots := 0, locals := 48 }
abbrev kx_Gu_allComesOut (l : Launch) (g : GG) (Q : Option Value → va_W → Prop) : KX := (l, g, none, rm_Gu_allComesOut, y_Gu_allComesOut.cls, b_Gu_allComesOut, 2, false, 0, 0, Q, (some .boolean))
abbrev rm_Gu_strawsThatNeverWere : Room := { frames := 3, cells := 0, slots := 0, locals := 69 }
abbrev kx_Gu_strawsThatNeverWere (l : Launch) (g : GG) (Q : Option Value → va_W → Prop) : KX := (l, g, none, rm_Gu_strawsThatNeverWere, y_Gu_strawsThatNeverWere.cls, b_Gu_strawsThatNeverWere, 3, false, 0, 0, Q, (some .int))
abbrev rm_CS_never : Room := { frames := 4, cells := 0, slots := 0, locals := 91 }
abbrev kx_CS_never (l : Launch) (g : GG) (Q : Option Value → va_W → Prop) : KX := (l, g, none, rm_CS_never, y_CS_never.cls, b_CS_never, 1, false, 0, 0, Q, (some .int))
abbrev rm_Gu_valuesThatFit : Room := { frames := 3, cells := 0, slots := 0, locals := 69 }
abbrev kx_Gu_valuesThatFit (l : Launch) (g : GG) (Q : Option Value → va_W → Prop) : KX := (l, g, none, rm_Gu_valuesThatFit, y_Gu_valuesThatFit.cls, b_Gu_valuesThatFit, 8, false, 0, 0, Q, (some .int))
abbrev rm_CS_was : Room := { frames := 4, cells := 0, slots := 0, locals := 96 }
abbrev kx_CS_was (l : Launch) (g : GG) (Q : Option Value → va_W → Prop) : KX := (l, g, none, rm_CS_was, y_CS_was.cls, b_CS_was, 3, false, 0, 0, Q, (some .int))
abbrev rm_Gu_noteLoads : Room := { frames := 2, cells := 0, slots := 0, locals := 48 }
abbrev kx_Gu_noteLoads (l : Launch) (g : GG) (Q : Option Value → va_W → Prop) : KX := (l, g, none, rm_Gu_noteLoads, y_Gu_noteLoads.cls, b_Gu_noteLoads, 8, false, 0, 0, Q, none)
abbrev rm_Gu_mostAlike : Room := { frames := 1, cells := 0, slots := 0, locals := 21 }
abbrev kx_Gu_mostAlike (l : Launch) (g : GG) (Q : Option Value → va_W → Prop) : KX := (l, g, none, rm_Gu_mostAlike, y_Gu_mostAlike.cls, b_Gu_mostAlike, 8, false, 0, 0, Q, (some .int))
abbrev rm_Gu_dayToLook : Room := { frames := 3, cells := 0, slots := 0, locals := 75 }
abbrev kx_Gu_dayToLook (l : Launch) (g : GG) (Q : Option Value → va_W → Prop) : KX := (l, g, none, rm_Gu_dayToLook, y_Gu_dayToLook.cls, b_Gu_dayToLook, 5, false, 0, 0, Q, (some .int))
abbrev rm_CS_ask : Room := { frames := 4, cells := 0, slots := 0, locals := 99 }
abbrev kx_CS_ask (l : Launch) (g : GG) (Q : Option Value → va_W → Prop) : KX := (l, g, none, rm_CS_ask, y_CS_ask.cls, b_CS_ask, 3, false, 0, 0, Q, (some .int))
abbrev rm_St_onCamel : Room := { frames := 0, cells := 0, slots := 0, locals := 0 }
abbrev kx_St_onCamel (l : Launch) (g : GG) (Q : Option Value → va_W → Prop) : KX := (l, g, none, rm_St_onCamel, y_St_onCamel.cls, b_St_onCamel, 4, false, 0, 0, Q, (some .int))
abbrev rm_Od_breaksWithout : Room := { frames := 2, cells := 0, slots := 0, locals := 48 }
abbrev kx_Od_breaksWithout (l : Launch) (g : GG) (Q : Option Value → va_W → Prop) : KX := (l, g, none, rm_Od_breaksWithout, y_Od_breaksWithout.cls, b_Od_breaksWithout, 4, false, 0, 0, Q, (some .boolean))
abbrev rm_Od_power : Room := { frames := 0, cells := 0, slots := 0, locals := 0 }
abbrev kx_Od_power (l : Launch) (g : GG) (Q : Option Value → va_W → Prop) : KX := (l, g, none, rm_Od_power, y_Od_power.cls, b_Od_power, 5, false, 0, 0, Q, (some .long))
abbrev rm_Od_reduce : Room := { frames := 0, cells := 0, slots := 0, locals := 0 }
abbrev kx_Od_reduce (l : Launch) (g : GG) (Q : Option Value → va_W → Prop) : KX := (l, g, none, rm_Od_reduce, y_Od_reduce.cls, b_Od_reduce, 2, false, 0, 0, Q, none)
abbrev rm_Od_ofBreaking : Room := { frames := 3, cells := 0, slots := 0, locals := 71 }
abbrev kx_Od_ofBreaking (l : Launch) (g : GG) (Q : Option Value → va_W → Prop) : KX := (l, g, none, rm_Od_ofBreaking, y_Od_ofBreaking.cls, b_Od_ofBreaking, 6, false, 0, 0, Q, none)
abbrev rm_CS_chance : Room := { frames := 4, cells := 0, slots := 0, locals := 96 }
abbrev kx_CS_chance (l : Launch) (g : GG) (Q : Option Value → va_W → Prop) : KX := (l, g, none, rm_CS_chance, y_CS_chance.cls, b_CS_chance, 4, false, 0, 0, Q, (some .long))
abbrev rm_St_nextSeed : Room := { frames := 0, cells := 0, slots := 0, locals := 0 }
abbrev kx_St_nextSeed (l : Launch) (g : GG) (Q : Option Value → va_W → Prop) : KX := (l, g, none, rm_St_nextSeed, y_St_nextSeed.cls, b_St_nextSeed, 1, false, 0, 0, Q, (some .int))
abbrev rm_St_draw : Room := { frames := 1, cells := 0, slots := 0, locals := 22 }
abbrev kx_St_draw (l : Launch) (g : GG) (Q : Option Value → va_W → Prop) : KX := (l, g, none, rm_St_draw, y_St_draw.cls, b_St_draw, 7, false, 0, 0, Q, none)
abbrev rm_CS_years : Room := { frames := 3, cells := 0, slots := 0, locals := 71 }
abbrev kx_CS_years (l : Launch) (g : GG) (Q : Option Value → va_W → Prop) : KX := (l, g, none, rm_CS_years, y_CS_years.cls, b_CS_years, 5, false, 0, 0, Q, (some .int))
abbrev rm_CS_isForm : Room := { frames := 0, cells := 0, slots := 0, locals := 0 }
abbrev kx_CS_isForm (l : Launch) (g : GG) (Q : Option Value → va_W → Prop) : KX := (l, g, none, rm_CS_isForm, y_CS_isForm.cls, b_CS_isForm, 1, false, 0, 0, Q, (some .boolean))
abbrev rm_Sh_renew : Room := { frames := 1, cells := 0, slots := 0, locals := 23 }
abbrev kx_Sh_renew (l : Launch) (g : GG) (Q : Option Value → va_W → Prop) : KX := (l, g, none, rm_Sh_renew, y_Sh_renew.cls, b_Sh_renew, 3, false, 0, 0, Q, none)
abbrev rm_CS_sheet : Room := { frames := 2, cells := 0, slots := 0, locals := 45 }
abbrev kx_CS_sheet (l : Launch) (g : GG) (Q : Option Value → va_W → Prop) : KX := (l, g, none, rm_CS_sheet, y_CS_sheet.cls, b_CS_sheet, 4, false, 0, 0, Q, (some .int))
abbrev rm_CS_lose : Room := { frames := 2, cells := 0, slots := 0, locals := 45 }
abbrev kx_CS_lose (l : Launch) (g : GG) (Q : Option Value → va_W → Prop) : KX := (l, g, none, rm_CS_lose, y_CS_lose.cls, b_CS_lose, 3, false, 0, 0, Q, (some .int))
abbrev rm_Sh_hasItems : Room := { frames := 0, cells := 0, slots := 0, locals := 0 }
abbrev kx_Sh_hasItems (l : Launch) (g : GG) (Q : Option Value → va_W → Prop) : KX := (l, g, none, rm_Sh_hasItems, y_Sh_hasItems.cls, b_Sh_hasItems, 3, false, 0, 0, Q, (some .boolean))
abbrev rm_Sh_whatForbids : Room := { frames := 1, cells := 0, slots := 0, locals := 22 }
abbrev kx_Sh_whatForbids (l : Launch) (g : GG) (Q : Option Value → va_W → Prop) : KX := (l, g, none, rm_Sh_whatForbids, y_Sh_whatForbids.cls, b_Sh_whatForbids, 3, false, 0, 0, Q, (some .int))
abbrev rm_CS_lowestBits : Room := { frames := 0, cells := 0, slots := 0, locals := 0 }
abbrev kx_CS_lowestBits (l : Launch) (g : GG) (Q : Option Value → va_W → Prop) : KX := (l, g, none, rm_CS_lowestBits, y_CS_lowestBits.cls, b_CS_lowestBits, 2, false, 0, 0, Q, (some .int))
abbrev rm_CS_put : Room := { frames := 2, cells := 0, slots := 0, locals := 44 }
abbrev kx_CS_put (l : Launch) (g : GG) (Q : Option Value → va_W → Prop) : KX := (l, g, none, rm_CS_put, y_CS_put.cls, b_CS_put, 6, false, 0, 0, Q, (some .int))
abbrev rm_CS_get : Room := { frames := 2, cells := 0, slots := 0, locals := 44 }
abbrev kx_CS_get (l : Launch) (g : GG) (Q : Option Value → va_W → Prop) : KX := (l, g, none, rm_CS_get, y_CS_get.cls, b_CS_get, 5, false, 0, 0, Q, (some .int))
abbrev rm_CS_copy : Room := { frames := 1, cells := 0, slots := 0, locals := 60 }
abbrev kx_CS_copy (l : Launch) (g : GG) (Q : Option Value → va_W → Prop) : KX := (l, g, none, rm_CS_copy, y_CS_copy.cls, b_CS_copy, 8, false, 0, 0, Q, (some .int))
abbrev rm_CS_write : Room := { frames := 2, cells := 0, slots := 0, locals := 48 }
abbrev kx_CS_write (l : Launch) (g : GG) (Q : Option Value → va_W → Prop) : KX := (l, g, none, rm_CS_write, y_CS_write.cls, b_CS_write, 7, false, 0, 0, Q, (some .int))
abbrev rm_CS_count : Room := { frames := 3, cells := 0, slots := 0, locals := 71 }
abbrev kx_CS_count (l : Launch) (g : GG) (Q : Option Value → va_W → Prop) : KX := (l, g, none, rm_CS_count, y_CS_count.cls, b_CS_count, 2, false, 0, 0, Q, (some .int))
abbrev rm_CS_mix : Room := { frames := 0, cells := 0, slots := 0, locals := 0 }
abbrev kx_CS_mix (l : Launch) (g : GG) (Q : Option Value → va_W → Prop) : KX := (l, g, none, rm_CS_mix, y_CS_mix.cls, b_CS_mix, 4, false, 0, 0, Q, (some .long))
abbrev rm_CS_mixBale : Room := { frames := 5, cells := 0, slots := 0, locals := 119 }
abbrev kx_CS_mixBale (l : Launch) (g : GG) (Q : Option Value → va_W → Prop) : KX := (l, g, none, rm_CS_mixBale, y_CS_mixBale.cls, b_CS_mixBale, 7, false, 0, 0, Q, (some .long))
abbrev rm_CS_mixDay : Room := { frames := 3, cells := 0, slots := 0, locals := 71 }
abbrev kx_CS_mixDay (l : Launch) (g : GG) (Q : Option Value → va_W → Prop) : KX := (l, g, none, rm_CS_mixDay, y_CS_mixDay.cls, b_CS_mixDay, 8, false, 0, 0, Q, (some .long))
abbrev rm_CS_mixCamel : Room := { frames := 5, cells := 0, slots := 0, locals := 121 }
abbrev kx_CS_mixCamel (l : Launch) (g : GG) (Q : Option Value → va_W → Prop) : KX := (l, g, none, rm_CS_mixCamel, y_CS_mixCamel.cls, b_CS_mixCamel, 6, false, 0, 0, Q, (some .long))
abbrev rm_CS_digest : Room := { frames := 6, cells := 0, slots := 0, locals := 146 }
abbrev kx_CS_digest (l : Launch) (g : GG) (Q : Option Value → va_W → Prop) : KX := (l, g, none, rm_CS_digest, y_CS_digest.cls, b_CS_digest, 4, false, 0, 0, Q, (some .long))
abbrev rm_Mo_in : Room := { frames := 0, cells := 0, slots := 0, locals := 0 }
abbrev kx_Mo_in (l : Launch) (g : GG) (Q : Option Value → va_W → Prop) : KX := (l, g, none, rm_Mo_in, y_Mo_in.cls, b_Mo_in, 3, false, 0, 0, Q, (some .boolean))
abbrev rm_Mo_isText : Room := { frames := 1, cells := 0, slots := 0, locals := 22 }
abbrev kx_Mo_isText (l : Launch) (g : GG) (Q : Option Value → va_W → Prop) : KX := (l, g, none, rm_Mo_isText, y_Mo_isText.cls, b_Mo_isText, 1, false, 0, 0, Q, (some .boolean))
abbrev rm_Mo_type : Room := { frames := 2, cells := 0, slots := 0, locals := 42 }
abbrev kx_Mo_type (l : Launch) (g : GG) (Q : Option Value → va_W → Prop) : KX := (l, g, none, rm_Mo_type, y_Mo_type.cls, b_Mo_type, 3, false, 0, 0, Q, (some .int))
abbrev rm_Mo_wipe : Room := { frames := 2, cells := 0, slots := 0, locals := 42 }
abbrev kx_Mo_wipe (l : Launch) (g : GG) (Q : Option Value → va_W → Prop) : KX := (l, g, none, rm_Mo_wipe, y_Mo_wipe.cls, b_Mo_wipe, 3, false, 0, 0, Q, (some .int))
abbrev rm_Mo_undo : Room := { frames := 2, cells := 0, slots := 0, locals := 42 }
abbrev kx_Mo_undo (l : Launch) (g : GG) (Q : Option Value → va_W → Prop) : KX := (l, g, none, rm_Mo_undo, y_Mo_undo.cls, b_Mo_undo, 2, false, 0, 0, Q, (some .int))
abbrev rm_Mo_byteAt : Room := { frames := 0, cells := 0, slots := 0, locals := 0 }
abbrev kx_Mo_byteAt (l : Launch) (g : GG) (Q : Option Value → va_W → Prop) : KX := (l, g, none, rm_Mo_byteAt, y_Mo_byteAt.cls, b_Mo_byteAt, 3, false, 0, 0, Q, (some .int))
abbrev rm_Mo_readsCamel : Room := { frames := 1, cells := 0, slots := 0, locals := 22 }
abbrev kx_Mo_readsCamel (l : Launch) (g : GG) (Q : Option Value → va_W → Prop) : KX := (l, g, none, rm_Mo_readsCamel, y_Mo_readsCamel.cls, b_Mo_readsCamel, 6, false, 0, 0, Q, (some .int))
abbrev rm_Mo_readsBale : Room := { frames := 1, cells := 0, slots := 0, locals := 22 }
abbrev kx_Mo_readsBale (l : Launch) (g : GG) (Q : Option Value → va_W → Prop) : KX := (l, g, none, rm_Mo_readsBale, y_Mo_readsBale.cls, b_Mo_readsBale, 6, false, 0, 0, Q, (some .int))
abbrev rm_Mo_readsParts : Room := { frames := 2, cells := 0, slots := 0, locals := 47 }
abbrev kx_Mo_readsParts (l : Launch) (g : GG) (Q : Option Value → va_W → Prop) : KX := (l, g, none, rm_Mo_readsParts, y_Mo_readsParts.cls, b_Mo_readsParts, 6, false, 0, 0, Q, (some .int))
abbrev rm_Mo_faultOf : Room := { frames := 3, cells := 0, slots := 0, locals := 72 }
abbrev kx_Mo_faultOf (l : Launch) (g : GG) (Q : Option Value → va_W → Prop) : KX := (l, g, none, rm_Mo_faultOf, y_Mo_faultOf.cls, b_Mo_faultOf, 4, false, 0, 0, Q, (some .int))
abbrev rm_Mo_fault : Room := { frames := 4, cells := 0, slots := 0, locals := 95 }
abbrev kx_Mo_fault (l : Launch) (g : GG) (Q : Option Value → va_W → Prop) : KX := (l, g, none, rm_Mo_fault, y_Mo_fault.cls, b_Mo_fault, 2, false, 0, 0, Q, (some .int))
abbrev rm_Mo_reads : Room := { frames := 4, cells := 0, slots := 0, locals := 95 }
abbrev kx_Mo_reads (l : Launch) (g : GG) (Q : Option Value → va_W → Prop) : KX := (l, g, none, rm_Mo_reads, y_Mo_reads.cls, b_Mo_reads, 2, false, 0, 0, Q, none)
abbrev rm_Mo_isCamel : Room := { frames := 5, cells := 0, slots := 0, locals := 116 }
abbrev kx_Mo_isCamel (l : Launch) (g : GG) (Q : Option Value → va_W → Prop) : KX := (l, g, none, rm_Mo_isCamel, y_Mo_isCamel.cls, b_Mo_isCamel, 2, false, 0, 0, Q, (some .boolean))
abbrev rm_Mo_isTwo : Room := { frames := 1, cells := 0, slots := 0, locals := 22 }
abbrev kx_Mo_isTwo (l : Launch) (g : GG) (Q : Option Value → va_W → Prop) : KX := (l, g, none, rm_Mo_isTwo, y_Mo_isTwo.cls, b_Mo_isTwo, 1, false, 0, 0, Q, (some .boolean))
abbrev rm_Mo_camelOf : Room := { frames := 0, cells := 0, slots := 0, locals := 0 }
abbrev kx_Mo_camelOf (l : Launch) (g : GG) (Q : Option Value → va_W → Prop) : KX := (l, g, none, rm_Mo_camelOf, y_Mo_camelOf.cls, b_Mo_camelOf, 3, false, 0, 0, Q, (some .int))
abbrev rm_Mo_camel : Room := { frames := 6, cells := 0, slots := 0, locals := 137 }
abbrev kx_Mo_camel (l : Launch) (g : GG) (Q : Option Value → va_W → Prop) : KX := (l, g, none, rm_Mo_camel, y_Mo_camel.cls, b_Mo_camel, 3, false, 0, 0, Q, (some .int))
abbrev rm_Mo_isBale : Room := { frames := 5, cells := 0, slots := 0, locals := 116 }
abbrev kx_Mo_isBale (l : Launch) (g : GG) (Q : Option Value → va_W → Prop) : KX := (l, g, none, rm_Mo_isBale, y_Mo_isBale.cls, b_Mo_isBale, 2, false, 0, 0, Q, (some .boolean))
abbrev rm_Mo_baleOf : Room := { frames := 0, cells := 0, slots := 0, locals := 0 }
abbrev kx_Mo_baleOf (l : Launch) (g : GG) (Q : Option Value → va_W → Prop) : KX := (l, g, none, rm_Mo_baleOf, y_Mo_baleOf.cls, b_Mo_baleOf, 3, false, 0, 0, Q, (some .int))
abbrev rm_Mo_bale : Room := { frames := 6, cells := 0, slots := 0, locals := 137 }
abbrev kx_Mo_bale (l : Launch) (g : GG) (Q : Option Value → va_W → Prop) : KX := (l, g, none, rm_Mo_bale, y_Mo_bale.cls, b_Mo_bale, 3, false, 0, 0, Q, (some .int))
abbrev rm_Mo_isDay : Room := { frames := 1, cells := 0, slots := 0, locals := 22 }
abbrev kx_Mo_isDay (l : Launch) (g : GG) (Q : Option Value → va_W → Prop) : KX := (l, g, none, rm_Mo_isDay, y_Mo_isDay.cls, b_Mo_isDay, 1, false, 0, 0, Q, (some .boolean))
abbrev rm_Mo_isEight : Room := { frames := 1, cells := 0, slots := 0, locals := 22 }
abbrev kx_Mo_isEight (l : Launch) (g : GG) (Q : Option Value → va_W → Prop) : KX := (l, g, none, rm_Mo_isEight, y_Mo_isEight.cls, b_Mo_isEight, 1, false, 0, 0, Q, (some .boolean))
abbrev rm_Mo_straw : Room := { frames := 2, cells := 0, slots := 0, locals := 42 }
abbrev kx_Mo_straw (l : Launch) (g : GG) (Q : Option Value → va_W → Prop) : KX := (l, g, none, rm_Mo_straw, y_Mo_straw.cls, b_Mo_straw, 3, false, 0, 0, Q, (some .int))
abbrev rm_Mo_back : Room := { frames := 0, cells := 0, slots := 0, locals := 0 }
abbrev kx_Mo_back (l : Launch) (g : GG) (Q : Option Value → va_W → Prop) : KX := (l, g, none, rm_Mo_back, y_Mo_back.cls, b_Mo_back, 1, false, 0, 0, Q, (some .int))
abbrev rm_Mo_isSheet : Room := { frames := 1, cells := 0, slots := 0, locals := 22 }
abbrev kx_Mo_isSheet (l : Launch) (g : GG) (Q : Option Value → va_W → Prop) : KX := (l, g, none, rm_Mo_isSheet, y_Mo_isSheet.cls, b_Mo_isSheet, 1, false, 0, 0, Q, (some .boolean))
abbrev rm_Mo_meets : Room := { frames := 0, cells := 0, slots := 0, locals := 0 }
abbrev kx_Mo_meets (l : Launch) (g : GG) (Q : Option Value → va_W → Prop) : KX := (l, g, none, rm_Mo_meets, y_Mo_meets.cls, b_Mo_meets, 2, false, 0, 0, Q, (some .int))
abbrev rm_Mo_read : Room := { frames := 3, cells := 0, slots := 0, locals := 64 }
abbrev kx_Mo_read (l : Launch) (g : GG) (Q : Option Value → va_W → Prop) : KX := (l, g, none, rm_Mo_read, y_Mo_read.cls, b_Mo_read, 3, false, 0, 0, Q, (some .int))
abbrev rm_Mo_asTold : Room := { frames := 5, cells := 0, slots := 0, locals := 116 }
abbrev kx_Mo_asTold (l : Launch) (g : GG) (Q : Option Value → va_W → Prop) : KX := (l, g, none, rm_Mo_asTold, y_Mo_asTold.cls, b_Mo_asTold, 2, false, 0, 0, Q, none)
abbrev rm_Mo_takes : Room := { frames := 0, cells := 0, slots := 0, locals := 0 }
abbrev kx_Mo_takes (l : Launch) (g : GG) (Q : Option Value → va_W → Prop) : KX := (l, g, none, rm_Mo_takes, y_Mo_takes.cls, b_Mo_takes, 2, false, 0, 0, Q, (some .boolean))
abbrev rm_Mo_breaks : Room := { frames := 0, cells := 0, slots := 0, locals := 0 }
abbrev kx_Mo_breaks (l : Launch) (g : GG) (Q : Option Value → va_W → Prop) : KX := (l, g, none, rm_Mo_breaks, y_Mo_breaks.cls, b_Mo_breaks, 3, false, 0, 0, Q, none)
abbrev rm_Mo_bears : Room := { frames := 1, cells := 0, slots := 0, locals := 22 }
abbrev kx_Mo_bears (l : Launch) (g : GG) (Q : Option Value → va_W → Prop) : KX := (l, g, none, rm_Mo_bears, y_Mo_bears.cls, b_Mo_bears, 3, false, 0, 0, Q, none)
abbrev rm_Mo_isIn : Room := { frames := 0, cells := 0, slots := 0, locals := 0 }
abbrev kx_Mo_isIn (l : Launch) (g : GG) (Q : Option Value → va_W → Prop) : KX := (l, g, none, rm_Mo_isIn, y_Mo_isIn.cls, b_Mo_isIn, 2, false, 0, 0, Q, (some .boolean))
abbrev rm_Mo_comesStraw : Room := { frames := 1, cells := 0, slots := 0, locals := 22 }
abbrev kx_Mo_comesStraw (l : Launch) (g : GG) (Q : Option Value → va_W → Prop) : KX := (l, g, none, rm_Mo_comesStraw, y_Mo_comesStraw.cls, b_Mo_comesStraw, 3, false, 0, 0, Q, none)
abbrev rm_Mo_comeStraws : Room := { frames := 2, cells := 0, slots := 0, locals := 44 }
abbrev kx_Mo_comeStraws (l : Launch) (g : GG) (Q : Option Value → va_W → Prop) : KX := (l, g, none, rm_Mo_comeStraws, y_Mo_comeStraws.cls, b_Mo_comeStraws, 3, false, 0, 0, Q, none)
abbrev rm_Mo_wears : Room := { frames := 0, cells := 0, slots := 0, locals := 0 }
abbrev kx_Mo_wears (l : Launch) (g : GG) (Q : Option Value → va_W → Prop) : KX := (l, g, none, rm_Mo_wears, y_Mo_wears.cls, b_Mo_wears, 3, false, 0, 0, Q, (some .boolean))
abbrev rm_Mo_tires : Room := { frames := 1, cells := 0, slots := 0, locals := 22 }
abbrev kx_Mo_tires (l : Launch) (g : GG) (Q : Option Value → va_W → Prop) : KX := (l, g, none, rm_Mo_tires, y_Mo_tires.cls, b_Mo_tires, 3, false, 0, 0, Q, none)
abbrev rm_Mo_ends : Room := { frames := 0, cells := 0, slots := 0, locals := 0 }
abbrev kx_Mo_ends (l : Launch) (g : GG) (Q : Option Value → va_W → Prop) : KX := (l, g, none, rm_Mo_ends, y_Mo_ends.cls, b_Mo_ends, 4, false, 0, 0, Q, none)
abbrev rm_Mo_goesBy : Room := { frames := 3, cells := 0, slots := 0, locals := 66 }
abbrev kx_Mo_goesBy (l : Launch) (g : GG) (Q : Option Value → va_W → Prop) : KX := (l, g, none, rm_Mo_goesBy, y_Mo_goesBy.cls, b_Mo_goesBy, 3, false, 0, 0, Q, none)
abbrev rm_Mo_runs : Room := { frames := 4, cells := 0, slots := 0, locals := 88 }
abbrev kx_Mo_runs (l : Launch) (g : GG) (Q : Option Value → va_W → Prop) : KX := (l, g, none, rm_Mo_runs, y_Mo_runs.cls, b_Mo_runs, 2, false, 0, 0, Q, none)
abbrev rm_Mo_runsTold : Room := { frames := 6, cells := 0, slots := 0, locals := 137 }
abbrev kx_Mo_runsTold (l : Launch) (g : GG) (Q : Option Value → va_W → Prop) : KX := (l, g, none, rm_Mo_runsTold, y_Mo_runsTold.cls, b_Mo_runsTold, 1, false, 0, 0, Q, none)
abbrev rm_Mo_atOf : Room := { frames := 7, cells := 0, slots := 0, locals := 157 }
abbrev kx_Mo_atOf (l : Launch) (g : GG) (Q : Option Value → va_W → Prop) : KX := (l, g, none, rm_Mo_atOf, y_Mo_atOf.cls, b_Mo_atOf, 5, false, 0, 0, Q, (some .int))
abbrev rm_Mo_at : Room := { frames := 8, cells := 0, slots := 0, locals := 181 }
abbrev kx_Mo_at (l : Launch) (g : GG) (Q : Option Value → va_W → Prop) : KX := (l, g, none, rm_Mo_at, y_Mo_at.cls, b_Mo_at, 4, false, 0, 0, Q, (some .int))
abbrev rm_Mo_throughNow : Room := { frames := 0, cells := 0, slots := 0, locals := 0 }
abbrev kx_Mo_throughNow (l : Launch) (g : GG) (Q : Option Value → va_W → Prop) : KX := (l, g, none, rm_Mo_throughNow, y_Mo_throughNow.cls, b_Mo_throughNow, 3, false, 0, 0, Q, (some .int))
abbrev rm_Mo_throughOf : Room := { frames := 7, cells := 0, slots := 0, locals := 157 }
abbrev kx_Mo_throughOf (l : Launch) (g : GG) (Q : Option Value → va_W → Prop) : KX := (l, g, none, rm_Mo_throughOf, y_Mo_throughOf.cls, b_Mo_throughOf, 1, false, 0, 0, Q, (some .int))
abbrev rm_Mo_through : Room := { frames := 8, cells := 0, slots := 0, locals := 177 }
abbrev kx_Mo_through (l : Launch) (g : GG) (Q : Option Value → va_W → Prop) : KX := (l, g, none, rm_Mo_through, y_Mo_through.cls, b_Mo_through, 1, false, 0, 0, Q, (some .int))
abbrev rm_Mo_lostOf : Room := { frames := 7, cells := 0, slots := 0, locals := 157 }
abbrev kx_Mo_lostOf (l : Launch) (g : GG) (Q : Option Value → va_W → Prop) : KX := (l, g, none, rm_Mo_lostOf, y_Mo_lostOf.cls, b_Mo_lostOf, 1, false, 0, 0, Q, (some .int))
abbrev rm_Mo_lost : Room := { frames := 8, cells := 0, slots := 0, locals := 177 }
abbrev kx_Mo_lost (l : Launch) (g : GG) (Q : Option Value → va_W → Prop) : KX := (l, g, none, rm_Mo_lost, y_Mo_lost.cls, b_Mo_lost, 1, false, 0, 0, Q, (some .int))
abbrev rm_Mo_firstOf : Room := { frames := 7, cells := 0, slots := 0, locals := 157 }
abbrev kx_Mo_firstOf (l : Launch) (g : GG) (Q : Option Value → va_W → Prop) : KX := (l, g, none, rm_Mo_firstOf, y_Mo_firstOf.cls, b_Mo_firstOf, 2, false, 0, 0, Q, (some .int))
abbrev rm_Mo_first : Room := { frames := 8, cells := 0, slots := 0, locals := 178 }
abbrev kx_Mo_first (l : Launch) (g : GG) (Q : Option Value → va_W → Prop) : KX := (l, g, none, rm_Mo_first, y_Mo_first.cls, b_Mo_first, 2, false, 0, 0, Q, (some .int))
abbrev rm_Mo_bestOf : Room := { frames := 7, cells := 0, slots := 0, locals := 157 }
abbrev kx_Mo_bestOf (l : Launch) (g : GG) (Q : Option Value → va_W → Prop) : KX := (l, g, none, rm_Mo_bestOf, y_Mo_bestOf.cls, b_Mo_bestOf, 3, false, 0, 0, Q, (some .int))
abbrev rm_Mo_best : Room := { frames := 8, cells := 0, slots := 0, locals := 179 }
abbrev kx_Mo_best (l : Launch) (g : GG) (Q : Option Value → va_W → Prop) : KX := (l, g, none, rm_Mo_best, y_Mo_best.cls, b_Mo_best, 1, false, 0, 0, Q, (some .int))
abbrev rm_Mo_wholeOf : Room := { frames := 7, cells := 0, slots := 0, locals := 157 }
abbrev kx_Mo_wholeOf (l : Launch) (g : GG) (Q : Option Value → va_W → Prop) : KX := (l, g, none, rm_Mo_wholeOf, y_Mo_wholeOf.cls, b_Mo_wholeOf, 3, false, 0, 0, Q, (some .int))
abbrev rm_Mo_whole : Room := { frames := 8, cells := 0, slots := 0, locals := 179 }
abbrev kx_Mo_whole (l : Launch) (g : GG) (Q : Option Value → va_W → Prop) : KX := (l, g, none, rm_Mo_whole, y_Mo_whole.cls, b_Mo_whole, 1, false, 0, 0, Q, (some .int))
abbrev rm_Mo_strengthOn : Room := { frames := 0, cells := 0, slots := 0, locals := 0 }
abbrev kx_Mo_strengthOn (l : Launch) (g : GG) (Q : Option Value → va_W → Prop) : KX := (l, g, none, rm_Mo_strengthOn, y_Mo_strengthOn.cls, b_Mo_strengthOn, 4, false, 0, 0, Q, (some .int))
abbrev rm_Mo_tiredOf : Room := { frames := 7, cells := 0, slots := 0, locals := 157 }
abbrev kx_Mo_tiredOf (l : Launch) (g : GG) (Q : Option Value → va_W → Prop) : KX := (l, g, none, rm_Mo_tiredOf, y_Mo_tiredOf.cls, b_Mo_tiredOf, 3, false, 0, 0, Q, (some .int))
abbrev rm_Mo_tired : Room := { frames := 8, cells := 0, slots := 0, locals := 179 }
abbrev kx_Mo_tired (l : Launch) (g : GG) (Q : Option Value → va_W → Prop) : KX := (l, g, none, rm_Mo_tired, y_Mo_tired.cls, b_Mo_tired, 1, false, 0, 0, Q, (some .int))
abbrev rm_Mo_lastOf : Room := { frames := 6, cells := 0, slots := 0, locals := 137 }
abbrev kx_Mo_lastOf (l : Launch) (g : GG) (Q : Option Value → va_W → Prop) : KX := (l, g, none, rm_Mo_lastOf, y_Mo_lastOf.cls, b_Mo_lastOf, 4, false, 0, 0, Q, (some .int))
abbrev rm_Mo_last : Room := { frames := 7, cells := 0, slots := 0, locals := 160 }
abbrev kx_Mo_last (l : Launch) (g : GG) (Q : Option Value → va_W → Prop) : KX := (l, g, none, rm_Mo_last, y_Mo_last.cls, b_Mo_last, 3, false, 0, 0, Q, (some .int))
abbrev rm_Mo_bearOf : Room := { frames := 6, cells := 0, slots := 0, locals := 137 }
abbrev kx_Mo_bearOf (l : Launch) (g : GG) (Q : Option Value → va_W → Prop) : KX := (l, g, none, rm_Mo_bearOf, y_Mo_bearOf.cls, b_Mo_bearOf, 8, false, 0, 0, Q, (some .int))
abbrev rm_Mo_bear : Room := { frames := 7, cells := 0, slots := 0, locals := 164 }
abbrev kx_Mo_bear (l : Launch) (g : GG) (Q : Option Value → va_W → Prop) : KX := (l, g, none, rm_Mo_bear, y_Mo_bear.cls, b_Mo_bear, 3, false, 0, 0, Q, (some .int))
abbrev rm_Mo_whenOf : Room := { frames := 6, cells := 0, slots := 0, locals := 137 }
abbrev kx_Mo_whenOf (l : Launch) (g : GG) (Q : Option Value → va_W → Prop) : KX := (l, g, none, rm_Mo_whenOf, y_Mo_whenOf.cls, b_Mo_whenOf, 8, false, 0, 0, Q, (some .int))
abbrev rm_Mo_when : Room := { frames := 7, cells := 0, slots := 0, locals := 164 }
abbrev kx_Mo_when (l : Launch) (g : GG) (Q : Option Value → va_W → Prop) : KX := (l, g, none, rm_Mo_when, y_Mo_when.cls, b_Mo_when, 3, false, 0, 0, Q, (some .int))
abbrev rm_Mo_brokeAll : Room := { frames := 0, cells := 0, slots := 0, locals := 0 }
abbrev kx_Mo_brokeAll (l : Launch) (g : GG) (Q : Option Value → va_W → Prop) : KX := (l, g, none, rm_Mo_brokeAll, y_Mo_brokeAll.cls, b_Mo_brokeAll, 3, false, 0, 0, Q, (some .int))
abbrev rm_Mo_isSpared : Room := { frames := 5, cells := 0, slots := 0, locals := 109 }
abbrev kx_Mo_isSpared (l : Launch) (g : GG) (Q : Option Value → va_W → Prop) : KX := (l, g, none, rm_Mo_isSpared, y_Mo_isSpared.cls, b_Mo_isSpared, 2, false, 0, 0, Q, (some .boolean))
abbrev rm_Mo_spareBy : Room := { frames := 6, cells := 0, slots := 0, locals := 137 }
abbrev kx_Mo_spareBy (l : Launch) (g : GG) (Q : Option Value → va_W → Prop) : KX := (l, g, none, rm_Mo_spareBy, y_Mo_spareBy.cls, b_Mo_spareBy, 3, false, 0, 0, Q, (some .int))
abbrev rm_Mo_ofRow : Room := { frames := 0, cells := 0, slots := 0, locals := 0 }
abbrev kx_Mo_ofRow (l : Launch) (g : GG) (Q : Option Value → va_W → Prop) : KX := (l, g, none, rm_Mo_ofRow, y_Mo_ofRow.cls, b_Mo_ofRow, 3, false, 0, 0, Q, (some .int))
abbrev rm_Mo_spare : Room := { frames := 7, cells := 0, slots := 0, locals := 159 }
abbrev kx_Mo_spare (l : Launch) (g : GG) (Q : Option Value → va_W → Prop) : KX := (l, g, none, rm_Mo_spare, y_Mo_spare.cls, b_Mo_spare, 2, false, 0, 0, Q, (some .int))
abbrev rm_Mo_seen : Room := { frames := 2, cells := 0, slots := 0, locals := 42 }
abbrev kx_Mo_seen (l : Launch) (g : GG) (Q : Option Value → va_W → Prop) : KX := (l, g, none, rm_Mo_seen, y_Mo_seen.cls, b_Mo_seen, 4, false, 0, 0, Q, (some .int))
abbrev rm_Mo_forget : Room := { frames := 0, cells := 0, slots := 0, locals := 0 }
abbrev kx_Mo_forget (l : Launch) (g : GG) (Q : Option Value → va_W → Prop) : KX := (l, g, none, rm_Mo_forget, y_Mo_forget.cls, b_Mo_forget, 2, false, 0, 0, Q, (some .int))
abbrev rm_Mo_isSeen : Room := { frames := 5, cells := 0, slots := 0, locals := 109 }
abbrev kx_Mo_isSeen (l : Launch) (g : GG) (Q : Option Value → va_W → Prop) : KX := (l, g, none, rm_Mo_isSeen, y_Mo_isSeen.cls, b_Mo_isSeen, 3, false, 0, 0, Q, (some .boolean))
abbrev rm_Mo_neverNow : Room := { frames := 6, cells := 0, slots := 0, locals := 137 }
abbrev kx_Mo_neverNow (l : Launch) (g : GG) (Q : Option Value → va_W → Prop) : KX := (l, g, none, rm_Mo_neverNow, y_Mo_neverNow.cls, b_Mo_neverNow, 3, false, 0, 0, Q, (some .int))
abbrev rm_Mo_never : Room := { frames := 7, cells := 0, slots := 0, locals := 159 }
abbrev kx_Mo_never (l : Launch) (g : GG) (Q : Option Value → va_W → Prop) : KX := (l, g, none, rm_Mo_never, y_Mo_never.cls, b_Mo_never, 1, false, 0, 0, Q, (some .int))
abbrev rm_Mo_sortsBy : Room := { frames := 6, cells := 0, slots := 0, locals := 137 }
abbrev kx_Mo_sortsBy (l : Launch) (g : GG) (Q : Option Value → va_W → Prop) : KX := (l, g, none, rm_Mo_sortsBy, y_Mo_sortsBy.cls, b_Mo_sortsBy, 5, false, 0, 0, Q, (some .int))
abbrev rm_Mo_strongBy : Room := { frames := 6, cells := 0, slots := 0, locals := 137 }
abbrev kx_Mo_strongBy (l : Launch) (g : GG) (Q : Option Value → va_W → Prop) : KX := (l, g, none, rm_Mo_strongBy, y_Mo_strongBy.cls, b_Mo_strongBy, 6, false, 0, 0, Q, (some .int))
abbrev rm_Mo_was : Room := { frames := 7, cells := 0, slots := 0, locals := 162 }
abbrev kx_Mo_was (l : Launch) (g : GG) (Q : Option Value → va_W → Prop) : KX := (l, g, none, rm_Mo_was, y_Mo_was.cls, b_Mo_was, 3, false, 0, 0, Q, (some .int))
abbrev rm_Mo_askOf : Room := { frames := 7, cells := 0, slots := 0, locals := 162 }
abbrev kx_Mo_askOf (l : Launch) (g : GG) (Q : Option Value → va_W → Prop) : KX := (l, g, none, rm_Mo_askOf, y_Mo_askOf.cls, b_Mo_askOf, 10, false, 0, 0, Q, (some .int))
abbrev rm_Mo_ask : Room := { frames := 8, cells := 0, slots := 0, locals := 191 }
abbrev kx_Mo_ask (l : Launch) (g : GG) (Q : Option Value → va_W → Prop) : KX := (l, g, none, rm_Mo_ask, y_Mo_ask.cls, b_Mo_ask, 2, false, 0, 0, Q, (some .int))
abbrev rm_Mo_lowest : Room := { frames := 0, cells := 0, slots := 0, locals := 0 }
abbrev kx_Mo_lowest (l : Launch) (g : GG) (Q : Option Value → va_W → Prop) : KX := (l, g, none, rm_Mo_lowest, y_Mo_lowest.cls, b_Mo_lowest, 11, false, 0, 0, Q, (some .long))
abbrev rm_Mo_chanceOf : Room := { frames := 6, cells := 0, slots := 0, locals := 137 }
abbrev kx_Mo_chanceOf (l : Launch) (g : GG) (Q : Option Value → va_W → Prop) : KX := (l, g, none, rm_Mo_chanceOf, y_Mo_chanceOf.cls, b_Mo_chanceOf, 10, false, 0, 0, Q, (some .long))
abbrev rm_Mo_no : Room := { frames := 0, cells := 0, slots := 0, locals := 0 }
abbrev kx_Mo_no (l : Launch) (g : GG) (Q : Option Value → va_W → Prop) : KX := (l, g, none, rm_Mo_no, y_Mo_no.cls, b_Mo_no, 1, false, 0, 0, Q, (some .long))
abbrev rm_Mo_chance : Room := { frames := 7, cells := 0, slots := 0, locals := 166 }
abbrev kx_Mo_chance (l : Launch) (g : GG) (Q : Option Value → va_W → Prop) : KX := (l, g, none, rm_Mo_chance, y_Mo_chance.cls, b_Mo_chance, 4, false, 0, 0, Q, (some .long))
abbrev rm_Mo_yearsOf : Room := { frames := 6, cells := 0, slots := 0, locals := 137 }
abbrev kx_Mo_yearsOf (l : Launch) (g : GG) (Q : Option Value → va_W → Prop) : KX := (l, g, none, rm_Mo_yearsOf, y_Mo_yearsOf.cls, b_Mo_yearsOf, 6, false, 0, 0, Q, (some .int))
abbrev rm_Mo_years : Room := { frames := 7, cells := 0, slots := 0, locals := 162 }
abbrev kx_Mo_years (l : Launch) (g : GG) (Q : Option Value → va_W → Prop) : KX := (l, g, none, rm_Mo_years, y_Mo_years.cls, b_Mo_years, 4, false, 0, 0, Q, (some .int))
abbrev rm_Mo_sheet : Room := { frames := 2, cells := 0, slots := 0, locals := 42 }
abbrev kx_Mo_sheet (l : Launch) (g : GG) (Q : Option Value → va_W → Prop) : KX := (l, g, none, rm_Mo_sheet, y_Mo_sheet.cls, b_Mo_sheet, 5, false, 0, 0, Q, (some .int))
abbrev rm_Mo_lose : Room := { frames := 2, cells := 0, slots := 0, locals := 42 }
abbrev kx_Mo_lose (l : Launch) (g : GG) (Q : Option Value → va_W → Prop) : KX := (l, g, none, rm_Mo_lose, y_Mo_lose.cls, b_Mo_lose, 2, false, 0, 0, Q, (some .int))
abbrev rm_Mo_lacks : Room := { frames := 1, cells := 0, slots := 0, locals := 22 }
abbrev kx_Mo_lacks (l : Launch) (g : GG) (Q : Option Value → va_W → Prop) : KX := (l, g, none, rm_Mo_lacks, y_Mo_lacks.cls, b_Mo_lacks, 4, false, 0, 0, Q, (some .int))
abbrev rm_Mo_keep : Room := { frames := 0, cells := 0, slots := 0, locals := 0 }
abbrev kx_Mo_keep (l : Launch) (g : GG) (Q : Option Value → va_W → Prop) : KX := (l, g, none, rm_Mo_keep, y_Mo_keep.cls, b_Mo_keep, 4, false, 0, 0, Q, none)
abbrev rm_Mo_put : Room := { frames := 2, cells := 0, slots := 0, locals := 45 }
abbrev kx_Mo_put (l : Launch) (g : GG) (Q : Option Value → va_W → Prop) : KX := (l, g, none, rm_Mo_put, y_Mo_put.cls, b_Mo_put, 6, false, 0, 0, Q, (some .int))
abbrev rm_Mo_get : Room := { frames := 2, cells := 0, slots := 0, locals := 45 }
abbrev kx_Mo_get (l : Launch) (g : GG) (Q : Option Value → va_W → Prop) : KX := (l, g, none, rm_Mo_get, y_Mo_get.cls, b_Mo_get, 5, false, 0, 0, Q, (some .int))
abbrev rm_Mo_copy : Room := { frames := 2, cells := 0, slots := 0, locals := 42 }
abbrev kx_Mo_copy (l : Launch) (g : GG) (Q : Option Value → va_W → Prop) : KX := (l, g, none, rm_Mo_copy, y_Mo_copy.cls, b_Mo_copy, 7, false, 0, 0, Q, (some .int))
abbrev rm_Mo_write : Room := { frames := 7, cells := 0, slots := 0, locals := 157 }
abbrev kx_Mo_write (l : Launch) (g : GG) (Q : Option Value → va_W → Prop) : KX := (l, g, none, rm_Mo_write, y_Mo_write.cls, b_Mo_write, 4, false, 0, 0, Q, (some .int))
abbrev rm_Mo_feesAll : Room := { frames := 0, cells := 0, slots := 0, locals := 0 }
abbrev kx_Mo_feesAll (l : Launch) (g : GG) (Q : Option Value → va_W → Prop) : KX := (l, g, none, rm_Mo_feesAll, y_Mo_feesAll.cls, b_Mo_feesAll, 3, false, 0, 0, Q, (some .int))
abbrev rm_Mo_sumOf : Room := { frames := 7, cells := 0, slots := 0, locals := 157 }
abbrev kx_Mo_sumOf (l : Launch) (g : GG) (Q : Option Value → va_W → Prop) : KX := (l, g, none, rm_Mo_sumOf, y_Mo_sumOf.cls, b_Mo_sumOf, 2, false, 0, 0, Q, (some .int))
abbrev rm_Mo_count : Room := { frames := 8, cells := 0, slots := 0, locals := 178 }
abbrev kx_Mo_count (l : Launch) (g : GG) (Q : Option Value → va_W → Prop) : KX := (l, g, none, rm_Mo_count, y_Mo_count.cls, b_Mo_count, 2, false, 0, 0, Q, (some .int))
abbrev rm_Mo_baleDigest : Room := { frames := 7, cells := 0, slots := 0, locals := 164 }
abbrev kx_Mo_baleDigest (l : Launch) (g : GG) (Q : Option Value → va_W → Prop) : KX := (l, g, none, rm_Mo_baleDigest, y_Mo_baleDigest.cls, b_Mo_baleDigest, 7, false, 0, 0, Q, (some .long))
abbrev rm_Mo_dayDigest : Room := { frames := 8, cells := 0, slots := 0, locals := 181 }
abbrev kx_Mo_dayDigest (l : Launch) (g : GG) (Q : Option Value → va_W → Prop) : KX := (l, g, none, rm_Mo_dayDigest, y_Mo_dayDigest.cls, b_Mo_dayDigest, 8, false, 0, 0, Q, (some .long))
abbrev rm_Mo_camelDigest : Room := { frames := 9, cells := 0, slots := 0, locals := 208 }
abbrev kx_Mo_camelDigest (l : Launch) (g : GG) (Q : Option Value → va_W → Prop) : KX := (l, g, none, rm_Mo_camelDigest, y_Mo_camelDigest.cls, b_Mo_camelDigest, 6, false, 0, 0, Q, (some .long))
abbrev rm_Mo_digest : Room := { frames := 10, cells := 0, slots := 0, locals := 233 }
abbrev kx_Mo_digest (l : Launch) (g : GG) (Q : Option Value → va_W → Prop) : KX := (l, g, none, rm_Mo_digest, y_Mo_digest.cls, b_Mo_digest, 4, false, 0, 0, Q, (some .long))
theorem wk_Ca_18 : Cond.methodLinkNest "CamelStraws$Camels" 18 y_CS_isBetween "CamelStraws" ∈ tb_l := (tb_in 433 (by decide +kernel) rfl)
theorem ok_CS_isBetween : MOk y_CS_isBetween b_CS_isBetween 3 (some .boolean) 3 := ⟨(tb_in 429 (by decide +kernel) rfl), (tb_in 69 (by decide +kernel) rfl), by decide +kernel, by decide +kernel, by decide +kernel⟩
theorem ws_CS_isBetween : Cond.static y_CS_isBetween ∈ tb_l := (tb_in 428 (by decide +kernel) rfl)
theorem wk_Ba_21 : Cond.methodLinkNest "CamelStraws$Bales" 21 y_CS_isBetween "CamelStraws" ∈ tb_l := (tb_in 427 (by decide +kernel) rfl)
theorem fo_Tx_22_70 : FOk "CamelStraws$Text" 22 70 2 .int false := FOk.mk0 cq_2 (by decide) (by decide) (by decide) rfl (tb_in 116 (by decide +kernel) rfl) rfl rfl
theorem fo_Tx_22_66 : FOk "CamelStraws$Text" 22 66 2 .int false := FOk.mk0 cq_1 (by decide) (by decide) (by decide) rfl (tb_in 116 (by decide +kernel) rfl) rfl rfl
theorem fo_Tx_22_s70_66 : ∀ a ∈ [70, 66], FOk "CamelStraws$Text" 22 a 2 .int false := fun a ha => me2 (P := fun a => FOk "CamelStraws$Text" 22 a 2 .int false) ha fo_Tx_22_70 fo_Tx_22_66
theorem fd_s70_66_2 : ∀ a ∈ [70, 66], (fdl a)[2]? = some (0, 0) := by decide
theorem fo_Tx_19_70 : FOk "CamelStraws$Text" 19 70 1 .int true := FOk.mk0 cq_2 (by decide) (by decide) (by decide) rfl (tb_in 114 (by decide +kernel) rfl) rfl rfl
theorem fo_Tx_19_66 : FOk "CamelStraws$Text" 19 66 1 .int true := FOk.mk0 cq_1 (by decide) (by decide) (by decide) rfl (tb_in 114 (by decide +kernel) rfl) rfl rfl
theorem fo_Tx_19_s70_66 : ∀ a ∈ [70, 66], FOk "CamelStraws$Text" 19 a 1 .int true := fun a ha => me2 (P := fun a => FOk "CamelStraws$Text" 19 a 1 .int true) ha fo_Tx_19_70 fo_Tx_19_66
theorem fd_s70_66_1 : ∀ a ∈ [70, 66], (fdl a)[1]? = some (0, 0) := by decide
theorem fo_Tx_15_70 : FOk "CamelStraws$Text" 15 70 0 (.array .int) true := FOk.mk0 cq_2 (by decide) (by decide) (by decide) rfl (tb_in 109 (by decide +kernel) rfl) rfl rfl
theorem fo_Tx_15_66 : FOk "CamelStraws$Text" 15 66 0 (.array .int) true := FOk.mk0 cq_1 (by decide) (by decide) (by decide) rfl (tb_in 109 (by decide +kernel) rfl) rfl rfl
theorem fo_Tx_15_s70_66 : ∀ a ∈ [70, 66], FOk "CamelStraws$Text" 15 a 0 (.array .int) true := fun a ha => me2 (P := fun a => FOk "CamelStraws$Text" 15 a 0 (.array .int) true) ha fo_Tx_15_70 fo_Tx_15_66
theorem rm_s70_66_0 : ∀ a ∈ [70, 66], rf1 a 0 ∈ [69, 65] := by decide
theorem al_s69_65 : ∀ a ∈ [69, 65], a < nc_c := by decide
theorem ak_s69_65 : ∀ a ∈ [69, 65], kd a = 20 := by decide
theorem wk_Tx_39 : Cond.methodLink "CamelStraws$Text" 39 y_Tx_fits ∈ tb_l := (tb_in 421 (by decide +kernel) rfl)
theorem ok_Ca_fits : MOk y_Ca_fits b_Ca_fits 3 (some .boolean) 2 := ⟨(tb_in 432 (by decide +kernel) rfl), (tb_in 71 (by decide +kernel) rfl), by decide +kernel, by decide +kernel, by decide +kernel⟩
theorem ok_Ba_fits : MOk y_Ba_fits b_Ba_fits 3 (some .boolean) 2 := ⟨(tb_in 426 (by decide +kernel) rfl), (tb_in 72 (by decide +kernel) rfl), by decide +kernel, by decide +kernel, by decide +kernel⟩
theorem rc_70 : Rcv 70 "CamelStraws$Camels" := ⟨by decide, by decide, _, rfl, rfl⟩
theorem uo_Ca_Ca_fits : UOk "CamelStraws$Camels" y_Tx_fits y_Ca_fits := ⟨(tb_in 423 (by decide +kernel) rfl), (tb_in 431 (by decide +kernel) rfl), (tb_in 430 (by decide +kernel) rfl), Or.inr (tb_in 422 (by decide +kernel) rfl), ⟨by decide +kernel, by decide +kernel⟩, rfl⟩
theorem rc_66 : Rcv 66 "CamelStraws$Bales" := ⟨by decide, by decide, _, rfl, rfl⟩
theorem uo_Ba_Ba_fits : UOk "CamelStraws$Bales" y_Tx_fits y_Ba_fits := ⟨(tb_in 423 (by decide +kernel) rfl), (tb_in 425 (by decide +kernel) rfl), (tb_in 424 (by decide +kernel) rfl), Or.inr (tb_in 422 (by decide +kernel) rfl), ⟨by decide +kernel, by decide +kernel⟩, rfl⟩
theorem fd_s70_66_0 : ∀ a ∈ [70, 66], (fdl a)[0]? = some (2, rf1 a 0) := by decide
theorem fo_Ca_22_70 : FOk "CamelStraws$Camels" 22 70 0 (.array .int) true := FOk.mk1 "CamelStraws$Camels" cq_2 (by decide) (by decide) (by decide) rfl (tb_in 110 (by decide +kernel) rfl) (tb_in 111 (by decide +kernel) rfl) rfl rfl
theorem fo_Ca_9_70 : FOk "CamelStraws$Camels" 9 70 5 (.array .int) true := FOk.mk0 cq_2 (by decide) (by decide) (by decide) rfl (tb_in 102 (by decide +kernel) rfl) rfl rfl
theorem fo_Ca_15_70 : FOk "CamelStraws$Camels" 15 70 6 (.array .int) true := FOk.mk0 cq_2 (by decide) (by decide) (by decide) rfl (tb_in 105 (by decide +kernel) rfl) rfl rfl
theorem fo_Ba_9_66 : FOk "CamelStraws$Bales" 9 66 5 (.array .int) true := FOk.mk0 cq_1 (by decide) (by decide) (by decide) rfl (tb_in 153 (by decide +kernel) rfl) rfl rfl
theorem fo_Ba_25_66 : FOk "CamelStraws$Bales" 25 66 0 (.array .int) true := FOk.mk1 "CamelStraws$Bales" cq_1 (by decide) (by decide) (by decide) rfl (tb_in 112 (by decide +kernel) rfl) (tb_in 113 (by decide +kernel) rfl) rfl rfl
theorem fo_Ba_15_66 : FOk "CamelStraws$Bales" 15 66 6 (.array .int) true := FOk.mk0 cq_1 (by decide) (by decide) (by decide) rfl (tb_in 157 (by decide +kernel) rfl) rfl rfl
theorem fo_Ba_18_66 : FOk "CamelStraws$Bales" 18 66 7 (.array .int) true := FOk.mk0 cq_1 (by decide) (by decide) (by decide) rfl (tb_in 160 (by decide +kernel) rfl) rfl rfl
theorem wk_Tx_28 : Cond.methodLink "CamelStraws$Text" 28 y_Tx_findFault ∈ tb_l := (tb_in 417 (by decide +kernel) rfl)
theorem uo_Ca_Tx_findFault : UOk "CamelStraws$Camels" y_Tx_findFault y_Tx_findFault := ⟨(tb_in 1393 (by decide +kernel) rfl), (tb_in 419 (by decide +kernel) rfl), (tb_in 1398 (by decide +kernel) rfl), Or.inl rfl, ⟨by decide +kernel, by decide +kernel⟩, rfl⟩
theorem uo_Ba_Tx_findFault : UOk "CamelStraws$Bales" y_Tx_findFault y_Tx_findFault := ⟨(tb_in 1393 (by decide +kernel) rfl), (tb_in 419 (by decide +kernel) rfl), (tb_in 1399 (by decide +kernel) rfl), Or.inl rfl, ⟨by decide +kernel, by decide +kernel⟩, rfl⟩
theorem ru_s70_66_Tx_findFault : ∀ a ∈ [70, 66], ∃ C, Rcv a C ∧ UOk C y_Tx_findFault y_Tx_findFault := fun a ha => me2 (P := fun a => ∃ C, Rcv a C ∧ UOk C y_Tx_findFault y_Tx_findFault) ha ⟨_, rc_70, uo_Ca_Tx_findFault⟩ ⟨_, rc_66, uo_Ba_Tx_findFault⟩
theorem ok_Tx_findFault : MOk y_Tx_findFault b_Tx_findFault 3 (some .int) 0 := ⟨(tb_in 420 (by decide +kernel) rfl), (tb_in 70 (by decide +kernel) rfl), by decide +kernel, by decide +kernel, by decide +kernel⟩
theorem fo_Tx_9_70 : FOk "CamelStraws$Text" 9 70 3 .int false := FOk.mk0 cq_2 (by decide) (by decide) (by decide) rfl (tb_in 121 (by decide +kernel) rfl) rfl rfl
theorem fo_Tx_9_66 : FOk "CamelStraws$Text" 9 66 3 .int false := FOk.mk0 cq_1 (by decide) (by decide) (by decide) rfl (tb_in 121 (by decide +kernel) rfl) rfl rfl
theorem fo_Tx_9_s70_66 : ∀ a ∈ [70, 66], FOk "CamelStraws$Text" 9 a 3 .int false := fun a ha => me2 (P := fun a => FOk "CamelStraws$Text" 9 a 3 .int false) ha fo_Tx_9_70 fo_Tx_9_66
theorem fd_s70_66_3 : ∀ a ∈ [70, 66], (fdl a)[3]? = some (0, 0) := by decide
theorem fo_Tx_32_70 : FOk "CamelStraws$Text" 32 70 4 .int false := FOk.mk0 cq_2 (by decide) (by decide) (by decide) rfl (tb_in 128 (by decide +kernel) rfl) rfl rfl
theorem fo_Tx_32_66 : FOk "CamelStraws$Text" 32 66 4 .int false := FOk.mk0 cq_1 (by decide) (by decide) (by decide) rfl (tb_in 128 (by decide +kernel) rfl) rfl rfl
theorem fo_Tx_32_s70_66 : ∀ a ∈ [70, 66], FOk "CamelStraws$Text" 32 a 4 .int false := fun a ha => me2 (P := fun a => FOk "CamelStraws$Text" 32 a 4 .int false) ha fo_Tx_32_70 fo_Tx_32_66
theorem fd_s70_66_4 : ∀ a ∈ [70, 66], (fdl a)[4]? = some (0, 0) := by decide
theorem wk_Tx_35 : Cond.methodLink "CamelStraws$Text" 35 y_Tx_learn ∈ tb_l := (tb_in 434 (by decide +kernel) rfl)
theorem ok_Ca_learn : MOk y_Ca_learn b_Ca_learn 4 none 2 := ⟨(tb_in 442 (by decide +kernel) rfl), (tb_in 71 (by decide +kernel) rfl), by decide +kernel, by decide +kernel, by decide +kernel⟩
theorem ok_Ba_learn : MOk y_Ba_learn b_Ba_learn 3 none 2 := ⟨(tb_in 439 (by decide +kernel) rfl), (tb_in 72 (by decide +kernel) rfl), by decide +kernel, by decide +kernel, by decide +kernel⟩
theorem uo_Ca_Ca_learn : UOk "CamelStraws$Camels" y_Tx_learn y_Ca_learn := ⟨(tb_in 436 (by decide +kernel) rfl), (tb_in 441 (by decide +kernel) rfl), (tb_in 440 (by decide +kernel) rfl), Or.inr (tb_in 435 (by decide +kernel) rfl), ⟨by decide +kernel, by decide +kernel⟩, rfl⟩
theorem uo_Ba_Ba_learn : UOk "CamelStraws$Bales" y_Tx_learn y_Ba_learn := ⟨(tb_in 436 (by decide +kernel) rfl), (tb_in 438 (by decide +kernel) rfl), (tb_in 437 (by decide +kernel) rfl), Or.inr (tb_in 435 (by decide +kernel) rfl), ⟨by decide +kernel, by decide +kernel⟩, rfl⟩
theorem wk_Tx_25 : Cond.methodLink "CamelStraws$Text" 25 y_Tx_parse ∈ tb_l := (tb_in 413 (by decide +kernel) rfl)
theorem uo_Ca_Tx_parse : UOk "CamelStraws$Camels" y_Tx_parse y_Tx_parse := ⟨(tb_in 1392 (by decide +kernel) rfl), (tb_in 415 (by decide +kernel) rfl), (tb_in 1396 (by decide +kernel) rfl), Or.inl rfl, ⟨by decide +kernel, by decide +kernel⟩, rfl⟩
theorem uo_Ba_Tx_parse : UOk "CamelStraws$Bales" y_Tx_parse y_Tx_parse := ⟨(tb_in 1392 (by decide +kernel) rfl), (tb_in 415 (by decide +kernel) rfl), (tb_in 1397 (by decide +kernel) rfl), Or.inl rfl, ⟨by decide +kernel, by decide +kernel⟩, rfl⟩
theorem ru_s70_66_Tx_parse : ∀ a ∈ [70, 66], ∃ C, Rcv a C ∧ UOk C y_Tx_parse y_Tx_parse := fun a ha => me2 (P := fun a => ∃ C, Rcv a C ∧ UOk C y_Tx_parse y_Tx_parse) ha ⟨_, rc_70, uo_Ca_Tx_parse⟩ ⟨_, rc_66, uo_Ba_Tx_parse⟩
theorem ok_Tx_parse : MOk y_Tx_parse b_Tx_parse 2 none 0 := ⟨(tb_in 416 (by decide +kernel) rfl), (tb_in 70 (by decide +kernel) rfl), by decide +kernel, by decide +kernel, by decide +kernel⟩
theorem wk_CS_78 : Cond.methodLink "CamelStraws" 78 y_CS_isText ∈ tb_l := (tb_in 404 (by decide +kernel) rfl)
theorem ok_CS_isText : MOk y_CS_isText b_CS_isText 1 (some .boolean) 1 := ⟨(tb_in 406 (by decide +kernel) rfl), (tb_in 69 (by decide +kernel) rfl), by decide +kernel, by decide +kernel, by decide +kernel⟩
theorem ws_CS_isText : Cond.static y_CS_isText ∈ tb_l := (tb_in 405 (by decide +kernel) rfl)
theorem fo_CS_25_71 : FOk "CamelStraws" 25 71 2 (.array (.object "CamelStraws$Text")) true := FOk.mk0 cq_0 (by decide) (by decide) (by decide) rfl (tb_in 368 (by decide +kernel) rfl) rfl rfl
theorem rx_61 : ∀ j, j < 2 → rfx 61 j ∈ [70, 66] := by decide
theorem wk_CS_82 : Cond.methodLink "CamelStraws" 82 y_Tx_append ∈ tb_l := (tb_in 407 (by decide +kernel) rfl)
theorem uo_Ca_Tx_append : UOk "CamelStraws$Camels" y_Tx_append y_Tx_append := ⟨(tb_in 409 (by decide +kernel) rfl), (tb_in 408 (by decide +kernel) rfl), (tb_in 411 (by decide +kernel) rfl), Or.inl rfl, ⟨by decide +kernel, by decide +kernel⟩, rfl⟩
theorem uo_Ba_Tx_append : UOk "CamelStraws$Bales" y_Tx_append y_Tx_append := ⟨(tb_in 409 (by decide +kernel) rfl), (tb_in 408 (by decide +kernel) rfl), (tb_in 410 (by decide +kernel) rfl), Or.inl rfl, ⟨by decide +kernel, by decide +kernel⟩, rfl⟩
theorem ru_s70_66_Tx_append : ∀ a ∈ [70, 66], ∃ C, Rcv a C ∧ UOk C y_Tx_append y_Tx_append := fun a ha => me2 (P := fun a => ∃ C, Rcv a C ∧ UOk C y_Tx_append y_Tx_append) ha ⟨_, rc_70, uo_Ca_Tx_append⟩ ⟨_, rc_66, uo_Ba_Tx_append⟩
theorem ok_Tx_append : MOk y_Tx_append b_Tx_append 2 (some .boolean) 1 := ⟨(tb_in 412 (by decide +kernel) rfl), (tb_in 70 (by decide +kernel) rfl), by decide +kernel, by decide +kernel, by decide +kernel⟩
theorem fo_CS_85_70 : FOk "CamelStraws" 85 70 2 .int false := FOk.mk0 cq_2 (by decide) (by decide) (by decide) rfl (tb_in 115 (by decide +kernel) rfl) rfl rfl
theorem fo_CS_85_66 : FOk "CamelStraws" 85 66 2 .int false := FOk.mk0 cq_1 (by decide) (by decide) (by decide) rfl (tb_in 115 (by decide +kernel) rfl) rfl rfl
theorem fo_CS_85_s70_66 : ∀ a ∈ [70, 66], FOk "CamelStraws" 85 a 2 .int false := fun a ha => me2 (P := fun a => FOk "CamelStraws" 85 a 2 .int false) ha fo_CS_85_70 fo_CS_85_66
theorem wk_CS_89 : Cond.methodLink "CamelStraws" 89 y_Tx_cutTo ∈ tb_l := (tb_in 447 (by decide +kernel) rfl)
theorem uo_Ca_Tx_cutTo : UOk "CamelStraws$Camels" y_Tx_cutTo y_Tx_cutTo := ⟨(tb_in 449 (by decide +kernel) rfl), (tb_in 448 (by decide +kernel) rfl), (tb_in 451 (by decide +kernel) rfl), Or.inl rfl, ⟨by decide +kernel, by decide +kernel⟩, rfl⟩
theorem uo_Ba_Tx_cutTo : UOk "CamelStraws$Bales" y_Tx_cutTo y_Tx_cutTo := ⟨(tb_in 449 (by decide +kernel) rfl), (tb_in 448 (by decide +kernel) rfl), (tb_in 450 (by decide +kernel) rfl), Or.inl rfl, ⟨by decide +kernel, by decide +kernel⟩, rfl⟩
theorem ru_s70_66_Tx_cutTo : ∀ a ∈ [70, 66], ∃ C, Rcv a C ∧ UOk C y_Tx_cutTo y_Tx_cutTo := fun a ha => me2 (P := fun a => ∃ C, Rcv a C ∧ UOk C y_Tx_cutTo y_Tx_cutTo) ha ⟨_, rc_70, uo_Ca_Tx_cutTo⟩ ⟨_, rc_66, uo_Ba_Tx_cutTo⟩
theorem ok_Tx_cutTo : MOk y_Tx_cutTo b_Tx_cutTo 2 none 1 := ⟨(tb_in 452 (by decide +kernel) rfl), (tb_in 70 (by decide +kernel) rfl), by decide +kernel, by decide +kernel, by decide +kernel⟩
theorem fo_CS_93_70 : FOk "CamelStraws" 93 70 3 .int false := FOk.mk0 cq_2 (by decide) (by decide) (by decide) rfl (tb_in 122 (by decide +kernel) rfl) rfl rfl
theorem fo_CS_93_66 : FOk "CamelStraws" 93 66 3 .int false := FOk.mk0 cq_1 (by decide) (by decide) (by decide) rfl (tb_in 122 (by decide +kernel) rfl) rfl rfl
theorem fo_CS_93_s70_66 : ∀ a ∈ [70, 66], FOk "CamelStraws" 93 a 3 .int false := fun a ha => me2 (P := fun a => FOk "CamelStraws" 93 a 3 .int false) ha fo_CS_93_70 fo_CS_93_66
theorem fo_CS_10_71 : FOk "CamelStraws" 10 71 0 (.object "CamelStraws$Camels") true := FOk.mk0 cq_0 (by decide) (by decide) (by decide) rfl (tb_in 366 (by decide +kernel) rfl) rfl rfl
theorem fo_CS_229_70 : FOk "CamelStraws" 229 70 4 .int false := FOk.mk1 "CamelStraws$Camels" cq_2 (by decide) (by decide) (by decide) rfl (tb_in 129 (by decide +kernel) rfl) (tb_in 126 (by decide +kernel) rfl) rfl rfl
theorem wk_CS_96 : Cond.methodLink "CamelStraws" 96 y_CS_isCamel ∈ tb_l := (tb_in 465 (by decide +kernel) rfl)
theorem ok_CS_isCamel : MOk y_CS_isCamel b_CS_isCamel 2 (some .boolean) 1 := ⟨(tb_in 468 (by decide +kernel) rfl), (tb_in 69 (by decide +kernel) rfl), by decide +kernel, by decide +kernel, by decide +kernel⟩
theorem rc_71 : Rcv 71 "CamelStraws" := ⟨by decide, by decide, _, rfl, rfl⟩
theorem wi_CS_isCamel : Cond.instanceMethod y_CS_isCamel ∈ tb_l := (tb_in 467 (by decide +kernel) rfl)
theorem wl_CS_CS_isCamel : Cond.selects "CamelStraws" y_CS_isCamel y_CS_isCamel ∈ tb_l := (tb_in 0 (by decide +kernel) rfl)
theorem fo_CS_103_70 : FOk "CamelStraws" 103 70 6 (.array .int) true := FOk.mk0 cq_2 (by decide) (by decide) (by decide) rfl (tb_in 107 (by decide +kernel) rfl) rfl rfl
theorem wk_CS_106 : Cond.methodLink "CamelStraws" 106 y_CS_strengthOf ∈ tb_l := (tb_in 469 (by decide +kernel) rfl)
theorem ok_CS_strengthOf : MOk y_CS_strengthOf b_CS_strengthOf 1 (some .int) 1 := ⟨(tb_in 471 (by decide +kernel) rfl), (tb_in 69 (by decide +kernel) rfl), by decide +kernel, by decide +kernel, by decide +kernel⟩
theorem ws_CS_strengthOf : Cond.static y_CS_strengthOf ∈ tb_l := (tb_in 470 (by decide +kernel) rfl)
theorem fo_CS_99_70 : FOk "CamelStraws" 99 70 5 (.array .int) true := FOk.mk0 cq_2 (by decide) (by decide) (by decide) rfl (tb_in 104 (by decide +kernel) rfl) rfl rfl
theorem fo_CS_19_71 : FOk "CamelStraws" 19 71 1 (.object "CamelStraws$Bales") true := FOk.mk0 cq_0 (by decide) (by decide) (by decide) rfl (tb_in 367 (by decide +kernel) rfl) rfl rfl
theorem fo_CS_269_66 : FOk "CamelStraws" 269 66 4 .int false := FOk.mk1 "CamelStraws$Bales" cq_1 (by decide) (by decide) (by decide) rfl (tb_in 130 (by decide +kernel) rfl) (tb_in 124 (by decide +kernel) rfl) rfl rfl
theorem wk_CS_110 : Cond.methodLink "CamelStraws" 110 y_CS_isBale ∈ tb_l := (tb_in 476 (by decide +kernel) rfl)
theorem ok_CS_isBale : MOk y_CS_isBale b_CS_isBale 2 (some .boolean) 1 := ⟨(tb_in 479 (by decide +kernel) rfl), (tb_in 69 (by decide +kernel) rfl), by decide +kernel, by decide +kernel, by decide +kernel⟩
theorem wi_CS_isBale : Cond.instanceMethod y_CS_isBale ∈ tb_l := (tb_in 478 (by decide +kernel) rfl)
theorem wl_CS_CS_isBale : Cond.selects "CamelStraws" y_CS_isBale y_CS_isBale ∈ tb_l := (tb_in 1 (by decide +kernel) rfl)
theorem fo_CS_113_66 : FOk "CamelStraws" 113 66 5 (.array .int) true := FOk.mk0 cq_1 (by decide) (by decide) (by decide) rfl (tb_in 156 (by decide +kernel) rfl) rfl rfl
theorem fo_CS_115_66 : FOk "CamelStraws" 115 66 6 (.array .int) true := FOk.mk0 cq_1 (by decide) (by decide) (by decide) rfl (tb_in 159 (by decide +kernel) rfl) rfl rfl
theorem fo_CS_118_66 : FOk "CamelStraws" 118 66 7 (.array .int) true := FOk.mk0 cq_1 (by decide) (by decide) (by decide) rfl (tb_in 163 (by decide +kernel) rfl) rfl rfl
theorem fo_St_18_60 : FOk "CamelStraws$Straws" 18 60 2 .int false := FOk.mk0 cq_8 (by decide) (by decide) (by decide) rfl (tb_in 188 (by decide +kernel) rfl) rfl rfl
theorem fo_St_18_57 : FOk "CamelStraws$Straws" 18 57 2 .int false := FOk.mk0 cq_8 (by decide) (by decide) (by decide) rfl (tb_in 188 (by decide +kernel) rfl) rfl rfl
theorem fo_St_18_s60_57 : ∀ a ∈ [60, 57], FOk "CamelStraws$Straws" 18 a 2 .int false := fun a ha => me2 (P := fun a => FOk "CamelStraws$Straws" 18 a 2 .int false) ha fo_St_18_60 fo_St_18_57
theorem fd_s60_57_2 : ∀ a ∈ [60, 57], (fdl a)[2]? = some (0, 0) := by decide
theorem fo_St_9_60 : FOk "CamelStraws$Straws" 9 60 0 (.array .int) true := FOk.mk0 cq_8 (by decide) (by decide) (by decide) rfl (tb_in 184 (by decide +kernel) rfl) rfl rfl
theorem fo_St_9_57 : FOk "CamelStraws$Straws" 9 57 0 (.array .int) true := FOk.mk0 cq_8 (by decide) (by decide) (by decide) rfl (tb_in 184 (by decide +kernel) rfl) rfl rfl
theorem fo_St_9_s60_57 : ∀ a ∈ [60, 57], FOk "CamelStraws$Straws" 9 a 0 (.array .int) true := fun a ha => me2 (P := fun a => FOk "CamelStraws$Straws" 9 a 0 (.array .int) true) ha fo_St_9_60 fo_St_9_57
theorem rm_s60_57_0 : ∀ a ∈ [60, 57], rf1 a 0 ∈ [59, 56] := by decide
theorem al_s59_56 : ∀ a ∈ [59, 56], a < nc_c := by decide
theorem ak_s59_56 : ∀ a ∈ [59, 56], kd a = 20 := by decide
theorem an_s59_56 : ∀ a ∈ [59, 56], ln a = 8 := by decide
theorem fo_St_15_60 : FOk "CamelStraws$Straws" 15 60 1 (.array .int) true := FOk.mk0 cq_8 (by decide) (by decide) (by decide) rfl (tb_in 186 (by decide +kernel) rfl) rfl rfl
theorem fo_St_15_57 : FOk "CamelStraws$Straws" 15 57 1 (.array .int) true := FOk.mk0 cq_8 (by decide) (by decide) (by decide) rfl (tb_in 186 (by decide +kernel) rfl) rfl rfl
theorem fo_St_15_s60_57 : ∀ a ∈ [60, 57], FOk "CamelStraws$Straws" 15 a 1 (.array .int) true := fun a ha => me2 (P := fun a => FOk "CamelStraws$Straws" 15 a 1 (.array .int) true) ha fo_St_15_60 fo_St_15_57
theorem rm_s60_57_1 : ∀ a ∈ [60, 57], rf1 a 1 ∈ [58, 55] := by decide
theorem al_s58_55 : ∀ a ∈ [58, 55], a < nc_c := by decide
theorem ak_s58_55 : ∀ a ∈ [58, 55], kd a = 20 := by decide
theorem an_s58_55 : ∀ a ∈ [58, 55], ln a = 8 := by decide
theorem fd_s60_57_1 : ∀ a ∈ [60, 57], (fdl a)[1]? = some (2, rf1 a 1) := by decide
theorem fd_s60_57_0 : ∀ a ∈ [60, 57], (fdl a)[0]? = some (2, rf1 a 0) := by decide
theorem wk_CS_121 : Cond.methodLink "CamelStraws" 121 y_CS_isDay ∈ tb_l := (tb_in 484 (by decide +kernel) rfl)
theorem ok_CS_isDay : MOk y_CS_isDay b_CS_isDay 1 (some .boolean) 1 := ⟨(tb_in 486 (by decide +kernel) rfl), (tb_in 69 (by decide +kernel) rfl), by decide +kernel, by decide +kernel, by decide +kernel⟩
theorem ws_CS_isDay : Cond.static y_CS_isDay ∈ tb_l := (tb_in 485 (by decide +kernel) rfl)
theorem wk_CS_124 : Cond.methodLink "CamelStraws" 124 y_CS_isPlaceOfCamel ∈ tb_l := (tb_in 487 (by decide +kernel) rfl)
theorem ok_CS_isPlaceOfCamel : MOk y_CS_isPlaceOfCamel b_CS_isPlaceOfCamel 1 (some .boolean) 1 := ⟨(tb_in 489 (by decide +kernel) rfl), (tb_in 69 (by decide +kernel) rfl), by decide +kernel, by decide +kernel, by decide +kernel⟩
theorem ws_CS_isPlaceOfCamel : Cond.static y_CS_isPlaceOfCamel ∈ tb_l := (tb_in 488 (by decide +kernel) rfl)
theorem fo_CS_32_71 : FOk "CamelStraws" 32 71 3 (.object "CamelStraws$Straws") true := FOk.mk0 cq_0 (by decide) (by decide) (by decide) rfl (tb_in 369 (by decide +kernel) rfl) rfl rfl
theorem wk_CS_127 : Cond.methodLink "CamelStraws" 127 y_St_append ∈ tb_l := (tb_in 490 (by decide +kernel) rfl)
theorem ok_St_append : MOk y_St_append b_St_append 3 (some .boolean) 2 := ⟨(tb_in 493 (by decide +kernel) rfl), (tb_in 73 (by decide +kernel) rfl), by decide +kernel, by decide +kernel, by decide +kernel⟩
theorem rc_60 : Rcv 60 "CamelStraws$Straws" := ⟨by decide, by decide, _, rfl, rfl⟩
theorem wi_St_append : Cond.instanceMethod y_St_append ∈ tb_l := (tb_in 491 (by decide +kernel) rfl)
theorem wl_St_St_append : Cond.selects "CamelStraws$Straws" y_St_append y_St_append ∈ tb_l := (tb_in 492 (by decide +kernel) rfl)
theorem fo_CS_130_60 : FOk "CamelStraws" 130 60 2 .int false := FOk.mk0 cq_8 (by decide) (by decide) (by decide) rfl (tb_in 192 (by decide +kernel) rfl) rfl rfl
theorem fo_Sh_15_42 : FOk "CamelStraws$Sheet" 15 42 1 .int false := FOk.mk0 cq_7 (by decide) (by decide) (by decide) rfl (tb_in 355 (by decide +kernel) rfl) rfl rfl
theorem fo_Sh_15_40 : FOk "CamelStraws$Sheet" 15 40 1 .int false := FOk.mk0 cq_7 (by decide) (by decide) (by decide) rfl (tb_in 355 (by decide +kernel) rfl) rfl rfl
theorem fo_Sh_15_38 : FOk "CamelStraws$Sheet" 15 38 1 .int false := FOk.mk0 cq_7 (by decide) (by decide) (by decide) rfl (tb_in 355 (by decide +kernel) rfl) rfl rfl
theorem fo_Sh_15_36 : FOk "CamelStraws$Sheet" 15 36 1 .int false := FOk.mk0 cq_7 (by decide) (by decide) (by decide) rfl (tb_in 355 (by decide +kernel) rfl) rfl rfl
theorem fo_Sh_15_s42_40_38_36 : ∀ a ∈ [42, 40, 38, 36], FOk "CamelStraws$Sheet" 15 a 1 .int false := fun a ha => me4 (P := fun a => FOk "CamelStraws$Sheet" 15 a 1 .int false) ha fo_Sh_15_42 fo_Sh_15_40 fo_Sh_15_38 fo_Sh_15_36
theorem fd_s42_40_38_36_1 : ∀ a ∈ [42, 40, 38, 36], (fdl a)[1]? = some (0, 0) := by decide
theorem fo_CS_249_71 : FOk "CamelStraws" 249 71 10 .int false := FOk.mk0 cq_0 (by decide) (by decide) (by decide) rfl (tb_in 376 (by decide +kernel) rfl) rfl rfl
theorem wk_CS_133 : Cond.methodLink "CamelStraws" 133 y_CS_isSheet ∈ tb_l := (tb_in 502 (by decide +kernel) rfl)
theorem ok_CS_isSheet : MOk y_CS_isSheet b_CS_isSheet 1 (some .boolean) 1 := ⟨(tb_in 504 (by decide +kernel) rfl), (tb_in 69 (by decide +kernel) rfl), by decide +kernel, by decide +kernel, by decide +kernel⟩
theorem ws_CS_isSheet : Cond.static y_CS_isSheet ∈ tb_l := (tb_in 503 (by decide +kernel) rfl)
theorem fo_CS_74_71 : FOk "CamelStraws" 74 71 9 (.array (.object "CamelStraws$Sheet")) true := FOk.mk0 cq_0 (by decide) (by decide) (by decide) rfl (tb_in 375 (by decide +kernel) rfl) rfl rfl
theorem rx_43 : ∀ j, j < 4 → rfx 43 j ∈ [42, 40, 38, 36] := by decide
theorem wk_CS_136 : Cond.methodLink "CamelStraws" 136 y_Sh_isLost ∈ tb_l := (tb_in 505 (by decide +kernel) rfl)
theorem ok_Sh_isLost : MOk y_Sh_isLost b_Sh_isLost 1 (some .boolean) 0 := ⟨(tb_in 508 (by decide +kernel) rfl), (tb_in 79 (by decide +kernel) rfl), by decide +kernel, by decide +kernel, by decide +kernel⟩
theorem rc_42 : Rcv 42 "CamelStraws$Sheet" := ⟨by decide, by decide, _, rfl, rfl⟩
theorem rc_40 : Rcv 40 "CamelStraws$Sheet" := ⟨by decide, by decide, _, rfl, rfl⟩
theorem rc_38 : Rcv 38 "CamelStraws$Sheet" := ⟨by decide, by decide, _, rfl, rfl⟩
theorem rc_36 : Rcv 36 "CamelStraws$Sheet" := ⟨by decide, by decide, _, rfl, rfl⟩
theorem rc_s42_40_38_36 : ∀ a ∈ [42, 40, 38, 36], Rcv a "CamelStraws$Sheet" := fun a ha => me4 (P := fun a => Rcv a "CamelStraws$Sheet") ha rc_42 rc_40 rc_38 rc_36
theorem wi_Sh_isLost : Cond.instanceMethod y_Sh_isLost ∈ tb_l := (tb_in 506 (by decide +kernel) rfl)
theorem wl_Sh_Sh_isLost : Cond.selects "CamelStraws$Sheet" y_Sh_isLost y_Sh_isLost ∈ tb_l := (tb_in 507 (by decide +kernel) rfl)
theorem fo_CS_143_42 : FOk "CamelStraws" 143 42 2 .int false := FOk.mk0 cq_7 (by decide) (by decide) (by decide) rfl (tb_in 358 (by decide +kernel) rfl) rfl rfl
theorem fo_CS_143_40 : FOk "CamelStraws" 143 40 2 .int false := FOk.mk0 cq_7 (by decide) (by decide) (by decide) rfl (tb_in 358 (by decide +kernel) rfl) rfl rfl
theorem fo_CS_143_38 : FOk "CamelStraws" 143 38 2 .int false := FOk.mk0 cq_7 (by decide) (by decide) (by decide) rfl (tb_in 358 (by decide +kernel) rfl) rfl rfl
theorem fo_CS_143_36 : FOk "CamelStraws" 143 36 2 .int false := FOk.mk0 cq_7 (by decide) (by decide) (by decide) rfl (tb_in 358 (by decide +kernel) rfl) rfl rfl
theorem fo_CS_143_s42_40_38_36 : ∀ a ∈ [42, 40, 38, 36], FOk "CamelStraws" 143 a 2 .int false := fun a ha => me4 (P := fun a => FOk "CamelStraws" 143 a 2 .int false) ha fo_CS_143_42 fo_CS_143_40 fo_CS_143_38 fo_CS_143_36
theorem fd_s42_40_38_36_2 : ∀ a ∈ [42, 40, 38, 36], (fdl a)[2]? = some (0, 0) := by decide
theorem fo_CS_144_42 : FOk "CamelStraws" 144 42 0 (.array .int) true := FOk.mk0 cq_7 (by decide) (by decide) (by decide) rfl (tb_in 354 (by decide +kernel) rfl) rfl rfl
theorem fo_CS_144_40 : FOk "CamelStraws" 144 40 0 (.array .int) true := FOk.mk0 cq_7 (by decide) (by decide) (by decide) rfl (tb_in 354 (by decide +kernel) rfl) rfl rfl
theorem fo_CS_144_38 : FOk "CamelStraws" 144 38 0 (.array .int) true := FOk.mk0 cq_7 (by decide) (by decide) (by decide) rfl (tb_in 354 (by decide +kernel) rfl) rfl rfl
theorem fo_CS_144_36 : FOk "CamelStraws" 144 36 0 (.array .int) true := FOk.mk0 cq_7 (by decide) (by decide) (by decide) rfl (tb_in 354 (by decide +kernel) rfl) rfl rfl
theorem fo_CS_144_s42_40_38_36 : ∀ a ∈ [42, 40, 38, 36], FOk "CamelStraws" 144 a 0 (.array .int) true := fun a ha => me4 (P := fun a => FOk "CamelStraws" 144 a 0 (.array .int) true) ha fo_CS_144_42 fo_CS_144_40 fo_CS_144_38 fo_CS_144_36
theorem rm_s42_40_38_36_0 : ∀ a ∈ [42, 40, 38, 36], rf1 a 0 ∈ [41, 39, 37, 35] := by decide
theorem al_s41_39_37_35 : ∀ a ∈ [41, 39, 37, 35], a < nc_c := by decide
theorem ak_s41_39_37_35 : ∀ a ∈ [41, 39, 37, 35], kd a = 20 := by decide
theorem an_s41_39_37_35 : ∀ a ∈ [41, 39, 37, 35], ln a = 60 := by decide
theorem wk_CS_147 : Cond.methodLink "CamelStraws" 147 y_CS_straw ∈ tb_l := (tb_in 513 (by decide +kernel) rfl)
theorem ok_CS_straw : MOk y_CS_straw b_CS_straw 3 (some .int) 2 := ⟨(tb_in 483 (by decide +kernel) rfl), (tb_in 69 (by decide +kernel) rfl), by decide +kernel, by decide +kernel, by decide +kernel⟩
theorem wi_CS_straw : Cond.instanceMethod y_CS_straw ∈ tb_l := (tb_in 481 (by decide +kernel) rfl)
theorem wl_CS_CS_straw : Cond.selects "CamelStraws" y_CS_straw y_CS_straw ∈ tb_l := (tb_in 482 (by decide +kernel) rfl)
theorem fd_s42_40_38_36_0 : ∀ a ∈ [42, 40, 38, 36], (fdl a)[0]? = some (2, rf1 a 0) := by decide
theorem wk_CS_140 : Cond.methodLink "CamelStraws" 140 y_CS_finding ∈ tb_l := (tb_in 509 (by decide +kernel) rfl)
theorem ok_CS_finding : MOk y_CS_finding b_CS_finding 2 (some .int) 1 := ⟨(tb_in 512 (by decide +kernel) rfl), (tb_in 69 (by decide +kernel) rfl), by decide +kernel, by decide +kernel, by decide +kernel⟩
theorem wi_CS_finding : Cond.instanceMethod y_CS_finding ∈ tb_l := (tb_in 511 (by decide +kernel) rfl)
theorem wl_CS_CS_finding : Cond.selects "CamelStraws" y_CS_finding y_CS_finding ∈ tb_l := (tb_in 2 (by decide +kernel) rfl)
theorem fo_Cv_26_54 : FOk "CamelStraws$Caravan" 26 54 1 (.object "CamelStraws$Bales") true := FOk.mk0 cq_3 (by decide) (by decide) (by decide) rfl (tb_in 258 (by decide +kernel) rfl) rfl rfl
theorem fo_Cv_57_66 : FOk "CamelStraws$Caravan" 57 66 4 .int false := FOk.mk1 "CamelStraws$Bales" cq_1 (by decide) (by decide) (by decide) rfl (tb_in 123 (by decide +kernel) rfl) (tb_in 124 (by decide +kernel) rfl) rfl rfl
theorem fo_Cv_66_66 : FOk "CamelStraws$Caravan" 66 66 5 (.array .int) true := FOk.mk0 cq_1 (by decide) (by decide) (by decide) rfl (tb_in 155 (by decide +kernel) rfl) rfl rfl
theorem fo_Cv_63_66 : FOk "CamelStraws$Caravan" 63 66 7 (.array .int) true := FOk.mk0 cq_1 (by decide) (by decide) (by decide) rfl (tb_in 161 (by decide +kernel) rfl) rfl rfl
theorem fo_Cv_30_54 : FOk "CamelStraws$Caravan" 30 54 2 (.object "CamelStraws$Straws") false := FOk.mk0 cq_3 (by decide) (by decide) (by decide) rfl (tb_in 260 (by decide +kernel) rfl) rfl rfl
theorem fo_Cv_77_60 : FOk "CamelStraws$Caravan" 77 60 2 .int false := FOk.mk0 cq_8 (by decide) (by decide) (by decide) rfl (tb_in 189 (by decide +kernel) rfl) rfl rfl
theorem fo_Cv_77_57 : FOk "CamelStraws$Caravan" 77 57 2 .int false := FOk.mk0 cq_8 (by decide) (by decide) (by decide) rfl (tb_in 189 (by decide +kernel) rfl) rfl rfl
theorem fo_Cv_77_s60_57 : ∀ a ∈ [60, 57], FOk "CamelStraws$Caravan" 77 a 2 .int false := fun a ha => me2 (P := fun a => FOk "CamelStraws$Caravan" 77 a 2 .int false) ha fo_Cv_77_60 fo_Cv_77_57
theorem fo_Cv_83_60 : FOk "CamelStraws$Caravan" 83 60 1 (.array .int) true := FOk.mk0 cq_8 (by decide) (by decide) (by decide) rfl (tb_in 187 (by decide +kernel) rfl) rfl rfl
theorem fo_Cv_83_57 : FOk "CamelStraws$Caravan" 83 57 1 (.array .int) true := FOk.mk0 cq_8 (by decide) (by decide) (by decide) rfl (tb_in 187 (by decide +kernel) rfl) rfl rfl
theorem fo_Cv_83_s60_57 : ∀ a ∈ [60, 57], FOk "CamelStraws$Caravan" 83 a 1 (.array .int) true := fun a ha => me2 (P := fun a => FOk "CamelStraws$Caravan" 83 a 1 (.array .int) true) ha fo_Cv_83_60 fo_Cv_83_57
theorem fo_Cv_82_60 : FOk "CamelStraws$Caravan" 82 60 0 (.array .int) true := FOk.mk0 cq_8 (by decide) (by decide) (by decide) rfl (tb_in 185 (by decide +kernel) rfl) rfl rfl
theorem fo_Cv_82_57 : FOk "CamelStraws$Caravan" 82 57 0 (.array .int) true := FOk.mk0 cq_8 (by decide) (by decide) (by decide) rfl (tb_in 185 (by decide +kernel) rfl) rfl rfl
theorem fo_Cv_82_s60_57 : ∀ a ∈ [60, 57], FOk "CamelStraws$Caravan" 82 a 0 (.array .int) true := fun a ha => me2 (P := fun a => FOk "CamelStraws$Caravan" 82 a 0 (.array .int) true) ha fo_Cv_82_60 fo_Cv_82_57
theorem fo_Wa_15_53 : FOk "CamelStraws$Walk" 15 53 1 .int false := FOk.mk0 cq_9 (by decide) (by decide) (by decide) rfl (tb_in 213 (by decide +kernel) rfl) rfl rfl
theorem fo_Wa_19_53 : FOk "CamelStraws$Walk" 19 53 2 .int false := FOk.mk0 cq_9 (by decide) (by decide) (by decide) rfl (tb_in 214 (by decide +kernel) rfl) rfl rfl
theorem fo_Wa_22_53 : FOk "CamelStraws$Walk" 22 53 4 .int false := FOk.mk0 cq_9 (by decide) (by decide) (by decide) rfl (tb_in 216 (by decide +kernel) rfl) rfl rfl
theorem fo_Wa_25_53 : FOk "CamelStraws$Walk" 25 53 3 .int false := FOk.mk0 cq_9 (by decide) (by decide) (by decide) rfl (tb_in 215 (by decide +kernel) rfl) rfl rfl
theorem fo_Wa_28_53 : FOk "CamelStraws$Walk" 28 53 10 .boolean false := FOk.mk0 cq_9 (by decide) (by decide) (by decide) rfl (tb_in 222 (by decide +kernel) rfl) rfl rfl
theorem fo_Wa_32_53 : FOk "CamelStraws$Walk" 32 53 6 .int false := FOk.mk0 cq_9 (by decide) (by decide) (by decide) rfl (tb_in 218 (by decide +kernel) rfl) rfl rfl
theorem fo_Wa_35_53 : FOk "CamelStraws$Walk" 35 53 7 .int false := FOk.mk0 cq_9 (by decide) (by decide) (by decide) rfl (tb_in 219 (by decide +kernel) rfl) rfl rfl
theorem fo_Wa_38_53 : FOk "CamelStraws$Walk" 38 53 8 .int false := FOk.mk0 cq_9 (by decide) (by decide) (by decide) rfl (tb_in 220 (by decide +kernel) rfl) rfl rfl
theorem fo_Wa_41_53 : FOk "CamelStraws$Walk" 41 53 11 .int false := FOk.mk0 cq_9 (by decide) (by decide) (by decide) rfl (tb_in 223 (by decide +kernel) rfl) rfl rfl
theorem fo_Wa_44_53 : FOk "CamelStraws$Walk" 44 53 12 .int false := FOk.mk0 cq_9 (by decide) (by decide) (by decide) rfl (tb_in 226 (by decide +kernel) rfl) rfl rfl
theorem fo_Wa_47_53 : FOk "CamelStraws$Walk" 47 53 5 .int false := FOk.mk0 cq_9 (by decide) (by decide) (by decide) rfl (tb_in 217 (by decide +kernel) rfl) rfl rfl
theorem fo_Wa_50_53 : FOk "CamelStraws$Walk" 50 53 9 .int false := FOk.mk0 cq_9 (by decide) (by decide) (by decide) rfl (tb_in 221 (by decide +kernel) rfl) rfl rfl
theorem fo_Wa_9_53 : FOk "CamelStraws$Walk" 9 53 0 (.array .int) true := FOk.mk0 cq_9 (by decide) (by decide) (by decide) rfl (tb_in 212 (by decide +kernel) rfl) rfl rfl
theorem wk_Cv_34 : Cond.methodLink "CamelStraws$Caravan" 34 y_Cv_busyDaysOf ∈ tb_l := (tb_in 522 (by decide +kernel) rfl)
theorem ok_Cv_busyDaysOf : MOk y_Cv_busyDaysOf b_Cv_busyDaysOf 4 (some .int) 1 := ⟨(tb_in 525 (by decide +kernel) rfl), (tb_in 74 (by decide +kernel) rfl), by decide +kernel, by decide +kernel, by decide +kernel⟩
theorem rc_54 : Rcv 54 "CamelStraws$Caravan" := ⟨by decide, by decide, _, rfl, rfl⟩
theorem wi_Cv_busyDaysOf : Cond.instanceMethod y_Cv_busyDaysOf ∈ tb_l := (tb_in 524 (by decide +kernel) rfl)
theorem wl_Cv_Cv_busyDaysOf : Cond.selects "CamelStraws$Caravan" y_Cv_busyDaysOf y_Cv_busyDaysOf ∈ tb_l := (tb_in 3 (by decide +kernel) rfl)
theorem fo_Cv_12_54 : FOk "CamelStraws$Caravan" 12 54 4 (.object "CamelStraws$Walk") true := FOk.mk0 cq_3 (by decide) (by decide) (by decide) rfl (tb_in 269 (by decide +kernel) rfl) rfl rfl
theorem fo_Cv_22_54 : FOk "CamelStraws$Caravan" 22 54 0 (.object "CamelStraws$Camels") true := FOk.mk0 cq_3 (by decide) (by decide) (by decide) rfl (tb_in 256 (by decide +kernel) rfl) rfl rfl
theorem fo_Cv_38_70 : FOk "CamelStraws$Caravan" 38 70 5 (.array .int) true := FOk.mk0 cq_2 (by decide) (by decide) (by decide) rfl (tb_in 103 (by decide +kernel) rfl) rfl rfl
theorem fo_Cv_43_70 : FOk "CamelStraws$Caravan" 43 70 6 (.array .int) true := FOk.mk0 cq_2 (by decide) (by decide) (by decide) rfl (tb_in 106 (by decide +kernel) rfl) rfl rfl
theorem wk_Cv_46 : Cond.methodLinkNest "CamelStraws$Caravan" 46 y_CS_strengthOf "CamelStraws" ∈ tb_l := (tb_in 526 (by decide +kernel) rfl)
theorem wk_Cv_49 : Cond.methodLink "CamelStraws$Caravan" 49 y_Wa_start ∈ tb_l := (tb_in 527 (by decide +kernel) rfl)
theorem ok_Wa_start : MOk y_Wa_start b_Wa_start 3 none 2 := ⟨(tb_in 530 (by decide +kernel) rfl), (tb_in 75 (by decide +kernel) rfl), by decide +kernel, by decide +kernel, by decide +kernel⟩
theorem rc_53 : Rcv 53 "CamelStraws$Walk" := ⟨by decide, by decide, _, rfl, rfl⟩
theorem wi_Wa_start : Cond.instanceMethod y_Wa_start ∈ tb_l := (tb_in 528 (by decide +kernel) rfl)
theorem wl_Wa_Wa_start : Cond.selects "CamelStraws$Walk" y_Wa_start y_Wa_start ∈ tb_l := (tb_in 529 (by decide +kernel) rfl)
theorem wk_Cv_53 : Cond.methodLink "CamelStraws$Caravan" 53 y_Wa_rise ∈ tb_l := (tb_in 531 (by decide +kernel) rfl)
theorem ok_Wa_rise : MOk y_Wa_rise b_Wa_rise 2 none 1 := ⟨(tb_in 534 (by decide +kernel) rfl), (tb_in 75 (by decide +kernel) rfl), by decide +kernel, by decide +kernel, by decide +kernel⟩
theorem wi_Wa_rise : Cond.instanceMethod y_Wa_rise ∈ tb_l := (tb_in 532 (by decide +kernel) rfl)
theorem wl_Wa_Wa_rise : Cond.selects "CamelStraws$Walk" y_Wa_rise y_Wa_rise ∈ tb_l := (tb_in 533 (by decide +kernel) rfl)
theorem fo_Cv_68_66 : FOk "CamelStraws$Caravan" 68 66 6 (.array .int) true := FOk.mk0 cq_1 (by decide) (by decide) (by decide) rfl (tb_in 158 (by decide +kernel) rfl) rfl rfl
theorem wk_Cv_71 : Cond.methodLink "CamelStraws$Caravan" 71 y_Wa_take ∈ tb_l := (tb_in 535 (by decide +kernel) rfl)
theorem ok_Wa_take : MOk y_Wa_take b_Wa_take 2 none 1 := ⟨(tb_in 538 (by decide +kernel) rfl), (tb_in 75 (by decide +kernel) rfl), by decide +kernel, by decide +kernel, by decide +kernel⟩
theorem wi_Wa_take : Cond.instanceMethod y_Wa_take ∈ tb_l := (tb_in 536 (by decide +kernel) rfl)
theorem wl_Wa_Wa_take : Cond.selects "CamelStraws$Walk" y_Wa_take y_Wa_take ∈ tb_l := (tb_in 537 (by decide +kernel) rfl)
theorem wk_Cv_74 : Cond.methodLink "CamelStraws$Caravan" 74 y_Wa_breakIfOver ∈ tb_l := (tb_in 539 (by decide +kernel) rfl)
theorem ok_Wa_breakIfOver : MOk y_Wa_breakIfOver b_Wa_breakIfOver 2 none 1 := ⟨(tb_in 542 (by decide +kernel) rfl), (tb_in 75 (by decide +kernel) rfl), by decide +kernel, by decide +kernel, by decide +kernel⟩
theorem wi_Wa_breakIfOver : Cond.instanceMethod y_Wa_breakIfOver ∈ tb_l := (tb_in 540 (by decide +kernel) rfl)
theorem wl_Wa_Wa_breakIfOver : Cond.selects "CamelStraws$Walk" y_Wa_breakIfOver y_Wa_breakIfOver ∈ tb_l := (tb_in 541 (by decide +kernel) rfl)
theorem fo_Cv_84_54 : FOk "CamelStraws$Caravan" 84 54 3 .int false := FOk.mk0 cq_3 (by decide) (by decide) (by decide) rfl (tb_in 265 (by decide +kernel) rfl) rfl rfl
theorem wk_Cv_87 : Cond.methodLink "CamelStraws$Caravan" 87 y_Wa_payIfLast ∈ tb_l := (tb_in 543 (by decide +kernel) rfl)
theorem ok_Wa_payIfLast : MOk y_Wa_payIfLast b_Wa_payIfLast 1 none 0 := ⟨(tb_in 546 (by decide +kernel) rfl), (tb_in 75 (by decide +kernel) rfl), by decide +kernel, by decide +kernel, by decide +kernel⟩
theorem wi_Wa_payIfLast : Cond.instanceMethod y_Wa_payIfLast ∈ tb_l := (tb_in 544 (by decide +kernel) rfl)
theorem wl_Wa_Wa_payIfLast : Cond.selects "CamelStraws$Walk" y_Wa_payIfLast y_Wa_payIfLast ∈ tb_l := (tb_in 545 (by decide +kernel) rfl)
theorem wk_Cv_90 : Cond.methodLink "CamelStraws$Caravan" 90 y_Wa_measureRoom ∈ tb_l := (tb_in 547 (by decide +kernel) rfl)
theorem ok_Wa_measureRoom : MOk y_Wa_measureRoom b_Wa_measureRoom 1 none 0 := ⟨(tb_in 550 (by decide +kernel) rfl), (tb_in 75 (by decide +kernel) rfl), by decide +kernel, by decide +kernel, by decide +kernel⟩
theorem wi_Wa_measureRoom : Cond.instanceMethod y_Wa_measureRoom ∈ tb_l := (tb_in 548 (by decide +kernel) rfl)
theorem wl_Wa_Wa_measureRoom : Cond.selects "CamelStraws$Walk" y_Wa_measureRoom y_Wa_measureRoom ∈ tb_l := (tb_in 549 (by decide +kernel) rfl)
theorem wk_Cv_93 : Cond.methodLink "CamelStraws$Caravan" 93 y_Wa_wear ∈ tb_l := (tb_in 551 (by decide +kernel) rfl)
theorem ok_Wa_wear : MOk y_Wa_wear b_Wa_wear 3 none 1 := ⟨(tb_in 554 (by decide +kernel) rfl), (tb_in 75 (by decide +kernel) rfl), by decide +kernel, by decide +kernel, by decide +kernel⟩
theorem wi_Wa_wear : Cond.instanceMethod y_Wa_wear ∈ tb_l := (tb_in 552 (by decide +kernel) rfl)
theorem wl_Wa_Wa_wear : Cond.selects "CamelStraws$Walk" y_Wa_wear y_Wa_wear ∈ tb_l := (tb_in 553 (by decide +kernel) rfl)
theorem wk_Cv_96 : Cond.methodLink "CamelStraws$Caravan" 96 y_Wa_unloadAtWell ∈ tb_l := (tb_in 555 (by decide +kernel) rfl)
theorem ok_Wa_unloadAtWell : MOk y_Wa_unloadAtWell b_Wa_unloadAtWell 2 none 1 := ⟨(tb_in 558 (by decide +kernel) rfl), (tb_in 75 (by decide +kernel) rfl), by decide +kernel, by decide +kernel, by decide +kernel⟩
theorem wi_Wa_unloadAtWell : Cond.instanceMethod y_Wa_unloadAtWell ∈ tb_l := (tb_in 556 (by decide +kernel) rfl)
theorem wl_Wa_Wa_unloadAtWell : Cond.selects "CamelStraws$Walk" y_Wa_unloadAtWell y_Wa_unloadAtWell ∈ tb_l := (tb_in 557 (by decide +kernel) rfl)
theorem wk_Cv_99 : Cond.methodLink "CamelStraws$Caravan" 99 y_Wa_keep ∈ tb_l := (tb_in 559 (by decide +kernel) rfl)
theorem ok_Wa_keep : MOk y_Wa_keep b_Wa_keep 3 none 1 := ⟨(tb_in 562 (by decide +kernel) rfl), (tb_in 75 (by decide +kernel) rfl), by decide +kernel, by decide +kernel, by decide +kernel⟩
theorem wi_Wa_keep : Cond.instanceMethod y_Wa_keep ∈ tb_l := (tb_in 560 (by decide +kernel) rfl)
theorem wl_Wa_Wa_keep : Cond.selects "CamelStraws$Walk" y_Wa_keep y_Wa_keep ∈ tb_l := (tb_in 561 (by decide +kernel) rfl)
theorem fo_CS_44_71 : FOk "CamelStraws" 44 71 5 (.object "CamelStraws$Caravan") true := FOk.mk0 cq_0 (by decide) (by decide) (by decide) rfl (tb_in 371 (by decide +kernel) rfl) rfl rfl
theorem wk_CS_151 : Cond.methodLink "CamelStraws" 151 y_Cv_march ∈ tb_l := (tb_in 518 (by decide +kernel) rfl)
theorem ok_Cv_march : MOk y_Cv_march b_Cv_march 6 (some (.object "CamelStraws$Walk")) 1 := ⟨(tb_in 521 (by decide +kernel) rfl), (tb_in 74 (by decide +kernel) rfl), by decide +kernel, by decide +kernel, by decide +kernel⟩
theorem wi_Cv_march : Cond.instanceMethod y_Cv_march ∈ tb_l := (tb_in 519 (by decide +kernel) rfl)
theorem wl_Cv_Cv_march : Cond.selects "CamelStraws$Caravan" y_Cv_march y_Cv_march ∈ tb_l := (tb_in 520 (by decide +kernel) rfl)
theorem wk_CS_155 : Cond.methodLink "CamelStraws" 155 y_Wa_behind ∈ tb_l := (tb_in 563 (by decide +kernel) rfl)
theorem ok_Wa_behind : MOk y_Wa_behind b_Wa_behind 3 (some .int) 2 := ⟨(tb_in 566 (by decide +kernel) rfl), (tb_in 75 (by decide +kernel) rfl), by decide +kernel, by decide +kernel, by decide +kernel⟩
theorem wi_Wa_behind : Cond.instanceMethod y_Wa_behind ∈ tb_l := (tb_in 564 (by decide +kernel) rfl)
theorem wl_Wa_Wa_behind : Cond.selects "CamelStraws$Walk" y_Wa_behind y_Wa_behind ∈ tb_l := (tb_in 565 (by decide +kernel) rfl)
theorem fo_Cv_102_70 : FOk "CamelStraws$Caravan" 102 70 4 .int false := FOk.mk1 "CamelStraws$Camels" cq_2 (by decide) (by decide) (by decide) rfl (tb_in 127 (by decide +kernel) rfl) (tb_in 126 (by decide +kernel) rfl) rfl rfl
theorem wk_Cv_103 : Cond.methodLink "CamelStraws$Caravan" 103 y_Cv_march ∈ tb_l := (tb_in 575 (by decide +kernel) rfl)
theorem wk_Cv_107 : Cond.methodLink "CamelStraws$Caravan" 107 y_Wa_behind ∈ tb_l := (tb_in 576 (by decide +kernel) rfl)
theorem wk_CS_160 : Cond.methodLink "CamelStraws" 160 y_Cv_inAll ∈ tb_l := (tb_in 571 (by decide +kernel) rfl)
theorem ok_Cv_inAll : MOk y_Cv_inAll b_Cv_inAll 4 (some .int) 1 := ⟨(tb_in 574 (by decide +kernel) rfl), (tb_in 74 (by decide +kernel) rfl), by decide +kernel, by decide +kernel, by decide +kernel⟩
theorem wi_Cv_inAll : Cond.instanceMethod y_Cv_inAll ∈ tb_l := (tb_in 572 (by decide +kernel) rfl)
theorem wl_Cv_Cv_inAll : Cond.selects "CamelStraws$Caravan" y_Cv_inAll y_Cv_inAll ∈ tb_l := (tb_in 573 (by decide +kernel) rfl)
theorem fo_Cv_111_53 : FOk "CamelStraws$Caravan" 111 53 12 .int false := FOk.mk0 cq_9 (by decide) (by decide) (by decide) rfl (tb_in 227 (by decide +kernel) rfl) rfl rfl
theorem wk_CS_163 : Cond.methodLink "CamelStraws" 163 y_Cv_firstToBreak ∈ tb_l := (tb_in 585 (by decide +kernel) rfl)
theorem ok_Cv_firstToBreak : MOk y_Cv_firstToBreak b_Cv_firstToBreak 5 (some .int) 0 := ⟨(tb_in 588 (by decide +kernel) rfl), (tb_in 74 (by decide +kernel) rfl), by decide +kernel, by decide +kernel, by decide +kernel⟩
theorem wi_Cv_firstToBreak : Cond.instanceMethod y_Cv_firstToBreak ∈ tb_l := (tb_in 586 (by decide +kernel) rfl)
theorem wl_Cv_Cv_firstToBreak : Cond.selects "CamelStraws$Caravan" y_Cv_firstToBreak y_Cv_firstToBreak ∈ tb_l := (tb_in 587 (by decide +kernel) rfl)
theorem fo_CS_167_53 : FOk "CamelStraws" 167 53 12 .int false := FOk.mk0 cq_9 (by decide) (by decide) (by decide) rfl (tb_in 228 (by decide +kernel) rfl) rfl rfl
theorem wk_Cv_114 : Cond.methodLink "CamelStraws$Caravan" 114 y_Cv_broughtBy ∈ tb_l := (tb_in 597 (by decide +kernel) rfl)
theorem ok_Cv_broughtBy : MOk y_Cv_broughtBy b_Cv_broughtBy 2 (some .int) 1 := ⟨(tb_in 600 (by decide +kernel) rfl), (tb_in 74 (by decide +kernel) rfl), by decide +kernel, by decide +kernel, by decide +kernel⟩
theorem wi_Cv_broughtBy : Cond.instanceMethod y_Cv_broughtBy ∈ tb_l := (tb_in 598 (by decide +kernel) rfl)
theorem wl_Cv_Cv_broughtBy : Cond.selects "CamelStraws$Caravan" y_Cv_broughtBy y_Cv_broughtBy ∈ tb_l := (tb_in 599 (by decide +kernel) rfl)
theorem wk_CS_170 : Cond.methodLink "CamelStraws" 170 y_Cv_bestCamel ∈ tb_l := (tb_in 593 (by decide +kernel) rfl)
theorem ok_Cv_bestCamel : MOk y_Cv_bestCamel b_Cv_bestCamel 5 (some .int) 0 := ⟨(tb_in 596 (by decide +kernel) rfl), (tb_in 74 (by decide +kernel) rfl), by decide +kernel, by decide +kernel, by decide +kernel⟩
theorem wi_Cv_bestCamel : Cond.instanceMethod y_Cv_bestCamel ∈ tb_l := (tb_in 594 (by decide +kernel) rfl)
theorem wl_Cv_Cv_bestCamel : Cond.selects "CamelStraws$Caravan" y_Cv_bestCamel y_Cv_bestCamel ∈ tb_l := (tb_in 595 (by decide +kernel) rfl)
theorem fo_Cv_117_53 : FOk "CamelStraws$Caravan" 117 53 11 .int false := FOk.mk0 cq_9 (by decide) (by decide) (by decide) rfl (tb_in 225 (by decide +kernel) rfl) rfl rfl
theorem wk_CS_173 : Cond.methodLink "CamelStraws" 173 y_Cv_wholeCamels ∈ tb_l := (tb_in 605 (by decide +kernel) rfl)
theorem ok_Cv_wholeCamels : MOk y_Cv_wholeCamels b_Cv_wholeCamels 3 (some .int) 0 := ⟨(tb_in 608 (by decide +kernel) rfl), (tb_in 74 (by decide +kernel) rfl), by decide +kernel, by decide +kernel, by decide +kernel⟩
theorem wi_Cv_wholeCamels : Cond.instanceMethod y_Cv_wholeCamels ∈ tb_l := (tb_in 606 (by decide +kernel) rfl)
theorem wl_Cv_Cv_wholeCamels : Cond.selects "CamelStraws$Caravan" y_Cv_wholeCamels y_Cv_wholeCamels ∈ tb_l := (tb_in 607 (by decide +kernel) rfl)
theorem al_s51_41_39_37_35 : ∀ a ∈ [51, 41, 39, 37, 35], a < nc_c := by decide
theorem ak_s51_41_39_37_35 : ∀ a ∈ [51, 41, 39, 37, 35], kd a = 20 := by decide
theorem fo_Cv_18_54 : FOk "CamelStraws$Caravan" 18 54 5 (.array .int) true := FOk.mk0 cq_3 (by decide) (by decide) (by decide) rfl (tb_in 270 (by decide +kernel) rfl) rfl rfl
theorem wk_Cv_120 : Cond.methodLink "CamelStraws$Caravan" 120 y_Ar_fill ∈ tb_l := (tb_in 617 (by decide +kernel) rfl)
theorem ok_Ar_fill : MOk y_Ar_fill b_Ar_fill 4 none 2 := ⟨(tb_in 619 (by decide +kernel) rfl), (tb_in 81 (by decide +kernel) rfl), by decide +kernel, by decide +kernel, by decide +kernel⟩
theorem ws_Ar_fill : Cond.static y_Ar_fill ∈ tb_l := (tb_in 618 (by decide +kernel) rfl)
theorem wk_CS_176 : Cond.methodLink "CamelStraws" 176 y_Cv_tiredDay ∈ tb_l := (tb_in 613 (by decide +kernel) rfl)
theorem ok_Cv_tiredDay : MOk y_Cv_tiredDay b_Cv_tiredDay 3 (some .int) 0 := ⟨(tb_in 616 (by decide +kernel) rfl), (tb_in 74 (by decide +kernel) rfl), by decide +kernel, by decide +kernel, by decide +kernel⟩
theorem wi_Cv_tiredDay : Cond.instanceMethod y_Cv_tiredDay ∈ tb_l := (tb_in 614 (by decide +kernel) rfl)
theorem wl_Cv_Cv_tiredDay : Cond.selects "CamelStraws$Caravan" y_Cv_tiredDay y_Cv_tiredDay ∈ tb_l := (tb_in 615 (by decide +kernel) rfl)
theorem fo_Pl_44_50 : FOk "CamelStraws$Plans" 44 50 1 .int false := FOk.mk0 cq_6 (by decide) (by decide) (by decide) rfl (tb_in 291 (by decide +kernel) rfl) rfl rfl
theorem fo_Pl_48_50 : FOk "CamelStraws$Plans" 48 50 2 .int false := FOk.mk0 cq_6 (by decide) (by decide) (by decide) rfl (tb_in 293 (by decide +kernel) rfl) rfl rfl
theorem fo_Pl_9_50 : FOk "CamelStraws$Plans" 9 50 0 (.object "CamelStraws$Caravan") true := FOk.mk0 cq_6 (by decide) (by decide) (by decide) rfl (tb_in 290 (by decide +kernel) rfl) rfl rfl
theorem fo_Pl_15_54 : FOk "CamelStraws$Plans" 15 54 1 (.object "CamelStraws$Bales") true := FOk.mk0 cq_3 (by decide) (by decide) (by decide) rfl (tb_in 259 (by decide +kernel) rfl) rfl rfl
theorem fo_Pl_21_66 : FOk "CamelStraws$Plans" 21 66 5 (.array .int) true := FOk.mk0 cq_1 (by decide) (by decide) (by decide) rfl (tb_in 154 (by decide +kernel) rfl) rfl rfl
theorem wk_Pl_27 : Cond.methodLink "CamelStraws$Plans" 27 y_Cv_inAll ∈ tb_l := (tb_in 632 (by decide +kernel) rfl)
theorem wk_Pl_31 : Cond.methodLink "CamelStraws$Plans" 31 y_Pl_beginChoice ∈ tb_l := (tb_in 633 (by decide +kernel) rfl)
theorem ok_Pl_beginChoice : MOk y_Pl_beginChoice b_Pl_beginChoice 1 none 0 := ⟨(tb_in 636 (by decide +kernel) rfl), (tb_in 76 (by decide +kernel) rfl), by decide +kernel, by decide +kernel, by decide +kernel⟩
theorem rc_50 : Rcv 50 "CamelStraws$Plans" := ⟨by decide, by decide, _, rfl, rfl⟩
theorem wi_Pl_beginChoice : Cond.instanceMethod y_Pl_beginChoice ∈ tb_l := (tb_in 635 (by decide +kernel) rfl)
theorem wl_Pl_Pl_beginChoice : Cond.selects "CamelStraws$Plans" y_Pl_beginChoice y_Pl_beginChoice ∈ tb_l := (tb_in 4 (by decide +kernel) rfl)
theorem wk_Pl_34 : Cond.methodLink "CamelStraws$Plans" 34 y_Cv_broughtBy ∈ tb_l := (tb_in 637 (by decide +kernel) rfl)
theorem wk_Pl_37 : Cond.methodLink "CamelStraws$Plans" 37 y_Pl_choose ∈ tb_l := (tb_in 638 (by decide +kernel) rfl)
theorem ok_Pl_choose : MOk y_Pl_choose b_Pl_choose 3 none 2 := ⟨(tb_in 641 (by decide +kernel) rfl), (tb_in 76 (by decide +kernel) rfl), by decide +kernel, by decide +kernel, by decide +kernel⟩
theorem wi_Pl_choose : Cond.instanceMethod y_Pl_choose ∈ tb_l := (tb_in 640 (by decide +kernel) rfl)
theorem wl_Pl_Pl_choose : Cond.selects "CamelStraws$Plans" y_Pl_choose y_Pl_choose ∈ tb_l := (tb_in 5 (by decide +kernel) rfl)
theorem fo_CS_53_71 : FOk "CamelStraws" 53 71 6 (.object "CamelStraws$Plans") true := FOk.mk0 cq_0 (by decide) (by decide) (by decide) rfl (tb_in 372 (by decide +kernel) rfl) rfl rfl
theorem wk_CS_179 : Cond.methodLink "CamelStraws" 179 y_Pl_tryCamels ∈ tb_l := (tb_in 628 (by decide +kernel) rfl)
theorem ok_Pl_tryCamels : MOk y_Pl_tryCamels b_Pl_tryCamels 7 none 1 := ⟨(tb_in 631 (by decide +kernel) rfl), (tb_in 76 (by decide +kernel) rfl), by decide +kernel, by decide +kernel, by decide +kernel⟩
theorem wi_Pl_tryCamels : Cond.instanceMethod y_Pl_tryCamels ∈ tb_l := (tb_in 629 (by decide +kernel) rfl)
theorem wl_Pl_Pl_tryCamels : Cond.selects "CamelStraws$Plans" y_Pl_tryCamels y_Pl_tryCamels ∈ tb_l := (tb_in 630 (by decide +kernel) rfl)
theorem fo_CS_185_50 : FOk "CamelStraws" 185 50 2 .int false := FOk.mk0 cq_6 (by decide) (by decide) (by decide) rfl (tb_in 294 (by decide +kernel) rfl) rfl rfl
theorem fo_CS_182_50 : FOk "CamelStraws" 182 50 1 .int false := FOk.mk0 cq_6 (by decide) (by decide) (by decide) rfl (tb_in 292 (by decide +kernel) rfl) rfl rfl
theorem fo_Pl_41_66 : FOk "CamelStraws$Plans" 41 66 7 (.array .int) true := FOk.mk0 cq_1 (by decide) (by decide) (by decide) rfl (tb_in 162 (by decide +kernel) rfl) rfl rfl
theorem wk_CS_188 : Cond.methodLink "CamelStraws" 188 y_Pl_tryDays ∈ tb_l := (tb_in 646 (by decide +kernel) rfl)
theorem ok_Pl_tryDays : MOk y_Pl_tryDays b_Pl_tryDays 7 none 1 := ⟨(tb_in 649 (by decide +kernel) rfl), (tb_in 76 (by decide +kernel) rfl), by decide +kernel, by decide +kernel, by decide +kernel⟩
theorem wi_Pl_tryDays : Cond.instanceMethod y_Pl_tryDays ∈ tb_l := (tb_in 647 (by decide +kernel) rfl)
theorem wl_Pl_Pl_tryDays : Cond.selects "CamelStraws$Plans" y_Pl_tryDays y_Pl_tryDays ∈ tb_l := (tb_in 648 (by decide +kernel) rfl)
theorem fo_Pl_64_54 : FOk "CamelStraws$Plans" 64 54 3 .int false := FOk.mk0 cq_3 (by decide) (by decide) (by decide) rfl (tb_in 268 (by decide +kernel) rfl) rfl rfl
theorem wk_Pl_67 : Cond.methodLink "CamelStraws$Plans" 67 y_Cv_firstToBreak ∈ tb_l := (tb_in 662 (by decide +kernel) rfl)
theorem wk_Pl_51 : Cond.methodLink "CamelStraws$Plans" 51 y_Pl_allStandWithout ∈ tb_l := (tb_in 658 (by decide +kernel) rfl)
theorem ok_Pl_allStandWithout : MOk y_Pl_allStandWithout b_Pl_allStandWithout 3 (some .boolean) 1 := ⟨(tb_in 661 (by decide +kernel) rfl), (tb_in 76 (by decide +kernel) rfl), by decide +kernel, by decide +kernel, by decide +kernel⟩
theorem wi_Pl_allStandWithout : Cond.instanceMethod y_Pl_allStandWithout ∈ tb_l := (tb_in 660 (by decide +kernel) rfl)
theorem wl_Pl_Pl_allStandWithout : Cond.selects "CamelStraws$Plans" y_Pl_allStandWithout y_Pl_allStandWithout ∈ tb_l := (tb_in 6 (by decide +kernel) rfl)
theorem fo_Pl_55_54 : FOk "CamelStraws$Plans" 55 54 2 (.object "CamelStraws$Straws") false := FOk.mk0 cq_3 (by decide) (by decide) (by decide) rfl (tb_in 263 (by decide +kernel) rfl) rfl rfl
theorem fo_Pl_59_60 : FOk "CamelStraws$Plans" 59 60 2 .int false := FOk.mk0 cq_8 (by decide) (by decide) (by decide) rfl (tb_in 191 (by decide +kernel) rfl) rfl rfl
theorem fo_Pl_59_57 : FOk "CamelStraws$Plans" 59 57 2 .int false := FOk.mk0 cq_8 (by decide) (by decide) (by decide) rfl (tb_in 191 (by decide +kernel) rfl) rfl rfl
theorem fo_Pl_59_s60_57 : ∀ a ∈ [60, 57], FOk "CamelStraws$Plans" 59 a 2 .int false := fun a ha => me2 (P := fun a => FOk "CamelStraws$Plans" 59 a 2 .int false) ha fo_Pl_59_60 fo_Pl_59_57
theorem kc_In_265 : Cond.constant "java/lang/Integer" 265 1431655765 ∈ tb_l := (tb_in 666 (by decide +kernel) rfl)
theorem kc_In_266 : Cond.constant "java/lang/Integer" 266 858993459 ∈ tb_l := (tb_in 667 (by decide +kernel) rfl)
theorem kc_In_267 : Cond.constant "java/lang/Integer" 267 252645135 ∈ tb_l := (tb_in 668 (by decide +kernel) rfl)
theorem kc_In_264 : Cond.constant "java/lang/Integer" 264 65536 ∈ tb_l := (tb_in 672 (by decide +kernel) rfl)
theorem wk_CS_191 : Cond.methodLink "CamelStraws" 191 y_Pl_sparedStraws ∈ tb_l := (tb_in 654 (by decide +kernel) rfl)
theorem ok_Pl_sparedStraws : MOk y_Pl_sparedStraws b_Pl_sparedStraws 4 (some .int) 0 := ⟨(tb_in 657 (by decide +kernel) rfl), (tb_in 76 (by decide +kernel) rfl), by decide +kernel, by decide +kernel, by decide +kernel⟩
theorem wi_Pl_sparedStraws : Cond.instanceMethod y_Pl_sparedStraws ∈ tb_l := (tb_in 655 (by decide +kernel) rfl)
theorem wl_Pl_Pl_sparedStraws : Cond.selects "CamelStraws$Plans" y_Pl_sparedStraws y_Pl_sparedStraws ∈ tb_l := (tb_in 656 (by decide +kernel) rfl)
theorem wk_CS_199 : Cond.methodLink "CamelStraws" 199 y_In_numberOfTrailingZeros ∈ tb_l := (tb_in 669 (by decide +kernel) rfl)
theorem ok_In_numberOfTrailingZeros : MOk y_In_numberOfTrailingZeros b_In_numberOfTrailingZeros 2 (some .int) 1 := ⟨(tb_in 671 (by decide +kernel) rfl), (tb_in 82 (by decide +kernel) rfl), by decide +kernel, by decide +kernel, by decide +kernel⟩
theorem ws_In_numberOfTrailingZeros : Cond.static y_In_numberOfTrailingZeros ∈ tb_l := (tb_in 670 (by decide +kernel) rfl)
theorem wk_CS_194 : Cond.methodLink "CamelStraws" 194 y_In_bitCount ∈ tb_l := (tb_in 663 (by decide +kernel) rfl)
theorem ok_In_bitCount : MOk y_In_bitCount b_In_bitCount 1 (some .int) 1 := ⟨(tb_in 665 (by decide +kernel) rfl), (tb_in 82 (by decide +kernel) rfl), by decide +kernel, by decide +kernel, by decide +kernel⟩
theorem ws_In_bitCount : Cond.static y_In_bitCount ∈ tb_l := (tb_in 664 (by decide +kernel) rfl)
theorem fo_Gu_28_49 : FOk "CamelStraws$Guesses" 28 49 4 .int false := FOk.mk0 cq_4 (by decide) (by decide) (by decide) rfl (tb_in 312 (by decide +kernel) rfl) rfl rfl
theorem fo_Gu_9_49 : FOk "CamelStraws$Guesses" 9 49 1 (.array .int) true := FOk.mk0 cq_4 (by decide) (by decide) (by decide) rfl (tb_in 309 (by decide +kernel) rfl) rfl rfl
theorem fo_Gu_15_49 : FOk "CamelStraws$Guesses" 15 49 2 (.array .int) true := FOk.mk0 cq_4 (by decide) (by decide) (by decide) rfl (tb_in 310 (by decide +kernel) rfl) rfl rfl
theorem fo_Gu_18_49 : FOk "CamelStraws$Guesses" 18 49 3 (.array .int) true := FOk.mk0 cq_4 (by decide) (by decide) (by decide) rfl (tb_in 311 (by decide +kernel) rfl) rfl rfl
theorem fo_CS_60_71 : FOk "CamelStraws" 60 71 7 (.object "CamelStraws$Guesses") true := FOk.mk0 cq_0 (by decide) (by decide) (by decide) rfl (tb_in 373 (by decide +kernel) rfl) rfl rfl
theorem wk_CS_202 : Cond.methodLink "CamelStraws" 202 y_Gu_append ∈ tb_l := (tb_in 677 (by decide +kernel) rfl)
theorem ok_Gu_append : MOk y_Gu_append b_Gu_append 4 (some .boolean) 3 := ⟨(tb_in 680 (by decide +kernel) rfl), (tb_in 77 (by decide +kernel) rfl), by decide +kernel, by decide +kernel, by decide +kernel⟩
theorem rc_49 : Rcv 49 "CamelStraws$Guesses" := ⟨by decide, by decide, _, rfl, rfl⟩
theorem wi_Gu_append : Cond.instanceMethod y_Gu_append ∈ tb_l := (tb_in 678 (by decide +kernel) rfl)
theorem wl_Gu_Gu_append : Cond.selects "CamelStraws$Guesses" y_Gu_append y_Gu_append ∈ tb_l := (tb_in 679 (by decide +kernel) rfl)
theorem fo_CS_205_49 : FOk "CamelStraws" 205 49 4 .int false := FOk.mk0 cq_4 (by decide) (by decide) (by decide) rfl (tb_in 313 (by decide +kernel) rfl) rfl rfl
theorem fo_Gu_24_49 : FOk "CamelStraws$Guesses" 24 49 0 (.object "CamelStraws$Caravan") true := FOk.mk0 cq_4 (by decide) (by decide) (by decide) rfl (tb_in 308 (by decide +kernel) rfl) rfl rfl
theorem fo_Gu_32_54 : FOk "CamelStraws$Guesses" 32 54 0 (.object "CamelStraws$Camels") true := FOk.mk0 cq_3 (by decide) (by decide) (by decide) rfl (tb_in 257 (by decide +kernel) rfl) rfl rfl
theorem fo_Gu_38_70 : FOk "CamelStraws$Guesses" 38 70 4 .int false := FOk.mk1 "CamelStraws$Camels" cq_2 (by decide) (by decide) (by decide) rfl (tb_in 125 (by decide +kernel) rfl) (tb_in 126 (by decide +kernel) rfl) rfl rfl
theorem wk_Gu_43 : Cond.methodLink "CamelStraws$Guesses" 43 y_Cv_march ∈ tb_l := (tb_in 697 (by decide +kernel) rfl)
theorem wk_Gu_47 : Cond.methodLink "CamelStraws$Guesses" 47 y_Wa_behind ∈ tb_l := (tb_in 698 (by decide +kernel) rfl)
theorem fo_Gu_53_54 : FOk "CamelStraws$Guesses" 53 54 2 (.object "CamelStraws$Straws") false := FOk.mk0 cq_3 (by decide) (by decide) (by decide) rfl (tb_in 262 (by decide +kernel) rfl) rfl rfl
theorem fo_Gu_57_60 : FOk "CamelStraws$Guesses" 57 60 2 .int false := FOk.mk0 cq_8 (by decide) (by decide) (by decide) rfl (tb_in 190 (by decide +kernel) rfl) rfl rfl
theorem fo_Gu_57_57 : FOk "CamelStraws$Guesses" 57 57 2 .int false := FOk.mk0 cq_8 (by decide) (by decide) (by decide) rfl (tb_in 190 (by decide +kernel) rfl) rfl rfl
theorem fo_Gu_57_s60_57 : ∀ a ∈ [60, 57], FOk "CamelStraws$Guesses" 57 a 2 .int false := fun a ha => me2 (P := fun a => FOk "CamelStraws$Guesses" 57 a 2 .int false) ha fo_Gu_57_60 fo_Gu_57_57
theorem fo_Gu_60_54 : FOk "CamelStraws$Guesses" 60 54 3 .int false := FOk.mk0 cq_3 (by decide) (by decide) (by decide) rfl (tb_in 267 (by decide +kernel) rfl) rfl rfl
theorem wk_Gu_63 : Cond.methodLink "CamelStraws$Guesses" 63 y_Gu_allComesOut ∈ tb_l := (tb_in 693 (by decide +kernel) rfl)
theorem ok_Gu_allComesOut : MOk y_Gu_allComesOut b_Gu_allComesOut 2 (some .boolean) 0 := ⟨(tb_in 696 (by decide +kernel) rfl), (tb_in 77 (by decide +kernel) rfl), by decide +kernel, by decide +kernel, by decide +kernel⟩
theorem wi_Gu_allComesOut : Cond.instanceMethod y_Gu_allComesOut ∈ tb_l := (tb_in 695 (by decide +kernel) rfl)
theorem wl_Gu_Gu_allComesOut : Cond.selects "CamelStraws$Guesses" y_Gu_allComesOut y_Gu_allComesOut ∈ tb_l := (tb_in 7 (by decide +kernel) rfl)
theorem wk_CS_206 : Cond.methodLink "CamelStraws" 206 y_Gu_strawsThatNeverWere ∈ tb_l := (tb_in 689 (by decide +kernel) rfl)
theorem ok_Gu_strawsThatNeverWere : MOk y_Gu_strawsThatNeverWere b_Gu_strawsThatNeverWere 3 (some .int) 0 := ⟨(tb_in 692 (by decide +kernel) rfl), (tb_in 77 (by decide +kernel) rfl), by decide +kernel, by decide +kernel, by decide +kernel⟩
theorem wi_Gu_strawsThatNeverWere : Cond.instanceMethod y_Gu_strawsThatNeverWere ∈ tb_l := (tb_in 690 (by decide +kernel) rfl)
theorem wl_Gu_Gu_strawsThatNeverWere : Cond.selects "CamelStraws$Guesses" y_Gu_strawsThatNeverWere y_Gu_strawsThatNeverWere ∈ tb_l := (tb_in 691 (by decide +kernel) rfl)
theorem al_s68_67 : ∀ a ∈ [68, 67], a < nc_c := by decide
theorem ak_s68_67 : ∀ a ∈ [68, 67], kd a = 20 := by decide
theorem an_s68_67 : ∀ a ∈ [68, 67], ln a = 8 := by decide
theorem wk_CS_209 : Cond.methodLink "CamelStraws" 209 y_Gu_valuesThatFit ∈ tb_l := (tb_in 703 (by decide +kernel) rfl)
theorem ok_Gu_valuesThatFit : MOk y_Gu_valuesThatFit b_Gu_valuesThatFit 8 (some .int) 4 := ⟨(tb_in 706 (by decide +kernel) rfl), (tb_in 77 (by decide +kernel) rfl), by decide +kernel, by decide +kernel, by decide +kernel⟩
theorem wi_Gu_valuesThatFit : Cond.instanceMethod y_Gu_valuesThatFit ∈ tb_l := (tb_in 704 (by decide +kernel) rfl)
theorem wl_Gu_Gu_valuesThatFit : Cond.selects "CamelStraws$Guesses" y_Gu_valuesThatFit y_Gu_valuesThatFit ∈ tb_l := (tb_in 705 (by decide +kernel) rfl)
theorem fo_Gu_74_70 : FOk "CamelStraws$Guesses" 74 70 6 (.array .int) true := FOk.mk0 cq_2 (by decide) (by decide) (by decide) rfl (tb_in 108 (by decide +kernel) rfl) rfl rfl
theorem fo_Gu_21_49 : FOk "CamelStraws$Guesses" 21 49 5 (.array .int) true := FOk.mk0 cq_4 (by decide) (by decide) (by decide) rfl (tb_in 314 (by decide +kernel) rfl) rfl rfl
theorem wk_Gu_77 : Cond.methodLink "CamelStraws$Guesses" 77 Lib.Math.max.name ∈ tb_l := (tb_in 723 (by decide +kernel) rfl)
theorem wm_max : Cond.static Lib.Math.max.name ∈ tb_l ∧ Cond.initialized "java/lang/Math" ∈ tb_l ∧ Cond.code Lib.Math.max.name Lib.Math.max.code 2 (some .int) ∈ tb_l := ⟨(tb_in 724 (by decide +kernel) rfl), (tb_in 83 (by decide +kernel) rfl), (tb_in 725 (by decide +kernel) rfl)⟩
theorem wk_Gu_67 : Cond.methodLink "CamelStraws$Guesses" 67 y_Gu_noteLoads ∈ tb_l := (tb_in 715 (by decide +kernel) rfl)
theorem ok_Gu_noteLoads : MOk y_Gu_noteLoads b_Gu_noteLoads 8 none 2 := ⟨(tb_in 718 (by decide +kernel) rfl), (tb_in 77 (by decide +kernel) rfl), by decide +kernel, by decide +kernel, by decide +kernel⟩
theorem wi_Gu_noteLoads : Cond.instanceMethod y_Gu_noteLoads ∈ tb_l := (tb_in 717 (by decide +kernel) rfl)
theorem wl_Gu_Gu_noteLoads : Cond.selects "CamelStraws$Guesses" y_Gu_noteLoads y_Gu_noteLoads ∈ tb_l := (tb_in 8 (by decide +kernel) rfl)
theorem wk_Gu_71 : Cond.methodLink "CamelStraws$Guesses" 71 y_Gu_mostAlike ∈ tb_l := (tb_in 719 (by decide +kernel) rfl)
theorem ok_Gu_mostAlike : MOk y_Gu_mostAlike b_Gu_mostAlike 8 (some .int) 2 := ⟨(tb_in 722 (by decide +kernel) rfl), (tb_in 77 (by decide +kernel) rfl), by decide +kernel, by decide +kernel, by decide +kernel⟩
theorem wi_Gu_mostAlike : Cond.instanceMethod y_Gu_mostAlike ∈ tb_l := (tb_in 721 (by decide +kernel) rfl)
theorem wl_Gu_Gu_mostAlike : Cond.selects "CamelStraws$Guesses" y_Gu_mostAlike y_Gu_mostAlike ∈ tb_l := (tb_in 9 (by decide +kernel) rfl)
theorem wk_CS_213 : Cond.methodLink "CamelStraws" 213 y_Gu_dayToLook ∈ tb_l := (tb_in 711 (by decide +kernel) rfl)
theorem ok_Gu_dayToLook : MOk y_Gu_dayToLook b_Gu_dayToLook 5 (some .int) 2 := ⟨(tb_in 714 (by decide +kernel) rfl), (tb_in 77 (by decide +kernel) rfl), by decide +kernel, by decide +kernel, by decide +kernel⟩
theorem wi_Gu_dayToLook : Cond.instanceMethod y_Gu_dayToLook ∈ tb_l := (tb_in 712 (by decide +kernel) rfl)
theorem wl_Gu_Gu_dayToLook : Cond.selects "CamelStraws$Guesses" y_Gu_dayToLook y_Gu_dayToLook ∈ tb_l := (tb_in 713 (by decide +kernel) rfl)
theorem fo_Od_9_44 : FOk "CamelStraws$Odds" 9 44 0 (.object "CamelStraws$Caravan") true := FOk.mk0 cq_5 (by decide) (by decide) (by decide) rfl (tb_in 334 (by decide +kernel) rfl) rfl rfl
theorem fo_Od_50_54 : FOk "CamelStraws$Odds" 50 54 3 .int false := FOk.mk0 cq_3 (by decide) (by decide) (by decide) rfl (tb_in 266 (by decide +kernel) rfl) rfl rfl
theorem wk_Od_54 : Cond.methodLink "CamelStraws$Odds" 54 y_Cv_march ∈ tb_l := (tb_in 743 (by decide +kernel) rfl)
theorem fo_Od_58_53 : FOk "CamelStraws$Odds" 58 53 11 .int false := FOk.mk0 cq_9 (by decide) (by decide) (by decide) rfl (tb_in 224 (by decide +kernel) rfl) rfl rfl
theorem fo_Od_44_44 : FOk "CamelStraws$Odds" 44 44 2 .long false := FOk.mk0 cq_5 (by decide) (by decide) (by decide) rfl (tb_in 337 (by decide +kernel) rfl) rfl rfl
theorem fo_Od_27_44 : FOk "CamelStraws$Odds" 27 44 1 .long false := FOk.mk0 cq_5 (by decide) (by decide) (by decide) rfl (tb_in 335 (by decide +kernel) rfl) rfl rfl
theorem kl_Od_63 : Cond.constantLong "CamelStraws$Odds" 63 2 ∈ tb_l := (tb_in 752 (by decide +kernel) rfl)
theorem fo_Od_15_54 : FOk "CamelStraws$Odds" 15 54 2 (.object "CamelStraws$Straws") false := FOk.mk0 cq_3 (by decide) (by decide) (by decide) rfl (tb_in 261 (by decide +kernel) rfl) rfl rfl
theorem wk_Od_21 : Cond.methodLink "CamelStraws$Odds" 21 y_St_onCamel ∈ tb_l := (tb_in 735 (by decide +kernel) rfl)
theorem ok_St_onCamel : MOk y_St_onCamel b_St_onCamel 4 (some .int) 1 := ⟨(tb_in 738 (by decide +kernel) rfl), (tb_in 73 (by decide +kernel) rfl), by decide +kernel, by decide +kernel, by decide +kernel⟩
theorem rc_57 : Rcv 57 "CamelStraws$Straws" := ⟨by decide, by decide, _, rfl, rfl⟩
theorem rc_s60_57 : ∀ a ∈ [60, 57], Rcv a "CamelStraws$Straws" := fun a ha => me2 (P := fun a => Rcv a "CamelStraws$Straws") ha rc_60 rc_57
theorem wi_St_onCamel : Cond.instanceMethod y_St_onCamel ∈ tb_l := (tb_in 736 (by decide +kernel) rfl)
theorem wl_St_St_onCamel : Cond.selects "CamelStraws$Straws" y_St_onCamel y_St_onCamel ∈ tb_l := (tb_in 737 (by decide +kernel) rfl)
theorem wk_Od_31 : Cond.methodLink "CamelStraws$Odds" 31 y_Od_breaksWithout ∈ tb_l := (tb_in 739 (by decide +kernel) rfl)
theorem ok_Od_breaksWithout : MOk y_Od_breaksWithout b_Od_breaksWithout 4 (some .boolean) 2 := ⟨(tb_in 742 (by decide +kernel) rfl), (tb_in 78 (by decide +kernel) rfl), by decide +kernel, by decide +kernel, by decide +kernel⟩
theorem rc_44 : Rcv 44 "CamelStraws$Odds" := ⟨by decide, by decide, _, rfl, rfl⟩
theorem wi_Od_breaksWithout : Cond.instanceMethod y_Od_breaksWithout ∈ tb_l := (tb_in 741 (by decide +kernel) rfl)
theorem wl_Od_Od_breaksWithout : Cond.selects "CamelStraws$Odds" y_Od_breaksWithout y_Od_breaksWithout ∈ tb_l := (tb_in 10 (by decide +kernel) rfl)
theorem wk_Od_35 : Cond.methodLink "CamelStraws$Odds" 35 y_In_bitCount ∈ tb_l := (tb_in 744 (by decide +kernel) rfl)
theorem wk_Od_40 : Cond.methodLink "CamelStraws$Odds" 40 y_Od_power ∈ tb_l := (tb_in 745 (by decide +kernel) rfl)
theorem ok_Od_power : MOk y_Od_power b_Od_power 5 (some .long) 2 := ⟨(tb_in 747 (by decide +kernel) rfl), (tb_in 78 (by decide +kernel) rfl), by decide +kernel, by decide +kernel, by decide +kernel⟩
theorem ws_Od_power : Cond.static y_Od_power ∈ tb_l := (tb_in 746 (by decide +kernel) rfl)
theorem wk_Od_47 : Cond.methodLink "CamelStraws$Odds" 47 y_Od_reduce ∈ tb_l := (tb_in 748 (by decide +kernel) rfl)
theorem ok_Od_reduce : MOk y_Od_reduce b_Od_reduce 2 none 0 := ⟨(tb_in 751 (by decide +kernel) rfl), (tb_in 78 (by decide +kernel) rfl), by decide +kernel, by decide +kernel, by decide +kernel⟩
theorem wi_Od_reduce : Cond.instanceMethod y_Od_reduce ∈ tb_l := (tb_in 750 (by decide +kernel) rfl)
theorem wl_Od_Od_reduce : Cond.selects "CamelStraws$Odds" y_Od_reduce y_Od_reduce ∈ tb_l := (tb_in 11 (by decide +kernel) rfl)
theorem kl_CS_216 : Cond.constantLong "CamelStraws" 216 (-9223372036854775806) ∈ tb_l := (tb_in 730 (by decide +kernel) rfl)
theorem fo_CS_67_71 : FOk "CamelStraws" 67 71 8 (.object "CamelStraws$Odds") true := FOk.mk0 cq_0 (by decide) (by decide) (by decide) rfl (tb_in 374 (by decide +kernel) rfl) rfl rfl
theorem wk_CS_218 : Cond.methodLink "CamelStraws" 218 y_Od_ofBreaking ∈ tb_l := (tb_in 731 (by decide +kernel) rfl)
theorem ok_Od_ofBreaking : MOk y_Od_ofBreaking b_Od_ofBreaking 6 none 2 := ⟨(tb_in 734 (by decide +kernel) rfl), (tb_in 78 (by decide +kernel) rfl), by decide +kernel, by decide +kernel, by decide +kernel⟩
theorem wi_Od_ofBreaking : Cond.instanceMethod y_Od_ofBreaking ∈ tb_l := (tb_in 732 (by decide +kernel) rfl)
theorem wl_Od_Od_ofBreaking : Cond.selects "CamelStraws$Odds" y_Od_ofBreaking y_Od_ofBreaking ∈ tb_l := (tb_in 733 (by decide +kernel) rfl)
theorem fo_CS_226_44 : FOk "CamelStraws" 226 44 2 .long false := FOk.mk0 cq_5 (by decide) (by decide) (by decide) rfl (tb_in 338 (by decide +kernel) rfl) rfl rfl
theorem fo_CS_222_44 : FOk "CamelStraws" 222 44 1 .long false := FOk.mk0 cq_5 (by decide) (by decide) (by decide) rfl (tb_in 336 (by decide +kernel) rfl) rfl rfl
theorem kc_St_30 : Cond.constant "CamelStraws$Straws" 30 1103515245 ∈ tb_l := (tb_in 764 (by decide +kernel) rfl)
theorem wk_St_22 : Cond.methodLink "CamelStraws$Straws" 22 y_St_nextSeed ∈ tb_l := (tb_in 761 (by decide +kernel) rfl)
theorem ok_St_nextSeed : MOk y_St_nextSeed b_St_nextSeed 1 (some .int) 1 := ⟨(tb_in 763 (by decide +kernel) rfl), (tb_in 73 (by decide +kernel) rfl), by decide +kernel, by decide +kernel, by decide +kernel⟩
theorem ws_St_nextSeed : Cond.static y_St_nextSeed ∈ tb_l := (tb_in 762 (by decide +kernel) rfl)
theorem wk_St_26 : Cond.methodLink "CamelStraws$Straws" 26 y_St_append ∈ tb_l := (tb_in 765 (by decide +kernel) rfl)
theorem fo_CS_36_71 : FOk "CamelStraws" 36 71 4 (.object "CamelStraws$Straws") true := FOk.mk0 cq_0 (by decide) (by decide) (by decide) rfl (tb_in 370 (by decide +kernel) rfl) rfl rfl
theorem wk_CS_231 : Cond.methodLink "CamelStraws" 231 y_St_draw ∈ tb_l := (tb_in 757 (by decide +kernel) rfl)
theorem ok_St_draw : MOk y_St_draw b_St_draw 7 none 3 := ⟨(tb_in 760 (by decide +kernel) rfl), (tb_in 73 (by decide +kernel) rfl), by decide +kernel, by decide +kernel, by decide +kernel⟩
theorem wi_St_draw : Cond.instanceMethod y_St_draw ∈ tb_l := (tb_in 758 (by decide +kernel) rfl)
theorem wl_St_St_draw : Cond.selects "CamelStraws$Straws" y_St_draw y_St_draw ∈ tb_l := (tb_in 759 (by decide +kernel) rfl)
theorem fo_CS_235_54 : FOk "CamelStraws" 235 54 2 (.object "CamelStraws$Straws") false := FOk.mk0 cq_3 (by decide) (by decide) (by decide) rfl (tb_in 264 (by decide +kernel) rfl) rfl rfl
theorem fo_Sh_19_42 : FOk "CamelStraws$Sheet" 19 42 2 .int false := FOk.mk0 cq_7 (by decide) (by decide) (by decide) rfl (tb_in 357 (by decide +kernel) rfl) rfl rfl
theorem fo_Sh_19_40 : FOk "CamelStraws$Sheet" 19 40 2 .int false := FOk.mk0 cq_7 (by decide) (by decide) (by decide) rfl (tb_in 357 (by decide +kernel) rfl) rfl rfl
theorem fo_Sh_19_38 : FOk "CamelStraws$Sheet" 19 38 2 .int false := FOk.mk0 cq_7 (by decide) (by decide) (by decide) rfl (tb_in 357 (by decide +kernel) rfl) rfl rfl
theorem fo_Sh_19_36 : FOk "CamelStraws$Sheet" 19 36 2 .int false := FOk.mk0 cq_7 (by decide) (by decide) (by decide) rfl (tb_in 357 (by decide +kernel) rfl) rfl rfl
theorem fo_Sh_19_s42_40_38_36 : ∀ a ∈ [42, 40, 38, 36], FOk "CamelStraws$Sheet" 19 a 2 .int false := fun a ha => me4 (P := fun a => FOk "CamelStraws$Sheet" 19 a 2 .int false) ha fo_Sh_19_42 fo_Sh_19_40 fo_Sh_19_38 fo_Sh_19_36
theorem fo_Sh_9_42 : FOk "CamelStraws$Sheet" 9 42 0 (.array .int) true := FOk.mk0 cq_7 (by decide) (by decide) (by decide) rfl (tb_in 353 (by decide +kernel) rfl) rfl rfl
theorem fo_Sh_9_40 : FOk "CamelStraws$Sheet" 9 40 0 (.array .int) true := FOk.mk0 cq_7 (by decide) (by decide) (by decide) rfl (tb_in 353 (by decide +kernel) rfl) rfl rfl
theorem fo_Sh_9_38 : FOk "CamelStraws$Sheet" 9 38 0 (.array .int) true := FOk.mk0 cq_7 (by decide) (by decide) (by decide) rfl (tb_in 353 (by decide +kernel) rfl) rfl rfl
theorem fo_Sh_9_36 : FOk "CamelStraws$Sheet" 9 36 0 (.array .int) true := FOk.mk0 cq_7 (by decide) (by decide) (by decide) rfl (tb_in 353 (by decide +kernel) rfl) rfl rfl
theorem fo_Sh_9_s42_40_38_36 : ∀ a ∈ [42, 40, 38, 36], FOk "CamelStraws$Sheet" 9 a 0 (.array .int) true := fun a ha => me4 (P := fun a => FOk "CamelStraws$Sheet" 9 a 0 (.array .int) true) ha fo_Sh_9_42 fo_Sh_9_40 fo_Sh_9_38 fo_Sh_9_36
theorem wk_Sh_22 : Cond.methodLink "CamelStraws$Sheet" 22 y_Ar_fill ∈ tb_l := (tb_in 777 (by decide +kernel) rfl)
theorem sb_s41_39_37_35_s51_41_39_37_35 : ∀ a ∈ [41, 39, 37, 35], a ∈ [51, 41, 39, 37, 35] := by decide
theorem wk_CS_236 : Cond.methodLink "CamelStraws" 236 y_CS_isForm ∈ tb_l := (tb_in 770 (by decide +kernel) rfl)
theorem ok_CS_isForm : MOk y_CS_isForm b_CS_isForm 1 (some .boolean) 1 := ⟨(tb_in 772 (by decide +kernel) rfl), (tb_in 69 (by decide +kernel) rfl), by decide +kernel, by decide +kernel, by decide +kernel⟩
theorem ws_CS_isForm : Cond.static y_CS_isForm ∈ tb_l := (tb_in 771 (by decide +kernel) rfl)
theorem wk_CS_239 : Cond.methodLink "CamelStraws" 239 y_Sh_renew ∈ tb_l := (tb_in 773 (by decide +kernel) rfl)
theorem ok_Sh_renew : MOk y_Sh_renew b_Sh_renew 3 none 2 := ⟨(tb_in 776 (by decide +kernel) rfl), (tb_in 79 (by decide +kernel) rfl), by decide +kernel, by decide +kernel, by decide +kernel⟩
theorem wi_Sh_renew : Cond.instanceMethod y_Sh_renew ∈ tb_l := (tb_in 774 (by decide +kernel) rfl)
theorem wl_Sh_Sh_renew : Cond.selects "CamelStraws$Sheet" y_Sh_renew y_Sh_renew ∈ tb_l := (tb_in 775 (by decide +kernel) rfl)
theorem wk_Sh_28 : Cond.methodLink "CamelStraws$Sheet" 28 y_Sh_isLost ∈ tb_l := (tb_in 790 (by decide +kernel) rfl)
theorem wk_Sh_32 : Cond.methodLink "CamelStraws$Sheet" 32 y_Sh_hasItems ∈ tb_l := (tb_in 791 (by decide +kernel) rfl)
theorem ok_Sh_hasItems : MOk y_Sh_hasItems b_Sh_hasItems 3 (some .boolean) 2 := ⟨(tb_in 794 (by decide +kernel) rfl), (tb_in 79 (by decide +kernel) rfl), by decide +kernel, by decide +kernel, by decide +kernel⟩
theorem wi_Sh_hasItems : Cond.instanceMethod y_Sh_hasItems ∈ tb_l := (tb_in 792 (by decide +kernel) rfl)
theorem wl_Sh_Sh_hasItems : Cond.selects "CamelStraws$Sheet" y_Sh_hasItems y_Sh_hasItems ∈ tb_l := (tb_in 793 (by decide +kernel) rfl)
theorem wk_CS_242 : Cond.methodLink "CamelStraws" 242 y_Sh_whatForbids ∈ tb_l := (tb_in 786 (by decide +kernel) rfl)
theorem ok_Sh_whatForbids : MOk y_Sh_whatForbids b_Sh_whatForbids 3 (some .int) 2 := ⟨(tb_in 789 (by decide +kernel) rfl), (tb_in 79 (by decide +kernel) rfl), by decide +kernel, by decide +kernel, by decide +kernel⟩
theorem wi_Sh_whatForbids : Cond.instanceMethod y_Sh_whatForbids ∈ tb_l := (tb_in 787 (by decide +kernel) rfl)
theorem wl_Sh_Sh_whatForbids : Cond.selects "CamelStraws$Sheet" y_Sh_whatForbids y_Sh_whatForbids ∈ tb_l := (tb_in 788 (by decide +kernel) rfl)
theorem wk_CS_245 : Cond.methodLink "CamelStraws" 245 y_CS_lowestBits ∈ tb_l := (tb_in 795 (by decide +kernel) rfl)
theorem ok_CS_lowestBits : MOk y_CS_lowestBits b_CS_lowestBits 2 (some .int) 2 := ⟨(tb_in 797 (by decide +kernel) rfl), (tb_in 69 (by decide +kernel) rfl), by decide +kernel, by decide +kernel, by decide +kernel⟩
theorem ws_CS_lowestBits : Cond.static y_CS_lowestBits ∈ tb_l := (tb_in 796 (by decide +kernel) rfl)
theorem kc_CS_248 : Cond.constant "CamelStraws" 248 (-2147483648) ∈ tb_l := (tb_in 802 (by decide +kernel) rfl)
theorem fo_CS_252_42 : FOk "CamelStraws" 252 42 1 .int false := FOk.mk0 cq_7 (by decide) (by decide) (by decide) rfl (tb_in 356 (by decide +kernel) rfl) rfl rfl
theorem fo_CS_252_40 : FOk "CamelStraws" 252 40 1 .int false := FOk.mk0 cq_7 (by decide) (by decide) (by decide) rfl (tb_in 356 (by decide +kernel) rfl) rfl rfl
theorem fo_CS_252_38 : FOk "CamelStraws" 252 38 1 .int false := FOk.mk0 cq_7 (by decide) (by decide) (by decide) rfl (tb_in 356 (by decide +kernel) rfl) rfl rfl
theorem fo_CS_252_36 : FOk "CamelStraws" 252 36 1 .int false := FOk.mk0 cq_7 (by decide) (by decide) (by decide) rfl (tb_in 356 (by decide +kernel) rfl) rfl rfl
theorem fo_CS_252_s42_40_38_36 : ∀ a ∈ [42, 40, 38, 36], FOk "CamelStraws" 252 a 1 .int false := fun a ha => me4 (P := fun a => FOk "CamelStraws" 252 a 1 .int false) ha fo_CS_252_42 fo_CS_252_40 fo_CS_252_38 fo_CS_252_36
theorem wk_CS_255 : Cond.methodLink "CamelStraws" 255 y_Sh_hasItems ∈ tb_l := (tb_in 807 (by decide +kernel) rfl)
theorem wk_CS_258 : Cond.methodLink "CamelStraws" 258 arraycopyName ∈ tb_l := (tb_in 808 (by decide +kernel) rfl)
theorem wn_copy : Cond.native arraycopyName ∈ tb_l ∧ Cond.static arraycopyName ∈ tb_l ∧ Cond.initialized "java/lang/System" ∈ tb_l := ⟨(tb_in 810 (by decide +kernel) rfl), (tb_in 809 (by decide +kernel) rfl), (tb_in 84 (by decide +kernel) rfl)⟩
theorem wk_CS_264 : Cond.methodLink "CamelStraws" 264 Lib.Math.min.name ∈ tb_l := (tb_in 815 (by decide +kernel) rfl)
theorem wm_min : Cond.static Lib.Math.min.name ∈ tb_l ∧ Cond.initialized "java/lang/Math" ∈ tb_l ∧ Cond.code Lib.Math.min.name Lib.Math.min.code 2 (some .int) ∈ tb_l := ⟨(tb_in 816 (by decide +kernel) rfl), (tb_in 83 (by decide +kernel) rfl), (tb_in 817 (by decide +kernel) rfl)⟩
theorem fo_CS_270_70 : FOk "CamelStraws" 270 70 2 .int false := FOk.mk1 "CamelStraws$Camels" cq_2 (by decide) (by decide) (by decide) rfl (tb_in 117 (by decide +kernel) rfl) (tb_in 118 (by decide +kernel) rfl) rfl rfl
theorem fo_CS_271_66 : FOk "CamelStraws" 271 66 2 .int false := FOk.mk1 "CamelStraws$Bales" cq_1 (by decide) (by decide) (by decide) rfl (tb_in 119 (by decide +kernel) rfl) (tb_in 120 (by decide +kernel) rfl) rfl rfl
theorem kl_CS_351 : Cond.constantLong "CamelStraws" 351 31 ∈ tb_l := (tb_in 831 (by decide +kernel) rfl)
theorem wk_CS_319 : Cond.methodLink "CamelStraws" 319 y_CS_bale ∈ tb_l := (tb_in 837 (by decide +kernel) rfl)
theorem ok_CS_bale : MOk y_CS_bale b_CS_bale 3 (some .int) 2 := ⟨(tb_in 475 (by decide +kernel) rfl), (tb_in 69 (by decide +kernel) rfl), by decide +kernel, by decide +kernel, by decide +kernel⟩
theorem wi_CS_bale : Cond.instanceMethod y_CS_bale ∈ tb_l := (tb_in 473 (by decide +kernel) rfl)
theorem wl_CS_CS_bale : Cond.selects "CamelStraws" y_CS_bale y_CS_bale ∈ tb_l := (tb_in 474 (by decide +kernel) rfl)
theorem wk_CS_277 : Cond.methodLink "CamelStraws" 277 y_CS_mix ∈ tb_l := (tb_in 828 (by decide +kernel) rfl)
theorem ok_CS_mix : MOk y_CS_mix b_CS_mix 4 (some .long) 2 := ⟨(tb_in 830 (by decide +kernel) rfl), (tb_in 69 (by decide +kernel) rfl), by decide +kernel, by decide +kernel, by decide +kernel⟩
theorem ws_CS_mix : Cond.static y_CS_mix ∈ tb_l := (tb_in 829 (by decide +kernel) rfl)
theorem wk_CS_322 : Cond.methodLink "CamelStraws" 322 y_CS_bear ∈ tb_l := (tb_in 838 (by decide +kernel) rfl)
theorem ok_CS_bear : MOk y_CS_bear b_CS_bear 3 (some .int) 2 := ⟨(tb_in 627 (by decide +kernel) rfl), (tb_in 69 (by decide +kernel) rfl), by decide +kernel, by decide +kernel, by decide +kernel⟩
theorem wi_CS_bear : Cond.instanceMethod y_CS_bear ∈ tb_l := (tb_in 625 (by decide +kernel) rfl)
theorem wl_CS_CS_bear : Cond.selects "CamelStraws" y_CS_bear y_CS_bear ∈ tb_l := (tb_in 626 (by decide +kernel) rfl)
theorem wk_CS_325 : Cond.methodLink "CamelStraws" 325 y_CS_when ∈ tb_l := (tb_in 839 (by decide +kernel) rfl)
theorem ok_CS_when : MOk y_CS_when b_CS_when 3 (some .int) 2 := ⟨(tb_in 645 (by decide +kernel) rfl), (tb_in 69 (by decide +kernel) rfl), by decide +kernel, by decide +kernel, by decide +kernel⟩
theorem wi_CS_when : Cond.instanceMethod y_CS_when ∈ tb_l := (tb_in 643 (by decide +kernel) rfl)
theorem wl_CS_CS_when : Cond.selects "CamelStraws" y_CS_when y_CS_when ∈ tb_l := (tb_in 644 (by decide +kernel) rfl)
theorem wk_CS_348 : Cond.methodLink "CamelStraws" 348 y_CS_at ∈ tb_l := (tb_in 849 (by decide +kernel) rfl)
theorem ok_CS_at : MOk y_CS_at b_CS_at 4 (some .int) 3 := ⟨(tb_in 517 (by decide +kernel) rfl), (tb_in 69 (by decide +kernel) rfl), by decide +kernel, by decide +kernel, by decide +kernel⟩
theorem wi_CS_at : Cond.instanceMethod y_CS_at ∈ tb_l := (tb_in 515 (by decide +kernel) rfl)
theorem wl_CS_CS_at : Cond.selects "CamelStraws" y_CS_at y_CS_at ∈ tb_l := (tb_in 516 (by decide +kernel) rfl)
theorem wk_CS_328 : Cond.methodLink "CamelStraws" 328 y_CS_camel ∈ tb_l := (tb_in 844 (by decide +kernel) rfl)
theorem ok_CS_camel : MOk y_CS_camel b_CS_camel 3 (some .int) 2 := ⟨(tb_in 464 (by decide +kernel) rfl), (tb_in 69 (by decide +kernel) rfl), by decide +kernel, by decide +kernel, by decide +kernel⟩
theorem wi_CS_camel : Cond.instanceMethod y_CS_camel ∈ tb_l := (tb_in 462 (by decide +kernel) rfl)
theorem wl_CS_CS_camel : Cond.selects "CamelStraws" y_CS_camel y_CS_camel ∈ tb_l := (tb_in 463 (by decide +kernel) rfl)
theorem wk_CS_331 : Cond.methodLink "CamelStraws" 331 y_CS_mixDay ∈ tb_l := (tb_in 845 (by decide +kernel) rfl)
theorem ok_CS_mixDay : MOk y_CS_mixDay b_CS_mixDay 8 (some .long) 3 := ⟨(tb_in 848 (by decide +kernel) rfl), (tb_in 69 (by decide +kernel) rfl), by decide +kernel, by decide +kernel, by decide +kernel⟩
theorem wi_CS_mixDay : Cond.instanceMethod y_CS_mixDay ∈ tb_l := (tb_in 847 (by decide +kernel) rfl)
theorem wl_CS_CS_mixDay : Cond.selects "CamelStraws" y_CS_mixDay y_CS_mixDay ∈ tb_l := (tb_in 14 (by decide +kernel) rfl)
theorem wk_CS_335 : Cond.methodLink "CamelStraws" 335 y_CS_last ∈ tb_l := (tb_in 850 (by decide +kernel) rfl)
theorem ok_CS_last : MOk y_CS_last b_CS_last 4 (some .int) 2 := ⟨(tb_in 623 (by decide +kernel) rfl), (tb_in 69 (by decide +kernel) rfl), by decide +kernel, by decide +kernel, by decide +kernel⟩
theorem wi_CS_last : Cond.instanceMethod y_CS_last ∈ tb_l := (tb_in 621 (by decide +kernel) rfl)
theorem wl_CS_CS_last : Cond.selects "CamelStraws" y_CS_last y_CS_last ∈ tb_l := (tb_in 622 (by decide +kernel) rfl)
theorem wk_CS_338 : Cond.methodLink "CamelStraws" 338 y_CS_was ∈ tb_l := (tb_in 851 (by decide +kernel) rfl)
theorem ok_CS_was : MOk y_CS_was b_CS_was 3 (some .int) 2 := ⟨(tb_in 702 (by decide +kernel) rfl), (tb_in 69 (by decide +kernel) rfl), by decide +kernel, by decide +kernel, by decide +kernel⟩
theorem wi_CS_was : Cond.instanceMethod y_CS_was ∈ tb_l := (tb_in 700 (by decide +kernel) rfl)
theorem wl_CS_CS_was : Cond.selects "CamelStraws" y_CS_was y_CS_was ∈ tb_l := (tb_in 701 (by decide +kernel) rfl)
theorem wk_CS_341 : Cond.methodLink "CamelStraws" 341 y_CS_ask ∈ tb_l := (tb_in 852 (by decide +kernel) rfl)
theorem ok_CS_ask : MOk y_CS_ask b_CS_ask 3 (some .int) 1 := ⟨(tb_in 710 (by decide +kernel) rfl), (tb_in 69 (by decide +kernel) rfl), by decide +kernel, by decide +kernel, by decide +kernel⟩
theorem wi_CS_ask : Cond.instanceMethod y_CS_ask ∈ tb_l := (tb_in 708 (by decide +kernel) rfl)
theorem wl_CS_CS_ask : Cond.selects "CamelStraws" y_CS_ask y_CS_ask ∈ tb_l := (tb_in 709 (by decide +kernel) rfl)
theorem wk_CS_344 : Cond.methodLink "CamelStraws" 344 y_CS_chance ∈ tb_l := (tb_in 853 (by decide +kernel) rfl)
theorem ok_CS_chance : MOk y_CS_chance b_CS_chance 4 (some .long) 3 := ⟨(tb_in 729 (by decide +kernel) rfl), (tb_in 69 (by decide +kernel) rfl), by decide +kernel, by decide +kernel, by decide +kernel⟩
theorem wi_CS_chance : Cond.instanceMethod y_CS_chance ∈ tb_l := (tb_in 727 (by decide +kernel) rfl)
theorem wl_CS_CS_chance : Cond.selects "CamelStraws" y_CS_chance y_CS_chance ∈ tb_l := (tb_in 728 (by decide +kernel) rfl)
theorem kl_CS_272 : Cond.constantLong "CamelStraws" 272 17 ∈ tb_l := (tb_in 826 (by decide +kernel) rfl)
theorem wk_CS_274 : Cond.methodLink "CamelStraws" 274 y_CS_count ∈ tb_l := (tb_in 827 (by decide +kernel) rfl)
theorem ok_CS_count : MOk y_CS_count b_CS_count 2 (some .int) 1 := ⟨(tb_in 821 (by decide +kernel) rfl), (tb_in 69 (by decide +kernel) rfl), by decide +kernel, by decide +kernel, by decide +kernel⟩
theorem wi_CS_count : Cond.instanceMethod y_CS_count ∈ tb_l := (tb_in 819 (by decide +kernel) rfl)
theorem wl_CS_CS_count : Cond.selects "CamelStraws" y_CS_count y_CS_count ∈ tb_l := (tb_in 820 (by decide +kernel) rfl)
theorem wk_CS_281 : Cond.methodLink "CamelStraws" 281 y_CS_fault ∈ tb_l := (tb_in 832 (by decide +kernel) rfl)
theorem ok_CS_fault : MOk y_CS_fault b_CS_fault 2 (some .int) 1 := ⟨(tb_in 460 (by decide +kernel) rfl), (tb_in 69 (by decide +kernel) rfl), by decide +kernel, by decide +kernel, by decide +kernel⟩
theorem wi_CS_fault : Cond.instanceMethod y_CS_fault ∈ tb_l := (tb_in 458 (by decide +kernel) rfl)
theorem wl_CS_CS_fault : Cond.selects "CamelStraws" y_CS_fault y_CS_fault ∈ tb_l := (tb_in 459 (by decide +kernel) rfl)
theorem wk_CS_284 : Cond.methodLink "CamelStraws" 284 y_CS_mixBale ∈ tb_l := (tb_in 833 (by decide +kernel) rfl)
theorem ok_CS_mixBale : MOk y_CS_mixBale b_CS_mixBale 7 (some .long) 2 := ⟨(tb_in 836 (by decide +kernel) rfl), (tb_in 69 (by decide +kernel) rfl), by decide +kernel, by decide +kernel, by decide +kernel⟩
theorem wi_CS_mixBale : Cond.instanceMethod y_CS_mixBale ∈ tb_l := (tb_in 835 (by decide +kernel) rfl)
theorem wl_CS_CS_mixBale : Cond.selects "CamelStraws" y_CS_mixBale y_CS_mixBale ∈ tb_l := (tb_in 12 (by decide +kernel) rfl)
theorem wk_CS_288 : Cond.methodLink "CamelStraws" 288 y_CS_mixCamel ∈ tb_l := (tb_in 840 (by decide +kernel) rfl)
theorem ok_CS_mixCamel : MOk y_CS_mixCamel b_CS_mixCamel 6 (some .long) 2 := ⟨(tb_in 843 (by decide +kernel) rfl), (tb_in 69 (by decide +kernel) rfl), by decide +kernel, by decide +kernel, by decide +kernel⟩
theorem wi_CS_mixCamel : Cond.instanceMethod y_CS_mixCamel ∈ tb_l := (tb_in 842 (by decide +kernel) rfl)
theorem wl_CS_CS_mixCamel : Cond.selects "CamelStraws" y_CS_mixCamel y_CS_mixCamel ∈ tb_l := (tb_in 13 (by decide +kernel) rfl)
theorem wk_CS_291 : Cond.methodLink "CamelStraws" 291 y_CS_through ∈ tb_l := (tb_in 854 (by decide +kernel) rfl)
theorem ok_CS_through : MOk y_CS_through b_CS_through 1 (some .int) 0 := ⟨(tb_in 570 (by decide +kernel) rfl), (tb_in 69 (by decide +kernel) rfl), by decide +kernel, by decide +kernel, by decide +kernel⟩
theorem wi_CS_through : Cond.instanceMethod y_CS_through ∈ tb_l := (tb_in 568 (by decide +kernel) rfl)
theorem wl_CS_CS_through : Cond.selects "CamelStraws" y_CS_through y_CS_through ∈ tb_l := (tb_in 569 (by decide +kernel) rfl)
theorem wk_CS_294 : Cond.methodLink "CamelStraws" 294 y_CS_lost ∈ tb_l := (tb_in 855 (by decide +kernel) rfl)
theorem ok_CS_lost : MOk y_CS_lost b_CS_lost 1 (some .int) 0 := ⟨(tb_in 580 (by decide +kernel) rfl), (tb_in 69 (by decide +kernel) rfl), by decide +kernel, by decide +kernel, by decide +kernel⟩
theorem wi_CS_lost : Cond.instanceMethod y_CS_lost ∈ tb_l := (tb_in 578 (by decide +kernel) rfl)
theorem wl_CS_CS_lost : Cond.selects "CamelStraws" y_CS_lost y_CS_lost ∈ tb_l := (tb_in 579 (by decide +kernel) rfl)
theorem wk_CS_297 : Cond.methodLink "CamelStraws" 297 y_CS_first ∈ tb_l := (tb_in 856 (by decide +kernel) rfl)
theorem ok_CS_first : MOk y_CS_first b_CS_first 3 (some .int) 1 := ⟨(tb_in 584 (by decide +kernel) rfl), (tb_in 69 (by decide +kernel) rfl), by decide +kernel, by decide +kernel, by decide +kernel⟩
theorem wi_CS_first : Cond.instanceMethod y_CS_first ∈ tb_l := (tb_in 582 (by decide +kernel) rfl)
theorem wl_CS_CS_first : Cond.selects "CamelStraws" y_CS_first y_CS_first ∈ tb_l := (tb_in 583 (by decide +kernel) rfl)
theorem wk_CS_300 : Cond.methodLink "CamelStraws" 300 y_CS_best ∈ tb_l := (tb_in 857 (by decide +kernel) rfl)
theorem ok_CS_best : MOk y_CS_best b_CS_best 1 (some .int) 0 := ⟨(tb_in 592 (by decide +kernel) rfl), (tb_in 69 (by decide +kernel) rfl), by decide +kernel, by decide +kernel, by decide +kernel⟩
theorem wi_CS_best : Cond.instanceMethod y_CS_best ∈ tb_l := (tb_in 590 (by decide +kernel) rfl)
theorem wl_CS_CS_best : Cond.selects "CamelStraws" y_CS_best y_CS_best ∈ tb_l := (tb_in 591 (by decide +kernel) rfl)
theorem wk_CS_303 : Cond.methodLink "CamelStraws" 303 y_CS_whole ∈ tb_l := (tb_in 858 (by decide +kernel) rfl)
theorem ok_CS_whole : MOk y_CS_whole b_CS_whole 1 (some .int) 0 := ⟨(tb_in 604 (by decide +kernel) rfl), (tb_in 69 (by decide +kernel) rfl), by decide +kernel, by decide +kernel, by decide +kernel⟩
theorem wi_CS_whole : Cond.instanceMethod y_CS_whole ∈ tb_l := (tb_in 602 (by decide +kernel) rfl)
theorem wl_CS_CS_whole : Cond.selects "CamelStraws" y_CS_whole y_CS_whole ∈ tb_l := (tb_in 603 (by decide +kernel) rfl)
theorem wk_CS_306 : Cond.methodLink "CamelStraws" 306 y_CS_tired ∈ tb_l := (tb_in 859 (by decide +kernel) rfl)
theorem ok_CS_tired : MOk y_CS_tired b_CS_tired 1 (some .int) 0 := ⟨(tb_in 612 (by decide +kernel) rfl), (tb_in 69 (by decide +kernel) rfl), by decide +kernel, by decide +kernel, by decide +kernel⟩
theorem wi_CS_tired : Cond.instanceMethod y_CS_tired ∈ tb_l := (tb_in 610 (by decide +kernel) rfl)
theorem wl_CS_CS_tired : Cond.selects "CamelStraws" y_CS_tired y_CS_tired ∈ tb_l := (tb_in 611 (by decide +kernel) rfl)
theorem wk_CS_309 : Cond.methodLink "CamelStraws" 309 y_CS_spare ∈ tb_l := (tb_in 860 (by decide +kernel) rfl)
theorem ok_CS_spare : MOk y_CS_spare b_CS_spare 4 (some .int) 1 := ⟨(tb_in 653 (by decide +kernel) rfl), (tb_in 69 (by decide +kernel) rfl), by decide +kernel, by decide +kernel, by decide +kernel⟩
theorem wi_CS_spare : Cond.instanceMethod y_CS_spare ∈ tb_l := (tb_in 651 (by decide +kernel) rfl)
theorem wl_CS_CS_spare : Cond.selects "CamelStraws" y_CS_spare y_CS_spare ∈ tb_l := (tb_in 652 (by decide +kernel) rfl)
theorem wk_CS_312 : Cond.methodLink "CamelStraws" 312 y_CS_never ∈ tb_l := (tb_in 861 (by decide +kernel) rfl)
theorem ok_CS_never : MOk y_CS_never b_CS_never 1 (some .int) 0 := ⟨(tb_in 688 (by decide +kernel) rfl), (tb_in 69 (by decide +kernel) rfl), by decide +kernel, by decide +kernel, by decide +kernel⟩
theorem wi_CS_never : Cond.instanceMethod y_CS_never ∈ tb_l := (tb_in 686 (by decide +kernel) rfl)
theorem wl_CS_CS_never : Cond.selects "CamelStraws" y_CS_never y_CS_never ∈ tb_l := (tb_in 687 (by decide +kernel) rfl)
theorem wk_CS_315 : Cond.methodLink "CamelStraws" 315 y_CS_years ∈ tb_l := (tb_in 862 (by decide +kernel) rfl)
theorem ok_CS_years : MOk y_CS_years b_CS_years 5 (some .int) 3 := ⟨(tb_in 756 (by decide +kernel) rfl), (tb_in 69 (by decide +kernel) rfl), by decide +kernel, by decide +kernel, by decide +kernel⟩
theorem wi_CS_years : Cond.instanceMethod y_CS_years ∈ tb_l := (tb_in 754 (by decide +kernel) rfl)
theorem wl_CS_CS_years : Cond.selects "CamelStraws" y_CS_years y_CS_years ∈ tb_l := (tb_in 755 (by decide +kernel) rfl)
theorem wk_Mo_115 : Cond.methodLink "CamelStrawsModel" 115 y_Mo_in ∈ tb_l := (tb_in 1013 (by decide +kernel) rfl)
theorem ok_Mo_in : MOk y_Mo_in b_Mo_in 3 (some .boolean) 3 := ⟨(tb_in 1015 (by decide +kernel) rfl), (tb_in 80 (by decide +kernel) rfl), by decide +kernel, by decide +kernel, by decide +kernel⟩
theorem ws_Mo_in : Cond.static y_Mo_in ∈ tb_l := (tb_in 1014 (by decide +kernel) rfl)
theorem wk_Mo_119 : Cond.methodLink "CamelStrawsModel" 119 y_Mo_isText ∈ tb_l := (tb_in 1010 (by decide +kernel) rfl)
theorem ok_Mo_isText : MOk y_Mo_isText b_Mo_isText 1 (some .boolean) 1 := ⟨(tb_in 1012 (by decide +kernel) rfl), (tb_in 80 (by decide +kernel) rfl), by decide +kernel, by decide +kernel, by decide +kernel⟩
theorem ws_Mo_isText : Cond.static y_Mo_isText ∈ tb_l := (tb_in 1011 (by decide +kernel) rfl)
theorem fo_Mo_7_34 : FOk "CamelStrawsModel" 7 34 0 (.array .int) true := FOk.mk0 cq_10 (by decide) (by decide) (by decide) rfl (tb_in 869 (by decide +kernel) rfl) rfl rfl
theorem fo_Mo_13_34 : FOk "CamelStrawsModel" 13 34 1 (.array .int) true := FOk.mk0 cq_10 (by decide) (by decide) (by decide) rfl (tb_in 870 (by decide +kernel) rfl) rfl rfl
theorem wk_Mo_123 : Cond.methodLink "CamelStrawsModel" 123 y_Mo_byteAt ∈ tb_l := (tb_in 1040 (by decide +kernel) rfl)
theorem ok_Mo_byteAt : MOk y_Mo_byteAt b_Mo_byteAt 3 (some .int) 2 := ⟨(tb_in 1043 (by decide +kernel) rfl), (tb_in 80 (by decide +kernel) rfl), by decide +kernel, by decide +kernel, by decide +kernel⟩
theorem rc_34 : Rcv 34 "CamelStrawsModel" := ⟨by decide, by decide, _, rfl, rfl⟩
theorem wi_Mo_byteAt : Cond.instanceMethod y_Mo_byteAt ∈ tb_l := (tb_in 1042 (by decide +kernel) rfl)
theorem wl_Mo_Mo_byteAt : Cond.selects "CamelStrawsModel" y_Mo_byteAt y_Mo_byteAt ∈ tb_l := (tb_in 18 (by decide +kernel) rfl)
theorem fo_Mo_16_34 : FOk "CamelStrawsModel" 16 34 3 (.array .int) true := FOk.mk0 cq_10 (by decide) (by decide) (by decide) rfl (tb_in 872 (by decide +kernel) rfl) rfl rfl
theorem fo_Mo_19_34 : FOk "CamelStrawsModel" 19 34 4 (.array .int) true := FOk.mk0 cq_10 (by decide) (by decide) (by decide) rfl (tb_in 873 (by decide +kernel) rfl) rfl rfl
theorem fo_Mo_22_34 : FOk "CamelStrawsModel" 22 34 6 (.array .int) true := FOk.mk0 cq_10 (by decide) (by decide) (by decide) rfl (tb_in 875 (by decide +kernel) rfl) rfl rfl
theorem fo_Mo_25_34 : FOk "CamelStrawsModel" 25 34 7 (.array .int) true := FOk.mk0 cq_10 (by decide) (by decide) (by decide) rfl (tb_in 876 (by decide +kernel) rfl) rfl rfl
theorem fo_Mo_28_34 : FOk "CamelStrawsModel" 28 34 8 (.array .int) true := FOk.mk0 cq_10 (by decide) (by decide) (by decide) rfl (tb_in 877 (by decide +kernel) rfl) rfl rfl
theorem fo_Mo_127_34 : FOk "CamelStrawsModel" 127 34 2 .int false := FOk.mk0 cq_10 (by decide) (by decide) (by decide) rfl (tb_in 871 (by decide +kernel) rfl) rfl rfl
theorem fo_Mo_131_34 : FOk "CamelStrawsModel" 131 34 5 .int false := FOk.mk0 cq_10 (by decide) (by decide) (by decide) rfl (tb_in 874 (by decide +kernel) rfl) rfl rfl
theorem wk_Mo_137 : Cond.methodLink "CamelStrawsModel" 137 y_Mo_readsBale ∈ tb_l := (tb_in 1044 (by decide +kernel) rfl)
theorem ok_Mo_readsBale : MOk y_Mo_readsBale b_Mo_readsBale 6 (some .int) 2 := ⟨(tb_in 1047 (by decide +kernel) rfl), (tb_in 80 (by decide +kernel) rfl), by decide +kernel, by decide +kernel, by decide +kernel⟩
theorem wi_Mo_readsBale : Cond.instanceMethod y_Mo_readsBale ∈ tb_l := (tb_in 1046 (by decide +kernel) rfl)
theorem wl_Mo_Mo_readsBale : Cond.selects "CamelStrawsModel" y_Mo_readsBale y_Mo_readsBale ∈ tb_l := (tb_in 19 (by decide +kernel) rfl)
theorem wk_Mo_134 : Cond.methodLink "CamelStrawsModel" 134 y_Mo_readsCamel ∈ tb_l := (tb_in 1036 (by decide +kernel) rfl)
theorem ok_Mo_readsCamel : MOk y_Mo_readsCamel b_Mo_readsCamel 6 (some .int) 2 := ⟨(tb_in 1039 (by decide +kernel) rfl), (tb_in 80 (by decide +kernel) rfl), by decide +kernel, by decide +kernel, by decide +kernel⟩
theorem wi_Mo_readsCamel : Cond.instanceMethod y_Mo_readsCamel ∈ tb_l := (tb_in 1038 (by decide +kernel) rfl)
theorem wl_Mo_Mo_readsCamel : Cond.selects "CamelStrawsModel" y_Mo_readsCamel y_Mo_readsCamel ∈ tb_l := (tb_in 17 (by decide +kernel) rfl)
theorem wk_Mo_140 : Cond.methodLink "CamelStrawsModel" 140 y_Mo_readsParts ∈ tb_l := (tb_in 1032 (by decide +kernel) rfl)
theorem ok_Mo_readsParts : MOk y_Mo_readsParts b_Mo_readsParts 6 (some .int) 1 := ⟨(tb_in 1035 (by decide +kernel) rfl), (tb_in 80 (by decide +kernel) rfl), by decide +kernel, by decide +kernel, by decide +kernel⟩
theorem wi_Mo_readsParts : Cond.instanceMethod y_Mo_readsParts ∈ tb_l := (tb_in 1034 (by decide +kernel) rfl)
theorem wl_Mo_Mo_readsParts : Cond.selects "CamelStrawsModel" y_Mo_readsParts y_Mo_readsParts ∈ tb_l := (tb_in 16 (by decide +kernel) rfl)
theorem wk_Mo_144 : Cond.methodLink "CamelStrawsModel" 144 y_Mo_faultOf ∈ tb_l := (tb_in 1028 (by decide +kernel) rfl)
theorem ok_Mo_faultOf : MOk y_Mo_faultOf b_Mo_faultOf 4 (some .int) 1 := ⟨(tb_in 1031 (by decide +kernel) rfl), (tb_in 80 (by decide +kernel) rfl), by decide +kernel, by decide +kernel, by decide +kernel⟩
theorem wi_Mo_faultOf : Cond.instanceMethod y_Mo_faultOf ∈ tb_l := (tb_in 1030 (by decide +kernel) rfl)
theorem wl_Mo_Mo_faultOf : Cond.selects "CamelStrawsModel" y_Mo_faultOf y_Mo_faultOf ∈ tb_l := (tb_in 15 (by decide +kernel) rfl)
theorem wk_Mo_147 : Cond.methodLink "CamelStrawsModel" 147 y_Mo_reads ∈ tb_l := (tb_in 1056 (by decide +kernel) rfl)
theorem ok_Mo_reads : MOk y_Mo_reads b_Mo_reads 2 none 0 := ⟨(tb_in 1059 (by decide +kernel) rfl), (tb_in 80 (by decide +kernel) rfl), by decide +kernel, by decide +kernel, by decide +kernel⟩
theorem wi_Mo_reads : Cond.instanceMethod y_Mo_reads ∈ tb_l := (tb_in 1058 (by decide +kernel) rfl)
theorem wl_Mo_Mo_reads : Cond.selects "CamelStrawsModel" y_Mo_reads y_Mo_reads ∈ tb_l := (tb_in 21 (by decide +kernel) rfl)
theorem wk_Mo_150 : Cond.methodLink "CamelStrawsModel" 150 y_Mo_isCamel ∈ tb_l := (tb_in 1052 (by decide +kernel) rfl)
theorem ok_Mo_isCamel : MOk y_Mo_isCamel b_Mo_isCamel 2 (some .boolean) 1 := ⟨(tb_in 1055 (by decide +kernel) rfl), (tb_in 80 (by decide +kernel) rfl), by decide +kernel, by decide +kernel, by decide +kernel⟩
theorem wi_Mo_isCamel : Cond.instanceMethod y_Mo_isCamel ∈ tb_l := (tb_in 1054 (by decide +kernel) rfl)
theorem wl_Mo_Mo_isCamel : Cond.selects "CamelStrawsModel" y_Mo_isCamel y_Mo_isCamel ∈ tb_l := (tb_in 20 (by decide +kernel) rfl)
theorem wk_Mo_153 : Cond.methodLink "CamelStrawsModel" 153 y_Mo_isTwo ∈ tb_l := (tb_in 1060 (by decide +kernel) rfl)
theorem ok_Mo_isTwo : MOk y_Mo_isTwo b_Mo_isTwo 1 (some .boolean) 1 := ⟨(tb_in 1062 (by decide +kernel) rfl), (tb_in 80 (by decide +kernel) rfl), by decide +kernel, by decide +kernel, by decide +kernel⟩
theorem ws_Mo_isTwo : Cond.static y_Mo_isTwo ∈ tb_l := (tb_in 1061 (by decide +kernel) rfl)
theorem wk_Mo_156 : Cond.methodLink "CamelStrawsModel" 156 y_Mo_camelOf ∈ tb_l := (tb_in 1063 (by decide +kernel) rfl)
theorem ok_Mo_camelOf : MOk y_Mo_camelOf b_Mo_camelOf 3 (some .int) 2 := ⟨(tb_in 1066 (by decide +kernel) rfl), (tb_in 80 (by decide +kernel) rfl), by decide +kernel, by decide +kernel, by decide +kernel⟩
theorem wi_Mo_camelOf : Cond.instanceMethod y_Mo_camelOf ∈ tb_l := (tb_in 1065 (by decide +kernel) rfl)
theorem wl_Mo_Mo_camelOf : Cond.selects "CamelStrawsModel" y_Mo_camelOf y_Mo_camelOf ∈ tb_l := (tb_in 22 (by decide +kernel) rfl)
theorem wk_Mo_159 : Cond.methodLink "CamelStrawsModel" 159 y_Mo_isBale ∈ tb_l := (tb_in 1071 (by decide +kernel) rfl)
theorem ok_Mo_isBale : MOk y_Mo_isBale b_Mo_isBale 2 (some .boolean) 1 := ⟨(tb_in 1074 (by decide +kernel) rfl), (tb_in 80 (by decide +kernel) rfl), by decide +kernel, by decide +kernel, by decide +kernel⟩
theorem wi_Mo_isBale : Cond.instanceMethod y_Mo_isBale ∈ tb_l := (tb_in 1073 (by decide +kernel) rfl)
theorem wl_Mo_Mo_isBale : Cond.selects "CamelStrawsModel" y_Mo_isBale y_Mo_isBale ∈ tb_l := (tb_in 23 (by decide +kernel) rfl)
theorem wk_Mo_162 : Cond.methodLink "CamelStrawsModel" 162 y_Mo_baleOf ∈ tb_l := (tb_in 1075 (by decide +kernel) rfl)
theorem ok_Mo_baleOf : MOk y_Mo_baleOf b_Mo_baleOf 3 (some .int) 2 := ⟨(tb_in 1078 (by decide +kernel) rfl), (tb_in 80 (by decide +kernel) rfl), by decide +kernel, by decide +kernel, by decide +kernel⟩
theorem wi_Mo_baleOf : Cond.instanceMethod y_Mo_baleOf ∈ tb_l := (tb_in 1077 (by decide +kernel) rfl)
theorem wl_Mo_Mo_baleOf : Cond.selects "CamelStrawsModel" y_Mo_baleOf y_Mo_baleOf ∈ tb_l := (tb_in 24 (by decide +kernel) rfl)
theorem wk_Mo_165 : Cond.methodLink "CamelStrawsModel" 165 y_Mo_isDay ∈ tb_l := (tb_in 1083 (by decide +kernel) rfl)
theorem ok_Mo_isDay : MOk y_Mo_isDay b_Mo_isDay 1 (some .boolean) 1 := ⟨(tb_in 1085 (by decide +kernel) rfl), (tb_in 80 (by decide +kernel) rfl), by decide +kernel, by decide +kernel, by decide +kernel⟩
theorem ws_Mo_isDay : Cond.static y_Mo_isDay ∈ tb_l := (tb_in 1084 (by decide +kernel) rfl)
theorem wk_Mo_168 : Cond.methodLink "CamelStrawsModel" 168 y_Mo_isEight ∈ tb_l := (tb_in 1086 (by decide +kernel) rfl)
theorem ok_Mo_isEight : MOk y_Mo_isEight b_Mo_isEight 1 (some .boolean) 1 := ⟨(tb_in 1088 (by decide +kernel) rfl), (tb_in 80 (by decide +kernel) rfl), by decide +kernel, by decide +kernel, by decide +kernel⟩
theorem ws_Mo_isEight : Cond.static y_Mo_isEight ∈ tb_l := (tb_in 1087 (by decide +kernel) rfl)
theorem fo_Mo_171_34 : FOk "CamelStrawsModel" 171 34 9 .int false := FOk.mk0 cq_10 (by decide) (by decide) (by decide) rfl (tb_in 878 (by decide +kernel) rfl) rfl rfl
theorem fo_Mo_31_34 : FOk "CamelStrawsModel" 31 34 10 (.array .int) true := FOk.mk0 cq_10 (by decide) (by decide) (by decide) rfl (tb_in 879 (by decide +kernel) rfl) rfl rfl
theorem fo_Mo_34_34 : FOk "CamelStrawsModel" 34 34 11 (.array .int) true := FOk.mk0 cq_10 (by decide) (by decide) (by decide) rfl (tb_in 880 (by decide +kernel) rfl) rfl rfl
theorem fo_Mo_329_34 : FOk "CamelStrawsModel" 329 34 44 .int false := FOk.mk0 cq_10 (by decide) (by decide) (by decide) rfl (tb_in 913 (by decide +kernel) rfl) rfl rfl
theorem wk_Mo_174 : Cond.methodLink "CamelStrawsModel" 174 y_Mo_isSheet ∈ tb_l := (tb_in 1097 (by decide +kernel) rfl)
theorem ok_Mo_isSheet : MOk y_Mo_isSheet b_Mo_isSheet 1 (some .boolean) 1 := ⟨(tb_in 1099 (by decide +kernel) rfl), (tb_in 80 (by decide +kernel) rfl), by decide +kernel, by decide +kernel, by decide +kernel⟩
theorem ws_Mo_isSheet : Cond.static y_Mo_isSheet ∈ tb_l := (tb_in 1098 (by decide +kernel) rfl)
theorem fo_Mo_97_34 : FOk "CamelStrawsModel" 97 34 39 (.array .boolean) true := FOk.mk0 cq_10 (by decide) (by decide) (by decide) rfl (tb_in 908 (by decide +kernel) rfl) rfl rfl
theorem fo_Mo_104_34 : FOk "CamelStrawsModel" 104 34 41 (.array .int) true := FOk.mk0 cq_10 (by decide) (by decide) (by decide) rfl (tb_in 910 (by decide +kernel) rfl) rfl rfl
theorem fo_Mo_107_34 : FOk "CamelStrawsModel" 107 34 42 (.array .int) true := FOk.mk0 cq_10 (by decide) (by decide) (by decide) rfl (tb_in 911 (by decide +kernel) rfl) rfl rfl
theorem wk_Mo_180 : Cond.methodLink "CamelStrawsModel" 180 y_Mo_straw ∈ tb_l := (tb_in 1104 (by decide +kernel) rfl)
theorem ok_Mo_straw : MOk y_Mo_straw b_Mo_straw 3 (some .int) 2 := ⟨(tb_in 1082 (by decide +kernel) rfl), (tb_in 80 (by decide +kernel) rfl), by decide +kernel, by decide +kernel, by decide +kernel⟩
theorem wi_Mo_straw : Cond.instanceMethod y_Mo_straw ∈ tb_l := (tb_in 1080 (by decide +kernel) rfl)
theorem wl_Mo_Mo_straw : Cond.selects "CamelStrawsModel" y_Mo_straw y_Mo_straw ∈ tb_l := (tb_in 1081 (by decide +kernel) rfl)
theorem wk_Mo_177 : Cond.methodLink "CamelStrawsModel" 177 y_Mo_meets ∈ tb_l := (tb_in 1100 (by decide +kernel) rfl)
theorem ok_Mo_meets : MOk y_Mo_meets b_Mo_meets 2 (some .int) 1 := ⟨(tb_in 1103 (by decide +kernel) rfl), (tb_in 80 (by decide +kernel) rfl), by decide +kernel, by decide +kernel, by decide +kernel⟩
theorem wi_Mo_meets : Cond.instanceMethod y_Mo_meets ∈ tb_l := (tb_in 1102 (by decide +kernel) rfl)
theorem wl_Mo_Mo_meets : Cond.selects "CamelStrawsModel" y_Mo_meets y_Mo_meets ∈ tb_l := (tb_in 25 (by decide +kernel) rfl)
theorem fo_Mo_183_34 : FOk "CamelStrawsModel" 183 34 12 .int false := FOk.mk0 cq_10 (by decide) (by decide) (by decide) rfl (tb_in 881 (by decide +kernel) rfl) rfl rfl
theorem fo_Mo_37_34 : FOk "CamelStrawsModel" 37 34 13 (.array .int) true := FOk.mk0 cq_10 (by decide) (by decide) (by decide) rfl (tb_in 882 (by decide +kernel) rfl) rfl rfl
theorem fo_Mo_40_34 : FOk "CamelStrawsModel" 40 34 14 (.array .int) true := FOk.mk0 cq_10 (by decide) (by decide) (by decide) rfl (tb_in 883 (by decide +kernel) rfl) rfl rfl
theorem fo_Mo_186_34 : FOk "CamelStrawsModel" 186 34 15 .int false := FOk.mk0 cq_10 (by decide) (by decide) (by decide) rfl (tb_in 884 (by decide +kernel) rfl) rfl rfl
theorem fo_Mo_49_34 : FOk "CamelStrawsModel" 49 34 19 (.array .int) true := FOk.mk0 cq_10 (by decide) (by decide) (by decide) rfl (tb_in 888 (by decide +kernel) rfl) rfl rfl
theorem fo_Mo_43_34 : FOk "CamelStrawsModel" 43 34 17 (.array .int) true := FOk.mk0 cq_10 (by decide) (by decide) (by decide) rfl (tb_in 886 (by decide +kernel) rfl) rfl rfl
theorem fo_Mo_46_34 : FOk "CamelStrawsModel" 46 34 18 (.array .int) true := FOk.mk0 cq_10 (by decide) (by decide) (by decide) rfl (tb_in 887 (by decide +kernel) rfl) rfl rfl
theorem fo_Mo_189_34 : FOk "CamelStrawsModel" 189 34 23 .int false := FOk.mk0 cq_10 (by decide) (by decide) (by decide) rfl (tb_in 892 (by decide +kernel) rfl) rfl rfl
theorem fo_Mo_58_34 : FOk "CamelStrawsModel" 58 34 22 (.array .int) true := FOk.mk0 cq_10 (by decide) (by decide) (by decide) rfl (tb_in 891 (by decide +kernel) rfl) rfl rfl
theorem fo_Mo_192_34 : FOk "CamelStrawsModel" 192 34 24 .int false := FOk.mk0 cq_10 (by decide) (by decide) (by decide) rfl (tb_in 893 (by decide +kernel) rfl) rfl rfl
theorem fo_Mo_195_34 : FOk "CamelStrawsModel" 195 34 25 .int false := FOk.mk0 cq_10 (by decide) (by decide) (by decide) rfl (tb_in 894 (by decide +kernel) rfl) rfl rfl
theorem wk_Mo_198 : Cond.methodLink "CamelStrawsModel" 198 y_Mo_takes ∈ tb_l := (tb_in 1133 (by decide +kernel) rfl)
theorem ok_Mo_takes : MOk y_Mo_takes b_Mo_takes 2 (some .boolean) 1 := ⟨(tb_in 1136 (by decide +kernel) rfl), (tb_in 80 (by decide +kernel) rfl), by decide +kernel, by decide +kernel, by decide +kernel⟩
theorem wi_Mo_takes : Cond.instanceMethod y_Mo_takes ∈ tb_l := (tb_in 1135 (by decide +kernel) rfl)
theorem wl_Mo_Mo_takes : Cond.selects "CamelStrawsModel" y_Mo_takes y_Mo_takes ∈ tb_l := (tb_in 32 (by decide +kernel) rfl)
theorem wk_Mo_201 : Cond.methodLink "CamelStrawsModel" 201 y_Mo_breaks ∈ tb_l := (tb_in 1137 (by decide +kernel) rfl)
theorem ok_Mo_breaks : MOk y_Mo_breaks b_Mo_breaks 3 none 2 := ⟨(tb_in 1140 (by decide +kernel) rfl), (tb_in 80 (by decide +kernel) rfl), by decide +kernel, by decide +kernel, by decide +kernel⟩
theorem wi_Mo_breaks : Cond.instanceMethod y_Mo_breaks ∈ tb_l := (tb_in 1139 (by decide +kernel) rfl)
theorem wl_Mo_Mo_breaks : Cond.selects "CamelStrawsModel" y_Mo_breaks y_Mo_breaks ∈ tb_l := (tb_in 33 (by decide +kernel) rfl)
theorem fo_Mo_205_34 : FOk "CamelStrawsModel" 205 34 16 .boolean false := FOk.mk0 cq_10 (by decide) (by decide) (by decide) rfl (tb_in 885 (by decide +kernel) rfl) rfl rfl
theorem fo_Mo_52_34 : FOk "CamelStrawsModel" 52 34 20 (.array .int) true := FOk.mk0 cq_10 (by decide) (by decide) (by decide) rfl (tb_in 889 (by decide +kernel) rfl) rfl rfl
theorem wk_Mo_209 : Cond.methodLink "CamelStrawsModel" 209 y_Mo_isIn ∈ tb_l := (tb_in 1145 (by decide +kernel) rfl)
theorem ok_Mo_isIn : MOk y_Mo_isIn b_Mo_isIn 2 (some .boolean) 2 := ⟨(tb_in 1147 (by decide +kernel) rfl), (tb_in 80 (by decide +kernel) rfl), by decide +kernel, by decide +kernel, by decide +kernel⟩
theorem ws_Mo_isIn : Cond.static y_Mo_isIn ∈ tb_l := (tb_in 1146 (by decide +kernel) rfl)
theorem wk_Mo_213 : Cond.methodLink "CamelStrawsModel" 213 y_Mo_comesStraw ∈ tb_l := (tb_in 1148 (by decide +kernel) rfl)
theorem ok_Mo_comesStraw : MOk y_Mo_comesStraw b_Mo_comesStraw 3 none 2 := ⟨(tb_in 1151 (by decide +kernel) rfl), (tb_in 80 (by decide +kernel) rfl), by decide +kernel, by decide +kernel, by decide +kernel⟩
theorem wi_Mo_comesStraw : Cond.instanceMethod y_Mo_comesStraw ∈ tb_l := (tb_in 1150 (by decide +kernel) rfl)
theorem wl_Mo_Mo_comesStraw : Cond.selects "CamelStrawsModel" y_Mo_comesStraw y_Mo_comesStraw ∈ tb_l := (tb_in 35 (by decide +kernel) rfl)
theorem wk_Mo_216 : Cond.methodLink "CamelStrawsModel" 216 y_Mo_wears ∈ tb_l := (tb_in 1156 (by decide +kernel) rfl)
theorem ok_Mo_wears : MOk y_Mo_wears b_Mo_wears 3 (some .boolean) 2 := ⟨(tb_in 1159 (by decide +kernel) rfl), (tb_in 80 (by decide +kernel) rfl), by decide +kernel, by decide +kernel, by decide +kernel⟩
theorem wi_Mo_wears : Cond.instanceMethod y_Mo_wears ∈ tb_l := (tb_in 1158 (by decide +kernel) rfl)
theorem wl_Mo_Mo_wears : Cond.selects "CamelStrawsModel" y_Mo_wears y_Mo_wears ∈ tb_l := (tb_in 37 (by decide +kernel) rfl)
theorem fo_Mo_55_34 : FOk "CamelStrawsModel" 55 34 21 (.array .int) true := FOk.mk0 cq_10 (by decide) (by decide) (by decide) rfl (tb_in 890 (by decide +kernel) rfl) rfl rfl
theorem fo_Mo_61_34 : FOk "CamelStrawsModel" 61 34 26 (.array .int) true := FOk.mk0 cq_10 (by decide) (by decide) (by decide) rfl (tb_in 895 (by decide +kernel) rfl) rfl rfl
theorem fo_Mo_64_34 : FOk "CamelStrawsModel" 64 34 27 (.array .int) true := FOk.mk0 cq_10 (by decide) (by decide) (by decide) rfl (tb_in 896 (by decide +kernel) rfl) rfl rfl
theorem fo_Mo_67_34 : FOk "CamelStrawsModel" 67 34 28 (.array .int) true := FOk.mk0 cq_10 (by decide) (by decide) (by decide) rfl (tb_in 897 (by decide +kernel) rfl) rfl rfl
theorem fo_Mo_70_34 : FOk "CamelStrawsModel" 70 34 29 (.array .int) true := FOk.mk0 cq_10 (by decide) (by decide) (by decide) rfl (tb_in 898 (by decide +kernel) rfl) rfl rfl
theorem fo_Mo_73_34 : FOk "CamelStrawsModel" 73 34 30 (.array .int) true := FOk.mk0 cq_10 (by decide) (by decide) (by decide) rfl (tb_in 899 (by decide +kernel) rfl) rfl rfl
theorem fo_Mo_76_34 : FOk "CamelStrawsModel" 76 34 31 (.array .int) true := FOk.mk0 cq_10 (by decide) (by decide) (by decide) rfl (tb_in 900 (by decide +kernel) rfl) rfl rfl
theorem wk_Mo_219 : Cond.methodLink "CamelStrawsModel" 219 y_Mo_bears ∈ tb_l := (tb_in 1129 (by decide +kernel) rfl)
theorem ok_Mo_bears : MOk y_Mo_bears b_Mo_bears 3 none 1 := ⟨(tb_in 1132 (by decide +kernel) rfl), (tb_in 80 (by decide +kernel) rfl), by decide +kernel, by decide +kernel, by decide +kernel⟩
theorem wi_Mo_bears : Cond.instanceMethod y_Mo_bears ∈ tb_l := (tb_in 1131 (by decide +kernel) rfl)
theorem wl_Mo_Mo_bears : Cond.selects "CamelStrawsModel" y_Mo_bears y_Mo_bears ∈ tb_l := (tb_in 31 (by decide +kernel) rfl)
theorem wk_Mo_223 : Cond.methodLink "CamelStrawsModel" 223 y_Mo_comeStraws ∈ tb_l := (tb_in 1141 (by decide +kernel) rfl)
theorem ok_Mo_comeStraws : MOk y_Mo_comeStraws b_Mo_comeStraws 3 none 1 := ⟨(tb_in 1144 (by decide +kernel) rfl), (tb_in 80 (by decide +kernel) rfl), by decide +kernel, by decide +kernel, by decide +kernel⟩
theorem wi_Mo_comeStraws : Cond.instanceMethod y_Mo_comeStraws ∈ tb_l := (tb_in 1143 (by decide +kernel) rfl)
theorem wl_Mo_Mo_comeStraws : Cond.selects "CamelStrawsModel" y_Mo_comeStraws y_Mo_comeStraws ∈ tb_l := (tb_in 34 (by decide +kernel) rfl)
theorem wk_Mo_226 : Cond.methodLink "CamelStrawsModel" 226 y_Mo_tires ∈ tb_l := (tb_in 1152 (by decide +kernel) rfl)
theorem ok_Mo_tires : MOk y_Mo_tires b_Mo_tires 3 none 2 := ⟨(tb_in 1155 (by decide +kernel) rfl), (tb_in 80 (by decide +kernel) rfl), by decide +kernel, by decide +kernel, by decide +kernel⟩
theorem wi_Mo_tires : Cond.instanceMethod y_Mo_tires ∈ tb_l := (tb_in 1154 (by decide +kernel) rfl)
theorem wl_Mo_Mo_tires : Cond.selects "CamelStrawsModel" y_Mo_tires y_Mo_tires ∈ tb_l := (tb_in 36 (by decide +kernel) rfl)
theorem wk_Mo_229 : Cond.methodLink "CamelStrawsModel" 229 y_Mo_ends ∈ tb_l := (tb_in 1160 (by decide +kernel) rfl)
theorem ok_Mo_ends : MOk y_Mo_ends b_Mo_ends 4 none 2 := ⟨(tb_in 1163 (by decide +kernel) rfl), (tb_in 80 (by decide +kernel) rfl), by decide +kernel, by decide +kernel, by decide +kernel⟩
theorem wi_Mo_ends : Cond.instanceMethod y_Mo_ends ∈ tb_l := (tb_in 1162 (by decide +kernel) rfl)
theorem wl_Mo_Mo_ends : Cond.selects "CamelStrawsModel" y_Mo_ends y_Mo_ends ∈ tb_l := (tb_in 38 (by decide +kernel) rfl)
theorem wk_Mo_232 : Cond.methodLink "CamelStrawsModel" 232 y_Mo_goesBy ∈ tb_l := (tb_in 1125 (by decide +kernel) rfl)
theorem ok_Mo_goesBy : MOk y_Mo_goesBy b_Mo_goesBy 3 none 1 := ⟨(tb_in 1128 (by decide +kernel) rfl), (tb_in 80 (by decide +kernel) rfl), by decide +kernel, by decide +kernel, by decide +kernel⟩
theorem wi_Mo_goesBy : Cond.instanceMethod y_Mo_goesBy ∈ tb_l := (tb_in 1127 (by decide +kernel) rfl)
theorem wl_Mo_Mo_goesBy : Cond.selects "CamelStrawsModel" y_Mo_goesBy y_Mo_goesBy ∈ tb_l := (tb_in 30 (by decide +kernel) rfl)
theorem fo_Mo_79_34 : FOk "CamelStrawsModel" 79 34 32 (.array .int) true := FOk.mk0 cq_10 (by decide) (by decide) (by decide) rfl (tb_in 901 (by decide +kernel) rfl) rfl rfl
theorem wk_Mo_235 : Cond.methodLink "CamelStrawsModel" 235 y_Mo_asTold ∈ tb_l := (tb_in 1117 (by decide +kernel) rfl)
theorem ok_Mo_asTold : MOk y_Mo_asTold b_Mo_asTold 2 none 0 := ⟨(tb_in 1120 (by decide +kernel) rfl), (tb_in 80 (by decide +kernel) rfl), by decide +kernel, by decide +kernel, by decide +kernel⟩
theorem wi_Mo_asTold : Cond.instanceMethod y_Mo_asTold ∈ tb_l := (tb_in 1119 (by decide +kernel) rfl)
theorem wl_Mo_Mo_asTold : Cond.selects "CamelStrawsModel" y_Mo_asTold y_Mo_asTold ∈ tb_l := (tb_in 28 (by decide +kernel) rfl)
theorem wk_Mo_238 : Cond.methodLink "CamelStrawsModel" 238 y_Mo_runs ∈ tb_l := (tb_in 1121 (by decide +kernel) rfl)
theorem ok_Mo_runs : MOk y_Mo_runs b_Mo_runs 2 none 0 := ⟨(tb_in 1124 (by decide +kernel) rfl), (tb_in 80 (by decide +kernel) rfl), by decide +kernel, by decide +kernel, by decide +kernel⟩
theorem wi_Mo_runs : Cond.instanceMethod y_Mo_runs ∈ tb_l := (tb_in 1123 (by decide +kernel) rfl)
theorem wl_Mo_Mo_runs : Cond.selects "CamelStrawsModel" y_Mo_runs y_Mo_runs ∈ tb_l := (tb_in 29 (by decide +kernel) rfl)
theorem wk_Mo_241 : Cond.methodLink "CamelStrawsModel" 241 y_Mo_runsTold ∈ tb_l := (tb_in 1113 (by decide +kernel) rfl)
theorem ok_Mo_runsTold : MOk y_Mo_runsTold b_Mo_runsTold 1 none 0 := ⟨(tb_in 1116 (by decide +kernel) rfl), (tb_in 80 (by decide +kernel) rfl), by decide +kernel, by decide +kernel, by decide +kernel⟩
theorem wi_Mo_runsTold : Cond.instanceMethod y_Mo_runsTold ∈ tb_l := (tb_in 1115 (by decide +kernel) rfl)
theorem wl_Mo_Mo_runsTold : Cond.selects "CamelStrawsModel" y_Mo_runsTold y_Mo_runsTold ∈ tb_l := (tb_in 27 (by decide +kernel) rfl)
theorem wk_Mo_244 : Cond.methodLink "CamelStrawsModel" 244 y_Mo_atOf ∈ tb_l := (tb_in 1109 (by decide +kernel) rfl)
theorem ok_Mo_atOf : MOk y_Mo_atOf b_Mo_atOf 5 (some .int) 3 := ⟨(tb_in 1112 (by decide +kernel) rfl), (tb_in 80 (by decide +kernel) rfl), by decide +kernel, by decide +kernel, by decide +kernel⟩
theorem wi_Mo_atOf : Cond.instanceMethod y_Mo_atOf ∈ tb_l := (tb_in 1111 (by decide +kernel) rfl)
theorem wl_Mo_Mo_atOf : Cond.selects "CamelStrawsModel" y_Mo_atOf y_Mo_atOf ∈ tb_l := (tb_in 26 (by decide +kernel) rfl)
theorem wk_Mo_248 : Cond.methodLink "CamelStrawsModel" 248 y_Mo_throughNow ∈ tb_l := (tb_in 1172 (by decide +kernel) rfl)
theorem ok_Mo_throughNow : MOk y_Mo_throughNow b_Mo_throughNow 3 (some .int) 0 := ⟨(tb_in 1175 (by decide +kernel) rfl), (tb_in 80 (by decide +kernel) rfl), by decide +kernel, by decide +kernel, by decide +kernel⟩
theorem wi_Mo_throughNow : Cond.instanceMethod y_Mo_throughNow ∈ tb_l := (tb_in 1174 (by decide +kernel) rfl)
theorem wl_Mo_Mo_throughNow : Cond.selects "CamelStrawsModel" y_Mo_throughNow y_Mo_throughNow ∈ tb_l := (tb_in 40 (by decide +kernel) rfl)
theorem wk_Mo_252 : Cond.methodLink "CamelStrawsModel" 252 y_Mo_throughOf ∈ tb_l := (tb_in 1168 (by decide +kernel) rfl)
theorem ok_Mo_throughOf : MOk y_Mo_throughOf b_Mo_throughOf 1 (some .int) 0 := ⟨(tb_in 1171 (by decide +kernel) rfl), (tb_in 80 (by decide +kernel) rfl), by decide +kernel, by decide +kernel, by decide +kernel⟩
theorem wi_Mo_throughOf : Cond.instanceMethod y_Mo_throughOf ∈ tb_l := (tb_in 1170 (by decide +kernel) rfl)
theorem wl_Mo_Mo_throughOf : Cond.selects "CamelStrawsModel" y_Mo_throughOf y_Mo_throughOf ∈ tb_l := (tb_in 39 (by decide +kernel) rfl)
theorem wk_Mo_255 : Cond.methodLink "CamelStrawsModel" 255 y_Mo_lostOf ∈ tb_l := (tb_in 1180 (by decide +kernel) rfl)
theorem ok_Mo_lostOf : MOk y_Mo_lostOf b_Mo_lostOf 1 (some .int) 0 := ⟨(tb_in 1183 (by decide +kernel) rfl), (tb_in 80 (by decide +kernel) rfl), by decide +kernel, by decide +kernel, by decide +kernel⟩
theorem wi_Mo_lostOf : Cond.instanceMethod y_Mo_lostOf ∈ tb_l := (tb_in 1182 (by decide +kernel) rfl)
theorem wl_Mo_Mo_lostOf : Cond.selects "CamelStrawsModel" y_Mo_lostOf y_Mo_lostOf ∈ tb_l := (tb_in 41 (by decide +kernel) rfl)
theorem wk_Mo_258 : Cond.methodLink "CamelStrawsModel" 258 y_Mo_firstOf ∈ tb_l := (tb_in 1188 (by decide +kernel) rfl)
theorem ok_Mo_firstOf : MOk y_Mo_firstOf b_Mo_firstOf 2 (some .int) 1 := ⟨(tb_in 1191 (by decide +kernel) rfl), (tb_in 80 (by decide +kernel) rfl), by decide +kernel, by decide +kernel, by decide +kernel⟩
theorem wi_Mo_firstOf : Cond.instanceMethod y_Mo_firstOf ∈ tb_l := (tb_in 1190 (by decide +kernel) rfl)
theorem wl_Mo_Mo_firstOf : Cond.selects "CamelStrawsModel" y_Mo_firstOf y_Mo_firstOf ∈ tb_l := (tb_in 42 (by decide +kernel) rfl)
theorem wk_Mo_261 : Cond.methodLink "CamelStrawsModel" 261 y_Mo_bestOf ∈ tb_l := (tb_in 1196 (by decide +kernel) rfl)
theorem ok_Mo_bestOf : MOk y_Mo_bestOf b_Mo_bestOf 3 (some .int) 0 := ⟨(tb_in 1199 (by decide +kernel) rfl), (tb_in 80 (by decide +kernel) rfl), by decide +kernel, by decide +kernel, by decide +kernel⟩
theorem wi_Mo_bestOf : Cond.instanceMethod y_Mo_bestOf ∈ tb_l := (tb_in 1198 (by decide +kernel) rfl)
theorem wl_Mo_Mo_bestOf : Cond.selects "CamelStrawsModel" y_Mo_bestOf y_Mo_bestOf ∈ tb_l := (tb_in 43 (by decide +kernel) rfl)
theorem wk_Mo_264 : Cond.methodLink "CamelStrawsModel" 264 y_Mo_wholeOf ∈ tb_l := (tb_in 1204 (by decide +kernel) rfl)
theorem ok_Mo_wholeOf : MOk y_Mo_wholeOf b_Mo_wholeOf 3 (some .int) 0 := ⟨(tb_in 1207 (by decide +kernel) rfl), (tb_in 80 (by decide +kernel) rfl), by decide +kernel, by decide +kernel, by decide +kernel⟩
theorem wi_Mo_wholeOf : Cond.instanceMethod y_Mo_wholeOf ∈ tb_l := (tb_in 1206 (by decide +kernel) rfl)
theorem wl_Mo_Mo_wholeOf : Cond.selects "CamelStrawsModel" y_Mo_wholeOf y_Mo_wholeOf ∈ tb_l := (tb_in 44 (by decide +kernel) rfl)
theorem wk_Mo_267 : Cond.methodLink "CamelStrawsModel" 267 y_Mo_strengthOn ∈ tb_l := (tb_in 1216 (by decide +kernel) rfl)
theorem ok_Mo_strengthOn : MOk y_Mo_strengthOn b_Mo_strengthOn 4 (some .int) 1 := ⟨(tb_in 1219 (by decide +kernel) rfl), (tb_in 80 (by decide +kernel) rfl), by decide +kernel, by decide +kernel, by decide +kernel⟩
theorem wi_Mo_strengthOn : Cond.instanceMethod y_Mo_strengthOn ∈ tb_l := (tb_in 1218 (by decide +kernel) rfl)
theorem wl_Mo_Mo_strengthOn : Cond.selects "CamelStrawsModel" y_Mo_strengthOn y_Mo_strengthOn ∈ tb_l := (tb_in 46 (by decide +kernel) rfl)
theorem wk_Mo_270 : Cond.methodLink "CamelStrawsModel" 270 y_Mo_tiredOf ∈ tb_l := (tb_in 1212 (by decide +kernel) rfl)
theorem ok_Mo_tiredOf : MOk y_Mo_tiredOf b_Mo_tiredOf 3 (some .int) 0 := ⟨(tb_in 1215 (by decide +kernel) rfl), (tb_in 80 (by decide +kernel) rfl), by decide +kernel, by decide +kernel, by decide +kernel⟩
theorem wi_Mo_tiredOf : Cond.instanceMethod y_Mo_tiredOf ∈ tb_l := (tb_in 1214 (by decide +kernel) rfl)
theorem wl_Mo_Mo_tiredOf : Cond.selects "CamelStrawsModel" y_Mo_tiredOf y_Mo_tiredOf ∈ tb_l := (tb_in 45 (by decide +kernel) rfl)
theorem wk_Mo_273 : Cond.methodLink "CamelStrawsModel" 273 y_Mo_lastOf ∈ tb_l := (tb_in 1224 (by decide +kernel) rfl)
theorem ok_Mo_lastOf : MOk y_Mo_lastOf b_Mo_lastOf 4 (some .int) 2 := ⟨(tb_in 1227 (by decide +kernel) rfl), (tb_in 80 (by decide +kernel) rfl), by decide +kernel, by decide +kernel, by decide +kernel⟩
theorem wi_Mo_lastOf : Cond.instanceMethod y_Mo_lastOf ∈ tb_l := (tb_in 1226 (by decide +kernel) rfl)
theorem wl_Mo_Mo_lastOf : Cond.selects "CamelStrawsModel" y_Mo_lastOf y_Mo_lastOf ∈ tb_l := (tb_in 47 (by decide +kernel) rfl)
theorem wk_Mo_276 : Cond.methodLink "CamelStrawsModel" 276 y_Mo_bearOf ∈ tb_l := (tb_in 1232 (by decide +kernel) rfl)
theorem ok_Mo_bearOf : MOk y_Mo_bearOf b_Mo_bearOf 8 (some .int) 2 := ⟨(tb_in 1235 (by decide +kernel) rfl), (tb_in 80 (by decide +kernel) rfl), by decide +kernel, by decide +kernel, by decide +kernel⟩
theorem wi_Mo_bearOf : Cond.instanceMethod y_Mo_bearOf ∈ tb_l := (tb_in 1234 (by decide +kernel) rfl)
theorem wl_Mo_Mo_bearOf : Cond.selects "CamelStrawsModel" y_Mo_bearOf y_Mo_bearOf ∈ tb_l := (tb_in 48 (by decide +kernel) rfl)
theorem wk_Mo_279 : Cond.methodLink "CamelStrawsModel" 279 y_Mo_whenOf ∈ tb_l := (tb_in 1240 (by decide +kernel) rfl)
theorem ok_Mo_whenOf : MOk y_Mo_whenOf b_Mo_whenOf 8 (some .int) 2 := ⟨(tb_in 1243 (by decide +kernel) rfl), (tb_in 80 (by decide +kernel) rfl), by decide +kernel, by decide +kernel, by decide +kernel⟩
theorem wi_Mo_whenOf : Cond.instanceMethod y_Mo_whenOf ∈ tb_l := (tb_in 1242 (by decide +kernel) rfl)
theorem wl_Mo_Mo_whenOf : Cond.selects "CamelStrawsModel" y_Mo_whenOf y_Mo_whenOf ∈ tb_l := (tb_in 49 (by decide +kernel) rfl)
theorem wk_Mo_282 : Cond.methodLink "CamelStrawsModel" 282 y_Mo_brokeAll ∈ tb_l := (tb_in 1256 (by decide +kernel) rfl)
theorem ok_Mo_brokeAll : MOk y_Mo_brokeAll b_Mo_brokeAll 3 (some .int) 0 := ⟨(tb_in 1259 (by decide +kernel) rfl), (tb_in 80 (by decide +kernel) rfl), by decide +kernel, by decide +kernel, by decide +kernel⟩
theorem wi_Mo_brokeAll : Cond.instanceMethod y_Mo_brokeAll ∈ tb_l := (tb_in 1258 (by decide +kernel) rfl)
theorem wl_Mo_Mo_brokeAll : Cond.selects "CamelStrawsModel" y_Mo_brokeAll y_Mo_brokeAll ∈ tb_l := (tb_in 52 (by decide +kernel) rfl)
theorem wk_Mo_285 : Cond.methodLink "CamelStrawsModel" 285 y_Mo_isSpared ∈ tb_l := (tb_in 1252 (by decide +kernel) rfl)
theorem ok_Mo_isSpared : MOk y_Mo_isSpared b_Mo_isSpared 2 (some .boolean) 1 := ⟨(tb_in 1255 (by decide +kernel) rfl), (tb_in 80 (by decide +kernel) rfl), by decide +kernel, by decide +kernel, by decide +kernel⟩
theorem wi_Mo_isSpared : Cond.instanceMethod y_Mo_isSpared ∈ tb_l := (tb_in 1254 (by decide +kernel) rfl)
theorem wl_Mo_Mo_isSpared : Cond.selects "CamelStrawsModel" y_Mo_isSpared y_Mo_isSpared ∈ tb_l := (tb_in 51 (by decide +kernel) rfl)
theorem fo_Mo_82_34 : FOk "CamelStrawsModel" 82 34 33 (.array .int) true := FOk.mk0 cq_10 (by decide) (by decide) (by decide) rfl (tb_in 902 (by decide +kernel) rfl) rfl rfl
theorem wk_Mo_288 : Cond.methodLink "CamelStrawsModel" 288 y_Mo_spareBy ∈ tb_l := (tb_in 1248 (by decide +kernel) rfl)
theorem ok_Mo_spareBy : MOk y_Mo_spareBy b_Mo_spareBy 3 (some .int) 0 := ⟨(tb_in 1251 (by decide +kernel) rfl), (tb_in 80 (by decide +kernel) rfl), by decide +kernel, by decide +kernel, by decide +kernel⟩
theorem wi_Mo_spareBy : Cond.instanceMethod y_Mo_spareBy ∈ tb_l := (tb_in 1250 (by decide +kernel) rfl)
theorem wl_Mo_Mo_spareBy : Cond.selects "CamelStrawsModel" y_Mo_spareBy y_Mo_spareBy ∈ tb_l := (tb_in 50 (by decide +kernel) rfl)
theorem wk_Mo_291 : Cond.methodLink "CamelStrawsModel" 291 y_Mo_ofRow ∈ tb_l := (tb_in 1260 (by decide +kernel) rfl)
theorem ok_Mo_ofRow : MOk y_Mo_ofRow b_Mo_ofRow 3 (some .int) 2 := ⟨(tb_in 1263 (by decide +kernel) rfl), (tb_in 80 (by decide +kernel) rfl), by decide +kernel, by decide +kernel, by decide +kernel⟩
theorem wi_Mo_ofRow : Cond.instanceMethod y_Mo_ofRow ∈ tb_l := (tb_in 1262 (by decide +kernel) rfl)
theorem wl_Mo_Mo_ofRow : Cond.selects "CamelStrawsModel" y_Mo_ofRow y_Mo_ofRow ∈ tb_l := (tb_in 53 (by decide +kernel) rfl)
theorem fo_Mo_294_34 : FOk "CamelStrawsModel" 294 34 34 .int false := FOk.mk0 cq_10 (by decide) (by decide) (by decide) rfl (tb_in 903 (by decide +kernel) rfl) rfl rfl
theorem fo_Mo_85_34 : FOk "CamelStrawsModel" 85 34 35 (.array .int) true := FOk.mk0 cq_10 (by decide) (by decide) (by decide) rfl (tb_in 904 (by decide +kernel) rfl) rfl rfl
theorem fo_Mo_88_34 : FOk "CamelStrawsModel" 88 34 36 (.array .int) true := FOk.mk0 cq_10 (by decide) (by decide) (by decide) rfl (tb_in 905 (by decide +kernel) rfl) rfl rfl
theorem fo_Mo_91_34 : FOk "CamelStrawsModel" 91 34 37 (.array .int) true := FOk.mk0 cq_10 (by decide) (by decide) (by decide) rfl (tb_in 906 (by decide +kernel) rfl) rfl rfl
theorem wk_Mo_297 : Cond.methodLink "CamelStrawsModel" 297 y_Mo_isSeen ∈ tb_l := (tb_in 1280 (by decide +kernel) rfl)
theorem ok_Mo_isSeen : MOk y_Mo_isSeen b_Mo_isSeen 3 (some .boolean) 0 := ⟨(tb_in 1283 (by decide +kernel) rfl), (tb_in 80 (by decide +kernel) rfl), by decide +kernel, by decide +kernel, by decide +kernel⟩
theorem wi_Mo_isSeen : Cond.instanceMethod y_Mo_isSeen ∈ tb_l := (tb_in 1282 (by decide +kernel) rfl)
theorem wl_Mo_Mo_isSeen : Cond.selects "CamelStrawsModel" y_Mo_isSeen y_Mo_isSeen ∈ tb_l := (tb_in 55 (by decide +kernel) rfl)
theorem wk_Mo_301 : Cond.methodLink "CamelStrawsModel" 301 y_Mo_neverNow ∈ tb_l := (tb_in 1276 (by decide +kernel) rfl)
theorem ok_Mo_neverNow : MOk y_Mo_neverNow b_Mo_neverNow 3 (some .int) 0 := ⟨(tb_in 1279 (by decide +kernel) rfl), (tb_in 80 (by decide +kernel) rfl), by decide +kernel, by decide +kernel, by decide +kernel⟩
theorem wi_Mo_neverNow : Cond.instanceMethod y_Mo_neverNow ∈ tb_l := (tb_in 1278 (by decide +kernel) rfl)
theorem wl_Mo_Mo_neverNow : Cond.selects "CamelStrawsModel" y_Mo_neverNow y_Mo_neverNow ∈ tb_l := (tb_in 54 (by decide +kernel) rfl)
theorem fo_Mo_94_34 : FOk "CamelStrawsModel" 94 34 38 (.array .int) true := FOk.mk0 cq_10 (by decide) (by decide) (by decide) rfl (tb_in 907 (by decide +kernel) rfl) rfl rfl
theorem wk_Mo_307 : Cond.methodLink "CamelStrawsModel" 307 y_Mo_strongBy ∈ tb_l := (tb_in 1292 (by decide +kernel) rfl)
theorem ok_Mo_strongBy : MOk y_Mo_strongBy b_Mo_strongBy 6 (some .int) 1 := ⟨(tb_in 1295 (by decide +kernel) rfl), (tb_in 80 (by decide +kernel) rfl), by decide +kernel, by decide +kernel, by decide +kernel⟩
theorem wi_Mo_strongBy : Cond.instanceMethod y_Mo_strongBy ∈ tb_l := (tb_in 1294 (by decide +kernel) rfl)
theorem wl_Mo_Mo_strongBy : Cond.selects "CamelStrawsModel" y_Mo_strongBy y_Mo_strongBy ∈ tb_l := (tb_in 57 (by decide +kernel) rfl)
theorem wk_Mo_304 : Cond.methodLink "CamelStrawsModel" 304 y_Mo_sortsBy ∈ tb_l := (tb_in 1288 (by decide +kernel) rfl)
theorem ok_Mo_sortsBy : MOk y_Mo_sortsBy b_Mo_sortsBy 5 (some .int) 1 := ⟨(tb_in 1291 (by decide +kernel) rfl), (tb_in 80 (by decide +kernel) rfl), by decide +kernel, by decide +kernel, by decide +kernel⟩
theorem wi_Mo_sortsBy : Cond.instanceMethod y_Mo_sortsBy ∈ tb_l := (tb_in 1290 (by decide +kernel) rfl)
theorem wl_Mo_Mo_sortsBy : Cond.selects "CamelStrawsModel" y_Mo_sortsBy y_Mo_sortsBy ∈ tb_l := (tb_in 56 (by decide +kernel) rfl)
theorem wk_Mo_310 : Cond.methodLink "CamelStrawsModel" 310 y_Mo_askOf ∈ tb_l := (tb_in 1300 (by decide +kernel) rfl)
theorem ok_Mo_askOf : MOk y_Mo_askOf b_Mo_askOf 10 (some .int) 1 := ⟨(tb_in 1303 (by decide +kernel) rfl), (tb_in 80 (by decide +kernel) rfl), by decide +kernel, by decide +kernel, by decide +kernel⟩
theorem wi_Mo_askOf : Cond.instanceMethod y_Mo_askOf ∈ tb_l := (tb_in 1302 (by decide +kernel) rfl)
theorem wl_Mo_Mo_askOf : Cond.selects "CamelStrawsModel" y_Mo_askOf y_Mo_askOf ∈ tb_l := (tb_in 58 (by decide +kernel) rfl)
theorem wk_Mo_313 : Cond.methodLink "CamelStrawsModel" 313 y_Mo_lowest ∈ tb_l := (tb_in 1312 (by decide +kernel) rfl)
theorem ok_Mo_lowest : MOk y_Mo_lowest b_Mo_lowest 11 (some .long) 3 := ⟨(tb_in 1314 (by decide +kernel) rfl), (tb_in 80 (by decide +kernel) rfl), by decide +kernel, by decide +kernel, by decide +kernel⟩
theorem ws_Mo_lowest : Cond.static y_Mo_lowest ∈ tb_l := (tb_in 1313 (by decide +kernel) rfl)
theorem kl_Mo_113 : Cond.constantLong "CamelStrawsModel" 113 (-9223372036854775808) ∈ tb_l := (tb_in 1318 (by decide +kernel) rfl)
theorem wk_Mo_321 : Cond.methodLink "CamelStrawsModel" 321 y_Mo_no ∈ tb_l := (tb_in 1315 (by decide +kernel) rfl)
theorem ok_Mo_no : MOk y_Mo_no b_Mo_no 1 (some .long) 1 := ⟨(tb_in 1317 (by decide +kernel) rfl), (tb_in 80 (by decide +kernel) rfl), by decide +kernel, by decide +kernel, by decide +kernel⟩
theorem ws_Mo_no : Cond.static y_Mo_no ∈ tb_l := (tb_in 1316 (by decide +kernel) rfl)
theorem wk_Mo_317 : Cond.methodLink "CamelStrawsModel" 317 y_Mo_chanceOf ∈ tb_l := (tb_in 1308 (by decide +kernel) rfl)
theorem ok_Mo_chanceOf : MOk y_Mo_chanceOf b_Mo_chanceOf 10 (some .long) 3 := ⟨(tb_in 1311 (by decide +kernel) rfl), (tb_in 80 (by decide +kernel) rfl), by decide +kernel, by decide +kernel, by decide +kernel⟩
theorem wi_Mo_chanceOf : Cond.instanceMethod y_Mo_chanceOf ∈ tb_l := (tb_in 1310 (by decide +kernel) rfl)
theorem wl_Mo_Mo_chanceOf : Cond.selects "CamelStrawsModel" y_Mo_chanceOf y_Mo_chanceOf ∈ tb_l := (tb_in 59 (by decide +kernel) rfl)
theorem kc_Mo_325 : Cond.constant "CamelStrawsModel" 325 1103515245 ∈ tb_l := (tb_in 1327 (by decide +kernel) rfl)
theorem wk_Mo_326 : Cond.methodLink "CamelStrawsModel" 326 y_Mo_yearsOf ∈ tb_l := (tb_in 1323 (by decide +kernel) rfl)
theorem ok_Mo_yearsOf : MOk y_Mo_yearsOf b_Mo_yearsOf 6 (some .int) 3 := ⟨(tb_in 1326 (by decide +kernel) rfl), (tb_in 80 (by decide +kernel) rfl), by decide +kernel, by decide +kernel, by decide +kernel⟩
theorem wi_Mo_yearsOf : Cond.instanceMethod y_Mo_yearsOf ∈ tb_l := (tb_in 1325 (by decide +kernel) rfl)
theorem wl_Mo_Mo_yearsOf : Cond.selects "CamelStrawsModel" y_Mo_yearsOf y_Mo_yearsOf ∈ tb_l := (tb_in 60 (by decide +kernel) rfl)
theorem fo_Mo_101_34 : FOk "CamelStrawsModel" 101 34 40 (.array .int) true := FOk.mk0 cq_10 (by decide) (by decide) (by decide) rfl (tb_in 909 (by decide +kernel) rfl) rfl rfl
theorem wk_Mo_332 : Cond.methodLink "CamelStrawsModel" 332 y_Mo_lacks ∈ tb_l := (tb_in 1340 (by decide +kernel) rfl)
theorem ok_Mo_lacks : MOk y_Mo_lacks b_Mo_lacks 4 (some .int) 3 := ⟨(tb_in 1343 (by decide +kernel) rfl), (tb_in 80 (by decide +kernel) rfl), by decide +kernel, by decide +kernel, by decide +kernel⟩
theorem wi_Mo_lacks : Cond.instanceMethod y_Mo_lacks ∈ tb_l := (tb_in 1342 (by decide +kernel) rfl)
theorem wl_Mo_Mo_lacks : Cond.selects "CamelStrawsModel" y_Mo_lacks y_Mo_lacks ∈ tb_l := (tb_in 61 (by decide +kernel) rfl)
theorem wk_Mo_335 : Cond.methodLink "CamelStrawsModel" 335 y_Mo_keep ∈ tb_l := (tb_in 1344 (by decide +kernel) rfl)
theorem ok_Mo_keep : MOk y_Mo_keep b_Mo_keep 4 none 3 := ⟨(tb_in 1347 (by decide +kernel) rfl), (tb_in 80 (by decide +kernel) rfl), by decide +kernel, by decide +kernel, by decide +kernel⟩
theorem wi_Mo_keep : Cond.instanceMethod y_Mo_keep ∈ tb_l := (tb_in 1346 (by decide +kernel) rfl)
theorem wl_Mo_Mo_keep : Cond.selects "CamelStrawsModel" y_Mo_keep y_Mo_keep ∈ tb_l := (tb_in 62 (by decide +kernel) rfl)
theorem kc_Mo_339 : Cond.constant "CamelStrawsModel" 339 (-2147483648) ∈ tb_l := (tb_in 1352 (by decide +kernel) rfl)
theorem fo_Mo_110_34 : FOk "CamelStrawsModel" 110 34 43 (.array .int) true := FOk.mk0 cq_10 (by decide) (by decide) (by decide) rfl (tb_in 912 (by decide +kernel) rfl) rfl rfl
theorem wk_Mo_340 : Cond.methodLink "CamelStrawsModel" 340 y_Mo_feesAll ∈ tb_l := (tb_in 1369 (by decide +kernel) rfl)
theorem ok_Mo_feesAll : MOk y_Mo_feesAll b_Mo_feesAll 3 (some .int) 0 := ⟨(tb_in 1372 (by decide +kernel) rfl), (tb_in 80 (by decide +kernel) rfl), by decide +kernel, by decide +kernel, by decide +kernel⟩
theorem wi_Mo_feesAll : Cond.instanceMethod y_Mo_feesAll ∈ tb_l := (tb_in 1371 (by decide +kernel) rfl)
theorem wl_Mo_Mo_feesAll : Cond.selects "CamelStrawsModel" y_Mo_feesAll y_Mo_feesAll ∈ tb_l := (tb_in 64 (by decide +kernel) rfl)
theorem wk_Mo_343 : Cond.methodLink "CamelStrawsModel" 343 y_Mo_sumOf ∈ tb_l := (tb_in 1365 (by decide +kernel) rfl)
theorem ok_Mo_sumOf : MOk y_Mo_sumOf b_Mo_sumOf 2 (some .int) 1 := ⟨(tb_in 1368 (by decide +kernel) rfl), (tb_in 80 (by decide +kernel) rfl), by decide +kernel, by decide +kernel, by decide +kernel⟩
theorem wi_Mo_sumOf : Cond.instanceMethod y_Mo_sumOf ∈ tb_l := (tb_in 1367 (by decide +kernel) rfl)
theorem wl_Mo_Mo_sumOf : Cond.selects "CamelStrawsModel" y_Mo_sumOf y_Mo_sumOf ∈ tb_l := (tb_in 63 (by decide +kernel) rfl)
theorem kl_Mo_346 : Cond.constantLong "CamelStrawsModel" 346 31 ∈ tb_l := (tb_in 1378 (by decide +kernel) rfl)
theorem wk_Mo_348 : Cond.methodLink "CamelStrawsModel" 348 y_Mo_dayDigest ∈ tb_l := (tb_in 1388 (by decide +kernel) rfl)
theorem ok_Mo_dayDigest : MOk y_Mo_dayDigest b_Mo_dayDigest 8 (some .long) 3 := ⟨(tb_in 1391 (by decide +kernel) rfl), (tb_in 80 (by decide +kernel) rfl), by decide +kernel, by decide +kernel, by decide +kernel⟩
theorem wi_Mo_dayDigest : Cond.instanceMethod y_Mo_dayDigest ∈ tb_l := (tb_in 1390 (by decide +kernel) rfl)
theorem wl_Mo_Mo_dayDigest : Cond.selects "CamelStrawsModel" y_Mo_dayDigest y_Mo_dayDigest ∈ tb_l := (tb_in 67 (by decide +kernel) rfl)
theorem kl_Mo_352 : Cond.constantLong "CamelStrawsModel" 352 17 ∈ tb_l := (tb_in 1377 (by decide +kernel) rfl)
theorem wk_Mo_354 : Cond.methodLink "CamelStrawsModel" 354 y_Mo_count ∈ tb_l := (tb_in 1379 (by decide +kernel) rfl)
theorem ok_Mo_count : MOk y_Mo_count b_Mo_count 2 (some .int) 1 := ⟨(tb_in 1364 (by decide +kernel) rfl), (tb_in 80 (by decide +kernel) rfl), by decide +kernel, by decide +kernel, by decide +kernel⟩
theorem wi_Mo_count : Cond.instanceMethod y_Mo_count ∈ tb_l := (tb_in 1362 (by decide +kernel) rfl)
theorem wl_Mo_Mo_count : Cond.selects "CamelStrawsModel" y_Mo_count y_Mo_count ∈ tb_l := (tb_in 1363 (by decide +kernel) rfl)
theorem wk_Mo_357 : Cond.methodLink "CamelStrawsModel" 357 y_Mo_baleDigest ∈ tb_l := (tb_in 1380 (by decide +kernel) rfl)
theorem ok_Mo_baleDigest : MOk y_Mo_baleDigest b_Mo_baleDigest 7 (some .long) 2 := ⟨(tb_in 1383 (by decide +kernel) rfl), (tb_in 80 (by decide +kernel) rfl), by decide +kernel, by decide +kernel, by decide +kernel⟩
theorem wi_Mo_baleDigest : Cond.instanceMethod y_Mo_baleDigest ∈ tb_l := (tb_in 1382 (by decide +kernel) rfl)
theorem wl_Mo_Mo_baleDigest : Cond.selects "CamelStrawsModel" y_Mo_baleDigest y_Mo_baleDigest ∈ tb_l := (tb_in 65 (by decide +kernel) rfl)
theorem wk_Mo_361 : Cond.methodLink "CamelStrawsModel" 361 y_Mo_camelDigest ∈ tb_l := (tb_in 1384 (by decide +kernel) rfl)
theorem ok_Mo_camelDigest : MOk y_Mo_camelDigest b_Mo_camelDigest 6 (some .long) 2 := ⟨(tb_in 1387 (by decide +kernel) rfl), (tb_in 80 (by decide +kernel) rfl), by decide +kernel, by decide +kernel, by decide +kernel⟩
theorem wi_Mo_camelDigest : Cond.instanceMethod y_Mo_camelDigest ∈ tb_l := (tb_in 1386 (by decide +kernel) rfl)
theorem wl_Mo_Mo_camelDigest : Cond.selects "CamelStrawsModel" y_Mo_camelDigest y_Mo_camelDigest ∈ tb_l := (tb_in 66 (by decide +kernel) rfl)
