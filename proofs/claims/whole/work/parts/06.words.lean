theorem in_tt1 {w : Cond} (h : w ∈ tables_1_1) : w ∈ tables_1 := List.mem_append_left _ h
theorem in_tt2 {w : Cond} (h : w ∈ tables_1_2) : w ∈ tables_1 := List.mem_append_right _ (List.mem_append_left _ h)
theorem in_tt3 {w : Cond} (h : w ∈ tables_1_3) : w ∈ tables_1 := List.mem_append_right _ (List.mem_append_right _ (List.mem_append_left _ h))
theorem in_tt4 {w : Cond} (h : w ∈ tables_1_4) : w ∈ tables_1 := List.mem_append_right _ (List.mem_append_right _ (List.mem_append_right _ (List.mem_append_left _ h)))
theorem in_tt5 {w : Cond} (h : w ∈ tables_1_5) : w ∈ tables_1 := List.mem_append_right _ (List.mem_append_right _ (List.mem_append_right _ (List.mem_append_right _ (List.mem_append_left _ h))))
theorem in_tt6 {w : Cond} (h : w ∈ tables_1_6) : w ∈ tables_1 := List.mem_append_right _ (List.mem_append_right _ (List.mem_append_right _ (List.mem_append_right _ (List.mem_append_right _ (h)))))
set_option maxRecDepth 100000 in
theorem w_0 : Cond.selects yX6_board.cls yX6_board yX6_board ∈ wG := wG_of (List.mem_of_getElem? (i := 0) rfl) (by decide +kernel)
set_option maxRecDepth 100000 in
theorem w_1 : Cond.selects yX7_isPerson.cls yX7_isPerson yX7_isPerson ∈ wG := wG_of (List.mem_of_getElem? (i := 1) rfl) (by decide +kernel)
set_option maxRecDepth 100000 in
theorem w_2 : Cond.selects yX6_favourite.cls yX6_favourite yX6_favourite ∈ wG := wG_of (List.mem_of_getElem? (i := 2) rfl) (by decide +kernel)
set_option maxRecDepth 100000 in
theorem w_3 : Cond.selects yX6_knowsOf.cls yX6_knowsOf yX6_knowsOf ∈ wG := wG_of (List.mem_of_getElem? (i := 3) rfl) (by decide +kernel)
set_option maxRecDepth 100000 in
theorem w_4 : Cond.selects yX6_glow.cls yX6_glow yX6_glow ∈ wG := wG_of (List.mem_of_getElem? (i := 4) rfl) (by decide +kernel)
set_option maxRecDepth 100000 in
theorem w_5 : Cond.selects yX6_sum.cls yX6_sum yX6_sum ∈ wG := wG_of (List.mem_of_getElem? (i := 5) rfl) (by decide +kernel)
set_option maxRecDepth 100000 in
theorem w_6 : Cond.selects yX0_warmth.cls yX0_warmth yX0_warmth ∈ wG := wG_of (List.mem_of_getElem? (i := 6) rfl) (by decide +kernel)
set_option maxRecDepth 100000 in
theorem w_7 : Cond.selects yX6_twiceIfFresh.cls yX6_twiceIfFresh yX6_twiceIfFresh ∈ wG := wG_of (List.mem_of_getElem? (i := 7) rfl) (by decide +kernel)
set_option maxRecDepth 100000 in
theorem w_8 : Cond.selects yX3_write.cls yX3_write yX3_write ∈ wG := wG_of (List.mem_of_getElem? (i := 8) rfl) (by decide +kernel)
set_option maxRecDepth 100000 in
theorem w_9 : Cond.selects yX3_readText.cls yX3_readText yX3_readText ∈ wG := wG_of (List.mem_of_getElem? (i := 9) rfl) (by decide +kernel)
set_option maxRecDepth 100000 in
theorem w_10 : Cond.selects yX0_clear.cls yX0_clear yX0_clear ∈ wG := wG_of (List.mem_of_getElem? (i := 10) rfl) (by decide +kernel)
set_option maxRecDepth 100000 in
theorem w_11 : Cond.selects yX3_readClause.cls yX3_readClause yX3_readClause ∈ wG := wG_of (List.mem_of_getElem? (i := 11) rfl) (by decide +kernel)
set_option maxRecDepth 100000 in
theorem w_12 : Cond.selects yX3_next.cls yX3_next yX3_next ∈ wG := wG_of (List.mem_of_getElem? (i := 12) rfl) (by decide +kernel)
set_option maxRecDepth 100000 in
theorem w_13 : Cond.selects yX3_skipWord.cls yX3_skipWord yX3_skipWord ∈ wG := wG_of (List.mem_of_getElem? (i := 13) rfl) (by decide +kernel)
set_option maxRecDepth 100000 in
theorem w_14 : Cond.selects yX3_skip.cls yX3_skip yX3_skip ∈ wG := wG_of (List.mem_of_getElem? (i := 14) rfl) (by decide +kernel)
set_option maxRecDepth 100000 in
theorem w_15 : Cond.selects yX3_readWarmth.cls yX3_readWarmth yX3_readWarmth ∈ wG := wG_of (List.mem_of_getElem? (i := 15) rfl) (by decide +kernel)
set_option maxRecDepth 100000 in
theorem w_16 : Cond.selects yX3_readNumber.cls yX3_readNumber yX3_readNumber ∈ wG := wG_of (List.mem_of_getElem? (i := 16) rfl) (by decide +kernel)
set_option maxRecDepth 100000 in
theorem w_17 : Cond.selects yX3_readChoice.cls yX3_readChoice yX3_readChoice ∈ wG := wG_of (List.mem_of_getElem? (i := 17) rfl) (by decide +kernel)
set_option maxRecDepth 100000 in
theorem w_18 : Cond.selects yX3_readChain.cls yX3_readChain yX3_readChain ∈ wG := wG_of (List.mem_of_getElem? (i := 18) rfl) (by decide +kernel)
set_option maxRecDepth 100000 in
theorem w_19 : Cond.selects yX3_readFactor.cls yX3_readFactor yX3_readFactor ∈ wG := wG_of (List.mem_of_getElem? (i := 19) rfl) (by decide +kernel)
set_option maxRecDepth 100000 in
theorem w_20 : Cond.selects yX0_add.cls yX0_add yX0_add ∈ wG := wG_of (List.mem_of_getElem? (i := 20) rfl) (by decide +kernel)
set_option maxRecDepth 100000 in
theorem w_21 : Cond.selects yX3_readTest.cls yX3_readTest yX3_readTest ∈ wG := wG_of (List.mem_of_getElem? (i := 21) rfl) (by decide +kernel)
set_option maxRecDepth 100000 in
theorem w_22 : Cond.selects yX3_readSlope.cls yX3_readSlope yX3_readSlope ∈ wG := wG_of (List.mem_of_getElem? (i := 22) rfl) (by decide +kernel)
set_option maxRecDepth 100000 in
theorem w_23 : Cond.selects yX3_handOver.cls yX3_handOver yX3_handOver ∈ wG := wG_of (List.mem_of_getElem? (i := 23) rfl) (by decide +kernel)
set_option maxRecDepth 100000 in
theorem w_24 : Cond.selects yX6_ash.cls yX6_ash yX6_ash ∈ wG := wG_of (List.mem_of_getElem? (i := 24) rfl) (by decide +kernel)
set_option maxRecDepth 100000 in
theorem w_25 : Cond.selects yX6_spread.cls yX6_spread yX6_spread ∈ wG := wG_of (List.mem_of_getElem? (i := 25) rfl) (by decide +kernel)
set_option maxRecDepth 100000 in
theorem w_26 : Cond.selects yX6_hearersOf.cls yX6_hearersOf yX6_hearersOf ∈ wG := wG_of (List.mem_of_getElem? (i := 26) rfl) (by decide +kernel)
set_option maxRecDepth 100000 in
theorem w_27 : Cond.selects yX6_ride.cls yX6_ride yX6_ride ∈ wG := wG_of (List.mem_of_getElem? (i := 27) rfl) (by decide +kernel)
set_option maxRecDepth 100000 in
theorem w_28 : Cond.selects yX6_tell.cls yX6_tell yX6_tell ∈ wG := wG_of (List.mem_of_getElem? (i := 28) rfl) (by decide +kernel)
set_option maxRecDepth 100000 in
theorem w_29 : Cond.selects yX6_roll.cls yX6_roll yX6_roll ∈ wG := wG_of (List.mem_of_getElem? (i := 29) rfl) (by decide +kernel)
set_option maxRecDepth 100000 in
theorem w_30 : Cond.selects yX6_becomeLike.cls yX6_becomeLike yX6_becomeLike ∈ wG := wG_of (List.mem_of_getElem? (i := 30) rfl) (by decide +kernel)
set_option maxRecDepth 100000 in
theorem w_31 : Cond.selects yX2_clear.cls yX2_clear yX2_clear ∈ wG := wG_of (List.mem_of_getElem? (i := 31) rfl) (by decide +kernel)
set_option maxRecDepth 100000 in
theorem w_32 : Cond.selects yX2_append.cls yX2_append yX2_append ∈ wG := wG_of (List.mem_of_getElem? (i := 32) rfl) (by decide +kernel)
set_option maxRecDepth 100000 in
theorem w_33 : Cond.selects yX7_isAllSeenSo.cls yX7_isAllSeenSo yX7_isAllSeenSo ∈ wG := wG_of (List.mem_of_getElem? (i := 33) rfl) (by decide +kernel)
set_option maxRecDepth 100000 in
theorem w_34 : Cond.selects yX7_doPlanned.cls yX7_doPlanned yX7_doPlanned ∈ wG := wG_of (List.mem_of_getElem? (i := 34) rfl) (by decide +kernel)
set_option maxRecDepth 100000 in
theorem w_35 : Cond.selects yX7_tapeAt.cls yX7_tapeAt yX7_tapeAt ∈ wG := wG_of (List.mem_of_getElem? (i := 35) rfl) (by decide +kernel)
set_option maxRecDepth 100000 in
theorem w_36 : Cond.selects yX5_countFrom.cls yX5_countFrom yX5_countFrom ∈ wG := wG_of (List.mem_of_getElem? (i := 36) rfl) (by decide +kernel)
set_option maxRecDepth 100000 in
theorem w_37 : Cond.selects yX1_becomeLike.cls yX1_becomeLike yX1_becomeLike ∈ wG := wG_of (List.mem_of_getElem? (i := 37) rfl) (by decide +kernel)
set_option maxRecDepth 100000 in
theorem w_38 : Cond.selects yX2_becomeLike.cls yX2_becomeLike yX2_becomeLike ∈ wG := wG_of (List.mem_of_getElem? (i := 38) rfl) (by decide +kernel)
set_option maxRecDepth 100000 in
theorem w_39 : Cond.selects yX4_play.cls yX4_play yX4_play ∈ wG := wG_of (List.mem_of_getElem? (i := 39) rfl) (by decide +kernel)
set_option maxRecDepth 100000 in
theorem w_40 : Cond.selects yX4_run.cls yX4_run yX4_run ∈ wG := wG_of (List.mem_of_getElem? (i := 40) rfl) (by decide +kernel)
set_option maxRecDepth 100000 in
theorem w_41 : Cond.selects yX5_become.cls yX5_become yX5_become ∈ wG := wG_of (List.mem_of_getElem? (i := 41) rfl) (by decide +kernel)
set_option maxRecDepth 100000 in
theorem w_42 : Cond.selects yX5_lowestBits.cls yX5_lowestBits yX5_lowestBits ∈ wG := wG_of (List.mem_of_getElem? (i := 42) rfl) (by decide +kernel)
set_option maxRecDepth 100000 in
theorem w_43 : Cond.selects yX8_in.cls yX8_in yX8_in ∈ wG := wG_of (List.mem_of_getElem? (i := 43) rfl) (by decide +kernel)
set_option maxRecDepth 100000 in
theorem w_44 : Cond.selects yX8_isCarriage.cls yX8_isCarriage yX8_isCarriage ∈ wG := wG_of (List.mem_of_getElem? (i := 44) rfl) (by decide +kernel)
set_option maxRecDepth 100000 in
theorem w_45 : Cond.selects yX8_isTales.cls yX8_isTales yX8_isTales ∈ wG := wG_of (List.mem_of_getElem? (i := 45) rfl) (by decide +kernel)
set_option maxRecDepth 100000 in
theorem w_46 : Cond.selects yX8_isOne.cls yX8_isOne yX8_isOne ∈ wG := wG_of (List.mem_of_getElem? (i := 46) rfl) (by decide +kernel)
set_option maxRecDepth 100000 in
theorem w_47 : Cond.selects yX8_has.cls yX8_has yX8_has ∈ wG := wG_of (List.mem_of_getElem? (i := 47) rfl) (by decide +kernel)
set_option maxRecDepth 100000 in
theorem w_48 : Cond.selects yX8_goes.cls yX8_goes yX8_goes ∈ wG := wG_of (List.mem_of_getElem? (i := 48) rfl) (by decide +kernel)
set_option maxRecDepth 100000 in
theorem w_49 : Cond.selects yX8_isTale.cls yX8_isTale yX8_isTale ∈ wG := wG_of (List.mem_of_getElem? (i := 49) rfl) (by decide +kernel)
set_option maxRecDepth 100000 in
theorem w_50 : Cond.selects yX8_goesText.cls yX8_goesText yX8_goesText ∈ wG := wG_of (List.mem_of_getElem? (i := 50) rfl) (by decide +kernel)
set_option maxRecDepth 100000 in
theorem w_51 : Cond.selects yX8_takesClause.cls yX8_takesClause yX8_takesClause ∈ wG := wG_of (List.mem_of_getElem? (i := 51) rfl) (by decide +kernel)
set_option maxRecDepth 100000 in
theorem w_52 : Cond.selects yX8_takesHead.cls yX8_takesHead yX8_takesHead ∈ wG := wG_of (List.mem_of_getElem? (i := 52) rfl) (by decide +kernel)
set_option maxRecDepth 100000 in
theorem w_53 : Cond.selects yX8_next.cls yX8_next yX8_next ∈ wG := wG_of (List.mem_of_getElem? (i := 53) rfl) (by decide +kernel)
set_option maxRecDepth 100000 in
theorem w_54 : Cond.selects yX8_takesWord.cls yX8_takesWord yX8_takesWord ∈ wG := wG_of (List.mem_of_getElem? (i := 54) rfl) (by decide +kernel)
set_option maxRecDepth 100000 in
theorem w_55 : Cond.selects yX8_takes.cls yX8_takes yX8_takes ∈ wG := wG_of (List.mem_of_getElem? (i := 55) rfl) (by decide +kernel)
set_option maxRecDepth 100000 in
theorem w_56 : Cond.selects yX8_second.cls yX8_second yX8_second ∈ wG := wG_of (List.mem_of_getElem? (i := 56) rfl) (by decide +kernel)
set_option maxRecDepth 100000 in
theorem w_57 : Cond.selects yX8_takesNumber.cls yX8_takesNumber yX8_takesNumber ∈ wG := wG_of (List.mem_of_getElem? (i := 57) rfl) (by decide +kernel)
set_option maxRecDepth 100000 in
theorem w_58 : Cond.selects yX8_isDigit.cls yX8_isDigit yX8_isDigit ∈ wG := wG_of (List.mem_of_getElem? (i := 58) rfl) (by decide +kernel)
set_option maxRecDepth 100000 in
theorem w_59 : Cond.selects yX8_takesE.cls yX8_takesE yX8_takesE ∈ wG := wG_of (List.mem_of_getElem? (i := 59) rfl) (by decide +kernel)
set_option maxRecDepth 100000 in
theorem w_60 : Cond.selects yX8_takesTest.cls yX8_takesTest yX8_takesTest ∈ wG := wG_of (List.mem_of_getElem? (i := 60) rfl) (by decide +kernel)
set_option maxRecDepth 100000 in
theorem w_61 : Cond.selects yX8_place.cls yX8_place yX8_place ∈ wG := wG_of (List.mem_of_getElem? (i := 61) rfl) (by decide +kernel)
set_option maxRecDepth 100000 in
theorem w_62 : Cond.selects yX8_emits.cls yX8_emits yX8_emits ∈ wG := wG_of (List.mem_of_getElem? (i := 62) rfl) (by decide +kernel)
set_option maxRecDepth 100000 in
theorem w_63 : Cond.selects yX8_whole.cls yX8_whole yX8_whole ∈ wG := wG_of (List.mem_of_getElem? (i := 63) rfl) (by decide +kernel)
set_option maxRecDepth 100000 in
theorem w_64 : Cond.selects yX8_settle.cls yX8_settle yX8_settle ∈ wG := wG_of (List.mem_of_getElem? (i := 64) rfl) (by decide +kernel)
set_option maxRecDepth 100000 in
theorem w_65 : Cond.selects yX8_glow.cls yX8_glow yX8_glow ∈ wG := wG_of (List.mem_of_getElem? (i := 65) rfl) (by decide +kernel)
set_option maxRecDepth 100000 in
theorem w_66 : Cond.selects yX8_sum.cls yX8_sum yX8_sum ∈ wG := wG_of (List.mem_of_getElem? (i := 66) rfl) (by decide +kernel)
set_option maxRecDepth 100000 in
theorem w_67 : Cond.selects yX8_begin.cls yX8_begin yX8_begin ∈ wG := wG_of (List.mem_of_getElem? (i := 67) rfl) (by decide +kernel)
set_option maxRecDepth 100000 in
theorem w_68 : Cond.selects yX8_behind.cls yX8_behind yX8_behind ∈ wG := wG_of (List.mem_of_getElem? (i := 68) rfl) (by decide +kernel)
set_option maxRecDepth 100000 in
theorem w_69 : Cond.selects yX8_holds.cls yX8_holds yX8_holds ∈ wG := wG_of (List.mem_of_getElem? (i := 69) rfl) (by decide +kernel)
set_option maxRecDepth 100000 in
theorem w_70 : Cond.selects yX8_factOf.cls yX8_factOf yX8_factOf ∈ wG := wG_of (List.mem_of_getElem? (i := 70) rfl) (by decide +kernel)
set_option maxRecDepth 100000 in
theorem w_71 : Cond.selects yX8_tells.cls yX8_tells yX8_tells ∈ wG := wG_of (List.mem_of_getElem? (i := 71) rfl) (by decide +kernel)
set_option maxRecDepth 100000 in
theorem w_72 : Cond.selects yX8_isMinutes.cls yX8_isMinutes yX8_isMinutes ∈ wG := wG_of (List.mem_of_getElem? (i := 72) rfl) (by decide +kernel)
set_option maxRecDepth 100000 in
theorem w_73 : Cond.selects yX8_goMinutes.cls yX8_goMinutes yX8_goMinutes ∈ wG := wG_of (List.mem_of_getElem? (i := 73) rfl) (by decide +kernel)
set_option maxRecDepth 100000 in
theorem w_74 : Cond.selects yX8_goMinute.cls yX8_goMinute yX8_goMinute ∈ wG := wG_of (List.mem_of_getElem? (i := 74) rfl) (by decide +kernel)
set_option maxRecDepth 100000 in
theorem w_75 : Cond.selects yX8_tell.cls yX8_tell yX8_tell ∈ wG := wG_of (List.mem_of_getElem? (i := 75) rfl) (by decide +kernel)
set_option maxRecDepth 100000 in
theorem w_76 : Cond.selects yX8_least.cls yX8_least yX8_least ∈ wG := wG_of (List.mem_of_getElem? (i := 76) rfl) (by decide +kernel)
set_option maxRecDepth 100000 in
theorem w_77 : Cond.selects yX8_slope.cls yX8_slope yX8_slope ∈ wG := wG_of (List.mem_of_getElem? (i := 77) rfl) (by decide +kernel)
set_option maxRecDepth 100000 in
theorem w_78 : Cond.selects yX8_spread.cls yX8_spread yX8_spread ∈ wG := wG_of (List.mem_of_getElem? (i := 78) rfl) (by decide +kernel)
set_option maxRecDepth 100000 in
theorem w_79 : Cond.selects yX8_ash.cls yX8_ash yX8_ash ∈ wG := wG_of (List.mem_of_getElem? (i := 79) rfl) (by decide +kernel)
set_option maxRecDepth 100000 in
theorem w_80 : Cond.selects yX8_save.cls yX8_save yX8_save ∈ wG := wG_of (List.mem_of_getElem? (i := 80) rfl) (by decide +kernel)
set_option maxRecDepth 100000 in
theorem w_81 : Cond.selects yX8_putBack.cls yX8_putBack yX8_putBack ∈ wG := wG_of (List.mem_of_getElem? (i := 81) rfl) (by decide +kernel)
set_option maxRecDepth 100000 in
theorem w_82 : Cond.selects yX8_spotSwapped.cls yX8_spotSwapped yX8_spotSwapped ∈ wG := wG_of (List.mem_of_getElem? (i := 82) rfl) (by decide +kernel)
set_option maxRecDepth 100000 in
theorem w_83 : Cond.selects yX8_canOne.cls yX8_canOne yX8_canOne ∈ wG := wG_of (List.mem_of_getElem? (i := 83) rfl) (by decide +kernel)
set_option maxRecDepth 100000 in
theorem w_84 : Cond.selects yX8_isSeen.cls yX8_isSeen yX8_isSeen ∈ wG := wG_of (List.mem_of_getElem? (i := 84) rfl) (by decide +kernel)
set_option maxRecDepth 100000 in
theorem w_85 : Cond.selects yX8_stale.cls yX8_stale yX8_stale ∈ wG := wG_of (List.mem_of_getElem? (i := 85) rfl) (by decide +kernel)
set_option maxRecDepth 100000 in
theorem w_86 : Cond.selects yX8_lowest.cls yX8_lowest yX8_lowest ∈ wG := wG_of (List.mem_of_getElem? (i := 86) rfl) (by decide +kernel)
set_option maxRecDepth 100000 in
theorem w_87 : Cond.selects yX8_divisor.cls yX8_divisor yX8_divisor ∈ wG := wG_of (List.mem_of_getElem? (i := 87) rfl) (by decide +kernel)
set_option maxRecDepth 100000 in
theorem w_88 : Cond.selects yX8_bits.cls yX8_bits yX8_bits ∈ wG := wG_of (List.mem_of_getElem? (i := 88) rfl) (by decide +kernel)
set_option maxRecDepth 100000 in
theorem w_89 : Cond.selects yX8_isSeat.cls yX8_isSeat yX8_isSeat ∈ wG := wG_of (List.mem_of_getElem? (i := 89) rfl) (by decide +kernel)
set_option maxRecDepth 100000 in
theorem w_90 : Cond.selects yX8_goPlan.cls yX8_goPlan yX8_goPlan ∈ wG := wG_of (List.mem_of_getElem? (i := 90) rfl) (by decide +kernel)
set_option maxRecDepth 100000 in
theorem w_91 : Cond.selects yX8_isTape.cls yX8_isTape yX8_isTape ∈ wG := wG_of (List.mem_of_getElem? (i := 91) rfl) (by decide +kernel)
set_option maxRecDepth 100000 in
theorem w_92 : Cond.selects yX8_humsAct.cls yX8_humsAct yX8_humsAct ∈ wG := wG_of (List.mem_of_getElem? (i := 92) rfl) (by decide +kernel)
set_option maxRecDepth 100000 in
theorem w_93 : Cond.selects yX8_body.cls yX8_body yX8_body ∈ wG := wG_of (List.mem_of_getElem? (i := 93) rfl) (by decide +kernel)
set_option maxRecDepth 100000 in
theorem w_94 : Cond.selects yX8_oneHums.cls yX8_oneHums yX8_oneHums ∈ wG := wG_of (List.mem_of_getElem? (i := 94) rfl) (by decide +kernel)
set_option maxRecDepth 100000 in
theorem w_95 : Cond.selects yX8_leansAct.cls yX8_leansAct yX8_leansAct ∈ wG := wG_of (List.mem_of_getElem? (i := 95) rfl) (by decide +kernel)
set_option maxRecDepth 100000 in
theorem w_96 : Cond.selects yX8_girlLeans.cls yX8_girlLeans yX8_girlLeans ∈ wG := wG_of (List.mem_of_getElem? (i := 96) rfl) (by decide +kernel)
set_option maxRecDepth 100000 in
theorem w_97 : Cond.selects yX8_oneLeans.cls yX8_oneLeans yX8_oneLeans ∈ wG := wG_of (List.mem_of_getElem? (i := 97) rfl) (by decide +kernel)
set_option maxRecDepth 100000 in
theorem w_98 : Cond.selects yX8_tellsAct.cls yX8_tellsAct yX8_tellsAct ∈ wG := wG_of (List.mem_of_getElem? (i := 98) rfl) (by decide +kernel)
set_option maxRecDepth 100000 in
theorem w_99 : Cond.selects yX8_oneTells.cls yX8_oneTells yX8_oneTells ∈ wG := wG_of (List.mem_of_getElem? (i := 99) rfl) (by decide +kernel)
set_option maxRecDepth 100000 in
theorem w_100 : Cond.selects yX8_narrow.cls yX8_narrow yX8_narrow ∈ wG := wG_of (List.mem_of_getElem? (i := 100) rfl) (by decide +kernel)
set_option maxRecDepth 100000 in
theorem w_101 : Jvm.Cond.initialized "GossipTrainLaw" ∈ wG := wG_of (List.mem_append_right _ (in_tt1 (List.mem_of_getElem? (i := 0) rfl))) rfl
set_option maxRecDepth 100000 in
theorem w_102 : Jvm.Cond.initialized "GossipTrain" ∈ wG := wG_of (List.mem_append_right _ (in_tt1 (List.mem_of_getElem? (i := 1) rfl))) rfl
set_option maxRecDepth 100000 in
theorem w_103 : Jvm.Cond.initialized "GossipTrain$Train" ∈ wG := wG_of (List.mem_append_right _ (in_tt1 (List.mem_of_getElem? (i := 2) rfl))) rfl
set_option maxRecDepth 100000 in
theorem w_104 : Jvm.Cond.initialized "GossipTrain$Branch" ∈ wG := wG_of (List.mem_append_right _ (in_tt1 (List.mem_of_getElem? (i := 3) rfl))) rfl
set_option maxRecDepth 100000 in
theorem w_105 : Jvm.Cond.initialized "GossipTrain$Notes" ∈ wG := wG_of (List.mem_append_right _ (in_tt1 (List.mem_of_getElem? (i := 4) rfl))) rfl
set_option maxRecDepth 100000 in
theorem w_106 : Jvm.Cond.initialized "GossipTrain$Rows" ∈ wG := wG_of (List.mem_append_right _ (in_tt1 (List.mem_of_getElem? (i := 5) rfl))) rfl
set_option maxRecDepth 100000 in
theorem w_107 : Jvm.Cond.initialized "java/lang/Math" ∈ wG := wG_of (List.mem_append_right _ (in_tt1 (List.mem_of_getElem? (i := 6) rfl))) rfl
set_option maxRecDepth 100000 in
theorem w_108 : Jvm.Cond.initialized "GossipTrain$Scribe" ∈ wG := wG_of (List.mem_append_right _ (in_tt1 (List.mem_of_getElem? (i := 7) rfl))) rfl
set_option maxRecDepth 100000 in
theorem w_109 : Jvm.Cond.initialized "GossipTrain$Stage" ∈ wG := wG_of (List.mem_append_right _ (in_tt1 (List.mem_of_getElem? (i := 8) rfl))) rfl
set_option maxRecDepth 100000 in
theorem w_110 : Jvm.Cond.initialized "GossipTrain$Tape" ∈ wG := wG_of (List.mem_append_right _ (in_tt1 (List.mem_of_getElem? (i := 9) rfl))) rfl
set_option maxRecDepth 100000 in
theorem w_111 : Jvm.Cond.initialized "GossipTrainModel" ∈ wG := wG_of (List.mem_append_right _ (in_tt1 (List.mem_of_getElem? (i := 10) rfl))) rfl
set_option maxRecDepth 100000 in
theorem w_112 : Jvm.Cond.initialized "java/lang/String" ∈ wG := wG_of (List.mem_append_right _ (in_tt1 (List.mem_of_getElem? (i := 11) rfl))) rfl
set_option maxRecDepth 100000 in
theorem w_113 : Jvm.Cond.initialized "java/lang/StringLatin1" ∈ wG := wG_of (List.mem_append_right _ (in_tt1 (List.mem_of_getElem? (i := 12) rfl))) rfl
set_option maxRecDepth 100000 in
theorem w_114 : Jvm.Cond.initialized "jdk/internal/util/Preconditions" ∈ wG := wG_of (List.mem_append_right _ (in_tt1 (List.mem_of_getElem? (i := 13) rfl))) rfl
set_option maxRecDepth 100000 in
theorem w_117 : Jvm.Cond.initialized "java/lang/System" ∈ wG := wG_of (List.mem_append_right _ (in_tt1 (List.mem_of_getElem? (i := 16) rfl))) rfl
set_option maxRecDepth 100000 in
theorem w_118 : Jvm.Cond.initialized "java/lang/Integer" ∈ wG := wG_of (List.mem_append_right _ (in_tt1 (List.mem_of_getElem? (i := 17) rfl))) rfl
set_option maxRecDepth 100000 in
theorem w_119 : Jvm.Cond.classLink "GossipTrainLaw" (7 : Nat) "GossipTrain" ∈ wG := wG_of (List.mem_append_right _ (in_tt1 (List.mem_of_getElem? (i := 18) rfl))) rfl
set_option maxRecDepth 100000 in
theorem w_120 : Jvm.Cond.instantiable "GossipTrain" (10 : Nat) ∈ wG := wG_of (List.mem_append_right _ (in_tt1 (List.mem_of_getElem? (i := 19) rfl))) rfl
set_option maxRecDepth 100000 in
theorem w_121 : Jvm.Cond.methodLink "GossipTrainLaw" (9 : Nat) ({ cls := "GossipTrain", name := "<init>", desc := "()V" } : Jvm.MethodName) ∈ wG := wG_of (List.mem_append_right _ (in_tt1 (List.mem_of_getElem? (i := 20) rfl))) rfl
set_option maxRecDepth 100000 in
theorem w_122 : Jvm.Cond.instanceMethod ({ cls := "GossipTrain", name := "<init>", desc := "()V" } : Jvm.MethodName) ∈ wG := wG_of (List.mem_append_right _ (in_tt1 (List.mem_of_getElem? (i := 21) rfl))) rfl
set_option maxRecDepth 100000 in
theorem w_123 : Jvm.Cond.code ({ cls := "GossipTrain", name := "<init>", desc := "()V" } : Jvm.MethodName) prog_1_method_1_code (2 : Nat) (Option.none : Option Jvm.ClassFile.FieldType) ∈ wG := wG_of (List.mem_append_right _ (in_tt1 (List.mem_of_getElem? (i := 22) rfl))) rfl
set_option maxRecDepth 100000 in
theorem w_124 : Jvm.Cond.methodLink "GossipTrain" (3 : Nat) ({ cls := "java/lang/Object", name := "<init>", desc := "()V" } : Jvm.MethodName) ∈ wG := wG_of (List.mem_append_right _ (in_tt1 (List.mem_of_getElem? (i := 23) rfl))) rfl
set_option maxRecDepth 100000 in
theorem w_125 : Jvm.Cond.instanceMethod ({ cls := "java/lang/Object", name := "<init>", desc := "()V" } : Jvm.MethodName) ∈ wG := wG_of (List.mem_append_right _ (in_tt1 (List.mem_of_getElem? (i := 24) rfl))) rfl
set_option maxRecDepth 100000 in
theorem w_126 : Jvm.Cond.code ({ cls := "java/lang/Object", name := "<init>", desc := "()V" } : Jvm.MethodName) object_method_1_code (1 : Nat) (Option.none : Option Jvm.ClassFile.FieldType) ∈ wG := wG_of (List.mem_append_right _ (in_tt1 (List.mem_of_getElem? (i := 25) rfl))) rfl
set_option maxRecDepth 100000 in
theorem w_127 : Jvm.Cond.classLink "GossipTrain" (9 : Nat) "GossipTrain$Train" ∈ wG := wG_of (List.mem_append_right _ (in_tt1 (List.mem_of_getElem? (i := 26) rfl))) rfl
set_option maxRecDepth 100000 in
theorem w_128 : Jvm.Cond.instantiable "GossipTrain$Train" (14 : Nat) ∈ wG := wG_of (List.mem_append_right _ (in_tt1 (List.mem_of_getElem? (i := 27) rfl))) rfl
set_option maxRecDepth 100000 in
theorem w_129 : Jvm.Cond.methodLinkNest "GossipTrain" (11 : Nat) ({ cls := "GossipTrain$Train", name := "<init>", desc := "()V" } : Jvm.MethodName) "GossipTrain" ∈ wN := List.mem_filter.mpr ⟨in_tt1 (List.mem_of_getElem? (i := 28) rfl), rfl⟩
set_option maxRecDepth 100000 in
theorem w_130 : Jvm.Cond.instanceMethod ({ cls := "GossipTrain$Train", name := "<init>", desc := "()V" } : Jvm.MethodName) ∈ wG := wG_of (List.mem_append_right _ (in_tt1 (List.mem_of_getElem? (i := 29) rfl))) rfl
set_option maxRecDepth 100000 in
theorem w_131 : Jvm.Cond.code ({ cls := "GossipTrain$Train", name := "<init>", desc := "()V" } : Jvm.MethodName) prog_8_method_1_code (2 : Nat) (Option.none : Option Jvm.ClassFile.FieldType) ∈ wG := wG_of (List.mem_append_right _ (in_tt1 (List.mem_of_getElem? (i := 30) rfl))) rfl
set_option maxRecDepth 100000 in
theorem w_132 : Jvm.Cond.methodLink "GossipTrain$Train" (3 : Nat) ({ cls := "java/lang/Object", name := "<init>", desc := "()V" } : Jvm.MethodName) ∈ wG := wG_of (List.mem_append_right _ (in_tt1 (List.mem_of_getElem? (i := 31) rfl))) rfl
set_option maxRecDepth 100000 in
theorem w_133 : Jvm.Cond.classLink "GossipTrain$Train" (53 : Nat) "GossipTrain$Branch" ∈ wG := wG_of (List.mem_append_right _ (in_tt1 (List.mem_of_getElem? (i := 32) rfl))) rfl
set_option maxRecDepth 100000 in
theorem w_134 : Jvm.Cond.instantiable "GossipTrain$Branch" (3 : Nat) ∈ wG := wG_of (List.mem_append_right _ (in_tt1 (List.mem_of_getElem? (i := 33) rfl))) rfl
set_option maxRecDepth 100000 in
theorem w_135 : Jvm.Cond.methodLinkNest "GossipTrain$Train" (55 : Nat) ({ cls := "GossipTrain$Branch", name := "<init>", desc := "()V" } : Jvm.MethodName) "GossipTrain" ∈ wN := List.mem_filter.mpr ⟨in_tt1 (List.mem_of_getElem? (i := 34) rfl), rfl⟩
set_option maxRecDepth 100000 in
theorem w_136 : Jvm.Cond.instanceMethod ({ cls := "GossipTrain$Branch", name := "<init>", desc := "()V" } : Jvm.MethodName) ∈ wG := wG_of (List.mem_append_right _ (in_tt1 (List.mem_of_getElem? (i := 35) rfl))) rfl
set_option maxRecDepth 100000 in
theorem w_137 : Jvm.Cond.code ({ cls := "GossipTrain$Branch", name := "<init>", desc := "()V" } : Jvm.MethodName) prog_2_method_1_code (1 : Nat) (Option.none : Option Jvm.ClassFile.FieldType) ∈ wG := wG_of (List.mem_append_right _ (in_tt1 (List.mem_of_getElem? (i := 36) rfl))) rfl
set_option maxRecDepth 100000 in
theorem w_138 : Jvm.Cond.methodLink "GossipTrain$Branch" (3 : Nat) ({ cls := "java/lang/Object", name := "<init>", desc := "()V" } : Jvm.MethodName) ∈ wG := wG_of (List.mem_append_right _ (in_tt1 (List.mem_of_getElem? (i := 37) rfl))) rfl
set_option maxRecDepth 100000 in
theorem w_139 : Jvm.Cond.fieldLink "GossipTrain$Branch" (9 : Nat) "GossipTrain$Branch" "code" "[I" ∈ wG := wG_of (List.mem_append_right _ (in_tt1 (List.mem_of_getElem? (i := 38) rfl))) rfl
set_option maxRecDepth 100000 in
theorem w_140 : Jvm.Cond.fieldLink "GossipTrain$Branch" (15 : Nat) "GossipTrain$Branch" "size" "I" ∈ wG := wG_of (List.mem_append_right _ (in_tt1 (List.mem_of_getElem? (i := 39) rfl))) rfl
set_option maxRecDepth 100000 in
theorem w_141 : Jvm.Cond.fieldLink "GossipTrain$Branch" (19 : Nat) "GossipTrain$Branch" "slope" "I" ∈ wG := wG_of (List.mem_append_right _ (in_tt1 (List.mem_of_getElem? (i := 40) rfl))) rfl
set_option maxRecDepth 100000 in
theorem w_142 : Jvm.Cond.fieldLinkNest "GossipTrain$Scribe" (64 : Nat) "GossipTrain$Branch" "slope" "I" "GossipTrain" ∈ wN := List.mem_filter.mpr ⟨in_tt1 (List.mem_of_getElem? (i := 41) rfl), rfl⟩
set_option maxRecDepth 100000 in
theorem w_143 : Jvm.Cond.fieldLinkNest "GossipTrain" (146 : Nat) "GossipTrain$Branch" "slope" "I" "GossipTrain" ∈ wN := List.mem_filter.mpr ⟨in_tt1 (List.mem_of_getElem? (i := 42) rfl), rfl⟩
set_option maxRecDepth 100000 in
theorem w_144 : Jvm.Cond.fieldLinkNest "GossipTrain$Train" (103 : Nat) "GossipTrain$Branch" "slope" "I" "GossipTrain" ∈ wN := List.mem_filter.mpr ⟨in_tt1 (List.mem_of_getElem? (i := 43) rfl), rfl⟩
set_option maxRecDepth 100000 in
theorem w_152 : Jvm.Cond.arrayClass Jvm.ClassFile.FieldType.int ∈ wG := wG_of (List.mem_append_right _ (in_tt1 (List.mem_of_getElem? (i := 51) rfl))) rfl
set_option maxRecDepth 100000 in
theorem w_153 : Jvm.Cond.arrayClass Jvm.ClassFile.FieldType.boolean ∈ wG := wG_of (List.mem_append_right _ (in_tt1 (List.mem_of_getElem? (i := 52) rfl))) rfl
set_option maxRecDepth 100000 in
theorem w_154 : Jvm.Cond.fieldLink "GossipTrain$Train" (9 : Nat) "GossipTrain$Train" "heat" "[I" ∈ wG := wG_of (List.mem_append_right _ (in_tt1 (List.mem_of_getElem? (i := 53) rfl))) rfl
set_option maxRecDepth 100000 in
theorem w_155 : Jvm.Cond.fieldLinkNest "GossipTrain" (113 : Nat) "GossipTrain$Train" "heat" "[I" "GossipTrain" ∈ wN := List.mem_filter.mpr ⟨in_tt1 (List.mem_of_getElem? (i := 54) rfl), rfl⟩
set_option maxRecDepth 100000 in
theorem w_156 : Jvm.Cond.fieldLink "GossipTrain$Train" (15 : Nat) "GossipTrain$Train" "often" "[I" ∈ wG := wG_of (List.mem_append_right _ (in_tt1 (List.mem_of_getElem? (i := 55) rfl))) rfl
set_option maxRecDepth 100000 in
theorem w_157 : Jvm.Cond.fieldLinkNest "GossipTrain" (116 : Nat) "GossipTrain$Train" "often" "[I" "GossipTrain" ∈ wN := List.mem_filter.mpr ⟨in_tt1 (List.mem_of_getElem? (i := 56) rfl), rfl⟩
set_option maxRecDepth 100000 in
theorem w_158 : Jvm.Cond.fieldLink "GossipTrain$Train" (18 : Nat) "GossipTrain$Train" "kinds" "[I" ∈ wG := wG_of (List.mem_append_right _ (in_tt1 (List.mem_of_getElem? (i := 57) rfl))) rfl
set_option maxRecDepth 100000 in
theorem w_159 : Jvm.Cond.fieldLinkNest "GossipTrain" (78 : Nat) "GossipTrain$Train" "kinds" "[I" "GossipTrain" ∈ wN := List.mem_filter.mpr ⟨in_tt1 (List.mem_of_getElem? (i := 58) rfl), rfl⟩
set_option maxRecDepth 100000 in
theorem w_160 : Jvm.Cond.fieldLink "GossipTrain$Train" (21 : Nat) "GossipTrain$Train" "vs" "[I" ∈ wG := wG_of (List.mem_append_right _ (in_tt1 (List.mem_of_getElem? (i := 59) rfl))) rfl
set_option maxRecDepth 100000 in
theorem w_161 : Jvm.Cond.fieldLinkNest "GossipTrain" (82 : Nat) "GossipTrain$Train" "vs" "[I" "GossipTrain" ∈ wN := List.mem_filter.mpr ⟨in_tt1 (List.mem_of_getElem? (i := 60) rfl), rfl⟩
set_option maxRecDepth 100000 in
theorem w_162 : Jvm.Cond.fieldLink "GossipTrain$Train" (24 : Nat) "GossipTrain$Train" "carriages" "[I" ∈ wG := wG_of (List.mem_append_right _ (in_tt1 (List.mem_of_getElem? (i := 61) rfl))) rfl
set_option maxRecDepth 100000 in
theorem w_163 : Jvm.Cond.fieldLinkNest "GossipTrain" (85 : Nat) "GossipTrain$Train" "carriages" "[I" "GossipTrain" ∈ wN := List.mem_filter.mpr ⟨in_tt1 (List.mem_of_getElem? (i := 62) rfl), rfl⟩
set_option maxRecDepth 100000 in
theorem w_164 : Jvm.Cond.fieldLink "GossipTrain$Train" (27 : Nat) "GossipTrain$Train" "known" "[I" ∈ wG := wG_of (List.mem_append_right _ (in_tt1 (List.mem_of_getElem? (i := 63) rfl))) rfl
set_option maxRecDepth 100000 in
theorem w_165 : Jvm.Cond.fieldLinkNest "GossipTrain" (88 : Nat) "GossipTrain$Train" "known" "[I" "GossipTrain" ∈ wN := List.mem_filter.mpr ⟨in_tt1 (List.mem_of_getElem? (i := 64) rfl), rfl⟩
set_option maxRecDepth 100000 in
theorem w_166 : Jvm.Cond.fieldLink "GossipTrain$Train" (30 : Nat) "GossipTrain$Train" "off" "[Z" ∈ wG := wG_of (List.mem_append_right _ (in_tt1 (List.mem_of_getElem? (i := 65) rfl))) rfl
set_option maxRecDepth 100000 in
theorem w_167 : Jvm.Cond.fieldLinkNest "GossipTrain" (91 : Nat) "GossipTrain$Train" "off" "[Z" "GossipTrain" ∈ wN := List.mem_filter.mpr ⟨in_tt1 (List.mem_of_getElem? (i := 66) rfl), rfl⟩
set_option maxRecDepth 100000 in
theorem w_168 : Jvm.Cond.fieldLink "GossipTrain$Train" (34 : Nat) "GossipTrain$Train" "rows" "[I" ∈ wG := wG_of (List.mem_append_right _ (in_tt1 (List.mem_of_getElem? (i := 67) rfl))) rfl
set_option maxRecDepth 100000 in
theorem w_169 : Jvm.Cond.fieldLinkNest "GossipTrain" (119 : Nat) "GossipTrain$Train" "rows" "[I" "GossipTrain" ∈ wN := List.mem_filter.mpr ⟨in_tt1 (List.mem_of_getElem? (i := 68) rfl), rfl⟩
set_option maxRecDepth 100000 in
theorem w_170 : Jvm.Cond.fieldLink "GossipTrain$Train" (37 : Nat) "GossipTrain$Train" "letters" "[I" ∈ wG := wG_of (List.mem_append_right _ (in_tt1 (List.mem_of_getElem? (i := 69) rfl))) rfl
set_option maxRecDepth 100000 in
theorem w_171 : Jvm.Cond.fieldLink "GossipTrain$Train" (40 : Nat) "GossipTrain$Train" "passengers" "I" ∈ wG := wG_of (List.mem_append_right _ (in_tt1 (List.mem_of_getElem? (i := 70) rfl))) rfl
set_option maxRecDepth 100000 in
theorem w_172 : Jvm.Cond.fieldLinkNest "GossipTrain" (175 : Nat) "GossipTrain$Train" "passengers" "I" "GossipTrain" ∈ wN := List.mem_filter.mpr ⟨in_tt1 (List.mem_of_getElem? (i := 71) rfl), rfl⟩
set_option maxRecDepth 100000 in
theorem w_173 : Jvm.Cond.fieldLink "GossipTrain$Train" (44 : Nat) "GossipTrain$Train" "steam" "I" ∈ wG := wG_of (List.mem_append_right _ (in_tt1 (List.mem_of_getElem? (i := 72) rfl))) rfl
set_option maxRecDepth 100000 in
theorem w_174 : Jvm.Cond.fieldLinkNest "GossipTrain" (151 : Nat) "GossipTrain$Train" "steam" "I" "GossipTrain" ∈ wN := List.mem_filter.mpr ⟨in_tt1 (List.mem_of_getElem? (i := 73) rfl), rfl⟩
set_option maxRecDepth 100000 in
theorem w_175 : Jvm.Cond.fieldLink "GossipTrain$Train" (47 : Nat) "GossipTrain$Train" "place" "I" ∈ wG := wG_of (List.mem_append_right _ (in_tt1 (List.mem_of_getElem? (i := 74) rfl))) rfl
set_option maxRecDepth 100000 in
theorem w_176 : Jvm.Cond.fieldLinkNest "GossipTrain" (154 : Nat) "GossipTrain$Train" "place" "I" "GossipTrain" ∈ wN := List.mem_filter.mpr ⟨in_tt1 (List.mem_of_getElem? (i := 75) rfl), rfl⟩
set_option maxRecDepth 100000 in
theorem w_177 : Jvm.Cond.fieldLink "GossipTrain$Train" (50 : Nat) "GossipTrain$Train" "minute" "I" ∈ wG := wG_of (List.mem_append_right _ (in_tt1 (List.mem_of_getElem? (i := 76) rfl))) rfl
set_option maxRecDepth 100000 in
theorem w_178 : Jvm.Cond.fieldLinkNest "GossipTrain" (143 : Nat) "GossipTrain$Train" "minute" "I" "GossipTrain" ∈ wN := List.mem_filter.mpr ⟨in_tt1 (List.mem_of_getElem? (i := 77) rfl), rfl⟩
set_option maxRecDepth 100000 in
theorem w_179 : Jvm.Cond.fieldLink "GossipTrain$Train" (56 : Nat) "GossipTrain$Train" "held" "LGossipTrain$Branch;" ∈ wG := wG_of (List.mem_append_right _ (in_tt1 (List.mem_of_getElem? (i := 78) rfl))) rfl
set_option maxRecDepth 100000 in
theorem w_180 : Jvm.Cond.fieldLinkNest "GossipTrain" (139 : Nat) "GossipTrain$Train" "held" "LGossipTrain$Branch;" "GossipTrain" ∈ wN := List.mem_filter.mpr ⟨in_tt1 (List.mem_of_getElem? (i := 79) rfl), rfl⟩
set_option maxRecDepth 100000 in
theorem w_210 : Jvm.Cond.classLink "GossipTrain" (24 : Nat) "GossipTrain$Notes" ∈ wG := wG_of (List.mem_append_right _ (in_tt1 (List.mem_of_getElem? (i := 109) rfl))) rfl
set_option maxRecDepth 100000 in
theorem w_211 : Jvm.Cond.instantiable "GossipTrain$Notes" (3 : Nat) ∈ wG := wG_of (List.mem_append_right _ (in_tt1 (List.mem_of_getElem? (i := 110) rfl))) rfl
set_option maxRecDepth 100000 in
theorem w_212 : Jvm.Cond.methodLinkNest "GossipTrain" (26 : Nat) ({ cls := "GossipTrain$Notes", name := "<init>", desc := "()V" } : Jvm.MethodName) "GossipTrain" ∈ wN := List.mem_filter.mpr ⟨in_tt1 (List.mem_of_getElem? (i := 111) rfl), rfl⟩
set_option maxRecDepth 100000 in
theorem w_213 : Jvm.Cond.instanceMethod ({ cls := "GossipTrain$Notes", name := "<init>", desc := "()V" } : Jvm.MethodName) ∈ wG := wG_of (List.mem_append_right _ (in_tt1 (List.mem_of_getElem? (i := 112) rfl))) rfl
set_option maxRecDepth 100000 in
theorem w_214 : Jvm.Cond.code ({ cls := "GossipTrain$Notes", name := "<init>", desc := "()V" } : Jvm.MethodName) prog_3_method_1_code (1 : Nat) (Option.none : Option Jvm.ClassFile.FieldType) ∈ wG := wG_of (List.mem_append_right _ (in_tt1 (List.mem_of_getElem? (i := 113) rfl))) rfl
set_option maxRecDepth 100000 in
theorem w_215 : Jvm.Cond.methodLink "GossipTrain$Notes" (3 : Nat) ({ cls := "java/lang/Object", name := "<init>", desc := "()V" } : Jvm.MethodName) ∈ wG := wG_of (List.mem_append_right _ (in_tt1 (List.mem_of_getElem? (i := 114) rfl))) rfl
set_option maxRecDepth 100000 in
theorem w_216 : Jvm.Cond.classLink "GossipTrain$Notes" (9 : Nat) "GossipTrain$Rows" ∈ wG := wG_of (List.mem_append_right _ (in_tt1 (List.mem_of_getElem? (i := 115) rfl))) rfl
set_option maxRecDepth 100000 in
theorem w_217 : Jvm.Cond.instantiable "GossipTrain$Rows" (5 : Nat) ∈ wG := wG_of (List.mem_append_right _ (in_tt1 (List.mem_of_getElem? (i := 116) rfl))) rfl
set_option maxRecDepth 100000 in
theorem w_218 : Jvm.Cond.methodLinkNest "GossipTrain$Notes" (11 : Nat) ({ cls := "GossipTrain$Rows", name := "<init>", desc := "(I)V" } : Jvm.MethodName) "GossipTrain" ∈ wN := List.mem_filter.mpr ⟨in_tt1 (List.mem_of_getElem? (i := 117) rfl), rfl⟩
set_option maxRecDepth 100000 in
theorem w_219 : Jvm.Cond.instanceMethod ({ cls := "GossipTrain$Rows", name := "<init>", desc := "(I)V" } : Jvm.MethodName) ∈ wG := wG_of (List.mem_append_right _ (in_tt1 (List.mem_of_getElem? (i := 118) rfl))) rfl
set_option maxRecDepth 100000 in
theorem w_220 : Jvm.Cond.code ({ cls := "GossipTrain$Rows", name := "<init>", desc := "(I)V" } : Jvm.MethodName) prog_4_method_1_code (2 : Nat) (Option.none : Option Jvm.ClassFile.FieldType) ∈ wG := wG_of (List.mem_append_right _ (in_tt1 (List.mem_of_getElem? (i := 119) rfl))) rfl
set_option maxRecDepth 100000 in
theorem w_221 : Jvm.Cond.methodLink "GossipTrain$Rows" (3 : Nat) ({ cls := "java/lang/Object", name := "<init>", desc := "()V" } : Jvm.MethodName) ∈ wG := wG_of (List.mem_append_right _ (in_tt1 (List.mem_of_getElem? (i := 120) rfl))) rfl
set_option maxRecDepth 100000 in
theorem w_222 : Jvm.Cond.methodLink "GossipTrain$Rows" (25 : Nat) ({ cls := "java/lang/Math", name := "min", desc := "(II)I" } : Jvm.MethodName) ∈ wG := wG_of (List.mem_append_right _ (in_tt1 (List.mem_of_getElem? (i := 121) rfl))) rfl
set_option maxRecDepth 100000 in
theorem w_223 : Jvm.Cond.static ({ cls := "java/lang/Math", name := "min", desc := "(II)I" } : Jvm.MethodName) ∈ wG := wG_of (List.mem_append_right _ (in_tt1 (List.mem_of_getElem? (i := 122) rfl))) rfl
set_option maxRecDepth 100000 in
theorem w_224 : Jvm.Cond.code ({ cls := "java/lang/Math", name := "min", desc := "(II)I" } : Jvm.MethodName) prog_13_method_69_code (2 : Nat) (Option.some Jvm.ClassFile.FieldType.int) ∈ wG := wG_of (List.mem_append_right _ (in_tt1 (List.mem_of_getElem? (i := 123) rfl))) rfl
set_option maxRecDepth 100000 in
theorem w_225 : Jvm.Cond.fieldLink "GossipTrain$Rows" (11 : Nat) "GossipTrain$Rows" "first" "[I" ∈ wG := wG_of (List.mem_append_right _ (in_tt1 (List.mem_of_getElem? (i := 124) rfl))) rfl
set_option maxRecDepth 100000 in
theorem w_226 : Jvm.Cond.fieldLinkNest "GossipTrain" (211 : Nat) "GossipTrain$Rows" "first" "[I" "GossipTrain" ∈ wN := List.mem_filter.mpr ⟨in_tt1 (List.mem_of_getElem? (i := 125) rfl), rfl⟩
set_option maxRecDepth 100000 in
theorem w_227 : Jvm.Cond.fieldLink "GossipTrain$Rows" (15 : Nat) "GossipTrain$Rows" "second" "[I" ∈ wG := wG_of (List.mem_append_right _ (in_tt1 (List.mem_of_getElem? (i := 126) rfl))) rfl
set_option maxRecDepth 100000 in
theorem w_228 : Jvm.Cond.fieldLinkNest "GossipTrain" (214 : Nat) "GossipTrain$Rows" "second" "[I" "GossipTrain" ∈ wN := List.mem_filter.mpr ⟨in_tt1 (List.mem_of_getElem? (i := 127) rfl), rfl⟩
set_option maxRecDepth 100000 in
theorem w_229 : Jvm.Cond.fieldLink "GossipTrain$Rows" (18 : Nat) "GossipTrain$Rows" "third" "[I" ∈ wG := wG_of (List.mem_append_right _ (in_tt1 (List.mem_of_getElem? (i := 128) rfl))) rfl
set_option maxRecDepth 100000 in
theorem w_230 : Jvm.Cond.fieldLinkNest "GossipTrain" (217 : Nat) "GossipTrain$Rows" "third" "[I" "GossipTrain" ∈ wN := List.mem_filter.mpr ⟨in_tt1 (List.mem_of_getElem? (i := 129) rfl), rfl⟩
set_option maxRecDepth 100000 in
theorem w_231 : Jvm.Cond.fieldLink "GossipTrain$Rows" (31 : Nat) "GossipTrain$Rows" "most" "I" ∈ wG := wG_of (List.mem_append_right _ (in_tt1 (List.mem_of_getElem? (i := 130) rfl))) rfl
set_option maxRecDepth 100000 in
theorem w_232 : Jvm.Cond.fieldLink "GossipTrain$Rows" (21 : Nat) "GossipTrain$Rows" "size" "I" ∈ wG := wG_of (List.mem_append_right _ (in_tt1 (List.mem_of_getElem? (i := 131) rfl))) rfl
set_option maxRecDepth 100000 in
theorem w_233 : Jvm.Cond.fieldLinkNest "GossipTrain" (208 : Nat) "GossipTrain$Rows" "size" "I" "GossipTrain" ∈ wN := List.mem_filter.mpr ⟨in_tt1 (List.mem_of_getElem? (i := 132) rfl), rfl⟩
set_option maxRecDepth 100000 in
theorem w_245 : Jvm.Cond.fieldLink "GossipTrain$Notes" (14 : Nat) "GossipTrain$Notes" "seen" "LGossipTrain$Rows;" ∈ wG := wG_of (List.mem_append_right _ (in_tt1 (List.mem_of_getElem? (i := 144) rfl))) rfl
set_option maxRecDepth 100000 in
theorem w_246 : Jvm.Cond.fieldLinkNest "GossipTrain" (178 : Nat) "GossipTrain$Notes" "seen" "LGossipTrain$Rows;" "GossipTrain" ∈ wN := List.mem_filter.mpr ⟨in_tt1 (List.mem_of_getElem? (i := 145) rfl), rfl⟩
set_option maxRecDepth 100000 in
theorem w_247 : Jvm.Cond.fieldLink "GossipTrain$Notes" (20 : Nat) "GossipTrain$Notes" "plan" "LGossipTrain$Rows;" ∈ wG := wG_of (List.mem_append_right _ (in_tt1 (List.mem_of_getElem? (i := 146) rfl))) rfl
set_option maxRecDepth 100000 in
theorem w_248 : Jvm.Cond.fieldLinkNest "GossipTrain" (205 : Nat) "GossipTrain$Notes" "plan" "LGossipTrain$Rows;" "GossipTrain" ∈ wN := List.mem_filter.mpr ⟨in_tt1 (List.mem_of_getElem? (i := 147) rfl), rfl⟩
set_option maxRecDepth 100000 in
theorem w_249 : Jvm.Cond.fieldLink "GossipTrain$Notes" (23 : Nat) "GossipTrain$Notes" "book" "LGossipTrain$Rows;" ∈ wG := wG_of (List.mem_append_right _ (in_tt1 (List.mem_of_getElem? (i := 148) rfl))) rfl
set_option maxRecDepth 100000 in
theorem w_250 : Jvm.Cond.fieldLinkNest "GossipTrain" (224 : Nat) "GossipTrain$Notes" "book" "LGossipTrain$Rows;" "GossipTrain" ∈ wN := List.mem_filter.mpr ⟨in_tt1 (List.mem_of_getElem? (i := 149) rfl), rfl⟩
set_option maxRecDepth 100000 in
theorem w_258 : Jvm.Cond.classLink "GossipTrain" (38 : Nat) "GossipTrain$Scribe" ∈ wG := wG_of (List.mem_append_right _ (in_tt1 (List.mem_of_getElem? (i := 157) rfl))) rfl
set_option maxRecDepth 100000 in
theorem w_259 : Jvm.Cond.instantiable "GossipTrain$Scribe" (4 : Nat) ∈ wG := wG_of (List.mem_append_right _ (in_tt1 (List.mem_of_getElem? (i := 158) rfl))) rfl
set_option maxRecDepth 100000 in
theorem w_260 : Jvm.Cond.methodLinkNest "GossipTrain" (40 : Nat) ({ cls := "GossipTrain$Scribe", name := "<init>", desc := "()V" } : Jvm.MethodName) "GossipTrain" ∈ wN := List.mem_filter.mpr ⟨in_tt1 (List.mem_of_getElem? (i := 159) rfl), rfl⟩
set_option maxRecDepth 100000 in
theorem w_261 : Jvm.Cond.instanceMethod ({ cls := "GossipTrain$Scribe", name := "<init>", desc := "()V" } : Jvm.MethodName) ∈ wG := wG_of (List.mem_append_right _ (in_tt1 (List.mem_of_getElem? (i := 160) rfl))) rfl
set_option maxRecDepth 100000 in
theorem w_262 : Jvm.Cond.code ({ cls := "GossipTrain$Scribe", name := "<init>", desc := "()V" } : Jvm.MethodName) prog_5_method_1_code (1 : Nat) (Option.none : Option Jvm.ClassFile.FieldType) ∈ wG := wG_of (List.mem_append_right _ (in_tt1 (List.mem_of_getElem? (i := 161) rfl))) rfl
set_option maxRecDepth 100000 in
theorem w_263 : Jvm.Cond.methodLink "GossipTrain$Scribe" (3 : Nat) ({ cls := "java/lang/Object", name := "<init>", desc := "()V" } : Jvm.MethodName) ∈ wG := wG_of (List.mem_append_right _ (in_tt1 (List.mem_of_getElem? (i := 162) rfl))) rfl
set_option maxRecDepth 100000 in
theorem w_264 : Jvm.Cond.classLink "GossipTrain$Scribe" (22 : Nat) "GossipTrain$Branch" ∈ wG := wG_of (List.mem_append_right _ (in_tt1 (List.mem_of_getElem? (i := 163) rfl))) rfl
set_option maxRecDepth 100000 in
theorem w_265 : Jvm.Cond.methodLinkNest "GossipTrain$Scribe" (24 : Nat) ({ cls := "GossipTrain$Branch", name := "<init>", desc := "()V" } : Jvm.MethodName) "GossipTrain" ∈ wN := List.mem_filter.mpr ⟨in_tt1 (List.mem_of_getElem? (i := 164) rfl), rfl⟩
set_option maxRecDepth 100000 in
theorem w_266 : Jvm.Cond.fieldLink "GossipTrain$Scribe" (9 : Nat) "GossipTrain$Scribe" "text" "[I" ∈ wG := wG_of (List.mem_append_right _ (in_tt1 (List.mem_of_getElem? (i := 165) rfl))) rfl
set_option maxRecDepth 100000 in
theorem w_267 : Jvm.Cond.fieldLink "GossipTrain$Scribe" (15 : Nat) "GossipTrain$Scribe" "length" "I" ∈ wG := wG_of (List.mem_append_right _ (in_tt1 (List.mem_of_getElem? (i := 166) rfl))) rfl
set_option maxRecDepth 100000 in
theorem w_268 : Jvm.Cond.fieldLinkNest "GossipTrain" (129 : Nat) "GossipTrain$Scribe" "length" "I" "GossipTrain" ∈ wN := List.mem_filter.mpr ⟨in_tt1 (List.mem_of_getElem? (i := 167) rfl), rfl⟩
set_option maxRecDepth 100000 in
theorem w_269 : Jvm.Cond.fieldLink "GossipTrain$Scribe" (19 : Nat) "GossipTrain$Scribe" "at" "I" ∈ wG := wG_of (List.mem_append_right _ (in_tt1 (List.mem_of_getElem? (i := 168) rfl))) rfl
set_option maxRecDepth 100000 in
theorem w_270 : Jvm.Cond.fieldLinkNest "GossipTrain" (132 : Nat) "GossipTrain$Scribe" "at" "I" "GossipTrain" ∈ wN := List.mem_filter.mpr ⟨in_tt1 (List.mem_of_getElem? (i := 169) rfl), rfl⟩
set_option maxRecDepth 100000 in
theorem w_271 : Jvm.Cond.fieldLink "GossipTrain$Scribe" (25 : Nat) "GossipTrain$Scribe" "draft" "LGossipTrain$Branch;" ∈ wG := wG_of (List.mem_append_right _ (in_tt1 (List.mem_of_getElem? (i := 170) rfl))) rfl
set_option maxRecDepth 100000 in
theorem w_281 : Jvm.Cond.classLink "GossipTrain" (49 : Nat) "GossipTrain$Stage" ∈ wG := wG_of (List.mem_append_right _ (in_tt1 (List.mem_of_getElem? (i := 180) rfl))) rfl
set_option maxRecDepth 100000 in
theorem w_282 : Jvm.Cond.instantiable "GossipTrain$Stage" (5 : Nat) ∈ wG := wG_of (List.mem_append_right _ (in_tt1 (List.mem_of_getElem? (i := 181) rfl))) rfl
set_option maxRecDepth 100000 in
theorem w_283 : Jvm.Cond.methodLinkNest "GossipTrain" (51 : Nat) ({ cls := "GossipTrain$Stage", name := "<init>", desc := "()V" } : Jvm.MethodName) "GossipTrain" ∈ wN := List.mem_filter.mpr ⟨in_tt1 (List.mem_of_getElem? (i := 182) rfl), rfl⟩
set_option maxRecDepth 100000 in
theorem w_284 : Jvm.Cond.instanceMethod ({ cls := "GossipTrain$Stage", name := "<init>", desc := "()V" } : Jvm.MethodName) ∈ wG := wG_of (List.mem_append_right _ (in_tt1 (List.mem_of_getElem? (i := 183) rfl))) rfl
set_option maxRecDepth 100000 in
theorem w_285 : Jvm.Cond.code ({ cls := "GossipTrain$Stage", name := "<init>", desc := "()V" } : Jvm.MethodName) prog_6_method_1_code (1 : Nat) (Option.none : Option Jvm.ClassFile.FieldType) ∈ wG := wG_of (List.mem_append_right _ (in_tt1 (List.mem_of_getElem? (i := 184) rfl))) rfl
set_option maxRecDepth 100000 in
theorem w_286 : Jvm.Cond.methodLink "GossipTrain$Stage" (3 : Nat) ({ cls := "java/lang/Object", name := "<init>", desc := "()V" } : Jvm.MethodName) ∈ wG := wG_of (List.mem_append_right _ (in_tt1 (List.mem_of_getElem? (i := 185) rfl))) rfl
set_option maxRecDepth 100000 in
theorem w_287 : Jvm.Cond.fieldLink "GossipTrain$Stage" (9 : Nat) "GossipTrain$Stage" "bodies" "[I" ∈ wG := wG_of (List.mem_append_right _ (in_tt1 (List.mem_of_getElem? (i := 186) rfl))) rfl
set_option maxRecDepth 100000 in
theorem w_288 : Jvm.Cond.fieldLinkNest "GossipTrain" (264 : Nat) "GossipTrain$Stage" "bodies" "[I" "GossipTrain" ∈ wN := List.mem_filter.mpr ⟨in_tt1 (List.mem_of_getElem? (i := 187) rfl), rfl⟩
set_option maxRecDepth 100000 in
theorem w_289 : Jvm.Cond.fieldLink "GossipTrain$Stage" (15 : Nat) "GossipTrain$Stage" "ran" "I" ∈ wG := wG_of (List.mem_append_right _ (in_tt1 (List.mem_of_getElem? (i := 188) rfl))) rfl
set_option maxRecDepth 100000 in
theorem w_290 : Jvm.Cond.fieldLinkNest "GossipTrain" (244 : Nat) "GossipTrain$Stage" "ran" "I" "GossipTrain" ∈ wN := List.mem_filter.mpr ⟨in_tt1 (List.mem_of_getElem? (i := 189) rfl), rfl⟩
set_option maxRecDepth 100000 in
theorem w_291 : Jvm.Cond.fieldLink "GossipTrain$Stage" (19 : Nat) "GossipTrain$Stage" "number" "I" ∈ wG := wG_of (List.mem_append_right _ (in_tt1 (List.mem_of_getElem? (i := 190) rfl))) rfl
set_option maxRecDepth 100000 in
theorem w_292 : Jvm.Cond.fieldLinkNest "GossipTrain" (247 : Nat) "GossipTrain$Stage" "number" "I" "GossipTrain" ∈ wN := List.mem_filter.mpr ⟨in_tt1 (List.mem_of_getElem? (i := 191) rfl), rfl⟩
set_option maxRecDepth 100000 in
theorem w_293 : Jvm.Cond.fieldLink "GossipTrain$Stage" (22 : Nat) "GossipTrain$Stage" "kind" "I" ∈ wG := wG_of (List.mem_append_right _ (in_tt1 (List.mem_of_getElem? (i := 192) rfl))) rfl
set_option maxRecDepth 100000 in
theorem w_294 : Jvm.Cond.fieldLinkNest "GossipTrain" (250 : Nat) "GossipTrain$Stage" "kind" "I" "GossipTrain" ∈ wN := List.mem_filter.mpr ⟨in_tt1 (List.mem_of_getElem? (i := 193) rfl), rfl⟩
set_option maxRecDepth 100000 in
theorem w_295 : Jvm.Cond.fieldLink "GossipTrain$Stage" (25 : Nat) "GossipTrain$Stage" "v" "I" ∈ wG := wG_of (List.mem_append_right _ (in_tt1 (List.mem_of_getElem? (i := 194) rfl))) rfl
set_option maxRecDepth 100000 in
theorem w_296 : Jvm.Cond.fieldLinkNest "GossipTrain" (253 : Nat) "GossipTrain$Stage" "v" "I" "GossipTrain" ∈ wN := List.mem_filter.mpr ⟨in_tt1 (List.mem_of_getElem? (i := 195) rfl), rfl⟩
set_option maxRecDepth 100000 in
theorem w_308 : Jvm.Cond.classLink "GossipTrain" (56 : Nat) "GossipTrain$Tape" ∈ wG := wG_of (List.mem_append_right _ (in_tt1 (List.mem_of_getElem? (i := 207) rfl))) rfl
set_option maxRecDepth 100000 in
theorem w_310 : Jvm.Cond.instantiable "GossipTrain$Tape" (3 : Nat) ∈ wG := wG_of (List.mem_append_right _ (in_tt1 (List.mem_of_getElem? (i := 209) rfl))) rfl
set_option maxRecDepth 100000 in
theorem w_311 : Jvm.Cond.methodLinkNest "GossipTrain" (62 : Nat) ({ cls := "GossipTrain$Tape", name := "<init>", desc := "()V" } : Jvm.MethodName) "GossipTrain" ∈ wN := List.mem_filter.mpr ⟨in_tt1 (List.mem_of_getElem? (i := 210) rfl), rfl⟩
set_option maxRecDepth 100000 in
theorem w_312 : Jvm.Cond.instanceMethod ({ cls := "GossipTrain$Tape", name := "<init>", desc := "()V" } : Jvm.MethodName) ∈ wG := wG_of (List.mem_append_right _ (in_tt1 (List.mem_of_getElem? (i := 211) rfl))) rfl
set_option maxRecDepth 100000 in
theorem w_313 : Jvm.Cond.code ({ cls := "GossipTrain$Tape", name := "<init>", desc := "()V" } : Jvm.MethodName) prog_7_method_1_code (1 : Nat) (Option.none : Option Jvm.ClassFile.FieldType) ∈ wG := wG_of (List.mem_append_right _ (in_tt1 (List.mem_of_getElem? (i := 212) rfl))) rfl
set_option maxRecDepth 100000 in
theorem w_314 : Jvm.Cond.methodLink "GossipTrain$Tape" (3 : Nat) ({ cls := "java/lang/Object", name := "<init>", desc := "()V" } : Jvm.MethodName) ∈ wG := wG_of (List.mem_append_right _ (in_tt1 (List.mem_of_getElem? (i := 213) rfl))) rfl
set_option maxRecDepth 100000 in
theorem w_315 : Jvm.Cond.fieldLink "GossipTrain$Tape" (9 : Nat) "GossipTrain$Tape" "items" "[J" ∈ wG := wG_of (List.mem_append_right _ (in_tt1 (List.mem_of_getElem? (i := 214) rfl))) rfl
set_option maxRecDepth 100000 in
theorem w_316 : Jvm.Cond.fieldLinkNest "GossipTrain" (237 : Nat) "GossipTrain$Tape" "items" "[J" "GossipTrain" ∈ wN := List.mem_filter.mpr ⟨in_tt1 (List.mem_of_getElem? (i := 215) rfl), rfl⟩
set_option maxRecDepth 100000 in
theorem w_317 : Jvm.Cond.fieldLink "GossipTrain$Tape" (15 : Nat) "GossipTrain$Tape" "sort" "I" ∈ wG := wG_of (List.mem_append_right _ (in_tt1 (List.mem_of_getElem? (i := 216) rfl))) rfl
set_option maxRecDepth 100000 in
theorem w_318 : Jvm.Cond.fieldLinkNest "GossipTrain" (231 : Nat) "GossipTrain$Tape" "sort" "I" "GossipTrain" ∈ wN := List.mem_filter.mpr ⟨in_tt1 (List.mem_of_getElem? (i := 217) rfl), rfl⟩
set_option maxRecDepth 100000 in
theorem w_319 : Jvm.Cond.fieldLink "GossipTrain$Tape" (19 : Nat) "GossipTrain$Tape" "size" "I" ∈ wG := wG_of (List.mem_append_right _ (in_tt1 (List.mem_of_getElem? (i := 218) rfl))) rfl
set_option maxRecDepth 100000 in
theorem w_320 : Jvm.Cond.fieldLinkNest "GossipTrain" (273 : Nat) "GossipTrain$Tape" "size" "I" "GossipTrain" ∈ wN := List.mem_filter.mpr ⟨in_tt1 (List.mem_of_getElem? (i := 219) rfl), rfl⟩
set_option maxRecDepth 100000 in
theorem w_328 : Jvm.Cond.arrayClass Jvm.ClassFile.FieldType.long ∈ wG := wG_of (List.mem_append_right _ (in_tt1 (List.mem_of_getElem? (i := 227) rfl))) rfl
set_option maxRecDepth 100000 in
theorem w_329 : Jvm.Cond.fieldLink "GossipTrain" (12 : Nat) "GossipTrain" "now" "LGossipTrain$Train;" ∈ wG := wG_of (List.mem_append_right _ (in_tt1 (List.mem_of_getElem? (i := 228) rfl))) rfl
set_option maxRecDepth 100000 in
theorem w_330 : Jvm.Cond.fieldLink "GossipTrain" (18 : Nat) "GossipTrain" "trial" "LGossipTrain$Train;" ∈ wG := wG_of (List.mem_append_right _ (in_tt1 (List.mem_of_getElem? (i := 229) rfl))) rfl
set_option maxRecDepth 100000 in
theorem w_331 : Jvm.Cond.fieldLink "GossipTrain" (21 : Nat) "GossipTrain" "imageTrain" "LGossipTrain$Train;" ∈ wG := wG_of (List.mem_append_right _ (in_tt1 (List.mem_of_getElem? (i := 230) rfl))) rfl
set_option maxRecDepth 100000 in
theorem w_332 : Jvm.Cond.fieldLink "GossipTrain" (27 : Nat) "GossipTrain" "notes" "LGossipTrain$Notes;" ∈ wG := wG_of (List.mem_append_right _ (in_tt1 (List.mem_of_getElem? (i := 231) rfl))) rfl
set_option maxRecDepth 100000 in
theorem w_333 : Jvm.Cond.fieldLink "GossipTrain" (31 : Nat) "GossipTrain" "imageNotes" "LGossipTrain$Notes;" ∈ wG := wG_of (List.mem_append_right _ (in_tt1 (List.mem_of_getElem? (i := 232) rfl))) rfl
set_option maxRecDepth 100000 in
theorem w_334 : Jvm.Cond.fieldLink "GossipTrain" (34 : Nat) "GossipTrain" "hasImage" "Z" ∈ wG := wG_of (List.mem_append_right _ (in_tt1 (List.mem_of_getElem? (i := 233) rfl))) rfl
set_option maxRecDepth 100000 in
theorem w_335 : Jvm.Cond.fieldLink "GossipTrain" (41 : Nat) "GossipTrain" "scribe" "LGossipTrain$Scribe;" ∈ wG := wG_of (List.mem_append_right _ (in_tt1 (List.mem_of_getElem? (i := 234) rfl))) rfl
set_option maxRecDepth 100000 in
theorem w_336 : Jvm.Cond.fieldLink "GossipTrain" (45 : Nat) "GossipTrain" "branches" "I" ∈ wG := wG_of (List.mem_append_right _ (in_tt1 (List.mem_of_getElem? (i := 235) rfl))) rfl
set_option maxRecDepth 100000 in
theorem w_337 : Jvm.Cond.fieldLink "GossipTrain" (52 : Nat) "GossipTrain" "stage" "LGossipTrain$Stage;" ∈ wG := wG_of (List.mem_append_right _ (in_tt1 (List.mem_of_getElem? (i := 236) rfl))) rfl
set_option maxRecDepth 100000 in
theorem w_338 : Jvm.Cond.fieldLink "GossipTrain" (58 : Nat) "GossipTrain" "tapes" "[LGossipTrain$Tape;" ∈ wG := wG_of (List.mem_append_right _ (in_tt1 (List.mem_of_getElem? (i := 237) rfl))) rfl
set_option maxRecDepth 100000 in
theorem w_360 : Jvm.Cond.methodLink "GossipTrainLaw" (13 : Nat) ({ cls := "GossipTrain", name := "one", desc := "(IIII)I" } : Jvm.MethodName) ∈ wG := wG_of (List.mem_append_right _ (in_tt2 (List.mem_of_getElem? (i := 19) rfl))) rfl
set_option maxRecDepth 100000 in
theorem w_361 : Jvm.Cond.instanceMethod ({ cls := "GossipTrain", name := "one", desc := "(IIII)I" } : Jvm.MethodName) ∈ wG := wG_of (List.mem_append_right _ (in_tt2 (List.mem_of_getElem? (i := 20) rfl))) rfl
set_option maxRecDepth 100000 in
theorem w_362 : Jvm.Cond.selects "GossipTrain" ({ cls := "GossipTrain", name := "one", desc := "(IIII)I" } : Jvm.MethodName) ({ cls := "GossipTrain", name := "one", desc := "(IIII)I" } : Jvm.MethodName) ∈ wG := wG_of (List.mem_append_right _ (in_tt2 (List.mem_of_getElem? (i := 21) rfl))) rfl
set_option maxRecDepth 100000 in
theorem w_363 : Jvm.Cond.code ({ cls := "GossipTrain", name := "one", desc := "(IIII)I" } : Jvm.MethodName) prog_1_method_2_code (5 : Nat) (Option.some Jvm.ClassFile.FieldType.int) ∈ wG := wG_of (List.mem_append_right _ (in_tt2 (List.mem_of_getElem? (i := 22) rfl))) rfl
set_option maxRecDepth 100000 in
theorem w_364 : Jvm.Cond.methodLink "GossipTrain" (63 : Nat) ({ cls := "GossipTrain", name := "isWithin", desc := "(II)Z" } : Jvm.MethodName) ∈ wG := wG_of (List.mem_append_right _ (in_tt2 (List.mem_of_getElem? (i := 23) rfl))) rfl
set_option maxRecDepth 100000 in
theorem w_365 : Jvm.Cond.static ({ cls := "GossipTrain", name := "isWithin", desc := "(II)Z" } : Jvm.MethodName) ∈ wG := wG_of (List.mem_append_right _ (in_tt2 (List.mem_of_getElem? (i := 24) rfl))) rfl
set_option maxRecDepth 100000 in
theorem w_366 : Jvm.Cond.code ({ cls := "GossipTrain", name := "isWithin", desc := "(II)Z" } : Jvm.MethodName) prog_1_method_39_code (2 : Nat) (Option.some Jvm.ClassFile.FieldType.boolean) ∈ wG := wG_of (List.mem_append_right _ (in_tt2 (List.mem_of_getElem? (i := 25) rfl))) rfl
set_option maxRecDepth 100000 in
theorem w_367 : Jvm.Cond.methodLink "GossipTrain" (67 : Nat) ({ cls := "GossipTrain", name := "isUpTo", desc := "(II)Z" } : Jvm.MethodName) ∈ wG := wG_of (List.mem_append_right _ (in_tt2 (List.mem_of_getElem? (i := 26) rfl))) rfl
set_option maxRecDepth 100000 in
theorem w_368 : Jvm.Cond.static ({ cls := "GossipTrain", name := "isUpTo", desc := "(II)Z" } : Jvm.MethodName) ∈ wG := wG_of (List.mem_append_right _ (in_tt2 (List.mem_of_getElem? (i := 27) rfl))) rfl
set_option maxRecDepth 100000 in
theorem w_369 : Jvm.Cond.code ({ cls := "GossipTrain", name := "isUpTo", desc := "(II)Z" } : Jvm.MethodName) prog_1_method_40_code (2 : Nat) (Option.some Jvm.ClassFile.FieldType.boolean) ∈ wG := wG_of (List.mem_append_right _ (in_tt2 (List.mem_of_getElem? (i := 28) rfl))) rfl
set_option maxRecDepth 100000 in
theorem w_370 : Jvm.Cond.methodLinkNest "GossipTrain" (70 : Nat) ({ cls := "GossipTrain$Train", name := "board", desc := "(IIII)I" } : Jvm.MethodName) "GossipTrain" ∈ wN := List.mem_filter.mpr ⟨in_tt2 (List.mem_of_getElem? (i := 29) rfl), rfl⟩
set_option maxRecDepth 100000 in
theorem w_372 : Jvm.Cond.instanceMethod ({ cls := "GossipTrain$Train", name := "board", desc := "(IIII)I" } : Jvm.MethodName) ∈ wG := wG_of (List.mem_append_right _ (in_tt2 (List.mem_of_getElem? (i := 31) rfl))) rfl
set_option maxRecDepth 100000 in
theorem w_373 : Jvm.Cond.code ({ cls := "GossipTrain$Train", name := "board", desc := "(IIII)I" } : Jvm.MethodName) prog_8_method_3_code (6 : Nat) (Option.some Jvm.ClassFile.FieldType.int) ∈ wG := wG_of (List.mem_append_right _ (in_tt2 (List.mem_of_getElem? (i := 32) rfl))) rfl
set_option maxRecDepth 100000 in
theorem w_374 : Jvm.Cond.methodLink "GossipTrainLaw" (18 : Nat) ({ cls := "GossipTrain", name := "of", desc := "(II)I" } : Jvm.MethodName) ∈ wG := wG_of (List.mem_append_right _ (in_tt2 (List.mem_of_getElem? (i := 33) rfl))) rfl
set_option maxRecDepth 100000 in
theorem w_375 : Jvm.Cond.instanceMethod ({ cls := "GossipTrain", name := "of", desc := "(II)I" } : Jvm.MethodName) ∈ wG := wG_of (List.mem_append_right _ (in_tt2 (List.mem_of_getElem? (i := 34) rfl))) rfl
set_option maxRecDepth 100000 in
theorem w_376 : Jvm.Cond.selects "GossipTrain" ({ cls := "GossipTrain", name := "of", desc := "(II)I" } : Jvm.MethodName) ({ cls := "GossipTrain", name := "of", desc := "(II)I" } : Jvm.MethodName) ∈ wG := wG_of (List.mem_append_right _ (in_tt2 (List.mem_of_getElem? (i := 35) rfl))) rfl
set_option maxRecDepth 100000 in
theorem w_377 : Jvm.Cond.code ({ cls := "GossipTrain", name := "of", desc := "(II)I" } : Jvm.MethodName) prog_1_method_3_code (4 : Nat) (Option.some Jvm.ClassFile.FieldType.int) ∈ wG := wG_of (List.mem_append_right _ (in_tt2 (List.mem_of_getElem? (i := 36) rfl))) rfl
set_option maxRecDepth 100000 in
theorem w_378 : Jvm.Cond.methodLink "GossipTrain" (74 : Nat) ({ cls := "GossipTrain", name := "isPerson", desc := "(I)Z" } : Jvm.MethodName) ∈ wG := wG_of (List.mem_append_right _ (in_tt2 (List.mem_of_getElem? (i := 37) rfl))) rfl
set_option maxRecDepth 100000 in
theorem w_380 : Jvm.Cond.instanceMethod ({ cls := "GossipTrain", name := "isPerson", desc := "(I)Z" } : Jvm.MethodName) ∈ wG := wG_of (List.mem_append_right _ (in_tt2 (List.mem_of_getElem? (i := 39) rfl))) rfl
set_option maxRecDepth 100000 in
theorem w_381 : Jvm.Cond.code ({ cls := "GossipTrain", name := "isPerson", desc := "(I)Z" } : Jvm.MethodName) prog_1_method_37_code (2 : Nat) (Option.some Jvm.ClassFile.FieldType.boolean) ∈ wG := wG_of (List.mem_append_right _ (in_tt2 (List.mem_of_getElem? (i := 40) rfl))) rfl
set_option maxRecDepth 100000 in
theorem w_382 : Jvm.Cond.methodLink "GossipTrain" (95 : Nat) ({ cls := "GossipTrain", name := "asNumber", desc := "(Z)I" } : Jvm.MethodName) ∈ wG := wG_of (List.mem_append_right _ (in_tt2 (List.mem_of_getElem? (i := 41) rfl))) rfl
set_option maxRecDepth 100000 in
theorem w_383 : Jvm.Cond.static ({ cls := "GossipTrain", name := "asNumber", desc := "(Z)I" } : Jvm.MethodName) ∈ wG := wG_of (List.mem_append_right _ (in_tt2 (List.mem_of_getElem? (i := 42) rfl))) rfl
set_option maxRecDepth 100000 in
theorem w_384 : Jvm.Cond.code ({ cls := "GossipTrain", name := "asNumber", desc := "(Z)I" } : Jvm.MethodName) prog_1_method_41_code (1 : Nat) (Option.some Jvm.ClassFile.FieldType.int) ∈ wG := wG_of (List.mem_append_right _ (in_tt2 (List.mem_of_getElem? (i := 43) rfl))) rfl
set_option maxRecDepth 100000 in
theorem w_385 : Jvm.Cond.methodLinkNest "GossipTrain" (99 : Nat) ({ cls := "GossipTrain$Train", name := "favourite", desc := "(I)I" } : Jvm.MethodName) "GossipTrain" ∈ wN := List.mem_filter.mpr ⟨in_tt2 (List.mem_of_getElem? (i := 44) rfl), rfl⟩
set_option maxRecDepth 100000 in
theorem w_387 : Jvm.Cond.instanceMethod ({ cls := "GossipTrain$Train", name := "favourite", desc := "(I)I" } : Jvm.MethodName) ∈ wG := wG_of (List.mem_append_right _ (in_tt2 (List.mem_of_getElem? (i := 46) rfl))) rfl
set_option maxRecDepth 100000 in
theorem w_388 : Jvm.Cond.code ({ cls := "GossipTrain$Train", name := "favourite", desc := "(I)I" } : Jvm.MethodName) prog_8_method_8_code (6 : Nat) (Option.some Jvm.ClassFile.FieldType.int) ∈ wG := wG_of (List.mem_append_right _ (in_tt2 (List.mem_of_getElem? (i := 47) rfl))) rfl
set_option maxRecDepth 100000 in
theorem w_389 : Jvm.Cond.methodLink "GossipTrain$Train" (77 : Nat) ({ cls := "GossipTrain$Train", name := "knowsOf", desc := "(II)Z" } : Jvm.MethodName) ∈ wG := wG_of (List.mem_append_right _ (in_tt2 (List.mem_of_getElem? (i := 48) rfl))) rfl
set_option maxRecDepth 100000 in
theorem w_391 : Jvm.Cond.instanceMethod ({ cls := "GossipTrain$Train", name := "knowsOf", desc := "(II)Z" } : Jvm.MethodName) ∈ wG := wG_of (List.mem_append_right _ (in_tt2 (List.mem_of_getElem? (i := 50) rfl))) rfl
set_option maxRecDepth 100000 in
theorem w_392 : Jvm.Cond.code ({ cls := "GossipTrain$Train", name := "knowsOf", desc := "(II)Z" } : Jvm.MethodName) prog_8_method_4_code (3 : Nat) (Option.some Jvm.ClassFile.FieldType.boolean) ∈ wG := wG_of (List.mem_append_right _ (in_tt2 (List.mem_of_getElem? (i := 51) rfl))) rfl
set_option maxRecDepth 100000 in
theorem w_393 : Jvm.Cond.methodLink "GossipTrain$Train" (81 : Nat) ({ cls := "GossipTrain$Train", name := "glow", desc := "(II)I" } : Jvm.MethodName) ∈ wG := wG_of (List.mem_append_right _ (in_tt2 (List.mem_of_getElem? (i := 52) rfl))) rfl
set_option maxRecDepth 100000 in
theorem w_395 : Jvm.Cond.instanceMethod ({ cls := "GossipTrain$Train", name := "glow", desc := "(II)I" } : Jvm.MethodName) ∈ wG := wG_of (List.mem_append_right _ (in_tt2 (List.mem_of_getElem? (i := 54) rfl))) rfl
set_option maxRecDepth 100000 in
theorem w_396 : Jvm.Cond.code ({ cls := "GossipTrain$Train", name := "glow", desc := "(II)I" } : Jvm.MethodName) prog_8_method_5_code (4 : Nat) (Option.some Jvm.ClassFile.FieldType.int) ∈ wG := wG_of (List.mem_append_right _ (in_tt2 (List.mem_of_getElem? (i := 55) rfl))) rfl
set_option maxRecDepth 100000 in
theorem w_397 : Jvm.Cond.methodLink "GossipTrain$Train" (66 : Nat) ({ cls := "GossipTrain$Train", name := "sum", desc := "(II)I" } : Jvm.MethodName) ∈ wG := wG_of (List.mem_append_right _ (in_tt2 (List.mem_of_getElem? (i := 56) rfl))) rfl
set_option maxRecDepth 100000 in
theorem w_399 : Jvm.Cond.instanceMethod ({ cls := "GossipTrain$Train", name := "sum", desc := "(II)I" } : Jvm.MethodName) ∈ wG := wG_of (List.mem_append_right _ (in_tt2 (List.mem_of_getElem? (i := 58) rfl))) rfl
set_option maxRecDepth 100000 in
theorem w_400 : Jvm.Cond.code ({ cls := "GossipTrain$Train", name := "sum", desc := "(II)I" } : Jvm.MethodName) prog_8_method_7_code (3 : Nat) (Option.some Jvm.ClassFile.FieldType.int) ∈ wG := wG_of (List.mem_append_right _ (in_tt2 (List.mem_of_getElem? (i := 59) rfl))) rfl
set_option maxRecDepth 100000 in
theorem w_401 : Jvm.Cond.methodLinkNest "GossipTrain$Train" (73 : Nat) ({ cls := "GossipTrain$Branch", name := "warmth", desc := "([I)I" } : Jvm.MethodName) "GossipTrain" ∈ wN := List.mem_filter.mpr ⟨in_tt2 (List.mem_of_getElem? (i := 60) rfl), rfl⟩
set_option maxRecDepth 100000 in
theorem w_403 : Jvm.Cond.instanceMethod ({ cls := "GossipTrain$Branch", name := "warmth", desc := "([I)I" } : Jvm.MethodName) ∈ wG := wG_of (List.mem_append_right _ (in_tt2 (List.mem_of_getElem? (i := 62) rfl))) rfl
set_option maxRecDepth 100000 in
theorem w_404 : Jvm.Cond.code ({ cls := "GossipTrain$Branch", name := "warmth", desc := "([I)I" } : Jvm.MethodName) prog_2_method_4_code (6 : Nat) (Option.some Jvm.ClassFile.FieldType.int) ∈ wG := wG_of (List.mem_append_right _ (in_tt2 (List.mem_of_getElem? (i := 63) rfl))) rfl
set_option maxRecDepth 100000 in
theorem w_405 : Jvm.Cond.methodLink "GossipTrain$Branch" (22 : Nat) ({ cls := "GossipTrain$Branch", name := "bitOfTest", desc := "(I[I)I" } : Jvm.MethodName) ∈ wG := wG_of (List.mem_append_right _ (in_tt2 (List.mem_of_getElem? (i := 64) rfl))) rfl
set_option maxRecDepth 100000 in
theorem w_406 : Jvm.Cond.static ({ cls := "GossipTrain$Branch", name := "bitOfTest", desc := "(I[I)I" } : Jvm.MethodName) ∈ wG := wG_of (List.mem_append_right _ (in_tt2 (List.mem_of_getElem? (i := 65) rfl))) rfl
set_option maxRecDepth 100000 in
theorem w_407 : Jvm.Cond.code ({ cls := "GossipTrain$Branch", name := "bitOfTest", desc := "(I[I)I" } : Jvm.MethodName) prog_2_method_5_code (5 : Nat) (Option.some Jvm.ClassFile.FieldType.int) ∈ wG := wG_of (List.mem_append_right _ (in_tt2 (List.mem_of_getElem? (i := 66) rfl))) rfl
set_option maxRecDepth 100000 in
theorem w_408 : Jvm.Cond.methodLink "GossipTrain$Train" (70 : Nat) ({ cls := "GossipTrain$Train", name := "twiceIfFresh", desc := "(II)I" } : Jvm.MethodName) ∈ wG := wG_of (List.mem_append_right _ (in_tt2 (List.mem_of_getElem? (i := 67) rfl))) rfl
set_option maxRecDepth 100000 in
theorem w_410 : Jvm.Cond.instanceMethod ({ cls := "GossipTrain$Train", name := "twiceIfFresh", desc := "(II)I" } : Jvm.MethodName) ∈ wG := wG_of (List.mem_append_right _ (in_tt2 (List.mem_of_getElem? (i := 69) rfl))) rfl
set_option maxRecDepth 100000 in
theorem w_411 : Jvm.Cond.code ({ cls := "GossipTrain$Train", name := "twiceIfFresh", desc := "(II)I" } : Jvm.MethodName) prog_8_method_6_code (3 : Nat) (Option.some Jvm.ClassFile.FieldType.int) ∈ wG := wG_of (List.mem_append_right _ (in_tt2 (List.mem_of_getElem? (i := 70) rfl))) rfl
set_option maxRecDepth 100000 in
theorem w_412 : Jvm.Cond.methodLink "GossipTrain" (103 : Nat) ({ cls := "GossipTrain", name := "tenLess", desc := "(II)I" } : Jvm.MethodName) ∈ wG := wG_of (List.mem_append_right _ (in_tt2 (List.mem_of_getElem? (i := 71) rfl))) rfl
set_option maxRecDepth 100000 in
theorem w_413 : Jvm.Cond.static ({ cls := "GossipTrain", name := "tenLess", desc := "(II)I" } : Jvm.MethodName) ∈ wG := wG_of (List.mem_append_right _ (in_tt2 (List.mem_of_getElem? (i := 72) rfl))) rfl
set_option maxRecDepth 100000 in
theorem w_414 : Jvm.Cond.code ({ cls := "GossipTrain", name := "tenLess", desc := "(II)I" } : Jvm.MethodName) prog_1_method_42_code (2 : Nat) (Option.some Jvm.ClassFile.FieldType.int) ∈ wG := wG_of (List.mem_append_right _ (in_tt2 (List.mem_of_getElem? (i := 73) rfl))) rfl
set_option maxRecDepth 100000 in
theorem w_415 : Jvm.Cond.methodLink "GossipTrain" (107 : Nat) ({ cls := "GossipTrain", name := "isTale", desc := "(I)Z" } : Jvm.MethodName) ∈ wG := wG_of (List.mem_append_right _ (in_tt2 (List.mem_of_getElem? (i := 74) rfl))) rfl
set_option maxRecDepth 100000 in
theorem w_416 : Jvm.Cond.static ({ cls := "GossipTrain", name := "isTale", desc := "(I)Z" } : Jvm.MethodName) ∈ wG := wG_of (List.mem_append_right _ (in_tt2 (List.mem_of_getElem? (i := 75) rfl))) rfl
set_option maxRecDepth 100000 in
theorem w_417 : Jvm.Cond.code ({ cls := "GossipTrain", name := "isTale", desc := "(I)Z" } : Jvm.MethodName) prog_1_method_38_code (1 : Nat) (Option.some Jvm.ClassFile.FieldType.boolean) ∈ wG := wG_of (List.mem_append_right _ (in_tt2 (List.mem_of_getElem? (i := 76) rfl))) rfl
set_option maxRecDepth 100000 in
theorem w_418 : Jvm.Cond.methodLinkNest "GossipTrain" (110 : Nat) ({ cls := "GossipTrain$Train", name := "glow", desc := "(II)I" } : Jvm.MethodName) "GossipTrain" ∈ wN := List.mem_filter.mpr ⟨in_tt2 (List.mem_of_getElem? (i := 77) rfl), rfl⟩
set_option maxRecDepth 100000 in
theorem w_419 : Jvm.Cond.methodLink "GossipTrainLaw" (23 : Nat) ({ cls := "GossipTrain", name := "seat", desc := "(II)I" } : Jvm.MethodName) ∈ wG := wG_of (List.mem_append_right _ (in_tt2 (List.mem_of_getElem? (i := 78) rfl))) rfl
set_option maxRecDepth 100000 in
theorem w_420 : Jvm.Cond.instanceMethod ({ cls := "GossipTrain", name := "seat", desc := "(II)I" } : Jvm.MethodName) ∈ wG := wG_of (List.mem_append_right _ (in_tt2 (List.mem_of_getElem? (i := 79) rfl))) rfl
set_option maxRecDepth 100000 in
theorem w_421 : Jvm.Cond.selects "GossipTrain" ({ cls := "GossipTrain", name := "seat", desc := "(II)I" } : Jvm.MethodName) ({ cls := "GossipTrain", name := "seat", desc := "(II)I" } : Jvm.MethodName) ∈ wG := wG_of (List.mem_append_right _ (in_tt2 (List.mem_of_getElem? (i := 80) rfl))) rfl
set_option maxRecDepth 100000 in
theorem w_422 : Jvm.Cond.code ({ cls := "GossipTrain", name := "seat", desc := "(II)I" } : Jvm.MethodName) prog_1_method_4_code (4 : Nat) (Option.some Jvm.ClassFile.FieldType.int) ∈ wG := wG_of (List.mem_append_right _ (in_tt2 (List.mem_of_getElem? (i := 81) rfl))) rfl
set_option maxRecDepth 100000 in
theorem w_423 : Jvm.Cond.methodLink "GossipTrainLaw" (27 : Nat) ({ cls := "GossipTrain", name := "know", desc := "(II)I" } : Jvm.MethodName) ∈ wG := wG_of (List.mem_append_right _ (in_tt2 (List.mem_of_getElem? (i := 82) rfl))) rfl
set_option maxRecDepth 100000 in
theorem w_424 : Jvm.Cond.instanceMethod ({ cls := "GossipTrain", name := "know", desc := "(II)I" } : Jvm.MethodName) ∈ wG := wG_of (List.mem_append_right _ (in_tt2 (List.mem_of_getElem? (i := 83) rfl))) rfl
set_option maxRecDepth 100000 in
theorem w_425 : Jvm.Cond.selects "GossipTrain" ({ cls := "GossipTrain", name := "know", desc := "(II)I" } : Jvm.MethodName) ({ cls := "GossipTrain", name := "know", desc := "(II)I" } : Jvm.MethodName) ∈ wG := wG_of (List.mem_append_right _ (in_tt2 (List.mem_of_getElem? (i := 84) rfl))) rfl
set_option maxRecDepth 100000 in
theorem w_426 : Jvm.Cond.code ({ cls := "GossipTrain", name := "know", desc := "(II)I" } : Jvm.MethodName) prog_1_method_5_code (4 : Nat) (Option.some Jvm.ClassFile.FieldType.int) ∈ wG := wG_of (List.mem_append_right _ (in_tt2 (List.mem_of_getElem? (i := 85) rfl))) rfl
set_option maxRecDepth 100000 in
theorem w_427 : Jvm.Cond.methodLink "GossipTrainLaw" (31 : Nat) ({ cls := "GossipTrain", name := "leave", desc := "(IZ)I" } : Jvm.MethodName) ∈ wG := wG_of (List.mem_append_right _ (in_tt2 (List.mem_of_getElem? (i := 86) rfl))) rfl
set_option maxRecDepth 100000 in
theorem w_428 : Jvm.Cond.instanceMethod ({ cls := "GossipTrain", name := "leave", desc := "(IZ)I" } : Jvm.MethodName) ∈ wG := wG_of (List.mem_append_right _ (in_tt2 (List.mem_of_getElem? (i := 87) rfl))) rfl
set_option maxRecDepth 100000 in
theorem w_429 : Jvm.Cond.selects "GossipTrain" ({ cls := "GossipTrain", name := "leave", desc := "(IZ)I" } : Jvm.MethodName) ({ cls := "GossipTrain", name := "leave", desc := "(IZ)I" } : Jvm.MethodName) ∈ wG := wG_of (List.mem_append_right _ (in_tt2 (List.mem_of_getElem? (i := 88) rfl))) rfl
set_option maxRecDepth 100000 in
theorem w_430 : Jvm.Cond.code ({ cls := "GossipTrain", name := "leave", desc := "(IZ)I" } : Jvm.MethodName) prog_1_method_6_code (4 : Nat) (Option.some Jvm.ClassFile.FieldType.int) ∈ wG := wG_of (List.mem_append_right _ (in_tt2 (List.mem_of_getElem? (i := 89) rfl))) rfl
set_option maxRecDepth 100000 in
theorem w_431 : Jvm.Cond.methodLink "GossipTrainLaw" (36 : Nat) ({ cls := "GossipTrain", name := "set", desc := "(III)I" } : Jvm.MethodName) ∈ wG := wG_of (List.mem_append_right _ (in_tt2 (List.mem_of_getElem? (i := 90) rfl))) rfl
set_option maxRecDepth 100000 in
theorem w_432 : Jvm.Cond.instanceMethod ({ cls := "GossipTrain", name := "set", desc := "(III)I" } : Jvm.MethodName) ∈ wG := wG_of (List.mem_append_right _ (in_tt2 (List.mem_of_getElem? (i := 91) rfl))) rfl
set_option maxRecDepth 100000 in
theorem w_433 : Jvm.Cond.selects "GossipTrain" ({ cls := "GossipTrain", name := "set", desc := "(III)I" } : Jvm.MethodName) ({ cls := "GossipTrain", name := "set", desc := "(III)I" } : Jvm.MethodName) ∈ wG := wG_of (List.mem_append_right _ (in_tt2 (List.mem_of_getElem? (i := 92) rfl))) rfl
set_option maxRecDepth 100000 in
theorem w_434 : Jvm.Cond.code ({ cls := "GossipTrain", name := "set", desc := "(III)I" } : Jvm.MethodName) prog_1_method_7_code (6 : Nat) (Option.some Jvm.ClassFile.FieldType.int) ∈ wG := wG_of (List.mem_append_right _ (in_tt2 (List.mem_of_getElem? (i := 93) rfl))) rfl
set_option maxRecDepth 100000 in
theorem w_435 : Jvm.Cond.methodLink "GossipTrainLaw" (41 : Nat) ({ cls := "GossipTrain", name := "row", desc := "(III)I" } : Jvm.MethodName) ∈ wG := wG_of (List.mem_append_right _ (in_tt2 (List.mem_of_getElem? (i := 94) rfl))) rfl
set_option maxRecDepth 100000 in
theorem w_436 : Jvm.Cond.instanceMethod ({ cls := "GossipTrain", name := "row", desc := "(III)I" } : Jvm.MethodName) ∈ wG := wG_of (List.mem_append_right _ (in_tt2 (List.mem_of_getElem? (i := 95) rfl))) rfl
set_option maxRecDepth 100000 in
theorem w_437 : Jvm.Cond.selects "GossipTrain" ({ cls := "GossipTrain", name := "row", desc := "(III)I" } : Jvm.MethodName) ({ cls := "GossipTrain", name := "row", desc := "(III)I" } : Jvm.MethodName) ∈ wG := wG_of (List.mem_append_right _ (in_tt2 (List.mem_of_getElem? (i := 96) rfl))) rfl
set_option maxRecDepth 100000 in
theorem w_438 : Jvm.Cond.code ({ cls := "GossipTrain", name := "row", desc := "(III)I" } : Jvm.MethodName) prog_1_method_8_code (6 : Nat) (Option.some Jvm.ClassFile.FieldType.int) ∈ wG := wG_of (List.mem_append_right _ (in_tt2 (List.mem_of_getElem? (i := 97) rfl))) rfl
set_option maxRecDepth 100000 in
theorem w_439 : Jvm.Cond.methodLink "GossipTrainLaw" (45 : Nat) ({ cls := "GossipTrain", name := "feed", desc := "(I)I" } : Jvm.MethodName) ∈ wG := wG_of (List.mem_append_right _ (in_tt2 (List.mem_of_getElem? (i := 98) rfl))) rfl
set_option maxRecDepth 100000 in
theorem w_440 : Jvm.Cond.instanceMethod ({ cls := "GossipTrain", name := "feed", desc := "(I)I" } : Jvm.MethodName) ∈ wG := wG_of (List.mem_append_right _ (in_tt2 (List.mem_of_getElem? (i := 99) rfl))) rfl
set_option maxRecDepth 100000 in
theorem w_441 : Jvm.Cond.selects "GossipTrain" ({ cls := "GossipTrain", name := "feed", desc := "(I)I" } : Jvm.MethodName) ({ cls := "GossipTrain", name := "feed", desc := "(I)I" } : Jvm.MethodName) ∈ wG := wG_of (List.mem_append_right _ (in_tt2 (List.mem_of_getElem? (i := 100) rfl))) rfl
set_option maxRecDepth 100000 in
theorem w_442 : Jvm.Cond.code ({ cls := "GossipTrain", name := "feed", desc := "(I)I" } : Jvm.MethodName) prog_1_method_9_code (2 : Nat) (Option.some Jvm.ClassFile.FieldType.int) ∈ wG := wG_of (List.mem_append_right _ (in_tt2 (List.mem_of_getElem? (i := 101) rfl))) rfl
set_option maxRecDepth 100000 in
theorem w_443 : Jvm.Cond.methodLinkNest "GossipTrain" (122 : Nat) ({ cls := "GossipTrain$Scribe", name := "write", desc := "(I)I" } : Jvm.MethodName) "GossipTrain" ∈ wN := List.mem_filter.mpr ⟨in_tt2 (List.mem_of_getElem? (i := 102) rfl), rfl⟩
set_option maxRecDepth 100000 in
theorem w_445 : Jvm.Cond.instanceMethod ({ cls := "GossipTrain$Scribe", name := "write", desc := "(I)I" } : Jvm.MethodName) ∈ wG := wG_of (List.mem_append_right _ (in_tt2 (List.mem_of_getElem? (i := 104) rfl))) rfl
set_option maxRecDepth 100000 in
theorem w_446 : Jvm.Cond.code ({ cls := "GossipTrain$Scribe", name := "write", desc := "(I)I" } : Jvm.MethodName) prog_5_method_2_code (2 : Nat) (Option.some Jvm.ClassFile.FieldType.int) ∈ wG := wG_of (List.mem_append_right _ (in_tt2 (List.mem_of_getElem? (i := 105) rfl))) rfl
set_option maxRecDepth 100000 in
theorem w_447 : Jvm.Cond.methodLink "GossipTrainLaw" (50 : Nat) ({ cls := "GossipTrain", name := "branch", desc := "()I" } : Jvm.MethodName) ∈ wG := wG_of (List.mem_append_right _ (in_tt2 (List.mem_of_getElem? (i := 106) rfl))) rfl
set_option maxRecDepth 100000 in
theorem w_448 : Jvm.Cond.instanceMethod ({ cls := "GossipTrain", name := "branch", desc := "()I" } : Jvm.MethodName) ∈ wG := wG_of (List.mem_append_right _ (in_tt2 (List.mem_of_getElem? (i := 107) rfl))) rfl
set_option maxRecDepth 100000 in
theorem w_449 : Jvm.Cond.selects "GossipTrain" ({ cls := "GossipTrain", name := "branch", desc := "()I" } : Jvm.MethodName) ({ cls := "GossipTrain", name := "branch", desc := "()I" } : Jvm.MethodName) ∈ wG := wG_of (List.mem_append_right _ (in_tt2 (List.mem_of_getElem? (i := 108) rfl))) rfl
set_option maxRecDepth 100000 in
theorem w_450 : Jvm.Cond.code ({ cls := "GossipTrain", name := "branch", desc := "()I" } : Jvm.MethodName) prog_1_method_10_code (2 : Nat) (Option.some Jvm.ClassFile.FieldType.int) ∈ wG := wG_of (List.mem_append_right _ (in_tt2 (List.mem_of_getElem? (i := 109) rfl))) rfl
set_option maxRecDepth 100000 in
theorem w_451 : Jvm.Cond.methodLinkNest "GossipTrain" (125 : Nat) ({ cls := "GossipTrain$Scribe", name := "readText", desc := "()Z" } : Jvm.MethodName) "GossipTrain" ∈ wN := List.mem_filter.mpr ⟨in_tt2 (List.mem_of_getElem? (i := 110) rfl), rfl⟩
set_option maxRecDepth 100000 in
theorem w_453 : Jvm.Cond.instanceMethod ({ cls := "GossipTrain$Scribe", name := "readText", desc := "()Z" } : Jvm.MethodName) ∈ wG := wG_of (List.mem_append_right _ (in_tt2 (List.mem_of_getElem? (i := 112) rfl))) rfl
set_option maxRecDepth 100000 in
theorem w_454 : Jvm.Cond.code ({ cls := "GossipTrain$Scribe", name := "readText", desc := "()Z" } : Jvm.MethodName) prog_5_method_4_code (2 : Nat) (Option.some Jvm.ClassFile.FieldType.boolean) ∈ wG := wG_of (List.mem_append_right _ (in_tt2 (List.mem_of_getElem? (i := 113) rfl))) rfl
set_option maxRecDepth 100000 in
theorem w_455 : Jvm.Cond.methodLinkNest "GossipTrain$Scribe" (29 : Nat) ({ cls := "GossipTrain$Branch", name := "clear", desc := "()V" } : Jvm.MethodName) "GossipTrain" ∈ wN := List.mem_filter.mpr ⟨in_tt2 (List.mem_of_getElem? (i := 114) rfl), rfl⟩
set_option maxRecDepth 100000 in
theorem w_457 : Jvm.Cond.instanceMethod ({ cls := "GossipTrain$Branch", name := "clear", desc := "()V" } : Jvm.MethodName) ∈ wG := wG_of (List.mem_append_right _ (in_tt2 (List.mem_of_getElem? (i := 116) rfl))) rfl
set_option maxRecDepth 100000 in
theorem w_458 : Jvm.Cond.code ({ cls := "GossipTrain$Branch", name := "clear", desc := "()V" } : Jvm.MethodName) prog_2_method_2_code (1 : Nat) (Option.none : Option Jvm.ClassFile.FieldType) ∈ wG := wG_of (List.mem_append_right _ (in_tt2 (List.mem_of_getElem? (i := 117) rfl))) rfl
set_option maxRecDepth 100000 in
theorem w_459 : Jvm.Cond.methodLink "GossipTrain$Scribe" (32 : Nat) ({ cls := "GossipTrain$Scribe", name := "readClause", desc := "()Z" } : Jvm.MethodName) ∈ wG := wG_of (List.mem_append_right _ (in_tt2 (List.mem_of_getElem? (i := 118) rfl))) rfl
set_option maxRecDepth 100000 in
theorem w_461 : Jvm.Cond.instanceMethod ({ cls := "GossipTrain$Scribe", name := "readClause", desc := "()Z" } : Jvm.MethodName) ∈ wG := wG_of (List.mem_append_right _ (in_tt2 (List.mem_of_getElem? (i := 120) rfl))) rfl
set_option maxRecDepth 100000 in
theorem w_462 : Jvm.Cond.code ({ cls := "GossipTrain$Scribe", name := "readClause", desc := "()Z" } : Jvm.MethodName) prog_5_method_5_code (1 : Nat) (Option.some Jvm.ClassFile.FieldType.boolean) ∈ wG := wG_of (List.mem_append_right _ (in_tt2 (List.mem_of_getElem? (i := 121) rfl))) rfl
set_option maxRecDepth 100000 in
theorem w_463 : Jvm.Cond.methodLink "GossipTrain$Scribe" (40 : Nat) ({ cls := "GossipTrain$Scribe", name := "next", desc := "()I" } : Jvm.MethodName) ∈ wG := wG_of (List.mem_append_right _ (in_tt2 (List.mem_of_getElem? (i := 122) rfl))) rfl
set_option maxRecDepth 100000 in
theorem w_465 : Jvm.Cond.instanceMethod ({ cls := "GossipTrain$Scribe", name := "next", desc := "()I" } : Jvm.MethodName) ∈ wG := wG_of (List.mem_append_right _ (in_tt2 (List.mem_of_getElem? (i := 124) rfl))) rfl
set_option maxRecDepth 100000 in
theorem w_466 : Jvm.Cond.code ({ cls := "GossipTrain$Scribe", name := "next", desc := "()I" } : Jvm.MethodName) prog_5_method_16_code (1 : Nat) (Option.some Jvm.ClassFile.FieldType.int) ∈ wG := wG_of (List.mem_append_right _ (in_tt2 (List.mem_of_getElem? (i := 125) rfl))) rfl
set_option maxRecDepth 100000 in
theorem w_468 : Jvm.Cond.methodLink "GossipTrain$Scribe" (46 : Nat) ({ cls := "GossipTrain$Scribe", name := "skipWord", desc := "(Ljava/lang/String;)Z" } : Jvm.MethodName) ∈ wG := wG_of (List.mem_append_right _ (in_tt2 (List.mem_of_getElem? (i := 127) rfl))) rfl
set_option maxRecDepth 100000 in
theorem w_470 : Jvm.Cond.instanceMethod ({ cls := "GossipTrain$Scribe", name := "skipWord", desc := "(Ljava/lang/String;)Z" } : Jvm.MethodName) ∈ wG := wG_of (List.mem_append_right _ (in_tt2 (List.mem_of_getElem? (i := 129) rfl))) rfl
set_option maxRecDepth 100000 in
theorem w_471 : Jvm.Cond.code ({ cls := "GossipTrain$Scribe", name := "skipWord", desc := "(Ljava/lang/String;)Z" } : Jvm.MethodName) prog_5_method_14_code (3 : Nat) (Option.some Jvm.ClassFile.FieldType.boolean) ∈ wG := wG_of (List.mem_append_right _ (in_tt2 (List.mem_of_getElem? (i := 130) rfl))) rfl
set_option maxRecDepth 100000 in
theorem w_472 : Jvm.Cond.methodLink "GossipTrain$Scribe" (94 : Nat) ({ cls := "java/lang/String", name := "length", desc := "()I" } : Jvm.MethodName) ∈ wG := wG_of (List.mem_append_right _ (in_tt2 (List.mem_of_getElem? (i := 131) rfl))) rfl
set_option maxRecDepth 100000 in
theorem w_473 : Jvm.Cond.instanceMethod ({ cls := "java/lang/String", name := "length", desc := "()I" } : Jvm.MethodName) ∈ wG := wG_of (List.mem_append_right _ (in_tt2 (List.mem_of_getElem? (i := 132) rfl))) rfl
set_option maxRecDepth 100000 in
theorem w_474 : Jvm.Cond.selects "java/lang/String" ({ cls := "java/lang/String", name := "length", desc := "()I" } : Jvm.MethodName) ({ cls := "java/lang/String", name := "length", desc := "()I" } : Jvm.MethodName) ∈ wG := wG_of (List.mem_append_right _ (in_tt2 (List.mem_of_getElem? (i := 133) rfl))) rfl
set_option maxRecDepth 100000 in
theorem w_475 : Jvm.Cond.code ({ cls := "java/lang/String", name := "length", desc := "()I" } : Jvm.MethodName) prog_14_method_54_code (1 : Nat) (Option.some Jvm.ClassFile.FieldType.int) ∈ wG := wG_of (List.mem_append_right _ (in_tt2 (List.mem_of_getElem? (i := 134) rfl))) rfl
set_option maxRecDepth 100000 in
theorem w_476 : Jvm.Cond.methodLink "java/lang/String" (335 : Nat) ({ cls := "java/lang/String", name := "coder", desc := "()B" } : Jvm.MethodName) ∈ wG := wG_of (List.mem_append_right _ (in_tt2 (List.mem_of_getElem? (i := 135) rfl))) rfl
set_option maxRecDepth 100000 in
theorem w_477 : Jvm.Cond.instanceMethod ({ cls := "java/lang/String", name := "coder", desc := "()B" } : Jvm.MethodName) ∈ wG := wG_of (List.mem_append_right _ (in_tt2 (List.mem_of_getElem? (i := 136) rfl))) rfl
set_option maxRecDepth 100000 in
theorem w_478 : Jvm.Cond.selects "java/lang/String" ({ cls := "java/lang/String", name := "coder", desc := "()B" } : Jvm.MethodName) ({ cls := "java/lang/String", name := "coder", desc := "()B" } : Jvm.MethodName) ∈ wG := wG_of (List.mem_append_right _ (in_tt2 (List.mem_of_getElem? (i := 137) rfl))) rfl
set_option maxRecDepth 100000 in
theorem w_479 : Jvm.Cond.code ({ cls := "java/lang/String", name := "coder", desc := "()B" } : Jvm.MethodName) prog_14_method_152_code (1 : Nat) (Option.some Jvm.ClassFile.FieldType.byte) ∈ wG := wG_of (List.mem_append_right _ (in_tt2 (List.mem_of_getElem? (i := 138) rfl))) rfl
set_option maxRecDepth 100000 in
theorem w_480 : Jvm.Cond.fieldLink "java/lang/String" (38 : Nat) "java/lang/String" "COMPACT_STRINGS" "Z" ∈ wG := wG_of (List.mem_append_right _ (in_tt2 (List.mem_of_getElem? (i := 139) rfl))) rfl
set_option maxRecDepth 100000 in
theorem w_482 : Jvm.Cond.methodLink "GossipTrain$Scribe" (96 : Nat) ({ cls := "java/lang/String", name := "charAt", desc := "(I)C" } : Jvm.MethodName) ∈ wG := wG_of (List.mem_append_right _ (in_tt2 (List.mem_of_getElem? (i := 141) rfl))) rfl
set_option maxRecDepth 100000 in
theorem w_483 : Jvm.Cond.instanceMethod ({ cls := "java/lang/String", name := "charAt", desc := "(I)C" } : Jvm.MethodName) ∈ wG := wG_of (List.mem_append_right _ (in_tt2 (List.mem_of_getElem? (i := 142) rfl))) rfl
set_option maxRecDepth 100000 in
theorem w_484 : Jvm.Cond.selects "java/lang/String" ({ cls := "java/lang/String", name := "charAt", desc := "(I)C" } : Jvm.MethodName) ({ cls := "java/lang/String", name := "charAt", desc := "(I)C" } : Jvm.MethodName) ∈ wG := wG_of (List.mem_append_right _ (in_tt2 (List.mem_of_getElem? (i := 143) rfl))) rfl
set_option maxRecDepth 100000 in
theorem w_485 : Jvm.Cond.code ({ cls := "java/lang/String", name := "charAt", desc := "(I)C" } : Jvm.MethodName) prog_14_method_56_code (2 : Nat) (Option.some Jvm.ClassFile.FieldType.char) ∈ wG := wG_of (List.mem_append_right _ (in_tt2 (List.mem_of_getElem? (i := 144) rfl))) rfl
set_option maxRecDepth 100000 in
theorem w_486 : Jvm.Cond.methodLink "java/lang/String" (492 : Nat) ({ cls := "java/lang/String", name := "isLatin1", desc := "()Z" } : Jvm.MethodName) ∈ wG := wG_of (List.mem_append_right _ (in_tt2 (List.mem_of_getElem? (i := 145) rfl))) rfl
set_option maxRecDepth 100000 in
theorem w_487 : Jvm.Cond.instanceMethod ({ cls := "java/lang/String", name := "isLatin1", desc := "()Z" } : Jvm.MethodName) ∈ wG := wG_of (List.mem_append_right _ (in_tt2 (List.mem_of_getElem? (i := 146) rfl))) rfl
set_option maxRecDepth 100000 in
theorem w_488 : Jvm.Cond.selects "java/lang/String" ({ cls := "java/lang/String", name := "isLatin1", desc := "()Z" } : Jvm.MethodName) ({ cls := "java/lang/String", name := "isLatin1", desc := "()Z" } : Jvm.MethodName) ∈ wG := wG_of (List.mem_append_right _ (in_tt2 (List.mem_of_getElem? (i := 147) rfl))) rfl
set_option maxRecDepth 100000 in
theorem w_489 : Jvm.Cond.code ({ cls := "java/lang/String", name := "isLatin1", desc := "()Z" } : Jvm.MethodName) prog_14_method_154_code (1 : Nat) (Option.some Jvm.ClassFile.FieldType.boolean) ∈ wG := wG_of (List.mem_append_right _ (in_tt2 (List.mem_of_getElem? (i := 148) rfl))) rfl
set_option maxRecDepth 100000 in
theorem w_490 : Jvm.Cond.methodLink "java/lang/String" (495 : Nat) ({ cls := "java/lang/StringLatin1", name := "charAt", desc := "([BI)C" } : Jvm.MethodName) ∈ wG := wG_of (List.mem_append_right _ (in_tt2 (List.mem_of_getElem? (i := 149) rfl))) rfl
set_option maxRecDepth 100000 in
theorem w_491 : Jvm.Cond.static ({ cls := "java/lang/StringLatin1", name := "charAt", desc := "([BI)C" } : Jvm.MethodName) ∈ wG := wG_of (List.mem_append_right _ (in_tt2 (List.mem_of_getElem? (i := 150) rfl))) rfl
set_option maxRecDepth 100000 in
theorem w_492 : Jvm.Cond.code ({ cls := "java/lang/StringLatin1", name := "charAt", desc := "([BI)C" } : Jvm.MethodName) prog_15_method_2_code (2 : Nat) (Option.some Jvm.ClassFile.FieldType.char) ∈ wG := wG_of (List.mem_append_right _ (in_tt2 (List.mem_of_getElem? (i := 151) rfl))) rfl
set_option maxRecDepth 100000 in
theorem w_493 : Jvm.Cond.methodLink "java/lang/StringLatin1" (9 : Nat) ({ cls := "java/lang/String", name := "checkIndex", desc := "(II)V" } : Jvm.MethodName) ∈ wG := wG_of (List.mem_append_right _ (in_tt2 (List.mem_of_getElem? (i := 152) rfl))) rfl
set_option maxRecDepth 100000 in
theorem w_494 : Jvm.Cond.static ({ cls := "java/lang/String", name := "checkIndex", desc := "(II)V" } : Jvm.MethodName) ∈ wG := wG_of (List.mem_append_right _ (in_tt2 (List.mem_of_getElem? (i := 153) rfl))) rfl
set_option maxRecDepth 100000 in
theorem w_495 : Jvm.Cond.code ({ cls := "java/lang/String", name := "checkIndex", desc := "(II)V" } : Jvm.MethodName) prog_14_method_155_code (2 : Nat) (Option.none : Option Jvm.ClassFile.FieldType) ∈ wG := wG_of (List.mem_append_right _ (in_tt2 (List.mem_of_getElem? (i := 154) rfl))) rfl
set_option maxRecDepth 100000 in
theorem w_496 : Jvm.Cond.fieldLink "java/lang/String" (1053 : Nat) "jdk/internal/util/Preconditions" "SIOOBE_FORMATTER" "Ljava/util/function/BiFunction;" ∈ wG := wG_of (List.mem_append_right _ (in_tt2 (List.mem_of_getElem? (i := 155) rfl))) rfl
set_option maxRecDepth 100000 in
theorem w_498 : Jvm.Cond.methodLink "java/lang/String" (1059 : Nat) ({ cls := "jdk/internal/util/Preconditions", name := "checkIndex", desc := "(IILjava/util/function/BiFunction;)I" } : Jvm.MethodName) ∈ wG := wG_of (List.mem_append_right _ (in_tt2 (List.mem_of_getElem? (i := 157) rfl))) rfl
set_option maxRecDepth 100000 in
theorem w_499 : Jvm.Cond.static ({ cls := "jdk/internal/util/Preconditions", name := "checkIndex", desc := "(IILjava/util/function/BiFunction;)I" } : Jvm.MethodName) ∈ wG := wG_of (List.mem_append_right _ (in_tt2 (List.mem_of_getElem? (i := 158) rfl))) rfl
set_option maxRecDepth 100000 in
theorem w_500 : Jvm.Cond.code ({ cls := "jdk/internal/util/Preconditions", name := "checkIndex", desc := "(IILjava/util/function/BiFunction;)I" } : Jvm.MethodName) prog_18_method_11_code (3 : Nat) (Option.some Jvm.ClassFile.FieldType.int) ∈ wG := wG_of (List.mem_append_right _ (in_tt2 (List.mem_of_getElem? (i := 159) rfl))) rfl
set_option maxRecDepth 100000 in
theorem w_520 : Jvm.Cond.methodLink "GossipTrain$Scribe" (36 : Nat) ({ cls := "GossipTrain$Scribe", name := "skip", desc := "(C)Z" } : Jvm.MethodName) ∈ wG := wG_of (List.mem_append_right _ (in_tt2 (List.mem_of_getElem? (i := 179) rfl))) rfl
set_option maxRecDepth 100000 in
theorem w_522 : Jvm.Cond.instanceMethod ({ cls := "GossipTrain$Scribe", name := "skip", desc := "(C)Z" } : Jvm.MethodName) ∈ wG := wG_of (List.mem_append_right _ (in_tt2 (List.mem_of_getElem? (i := 181) rfl))) rfl
set_option maxRecDepth 100000 in
theorem w_523 : Jvm.Cond.code ({ cls := "GossipTrain$Scribe", name := "skip", desc := "(C)Z" } : Jvm.MethodName) prog_5_method_15_code (2 : Nat) (Option.some Jvm.ClassFile.FieldType.boolean) ∈ wG := wG_of (List.mem_append_right _ (in_tt2 (List.mem_of_getElem? (i := 182) rfl))) rfl
set_option maxRecDepth 100000 in
theorem w_524 : Jvm.Cond.methodLink "GossipTrain$Scribe" (50 : Nat) ({ cls := "GossipTrain$Scribe", name := "readWarmth", desc := "(I)Z" } : Jvm.MethodName) ∈ wG := wG_of (List.mem_append_right _ (in_tt2 (List.mem_of_getElem? (i := 183) rfl))) rfl
set_option maxRecDepth 100000 in
theorem w_526 : Jvm.Cond.instanceMethod ({ cls := "GossipTrain$Scribe", name := "readWarmth", desc := "(I)Z" } : Jvm.MethodName) ∈ wG := wG_of (List.mem_append_right _ (in_tt2 (List.mem_of_getElem? (i := 185) rfl))) rfl
set_option maxRecDepth 100000 in
theorem w_527 : Jvm.Cond.code ({ cls := "GossipTrain$Scribe", name := "readWarmth", desc := "(I)Z" } : Jvm.MethodName) prog_5_method_7_code (3 : Nat) (Option.some Jvm.ClassFile.FieldType.boolean) ∈ wG := wG_of (List.mem_append_right _ (in_tt2 (List.mem_of_getElem? (i := 186) rfl))) rfl
set_option maxRecDepth 100000 in
theorem w_528 : Jvm.Cond.methodLink "GossipTrain$Scribe" (61 : Nat) ({ cls := "GossipTrain$Scribe", name := "readNumber", desc := "()I" } : Jvm.MethodName) ∈ wG := wG_of (List.mem_append_right _ (in_tt2 (List.mem_of_getElem? (i := 187) rfl))) rfl
set_option maxRecDepth 100000 in
theorem w_530 : Jvm.Cond.instanceMethod ({ cls := "GossipTrain$Scribe", name := "readNumber", desc := "()I" } : Jvm.MethodName) ∈ wG := wG_of (List.mem_append_right _ (in_tt2 (List.mem_of_getElem? (i := 189) rfl))) rfl
set_option maxRecDepth 100000 in
theorem w_531 : Jvm.Cond.code ({ cls := "GossipTrain$Scribe", name := "readNumber", desc := "()I" } : Jvm.MethodName) prog_5_method_12_code (2 : Nat) (Option.some Jvm.ClassFile.FieldType.int) ∈ wG := wG_of (List.mem_append_right _ (in_tt2 (List.mem_of_getElem? (i := 190) rfl))) rfl
set_option maxRecDepth 100000 in
theorem w_532 : Jvm.Cond.methodLink "GossipTrain$Scribe" (91 : Nat) ({ cls := "GossipTrain$Scribe", name := "isDigit", desc := "(I)Z" } : Jvm.MethodName) ∈ wG := wG_of (List.mem_append_right _ (in_tt2 (List.mem_of_getElem? (i := 191) rfl))) rfl
set_option maxRecDepth 100000 in
theorem w_533 : Jvm.Cond.static ({ cls := "GossipTrain$Scribe", name := "isDigit", desc := "(I)Z" } : Jvm.MethodName) ∈ wG := wG_of (List.mem_append_right _ (in_tt2 (List.mem_of_getElem? (i := 192) rfl))) rfl
set_option maxRecDepth 100000 in
theorem w_534 : Jvm.Cond.code ({ cls := "GossipTrain$Scribe", name := "isDigit", desc := "(I)Z" } : Jvm.MethodName) prog_5_method_13_code (1 : Nat) (Option.some Jvm.ClassFile.FieldType.boolean) ∈ wG := wG_of (List.mem_append_right _ (in_tt2 (List.mem_of_getElem? (i := 193) rfl))) rfl
set_option maxRecDepth 100000 in
theorem w_535 : Jvm.Cond.methodLink "GossipTrain$Scribe" (67 : Nat) ({ cls := "GossipTrain$Scribe", name := "readChoice", desc := "(I)Z" } : Jvm.MethodName) ∈ wG := wG_of (List.mem_append_right _ (in_tt2 (List.mem_of_getElem? (i := 194) rfl))) rfl
set_option maxRecDepth 100000 in
theorem w_537 : Jvm.Cond.instanceMethod ({ cls := "GossipTrain$Scribe", name := "readChoice", desc := "(I)Z" } : Jvm.MethodName) ∈ wG := wG_of (List.mem_append_right _ (in_tt2 (List.mem_of_getElem? (i := 196) rfl))) rfl
set_option maxRecDepth 100000 in
theorem w_538 : Jvm.Cond.code ({ cls := "GossipTrain$Scribe", name := "readChoice", desc := "(I)Z" } : Jvm.MethodName) prog_5_method_8_code (3 : Nat) (Option.some Jvm.ClassFile.FieldType.boolean) ∈ wG := wG_of (List.mem_append_right _ (in_tt2 (List.mem_of_getElem? (i := 197) rfl))) rfl
set_option maxRecDepth 100000 in
theorem w_539 : Jvm.Cond.methodLink "GossipTrain$Scribe" (74 : Nat) ({ cls := "GossipTrain$Scribe", name := "readChain", desc := "(I)Z" } : Jvm.MethodName) ∈ wG := wG_of (List.mem_append_right _ (in_tt2 (List.mem_of_getElem? (i := 198) rfl))) rfl
set_option maxRecDepth 100000 in
theorem w_541 : Jvm.Cond.instanceMethod ({ cls := "GossipTrain$Scribe", name := "readChain", desc := "(I)Z" } : Jvm.MethodName) ∈ wG := wG_of (List.mem_append_right _ (in_tt2 (List.mem_of_getElem? (i := 200) rfl))) rfl
set_option maxRecDepth 100000 in
theorem w_542 : Jvm.Cond.code ({ cls := "GossipTrain$Scribe", name := "readChain", desc := "(I)Z" } : Jvm.MethodName) prog_5_method_9_code (3 : Nat) (Option.some Jvm.ClassFile.FieldType.boolean) ∈ wG := wG_of (List.mem_append_right _ (in_tt2 (List.mem_of_getElem? (i := 201) rfl))) rfl
set_option maxRecDepth 100000 in
theorem w_543 : Jvm.Cond.methodLink "GossipTrain$Scribe" (77 : Nat) ({ cls := "GossipTrain$Scribe", name := "readFactor", desc := "(I)Z" } : Jvm.MethodName) ∈ wG := wG_of (List.mem_append_right _ (in_tt2 (List.mem_of_getElem? (i := 202) rfl))) rfl
set_option maxRecDepth 100000 in
theorem w_545 : Jvm.Cond.instanceMethod ({ cls := "GossipTrain$Scribe", name := "readFactor", desc := "(I)Z" } : Jvm.MethodName) ∈ wG := wG_of (List.mem_append_right _ (in_tt2 (List.mem_of_getElem? (i := 204) rfl))) rfl
set_option maxRecDepth 100000 in
theorem w_546 : Jvm.Cond.code ({ cls := "GossipTrain$Scribe", name := "readFactor", desc := "(I)Z" } : Jvm.MethodName) prog_5_method_10_code (3 : Nat) (Option.some Jvm.ClassFile.FieldType.boolean) ∈ wG := wG_of (List.mem_append_right _ (in_tt2 (List.mem_of_getElem? (i := 205) rfl))) rfl
set_option maxRecDepth 100000 in
theorem w_547 : Jvm.Cond.methodLinkNest "GossipTrain$Scribe" (70 : Nat) ({ cls := "GossipTrain$Branch", name := "add", desc := "(III)V" } : Jvm.MethodName) "GossipTrain" ∈ wN := List.mem_filter.mpr ⟨in_tt2 (List.mem_of_getElem? (i := 206) rfl), rfl⟩
set_option maxRecDepth 100000 in
theorem w_549 : Jvm.Cond.instanceMethod ({ cls := "GossipTrain$Branch", name := "add", desc := "(III)V" } : Jvm.MethodName) ∈ wG := wG_of (List.mem_append_right _ (in_tt2 (List.mem_of_getElem? (i := 208) rfl))) rfl
set_option maxRecDepth 100000 in
theorem w_550 : Jvm.Cond.code ({ cls := "GossipTrain$Branch", name := "add", desc := "(III)V" } : Jvm.MethodName) prog_2_method_3_code (4 : Nat) (Option.none : Option Jvm.ClassFile.FieldType) ∈ wG := wG_of (List.mem_append_right _ (in_tt2 (List.mem_of_getElem? (i := 209) rfl))) rfl
set_option maxRecDepth 100000 in
theorem w_551 : Jvm.Cond.methodLink "GossipTrain$Scribe" (80 : Nat) ({ cls := "GossipTrain$Scribe", name := "readTest", desc := "()Z" } : Jvm.MethodName) ∈ wG := wG_of (List.mem_append_right _ (in_tt2 (List.mem_of_getElem? (i := 210) rfl))) rfl
set_option maxRecDepth 100000 in
theorem w_553 : Jvm.Cond.instanceMethod ({ cls := "GossipTrain$Scribe", name := "readTest", desc := "()Z" } : Jvm.MethodName) ∈ wG := wG_of (List.mem_append_right _ (in_tt2 (List.mem_of_getElem? (i := 212) rfl))) rfl
set_option maxRecDepth 100000 in
theorem w_554 : Jvm.Cond.code ({ cls := "GossipTrain$Scribe", name := "readTest", desc := "()Z" } : Jvm.MethodName) prog_5_method_11_code (4 : Nat) (Option.some Jvm.ClassFile.FieldType.boolean) ∈ wG := wG_of (List.mem_append_right _ (in_tt2 (List.mem_of_getElem? (i := 213) rfl))) rfl
set_option maxRecDepth 100000 in
theorem w_556 : Jvm.Cond.methodLink "GossipTrain$Scribe" (85 : Nat) ({ cls := "java/lang/String", name := "indexOf", desc := "(I)I" } : Jvm.MethodName) ∈ wG := wG_of (List.mem_append_right _ (in_tt2 (List.mem_of_getElem? (i := 215) rfl))) rfl
set_option maxRecDepth 100000 in
theorem w_557 : Jvm.Cond.instanceMethod ({ cls := "java/lang/String", name := "indexOf", desc := "(I)I" } : Jvm.MethodName) ∈ wG := wG_of (List.mem_append_right _ (in_tt2 (List.mem_of_getElem? (i := 216) rfl))) rfl
set_option maxRecDepth 100000 in
theorem w_558 : Jvm.Cond.selects "java/lang/String" ({ cls := "java/lang/String", name := "indexOf", desc := "(I)I" } : Jvm.MethodName) ({ cls := "java/lang/String", name := "indexOf", desc := "(I)I" } : Jvm.MethodName) ∈ wG := wG_of (List.mem_append_right _ (in_tt2 (List.mem_of_getElem? (i := 217) rfl))) rfl
set_option maxRecDepth 100000 in
theorem w_559 : Jvm.Cond.code ({ cls := "java/lang/String", name := "indexOf", desc := "(I)I" } : Jvm.MethodName) prog_14_method_79_code (2 : Nat) (Option.some Jvm.ClassFile.FieldType.int) ∈ wG := wG_of (List.mem_append_right _ (in_tt2 (List.mem_of_getElem? (i := 218) rfl))) rfl
set_option maxRecDepth 100000 in
theorem w_560 : Jvm.Cond.methodLink "java/lang/String" (633 : Nat) ({ cls := "java/lang/String", name := "indexOf", desc := "(II)I" } : Jvm.MethodName) ∈ wG := wG_of (List.mem_append_right _ (in_tt2 (List.mem_of_getElem? (i := 219) rfl))) rfl
set_option maxRecDepth 100000 in
theorem w_561 : Jvm.Cond.instanceMethod ({ cls := "java/lang/String", name := "indexOf", desc := "(II)I" } : Jvm.MethodName) ∈ wG := wG_of (List.mem_append_right _ (in_tt2 (List.mem_of_getElem? (i := 220) rfl))) rfl
set_option maxRecDepth 100000 in
theorem w_562 : Jvm.Cond.selects "java/lang/String" ({ cls := "java/lang/String", name := "indexOf", desc := "(II)I" } : Jvm.MethodName) ({ cls := "java/lang/String", name := "indexOf", desc := "(II)I" } : Jvm.MethodName) ∈ wG := wG_of (List.mem_append_right _ (in_tt2 (List.mem_of_getElem? (i := 221) rfl))) rfl
set_option maxRecDepth 100000 in
theorem w_563 : Jvm.Cond.code ({ cls := "java/lang/String", name := "indexOf", desc := "(II)I" } : Jvm.MethodName) prog_14_method_80_code (3 : Nat) (Option.some Jvm.ClassFile.FieldType.int) ∈ wG := wG_of (List.mem_append_right _ (in_tt2 (List.mem_of_getElem? (i := 222) rfl))) rfl
set_option maxRecDepth 100000 in
theorem w_564 : Jvm.Cond.methodLink "java/lang/String" (505 : Nat) ({ cls := "java/lang/String", name := "length", desc := "()I" } : Jvm.MethodName) ∈ wG := wG_of (List.mem_append_right _ (in_tt2 (List.mem_of_getElem? (i := 223) rfl))) rfl
set_option maxRecDepth 100000 in
theorem w_565 : Jvm.Cond.methodLink "java/lang/String" (637 : Nat) ({ cls := "java/lang/StringLatin1", name := "indexOf", desc := "([BIII)I" } : Jvm.MethodName) ∈ wG := wG_of (List.mem_append_right _ (in_tt2 (List.mem_of_getElem? (i := 224) rfl))) rfl
set_option maxRecDepth 100000 in
theorem w_566 : Jvm.Cond.static ({ cls := "java/lang/StringLatin1", name := "indexOf", desc := "([BIII)I" } : Jvm.MethodName) ∈ wG := wG_of (List.mem_append_right _ (in_tt2 (List.mem_of_getElem? (i := 225) rfl))) rfl
set_option maxRecDepth 100000 in
theorem w_567 : Jvm.Cond.code ({ cls := "java/lang/StringLatin1", name := "indexOf", desc := "([BIII)I" } : Jvm.MethodName) prog_15_method_22_code (4 : Nat) (Option.some Jvm.ClassFile.FieldType.int) ∈ wG := wG_of (List.mem_append_right _ (in_tt2 (List.mem_of_getElem? (i := 226) rfl))) rfl
set_option maxRecDepth 100000 in
theorem w_568 : Jvm.Cond.methodLink "java/lang/StringLatin1" (88 : Nat) ({ cls := "java/lang/StringLatin1", name := "canEncode", desc := "(I)Z" } : Jvm.MethodName) ∈ wG := wG_of (List.mem_append_right _ (in_tt2 (List.mem_of_getElem? (i := 227) rfl))) rfl
set_option maxRecDepth 100000 in
theorem w_569 : Jvm.Cond.static ({ cls := "java/lang/StringLatin1", name := "canEncode", desc := "(I)Z" } : Jvm.MethodName) ∈ wG := wG_of (List.mem_append_right _ (in_tt2 (List.mem_of_getElem? (i := 228) rfl))) rfl
set_option maxRecDepth 100000 in
theorem w_570 : Jvm.Cond.code ({ cls := "java/lang/StringLatin1", name := "canEncode", desc := "(I)Z" } : Jvm.MethodName) prog_15_method_4_code (1 : Nat) (Option.some Jvm.ClassFile.FieldType.boolean) ∈ wG := wG_of (List.mem_append_right _ (in_tt2 (List.mem_of_getElem? (i := 229) rfl))) rfl
set_option maxRecDepth 100000 in
theorem w_571 : Jvm.Cond.methodLink "java/lang/StringLatin1" (92 : Nat) ({ cls := "java/lang/Math", name := "max", desc := "(II)I" } : Jvm.MethodName) ∈ wG := wG_of (List.mem_append_right _ (in_tt2 (List.mem_of_getElem? (i := 230) rfl))) rfl
set_option maxRecDepth 100000 in
theorem w_572 : Jvm.Cond.static ({ cls := "java/lang/Math", name := "max", desc := "(II)I" } : Jvm.MethodName) ∈ wG := wG_of (List.mem_append_right _ (in_tt2 (List.mem_of_getElem? (i := 231) rfl))) rfl
set_option maxRecDepth 100000 in
theorem w_573 : Jvm.Cond.code ({ cls := "java/lang/Math", name := "max", desc := "(II)I" } : Jvm.MethodName) prog_13_method_65_code (2 : Nat) (Option.some Jvm.ClassFile.FieldType.int) ∈ wG := wG_of (List.mem_append_right _ (in_tt2 (List.mem_of_getElem? (i := 232) rfl))) rfl
set_option maxRecDepth 100000 in
theorem w_574 : Jvm.Cond.methodLink "java/lang/StringLatin1" (38 : Nat) ({ cls := "java/lang/Math", name := "min", desc := "(II)I" } : Jvm.MethodName) ∈ wG := wG_of (List.mem_append_right _ (in_tt2 (List.mem_of_getElem? (i := 233) rfl))) rfl
set_option maxRecDepth 100000 in
theorem w_575 : Jvm.Cond.methodLink "java/lang/StringLatin1" (95 : Nat) ({ cls := "java/lang/StringLatin1", name := "indexOfChar", desc := "([BIII)I" } : Jvm.MethodName) ∈ wG := wG_of (List.mem_append_right _ (in_tt2 (List.mem_of_getElem? (i := 234) rfl))) rfl
set_option maxRecDepth 100000 in
theorem w_576 : Jvm.Cond.static ({ cls := "java/lang/StringLatin1", name := "indexOfChar", desc := "([BIII)I" } : Jvm.MethodName) ∈ wG := wG_of (List.mem_append_right _ (in_tt2 (List.mem_of_getElem? (i := 235) rfl))) rfl
set_option maxRecDepth 100000 in
theorem w_577 : Jvm.Cond.code ({ cls := "java/lang/StringLatin1", name := "indexOfChar", desc := "([BIII)I" } : Jvm.MethodName) prog_15_method_23_code (6 : Nat) (Option.some Jvm.ClassFile.FieldType.int) ∈ wG := wG_of (List.mem_append_right _ (in_tt2 (List.mem_of_getElem? (i := 236) rfl))) rfl
set_option maxRecDepth 100000 in
theorem w_591 : Jvm.Cond.static ({ cls := "java/lang/String", name := "checkBoundsBeginEnd", desc := "(III)V" } : Jvm.MethodName) ∈ wG := wG_of (List.mem_append_right _ (in_tt3 (List.mem_of_getElem? (i := 10) rfl))) rfl
set_option maxRecDepth 100000 in
theorem w_592 : Jvm.Cond.code ({ cls := "java/lang/String", name := "checkBoundsBeginEnd", desc := "(III)V" } : Jvm.MethodName) prog_14_method_158_code (3 : Nat) (Option.none : Option Jvm.ClassFile.FieldType) ∈ wG := wG_of (List.mem_append_right _ (in_tt3 (List.mem_of_getElem? (i := 11) rfl))) rfl
set_option maxRecDepth 100000 in
theorem w_593 : Jvm.Cond.methodLink "java/lang/String" (1062 : Nat) ({ cls := "jdk/internal/util/Preconditions", name := "checkFromToIndex", desc := "(IIILjava/util/function/BiFunction;)I" } : Jvm.MethodName) ∈ wG := wG_of (List.mem_append_right _ (in_tt3 (List.mem_of_getElem? (i := 12) rfl))) rfl
set_option maxRecDepth 100000 in
theorem w_594 : Jvm.Cond.static ({ cls := "jdk/internal/util/Preconditions", name := "checkFromToIndex", desc := "(IIILjava/util/function/BiFunction;)I" } : Jvm.MethodName) ∈ wG := wG_of (List.mem_append_right _ (in_tt3 (List.mem_of_getElem? (i := 13) rfl))) rfl
set_option maxRecDepth 100000 in
theorem w_595 : Jvm.Cond.code ({ cls := "jdk/internal/util/Preconditions", name := "checkFromToIndex", desc := "(IIILjava/util/function/BiFunction;)I" } : Jvm.MethodName) prog_18_method_12_code (4 : Nat) (Option.some Jvm.ClassFile.FieldType.int) ∈ wG := wG_of (List.mem_append_right _ (in_tt3 (List.mem_of_getElem? (i := 14) rfl))) rfl
set_option maxRecDepth 100000 in
theorem w_614 : Jvm.Cond.methodLink "GossipTrain$Scribe" (56 : Nat) ({ cls := "GossipTrain$Scribe", name := "readSlope", desc := "()Z" } : Jvm.MethodName) ∈ wG := wG_of (List.mem_append_right _ (in_tt3 (List.mem_of_getElem? (i := 33) rfl))) rfl
set_option maxRecDepth 100000 in
theorem w_616 : Jvm.Cond.instanceMethod ({ cls := "GossipTrain$Scribe", name := "readSlope", desc := "()Z" } : Jvm.MethodName) ∈ wG := wG_of (List.mem_append_right _ (in_tt3 (List.mem_of_getElem? (i := 35) rfl))) rfl
set_option maxRecDepth 100000 in
theorem w_617 : Jvm.Cond.code ({ cls := "GossipTrain$Scribe", name := "readSlope", desc := "()Z" } : Jvm.MethodName) prog_5_method_6_code (2 : Nat) (Option.some Jvm.ClassFile.FieldType.boolean) ∈ wG := wG_of (List.mem_append_right _ (in_tt3 (List.mem_of_getElem? (i := 36) rfl))) rfl
set_option maxRecDepth 100000 in
theorem w_619 : Jvm.Cond.methodLinkNest "GossipTrain" (135 : Nat) ({ cls := "GossipTrain$Scribe", name := "handOver", desc := "()LGossipTrain$Branch;" } : Jvm.MethodName) "GossipTrain" ∈ wN := List.mem_filter.mpr ⟨in_tt3 (List.mem_of_getElem? (i := 38) rfl), rfl⟩
set_option maxRecDepth 100000 in
theorem w_621 : Jvm.Cond.instanceMethod ({ cls := "GossipTrain$Scribe", name := "handOver", desc := "()LGossipTrain$Branch;" } : Jvm.MethodName) ∈ wG := wG_of (List.mem_append_right _ (in_tt3 (List.mem_of_getElem? (i := 40) rfl))) rfl
set_option maxRecDepth 100000 in
theorem w_622 : Jvm.Cond.code ({ cls := "GossipTrain$Scribe", name := "handOver", desc := "()LGossipTrain$Branch;" } : Jvm.MethodName) prog_5_method_3_code (2 : Nat) (Option.some (Jvm.ClassFile.FieldType.object "GossipTrain$Branch")) ∈ wG := wG_of (List.mem_append_right _ (in_tt3 (List.mem_of_getElem? (i := 41) rfl))) rfl
set_option maxRecDepth 100000 in
theorem w_623 : Jvm.Cond.arrayClass Jvm.ClassFile.FieldType.byte ∈ wG := wG_of (List.mem_append_right _ (in_tt3 (List.mem_of_getElem? (i := 42) rfl))) rfl
set_option maxRecDepth 100000 in
theorem w_624 : Jvm.Cond.methodLink "GossipTrainLaw" (55 : Nat) ({ cls := "GossipTrain", name := "told", desc := "(I)I" } : Jvm.MethodName) ∈ wG := wG_of (List.mem_append_right _ (in_tt3 (List.mem_of_getElem? (i := 43) rfl))) rfl
set_option maxRecDepth 100000 in
theorem w_625 : Jvm.Cond.instanceMethod ({ cls := "GossipTrain", name := "told", desc := "(I)I" } : Jvm.MethodName) ∈ wG := wG_of (List.mem_append_right _ (in_tt3 (List.mem_of_getElem? (i := 44) rfl))) rfl
set_option maxRecDepth 100000 in
theorem w_626 : Jvm.Cond.selects "GossipTrain" ({ cls := "GossipTrain", name := "told", desc := "(I)I" } : Jvm.MethodName) ({ cls := "GossipTrain", name := "told", desc := "(I)I" } : Jvm.MethodName) ∈ wG := wG_of (List.mem_append_right _ (in_tt3 (List.mem_of_getElem? (i := 45) rfl))) rfl
set_option maxRecDepth 100000 in
theorem w_627 : Jvm.Cond.code ({ cls := "GossipTrain", name := "told", desc := "(I)I" } : Jvm.MethodName) prog_1_method_11_code (2 : Nat) (Option.some Jvm.ClassFile.FieldType.int) ∈ wG := wG_of (List.mem_append_right _ (in_tt3 (List.mem_of_getElem? (i := 46) rfl))) rfl
set_option maxRecDepth 100000 in
theorem w_628 : Jvm.Cond.methodLinkNest "GossipTrain" (157 : Nat) ({ cls := "GossipTrain$Train", name := "ash", desc := "()I" } : Jvm.MethodName) "GossipTrain" ∈ wN := List.mem_filter.mpr ⟨in_tt3 (List.mem_of_getElem? (i := 47) rfl), rfl⟩
set_option maxRecDepth 100000 in
theorem w_630 : Jvm.Cond.instanceMethod ({ cls := "GossipTrain$Train", name := "ash", desc := "()I" } : Jvm.MethodName) ∈ wG := wG_of (List.mem_append_right _ (in_tt3 (List.mem_of_getElem? (i := 49) rfl))) rfl
set_option maxRecDepth 100000 in
theorem w_631 : Jvm.Cond.code ({ cls := "GossipTrain$Train", name := "ash", desc := "()I" } : Jvm.MethodName) prog_8_method_9_code (4 : Nat) (Option.some Jvm.ClassFile.FieldType.int) ∈ wG := wG_of (List.mem_append_right _ (in_tt3 (List.mem_of_getElem? (i := 50) rfl))) rfl
set_option maxRecDepth 100000 in
theorem w_632 : Jvm.Cond.methodLinkNest "GossipTrain" (161 : Nat) ({ cls := "GossipTrain$Train", name := "spread", desc := "(I)I" } : Jvm.MethodName) "GossipTrain" ∈ wN := List.mem_filter.mpr ⟨in_tt3 (List.mem_of_getElem? (i := 51) rfl), rfl⟩
set_option maxRecDepth 100000 in
theorem w_634 : Jvm.Cond.instanceMethod ({ cls := "GossipTrain$Train", name := "spread", desc := "(I)I" } : Jvm.MethodName) ∈ wG := wG_of (List.mem_append_right _ (in_tt3 (List.mem_of_getElem? (i := 53) rfl))) rfl
set_option maxRecDepth 100000 in
theorem w_635 : Jvm.Cond.code ({ cls := "GossipTrain$Train", name := "spread", desc := "(I)I" } : Jvm.MethodName) prog_8_method_10_code (4 : Nat) (Option.some Jvm.ClassFile.FieldType.int) ∈ wG := wG_of (List.mem_append_right _ (in_tt3 (List.mem_of_getElem? (i := 54) rfl))) rfl
set_option maxRecDepth 100000 in
theorem w_636 : Jvm.Cond.methodLink "GossipTrain$Train" (84 : Nat) ({ cls := "GossipTrain$Train", name := "hearersOf", desc := "(I)I" } : Jvm.MethodName) ∈ wG := wG_of (List.mem_append_right _ (in_tt3 (List.mem_of_getElem? (i := 55) rfl))) rfl
set_option maxRecDepth 100000 in
theorem w_638 : Jvm.Cond.instanceMethod ({ cls := "GossipTrain$Train", name := "hearersOf", desc := "(I)I" } : Jvm.MethodName) ∈ wG := wG_of (List.mem_append_right _ (in_tt3 (List.mem_of_getElem? (i := 57) rfl))) rfl
set_option maxRecDepth 100000 in
theorem w_639 : Jvm.Cond.code ({ cls := "GossipTrain$Train", name := "hearersOf", desc := "(I)I" } : Jvm.MethodName) prog_8_method_11_code (4 : Nat) (Option.some Jvm.ClassFile.FieldType.int) ∈ wG := wG_of (List.mem_append_right _ (in_tt3 (List.mem_of_getElem? (i := 58) rfl))) rfl
set_option maxRecDepth 100000 in
theorem w_640 : Jvm.Cond.methodLink "GossipTrainLaw" (59 : Nat) ({ cls := "GossipTrain", name := "pass", desc := "(I)I" } : Jvm.MethodName) ∈ wG := wG_of (List.mem_append_right _ (in_tt3 (List.mem_of_getElem? (i := 59) rfl))) rfl
set_option maxRecDepth 100000 in
theorem w_641 : Jvm.Cond.instanceMethod ({ cls := "GossipTrain", name := "pass", desc := "(I)I" } : Jvm.MethodName) ∈ wG := wG_of (List.mem_append_right _ (in_tt3 (List.mem_of_getElem? (i := 60) rfl))) rfl
set_option maxRecDepth 100000 in
theorem w_642 : Jvm.Cond.selects "GossipTrain" ({ cls := "GossipTrain", name := "pass", desc := "(I)I" } : Jvm.MethodName) ({ cls := "GossipTrain", name := "pass", desc := "(I)I" } : Jvm.MethodName) ∈ wG := wG_of (List.mem_append_right _ (in_tt3 (List.mem_of_getElem? (i := 61) rfl))) rfl
set_option maxRecDepth 100000 in
theorem w_643 : Jvm.Cond.code ({ cls := "GossipTrain", name := "pass", desc := "(I)I" } : Jvm.MethodName) prog_1_method_12_code (2 : Nat) (Option.some Jvm.ClassFile.FieldType.int) ∈ wG := wG_of (List.mem_append_right _ (in_tt3 (List.mem_of_getElem? (i := 62) rfl))) rfl
set_option maxRecDepth 100000 in
theorem w_644 : Jvm.Cond.methodLinkNest "GossipTrain" (164 : Nat) ({ cls := "GossipTrain$Train", name := "ride", desc := "(I)V" } : Jvm.MethodName) "GossipTrain" ∈ wN := List.mem_filter.mpr ⟨in_tt3 (List.mem_of_getElem? (i := 63) rfl), rfl⟩
set_option maxRecDepth 100000 in
theorem w_646 : Jvm.Cond.instanceMethod ({ cls := "GossipTrain$Train", name := "ride", desc := "(I)V" } : Jvm.MethodName) ∈ wG := wG_of (List.mem_append_right _ (in_tt3 (List.mem_of_getElem? (i := 65) rfl))) rfl
set_option maxRecDepth 100000 in
theorem w_647 : Jvm.Cond.code ({ cls := "GossipTrain$Train", name := "ride", desc := "(I)V" } : Jvm.MethodName) prog_8_method_12_code (5 : Nat) (Option.none : Option Jvm.ClassFile.FieldType) ∈ wG := wG_of (List.mem_append_right _ (in_tt3 (List.mem_of_getElem? (i := 66) rfl))) rfl
set_option maxRecDepth 100000 in
theorem w_648 : Jvm.Cond.methodLink "GossipTrain$Train" (88 : Nat) ({ cls := "GossipTrain$Train", name := "favourite", desc := "(I)I" } : Jvm.MethodName) ∈ wG := wG_of (List.mem_append_right _ (in_tt3 (List.mem_of_getElem? (i := 67) rfl))) rfl
set_option maxRecDepth 100000 in
theorem w_649 : Jvm.Cond.methodLink "GossipTrain$Train" (91 : Nat) ({ cls := "GossipTrain$Train", name := "tell", desc := "(II)V" } : Jvm.MethodName) ∈ wG := wG_of (List.mem_append_right _ (in_tt3 (List.mem_of_getElem? (i := 68) rfl))) rfl
set_option maxRecDepth 100000 in
theorem w_651 : Jvm.Cond.instanceMethod ({ cls := "GossipTrain$Train", name := "tell", desc := "(II)V" } : Jvm.MethodName) ∈ wG := wG_of (List.mem_append_right _ (in_tt3 (List.mem_of_getElem? (i := 70) rfl))) rfl
set_option maxRecDepth 100000 in
theorem w_652 : Jvm.Cond.code ({ cls := "GossipTrain$Train", name := "tell", desc := "(II)V" } : Jvm.MethodName) prog_8_method_13_code (5 : Nat) (Option.none : Option Jvm.ClassFile.FieldType) ∈ wG := wG_of (List.mem_append_right _ (in_tt3 (List.mem_of_getElem? (i := 71) rfl))) rfl
set_option maxRecDepth 100000 in
theorem w_653 : Jvm.Cond.methodLink "GossipTrain$Train" (98 : Nat) ({ cls := "java/lang/Math", name := "min", desc := "(II)I" } : Jvm.MethodName) ∈ wG := wG_of (List.mem_append_right _ (in_tt3 (List.mem_of_getElem? (i := 72) rfl))) rfl
set_option maxRecDepth 100000 in
theorem w_654 : Jvm.Cond.methodLink "GossipTrain$Train" (95 : Nat) ({ cls := "GossipTrain$Train", name := "roll", desc := "()V" } : Jvm.MethodName) ∈ wG := wG_of (List.mem_append_right _ (in_tt3 (List.mem_of_getElem? (i := 73) rfl))) rfl
set_option maxRecDepth 100000 in
theorem w_656 : Jvm.Cond.instanceMethod ({ cls := "GossipTrain$Train", name := "roll", desc := "()V" } : Jvm.MethodName) ∈ wG := wG_of (List.mem_append_right _ (in_tt3 (List.mem_of_getElem? (i := 75) rfl))) rfl
set_option maxRecDepth 100000 in
theorem w_657 : Jvm.Cond.code ({ cls := "GossipTrain$Train", name := "roll", desc := "()V" } : Jvm.MethodName) prog_8_method_14_code (3 : Nat) (Option.none : Option Jvm.ClassFile.FieldType) ∈ wG := wG_of (List.mem_append_right _ (in_tt3 (List.mem_of_getElem? (i := 76) rfl))) rfl
set_option maxRecDepth 100000 in
theorem w_658 : Jvm.Cond.methodLink "GossipTrain$Train" (106 : Nat) ({ cls := "java/lang/Math", name := "max", desc := "(II)I" } : Jvm.MethodName) ∈ wG := wG_of (List.mem_append_right _ (in_tt3 (List.mem_of_getElem? (i := 77) rfl))) rfl
set_option maxRecDepth 100000 in
theorem w_659 : Jvm.Cond.methodLink "GossipTrainLaw" (63 : Nat) ({ cls := "GossipTrain", name := "on", desc := "(II)I" } : Jvm.MethodName) ∈ wG := wG_of (List.mem_append_right _ (in_tt3 (List.mem_of_getElem? (i := 78) rfl))) rfl
set_option maxRecDepth 100000 in
theorem w_660 : Jvm.Cond.instanceMethod ({ cls := "GossipTrain", name := "on", desc := "(II)I" } : Jvm.MethodName) ∈ wG := wG_of (List.mem_append_right _ (in_tt3 (List.mem_of_getElem? (i := 79) rfl))) rfl
set_option maxRecDepth 100000 in
theorem w_661 : Jvm.Cond.selects "GossipTrain" ({ cls := "GossipTrain", name := "on", desc := "(II)I" } : Jvm.MethodName) ({ cls := "GossipTrain", name := "on", desc := "(II)I" } : Jvm.MethodName) ∈ wG := wG_of (List.mem_append_right _ (in_tt3 (List.mem_of_getElem? (i := 80) rfl))) rfl
set_option maxRecDepth 100000 in
theorem w_662 : Jvm.Cond.code ({ cls := "GossipTrain", name := "on", desc := "(II)I" } : Jvm.MethodName) prog_1_method_13_code (5 : Nat) (Option.some Jvm.ClassFile.FieldType.int) ∈ wG := wG_of (List.mem_append_right _ (in_tt3 (List.mem_of_getElem? (i := 81) rfl))) rfl
set_option maxRecDepth 100000 in
theorem w_663 : Jvm.Cond.methodLinkNest "GossipTrain" (168 : Nat) ({ cls := "GossipTrain$Train", name := "becomeLike", desc := "(LGossipTrain$Train;)V" } : Jvm.MethodName) "GossipTrain" ∈ wN := List.mem_filter.mpr ⟨in_tt3 (List.mem_of_getElem? (i := 82) rfl), rfl⟩
set_option maxRecDepth 100000 in
theorem w_665 : Jvm.Cond.instanceMethod ({ cls := "GossipTrain$Train", name := "becomeLike", desc := "(LGossipTrain$Train;)V" } : Jvm.MethodName) ∈ wG := wG_of (List.mem_append_right _ (in_tt3 (List.mem_of_getElem? (i := 84) rfl))) rfl
set_option maxRecDepth 100000 in
theorem w_666 : Jvm.Cond.code ({ cls := "GossipTrain$Train", name := "becomeLike", desc := "(LGossipTrain$Train;)V" } : Jvm.MethodName) prog_8_method_2_code (3 : Nat) (Option.none : Option Jvm.ClassFile.FieldType) ∈ wG := wG_of (List.mem_append_right _ (in_tt3 (List.mem_of_getElem? (i := 85) rfl))) rfl
set_option maxRecDepth 100000 in
theorem w_667 : Jvm.Cond.methodLink "GossipTrain$Train" (60 : Nat) ({ cls := "java/lang/System", name := "arraycopy", desc := "(Ljava/lang/Object;ILjava/lang/Object;II)V" } : Jvm.MethodName) ∈ wG := wG_of (List.mem_append_right _ (in_tt3 (List.mem_of_getElem? (i := 86) rfl))) rfl
set_option maxRecDepth 100000 in
theorem w_668 : Jvm.Cond.static ({ cls := "java/lang/System", name := "arraycopy", desc := "(Ljava/lang/Object;ILjava/lang/Object;II)V" } : Jvm.MethodName) ∈ wG := wG_of (List.mem_append_right _ (in_tt3 (List.mem_of_getElem? (i := 87) rfl))) rfl
set_option maxRecDepth 100000 in
theorem w_669 : Jvm.Cond.native ({ cls := "java/lang/System", name := "arraycopy", desc := "(Ljava/lang/Object;ILjava/lang/Object;II)V" } : Jvm.MethodName) ∈ wG := wG_of (List.mem_append_right _ (in_tt3 (List.mem_of_getElem? (i := 88) rfl))) rfl
set_option maxRecDepth 100000 in
theorem w_670 : Jvm.Cond.methodLink "GossipTrainLaw" (67 : Nat) ({ cls := "GossipTrain", name := "gets", desc := "(I)I" } : Jvm.MethodName) ∈ wG := wG_of (List.mem_append_right _ (in_tt3 (List.mem_of_getElem? (i := 89) rfl))) rfl
set_option maxRecDepth 100000 in
theorem w_671 : Jvm.Cond.instanceMethod ({ cls := "GossipTrain", name := "gets", desc := "(I)I" } : Jvm.MethodName) ∈ wG := wG_of (List.mem_append_right _ (in_tt3 (List.mem_of_getElem? (i := 90) rfl))) rfl
set_option maxRecDepth 100000 in
theorem w_672 : Jvm.Cond.selects "GossipTrain" ({ cls := "GossipTrain", name := "gets", desc := "(I)I" } : Jvm.MethodName) ({ cls := "GossipTrain", name := "gets", desc := "(I)I" } : Jvm.MethodName) ∈ wG := wG_of (List.mem_append_right _ (in_tt3 (List.mem_of_getElem? (i := 91) rfl))) rfl
set_option maxRecDepth 100000 in
theorem w_673 : Jvm.Cond.code ({ cls := "GossipTrain", name := "gets", desc := "(I)I" } : Jvm.MethodName) prog_1_method_14_code (3 : Nat) (Option.some Jvm.ClassFile.FieldType.int) ∈ wG := wG_of (List.mem_append_right _ (in_tt3 (List.mem_of_getElem? (i := 92) rfl))) rfl
set_option maxRecDepth 100000 in
theorem w_674 : Jvm.Cond.methodLink "GossipTrainLaw" (71 : Nat) ({ cls := "GossipTrain", name := "hears", desc := "(II)I" } : Jvm.MethodName) ∈ wG := wG_of (List.mem_append_right _ (in_tt3 (List.mem_of_getElem? (i := 93) rfl))) rfl
set_option maxRecDepth 100000 in
theorem w_675 : Jvm.Cond.instanceMethod ({ cls := "GossipTrain", name := "hears", desc := "(II)I" } : Jvm.MethodName) ∈ wG := wG_of (List.mem_append_right _ (in_tt3 (List.mem_of_getElem? (i := 94) rfl))) rfl
set_option maxRecDepth 100000 in
theorem w_676 : Jvm.Cond.selects "GossipTrain" ({ cls := "GossipTrain", name := "hears", desc := "(II)I" } : Jvm.MethodName) ({ cls := "GossipTrain", name := "hears", desc := "(II)I" } : Jvm.MethodName) ∈ wG := wG_of (List.mem_append_right _ (in_tt3 (List.mem_of_getElem? (i := 95) rfl))) rfl
set_option maxRecDepth 100000 in
theorem w_677 : Jvm.Cond.code ({ cls := "GossipTrain", name := "hears", desc := "(II)I" } : Jvm.MethodName) prog_1_method_15_code (4 : Nat) (Option.some Jvm.ClassFile.FieldType.int) ∈ wG := wG_of (List.mem_append_right _ (in_tt3 (List.mem_of_getElem? (i := 96) rfl))) rfl
set_option maxRecDepth 100000 in
theorem w_678 : Jvm.Cond.methodLinkNest "GossipTrain" (172 : Nat) ({ cls := "GossipTrain$Train", name := "knowsOf", desc := "(II)Z" } : Jvm.MethodName) "GossipTrain" ∈ wN := List.mem_filter.mpr ⟨in_tt3 (List.mem_of_getElem? (i := 97) rfl), rfl⟩
set_option maxRecDepth 100000 in
theorem w_679 : Jvm.Cond.methodLink "GossipTrainLaw" (75 : Nat) ({ cls := "GossipTrain", name := "best", desc := "(II)I" } : Jvm.MethodName) ∈ wG := wG_of (List.mem_append_right _ (in_tt3 (List.mem_of_getElem? (i := 98) rfl))) rfl
set_option maxRecDepth 100000 in
theorem w_680 : Jvm.Cond.instanceMethod ({ cls := "GossipTrain", name := "best", desc := "(II)I" } : Jvm.MethodName) ∈ wG := wG_of (List.mem_append_right _ (in_tt3 (List.mem_of_getElem? (i := 99) rfl))) rfl
set_option maxRecDepth 100000 in
theorem w_681 : Jvm.Cond.selects "GossipTrain" ({ cls := "GossipTrain", name := "best", desc := "(II)I" } : Jvm.MethodName) ({ cls := "GossipTrain", name := "best", desc := "(II)I" } : Jvm.MethodName) ∈ wG := wG_of (List.mem_append_right _ (in_tt3 (List.mem_of_getElem? (i := 100) rfl))) rfl
set_option maxRecDepth 100000 in
theorem w_682 : Jvm.Cond.code ({ cls := "GossipTrain", name := "best", desc := "(II)I" } : Jvm.MethodName) prog_1_method_16_code (7 : Nat) (Option.some Jvm.ClassFile.FieldType.int) ∈ wG := wG_of (List.mem_append_right _ (in_tt3 (List.mem_of_getElem? (i := 101) rfl))) rfl
set_option maxRecDepth 100000 in
theorem w_683 : Jvm.Cond.methodLink "GossipTrainLaw" (79 : Nat) ({ cls := "GossipTrain", name := "swap", desc := "(I)I" } : Jvm.MethodName) ∈ wG := wG_of (List.mem_append_right _ (in_tt3 (List.mem_of_getElem? (i := 102) rfl))) rfl
set_option maxRecDepth 100000 in
theorem w_684 : Jvm.Cond.instanceMethod ({ cls := "GossipTrain", name := "swap", desc := "(I)I" } : Jvm.MethodName) ∈ wG := wG_of (List.mem_append_right _ (in_tt3 (List.mem_of_getElem? (i := 103) rfl))) rfl
set_option maxRecDepth 100000 in
theorem w_685 : Jvm.Cond.selects "GossipTrain" ({ cls := "GossipTrain", name := "swap", desc := "(I)I" } : Jvm.MethodName) ({ cls := "GossipTrain", name := "swap", desc := "(I)I" } : Jvm.MethodName) ∈ wG := wG_of (List.mem_append_right _ (in_tt3 (List.mem_of_getElem? (i := 104) rfl))) rfl
set_option maxRecDepth 100000 in
theorem w_686 : Jvm.Cond.code ({ cls := "GossipTrain", name := "swap", desc := "(I)I" } : Jvm.MethodName) prog_1_method_17_code (6 : Nat) (Option.some Jvm.ClassFile.FieldType.int) ∈ wG := wG_of (List.mem_append_right _ (in_tt3 (List.mem_of_getElem? (i := 105) rfl))) rfl
set_option maxRecDepth 100000 in
theorem w_687 : Jvm.Cond.methodLink "GossipTrainLaw" (83 : Nat) ({ cls := "GossipTrain", name := "see", desc := "(III)I" } : Jvm.MethodName) ∈ wG := wG_of (List.mem_append_right _ (in_tt3 (List.mem_of_getElem? (i := 106) rfl))) rfl
set_option maxRecDepth 100000 in
theorem w_688 : Jvm.Cond.instanceMethod ({ cls := "GossipTrain", name := "see", desc := "(III)I" } : Jvm.MethodName) ∈ wG := wG_of (List.mem_append_right _ (in_tt3 (List.mem_of_getElem? (i := 107) rfl))) rfl
set_option maxRecDepth 100000 in
theorem w_689 : Jvm.Cond.selects "GossipTrain" ({ cls := "GossipTrain", name := "see", desc := "(III)I" } : Jvm.MethodName) ({ cls := "GossipTrain", name := "see", desc := "(III)I" } : Jvm.MethodName) ∈ wG := wG_of (List.mem_append_right _ (in_tt3 (List.mem_of_getElem? (i := 108) rfl))) rfl
set_option maxRecDepth 100000 in
theorem w_690 : Jvm.Cond.code ({ cls := "GossipTrain", name := "see", desc := "(III)I" } : Jvm.MethodName) prog_1_method_18_code (4 : Nat) (Option.some Jvm.ClassFile.FieldType.int) ∈ wG := wG_of (List.mem_append_right _ (in_tt3 (List.mem_of_getElem? (i := 109) rfl))) rfl
set_option maxRecDepth 100000 in
theorem w_691 : Jvm.Cond.methodLinkNest "GossipTrain" (182 : Nat) ({ cls := "GossipTrain$Rows", name := "clear", desc := "()I" } : Jvm.MethodName) "GossipTrain" ∈ wN := List.mem_filter.mpr ⟨in_tt3 (List.mem_of_getElem? (i := 110) rfl), rfl⟩
set_option maxRecDepth 100000 in
theorem w_693 : Jvm.Cond.instanceMethod ({ cls := "GossipTrain$Rows", name := "clear", desc := "()I" } : Jvm.MethodName) ∈ wG := wG_of (List.mem_append_right _ (in_tt3 (List.mem_of_getElem? (i := 112) rfl))) rfl
set_option maxRecDepth 100000 in
theorem w_694 : Jvm.Cond.code ({ cls := "GossipTrain$Rows", name := "clear", desc := "()I" } : Jvm.MethodName) prog_4_method_2_code (1 : Nat) (Option.some Jvm.ClassFile.FieldType.int) ∈ wG := wG_of (List.mem_append_right _ (in_tt3 (List.mem_of_getElem? (i := 113) rfl))) rfl
set_option maxRecDepth 100000 in
theorem w_695 : Jvm.Cond.methodLinkNest "GossipTrain" (187 : Nat) ({ cls := "GossipTrain$Rows", name := "append", desc := "(III)I" } : Jvm.MethodName) "GossipTrain" ∈ wN := List.mem_filter.mpr ⟨in_tt3 (List.mem_of_getElem? (i := 114) rfl), rfl⟩
set_option maxRecDepth 100000 in
theorem w_697 : Jvm.Cond.instanceMethod ({ cls := "GossipTrain$Rows", name := "append", desc := "(III)I" } : Jvm.MethodName) ∈ wG := wG_of (List.mem_append_right _ (in_tt3 (List.mem_of_getElem? (i := 116) rfl))) rfl
set_option maxRecDepth 100000 in
theorem w_698 : Jvm.Cond.code ({ cls := "GossipTrain$Rows", name := "append", desc := "(III)I" } : Jvm.MethodName) prog_4_method_3_code (4 : Nat) (Option.some Jvm.ClassFile.FieldType.int) ∈ wG := wG_of (List.mem_append_right _ (in_tt3 (List.mem_of_getElem? (i := 117) rfl))) rfl
set_option maxRecDepth 100000 in
theorem w_699 : Jvm.Cond.methodLink "GossipTrainLaw" (87 : Nat) ({ cls := "GossipTrain", name := "can", desc := "(III)I" } : Jvm.MethodName) ∈ wG := wG_of (List.mem_append_right _ (in_tt3 (List.mem_of_getElem? (i := 118) rfl))) rfl
set_option maxRecDepth 100000 in
theorem w_700 : Jvm.Cond.instanceMethod ({ cls := "GossipTrain", name := "can", desc := "(III)I" } : Jvm.MethodName) ∈ wG := wG_of (List.mem_append_right _ (in_tt3 (List.mem_of_getElem? (i := 119) rfl))) rfl
set_option maxRecDepth 100000 in
theorem w_701 : Jvm.Cond.selects "GossipTrain" ({ cls := "GossipTrain", name := "can", desc := "(III)I" } : Jvm.MethodName) ({ cls := "GossipTrain", name := "can", desc := "(III)I" } : Jvm.MethodName) ∈ wG := wG_of (List.mem_append_right _ (in_tt3 (List.mem_of_getElem? (i := 120) rfl))) rfl
set_option maxRecDepth 100000 in
theorem w_702 : Jvm.Cond.code ({ cls := "GossipTrain", name := "can", desc := "(III)I" } : Jvm.MethodName) prog_1_method_19_code (9 : Nat) (Option.some Jvm.ClassFile.FieldType.int) ∈ wG := wG_of (List.mem_append_right _ (in_tt3 (List.mem_of_getElem? (i := 121) rfl))) rfl
set_option maxRecDepth 100000 in
theorem w_703 : Jvm.Cond.methodLink "GossipTrain" (191 : Nat) ({ cls := "GossipTrain", name := "isAllSeenSo", desc := "(II)Z" } : Jvm.MethodName) ∈ wG := wG_of (List.mem_append_right _ (in_tt3 (List.mem_of_getElem? (i := 122) rfl))) rfl
set_option maxRecDepth 100000 in
theorem w_705 : Jvm.Cond.instanceMethod ({ cls := "GossipTrain", name := "isAllSeenSo", desc := "(II)Z" } : Jvm.MethodName) ∈ wG := wG_of (List.mem_append_right _ (in_tt3 (List.mem_of_getElem? (i := 124) rfl))) rfl
set_option maxRecDepth 100000 in
theorem w_706 : Jvm.Cond.code ({ cls := "GossipTrain", name := "isAllSeenSo", desc := "(II)Z" } : Jvm.MethodName) prog_1_method_45_code (7 : Nat) (Option.some Jvm.ClassFile.FieldType.boolean) ∈ wG := wG_of (List.mem_append_right _ (in_tt3 (List.mem_of_getElem? (i := 125) rfl))) rfl
set_option maxRecDepth 100000 in
theorem w_707 : Jvm.Cond.methodLink "GossipTrain" (287 : Nat) ({ cls := "java/lang/Math", name := "max", desc := "(II)I" } : Jvm.MethodName) ∈ wG := wG_of (List.mem_append_right _ (in_tt3 (List.mem_of_getElem? (i := 126) rfl))) rfl
set_option maxRecDepth 100000 in
theorem w_708 : Jvm.Cond.methodLink "GossipTrainLaw" (91 : Nat) ({ cls := "GossipTrain", name := "odds", desc := "(III)J" } : Jvm.MethodName) ∈ wG := wG_of (List.mem_append_right _ (in_tt3 (List.mem_of_getElem? (i := 127) rfl))) rfl
set_option maxRecDepth 100000 in
theorem w_709 : Jvm.Cond.instanceMethod ({ cls := "GossipTrain", name := "odds", desc := "(III)J" } : Jvm.MethodName) ∈ wG := wG_of (List.mem_append_right _ (in_tt3 (List.mem_of_getElem? (i := 128) rfl))) rfl
set_option maxRecDepth 100000 in
theorem w_710 : Jvm.Cond.selects "GossipTrain" ({ cls := "GossipTrain", name := "odds", desc := "(III)J" } : Jvm.MethodName) ({ cls := "GossipTrain", name := "odds", desc := "(III)J" } : Jvm.MethodName) ∈ wG := wG_of (List.mem_append_right _ (in_tt3 (List.mem_of_getElem? (i := 129) rfl))) rfl
set_option maxRecDepth 100000 in
theorem w_711 : Jvm.Cond.code ({ cls := "GossipTrain", name := "odds", desc := "(III)J" } : Jvm.MethodName) prog_1_method_20_code (7 : Nat) (Option.some Jvm.ClassFile.FieldType.long) ∈ wG := wG_of (List.mem_append_right _ (in_tt3 (List.mem_of_getElem? (i := 130) rfl))) rfl
set_option maxRecDepth 100000 in
theorem w_712 : Jvm.Cond.constantLong "GossipTrain" (194 : Nat) (-9223372036854775808 : Int64) ∈ wG := wG_of (List.mem_append_right _ (in_tt3 (List.mem_of_getElem? (i := 131) rfl))) rfl
set_option maxRecDepth 100000 in
theorem w_713 : Jvm.Cond.methodLink "GossipTrain" (196 : Nat) ({ cls := "GossipTrain", name := "ofFraction", desc := "(III)J" } : Jvm.MethodName) ∈ wG := wG_of (List.mem_append_right _ (in_tt3 (List.mem_of_getElem? (i := 132) rfl))) rfl
set_option maxRecDepth 100000 in
theorem w_714 : Jvm.Cond.static ({ cls := "GossipTrain", name := "ofFraction", desc := "(III)J" } : Jvm.MethodName) ∈ wG := wG_of (List.mem_append_right _ (in_tt3 (List.mem_of_getElem? (i := 133) rfl))) rfl
set_option maxRecDepth 100000 in
theorem w_715 : Jvm.Cond.code ({ cls := "GossipTrain", name := "ofFraction", desc := "(III)J" } : Jvm.MethodName) prog_1_method_43_code (5 : Nat) (Option.some Jvm.ClassFile.FieldType.long) ∈ wG := wG_of (List.mem_append_right _ (in_tt3 (List.mem_of_getElem? (i := 134) rfl))) rfl
set_option maxRecDepth 100000 in
theorem w_716 : Jvm.Cond.methodLink "GossipTrainLaw" (96 : Nat) ({ cls := "GossipTrain", name := "mean", desc := "(II)J" } : Jvm.MethodName) ∈ wG := wG_of (List.mem_append_right _ (in_tt3 (List.mem_of_getElem? (i := 135) rfl))) rfl
set_option maxRecDepth 100000 in
theorem w_717 : Jvm.Cond.instanceMethod ({ cls := "GossipTrain", name := "mean", desc := "(II)J" } : Jvm.MethodName) ∈ wG := wG_of (List.mem_append_right _ (in_tt3 (List.mem_of_getElem? (i := 136) rfl))) rfl
set_option maxRecDepth 100000 in
theorem w_718 : Jvm.Cond.selects "GossipTrain" ({ cls := "GossipTrain", name := "mean", desc := "(II)J" } : Jvm.MethodName) ({ cls := "GossipTrain", name := "mean", desc := "(II)J" } : Jvm.MethodName) ∈ wG := wG_of (List.mem_append_right _ (in_tt3 (List.mem_of_getElem? (i := 137) rfl))) rfl
set_option maxRecDepth 100000 in
theorem w_719 : Jvm.Cond.code ({ cls := "GossipTrain", name := "mean", desc := "(II)J" } : Jvm.MethodName) prog_1_method_21_code (5 : Nat) (Option.some Jvm.ClassFile.FieldType.long) ∈ wG := wG_of (List.mem_append_right _ (in_tt3 (List.mem_of_getElem? (i := 138) rfl))) rfl
set_option maxRecDepth 100000 in
theorem w_720 : Jvm.Cond.methodLink "GossipTrain" (200 : Nat) ({ cls := "java/lang/Integer", name := "bitCount", desc := "(I)I" } : Jvm.MethodName) ∈ wG := wG_of (List.mem_append_right _ (in_tt3 (List.mem_of_getElem? (i := 139) rfl))) rfl
set_option maxRecDepth 100000 in
theorem w_721 : Jvm.Cond.static ({ cls := "java/lang/Integer", name := "bitCount", desc := "(I)I" } : Jvm.MethodName) ∈ wG := wG_of (List.mem_append_right _ (in_tt3 (List.mem_of_getElem? (i := 140) rfl))) rfl
set_option maxRecDepth 100000 in
theorem w_722 : Jvm.Cond.code ({ cls := "java/lang/Integer", name := "bitCount", desc := "(I)I" } : Jvm.MethodName) prog_12_method_49_code (1 : Nat) (Option.some Jvm.ClassFile.FieldType.int) ∈ wG := wG_of (List.mem_append_right _ (in_tt3 (List.mem_of_getElem? (i := 141) rfl))) rfl
set_option maxRecDepth 100000 in
theorem w_723 : Jvm.Cond.constant "java/lang/Integer" (265 : Nat) (1431655765 : Int32) ∈ wG := wG_of (List.mem_append_right _ (in_tt3 (List.mem_of_getElem? (i := 142) rfl))) rfl
set_option maxRecDepth 100000 in
theorem w_724 : Jvm.Cond.constant "java/lang/Integer" (266 : Nat) (858993459 : Int32) ∈ wG := wG_of (List.mem_append_right _ (in_tt3 (List.mem_of_getElem? (i := 143) rfl))) rfl
set_option maxRecDepth 100000 in
theorem w_725 : Jvm.Cond.constant "java/lang/Integer" (267 : Nat) (252645135 : Int32) ∈ wG := wG_of (List.mem_append_right _ (in_tt3 (List.mem_of_getElem? (i := 144) rfl))) rfl
set_option maxRecDepth 100000 in
theorem w_726 : Jvm.Cond.methodLink "GossipTrainLaw" (101 : Nat) ({ cls := "GossipTrain", name := "plan", desc := "(II)I" } : Jvm.MethodName) ∈ wG := wG_of (List.mem_append_right _ (in_tt3 (List.mem_of_getElem? (i := 145) rfl))) rfl
set_option maxRecDepth 100000 in
theorem w_727 : Jvm.Cond.instanceMethod ({ cls := "GossipTrain", name := "plan", desc := "(II)I" } : Jvm.MethodName) ∈ wG := wG_of (List.mem_append_right _ (in_tt3 (List.mem_of_getElem? (i := 146) rfl))) rfl
set_option maxRecDepth 100000 in
theorem w_728 : Jvm.Cond.selects "GossipTrain" ({ cls := "GossipTrain", name := "plan", desc := "(II)I" } : Jvm.MethodName) ({ cls := "GossipTrain", name := "plan", desc := "(II)I" } : Jvm.MethodName) ∈ wG := wG_of (List.mem_append_right _ (in_tt3 (List.mem_of_getElem? (i := 147) rfl))) rfl
set_option maxRecDepth 100000 in
theorem w_729 : Jvm.Cond.code ({ cls := "GossipTrain", name := "plan", desc := "(II)I" } : Jvm.MethodName) prog_1_method_22_code (5 : Nat) (Option.some Jvm.ClassFile.FieldType.int) ∈ wG := wG_of (List.mem_append_right _ (in_tt3 (List.mem_of_getElem? (i := 148) rfl))) rfl
set_option maxRecDepth 100000 in
theorem w_730 : Jvm.Cond.methodLink "GossipTrainLaw" (105 : Nat) ({ cls := "GossipTrain", name := "ends", desc := "(I)I" } : Jvm.MethodName) ∈ wG := wG_of (List.mem_append_right _ (in_tt3 (List.mem_of_getElem? (i := 149) rfl))) rfl
set_option maxRecDepth 100000 in
theorem w_731 : Jvm.Cond.instanceMethod ({ cls := "GossipTrain", name := "ends", desc := "(I)I" } : Jvm.MethodName) ∈ wG := wG_of (List.mem_append_right _ (in_tt3 (List.mem_of_getElem? (i := 150) rfl))) rfl
set_option maxRecDepth 100000 in
theorem w_732 : Jvm.Cond.selects "GossipTrain" ({ cls := "GossipTrain", name := "ends", desc := "(I)I" } : Jvm.MethodName) ({ cls := "GossipTrain", name := "ends", desc := "(I)I" } : Jvm.MethodName) ∈ wG := wG_of (List.mem_append_right _ (in_tt3 (List.mem_of_getElem? (i := 151) rfl))) rfl
set_option maxRecDepth 100000 in
theorem w_733 : Jvm.Cond.code ({ cls := "GossipTrain", name := "ends", desc := "(I)I" } : Jvm.MethodName) prog_1_method_23_code (3 : Nat) (Option.some Jvm.ClassFile.FieldType.int) ∈ wG := wG_of (List.mem_append_right _ (in_tt3 (List.mem_of_getElem? (i := 152) rfl))) rfl
set_option maxRecDepth 100000 in
theorem w_734 : Jvm.Cond.methodLink "GossipTrain" (220 : Nat) ({ cls := "GossipTrain", name := "doPlanned", desc := "(III)V" } : Jvm.MethodName) ∈ wG := wG_of (List.mem_append_right _ (in_tt3 (List.mem_of_getElem? (i := 153) rfl))) rfl
set_option maxRecDepth 100000 in
theorem w_736 : Jvm.Cond.instanceMethod ({ cls := "GossipTrain", name := "doPlanned", desc := "(III)V" } : Jvm.MethodName) ∈ wG := wG_of (List.mem_append_right _ (in_tt3 (List.mem_of_getElem? (i := 155) rfl))) rfl
set_option maxRecDepth 100000 in
theorem w_737 : Jvm.Cond.code ({ cls := "GossipTrain", name := "doPlanned", desc := "(III)V" } : Jvm.MethodName) prog_1_method_46_code (4 : Nat) (Option.none : Option Jvm.ClassFile.FieldType) ∈ wG := wG_of (List.mem_append_right _ (in_tt3 (List.mem_of_getElem? (i := 156) rfl))) rfl
set_option maxRecDepth 100000 in
theorem w_738 : Jvm.Cond.methodLink "GossipTrainLaw" (109 : Nat) ({ cls := "GossipTrain", name := "book", desc := "(II)I" } : Jvm.MethodName) ∈ wG := wG_of (List.mem_append_right _ (in_tt3 (List.mem_of_getElem? (i := 157) rfl))) rfl
set_option maxRecDepth 100000 in
theorem w_739 : Jvm.Cond.instanceMethod ({ cls := "GossipTrain", name := "book", desc := "(II)I" } : Jvm.MethodName) ∈ wG := wG_of (List.mem_append_right _ (in_tt3 (List.mem_of_getElem? (i := 158) rfl))) rfl
set_option maxRecDepth 100000 in
theorem w_740 : Jvm.Cond.selects "GossipTrain" ({ cls := "GossipTrain", name := "book", desc := "(II)I" } : Jvm.MethodName) ({ cls := "GossipTrain", name := "book", desc := "(II)I" } : Jvm.MethodName) ∈ wG := wG_of (List.mem_append_right _ (in_tt3 (List.mem_of_getElem? (i := 159) rfl))) rfl
set_option maxRecDepth 100000 in
theorem w_741 : Jvm.Cond.code ({ cls := "GossipTrain", name := "book", desc := "(II)I" } : Jvm.MethodName) prog_1_method_24_code (3 : Nat) (Option.some Jvm.ClassFile.FieldType.int) ∈ wG := wG_of (List.mem_append_right _ (in_tt3 (List.mem_of_getElem? (i := 160) rfl))) rfl
set_option maxRecDepth 100000 in
theorem w_742 : Jvm.Cond.methodLink "GossipTrainLaw" (113 : Nat) ({ cls := "GossipTrain", name := "looked", desc := "()I" } : Jvm.MethodName) ∈ wG := wG_of (List.mem_append_right _ (in_tt3 (List.mem_of_getElem? (i := 161) rfl))) rfl
set_option maxRecDepth 100000 in
theorem w_743 : Jvm.Cond.instanceMethod ({ cls := "GossipTrain", name := "looked", desc := "()I" } : Jvm.MethodName) ∈ wG := wG_of (List.mem_append_right _ (in_tt3 (List.mem_of_getElem? (i := 162) rfl))) rfl
set_option maxRecDepth 100000 in
theorem w_744 : Jvm.Cond.selects "GossipTrain" ({ cls := "GossipTrain", name := "looked", desc := "()I" } : Jvm.MethodName) ({ cls := "GossipTrain", name := "looked", desc := "()I" } : Jvm.MethodName) ∈ wG := wG_of (List.mem_append_right _ (in_tt3 (List.mem_of_getElem? (i := 163) rfl))) rfl
set_option maxRecDepth 100000 in
theorem w_745 : Jvm.Cond.code ({ cls := "GossipTrain", name := "looked", desc := "()I" } : Jvm.MethodName) prog_1_method_25_code (3 : Nat) (Option.some Jvm.ClassFile.FieldType.int) ∈ wG := wG_of (List.mem_append_right _ (in_tt3 (List.mem_of_getElem? (i := 164) rfl))) rfl
set_option maxRecDepth 100000 in
theorem w_746 : Jvm.Cond.methodLink "GossipTrainLaw" (117 : Nat) ({ cls := "GossipTrain", name := "judge", desc := "(II)I" } : Jvm.MethodName) ∈ wG := wG_of (List.mem_append_right _ (in_tt3 (List.mem_of_getElem? (i := 165) rfl))) rfl
set_option maxRecDepth 100000 in
theorem w_747 : Jvm.Cond.instanceMethod ({ cls := "GossipTrain", name := "judge", desc := "(II)I" } : Jvm.MethodName) ∈ wG := wG_of (List.mem_append_right _ (in_tt3 (List.mem_of_getElem? (i := 166) rfl))) rfl
set_option maxRecDepth 100000 in
theorem w_748 : Jvm.Cond.selects "GossipTrain" ({ cls := "GossipTrain", name := "judge", desc := "(II)I" } : Jvm.MethodName) ({ cls := "GossipTrain", name := "judge", desc := "(II)I" } : Jvm.MethodName) ∈ wG := wG_of (List.mem_append_right _ (in_tt3 (List.mem_of_getElem? (i := 167) rfl))) rfl
set_option maxRecDepth 100000 in
theorem w_749 : Jvm.Cond.code ({ cls := "GossipTrain", name := "judge", desc := "(II)I" } : Jvm.MethodName) prog_1_method_26_code (6 : Nat) (Option.some Jvm.ClassFile.FieldType.int) ∈ wG := wG_of (List.mem_append_right _ (in_tt3 (List.mem_of_getElem? (i := 168) rfl))) rfl
set_option maxRecDepth 100000 in
theorem w_750 : Jvm.Cond.methodLink "GossipTrain" (227 : Nat) ({ cls := "GossipTrain", name := "tapeAt", desc := "(I)LGossipTrain$Tape;" } : Jvm.MethodName) ∈ wG := wG_of (List.mem_append_right _ (in_tt3 (List.mem_of_getElem? (i := 169) rfl))) rfl
set_option maxRecDepth 100000 in
theorem w_752 : Jvm.Cond.instanceMethod ({ cls := "GossipTrain", name := "tapeAt", desc := "(I)LGossipTrain$Tape;" } : Jvm.MethodName) ∈ wG := wG_of (List.mem_append_right _ (in_tt3 (List.mem_of_getElem? (i := 171) rfl))) rfl
set_option maxRecDepth 100000 in
theorem w_753 : Jvm.Cond.code ({ cls := "GossipTrain", name := "tapeAt", desc := "(I)LGossipTrain$Tape;" } : Jvm.MethodName) prog_1_method_47_code (2 : Nat) (Option.some (Jvm.ClassFile.FieldType.object "GossipTrain$Tape")) ∈ wG := wG_of (List.mem_append_right _ (in_tt3 (List.mem_of_getElem? (i := 172) rfl))) rfl
set_option maxRecDepth 100000 in
theorem w_754 : Jvm.Cond.methodLinkNest "GossipTrain" (234 : Nat) ({ cls := "GossipTrain$Tape", name := "countFrom", desc := "(I)I" } : Jvm.MethodName) "GossipTrain" ∈ wN := List.mem_filter.mpr ⟨in_tt3 (List.mem_of_getElem? (i := 173) rfl), rfl⟩
set_option maxRecDepth 100000 in
theorem w_756 : Jvm.Cond.instanceMethod ({ cls := "GossipTrain$Tape", name := "countFrom", desc := "(I)I" } : Jvm.MethodName) ∈ wG := wG_of (List.mem_append_right _ (in_tt3 (List.mem_of_getElem? (i := 175) rfl))) rfl
set_option maxRecDepth 100000 in
theorem w_757 : Jvm.Cond.code ({ cls := "GossipTrain$Tape", name := "countFrom", desc := "(I)I" } : Jvm.MethodName) prog_7_method_3_code (2 : Nat) (Option.some Jvm.ClassFile.FieldType.int) ∈ wG := wG_of (List.mem_append_right _ (in_tt3 (List.mem_of_getElem? (i := 176) rfl))) rfl
set_option maxRecDepth 100000 in
theorem w_758 : Jvm.Cond.methodLink "GossipTrainLaw" (121 : Nat) ({ cls := "GossipTrain", name := "image", desc := "()I" } : Jvm.MethodName) ∈ wG := wG_of (List.mem_append_right _ (in_tt3 (List.mem_of_getElem? (i := 177) rfl))) rfl
set_option maxRecDepth 100000 in
theorem w_759 : Jvm.Cond.instanceMethod ({ cls := "GossipTrain", name := "image", desc := "()I" } : Jvm.MethodName) ∈ wG := wG_of (List.mem_append_right _ (in_tt3 (List.mem_of_getElem? (i := 178) rfl))) rfl
set_option maxRecDepth 100000 in
theorem w_760 : Jvm.Cond.selects "GossipTrain" ({ cls := "GossipTrain", name := "image", desc := "()I" } : Jvm.MethodName) ({ cls := "GossipTrain", name := "image", desc := "()I" } : Jvm.MethodName) ∈ wG := wG_of (List.mem_append_right _ (in_tt3 (List.mem_of_getElem? (i := 179) rfl))) rfl
set_option maxRecDepth 100000 in
theorem w_761 : Jvm.Cond.code ({ cls := "GossipTrain", name := "image", desc := "()I" } : Jvm.MethodName) prog_1_method_27_code (1 : Nat) (Option.some Jvm.ClassFile.FieldType.int) ∈ wG := wG_of (List.mem_append_right _ (in_tt3 (List.mem_of_getElem? (i := 180) rfl))) rfl
set_option maxRecDepth 100000 in
theorem w_762 : Jvm.Cond.methodLinkNest "GossipTrain" (241 : Nat) ({ cls := "GossipTrain$Notes", name := "becomeLike", desc := "(LGossipTrain$Notes;)V" } : Jvm.MethodName) "GossipTrain" ∈ wN := List.mem_filter.mpr ⟨in_tt3 (List.mem_of_getElem? (i := 181) rfl), rfl⟩
set_option maxRecDepth 100000 in
theorem w_764 : Jvm.Cond.instanceMethod ({ cls := "GossipTrain$Notes", name := "becomeLike", desc := "(LGossipTrain$Notes;)V" } : Jvm.MethodName) ∈ wG := wG_of (List.mem_append_right _ (in_tt3 (List.mem_of_getElem? (i := 183) rfl))) rfl
set_option maxRecDepth 100000 in
theorem w_765 : Jvm.Cond.code ({ cls := "GossipTrain$Notes", name := "becomeLike", desc := "(LGossipTrain$Notes;)V" } : Jvm.MethodName) prog_3_method_2_code (2 : Nat) (Option.none : Option Jvm.ClassFile.FieldType) ∈ wG := wG_of (List.mem_append_right _ (in_tt3 (List.mem_of_getElem? (i := 184) rfl))) rfl
set_option maxRecDepth 100000 in
theorem w_766 : Jvm.Cond.methodLinkNest "GossipTrain$Notes" (26 : Nat) ({ cls := "GossipTrain$Rows", name := "becomeLike", desc := "(LGossipTrain$Rows;)V" } : Jvm.MethodName) "GossipTrain" ∈ wN := List.mem_filter.mpr ⟨in_tt3 (List.mem_of_getElem? (i := 185) rfl), rfl⟩
set_option maxRecDepth 100000 in
theorem w_768 : Jvm.Cond.instanceMethod ({ cls := "GossipTrain$Rows", name := "becomeLike", desc := "(LGossipTrain$Rows;)V" } : Jvm.MethodName) ∈ wG := wG_of (List.mem_append_right _ (in_tt3 (List.mem_of_getElem? (i := 187) rfl))) rfl
set_option maxRecDepth 100000 in
theorem w_769 : Jvm.Cond.code ({ cls := "GossipTrain$Rows", name := "becomeLike", desc := "(LGossipTrain$Rows;)V" } : Jvm.MethodName) prog_4_method_4_code (2 : Nat) (Option.none : Option Jvm.ClassFile.FieldType) ∈ wG := wG_of (List.mem_append_right _ (in_tt3 (List.mem_of_getElem? (i := 188) rfl))) rfl
set_option maxRecDepth 100000 in
theorem w_770 : Jvm.Cond.methodLink "GossipTrain$Rows" (34 : Nat) ({ cls := "java/lang/System", name := "arraycopy", desc := "(Ljava/lang/Object;ILjava/lang/Object;II)V" } : Jvm.MethodName) ∈ wG := wG_of (List.mem_append_right _ (in_tt3 (List.mem_of_getElem? (i := 189) rfl))) rfl
set_option maxRecDepth 100000 in
theorem w_771 : Jvm.Cond.methodLink "GossipTrainLaw" (125 : Nat) ({ cls := "GossipTrain", name := "undo", desc := "()I" } : Jvm.MethodName) ∈ wG := wG_of (List.mem_append_right _ (in_tt3 (List.mem_of_getElem? (i := 190) rfl))) rfl
set_option maxRecDepth 100000 in
theorem w_772 : Jvm.Cond.instanceMethod ({ cls := "GossipTrain", name := "undo", desc := "()I" } : Jvm.MethodName) ∈ wG := wG_of (List.mem_append_right _ (in_tt3 (List.mem_of_getElem? (i := 191) rfl))) rfl
set_option maxRecDepth 100000 in
theorem w_773 : Jvm.Cond.selects "GossipTrain" ({ cls := "GossipTrain", name := "undo", desc := "()I" } : Jvm.MethodName) ({ cls := "GossipTrain", name := "undo", desc := "()I" } : Jvm.MethodName) ∈ wG := wG_of (List.mem_append_right _ (in_tt3 (List.mem_of_getElem? (i := 192) rfl))) rfl
set_option maxRecDepth 100000 in
theorem w_774 : Jvm.Cond.code ({ cls := "GossipTrain", name := "undo", desc := "()I" } : Jvm.MethodName) prog_1_method_28_code (1 : Nat) (Option.some Jvm.ClassFile.FieldType.int) ∈ wG := wG_of (List.mem_append_right _ (in_tt3 (List.mem_of_getElem? (i := 193) rfl))) rfl
set_option maxRecDepth 100000 in
theorem w_775 : Jvm.Cond.methodLink "GossipTrainLaw" (129 : Nat) ({ cls := "GossipTrain", name := "act", desc := "(III)I" } : Jvm.MethodName) ∈ wG := wG_of (List.mem_append_right _ (in_tt3 (List.mem_of_getElem? (i := 194) rfl))) rfl
set_option maxRecDepth 100000 in
theorem w_776 : Jvm.Cond.instanceMethod ({ cls := "GossipTrain", name := "act", desc := "(III)I" } : Jvm.MethodName) ∈ wG := wG_of (List.mem_append_right _ (in_tt3 (List.mem_of_getElem? (i := 195) rfl))) rfl
set_option maxRecDepth 100000 in
theorem w_777 : Jvm.Cond.selects "GossipTrain" ({ cls := "GossipTrain", name := "act", desc := "(III)I" } : Jvm.MethodName) ({ cls := "GossipTrain", name := "act", desc := "(III)I" } : Jvm.MethodName) ∈ wG := wG_of (List.mem_append_right _ (in_tt3 (List.mem_of_getElem? (i := 196) rfl))) rfl
set_option maxRecDepth 100000 in
theorem w_778 : Jvm.Cond.code ({ cls := "GossipTrain", name := "act", desc := "(III)I" } : Jvm.MethodName) prog_1_method_29_code (4 : Nat) (Option.some Jvm.ClassFile.FieldType.int) ∈ wG := wG_of (List.mem_append_right _ (in_tt3 (List.mem_of_getElem? (i := 197) rfl))) rfl
set_option maxRecDepth 100000 in
theorem w_779 : Jvm.Cond.methodLinkNest "GossipTrain" (256 : Nat) ({ cls := "GossipTrain$Stage", name := "play", desc := "(IIII)I" } : Jvm.MethodName) "GossipTrain" ∈ wN := List.mem_filter.mpr ⟨in_tt3 (List.mem_of_getElem? (i := 198) rfl), rfl⟩
set_option maxRecDepth 100000 in
theorem w_781 : Jvm.Cond.instanceMethod ({ cls := "GossipTrain$Stage", name := "play", desc := "(IIII)I" } : Jvm.MethodName) ∈ wG := wG_of (List.mem_append_right _ (in_tt3 (List.mem_of_getElem? (i := 200) rfl))) rfl
set_option maxRecDepth 100000 in
theorem w_782 : Jvm.Cond.code ({ cls := "GossipTrain$Stage", name := "play", desc := "(IIII)I" } : Jvm.MethodName) prog_6_method_2_code (7 : Nat) (Option.some Jvm.ClassFile.FieldType.int) ∈ wG := wG_of (List.mem_append_right _ (in_tt3 (List.mem_of_getElem? (i := 201) rfl))) rfl
set_option maxRecDepth 100000 in
theorem w_783 : Jvm.Cond.methodLink "GossipTrain$Stage" (28 : Nat) ({ cls := "GossipTrain$Stage", name := "ownerOf", desc := "(II)I" } : Jvm.MethodName) ∈ wG := wG_of (List.mem_append_right _ (in_tt3 (List.mem_of_getElem? (i := 202) rfl))) rfl
set_option maxRecDepth 100000 in
theorem w_784 : Jvm.Cond.static ({ cls := "GossipTrain$Stage", name := "ownerOf", desc := "(II)I" } : Jvm.MethodName) ∈ wG := wG_of (List.mem_append_right _ (in_tt3 (List.mem_of_getElem? (i := 203) rfl))) rfl
set_option maxRecDepth 100000 in
theorem w_785 : Jvm.Cond.code ({ cls := "GossipTrain$Stage", name := "ownerOf", desc := "(II)I" } : Jvm.MethodName) prog_6_method_4_code (4 : Nat) (Option.some Jvm.ClassFile.FieldType.int) ∈ wG := wG_of (List.mem_append_right _ (in_tt3 (List.mem_of_getElem? (i := 204) rfl))) rfl
set_option maxRecDepth 100000 in
theorem w_786 : Jvm.Cond.methodLinkNest "GossipTrain$Stage" (45 : Nat) ({ cls := "GossipTrain", name := "isWithin", desc := "(II)Z" } : Jvm.MethodName) "GossipTrain" ∈ wN := List.mem_filter.mpr ⟨in_tt3 (List.mem_of_getElem? (i := 205) rfl), rfl⟩
set_option maxRecDepth 100000 in
theorem w_787 : Jvm.Cond.fieldLinkNest "GossipTrain$Stage" (32 : Nat) "GossipTrain" "BODIES" "[I" "GossipTrain" ∈ wN := List.mem_filter.mpr ⟨in_tt3 (List.mem_of_getElem? (i := 206) rfl), rfl⟩
set_option maxRecDepth 100000 in
theorem w_789 : Jvm.Cond.fieldLinkNest "GossipTrain$Stage" (35 : Nat) "GossipTrain" "KIND_ABOVE" "[I" "GossipTrain" ∈ wN := List.mem_filter.mpr ⟨in_tt3 (List.mem_of_getElem? (i := 208) rfl), rfl⟩
set_option maxRecDepth 100000 in
theorem w_791 : Jvm.Cond.methodLink "GossipTrain$Stage" (38 : Nat) ({ cls := "GossipTrain$Stage", name := "run", desc := "(IIII)I" } : Jvm.MethodName) ∈ wG := wG_of (List.mem_append_right _ (in_tt3 (List.mem_of_getElem? (i := 210) rfl))) rfl
set_option maxRecDepth 100000 in
theorem w_793 : Jvm.Cond.instanceMethod ({ cls := "GossipTrain$Stage", name := "run", desc := "(IIII)I" } : Jvm.MethodName) ∈ wG := wG_of (List.mem_append_right _ (in_tt3 (List.mem_of_getElem? (i := 212) rfl))) rfl
set_option maxRecDepth 100000 in
theorem w_794 : Jvm.Cond.code ({ cls := "GossipTrain$Stage", name := "run", desc := "(IIII)I" } : Jvm.MethodName) prog_6_method_3_code (5 : Nat) (Option.some Jvm.ClassFile.FieldType.int) ∈ wG := wG_of (List.mem_append_right _ (in_tt3 (List.mem_of_getElem? (i := 213) rfl))) rfl
set_option maxRecDepth 100000 in
theorem w_795 : Jvm.Cond.methodLink "GossipTrain$Stage" (42 : Nat) ({ cls := "GossipTrain$Stage", name := "play", desc := "(IIII)I" } : Jvm.MethodName) ∈ wG := wG_of (List.mem_append_right _ (in_tt3 (List.mem_of_getElem? (i := 214) rfl))) rfl
set_option maxRecDepth 100000 in
theorem w_796 : Jvm.Cond.methodLink "GossipTrainLaw" (133 : Nat) ({ cls := "GossipTrain", name := "trace", desc := "(I)I" } : Jvm.MethodName) ∈ wG := wG_of (List.mem_append_right _ (in_tt3 (List.mem_of_getElem? (i := 215) rfl))) rfl
set_option maxRecDepth 100000 in
theorem w_797 : Jvm.Cond.instanceMethod ({ cls := "GossipTrain", name := "trace", desc := "(I)I" } : Jvm.MethodName) ∈ wG := wG_of (List.mem_append_right _ (in_tt3 (List.mem_of_getElem? (i := 216) rfl))) rfl
set_option maxRecDepth 100000 in
theorem w_798 : Jvm.Cond.selects "GossipTrain" ({ cls := "GossipTrain", name := "trace", desc := "(I)I" } : Jvm.MethodName) ({ cls := "GossipTrain", name := "trace", desc := "(I)I" } : Jvm.MethodName) ∈ wG := wG_of (List.mem_append_right _ (in_tt3 (List.mem_of_getElem? (i := 217) rfl))) rfl
set_option maxRecDepth 100000 in
theorem w_799 : Jvm.Cond.code ({ cls := "GossipTrain", name := "trace", desc := "(I)I" } : Jvm.MethodName) prog_1_method_30_code (2 : Nat) (Option.some Jvm.ClassFile.FieldType.int) ∈ wG := wG_of (List.mem_append_right _ (in_tt3 (List.mem_of_getElem? (i := 218) rfl))) rfl
set_option maxRecDepth 100000 in
theorem w_800 : Jvm.Cond.methodLink "GossipTrain" (259 : Nat) ({ cls := "java/lang/Math", name := "min", desc := "(II)I" } : Jvm.MethodName) ∈ wG := wG_of (List.mem_append_right _ (in_tt3 (List.mem_of_getElem? (i := 219) rfl))) rfl
set_option maxRecDepth 100000 in
theorem w_801 : Jvm.Cond.methodLink "GossipTrainLaw" (137 : Nat) ({ cls := "GossipTrain", name := "taken", desc := "(II)I" } : Jvm.MethodName) ∈ wG := wG_of (List.mem_append_right _ (in_tt3 (List.mem_of_getElem? (i := 220) rfl))) rfl
set_option maxRecDepth 100000 in
theorem w_802 : Jvm.Cond.instanceMethod ({ cls := "GossipTrain", name := "taken", desc := "(II)I" } : Jvm.MethodName) ∈ wG := wG_of (List.mem_append_right _ (in_tt3 (List.mem_of_getElem? (i := 221) rfl))) rfl
set_option maxRecDepth 100000 in
theorem w_803 : Jvm.Cond.selects "GossipTrain" ({ cls := "GossipTrain", name := "taken", desc := "(II)I" } : Jvm.MethodName) ({ cls := "GossipTrain", name := "taken", desc := "(II)I" } : Jvm.MethodName) ∈ wG := wG_of (List.mem_append_right _ (in_tt3 (List.mem_of_getElem? (i := 222) rfl))) rfl
set_option maxRecDepth 100000 in
theorem w_804 : Jvm.Cond.code ({ cls := "GossipTrain", name := "taken", desc := "(II)I" } : Jvm.MethodName) prog_1_method_31_code (4 : Nat) (Option.some Jvm.ClassFile.FieldType.int) ∈ wG := wG_of (List.mem_append_right _ (in_tt3 (List.mem_of_getElem? (i := 223) rfl))) rfl
set_option maxRecDepth 100000 in
theorem w_805 : Jvm.Cond.methodLink "GossipTrain" (267 : Nat) ({ cls := "GossipTrain", name := "isKindUnder", desc := "(II)Z" } : Jvm.MethodName) ∈ wG := wG_of (List.mem_append_right _ (in_tt3 (List.mem_of_getElem? (i := 224) rfl))) rfl
set_option maxRecDepth 100000 in
theorem w_806 : Jvm.Cond.static ({ cls := "GossipTrain", name := "isKindUnder", desc := "(II)Z" } : Jvm.MethodName) ∈ wG := wG_of (List.mem_append_right _ (in_tt3 (List.mem_of_getElem? (i := 225) rfl))) rfl
set_option maxRecDepth 100000 in
theorem w_807 : Jvm.Cond.code ({ cls := "GossipTrain", name := "isKindUnder", desc := "(II)Z" } : Jvm.MethodName) prog_1_method_44_code (4 : Nat) (Option.some Jvm.ClassFile.FieldType.boolean) ∈ wG := wG_of (List.mem_append_right _ (in_tt3 (List.mem_of_getElem? (i := 226) rfl))) rfl
set_option maxRecDepth 100000 in
theorem w_808 : Jvm.Cond.fieldLink "GossipTrain" (284 : Nat) "GossipTrain" "KIND_ABOVE" "[I" ∈ wG := wG_of (List.mem_append_right _ (in_tt3 (List.mem_of_getElem? (i := 227) rfl))) rfl
set_option maxRecDepth 100000 in
theorem w_809 : Jvm.Cond.methodLink "GossipTrainLaw" (141 : Nat) ({ cls := "GossipTrain", name := "count", desc := "(I)I" } : Jvm.MethodName) ∈ wG := wG_of (List.mem_append_right _ (in_tt3 (List.mem_of_getElem? (i := 228) rfl))) rfl
set_option maxRecDepth 100000 in
theorem w_810 : Jvm.Cond.instanceMethod ({ cls := "GossipTrain", name := "count", desc := "(I)I" } : Jvm.MethodName) ∈ wG := wG_of (List.mem_append_right _ (in_tt3 (List.mem_of_getElem? (i := 229) rfl))) rfl
set_option maxRecDepth 100000 in
theorem w_811 : Jvm.Cond.selects "GossipTrain" ({ cls := "GossipTrain", name := "count", desc := "(I)I" } : Jvm.MethodName) ({ cls := "GossipTrain", name := "count", desc := "(I)I" } : Jvm.MethodName) ∈ wG := wG_of (List.mem_append_right _ (in_tt3 (List.mem_of_getElem? (i := 230) rfl))) rfl
set_option maxRecDepth 100000 in
theorem w_812 : Jvm.Cond.code ({ cls := "GossipTrain", name := "count", desc := "(I)I" } : Jvm.MethodName) prog_1_method_32_code (2 : Nat) (Option.some Jvm.ClassFile.FieldType.int) ∈ wG := wG_of (List.mem_append_right _ (in_tt3 (List.mem_of_getElem? (i := 231) rfl))) rfl
set_option maxRecDepth 100000 in
theorem w_813 : Jvm.Cond.methodLink "GossipTrainLaw" (145 : Nat) ({ cls := "GossipTrain", name := "tape", desc := "(III)I" } : Jvm.MethodName) ∈ wG := wG_of (List.mem_append_right _ (in_tt3 (List.mem_of_getElem? (i := 232) rfl))) rfl
set_option maxRecDepth 100000 in
theorem w_814 : Jvm.Cond.instanceMethod ({ cls := "GossipTrain", name := "tape", desc := "(III)I" } : Jvm.MethodName) ∈ wG := wG_of (List.mem_append_right _ (in_tt3 (List.mem_of_getElem? (i := 233) rfl))) rfl
set_option maxRecDepth 100000 in
theorem w_815 : Jvm.Cond.selects "GossipTrain" ({ cls := "GossipTrain", name := "tape", desc := "(III)I" } : Jvm.MethodName) ({ cls := "GossipTrain", name := "tape", desc := "(III)I" } : Jvm.MethodName) ∈ wG := wG_of (List.mem_append_right _ (in_tt3 (List.mem_of_getElem? (i := 234) rfl))) rfl
set_option maxRecDepth 100000 in
theorem w_816 : Jvm.Cond.code ({ cls := "GossipTrain", name := "tape", desc := "(III)I" } : Jvm.MethodName) prog_1_method_33_code (5 : Nat) (Option.some Jvm.ClassFile.FieldType.int) ∈ wG := wG_of (List.mem_append_right _ (in_tt3 (List.mem_of_getElem? (i := 235) rfl))) rfl
set_option maxRecDepth 100000 in
theorem w_817 : Jvm.Cond.methodLinkNest "GossipTrain" (270 : Nat) ({ cls := "GossipTrain$Tape", name := "become", desc := "(II)I" } : Jvm.MethodName) "GossipTrain" ∈ wN := List.mem_filter.mpr ⟨in_tt3 (List.mem_of_getElem? (i := 236) rfl), rfl⟩
set_option maxRecDepth 100000 in
theorem w_819 : Jvm.Cond.instanceMethod ({ cls := "GossipTrain$Tape", name := "become", desc := "(II)I" } : Jvm.MethodName) ∈ wG := wG_of (List.mem_append_right _ (in_tt3 (List.mem_of_getElem? (i := 238) rfl))) rfl
set_option maxRecDepth 100000 in
theorem w_820 : Jvm.Cond.code ({ cls := "GossipTrain$Tape", name := "become", desc := "(II)I" } : Jvm.MethodName) prog_7_method_2_code (4 : Nat) (Option.some Jvm.ClassFile.FieldType.int) ∈ wG := wG_of (List.mem_append_right _ (in_tt3 (List.mem_of_getElem? (i := 239) rfl))) rfl
set_option maxRecDepth 100000 in
theorem w_821 : Jvm.Cond.methodLink "GossipTrain$Tape" (22 : Nat) ({ cls := "java/lang/Math", name := "min", desc := "(II)I" } : Jvm.MethodName) ∈ wG := wG_of (List.mem_append_right _ (in_tt4 (List.mem_of_getElem? (i := 0) rfl))) rfl
set_option maxRecDepth 100000 in
theorem w_822 : Jvm.Cond.methodLink "GossipTrain$Tape" (28 : Nat) ({ cls := "java/lang/Math", name := "max", desc := "(II)I" } : Jvm.MethodName) ∈ wG := wG_of (List.mem_append_right _ (in_tt4 (List.mem_of_getElem? (i := 1) rfl))) rfl
set_option maxRecDepth 100000 in
theorem w_823 : Jvm.Cond.methodLink "GossipTrainLaw" (151 : Nat) ({ cls := "GossipTrain", name := "item", desc := "(IIJ)I" } : Jvm.MethodName) ∈ wG := wG_of (List.mem_append_right _ (in_tt4 (List.mem_of_getElem? (i := 2) rfl))) rfl
set_option maxRecDepth 100000 in
theorem w_824 : Jvm.Cond.instanceMethod ({ cls := "GossipTrain", name := "item", desc := "(IIJ)I" } : Jvm.MethodName) ∈ wG := wG_of (List.mem_append_right _ (in_tt4 (List.mem_of_getElem? (i := 3) rfl))) rfl
set_option maxRecDepth 100000 in
theorem w_825 : Jvm.Cond.selects "GossipTrain" ({ cls := "GossipTrain", name := "item", desc := "(IIJ)I" } : Jvm.MethodName) ({ cls := "GossipTrain", name := "item", desc := "(IIJ)I" } : Jvm.MethodName) ∈ wG := wG_of (List.mem_append_right _ (in_tt4 (List.mem_of_getElem? (i := 4) rfl))) rfl
set_option maxRecDepth 100000 in
theorem w_826 : Jvm.Cond.code ({ cls := "GossipTrain", name := "item", desc := "(IIJ)I" } : Jvm.MethodName) prog_1_method_34_code (6 : Nat) (Option.some Jvm.ClassFile.FieldType.int) ∈ wG := wG_of (List.mem_append_right _ (in_tt4 (List.mem_of_getElem? (i := 5) rfl))) rfl
set_option maxRecDepth 100000 in
theorem w_827 : Jvm.Cond.methodLinkNest "GossipTrain" (274 : Nat) ({ cls := "GossipTrain$Tape", name := "lowestBits", desc := "(J)J" } : Jvm.MethodName) "GossipTrain" ∈ wN := List.mem_filter.mpr ⟨in_tt4 (List.mem_of_getElem? (i := 6) rfl), rfl⟩
set_option maxRecDepth 100000 in
theorem w_829 : Jvm.Cond.instanceMethod ({ cls := "GossipTrain$Tape", name := "lowestBits", desc := "(J)J" } : Jvm.MethodName) ∈ wG := wG_of (List.mem_append_right _ (in_tt4 (List.mem_of_getElem? (i := 8) rfl))) rfl
set_option maxRecDepth 100000 in
theorem w_830 : Jvm.Cond.code ({ cls := "GossipTrain$Tape", name := "lowestBits", desc := "(J)J" } : Jvm.MethodName) prog_7_method_4_code (3 : Nat) (Option.some Jvm.ClassFile.FieldType.long) ∈ wG := wG_of (List.mem_append_right _ (in_tt4 (List.mem_of_getElem? (i := 9) rfl))) rfl
set_option maxRecDepth 100000 in
theorem w_831 : Jvm.Cond.methodLink "GossipTrainLaw" (156 : Nat) ({ cls := "GossipTrain", name := "read", desc := "(II)J" } : Jvm.MethodName) ∈ wG := wG_of (List.mem_append_right _ (in_tt4 (List.mem_of_getElem? (i := 10) rfl))) rfl
set_option maxRecDepth 100000 in
theorem w_832 : Jvm.Cond.instanceMethod ({ cls := "GossipTrain", name := "read", desc := "(II)J" } : Jvm.MethodName) ∈ wG := wG_of (List.mem_append_right _ (in_tt4 (List.mem_of_getElem? (i := 11) rfl))) rfl
set_option maxRecDepth 100000 in
theorem w_833 : Jvm.Cond.selects "GossipTrain" ({ cls := "GossipTrain", name := "read", desc := "(II)J" } : Jvm.MethodName) ({ cls := "GossipTrain", name := "read", desc := "(II)J" } : Jvm.MethodName) ∈ wG := wG_of (List.mem_append_right _ (in_tt4 (List.mem_of_getElem? (i := 12) rfl))) rfl
set_option maxRecDepth 100000 in
theorem w_834 : Jvm.Cond.code ({ cls := "GossipTrain", name := "read", desc := "(II)J" } : Jvm.MethodName) prog_1_method_35_code (4 : Nat) (Option.some Jvm.ClassFile.FieldType.long) ∈ wG := wG_of (List.mem_append_right _ (in_tt4 (List.mem_of_getElem? (i := 13) rfl))) rfl
set_option maxRecDepth 100000 in
theorem w_835 : Jvm.Cond.methodLink "GossipTrainLaw" (160 : Nat) ({ cls := "GossipTrain", name := "shift", desc := "(IIIII)I" } : Jvm.MethodName) ∈ wG := wG_of (List.mem_append_right _ (in_tt4 (List.mem_of_getElem? (i := 14) rfl))) rfl
set_option maxRecDepth 100000 in
theorem w_836 : Jvm.Cond.instanceMethod ({ cls := "GossipTrain", name := "shift", desc := "(IIIII)I" } : Jvm.MethodName) ∈ wG := wG_of (List.mem_append_right _ (in_tt4 (List.mem_of_getElem? (i := 15) rfl))) rfl
set_option maxRecDepth 100000 in
theorem w_837 : Jvm.Cond.selects "GossipTrain" ({ cls := "GossipTrain", name := "shift", desc := "(IIIII)I" } : Jvm.MethodName) ({ cls := "GossipTrain", name := "shift", desc := "(IIIII)I" } : Jvm.MethodName) ∈ wG := wG_of (List.mem_append_right _ (in_tt4 (List.mem_of_getElem? (i := 16) rfl))) rfl
set_option maxRecDepth 100000 in
theorem w_838 : Jvm.Cond.code ({ cls := "GossipTrain", name := "shift", desc := "(IIIII)I" } : Jvm.MethodName) prog_1_method_36_code (8 : Nat) (Option.some Jvm.ClassFile.FieldType.int) ∈ wG := wG_of (List.mem_append_right _ (in_tt4 (List.mem_of_getElem? (i := 17) rfl))) rfl
set_option maxRecDepth 100000 in
theorem w_839 : Jvm.Cond.methodLink "GossipTrain" (278 : Nat) ({ cls := "java/lang/System", name := "arraycopy", desc := "(Ljava/lang/Object;ILjava/lang/Object;II)V" } : Jvm.MethodName) ∈ wG := wG_of (List.mem_append_right _ (in_tt4 (List.mem_of_getElem? (i := 18) rfl))) rfl
set_option maxRecDepth 100000 in
theorem w_840 : Jvm.Cond.classLink "GossipTrainLaw" (10 : Nat) "GossipTrainModel" ∈ wG := wG_of (List.mem_append_right _ (in_tt4 (List.mem_of_getElem? (i := 19) rfl))) rfl
set_option maxRecDepth 100000 in
theorem w_841 : Jvm.Cond.instantiable "GossipTrainModel" (77 : Nat) ∈ wG := wG_of (List.mem_append_right _ (in_tt4 (List.mem_of_getElem? (i := 20) rfl))) rfl
set_option maxRecDepth 100000 in
theorem w_842 : Jvm.Cond.methodLink "GossipTrainLaw" (12 : Nat) ({ cls := "GossipTrainModel", name := "<init>", desc := "()V" } : Jvm.MethodName) ∈ wG := wG_of (List.mem_append_right _ (in_tt4 (List.mem_of_getElem? (i := 21) rfl))) rfl
set_option maxRecDepth 100000 in
theorem w_843 : Jvm.Cond.instanceMethod ({ cls := "GossipTrainModel", name := "<init>", desc := "()V" } : Jvm.MethodName) ∈ wG := wG_of (List.mem_append_right _ (in_tt4 (List.mem_of_getElem? (i := 22) rfl))) rfl
set_option maxRecDepth 100000 in
theorem w_844 : Jvm.Cond.code ({ cls := "GossipTrainModel", name := "<init>", desc := "()V" } : Jvm.MethodName) prog_10_method_1_code (1 : Nat) (Option.none : Option Jvm.ClassFile.FieldType) ∈ wG := wG_of (List.mem_append_right _ (in_tt4 (List.mem_of_getElem? (i := 23) rfl))) rfl
set_option maxRecDepth 100000 in
theorem w_845 : Jvm.Cond.methodLink "GossipTrainModel" (1 : Nat) ({ cls := "java/lang/Object", name := "<init>", desc := "()V" } : Jvm.MethodName) ∈ wG := wG_of (List.mem_append_right _ (in_tt4 (List.mem_of_getElem? (i := 24) rfl))) rfl
set_option maxRecDepth 100000 in
theorem w_846 : Jvm.Cond.fieldLink "GossipTrainModel" (7 : Nat) "GossipTrainModel" "people" "I" ∈ wG := wG_of (List.mem_append_right _ (in_tt4 (List.mem_of_getElem? (i := 25) rfl))) rfl
set_option maxRecDepth 100000 in
theorem w_847 : Jvm.Cond.fieldLink "GossipTrainModel" (13 : Nat) "GossipTrainModel" "off" "I" ∈ wG := wG_of (List.mem_append_right _ (in_tt4 (List.mem_of_getElem? (i := 26) rfl))) rfl
set_option maxRecDepth 100000 in
theorem w_848 : Jvm.Cond.fieldLink "GossipTrainModel" (16 : Nat) "GossipTrainModel" "steam" "I" ∈ wG := wG_of (List.mem_append_right _ (in_tt4 (List.mem_of_getElem? (i := 27) rfl))) rfl
set_option maxRecDepth 100000 in
theorem w_849 : Jvm.Cond.fieldLink "GossipTrainModel" (19 : Nat) "GossipTrainModel" "spot" "I" ∈ wG := wG_of (List.mem_append_right _ (in_tt4 (List.mem_of_getElem? (i := 28) rfl))) rfl
set_option maxRecDepth 100000 in
theorem w_850 : Jvm.Cond.fieldLink "GossipTrainModel" (22 : Nat) "GossipTrainModel" "minute" "I" ∈ wG := wG_of (List.mem_append_right _ (in_tt4 (List.mem_of_getElem? (i := 29) rfl))) rfl
set_option maxRecDepth 100000 in
theorem w_851 : Jvm.Cond.fieldLink "GossipTrainModel" (25 : Nat) "GossipTrainModel" "kind" "[I" ∈ wG := wG_of (List.mem_append_right _ (in_tt4 (List.mem_of_getElem? (i := 30) rfl))) rfl
set_option maxRecDepth 100000 in
theorem w_852 : Jvm.Cond.fieldLink "GossipTrainModel" (29 : Nat) "GossipTrainModel" "v" "[I" ∈ wG := wG_of (List.mem_append_right _ (in_tt4 (List.mem_of_getElem? (i := 31) rfl))) rfl
set_option maxRecDepth 100000 in
theorem w_853 : Jvm.Cond.fieldLink "GossipTrainModel" (32 : Nat) "GossipTrainModel" "carriage" "[I" ∈ wG := wG_of (List.mem_append_right _ (in_tt4 (List.mem_of_getElem? (i := 32) rfl))) rfl
set_option maxRecDepth 100000 in
theorem w_854 : Jvm.Cond.fieldLink "GossipTrainModel" (35 : Nat) "GossipTrainModel" "knows" "[I" ∈ wG := wG_of (List.mem_append_right _ (in_tt4 (List.mem_of_getElem? (i := 33) rfl))) rfl
set_option maxRecDepth 100000 in
theorem w_855 : Jvm.Cond.fieldLink "GossipTrainModel" (38 : Nat) "GossipTrainModel" "rows" "[I" ∈ wG := wG_of (List.mem_append_right _ (in_tt4 (List.mem_of_getElem? (i := 34) rfl))) rfl
set_option maxRecDepth 100000 in
theorem w_856 : Jvm.Cond.fieldLink "GossipTrainModel" (41 : Nat) "GossipTrainModel" "often" "[I" ∈ wG := wG_of (List.mem_append_right _ (in_tt4 (List.mem_of_getElem? (i := 35) rfl))) rfl
set_option maxRecDepth 100000 in
theorem w_857 : Jvm.Cond.fieldLink "GossipTrainModel" (44 : Nat) "GossipTrainModel" "heat" "[I" ∈ wG := wG_of (List.mem_append_right _ (in_tt4 (List.mem_of_getElem? (i := 36) rfl))) rfl
set_option maxRecDepth 100000 in
theorem w_858 : Jvm.Cond.fieldLink "GossipTrainModel" (47 : Nat) "GossipTrainModel" "branches" "I" ∈ wG := wG_of (List.mem_append_right _ (in_tt4 (List.mem_of_getElem? (i := 37) rfl))) rfl
set_option maxRecDepth 100000 in
theorem w_859 : Jvm.Cond.fieldLink "GossipTrainModel" (50 : Nat) "GossipTrainModel" "the" "I" ∈ wG := wG_of (List.mem_append_right _ (in_tt4 (List.mem_of_getElem? (i := 38) rfl))) rfl
set_option maxRecDepth 100000 in
theorem w_860 : Jvm.Cond.fieldLink "GossipTrainModel" (53 : Nat) "GossipTrainModel" "fed" "I" ∈ wG := wG_of (List.mem_append_right _ (in_tt4 (List.mem_of_getElem? (i := 39) rfl))) rfl
set_option maxRecDepth 100000 in
theorem w_861 : Jvm.Cond.fieldLink "GossipTrainModel" (56 : Nat) "GossipTrainModel" "at" "I" ∈ wG := wG_of (List.mem_append_right _ (in_tt4 (List.mem_of_getElem? (i := 40) rfl))) rfl
set_option maxRecDepth 100000 in
theorem w_862 : Jvm.Cond.fieldLink "GossipTrainModel" (59 : Nat) "GossipTrainModel" "digits" "I" ∈ wG := wG_of (List.mem_append_right _ (in_tt4 (List.mem_of_getElem? (i := 41) rfl))) rfl
set_option maxRecDepth 100000 in
theorem w_863 : Jvm.Cond.fieldLink "GossipTrainModel" (62 : Nat) "GossipTrainModel" "text" "[I" ∈ wG := wG_of (List.mem_append_right _ (in_tt4 (List.mem_of_getElem? (i := 42) rfl))) rfl
set_option maxRecDepth 100000 in
theorem w_864 : Jvm.Cond.fieldLink "GossipTrainModel" (65 : Nat) "GossipTrainModel" "clauses" "[I" ∈ wG := wG_of (List.mem_append_right _ (in_tt4 (List.mem_of_getElem? (i := 43) rfl))) rfl
set_option maxRecDepth 100000 in
theorem w_865 : Jvm.Cond.fieldLink "GossipTrainModel" (68 : Nat) "GossipTrainModel" "word" "[I" ∈ wG := wG_of (List.mem_append_right _ (in_tt4 (List.mem_of_getElem? (i := 44) rfl))) rfl
set_option maxRecDepth 100000 in
theorem w_866 : Jvm.Cond.fieldLink "GossipTrainModel" (71 : Nat) "GossipTrainModel" "number" "[I" ∈ wG := wG_of (List.mem_append_right _ (in_tt4 (List.mem_of_getElem? (i := 45) rfl))) rfl
set_option maxRecDepth 100000 in
theorem w_867 : Jvm.Cond.fieldLink "GossipTrainModel" (74 : Nat) "GossipTrainModel" "from" "[I" ∈ wG := wG_of (List.mem_append_right _ (in_tt4 (List.mem_of_getElem? (i := 46) rfl))) rfl
set_option maxRecDepth 100000 in
theorem w_868 : Jvm.Cond.fieldLink "GossipTrainModel" (77 : Nat) "GossipTrainModel" "to" "[I" ∈ wG := wG_of (List.mem_append_right _ (in_tt4 (List.mem_of_getElem? (i := 47) rfl))) rfl
set_option maxRecDepth 100000 in
theorem w_869 : Jvm.Cond.fieldLink "GossipTrainModel" (80 : Nat) "GossipTrainModel" "sign" "[I" ∈ wG := wG_of (List.mem_append_right _ (in_tt4 (List.mem_of_getElem? (i := 48) rfl))) rfl
set_option maxRecDepth 100000 in
theorem w_870 : Jvm.Cond.fieldLink "GossipTrainModel" (83 : Nat) "GossipTrainModel" "waits" "[I" ∈ wG := wG_of (List.mem_append_right _ (in_tt4 (List.mem_of_getElem? (i := 49) rfl))) rfl
set_option maxRecDepth 100000 in
theorem w_871 : Jvm.Cond.fieldLink "GossipTrainModel" (86 : Nat) "GossipTrainModel" "signs" "I" ∈ wG := wG_of (List.mem_append_right _ (in_tt4 (List.mem_of_getElem? (i := 50) rfl))) rfl
set_option maxRecDepth 100000 in
theorem w_872 : Jvm.Cond.fieldLink "GossipTrainModel" (89 : Nat) "GossipTrainModel" "waiting" "I" ∈ wG := wG_of (List.mem_append_right _ (in_tt4 (List.mem_of_getElem? (i := 51) rfl))) rfl
set_option maxRecDepth 100000 in
theorem w_873 : Jvm.Cond.fieldLink "GossipTrainModel" (92 : Nat) "GossipTrainModel" "open" "I" ∈ wG := wG_of (List.mem_append_right _ (in_tt4 (List.mem_of_getElem? (i := 52) rfl))) rfl
set_option maxRecDepth 100000 in
theorem w_874 : Jvm.Cond.fieldLink "GossipTrainModel" (95 : Nat) "GossipTrainModel" "letters" "[I" ∈ wG := wG_of (List.mem_append_right _ (in_tt4 (List.mem_of_getElem? (i := 53) rfl))) rfl
set_option maxRecDepth 100000 in
theorem w_875 : Jvm.Cond.fieldLink "GossipTrainModel" (98 : Nat) "GossipTrainModel" "pile" "[Z" ∈ wG := wG_of (List.mem_append_right _ (in_tt4 (List.mem_of_getElem? (i := 54) rfl))) rfl
set_option maxRecDepth 100000 in
theorem w_876 : Jvm.Cond.fieldLink "GossipTrainModel" (102 : Nat) "GossipTrainModel" "keptOff" "I" ∈ wG := wG_of (List.mem_append_right _ (in_tt4 (List.mem_of_getElem? (i := 55) rfl))) rfl
set_option maxRecDepth 100000 in
theorem w_877 : Jvm.Cond.fieldLink "GossipTrainModel" (105 : Nat) "GossipTrainModel" "keptSteam" "I" ∈ wG := wG_of (List.mem_append_right _ (in_tt4 (List.mem_of_getElem? (i := 56) rfl))) rfl
set_option maxRecDepth 100000 in
theorem w_878 : Jvm.Cond.fieldLink "GossipTrainModel" (108 : Nat) "GossipTrainModel" "keptSpot" "I" ∈ wG := wG_of (List.mem_append_right _ (in_tt4 (List.mem_of_getElem? (i := 57) rfl))) rfl
set_option maxRecDepth 100000 in
theorem w_879 : Jvm.Cond.fieldLink "GossipTrainModel" (111 : Nat) "GossipTrainModel" "keptMinute" "I" ∈ wG := wG_of (List.mem_append_right _ (in_tt4 (List.mem_of_getElem? (i := 58) rfl))) rfl
set_option maxRecDepth 100000 in
theorem w_880 : Jvm.Cond.fieldLink "GossipTrainModel" (114 : Nat) "GossipTrainModel" "keptCarriage" "[I" ∈ wG := wG_of (List.mem_append_right _ (in_tt4 (List.mem_of_getElem? (i := 59) rfl))) rfl
set_option maxRecDepth 100000 in
theorem w_881 : Jvm.Cond.fieldLink "GossipTrainModel" (117 : Nat) "GossipTrainModel" "keptKnows" "[I" ∈ wG := wG_of (List.mem_append_right _ (in_tt4 (List.mem_of_getElem? (i := 60) rfl))) rfl
set_option maxRecDepth 100000 in
theorem w_882 : Jvm.Cond.fieldLink "GossipTrainModel" (120 : Nat) "GossipTrainModel" "keptOften" "[I" ∈ wG := wG_of (List.mem_append_right _ (in_tt4 (List.mem_of_getElem? (i := 61) rfl))) rfl
set_option maxRecDepth 100000 in
theorem w_883 : Jvm.Cond.fieldLink "GossipTrainModel" (123 : Nat) "GossipTrainModel" "seen" "I" ∈ wG := wG_of (List.mem_append_right _ (in_tt4 (List.mem_of_getElem? (i := 62) rfl))) rfl
set_option maxRecDepth 100000 in
theorem w_884 : Jvm.Cond.fieldLink "GossipTrainModel" (126 : Nat) "GossipTrainModel" "seenWho" "[I" ∈ wG := wG_of (List.mem_append_right _ (in_tt4 (List.mem_of_getElem? (i := 63) rfl))) rfl
set_option maxRecDepth 100000 in
theorem w_885 : Jvm.Cond.fieldLink "GossipTrainModel" (129 : Nat) "GossipTrainModel" "seenTale" "[I" ∈ wG := wG_of (List.mem_append_right _ (in_tt4 (List.mem_of_getElem? (i := 64) rfl))) rfl
set_option maxRecDepth 100000 in
theorem w_886 : Jvm.Cond.fieldLink "GossipTrainModel" (132 : Nat) "GossipTrainModel" "seenGlow" "[I" ∈ wG := wG_of (List.mem_append_right _ (in_tt4 (List.mem_of_getElem? (i := 65) rfl))) rfl
set_option maxRecDepth 100000 in
theorem w_887 : Jvm.Cond.fieldLink "GossipTrainModel" (135 : Nat) "GossipTrainModel" "plans" "I" ∈ wG := wG_of (List.mem_append_right _ (in_tt4 (List.mem_of_getElem? (i := 66) rfl))) rfl
set_option maxRecDepth 100000 in
theorem w_888 : Jvm.Cond.fieldLink "GossipTrainModel" (138 : Nat) "GossipTrainModel" "books" "I" ∈ wG := wG_of (List.mem_append_right _ (in_tt4 (List.mem_of_getElem? (i := 67) rfl))) rfl
set_option maxRecDepth 100000 in
theorem w_889 : Jvm.Cond.fieldLink "GossipTrainModel" (141 : Nat) "GossipTrainModel" "planWhat" "[I" ∈ wG := wG_of (List.mem_append_right _ (in_tt4 (List.mem_of_getElem? (i := 68) rfl))) rfl
set_option maxRecDepth 100000 in
theorem w_890 : Jvm.Cond.fieldLink "GossipTrainModel" (144 : Nat) "GossipTrainModel" "planNumber" "[I" ∈ wG := wG_of (List.mem_append_right _ (in_tt4 (List.mem_of_getElem? (i := 69) rfl))) rfl
set_option maxRecDepth 100000 in
theorem w_891 : Jvm.Cond.fieldLink "GossipTrainModel" (147 : Nat) "GossipTrainModel" "bookWho" "[I" ∈ wG := wG_of (List.mem_append_right _ (in_tt4 (List.mem_of_getElem? (i := 70) rfl))) rfl
set_option maxRecDepth 100000 in
theorem w_892 : Jvm.Cond.fieldLink "GossipTrainModel" (150 : Nat) "GossipTrainModel" "bookKnows" "[I" ∈ wG := wG_of (List.mem_append_right _ (in_tt4 (List.mem_of_getElem? (i := 71) rfl))) rfl
set_option maxRecDepth 100000 in
theorem w_893 : Jvm.Cond.fieldLink "GossipTrainModel" (153 : Nat) "GossipTrainModel" "hasImage" "Z" ∈ wG := wG_of (List.mem_append_right _ (in_tt4 (List.mem_of_getElem? (i := 72) rfl))) rfl
set_option maxRecDepth 100000 in
theorem w_894 : Jvm.Cond.fieldLink "GossipTrainModel" (157 : Nat) "GossipTrainModel" "imageThe" "I" ∈ wG := wG_of (List.mem_append_right _ (in_tt4 (List.mem_of_getElem? (i := 73) rfl))) rfl
set_option maxRecDepth 100000 in
theorem w_895 : Jvm.Cond.fieldLink "GossipTrainModel" (160 : Nat) "GossipTrainModel" "imagePeople" "I" ∈ wG := wG_of (List.mem_append_right _ (in_tt4 (List.mem_of_getElem? (i := 74) rfl))) rfl
set_option maxRecDepth 100000 in
theorem w_896 : Jvm.Cond.fieldLink "GossipTrainModel" (163 : Nat) "GossipTrainModel" "imageOff" "I" ∈ wG := wG_of (List.mem_append_right _ (in_tt4 (List.mem_of_getElem? (i := 75) rfl))) rfl
set_option maxRecDepth 100000 in
theorem w_897 : Jvm.Cond.fieldLink "GossipTrainModel" (166 : Nat) "GossipTrainModel" "imageSteam" "I" ∈ wG := wG_of (List.mem_append_right _ (in_tt4 (List.mem_of_getElem? (i := 76) rfl))) rfl
set_option maxRecDepth 100000 in
theorem w_898 : Jvm.Cond.fieldLink "GossipTrainModel" (169 : Nat) "GossipTrainModel" "imageSpot" "I" ∈ wG := wG_of (List.mem_append_right _ (in_tt4 (List.mem_of_getElem? (i := 77) rfl))) rfl
set_option maxRecDepth 100000 in
theorem w_899 : Jvm.Cond.fieldLink "GossipTrainModel" (172 : Nat) "GossipTrainModel" "imageMinute" "I" ∈ wG := wG_of (List.mem_append_right _ (in_tt4 (List.mem_of_getElem? (i := 78) rfl))) rfl
set_option maxRecDepth 100000 in
theorem w_900 : Jvm.Cond.fieldLink "GossipTrainModel" (175 : Nat) "GossipTrainModel" "imageSeen" "I" ∈ wG := wG_of (List.mem_append_right _ (in_tt4 (List.mem_of_getElem? (i := 79) rfl))) rfl
set_option maxRecDepth 100000 in
theorem w_901 : Jvm.Cond.fieldLink "GossipTrainModel" (178 : Nat) "GossipTrainModel" "imagePlans" "I" ∈ wG := wG_of (List.mem_append_right _ (in_tt4 (List.mem_of_getElem? (i := 80) rfl))) rfl
set_option maxRecDepth 100000 in
theorem w_902 : Jvm.Cond.fieldLink "GossipTrainModel" (181 : Nat) "GossipTrainModel" "imageBooks" "I" ∈ wG := wG_of (List.mem_append_right _ (in_tt4 (List.mem_of_getElem? (i := 81) rfl))) rfl
set_option maxRecDepth 100000 in
theorem w_903 : Jvm.Cond.fieldLink "GossipTrainModel" (184 : Nat) "GossipTrainModel" "imageKind" "[I" ∈ wG := wG_of (List.mem_append_right _ (in_tt4 (List.mem_of_getElem? (i := 82) rfl))) rfl
set_option maxRecDepth 100000 in
theorem w_904 : Jvm.Cond.fieldLink "GossipTrainModel" (187 : Nat) "GossipTrainModel" "imageV" "[I" ∈ wG := wG_of (List.mem_append_right _ (in_tt4 (List.mem_of_getElem? (i := 83) rfl))) rfl
set_option maxRecDepth 100000 in
theorem w_905 : Jvm.Cond.fieldLink "GossipTrainModel" (190 : Nat) "GossipTrainModel" "imageCarriage" "[I" ∈ wG := wG_of (List.mem_append_right _ (in_tt4 (List.mem_of_getElem? (i := 84) rfl))) rfl
set_option maxRecDepth 100000 in
theorem w_906 : Jvm.Cond.fieldLink "GossipTrainModel" (193 : Nat) "GossipTrainModel" "imageKnows" "[I" ∈ wG := wG_of (List.mem_append_right _ (in_tt4 (List.mem_of_getElem? (i := 85) rfl))) rfl
set_option maxRecDepth 100000 in
theorem w_907 : Jvm.Cond.fieldLink "GossipTrainModel" (196 : Nat) "GossipTrainModel" "imageRows" "[I" ∈ wG := wG_of (List.mem_append_right _ (in_tt4 (List.mem_of_getElem? (i := 86) rfl))) rfl
set_option maxRecDepth 100000 in
theorem w_908 : Jvm.Cond.fieldLink "GossipTrainModel" (199 : Nat) "GossipTrainModel" "imageHeat" "[I" ∈ wG := wG_of (List.mem_append_right _ (in_tt4 (List.mem_of_getElem? (i := 87) rfl))) rfl
set_option maxRecDepth 100000 in
theorem w_909 : Jvm.Cond.fieldLink "GossipTrainModel" (202 : Nat) "GossipTrainModel" "imageOften" "[I" ∈ wG := wG_of (List.mem_append_right _ (in_tt4 (List.mem_of_getElem? (i := 88) rfl))) rfl
set_option maxRecDepth 100000 in
theorem w_910 : Jvm.Cond.fieldLink "GossipTrainModel" (205 : Nat) "GossipTrainModel" "imageWho" "[I" ∈ wG := wG_of (List.mem_append_right _ (in_tt4 (List.mem_of_getElem? (i := 89) rfl))) rfl
set_option maxRecDepth 100000 in
theorem w_911 : Jvm.Cond.fieldLink "GossipTrainModel" (208 : Nat) "GossipTrainModel" "imageTale" "[I" ∈ wG := wG_of (List.mem_append_right _ (in_tt4 (List.mem_of_getElem? (i := 90) rfl))) rfl
set_option maxRecDepth 100000 in
theorem w_912 : Jvm.Cond.fieldLink "GossipTrainModel" (211 : Nat) "GossipTrainModel" "imageGlow" "[I" ∈ wG := wG_of (List.mem_append_right _ (in_tt4 (List.mem_of_getElem? (i := 91) rfl))) rfl
set_option maxRecDepth 100000 in
theorem w_913 : Jvm.Cond.fieldLink "GossipTrainModel" (214 : Nat) "GossipTrainModel" "imageWhat" "[I" ∈ wG := wG_of (List.mem_append_right _ (in_tt4 (List.mem_of_getElem? (i := 92) rfl))) rfl
set_option maxRecDepth 100000 in
theorem w_914 : Jvm.Cond.fieldLink "GossipTrainModel" (217 : Nat) "GossipTrainModel" "imageNumber" "[I" ∈ wG := wG_of (List.mem_append_right _ (in_tt4 (List.mem_of_getElem? (i := 93) rfl))) rfl
set_option maxRecDepth 100000 in
theorem w_915 : Jvm.Cond.fieldLink "GossipTrainModel" (220 : Nat) "GossipTrainModel" "imageBookWho" "[I" ∈ wG := wG_of (List.mem_append_right _ (in_tt4 (List.mem_of_getElem? (i := 94) rfl))) rfl
set_option maxRecDepth 100000 in
theorem w_916 : Jvm.Cond.fieldLink "GossipTrainModel" (223 : Nat) "GossipTrainModel" "imageBookKnows" "[I" ∈ wG := wG_of (List.mem_append_right _ (in_tt4 (List.mem_of_getElem? (i := 95) rfl))) rfl
set_option maxRecDepth 100000 in
theorem w_917 : Jvm.Cond.fieldLink "GossipTrainModel" (226 : Nat) "GossipTrainModel" "ran" "I" ∈ wG := wG_of (List.mem_append_right _ (in_tt4 (List.mem_of_getElem? (i := 96) rfl))) rfl
set_option maxRecDepth 100000 in
theorem w_918 : Jvm.Cond.fieldLink "GossipTrainModel" (229 : Nat) "GossipTrainModel" "bodies" "[I" ∈ wG := wG_of (List.mem_append_right _ (in_tt4 (List.mem_of_getElem? (i := 97) rfl))) rfl
set_option maxRecDepth 100000 in
theorem w_919 : Jvm.Cond.fieldLink "GossipTrainModel" (232 : Nat) "GossipTrainModel" "sort" "[I" ∈ wG := wG_of (List.mem_append_right _ (in_tt4 (List.mem_of_getElem? (i := 98) rfl))) rfl
set_option maxRecDepth 100000 in
theorem w_920 : Jvm.Cond.fieldLink "GossipTrainModel" (235 : Nat) "GossipTrainModel" "length" "[I" ∈ wG := wG_of (List.mem_append_right _ (in_tt4 (List.mem_of_getElem? (i := 99) rfl))) rfl
set_option maxRecDepth 100000 in
theorem w_921 : Jvm.Cond.fieldLink "GossipTrainModel" (238 : Nat) "GossipTrainModel" "item" "[J" ∈ wG := wG_of (List.mem_append_right _ (in_tt4 (List.mem_of_getElem? (i := 100) rfl))) rfl
set_option maxRecDepth 100000 in
theorem w_922 : Jvm.Cond.fieldLink "GossipTrainModel" (242 : Nat) "GossipTrainModel" "aside" "[J" ∈ wG := wG_of (List.mem_append_right _ (in_tt4 (List.mem_of_getElem? (i := 101) rfl))) rfl
set_option maxRecDepth 100000 in
theorem w_1078 : Jvm.Cond.methodLink "GossipTrainLaw" (17 : Nat) ({ cls := "GossipTrainModel", name := "one", desc := "(IIII)I" } : Jvm.MethodName) ∈ wG := wG_of (List.mem_append_right _ (in_tt5 (List.mem_of_getElem? (i := 17) rfl))) rfl
set_option maxRecDepth 100000 in
theorem w_1079 : Jvm.Cond.instanceMethod ({ cls := "GossipTrainModel", name := "one", desc := "(IIII)I" } : Jvm.MethodName) ∈ wG := wG_of (List.mem_append_right _ (in_tt5 (List.mem_of_getElem? (i := 18) rfl))) rfl
set_option maxRecDepth 100000 in
theorem w_1080 : Jvm.Cond.selects "GossipTrainModel" ({ cls := "GossipTrainModel", name := "one", desc := "(IIII)I" } : Jvm.MethodName) ({ cls := "GossipTrainModel", name := "one", desc := "(IIII)I" } : Jvm.MethodName) ∈ wG := wG_of (List.mem_append_right _ (in_tt5 (List.mem_of_getElem? (i := 19) rfl))) rfl
set_option maxRecDepth 100000 in
theorem w_1081 : Jvm.Cond.code ({ cls := "GossipTrainModel", name := "one", desc := "(IIII)I" } : Jvm.MethodName) prog_10_method_11_code (6 : Nat) (Option.some Jvm.ClassFile.FieldType.int) ∈ wG := wG_of (List.mem_append_right _ (in_tt5 (List.mem_of_getElem? (i := 20) rfl))) rfl
set_option maxRecDepth 100000 in
theorem w_1082 : Jvm.Cond.methodLink "GossipTrainModel" (249 : Nat) ({ cls := "GossipTrainModel", name := "in", desc := "(III)Z" } : Jvm.MethodName) ∈ wG := wG_of (List.mem_append_right _ (in_tt5 (List.mem_of_getElem? (i := 21) rfl))) rfl
set_option maxRecDepth 100000 in
theorem w_1084 : Jvm.Cond.instanceMethod ({ cls := "GossipTrainModel", name := "in", desc := "(III)Z" } : Jvm.MethodName) ∈ wG := wG_of (List.mem_append_right _ (in_tt5 (List.mem_of_getElem? (i := 23) rfl))) rfl
set_option maxRecDepth 100000 in
theorem w_1085 : Jvm.Cond.code ({ cls := "GossipTrainModel", name := "in", desc := "(III)Z" } : Jvm.MethodName) prog_10_method_2_code (4 : Nat) (Option.some Jvm.ClassFile.FieldType.boolean) ∈ wG := wG_of (List.mem_append_right _ (in_tt5 (List.mem_of_getElem? (i := 24) rfl))) rfl
set_option maxRecDepth 100000 in
theorem w_1086 : Jvm.Cond.methodLink "GossipTrainModel" (253 : Nat) ({ cls := "GossipTrainModel", name := "isCarriage", desc := "(I)Z" } : Jvm.MethodName) ∈ wG := wG_of (List.mem_append_right _ (in_tt5 (List.mem_of_getElem? (i := 25) rfl))) rfl
set_option maxRecDepth 100000 in
theorem w_1088 : Jvm.Cond.instanceMethod ({ cls := "GossipTrainModel", name := "isCarriage", desc := "(I)Z" } : Jvm.MethodName) ∈ wG := wG_of (List.mem_append_right _ (in_tt5 (List.mem_of_getElem? (i := 27) rfl))) rfl
set_option maxRecDepth 100000 in
theorem w_1089 : Jvm.Cond.code ({ cls := "GossipTrainModel", name := "isCarriage", desc := "(I)Z" } : Jvm.MethodName) prog_10_method_9_code (2 : Nat) (Option.some Jvm.ClassFile.FieldType.boolean) ∈ wG := wG_of (List.mem_append_right _ (in_tt5 (List.mem_of_getElem? (i := 28) rfl))) rfl
set_option maxRecDepth 100000 in
theorem w_1090 : Jvm.Cond.methodLink "GossipTrainModel" (257 : Nat) ({ cls := "GossipTrainModel", name := "isTales", desc := "(I)Z" } : Jvm.MethodName) ∈ wG := wG_of (List.mem_append_right _ (in_tt5 (List.mem_of_getElem? (i := 29) rfl))) rfl
set_option maxRecDepth 100000 in
theorem w_1092 : Jvm.Cond.instanceMethod ({ cls := "GossipTrainModel", name := "isTales", desc := "(I)Z" } : Jvm.MethodName) ∈ wG := wG_of (List.mem_append_right _ (in_tt5 (List.mem_of_getElem? (i := 31) rfl))) rfl
set_option maxRecDepth 100000 in
theorem w_1093 : Jvm.Cond.code ({ cls := "GossipTrainModel", name := "isTales", desc := "(I)Z" } : Jvm.MethodName) prog_10_method_8_code (2 : Nat) (Option.some Jvm.ClassFile.FieldType.boolean) ∈ wG := wG_of (List.mem_append_right _ (in_tt5 (List.mem_of_getElem? (i := 32) rfl))) rfl
set_option maxRecDepth 100000 in
theorem w_1094 : Jvm.Cond.methodLink "GossipTrainLaw" (26 : Nat) ({ cls := "GossipTrainModel", name := "seat", desc := "(II)I" } : Jvm.MethodName) ∈ wG := wG_of (List.mem_append_right _ (in_tt5 (List.mem_of_getElem? (i := 33) rfl))) rfl
set_option maxRecDepth 100000 in
theorem w_1095 : Jvm.Cond.instanceMethod ({ cls := "GossipTrainModel", name := "seat", desc := "(II)I" } : Jvm.MethodName) ∈ wG := wG_of (List.mem_append_right _ (in_tt5 (List.mem_of_getElem? (i := 34) rfl))) rfl
set_option maxRecDepth 100000 in
theorem w_1096 : Jvm.Cond.selects "GossipTrainModel" ({ cls := "GossipTrainModel", name := "seat", desc := "(II)I" } : Jvm.MethodName) ({ cls := "GossipTrainModel", name := "seat", desc := "(II)I" } : Jvm.MethodName) ∈ wG := wG_of (List.mem_append_right _ (in_tt5 (List.mem_of_getElem? (i := 35) rfl))) rfl
set_option maxRecDepth 100000 in
theorem w_1097 : Jvm.Cond.code ({ cls := "GossipTrainModel", name := "seat", desc := "(II)I" } : Jvm.MethodName) prog_10_method_12_code (4 : Nat) (Option.some Jvm.ClassFile.FieldType.int) ∈ wG := wG_of (List.mem_append_right _ (in_tt5 (List.mem_of_getElem? (i := 36) rfl))) rfl
set_option maxRecDepth 100000 in
theorem w_1098 : Jvm.Cond.methodLink "GossipTrainModel" (260 : Nat) ({ cls := "GossipTrainModel", name := "isOne", desc := "(I)Z" } : Jvm.MethodName) ∈ wG := wG_of (List.mem_append_right _ (in_tt5 (List.mem_of_getElem? (i := 37) rfl))) rfl
set_option maxRecDepth 100000 in
theorem w_1100 : Jvm.Cond.instanceMethod ({ cls := "GossipTrainModel", name := "isOne", desc := "(I)Z" } : Jvm.MethodName) ∈ wG := wG_of (List.mem_append_right _ (in_tt5 (List.mem_of_getElem? (i := 39) rfl))) rfl
set_option maxRecDepth 100000 in
theorem w_1101 : Jvm.Cond.code ({ cls := "GossipTrainModel", name := "isOne", desc := "(I)Z" } : Jvm.MethodName) prog_10_method_6_code (2 : Nat) (Option.some Jvm.ClassFile.FieldType.boolean) ∈ wG := wG_of (List.mem_append_right _ (in_tt5 (List.mem_of_getElem? (i := 40) rfl))) rfl
set_option maxRecDepth 100000 in
theorem w_1102 : Jvm.Cond.methodLink "GossipTrainLaw" (30 : Nat) ({ cls := "GossipTrainModel", name := "know", desc := "(II)I" } : Jvm.MethodName) ∈ wG := wG_of (List.mem_append_right _ (in_tt5 (List.mem_of_getElem? (i := 41) rfl))) rfl
set_option maxRecDepth 100000 in
theorem w_1103 : Jvm.Cond.instanceMethod ({ cls := "GossipTrainModel", name := "know", desc := "(II)I" } : Jvm.MethodName) ∈ wG := wG_of (List.mem_append_right _ (in_tt5 (List.mem_of_getElem? (i := 42) rfl))) rfl
set_option maxRecDepth 100000 in
theorem w_1104 : Jvm.Cond.selects "GossipTrainModel" ({ cls := "GossipTrainModel", name := "know", desc := "(II)I" } : Jvm.MethodName) ({ cls := "GossipTrainModel", name := "know", desc := "(II)I" } : Jvm.MethodName) ∈ wG := wG_of (List.mem_append_right _ (in_tt5 (List.mem_of_getElem? (i := 43) rfl))) rfl
set_option maxRecDepth 100000 in
theorem w_1105 : Jvm.Cond.code ({ cls := "GossipTrainModel", name := "know", desc := "(II)I" } : Jvm.MethodName) prog_10_method_13_code (4 : Nat) (Option.some Jvm.ClassFile.FieldType.int) ∈ wG := wG_of (List.mem_append_right _ (in_tt5 (List.mem_of_getElem? (i := 44) rfl))) rfl
set_option maxRecDepth 100000 in
theorem w_1106 : Jvm.Cond.methodLink "GossipTrainLaw" (35 : Nat) ({ cls := "GossipTrainModel", name := "leave", desc := "(IZ)I" } : Jvm.MethodName) ∈ wG := wG_of (List.mem_append_right _ (in_tt5 (List.mem_of_getElem? (i := 45) rfl))) rfl
set_option maxRecDepth 100000 in
theorem w_1107 : Jvm.Cond.instanceMethod ({ cls := "GossipTrainModel", name := "leave", desc := "(IZ)I" } : Jvm.MethodName) ∈ wG := wG_of (List.mem_append_right _ (in_tt5 (List.mem_of_getElem? (i := 46) rfl))) rfl
set_option maxRecDepth 100000 in
theorem w_1108 : Jvm.Cond.selects "GossipTrainModel" ({ cls := "GossipTrainModel", name := "leave", desc := "(IZ)I" } : Jvm.MethodName) ({ cls := "GossipTrainModel", name := "leave", desc := "(IZ)I" } : Jvm.MethodName) ∈ wG := wG_of (List.mem_append_right _ (in_tt5 (List.mem_of_getElem? (i := 47) rfl))) rfl
set_option maxRecDepth 100000 in
theorem w_1109 : Jvm.Cond.code ({ cls := "GossipTrainModel", name := "leave", desc := "(IZ)I" } : Jvm.MethodName) prog_10_method_15_code (4 : Nat) (Option.some Jvm.ClassFile.FieldType.int) ∈ wG := wG_of (List.mem_append_right _ (in_tt5 (List.mem_of_getElem? (i := 48) rfl))) rfl
set_option maxRecDepth 100000 in
theorem w_1110 : Jvm.Cond.methodLink "GossipTrainModel" (245 : Nat) ({ cls := "GossipTrainModel", name := "has", desc := "(II)Z" } : Jvm.MethodName) ∈ wG := wG_of (List.mem_append_right _ (in_tt5 (List.mem_of_getElem? (i := 49) rfl))) rfl
set_option maxRecDepth 100000 in
theorem w_1112 : Jvm.Cond.instanceMethod ({ cls := "GossipTrainModel", name := "has", desc := "(II)Z" } : Jvm.MethodName) ∈ wG := wG_of (List.mem_append_right _ (in_tt5 (List.mem_of_getElem? (i := 51) rfl))) rfl
set_option maxRecDepth 100000 in
theorem w_1113 : Jvm.Cond.code ({ cls := "GossipTrainModel", name := "has", desc := "(II)Z" } : Jvm.MethodName) prog_10_method_3_code (3 : Nat) (Option.some Jvm.ClassFile.FieldType.boolean) ∈ wG := wG_of (List.mem_append_right _ (in_tt5 (List.mem_of_getElem? (i := 52) rfl))) rfl
set_option maxRecDepth 100000 in
theorem w_1114 : Jvm.Cond.methodLink "GossipTrainModel" (263 : Nat) ({ cls := "GossipTrainModel", name := "goes", desc := "(IZ)V" } : Jvm.MethodName) ∈ wG := wG_of (List.mem_append_right _ (in_tt5 (List.mem_of_getElem? (i := 53) rfl))) rfl
set_option maxRecDepth 100000 in
theorem w_1116 : Jvm.Cond.instanceMethod ({ cls := "GossipTrainModel", name := "goes", desc := "(IZ)V" } : Jvm.MethodName) ∈ wG := wG_of (List.mem_append_right _ (in_tt5 (List.mem_of_getElem? (i := 55) rfl))) rfl
set_option maxRecDepth 100000 in
theorem w_1117 : Jvm.Cond.code ({ cls := "GossipTrainModel", name := "goes", desc := "(IZ)V" } : Jvm.MethodName) prog_10_method_14_code (3 : Nat) (Option.none : Option Jvm.ClassFile.FieldType) ∈ wG := wG_of (List.mem_append_right _ (in_tt5 (List.mem_of_getElem? (i := 56) rfl))) rfl
set_option maxRecDepth 100000 in
theorem w_1118 : Jvm.Cond.methodLink "GossipTrainLaw" (40 : Nat) ({ cls := "GossipTrainModel", name := "set", desc := "(III)I" } : Jvm.MethodName) ∈ wG := wG_of (List.mem_append_right _ (in_tt5 (List.mem_of_getElem? (i := 57) rfl))) rfl
set_option maxRecDepth 100000 in
theorem w_1119 : Jvm.Cond.instanceMethod ({ cls := "GossipTrainModel", name := "set", desc := "(III)I" } : Jvm.MethodName) ∈ wG := wG_of (List.mem_append_right _ (in_tt5 (List.mem_of_getElem? (i := 58) rfl))) rfl
set_option maxRecDepth 100000 in
theorem w_1120 : Jvm.Cond.selects "GossipTrainModel" ({ cls := "GossipTrainModel", name := "set", desc := "(III)I" } : Jvm.MethodName) ({ cls := "GossipTrainModel", name := "set", desc := "(III)I" } : Jvm.MethodName) ∈ wG := wG_of (List.mem_append_right _ (in_tt5 (List.mem_of_getElem? (i := 59) rfl))) rfl
set_option maxRecDepth 100000 in
theorem w_1121 : Jvm.Cond.code ({ cls := "GossipTrainModel", name := "set", desc := "(III)I" } : Jvm.MethodName) prog_10_method_16_code (5 : Nat) (Option.some Jvm.ClassFile.FieldType.int) ∈ wG := wG_of (List.mem_append_right _ (in_tt5 (List.mem_of_getElem? (i := 60) rfl))) rfl
set_option maxRecDepth 100000 in
theorem w_1122 : Jvm.Cond.methodLink "GossipTrainModel" (267 : Nat) ({ cls := "GossipTrainModel", name := "isTale", desc := "(I)Z" } : Jvm.MethodName) ∈ wG := wG_of (List.mem_append_right _ (in_tt5 (List.mem_of_getElem? (i := 61) rfl))) rfl
set_option maxRecDepth 100000 in
theorem w_1124 : Jvm.Cond.instanceMethod ({ cls := "GossipTrainModel", name := "isTale", desc := "(I)Z" } : Jvm.MethodName) ∈ wG := wG_of (List.mem_append_right _ (in_tt5 (List.mem_of_getElem? (i := 63) rfl))) rfl
set_option maxRecDepth 100000 in
theorem w_1125 : Jvm.Cond.code ({ cls := "GossipTrainModel", name := "isTale", desc := "(I)Z" } : Jvm.MethodName) prog_10_method_7_code (2 : Nat) (Option.some Jvm.ClassFile.FieldType.boolean) ∈ wG := wG_of (List.mem_append_right _ (in_tt5 (List.mem_of_getElem? (i := 64) rfl))) rfl
set_option maxRecDepth 100000 in
theorem w_1126 : Jvm.Cond.methodLink "GossipTrainLaw" (44 : Nat) ({ cls := "GossipTrainModel", name := "row", desc := "(III)I" } : Jvm.MethodName) ∈ wG := wG_of (List.mem_append_right _ (in_tt5 (List.mem_of_getElem? (i := 65) rfl))) rfl
set_option maxRecDepth 100000 in
theorem w_1127 : Jvm.Cond.instanceMethod ({ cls := "GossipTrainModel", name := "row", desc := "(III)I" } : Jvm.MethodName) ∈ wG := wG_of (List.mem_append_right _ (in_tt5 (List.mem_of_getElem? (i := 66) rfl))) rfl
set_option maxRecDepth 100000 in
theorem w_1128 : Jvm.Cond.selects "GossipTrainModel" ({ cls := "GossipTrainModel", name := "row", desc := "(III)I" } : Jvm.MethodName) ({ cls := "GossipTrainModel", name := "row", desc := "(III)I" } : Jvm.MethodName) ∈ wG := wG_of (List.mem_append_right _ (in_tt5 (List.mem_of_getElem? (i := 67) rfl))) rfl
set_option maxRecDepth 100000 in
theorem w_1129 : Jvm.Cond.code ({ cls := "GossipTrainModel", name := "row", desc := "(III)I" } : Jvm.MethodName) prog_10_method_17_code (5 : Nat) (Option.some Jvm.ClassFile.FieldType.int) ∈ wG := wG_of (List.mem_append_right _ (in_tt5 (List.mem_of_getElem? (i := 68) rfl))) rfl
set_option maxRecDepth 100000 in
theorem w_1130 : Jvm.Cond.methodLink "GossipTrainLaw" (49 : Nat) ({ cls := "GossipTrainModel", name := "feed", desc := "(I)I" } : Jvm.MethodName) ∈ wG := wG_of (List.mem_append_right _ (in_tt5 (List.mem_of_getElem? (i := 69) rfl))) rfl
set_option maxRecDepth 100000 in
theorem w_1131 : Jvm.Cond.instanceMethod ({ cls := "GossipTrainModel", name := "feed", desc := "(I)I" } : Jvm.MethodName) ∈ wG := wG_of (List.mem_append_right _ (in_tt5 (List.mem_of_getElem? (i := 70) rfl))) rfl
set_option maxRecDepth 100000 in
theorem w_1132 : Jvm.Cond.selects "GossipTrainModel" ({ cls := "GossipTrainModel", name := "feed", desc := "(I)I" } : Jvm.MethodName) ({ cls := "GossipTrainModel", name := "feed", desc := "(I)I" } : Jvm.MethodName) ∈ wG := wG_of (List.mem_append_right _ (in_tt5 (List.mem_of_getElem? (i := 71) rfl))) rfl
set_option maxRecDepth 100000 in
theorem w_1133 : Jvm.Cond.code ({ cls := "GossipTrainModel", name := "feed", desc := "(I)I" } : Jvm.MethodName) prog_10_method_18_code (2 : Nat) (Option.some Jvm.ClassFile.FieldType.int) ∈ wG := wG_of (List.mem_append_right _ (in_tt5 (List.mem_of_getElem? (i := 72) rfl))) rfl
set_option maxRecDepth 100000 in
theorem w_1134 : Jvm.Cond.methodLink "GossipTrainLaw" (54 : Nat) ({ cls := "GossipTrainModel", name := "branch", desc := "()I" } : Jvm.MethodName) ∈ wG := wG_of (List.mem_append_right _ (in_tt5 (List.mem_of_getElem? (i := 73) rfl))) rfl
set_option maxRecDepth 100000 in
theorem w_1135 : Jvm.Cond.instanceMethod ({ cls := "GossipTrainModel", name := "branch", desc := "()I" } : Jvm.MethodName) ∈ wG := wG_of (List.mem_append_right _ (in_tt5 (List.mem_of_getElem? (i := 74) rfl))) rfl
set_option maxRecDepth 100000 in
theorem w_1136 : Jvm.Cond.selects "GossipTrainModel" ({ cls := "GossipTrainModel", name := "branch", desc := "()I" } : Jvm.MethodName) ({ cls := "GossipTrainModel", name := "branch", desc := "()I" } : Jvm.MethodName) ∈ wG := wG_of (List.mem_append_right _ (in_tt5 (List.mem_of_getElem? (i := 75) rfl))) rfl
set_option maxRecDepth 100000 in
theorem w_1137 : Jvm.Cond.code ({ cls := "GossipTrainModel", name := "branch", desc := "()I" } : Jvm.MethodName) prog_10_method_34_code (2 : Nat) (Option.some Jvm.ClassFile.FieldType.int) ∈ wG := wG_of (List.mem_append_right _ (in_tt5 (List.mem_of_getElem? (i := 76) rfl))) rfl
set_option maxRecDepth 100000 in
theorem w_1138 : Jvm.Cond.methodLink "GossipTrainModel" (316 : Nat) ({ cls := "GossipTrainModel", name := "goesText", desc := "(I)Z" } : Jvm.MethodName) ∈ wG := wG_of (List.mem_append_right _ (in_tt5 (List.mem_of_getElem? (i := 77) rfl))) rfl
set_option maxRecDepth 100000 in
theorem w_1140 : Jvm.Cond.instanceMethod ({ cls := "GossipTrainModel", name := "goesText", desc := "(I)Z" } : Jvm.MethodName) ∈ wG := wG_of (List.mem_append_right _ (in_tt5 (List.mem_of_getElem? (i := 79) rfl))) rfl
set_option maxRecDepth 100000 in
theorem w_1141 : Jvm.Cond.code ({ cls := "GossipTrainModel", name := "goesText", desc := "(I)Z" } : Jvm.MethodName) prog_10_method_33_code (3 : Nat) (Option.some Jvm.ClassFile.FieldType.boolean) ∈ wG := wG_of (List.mem_append_right _ (in_tt5 (List.mem_of_getElem? (i := 80) rfl))) rfl
set_option maxRecDepth 100000 in
theorem w_1142 : Jvm.Cond.methodLink "GossipTrainModel" (313 : Nat) ({ cls := "GossipTrainModel", name := "takesClause", desc := "(I)Z" } : Jvm.MethodName) ∈ wG := wG_of (List.mem_append_right _ (in_tt5 (List.mem_of_getElem? (i := 81) rfl))) rfl
set_option maxRecDepth 100000 in
theorem w_1144 : Jvm.Cond.instanceMethod ({ cls := "GossipTrainModel", name := "takesClause", desc := "(I)Z" } : Jvm.MethodName) ∈ wG := wG_of (List.mem_append_right _ (in_tt5 (List.mem_of_getElem? (i := 83) rfl))) rfl
set_option maxRecDepth 100000 in
theorem w_1145 : Jvm.Cond.code ({ cls := "GossipTrainModel", name := "takesClause", desc := "(I)Z" } : Jvm.MethodName) prog_10_method_32_code (2 : Nat) (Option.some Jvm.ClassFile.FieldType.boolean) ∈ wG := wG_of (List.mem_append_right _ (in_tt5 (List.mem_of_getElem? (i := 84) rfl))) rfl
set_option maxRecDepth 100000 in
theorem w_1146 : Jvm.Cond.methodLink "GossipTrainModel" (307 : Nat) ({ cls := "GossipTrainModel", name := "takesHead", desc := "(I)Z" } : Jvm.MethodName) ∈ wG := wG_of (List.mem_append_right _ (in_tt5 (List.mem_of_getElem? (i := 85) rfl))) rfl
set_option maxRecDepth 100000 in
theorem w_1148 : Jvm.Cond.instanceMethod ({ cls := "GossipTrainModel", name := "takesHead", desc := "(I)Z" } : Jvm.MethodName) ∈ wG := wG_of (List.mem_append_right _ (in_tt5 (List.mem_of_getElem? (i := 87) rfl))) rfl
set_option maxRecDepth 100000 in
theorem w_1149 : Jvm.Cond.code ({ cls := "GossipTrainModel", name := "takesHead", desc := "(I)Z" } : Jvm.MethodName) prog_10_method_31_code (2 : Nat) (Option.some Jvm.ClassFile.FieldType.boolean) ∈ wG := wG_of (List.mem_append_right _ (in_tt5 (List.mem_of_getElem? (i := 88) rfl))) rfl
set_option maxRecDepth 100000 in
theorem w_1150 : Jvm.Cond.methodLink "GossipTrainModel" (270 : Nat) ({ cls := "GossipTrainModel", name := "next", desc := "()I" } : Jvm.MethodName) ∈ wG := wG_of (List.mem_append_right _ (in_tt5 (List.mem_of_getElem? (i := 89) rfl))) rfl
set_option maxRecDepth 100000 in
theorem w_1152 : Jvm.Cond.instanceMethod ({ cls := "GossipTrainModel", name := "next", desc := "()I" } : Jvm.MethodName) ∈ wG := wG_of (List.mem_append_right _ (in_tt5 (List.mem_of_getElem? (i := 91) rfl))) rfl
set_option maxRecDepth 100000 in
theorem w_1153 : Jvm.Cond.code ({ cls := "GossipTrainModel", name := "next", desc := "()I" } : Jvm.MethodName) prog_10_method_19_code (1 : Nat) (Option.some Jvm.ClassFile.FieldType.int) ∈ wG := wG_of (List.mem_append_right _ (in_tt5 (List.mem_of_getElem? (i := 92) rfl))) rfl
set_option maxRecDepth 100000 in
theorem w_1154 : Jvm.Cond.methodLink "GossipTrainModel" (301 : Nat) ({ cls := "GossipTrainModel", name := "takesWord", desc := "(II)Z" } : Jvm.MethodName) ∈ wG := wG_of (List.mem_append_right _ (in_tt5 (List.mem_of_getElem? (i := 93) rfl))) rfl
set_option maxRecDepth 100000 in
theorem w_1156 : Jvm.Cond.instanceMethod ({ cls := "GossipTrainModel", name := "takesWord", desc := "(II)Z" } : Jvm.MethodName) ∈ wG := wG_of (List.mem_append_right _ (in_tt5 (List.mem_of_getElem? (i := 95) rfl))) rfl
set_option maxRecDepth 100000 in
theorem w_1157 : Jvm.Cond.code ({ cls := "GossipTrainModel", name := "takesWord", desc := "(II)Z" } : Jvm.MethodName) prog_10_method_22_code (4 : Nat) (Option.some Jvm.ClassFile.FieldType.boolean) ∈ wG := wG_of (List.mem_append_right _ (in_tt5 (List.mem_of_getElem? (i := 96) rfl))) rfl
set_option maxRecDepth 100000 in
theorem w_1158 : Jvm.Cond.methodLink "GossipTrainModel" (274 : Nat) ({ cls := "GossipTrainModel", name := "takes", desc := "(I)Z" } : Jvm.MethodName) ∈ wG := wG_of (List.mem_append_right _ (in_tt5 (List.mem_of_getElem? (i := 97) rfl))) rfl
set_option maxRecDepth 100000 in
theorem w_1160 : Jvm.Cond.instanceMethod ({ cls := "GossipTrainModel", name := "takes", desc := "(I)Z" } : Jvm.MethodName) ∈ wG := wG_of (List.mem_append_right _ (in_tt5 (List.mem_of_getElem? (i := 99) rfl))) rfl
set_option maxRecDepth 100000 in
theorem w_1161 : Jvm.Cond.code ({ cls := "GossipTrainModel", name := "takes", desc := "(I)Z" } : Jvm.MethodName) prog_10_method_21_code (2 : Nat) (Option.some Jvm.ClassFile.FieldType.boolean) ∈ wG := wG_of (List.mem_append_right _ (in_tt5 (List.mem_of_getElem? (i := 100) rfl))) rfl
set_option maxRecDepth 100000 in
theorem w_1162 : Jvm.Cond.methodLink "GossipTrainModel" (304 : Nat) ({ cls := "GossipTrainModel", name := "second", desc := "()I" } : Jvm.MethodName) ∈ wG := wG_of (List.mem_append_right _ (in_tt5 (List.mem_of_getElem? (i := 101) rfl))) rfl
set_option maxRecDepth 100000 in
theorem w_1164 : Jvm.Cond.instanceMethod ({ cls := "GossipTrainModel", name := "second", desc := "()I" } : Jvm.MethodName) ∈ wG := wG_of (List.mem_append_right _ (in_tt5 (List.mem_of_getElem? (i := 103) rfl))) rfl
set_option maxRecDepth 100000 in
theorem w_1165 : Jvm.Cond.code ({ cls := "GossipTrainModel", name := "second", desc := "()I" } : Jvm.MethodName) prog_10_method_20_code (1 : Nat) (Option.some Jvm.ClassFile.FieldType.int) ∈ wG := wG_of (List.mem_append_right _ (in_tt5 (List.mem_of_getElem? (i := 104) rfl))) rfl
set_option maxRecDepth 100000 in
theorem w_1166 : Jvm.Cond.methodLink "GossipTrainModel" (289 : Nat) ({ cls := "GossipTrainModel", name := "takesNumber", desc := "()Z" } : Jvm.MethodName) ∈ wG := wG_of (List.mem_append_right _ (in_tt5 (List.mem_of_getElem? (i := 105) rfl))) rfl
set_option maxRecDepth 100000 in
theorem w_1168 : Jvm.Cond.instanceMethod ({ cls := "GossipTrainModel", name := "takesNumber", desc := "()Z" } : Jvm.MethodName) ∈ wG := wG_of (List.mem_append_right _ (in_tt5 (List.mem_of_getElem? (i := 107) rfl))) rfl
set_option maxRecDepth 100000 in
theorem w_1169 : Jvm.Cond.code ({ cls := "GossipTrainModel", name := "takesNumber", desc := "()Z" } : Jvm.MethodName) prog_10_method_24_code (2 : Nat) (Option.some Jvm.ClassFile.FieldType.boolean) ∈ wG := wG_of (List.mem_append_right _ (in_tt5 (List.mem_of_getElem? (i := 108) rfl))) rfl
set_option maxRecDepth 100000 in
theorem w_1170 : Jvm.Cond.methodLink "GossipTrainModel" (277 : Nat) ({ cls := "GossipTrainModel", name := "isDigit", desc := "()Z" } : Jvm.MethodName) ∈ wG := wG_of (List.mem_append_right _ (in_tt5 (List.mem_of_getElem? (i := 109) rfl))) rfl
set_option maxRecDepth 100000 in
theorem w_1172 : Jvm.Cond.instanceMethod ({ cls := "GossipTrainModel", name := "isDigit", desc := "()Z" } : Jvm.MethodName) ∈ wG := wG_of (List.mem_append_right _ (in_tt5 (List.mem_of_getElem? (i := 111) rfl))) rfl
set_option maxRecDepth 100000 in
theorem w_1173 : Jvm.Cond.code ({ cls := "GossipTrainModel", name := "isDigit", desc := "()Z" } : Jvm.MethodName) prog_10_method_23_code (1 : Nat) (Option.some Jvm.ClassFile.FieldType.boolean) ∈ wG := wG_of (List.mem_append_right _ (in_tt5 (List.mem_of_getElem? (i := 112) rfl))) rfl
set_option maxRecDepth 100000 in
theorem w_1174 : Jvm.Cond.methodLink "GossipTrainModel" (310 : Nat) ({ cls := "GossipTrainModel", name := "takesE", desc := "(I)Z" } : Jvm.MethodName) ∈ wG := wG_of (List.mem_append_right _ (in_tt5 (List.mem_of_getElem? (i := 113) rfl))) rfl
set_option maxRecDepth 100000 in
theorem w_1176 : Jvm.Cond.instanceMethod ({ cls := "GossipTrainModel", name := "takesE", desc := "(I)Z" } : Jvm.MethodName) ∈ wG := wG_of (List.mem_append_right _ (in_tt5 (List.mem_of_getElem? (i := 115) rfl))) rfl
set_option maxRecDepth 100000 in
theorem w_1177 : Jvm.Cond.code ({ cls := "GossipTrainModel", name := "takesE", desc := "(I)Z" } : Jvm.MethodName) prog_10_method_30_code (4 : Nat) (Option.some Jvm.ClassFile.FieldType.boolean) ∈ wG := wG_of (List.mem_append_right _ (in_tt5 (List.mem_of_getElem? (i := 116) rfl))) rfl
set_option maxRecDepth 100000 in
theorem w_1178 : Jvm.Cond.methodLink "GossipTrainModel" (295 : Nat) ({ cls := "GossipTrainModel", name := "takesTest", desc := "()Z" } : Jvm.MethodName) ∈ wG := wG_of (List.mem_append_right _ (in_tt5 (List.mem_of_getElem? (i := 117) rfl))) rfl
set_option maxRecDepth 100000 in
theorem w_1180 : Jvm.Cond.instanceMethod ({ cls := "GossipTrainModel", name := "takesTest", desc := "()Z" } : Jvm.MethodName) ∈ wG := wG_of (List.mem_append_right _ (in_tt5 (List.mem_of_getElem? (i := 119) rfl))) rfl
set_option maxRecDepth 100000 in
theorem w_1181 : Jvm.Cond.code ({ cls := "GossipTrainModel", name := "takesTest", desc := "()Z" } : Jvm.MethodName) prog_10_method_29_code (3 : Nat) (Option.some Jvm.ClassFile.FieldType.boolean) ∈ wG := wG_of (List.mem_append_right _ (in_tt5 (List.mem_of_getElem? (i := 120) rfl))) rfl
set_option maxRecDepth 100000 in
theorem w_1182 : Jvm.Cond.methodLink "GossipTrainModel" (285 : Nat) ({ cls := "GossipTrainModel", name := "place", desc := "(I)I" } : Jvm.MethodName) ∈ wG := wG_of (List.mem_append_right _ (in_tt5 (List.mem_of_getElem? (i := 121) rfl))) rfl
set_option maxRecDepth 100000 in
theorem w_1184 : Jvm.Cond.instanceMethod ({ cls := "GossipTrainModel", name := "place", desc := "(I)I" } : Jvm.MethodName) ∈ wG := wG_of (List.mem_append_right _ (in_tt5 (List.mem_of_getElem? (i := 123) rfl))) rfl
set_option maxRecDepth 100000 in
theorem w_1185 : Jvm.Cond.code ({ cls := "GossipTrainModel", name := "place", desc := "(I)I" } : Jvm.MethodName) prog_10_method_28_code (2 : Nat) (Option.some Jvm.ClassFile.FieldType.int) ∈ wG := wG_of (List.mem_append_right _ (in_tt5 (List.mem_of_getElem? (i := 124) rfl))) rfl
set_option maxRecDepth 100000 in
theorem w_1186 : Jvm.Cond.methodLink "GossipTrainModel" (281 : Nat) ({ cls := "GossipTrainModel", name := "emits", desc := "(I)V" } : Jvm.MethodName) ∈ wG := wG_of (List.mem_append_right _ (in_tt5 (List.mem_of_getElem? (i := 125) rfl))) rfl
set_option maxRecDepth 100000 in
theorem w_1188 : Jvm.Cond.instanceMethod ({ cls := "GossipTrainModel", name := "emits", desc := "(I)V" } : Jvm.MethodName) ∈ wG := wG_of (List.mem_append_right _ (in_tt5 (List.mem_of_getElem? (i := 127) rfl))) rfl
set_option maxRecDepth 100000 in
theorem w_1189 : Jvm.Cond.code ({ cls := "GossipTrainModel", name := "emits", desc := "(I)V" } : Jvm.MethodName) prog_10_method_25_code (2 : Nat) (Option.none : Option Jvm.ClassFile.FieldType) ∈ wG := wG_of (List.mem_append_right _ (in_tt5 (List.mem_of_getElem? (i := 128) rfl))) rfl
set_option maxRecDepth 100000 in
theorem w_1190 : Jvm.Cond.methodLink "GossipTrainModel" (292 : Nat) ({ cls := "GossipTrainModel", name := "whole", desc := "()V" } : Jvm.MethodName) ∈ wG := wG_of (List.mem_append_right _ (in_tt5 (List.mem_of_getElem? (i := 129) rfl))) rfl
set_option maxRecDepth 100000 in
theorem w_1192 : Jvm.Cond.instanceMethod ({ cls := "GossipTrainModel", name := "whole", desc := "()V" } : Jvm.MethodName) ∈ wG := wG_of (List.mem_append_right _ (in_tt5 (List.mem_of_getElem? (i := 131) rfl))) rfl
set_option maxRecDepth 100000 in
theorem w_1193 : Jvm.Cond.code ({ cls := "GossipTrainModel", name := "whole", desc := "()V" } : Jvm.MethodName) prog_10_method_26_code (1 : Nat) (Option.none : Option Jvm.ClassFile.FieldType) ∈ wG := wG_of (List.mem_append_right _ (in_tt5 (List.mem_of_getElem? (i := 132) rfl))) rfl
set_option maxRecDepth 100000 in
theorem w_1194 : Jvm.Cond.methodLink "GossipTrainModel" (298 : Nat) ({ cls := "GossipTrainModel", name := "settle", desc := "(I)V" } : Jvm.MethodName) ∈ wG := wG_of (List.mem_append_right _ (in_tt5 (List.mem_of_getElem? (i := 133) rfl))) rfl
set_option maxRecDepth 100000 in
theorem w_1196 : Jvm.Cond.instanceMethod ({ cls := "GossipTrainModel", name := "settle", desc := "(I)V" } : Jvm.MethodName) ∈ wG := wG_of (List.mem_append_right _ (in_tt5 (List.mem_of_getElem? (i := 135) rfl))) rfl
set_option maxRecDepth 100000 in
theorem w_1197 : Jvm.Cond.code ({ cls := "GossipTrainModel", name := "settle", desc := "(I)V" } : Jvm.MethodName) prog_10_method_27_code (2 : Nat) (Option.none : Option Jvm.ClassFile.FieldType) ∈ wG := wG_of (List.mem_append_right _ (in_tt5 (List.mem_of_getElem? (i := 136) rfl))) rfl
set_option maxRecDepth 100000 in
theorem w_1198 : Jvm.Cond.methodLink "GossipTrainLaw" (22 : Nat) ({ cls := "GossipTrainModel", name := "of", desc := "(II)I" } : Jvm.MethodName) ∈ wG := wG_of (List.mem_append_right _ (in_tt5 (List.mem_of_getElem? (i := 137) rfl))) rfl
set_option maxRecDepth 100000 in
theorem w_1199 : Jvm.Cond.instanceMethod ({ cls := "GossipTrainModel", name := "of", desc := "(II)I" } : Jvm.MethodName) ∈ wG := wG_of (List.mem_append_right _ (in_tt5 (List.mem_of_getElem? (i := 138) rfl))) rfl
set_option maxRecDepth 100000 in
theorem w_1200 : Jvm.Cond.selects "GossipTrainModel" ({ cls := "GossipTrainModel", name := "of", desc := "(II)I" } : Jvm.MethodName) ({ cls := "GossipTrainModel", name := "of", desc := "(II)I" } : Jvm.MethodName) ∈ wG := wG_of (List.mem_append_right _ (in_tt5 (List.mem_of_getElem? (i := 139) rfl))) rfl
set_option maxRecDepth 100000 in
theorem w_1201 : Jvm.Cond.code ({ cls := "GossipTrainModel", name := "of", desc := "(II)I" } : Jvm.MethodName) prog_10_method_43_code (3 : Nat) (Option.some Jvm.ClassFile.FieldType.int) ∈ wG := wG_of (List.mem_append_right _ (in_tt5 (List.mem_of_getElem? (i := 140) rfl))) rfl
set_option maxRecDepth 100000 in
theorem w_1202 : Jvm.Cond.methodLink "GossipTrainModel" (336 : Nat) ({ cls := "GossipTrainModel", name := "glow", desc := "(II)I" } : Jvm.MethodName) ∈ wG := wG_of (List.mem_append_right _ (in_tt5 (List.mem_of_getElem? (i := 141) rfl))) rfl
set_option maxRecDepth 100000 in
theorem w_1204 : Jvm.Cond.instanceMethod ({ cls := "GossipTrainModel", name := "glow", desc := "(II)I" } : Jvm.MethodName) ∈ wG := wG_of (List.mem_append_right _ (in_tt5 (List.mem_of_getElem? (i := 143) rfl))) rfl
set_option maxRecDepth 100000 in
theorem w_1205 : Jvm.Cond.code ({ cls := "GossipTrainModel", name := "glow", desc := "(II)I" } : Jvm.MethodName) prog_10_method_41_code (5 : Nat) (Option.some Jvm.ClassFile.FieldType.int) ∈ wG := wG_of (List.mem_append_right _ (in_tt5 (List.mem_of_getElem? (i := 144) rfl))) rfl
set_option maxRecDepth 100000 in
theorem w_1206 : Jvm.Cond.methodLink "GossipTrainModel" (332 : Nat) ({ cls := "GossipTrainModel", name := "sum", desc := "(II)I" } : Jvm.MethodName) ∈ wG := wG_of (List.mem_append_right _ (in_tt5 (List.mem_of_getElem? (i := 145) rfl))) rfl
set_option maxRecDepth 100000 in
theorem w_1208 : Jvm.Cond.instanceMethod ({ cls := "GossipTrainModel", name := "sum", desc := "(II)I" } : Jvm.MethodName) ∈ wG := wG_of (List.mem_append_right _ (in_tt5 (List.mem_of_getElem? (i := 147) rfl))) rfl
set_option maxRecDepth 100000 in
theorem w_1209 : Jvm.Cond.code ({ cls := "GossipTrainModel", name := "sum", desc := "(II)I" } : Jvm.MethodName) prog_10_method_40_code (5 : Nat) (Option.some Jvm.ClassFile.FieldType.int) ∈ wG := wG_of (List.mem_append_right _ (in_tt5 (List.mem_of_getElem? (i := 148) rfl))) rfl
set_option maxRecDepth 100000 in
theorem w_1210 : Jvm.Cond.methodLink "GossipTrainModel" (319 : Nat) ({ cls := "GossipTrainModel", name := "begin", desc := "()I" } : Jvm.MethodName) ∈ wG := wG_of (List.mem_append_right _ (in_tt5 (List.mem_of_getElem? (i := 149) rfl))) rfl
set_option maxRecDepth 100000 in
theorem w_1212 : Jvm.Cond.instanceMethod ({ cls := "GossipTrainModel", name := "begin", desc := "()I" } : Jvm.MethodName) ∈ wG := wG_of (List.mem_append_right _ (in_tt5 (List.mem_of_getElem? (i := 151) rfl))) rfl
set_option maxRecDepth 100000 in
theorem w_1213 : Jvm.Cond.code ({ cls := "GossipTrainModel", name := "begin", desc := "()I" } : Jvm.MethodName) prog_10_method_35_code (1 : Nat) (Option.some Jvm.ClassFile.FieldType.int) ∈ wG := wG_of (List.mem_append_right _ (in_tt5 (List.mem_of_getElem? (i := 152) rfl))) rfl
set_option maxRecDepth 100000 in
theorem w_1214 : Jvm.Cond.methodLink "GossipTrainModel" (322 : Nat) ({ cls := "GossipTrainModel", name := "behind", desc := "()I" } : Jvm.MethodName) ∈ wG := wG_of (List.mem_append_right _ (in_tt5 (List.mem_of_getElem? (i := 153) rfl))) rfl
set_option maxRecDepth 100000 in
theorem w_1216 : Jvm.Cond.instanceMethod ({ cls := "GossipTrainModel", name := "behind", desc := "()I" } : Jvm.MethodName) ∈ wG := wG_of (List.mem_append_right _ (in_tt5 (List.mem_of_getElem? (i := 155) rfl))) rfl
set_option maxRecDepth 100000 in
theorem w_1217 : Jvm.Cond.code ({ cls := "GossipTrainModel", name := "behind", desc := "()I" } : Jvm.MethodName) prog_10_method_36_code (1 : Nat) (Option.some Jvm.ClassFile.FieldType.int) ∈ wG := wG_of (List.mem_append_right _ (in_tt5 (List.mem_of_getElem? (i := 156) rfl))) rfl
set_option maxRecDepth 100000 in
theorem w_1218 : Jvm.Cond.methodLink "GossipTrainModel" (329 : Nat) ({ cls := "GossipTrainModel", name := "holds", desc := "(III)Z" } : Jvm.MethodName) ∈ wG := wG_of (List.mem_append_right _ (in_tt5 (List.mem_of_getElem? (i := 157) rfl))) rfl
set_option maxRecDepth 100000 in
theorem w_1220 : Jvm.Cond.instanceMethod ({ cls := "GossipTrainModel", name := "holds", desc := "(III)Z" } : Jvm.MethodName) ∈ wG := wG_of (List.mem_append_right _ (in_tt5 (List.mem_of_getElem? (i := 159) rfl))) rfl
set_option maxRecDepth 100000 in
theorem w_1221 : Jvm.Cond.code ({ cls := "GossipTrainModel", name := "holds", desc := "(III)Z" } : Jvm.MethodName) prog_10_method_39_code (9 : Nat) (Option.some Jvm.ClassFile.FieldType.boolean) ∈ wG := wG_of (List.mem_append_right _ (in_tt5 (List.mem_of_getElem? (i := 160) rfl))) rfl
set_option maxRecDepth 100000 in
theorem w_1222 : Jvm.Cond.methodLink "GossipTrainModel" (325 : Nat) ({ cls := "GossipTrainModel", name := "factOf", desc := "(III)I" } : Jvm.MethodName) ∈ wG := wG_of (List.mem_append_right _ (in_tt5 (List.mem_of_getElem? (i := 161) rfl))) rfl
set_option maxRecDepth 100000 in
theorem w_1224 : Jvm.Cond.instanceMethod ({ cls := "GossipTrainModel", name := "factOf", desc := "(III)I" } : Jvm.MethodName) ∈ wG := wG_of (List.mem_append_right _ (in_tt5 (List.mem_of_getElem? (i := 163) rfl))) rfl
set_option maxRecDepth 100000 in
theorem w_1225 : Jvm.Cond.code ({ cls := "GossipTrainModel", name := "factOf", desc := "(III)I" } : Jvm.MethodName) prog_10_method_38_code (4 : Nat) (Option.some Jvm.ClassFile.FieldType.int) ∈ wG := wG_of (List.mem_append_right _ (in_tt5 (List.mem_of_getElem? (i := 164) rfl))) rfl
set_option maxRecDepth 100000 in
theorem w_1226 : Jvm.Cond.methodLink "GossipTrainModel" (339 : Nat) ({ cls := "GossipTrainModel", name := "tells", desc := "(I)I" } : Jvm.MethodName) ∈ wG := wG_of (List.mem_append_right _ (in_tt5 (List.mem_of_getElem? (i := 165) rfl))) rfl
set_option maxRecDepth 100000 in
theorem w_1228 : Jvm.Cond.instanceMethod ({ cls := "GossipTrainModel", name := "tells", desc := "(I)I" } : Jvm.MethodName) ∈ wG := wG_of (List.mem_append_right _ (in_tt5 (List.mem_of_getElem? (i := 167) rfl))) rfl
set_option maxRecDepth 100000 in
theorem w_1229 : Jvm.Cond.code ({ cls := "GossipTrainModel", name := "tells", desc := "(I)I" } : Jvm.MethodName) prog_10_method_42_code (6 : Nat) (Option.some Jvm.ClassFile.FieldType.int) ∈ wG := wG_of (List.mem_append_right _ (in_tt5 (List.mem_of_getElem? (i := 168) rfl))) rfl
set_option maxRecDepth 100000 in
theorem w_1230 : Jvm.Cond.methodLink "GossipTrainLaw" (62 : Nat) ({ cls := "GossipTrainModel", name := "pass", desc := "(I)I" } : Jvm.MethodName) ∈ wG := wG_of (List.mem_append_right _ (in_tt5 (List.mem_of_getElem? (i := 169) rfl))) rfl
set_option maxRecDepth 100000 in
theorem w_1231 : Jvm.Cond.instanceMethod ({ cls := "GossipTrainModel", name := "pass", desc := "(I)I" } : Jvm.MethodName) ∈ wG := wG_of (List.mem_append_right _ (in_tt5 (List.mem_of_getElem? (i := 170) rfl))) rfl
set_option maxRecDepth 100000 in
theorem w_1232 : Jvm.Cond.selects "GossipTrainModel" ({ cls := "GossipTrainModel", name := "pass", desc := "(I)I" } : Jvm.MethodName) ({ cls := "GossipTrainModel", name := "pass", desc := "(I)I" } : Jvm.MethodName) ∈ wG := wG_of (List.mem_append_right _ (in_tt5 (List.mem_of_getElem? (i := 171) rfl))) rfl
set_option maxRecDepth 100000 in
theorem w_1233 : Jvm.Cond.code ({ cls := "GossipTrainModel", name := "pass", desc := "(I)I" } : Jvm.MethodName) prog_10_method_47_code (2 : Nat) (Option.some Jvm.ClassFile.FieldType.int) ∈ wG := wG_of (List.mem_append_right _ (in_tt5 (List.mem_of_getElem? (i := 172) rfl))) rfl
set_option maxRecDepth 100000 in
theorem w_1234 : Jvm.Cond.methodLink "GossipTrainModel" (355 : Nat) ({ cls := "GossipTrainModel", name := "isMinutes", desc := "(I)Z" } : Jvm.MethodName) ∈ wG := wG_of (List.mem_append_right _ (in_tt5 (List.mem_of_getElem? (i := 173) rfl))) rfl
set_option maxRecDepth 100000 in
theorem w_1236 : Jvm.Cond.instanceMethod ({ cls := "GossipTrainModel", name := "isMinutes", desc := "(I)Z" } : Jvm.MethodName) ∈ wG := wG_of (List.mem_append_right _ (in_tt5 (List.mem_of_getElem? (i := 175) rfl))) rfl
set_option maxRecDepth 100000 in
theorem w_1237 : Jvm.Cond.code ({ cls := "GossipTrainModel", name := "isMinutes", desc := "(I)Z" } : Jvm.MethodName) prog_10_method_10_code (2 : Nat) (Option.some Jvm.ClassFile.FieldType.boolean) ∈ wG := wG_of (List.mem_append_right _ (in_tt5 (List.mem_of_getElem? (i := 176) rfl))) rfl
set_option maxRecDepth 100000 in
theorem w_1238 : Jvm.Cond.methodLink "GossipTrainModel" (358 : Nat) ({ cls := "GossipTrainModel", name := "goMinutes", desc := "(I)V" } : Jvm.MethodName) ∈ wG := wG_of (List.mem_append_right _ (in_tt5 (List.mem_of_getElem? (i := 177) rfl))) rfl
set_option maxRecDepth 100000 in
theorem w_1240 : Jvm.Cond.instanceMethod ({ cls := "GossipTrainModel", name := "goMinutes", desc := "(I)V" } : Jvm.MethodName) ∈ wG := wG_of (List.mem_append_right _ (in_tt5 (List.mem_of_getElem? (i := 179) rfl))) rfl
set_option maxRecDepth 100000 in
theorem w_1241 : Jvm.Cond.code ({ cls := "GossipTrainModel", name := "goMinutes", desc := "(I)V" } : Jvm.MethodName) prog_10_method_46_code (3 : Nat) (Option.none : Option Jvm.ClassFile.FieldType) ∈ wG := wG_of (List.mem_append_right _ (in_tt5 (List.mem_of_getElem? (i := 180) rfl))) rfl
set_option maxRecDepth 100000 in
theorem w_1242 : Jvm.Cond.methodLink "GossipTrainModel" (352 : Nat) ({ cls := "GossipTrainModel", name := "goMinute", desc := "()V" } : Jvm.MethodName) ∈ wG := wG_of (List.mem_append_right _ (in_tt5 (List.mem_of_getElem? (i := 181) rfl))) rfl
set_option maxRecDepth 100000 in
theorem w_1244 : Jvm.Cond.instanceMethod ({ cls := "GossipTrainModel", name := "goMinute", desc := "()V" } : Jvm.MethodName) ∈ wG := wG_of (List.mem_append_right _ (in_tt5 (List.mem_of_getElem? (i := 183) rfl))) rfl
set_option maxRecDepth 100000 in
theorem w_1245 : Jvm.Cond.code ({ cls := "GossipTrainModel", name := "goMinute", desc := "()V" } : Jvm.MethodName) prog_10_method_45_code (3 : Nat) (Option.none : Option Jvm.ClassFile.FieldType) ∈ wG := wG_of (List.mem_append_right _ (in_tt5 (List.mem_of_getElem? (i := 184) rfl))) rfl
set_option maxRecDepth 100000 in
theorem w_1246 : Jvm.Cond.methodLink "GossipTrainModel" (345 : Nat) ({ cls := "GossipTrainModel", name := "tell", desc := "(II)V" } : Jvm.MethodName) ∈ wG := wG_of (List.mem_append_right _ (in_tt5 (List.mem_of_getElem? (i := 185) rfl))) rfl
set_option maxRecDepth 100000 in
theorem w_1248 : Jvm.Cond.instanceMethod ({ cls := "GossipTrainModel", name := "tell", desc := "(II)V" } : Jvm.MethodName) ∈ wG := wG_of (List.mem_append_right _ (in_tt5 (List.mem_of_getElem? (i := 187) rfl))) rfl
set_option maxRecDepth 100000 in
theorem w_1249 : Jvm.Cond.code ({ cls := "GossipTrainModel", name := "tell", desc := "(II)V" } : Jvm.MethodName) prog_10_method_44_code (4 : Nat) (Option.none : Option Jvm.ClassFile.FieldType) ∈ wG := wG_of (List.mem_append_right _ (in_tt5 (List.mem_of_getElem? (i := 188) rfl))) rfl
set_option maxRecDepth 100000 in
theorem w_1250 : Jvm.Cond.methodLink "GossipTrainModel" (342 : Nat) ({ cls := "GossipTrainModel", name := "least", desc := "(II)I" } : Jvm.MethodName) ∈ wG := wG_of (List.mem_append_right _ (in_tt5 (List.mem_of_getElem? (i := 189) rfl))) rfl
set_option maxRecDepth 100000 in
theorem w_1252 : Jvm.Cond.instanceMethod ({ cls := "GossipTrainModel", name := "least", desc := "(II)I" } : Jvm.MethodName) ∈ wG := wG_of (List.mem_append_right _ (in_tt5 (List.mem_of_getElem? (i := 191) rfl))) rfl
set_option maxRecDepth 100000 in
theorem w_1253 : Jvm.Cond.code ({ cls := "GossipTrainModel", name := "least", desc := "(II)I" } : Jvm.MethodName) prog_10_method_4_code (3 : Nat) (Option.some Jvm.ClassFile.FieldType.int) ∈ wG := wG_of (List.mem_append_right _ (in_tt5 (List.mem_of_getElem? (i := 192) rfl))) rfl
set_option maxRecDepth 100000 in
theorem w_1254 : Jvm.Cond.methodLink "GossipTrainModel" (349 : Nat) ({ cls := "GossipTrainModel", name := "slope", desc := "()I" } : Jvm.MethodName) ∈ wG := wG_of (List.mem_append_right _ (in_tt5 (List.mem_of_getElem? (i := 193) rfl))) rfl
set_option maxRecDepth 100000 in
theorem w_1256 : Jvm.Cond.instanceMethod ({ cls := "GossipTrainModel", name := "slope", desc := "()I" } : Jvm.MethodName) ∈ wG := wG_of (List.mem_append_right _ (in_tt5 (List.mem_of_getElem? (i := 195) rfl))) rfl
set_option maxRecDepth 100000 in
theorem w_1257 : Jvm.Cond.code ({ cls := "GossipTrainModel", name := "slope", desc := "()I" } : Jvm.MethodName) prog_10_method_37_code (3 : Nat) (Option.some Jvm.ClassFile.FieldType.int) ∈ wG := wG_of (List.mem_append_right _ (in_tt5 (List.mem_of_getElem? (i := 196) rfl))) rfl
set_option maxRecDepth 100000 in
theorem w_1258 : Jvm.Cond.methodLink "GossipTrainLaw" (58 : Nat) ({ cls := "GossipTrainModel", name := "told", desc := "(I)I" } : Jvm.MethodName) ∈ wG := wG_of (List.mem_append_right _ (in_tt5 (List.mem_of_getElem? (i := 197) rfl))) rfl
set_option maxRecDepth 100000 in
theorem w_1259 : Jvm.Cond.instanceMethod ({ cls := "GossipTrainModel", name := "told", desc := "(I)I" } : Jvm.MethodName) ∈ wG := wG_of (List.mem_append_right _ (in_tt5 (List.mem_of_getElem? (i := 198) rfl))) rfl
set_option maxRecDepth 100000 in
theorem w_1260 : Jvm.Cond.selects "GossipTrainModel" ({ cls := "GossipTrainModel", name := "told", desc := "(I)I" } : Jvm.MethodName) ({ cls := "GossipTrainModel", name := "told", desc := "(I)I" } : Jvm.MethodName) ∈ wG := wG_of (List.mem_append_right _ (in_tt5 (List.mem_of_getElem? (i := 199) rfl))) rfl
set_option maxRecDepth 100000 in
theorem w_1261 : Jvm.Cond.code ({ cls := "GossipTrainModel", name := "told", desc := "(I)I" } : Jvm.MethodName) prog_10_method_52_code (2 : Nat) (Option.some Jvm.ClassFile.FieldType.int) ∈ wG := wG_of (List.mem_append_right _ (in_tt5 (List.mem_of_getElem? (i := 200) rfl))) rfl
set_option maxRecDepth 100000 in
theorem w_1262 : Jvm.Cond.methodLink "GossipTrainModel" (361 : Nat) ({ cls := "GossipTrainModel", name := "spread", desc := "(I)I" } : Jvm.MethodName) ∈ wG := wG_of (List.mem_append_right _ (in_tt5 (List.mem_of_getElem? (i := 201) rfl))) rfl
set_option maxRecDepth 100000 in
theorem w_1264 : Jvm.Cond.instanceMethod ({ cls := "GossipTrainModel", name := "spread", desc := "(I)I" } : Jvm.MethodName) ∈ wG := wG_of (List.mem_append_right _ (in_tt5 (List.mem_of_getElem? (i := 203) rfl))) rfl
set_option maxRecDepth 100000 in
theorem w_1265 : Jvm.Cond.code ({ cls := "GossipTrainModel", name := "spread", desc := "(I)I" } : Jvm.MethodName) prog_10_method_51_code (5 : Nat) (Option.some Jvm.ClassFile.FieldType.int) ∈ wG := wG_of (List.mem_append_right _ (in_tt5 (List.mem_of_getElem? (i := 204) rfl))) rfl
set_option maxRecDepth 100000 in
theorem w_1266 : Jvm.Cond.methodLink "GossipTrainModel" (364 : Nat) ({ cls := "GossipTrainModel", name := "ash", desc := "()I" } : Jvm.MethodName) ∈ wG := wG_of (List.mem_append_right _ (in_tt5 (List.mem_of_getElem? (i := 205) rfl))) rfl
set_option maxRecDepth 100000 in
theorem w_1268 : Jvm.Cond.instanceMethod ({ cls := "GossipTrainModel", name := "ash", desc := "()I" } : Jvm.MethodName) ∈ wG := wG_of (List.mem_append_right _ (in_tt5 (List.mem_of_getElem? (i := 207) rfl))) rfl
set_option maxRecDepth 100000 in
theorem w_1269 : Jvm.Cond.code ({ cls := "GossipTrainModel", name := "ash", desc := "()I" } : Jvm.MethodName) prog_10_method_50_code (4 : Nat) (Option.some Jvm.ClassFile.FieldType.int) ∈ wG := wG_of (List.mem_append_right _ (in_tt5 (List.mem_of_getElem? (i := 208) rfl))) rfl
set_option maxRecDepth 100000 in
theorem w_1270 : Jvm.Cond.methodLink "GossipTrainLaw" (66 : Nat) ({ cls := "GossipTrainModel", name := "on", desc := "(II)I" } : Jvm.MethodName) ∈ wG := wG_of (List.mem_append_right _ (in_tt5 (List.mem_of_getElem? (i := 209) rfl))) rfl
set_option maxRecDepth 100000 in
theorem w_1271 : Jvm.Cond.instanceMethod ({ cls := "GossipTrainModel", name := "on", desc := "(II)I" } : Jvm.MethodName) ∈ wG := wG_of (List.mem_append_right _ (in_tt5 (List.mem_of_getElem? (i := 210) rfl))) rfl
set_option maxRecDepth 100000 in
theorem w_1272 : Jvm.Cond.selects "GossipTrainModel" ({ cls := "GossipTrainModel", name := "on", desc := "(II)I" } : Jvm.MethodName) ({ cls := "GossipTrainModel", name := "on", desc := "(II)I" } : Jvm.MethodName) ∈ wG := wG_of (List.mem_append_right _ (in_tt5 (List.mem_of_getElem? (i := 211) rfl))) rfl
set_option maxRecDepth 100000 in
theorem w_1273 : Jvm.Cond.code ({ cls := "GossipTrainModel", name := "on", desc := "(II)I" } : Jvm.MethodName) prog_10_method_53_code (4 : Nat) (Option.some Jvm.ClassFile.FieldType.int) ∈ wG := wG_of (List.mem_append_right _ (in_tt5 (List.mem_of_getElem? (i := 212) rfl))) rfl
set_option maxRecDepth 100000 in
theorem w_1274 : Jvm.Cond.methodLink "GossipTrainModel" (367 : Nat) ({ cls := "GossipTrainModel", name := "save", desc := "()V" } : Jvm.MethodName) ∈ wG := wG_of (List.mem_append_right _ (in_tt5 (List.mem_of_getElem? (i := 213) rfl))) rfl
set_option maxRecDepth 100000 in
theorem w_1276 : Jvm.Cond.instanceMethod ({ cls := "GossipTrainModel", name := "save", desc := "()V" } : Jvm.MethodName) ∈ wG := wG_of (List.mem_append_right _ (in_tt5 (List.mem_of_getElem? (i := 215) rfl))) rfl
set_option maxRecDepth 100000 in
theorem w_1277 : Jvm.Cond.code ({ cls := "GossipTrainModel", name := "save", desc := "()V" } : Jvm.MethodName) prog_10_method_48_code (2 : Nat) (Option.none : Option Jvm.ClassFile.FieldType) ∈ wG := wG_of (List.mem_append_right _ (in_tt5 (List.mem_of_getElem? (i := 216) rfl))) rfl
set_option maxRecDepth 100000 in
theorem w_1278 : Jvm.Cond.methodLink "GossipTrainModel" (370 : Nat) ({ cls := "GossipTrainModel", name := "putBack", desc := "()V" } : Jvm.MethodName) ∈ wG := wG_of (List.mem_append_right _ (in_tt5 (List.mem_of_getElem? (i := 217) rfl))) rfl
set_option maxRecDepth 100000 in
theorem w_1280 : Jvm.Cond.instanceMethod ({ cls := "GossipTrainModel", name := "putBack", desc := "()V" } : Jvm.MethodName) ∈ wG := wG_of (List.mem_append_right _ (in_tt5 (List.mem_of_getElem? (i := 219) rfl))) rfl
set_option maxRecDepth 100000 in
theorem w_1281 : Jvm.Cond.code ({ cls := "GossipTrainModel", name := "putBack", desc := "()V" } : Jvm.MethodName) prog_10_method_49_code (2 : Nat) (Option.none : Option Jvm.ClassFile.FieldType) ∈ wG := wG_of (List.mem_append_right _ (in_tt5 (List.mem_of_getElem? (i := 220) rfl))) rfl
set_option maxRecDepth 100000 in
theorem w_1282 : Jvm.Cond.methodLink "GossipTrainLaw" (70 : Nat) ({ cls := "GossipTrainModel", name := "gets", desc := "(I)I" } : Jvm.MethodName) ∈ wG := wG_of (List.mem_append_right _ (in_tt5 (List.mem_of_getElem? (i := 221) rfl))) rfl
set_option maxRecDepth 100000 in
theorem w_1283 : Jvm.Cond.instanceMethod ({ cls := "GossipTrainModel", name := "gets", desc := "(I)I" } : Jvm.MethodName) ∈ wG := wG_of (List.mem_append_right _ (in_tt5 (List.mem_of_getElem? (i := 222) rfl))) rfl
set_option maxRecDepth 100000 in
theorem w_1284 : Jvm.Cond.selects "GossipTrainModel" ({ cls := "GossipTrainModel", name := "gets", desc := "(I)I" } : Jvm.MethodName) ({ cls := "GossipTrainModel", name := "gets", desc := "(I)I" } : Jvm.MethodName) ∈ wG := wG_of (List.mem_append_right _ (in_tt5 (List.mem_of_getElem? (i := 223) rfl))) rfl
set_option maxRecDepth 100000 in
theorem w_1285 : Jvm.Cond.code ({ cls := "GossipTrainModel", name := "gets", desc := "(I)I" } : Jvm.MethodName) prog_10_method_54_code (3 : Nat) (Option.some Jvm.ClassFile.FieldType.int) ∈ wG := wG_of (List.mem_append_right _ (in_tt5 (List.mem_of_getElem? (i := 224) rfl))) rfl
set_option maxRecDepth 100000 in
theorem w_1286 : Jvm.Cond.methodLink "GossipTrainLaw" (74 : Nat) ({ cls := "GossipTrainModel", name := "hears", desc := "(II)I" } : Jvm.MethodName) ∈ wG := wG_of (List.mem_append_right _ (in_tt5 (List.mem_of_getElem? (i := 225) rfl))) rfl
set_option maxRecDepth 100000 in
theorem w_1287 : Jvm.Cond.instanceMethod ({ cls := "GossipTrainModel", name := "hears", desc := "(II)I" } : Jvm.MethodName) ∈ wG := wG_of (List.mem_append_right _ (in_tt5 (List.mem_of_getElem? (i := 226) rfl))) rfl
set_option maxRecDepth 100000 in
theorem w_1288 : Jvm.Cond.selects "GossipTrainModel" ({ cls := "GossipTrainModel", name := "hears", desc := "(II)I" } : Jvm.MethodName) ({ cls := "GossipTrainModel", name := "hears", desc := "(II)I" } : Jvm.MethodName) ∈ wG := wG_of (List.mem_append_right _ (in_tt5 (List.mem_of_getElem? (i := 227) rfl))) rfl
set_option maxRecDepth 100000 in
theorem w_1289 : Jvm.Cond.code ({ cls := "GossipTrainModel", name := "hears", desc := "(II)I" } : Jvm.MethodName) prog_10_method_55_code (4 : Nat) (Option.some Jvm.ClassFile.FieldType.int) ∈ wG := wG_of (List.mem_append_right _ (in_tt5 (List.mem_of_getElem? (i := 228) rfl))) rfl
set_option maxRecDepth 100000 in
theorem w_1290 : Jvm.Cond.methodLink "GossipTrainLaw" (78 : Nat) ({ cls := "GossipTrainModel", name := "best", desc := "(II)I" } : Jvm.MethodName) ∈ wG := wG_of (List.mem_append_right _ (in_tt5 (List.mem_of_getElem? (i := 229) rfl))) rfl
set_option maxRecDepth 100000 in
theorem w_1291 : Jvm.Cond.instanceMethod ({ cls := "GossipTrainModel", name := "best", desc := "(II)I" } : Jvm.MethodName) ∈ wG := wG_of (List.mem_append_right _ (in_tt5 (List.mem_of_getElem? (i := 230) rfl))) rfl
set_option maxRecDepth 100000 in
theorem w_1292 : Jvm.Cond.selects "GossipTrainModel" ({ cls := "GossipTrainModel", name := "best", desc := "(II)I" } : Jvm.MethodName) ({ cls := "GossipTrainModel", name := "best", desc := "(II)I" } : Jvm.MethodName) ∈ wG := wG_of (List.mem_append_right _ (in_tt5 (List.mem_of_getElem? (i := 231) rfl))) rfl
set_option maxRecDepth 100000 in
theorem w_1293 : Jvm.Cond.code ({ cls := "GossipTrainModel", name := "best", desc := "(II)I" } : Jvm.MethodName) prog_10_method_56_code (9 : Nat) (Option.some Jvm.ClassFile.FieldType.int) ∈ wG := wG_of (List.mem_append_right _ (in_tt5 (List.mem_of_getElem? (i := 232) rfl))) rfl
set_option maxRecDepth 100000 in
theorem w_1294 : Jvm.Cond.methodLink "GossipTrainLaw" (82 : Nat) ({ cls := "GossipTrainModel", name := "swap", desc := "(I)I" } : Jvm.MethodName) ∈ wG := wG_of (List.mem_append_right _ (in_tt5 (List.mem_of_getElem? (i := 233) rfl))) rfl
set_option maxRecDepth 100000 in
theorem w_1295 : Jvm.Cond.instanceMethod ({ cls := "GossipTrainModel", name := "swap", desc := "(I)I" } : Jvm.MethodName) ∈ wG := wG_of (List.mem_append_right _ (in_tt5 (List.mem_of_getElem? (i := 234) rfl))) rfl
set_option maxRecDepth 100000 in
theorem w_1296 : Jvm.Cond.selects "GossipTrainModel" ({ cls := "GossipTrainModel", name := "swap", desc := "(I)I" } : Jvm.MethodName) ({ cls := "GossipTrainModel", name := "swap", desc := "(I)I" } : Jvm.MethodName) ∈ wG := wG_of (List.mem_append_right _ (in_tt5 (List.mem_of_getElem? (i := 235) rfl))) rfl
set_option maxRecDepth 100000 in
theorem w_1297 : Jvm.Cond.code ({ cls := "GossipTrainModel", name := "swap", desc := "(I)I" } : Jvm.MethodName) prog_10_method_58_code (7 : Nat) (Option.some Jvm.ClassFile.FieldType.int) ∈ wG := wG_of (List.mem_append_right _ (in_tt5 (List.mem_of_getElem? (i := 236) rfl))) rfl
set_option maxRecDepth 100000 in
theorem w_1298 : Jvm.Cond.methodLink "GossipTrainModel" (373 : Nat) ({ cls := "GossipTrainModel", name := "on", desc := "(II)I" } : Jvm.MethodName) ∈ wG := wG_of (List.mem_append_right _ (in_tt5 (List.mem_of_getElem? (i := 237) rfl))) rfl
set_option maxRecDepth 100000 in
theorem w_1299 : Jvm.Cond.methodLink "GossipTrainModel" (376 : Nat) ({ cls := "GossipTrainModel", name := "spotSwapped", desc := "(III)I" } : Jvm.MethodName) ∈ wG := wG_of (List.mem_append_right _ (in_tt5 (List.mem_of_getElem? (i := 238) rfl))) rfl
set_option maxRecDepth 100000 in
theorem w_1301 : Jvm.Cond.instanceMethod ({ cls := "GossipTrainModel", name := "spotSwapped", desc := "(III)I" } : Jvm.MethodName) ∈ wG := wG_of (List.mem_append_right _ (in_tt6 (List.mem_of_getElem? (i := 0) rfl))) rfl
set_option maxRecDepth 100000 in
theorem w_1302 : Jvm.Cond.code ({ cls := "GossipTrainModel", name := "spotSwapped", desc := "(III)I" } : Jvm.MethodName) prog_10_method_57_code (6 : Nat) (Option.some Jvm.ClassFile.FieldType.int) ∈ wG := wG_of (List.mem_append_right _ (in_tt6 (List.mem_of_getElem? (i := 1) rfl))) rfl
set_option maxRecDepth 100000 in
theorem w_1303 : Jvm.Cond.methodLink "GossipTrainLaw" (86 : Nat) ({ cls := "GossipTrainModel", name := "see", desc := "(III)I" } : Jvm.MethodName) ∈ wG := wG_of (List.mem_append_right _ (in_tt6 (List.mem_of_getElem? (i := 2) rfl))) rfl
set_option maxRecDepth 100000 in
theorem w_1304 : Jvm.Cond.instanceMethod ({ cls := "GossipTrainModel", name := "see", desc := "(III)I" } : Jvm.MethodName) ∈ wG := wG_of (List.mem_append_right _ (in_tt6 (List.mem_of_getElem? (i := 3) rfl))) rfl
set_option maxRecDepth 100000 in
theorem w_1305 : Jvm.Cond.selects "GossipTrainModel" ({ cls := "GossipTrainModel", name := "see", desc := "(III)I" } : Jvm.MethodName) ({ cls := "GossipTrainModel", name := "see", desc := "(III)I" } : Jvm.MethodName) ∈ wG := wG_of (List.mem_append_right _ (in_tt6 (List.mem_of_getElem? (i := 4) rfl))) rfl
set_option maxRecDepth 100000 in
theorem w_1306 : Jvm.Cond.code ({ cls := "GossipTrainModel", name := "see", desc := "(III)I" } : Jvm.MethodName) prog_10_method_59_code (4 : Nat) (Option.some Jvm.ClassFile.FieldType.int) ∈ wG := wG_of (List.mem_append_right _ (in_tt6 (List.mem_of_getElem? (i := 5) rfl))) rfl
set_option maxRecDepth 100000 in
theorem w_1307 : Jvm.Cond.methodLink "GossipTrainLaw" (90 : Nat) ({ cls := "GossipTrainModel", name := "can", desc := "(III)I" } : Jvm.MethodName) ∈ wG := wG_of (List.mem_append_right _ (in_tt6 (List.mem_of_getElem? (i := 6) rfl))) rfl
set_option maxRecDepth 100000 in
theorem w_1308 : Jvm.Cond.instanceMethod ({ cls := "GossipTrainModel", name := "can", desc := "(III)I" } : Jvm.MethodName) ∈ wG := wG_of (List.mem_append_right _ (in_tt6 (List.mem_of_getElem? (i := 7) rfl))) rfl
set_option maxRecDepth 100000 in
theorem w_1309 : Jvm.Cond.selects "GossipTrainModel" ({ cls := "GossipTrainModel", name := "can", desc := "(III)I" } : Jvm.MethodName) ({ cls := "GossipTrainModel", name := "can", desc := "(III)I" } : Jvm.MethodName) ∈ wG := wG_of (List.mem_append_right _ (in_tt6 (List.mem_of_getElem? (i := 8) rfl))) rfl
set_option maxRecDepth 100000 in
theorem w_1310 : Jvm.Cond.code ({ cls := "GossipTrainModel", name := "can", desc := "(III)I" } : Jvm.MethodName) prog_10_method_63_code (4 : Nat) (Option.some Jvm.ClassFile.FieldType.int) ∈ wG := wG_of (List.mem_append_right _ (in_tt6 (List.mem_of_getElem? (i := 9) rfl))) rfl
set_option maxRecDepth 100000 in
theorem w_1311 : Jvm.Cond.methodLink "GossipTrainModel" (383 : Nat) ({ cls := "GossipTrainModel", name := "canOne", desc := "(II)I" } : Jvm.MethodName) ∈ wG := wG_of (List.mem_append_right _ (in_tt6 (List.mem_of_getElem? (i := 10) rfl))) rfl
set_option maxRecDepth 100000 in
theorem w_1313 : Jvm.Cond.instanceMethod ({ cls := "GossipTrainModel", name := "canOne", desc := "(II)I" } : Jvm.MethodName) ∈ wG := wG_of (List.mem_append_right _ (in_tt6 (List.mem_of_getElem? (i := 12) rfl))) rfl
set_option maxRecDepth 100000 in
theorem w_1314 : Jvm.Cond.code ({ cls := "GossipTrainModel", name := "canOne", desc := "(II)I" } : Jvm.MethodName) prog_10_method_61_code (7 : Nat) (Option.some Jvm.ClassFile.FieldType.int) ∈ wG := wG_of (List.mem_append_right _ (in_tt6 (List.mem_of_getElem? (i := 13) rfl))) rfl
set_option maxRecDepth 100000 in
theorem w_1315 : Jvm.Cond.methodLink "GossipTrainModel" (379 : Nat) ({ cls := "GossipTrainModel", name := "isSeen", desc := "(ZI)Z" } : Jvm.MethodName) ∈ wG := wG_of (List.mem_append_right _ (in_tt6 (List.mem_of_getElem? (i := 14) rfl))) rfl
set_option maxRecDepth 100000 in
theorem w_1317 : Jvm.Cond.instanceMethod ({ cls := "GossipTrainModel", name := "isSeen", desc := "(ZI)Z" } : Jvm.MethodName) ∈ wG := wG_of (List.mem_append_right _ (in_tt6 (List.mem_of_getElem? (i := 16) rfl))) rfl
set_option maxRecDepth 100000 in
theorem w_1318 : Jvm.Cond.code ({ cls := "GossipTrainModel", name := "isSeen", desc := "(ZI)Z" } : Jvm.MethodName) prog_10_method_60_code (5 : Nat) (Option.some Jvm.ClassFile.FieldType.boolean) ∈ wG := wG_of (List.mem_append_right _ (in_tt6 (List.mem_of_getElem? (i := 17) rfl))) rfl
set_option maxRecDepth 100000 in
theorem w_1319 : Jvm.Cond.methodLink "GossipTrainModel" (386 : Nat) ({ cls := "GossipTrainModel", name := "stale", desc := "(II)I" } : Jvm.MethodName) ∈ wG := wG_of (List.mem_append_right _ (in_tt6 (List.mem_of_getElem? (i := 18) rfl))) rfl
set_option maxRecDepth 100000 in
theorem w_1321 : Jvm.Cond.instanceMethod ({ cls := "GossipTrainModel", name := "stale", desc := "(II)I" } : Jvm.MethodName) ∈ wG := wG_of (List.mem_append_right _ (in_tt6 (List.mem_of_getElem? (i := 20) rfl))) rfl
set_option maxRecDepth 100000 in
theorem w_1322 : Jvm.Cond.code ({ cls := "GossipTrainModel", name := "stale", desc := "(II)I" } : Jvm.MethodName) prog_10_method_62_code (7 : Nat) (Option.some Jvm.ClassFile.FieldType.int) ∈ wG := wG_of (List.mem_append_right _ (in_tt6 (List.mem_of_getElem? (i := 21) rfl))) rfl
set_option maxRecDepth 100000 in
theorem w_1323 : Jvm.Cond.methodLink "GossipTrainLaw" (95 : Nat) ({ cls := "GossipTrainModel", name := "odds", desc := "(III)J" } : Jvm.MethodName) ∈ wG := wG_of (List.mem_append_right _ (in_tt6 (List.mem_of_getElem? (i := 22) rfl))) rfl
set_option maxRecDepth 100000 in
theorem w_1324 : Jvm.Cond.instanceMethod ({ cls := "GossipTrainModel", name := "odds", desc := "(III)J" } : Jvm.MethodName) ∈ wG := wG_of (List.mem_append_right _ (in_tt6 (List.mem_of_getElem? (i := 23) rfl))) rfl
set_option maxRecDepth 100000 in
theorem w_1325 : Jvm.Cond.selects "GossipTrainModel" ({ cls := "GossipTrainModel", name := "odds", desc := "(III)J" } : Jvm.MethodName) ({ cls := "GossipTrainModel", name := "odds", desc := "(III)J" } : Jvm.MethodName) ∈ wG := wG_of (List.mem_append_right _ (in_tt6 (List.mem_of_getElem? (i := 24) rfl))) rfl
set_option maxRecDepth 100000 in
theorem w_1326 : Jvm.Cond.code ({ cls := "GossipTrainModel", name := "odds", desc := "(III)J" } : Jvm.MethodName) prog_10_method_66_code (7 : Nat) (Option.some Jvm.ClassFile.FieldType.long) ∈ wG := wG_of (List.mem_append_right _ (in_tt6 (List.mem_of_getElem? (i := 25) rfl))) rfl
set_option maxRecDepth 100000 in
theorem w_1327 : Jvm.Cond.constantLong "GossipTrainModel" (392 : Nat) (-9223372036854775808 : Int64) ∈ wG := wG_of (List.mem_append_right _ (in_tt6 (List.mem_of_getElem? (i := 26) rfl))) rfl
set_option maxRecDepth 100000 in
theorem w_1328 : Jvm.Cond.methodLink "GossipTrainModel" (394 : Nat) ({ cls := "GossipTrainModel", name := "lowest", desc := "(III)J" } : Jvm.MethodName) ∈ wG := wG_of (List.mem_append_right _ (in_tt6 (List.mem_of_getElem? (i := 27) rfl))) rfl
set_option maxRecDepth 100000 in
theorem w_1330 : Jvm.Cond.instanceMethod ({ cls := "GossipTrainModel", name := "lowest", desc := "(III)J" } : Jvm.MethodName) ∈ wG := wG_of (List.mem_append_right _ (in_tt6 (List.mem_of_getElem? (i := 29) rfl))) rfl
set_option maxRecDepth 100000 in
theorem w_1331 : Jvm.Cond.code ({ cls := "GossipTrainModel", name := "lowest", desc := "(III)J" } : Jvm.MethodName) prog_10_method_65_code (5 : Nat) (Option.some Jvm.ClassFile.FieldType.long) ∈ wG := wG_of (List.mem_append_right _ (in_tt6 (List.mem_of_getElem? (i := 30) rfl))) rfl
set_option maxRecDepth 100000 in
theorem w_1332 : Jvm.Cond.methodLink "GossipTrainModel" (389 : Nat) ({ cls := "GossipTrainModel", name := "divisor", desc := "(II)I" } : Jvm.MethodName) ∈ wG := wG_of (List.mem_append_right _ (in_tt6 (List.mem_of_getElem? (i := 31) rfl))) rfl
set_option maxRecDepth 100000 in
theorem w_1334 : Jvm.Cond.instanceMethod ({ cls := "GossipTrainModel", name := "divisor", desc := "(II)I" } : Jvm.MethodName) ∈ wG := wG_of (List.mem_append_right _ (in_tt6 (List.mem_of_getElem? (i := 33) rfl))) rfl
set_option maxRecDepth 100000 in
theorem w_1335 : Jvm.Cond.code ({ cls := "GossipTrainModel", name := "divisor", desc := "(II)I" } : Jvm.MethodName) prog_10_method_64_code (6 : Nat) (Option.some Jvm.ClassFile.FieldType.int) ∈ wG := wG_of (List.mem_append_right _ (in_tt6 (List.mem_of_getElem? (i := 34) rfl))) rfl
set_option maxRecDepth 100000 in
theorem w_1336 : Jvm.Cond.methodLink "GossipTrainLaw" (100 : Nat) ({ cls := "GossipTrainModel", name := "mean", desc := "(II)J" } : Jvm.MethodName) ∈ wG := wG_of (List.mem_append_right _ (in_tt6 (List.mem_of_getElem? (i := 35) rfl))) rfl
set_option maxRecDepth 100000 in
theorem w_1337 : Jvm.Cond.instanceMethod ({ cls := "GossipTrainModel", name := "mean", desc := "(II)J" } : Jvm.MethodName) ∈ wG := wG_of (List.mem_append_right _ (in_tt6 (List.mem_of_getElem? (i := 36) rfl))) rfl
set_option maxRecDepth 100000 in
theorem w_1338 : Jvm.Cond.selects "GossipTrainModel" ({ cls := "GossipTrainModel", name := "mean", desc := "(II)J" } : Jvm.MethodName) ({ cls := "GossipTrainModel", name := "mean", desc := "(II)J" } : Jvm.MethodName) ∈ wG := wG_of (List.mem_append_right _ (in_tt6 (List.mem_of_getElem? (i := 37) rfl))) rfl
set_option maxRecDepth 100000 in
theorem w_1339 : Jvm.Cond.code ({ cls := "GossipTrainModel", name := "mean", desc := "(II)J" } : Jvm.MethodName) prog_10_method_67_code (5 : Nat) (Option.some Jvm.ClassFile.FieldType.long) ∈ wG := wG_of (List.mem_append_right _ (in_tt6 (List.mem_of_getElem? (i := 38) rfl))) rfl
set_option maxRecDepth 100000 in
theorem w_1340 : Jvm.Cond.methodLink "GossipTrainModel" (398 : Nat) ({ cls := "GossipTrainModel", name := "bits", desc := "(I)I" } : Jvm.MethodName) ∈ wG := wG_of (List.mem_append_right _ (in_tt6 (List.mem_of_getElem? (i := 39) rfl))) rfl
set_option maxRecDepth 100000 in
theorem w_1342 : Jvm.Cond.instanceMethod ({ cls := "GossipTrainModel", name := "bits", desc := "(I)I" } : Jvm.MethodName) ∈ wG := wG_of (List.mem_append_right _ (in_tt6 (List.mem_of_getElem? (i := 41) rfl))) rfl
set_option maxRecDepth 100000 in
theorem w_1343 : Jvm.Cond.code ({ cls := "GossipTrainModel", name := "bits", desc := "(I)I" } : Jvm.MethodName) prog_10_method_5_code (4 : Nat) (Option.some Jvm.ClassFile.FieldType.int) ∈ wG := wG_of (List.mem_append_right _ (in_tt6 (List.mem_of_getElem? (i := 42) rfl))) rfl
set_option maxRecDepth 100000 in
theorem w_1344 : Jvm.Cond.methodLink "GossipTrainLaw" (104 : Nat) ({ cls := "GossipTrainModel", name := "plan", desc := "(II)I" } : Jvm.MethodName) ∈ wG := wG_of (List.mem_append_right _ (in_tt6 (List.mem_of_getElem? (i := 43) rfl))) rfl
set_option maxRecDepth 100000 in
theorem w_1345 : Jvm.Cond.instanceMethod ({ cls := "GossipTrainModel", name := "plan", desc := "(II)I" } : Jvm.MethodName) ∈ wG := wG_of (List.mem_append_right _ (in_tt6 (List.mem_of_getElem? (i := 44) rfl))) rfl
set_option maxRecDepth 100000 in
theorem w_1346 : Jvm.Cond.selects "GossipTrainModel" ({ cls := "GossipTrainModel", name := "plan", desc := "(II)I" } : Jvm.MethodName) ({ cls := "GossipTrainModel", name := "plan", desc := "(II)I" } : Jvm.MethodName) ∈ wG := wG_of (List.mem_append_right _ (in_tt6 (List.mem_of_getElem? (i := 45) rfl))) rfl
set_option maxRecDepth 100000 in
theorem w_1347 : Jvm.Cond.code ({ cls := "GossipTrainModel", name := "plan", desc := "(II)I" } : Jvm.MethodName) prog_10_method_69_code (3 : Nat) (Option.some Jvm.ClassFile.FieldType.int) ∈ wG := wG_of (List.mem_append_right _ (in_tt6 (List.mem_of_getElem? (i := 46) rfl))) rfl
set_option maxRecDepth 100000 in
theorem w_1348 : Jvm.Cond.methodLink "GossipTrainModel" (401 : Nat) ({ cls := "GossipTrainModel", name := "isSeat", desc := "(I)Z" } : Jvm.MethodName) ∈ wG := wG_of (List.mem_append_right _ (in_tt6 (List.mem_of_getElem? (i := 47) rfl))) rfl
set_option maxRecDepth 100000 in
theorem w_1350 : Jvm.Cond.instanceMethod ({ cls := "GossipTrainModel", name := "isSeat", desc := "(I)Z" } : Jvm.MethodName) ∈ wG := wG_of (List.mem_append_right _ (in_tt6 (List.mem_of_getElem? (i := 49) rfl))) rfl
set_option maxRecDepth 100000 in
theorem w_1351 : Jvm.Cond.code ({ cls := "GossipTrainModel", name := "isSeat", desc := "(I)Z" } : Jvm.MethodName) prog_10_method_68_code (2 : Nat) (Option.some Jvm.ClassFile.FieldType.boolean) ∈ wG := wG_of (List.mem_append_right _ (in_tt6 (List.mem_of_getElem? (i := 50) rfl))) rfl
set_option maxRecDepth 100000 in
theorem w_1352 : Jvm.Cond.methodLink "GossipTrainLaw" (108 : Nat) ({ cls := "GossipTrainModel", name := "ends", desc := "(I)I" } : Jvm.MethodName) ∈ wG := wG_of (List.mem_append_right _ (in_tt6 (List.mem_of_getElem? (i := 51) rfl))) rfl
set_option maxRecDepth 100000 in
theorem w_1353 : Jvm.Cond.instanceMethod ({ cls := "GossipTrainModel", name := "ends", desc := "(I)I" } : Jvm.MethodName) ∈ wG := wG_of (List.mem_append_right _ (in_tt6 (List.mem_of_getElem? (i := 52) rfl))) rfl
set_option maxRecDepth 100000 in
theorem w_1354 : Jvm.Cond.selects "GossipTrainModel" ({ cls := "GossipTrainModel", name := "ends", desc := "(I)I" } : Jvm.MethodName) ({ cls := "GossipTrainModel", name := "ends", desc := "(I)I" } : Jvm.MethodName) ∈ wG := wG_of (List.mem_append_right _ (in_tt6 (List.mem_of_getElem? (i := 53) rfl))) rfl
set_option maxRecDepth 100000 in
theorem w_1355 : Jvm.Cond.code ({ cls := "GossipTrainModel", name := "ends", desc := "(I)I" } : Jvm.MethodName) prog_10_method_71_code (3 : Nat) (Option.some Jvm.ClassFile.FieldType.int) ∈ wG := wG_of (List.mem_append_right _ (in_tt6 (List.mem_of_getElem? (i := 54) rfl))) rfl
set_option maxRecDepth 100000 in
theorem w_1356 : Jvm.Cond.methodLink "GossipTrainModel" (404 : Nat) ({ cls := "GossipTrainModel", name := "goPlan", desc := "(II)V" } : Jvm.MethodName) ∈ wG := wG_of (List.mem_append_right _ (in_tt6 (List.mem_of_getElem? (i := 55) rfl))) rfl
set_option maxRecDepth 100000 in
theorem w_1358 : Jvm.Cond.instanceMethod ({ cls := "GossipTrainModel", name := "goPlan", desc := "(II)V" } : Jvm.MethodName) ∈ wG := wG_of (List.mem_append_right _ (in_tt6 (List.mem_of_getElem? (i := 57) rfl))) rfl
set_option maxRecDepth 100000 in
theorem w_1359 : Jvm.Cond.code ({ cls := "GossipTrainModel", name := "goPlan", desc := "(II)V" } : Jvm.MethodName) prog_10_method_70_code (3 : Nat) (Option.none : Option Jvm.ClassFile.FieldType) ∈ wG := wG_of (List.mem_append_right _ (in_tt6 (List.mem_of_getElem? (i := 58) rfl))) rfl
set_option maxRecDepth 100000 in
theorem w_1360 : Jvm.Cond.methodLink "GossipTrainLaw" (112 : Nat) ({ cls := "GossipTrainModel", name := "book", desc := "(II)I" } : Jvm.MethodName) ∈ wG := wG_of (List.mem_append_right _ (in_tt6 (List.mem_of_getElem? (i := 59) rfl))) rfl
set_option maxRecDepth 100000 in
theorem w_1361 : Jvm.Cond.instanceMethod ({ cls := "GossipTrainModel", name := "book", desc := "(II)I" } : Jvm.MethodName) ∈ wG := wG_of (List.mem_append_right _ (in_tt6 (List.mem_of_getElem? (i := 60) rfl))) rfl
set_option maxRecDepth 100000 in
theorem w_1362 : Jvm.Cond.selects "GossipTrainModel" ({ cls := "GossipTrainModel", name := "book", desc := "(II)I" } : Jvm.MethodName) ({ cls := "GossipTrainModel", name := "book", desc := "(II)I" } : Jvm.MethodName) ∈ wG := wG_of (List.mem_append_right _ (in_tt6 (List.mem_of_getElem? (i := 61) rfl))) rfl
set_option maxRecDepth 100000 in
theorem w_1363 : Jvm.Cond.code ({ cls := "GossipTrainModel", name := "book", desc := "(II)I" } : Jvm.MethodName) prog_10_method_72_code (3 : Nat) (Option.some Jvm.ClassFile.FieldType.int) ∈ wG := wG_of (List.mem_append_right _ (in_tt6 (List.mem_of_getElem? (i := 62) rfl))) rfl
set_option maxRecDepth 100000 in
theorem w_1364 : Jvm.Cond.methodLink "GossipTrainLaw" (116 : Nat) ({ cls := "GossipTrainModel", name := "looked", desc := "()I" } : Jvm.MethodName) ∈ wG := wG_of (List.mem_append_right _ (in_tt6 (List.mem_of_getElem? (i := 63) rfl))) rfl
set_option maxRecDepth 100000 in
theorem w_1365 : Jvm.Cond.instanceMethod ({ cls := "GossipTrainModel", name := "looked", desc := "()I" } : Jvm.MethodName) ∈ wG := wG_of (List.mem_append_right _ (in_tt6 (List.mem_of_getElem? (i := 64) rfl))) rfl
set_option maxRecDepth 100000 in
theorem w_1366 : Jvm.Cond.selects "GossipTrainModel" ({ cls := "GossipTrainModel", name := "looked", desc := "()I" } : Jvm.MethodName) ({ cls := "GossipTrainModel", name := "looked", desc := "()I" } : Jvm.MethodName) ∈ wG := wG_of (List.mem_append_right _ (in_tt6 (List.mem_of_getElem? (i := 65) rfl))) rfl
set_option maxRecDepth 100000 in
theorem w_1367 : Jvm.Cond.code ({ cls := "GossipTrainModel", name := "looked", desc := "()I" } : Jvm.MethodName) prog_10_method_73_code (2 : Nat) (Option.some Jvm.ClassFile.FieldType.int) ∈ wG := wG_of (List.mem_append_right _ (in_tt6 (List.mem_of_getElem? (i := 66) rfl))) rfl
set_option maxRecDepth 100000 in
theorem w_1368 : Jvm.Cond.methodLink "GossipTrainLaw" (120 : Nat) ({ cls := "GossipTrainModel", name := "judge", desc := "(II)I" } : Jvm.MethodName) ∈ wG := wG_of (List.mem_append_right _ (in_tt6 (List.mem_of_getElem? (i := 67) rfl))) rfl
set_option maxRecDepth 100000 in
theorem w_1369 : Jvm.Cond.instanceMethod ({ cls := "GossipTrainModel", name := "judge", desc := "(II)I" } : Jvm.MethodName) ∈ wG := wG_of (List.mem_append_right _ (in_tt6 (List.mem_of_getElem? (i := 68) rfl))) rfl
set_option maxRecDepth 100000 in
theorem w_1370 : Jvm.Cond.selects "GossipTrainModel" ({ cls := "GossipTrainModel", name := "judge", desc := "(II)I" } : Jvm.MethodName) ({ cls := "GossipTrainModel", name := "judge", desc := "(II)I" } : Jvm.MethodName) ∈ wG := wG_of (List.mem_append_right _ (in_tt6 (List.mem_of_getElem? (i := 69) rfl))) rfl
set_option maxRecDepth 100000 in
theorem w_1371 : Jvm.Cond.code ({ cls := "GossipTrainModel", name := "judge", desc := "(II)I" } : Jvm.MethodName) prog_10_method_74_code (4 : Nat) (Option.some Jvm.ClassFile.FieldType.int) ∈ wG := wG_of (List.mem_append_right _ (in_tt6 (List.mem_of_getElem? (i := 70) rfl))) rfl
set_option maxRecDepth 100000 in
theorem w_1372 : Jvm.Cond.methodLink "GossipTrainModel" (407 : Nat) ({ cls := "GossipTrainModel", name := "isTape", desc := "(I)Z" } : Jvm.MethodName) ∈ wG := wG_of (List.mem_append_right _ (in_tt6 (List.mem_of_getElem? (i := 71) rfl))) rfl
set_option maxRecDepth 100000 in
theorem w_1374 : Jvm.Cond.instanceMethod ({ cls := "GossipTrainModel", name := "isTape", desc := "(I)Z" } : Jvm.MethodName) ∈ wG := wG_of (List.mem_append_right _ (in_tt6 (List.mem_of_getElem? (i := 73) rfl))) rfl
set_option maxRecDepth 100000 in
theorem w_1375 : Jvm.Cond.code ({ cls := "GossipTrainModel", name := "isTape", desc := "(I)Z" } : Jvm.MethodName) prog_10_method_89_code (2 : Nat) (Option.some Jvm.ClassFile.FieldType.boolean) ∈ wG := wG_of (List.mem_append_right _ (in_tt6 (List.mem_of_getElem? (i := 74) rfl))) rfl
set_option maxRecDepth 100000 in
theorem w_1376 : Jvm.Cond.methodLink "GossipTrainLaw" (124 : Nat) ({ cls := "GossipTrainModel", name := "image", desc := "()I" } : Jvm.MethodName) ∈ wG := wG_of (List.mem_append_right _ (in_tt6 (List.mem_of_getElem? (i := 75) rfl))) rfl
set_option maxRecDepth 100000 in
theorem w_1377 : Jvm.Cond.instanceMethod ({ cls := "GossipTrainModel", name := "image", desc := "()I" } : Jvm.MethodName) ∈ wG := wG_of (List.mem_append_right _ (in_tt6 (List.mem_of_getElem? (i := 76) rfl))) rfl
set_option maxRecDepth 100000 in
theorem w_1378 : Jvm.Cond.selects "GossipTrainModel" ({ cls := "GossipTrainModel", name := "image", desc := "()I" } : Jvm.MethodName) ({ cls := "GossipTrainModel", name := "image", desc := "()I" } : Jvm.MethodName) ∈ wG := wG_of (List.mem_append_right _ (in_tt6 (List.mem_of_getElem? (i := 77) rfl))) rfl
set_option maxRecDepth 100000 in
theorem w_1379 : Jvm.Cond.code ({ cls := "GossipTrainModel", name := "image", desc := "()I" } : Jvm.MethodName) prog_10_method_75_code (2 : Nat) (Option.some Jvm.ClassFile.FieldType.int) ∈ wG := wG_of (List.mem_append_right _ (in_tt6 (List.mem_of_getElem? (i := 78) rfl))) rfl
set_option maxRecDepth 100000 in
theorem w_1380 : Jvm.Cond.methodLink "GossipTrainLaw" (128 : Nat) ({ cls := "GossipTrainModel", name := "undo", desc := "()I" } : Jvm.MethodName) ∈ wG := wG_of (List.mem_append_right _ (in_tt6 (List.mem_of_getElem? (i := 79) rfl))) rfl
set_option maxRecDepth 100000 in
theorem w_1381 : Jvm.Cond.instanceMethod ({ cls := "GossipTrainModel", name := "undo", desc := "()I" } : Jvm.MethodName) ∈ wG := wG_of (List.mem_append_right _ (in_tt6 (List.mem_of_getElem? (i := 80) rfl))) rfl
set_option maxRecDepth 100000 in
theorem w_1382 : Jvm.Cond.selects "GossipTrainModel" ({ cls := "GossipTrainModel", name := "undo", desc := "()I" } : Jvm.MethodName) ({ cls := "GossipTrainModel", name := "undo", desc := "()I" } : Jvm.MethodName) ∈ wG := wG_of (List.mem_append_right _ (in_tt6 (List.mem_of_getElem? (i := 81) rfl))) rfl
set_option maxRecDepth 100000 in
theorem w_1383 : Jvm.Cond.code ({ cls := "GossipTrainModel", name := "undo", desc := "()I" } : Jvm.MethodName) prog_10_method_76_code (2 : Nat) (Option.some Jvm.ClassFile.FieldType.int) ∈ wG := wG_of (List.mem_append_right _ (in_tt6 (List.mem_of_getElem? (i := 82) rfl))) rfl
set_option maxRecDepth 100000 in
theorem w_1384 : Jvm.Cond.methodLink "GossipTrainLaw" (132 : Nat) ({ cls := "GossipTrainModel", name := "act", desc := "(III)I" } : Jvm.MethodName) ∈ wG := wG_of (List.mem_append_right _ (in_tt6 (List.mem_of_getElem? (i := 83) rfl))) rfl
set_option maxRecDepth 100000 in
theorem w_1385 : Jvm.Cond.instanceMethod ({ cls := "GossipTrainModel", name := "act", desc := "(III)I" } : Jvm.MethodName) ∈ wG := wG_of (List.mem_append_right _ (in_tt6 (List.mem_of_getElem? (i := 84) rfl))) rfl
set_option maxRecDepth 100000 in
theorem w_1386 : Jvm.Cond.selects "GossipTrainModel" ({ cls := "GossipTrainModel", name := "act", desc := "(III)I" } : Jvm.MethodName) ({ cls := "GossipTrainModel", name := "act", desc := "(III)I" } : Jvm.MethodName) ∈ wG := wG_of (List.mem_append_right _ (in_tt6 (List.mem_of_getElem? (i := 85) rfl))) rfl
set_option maxRecDepth 100000 in
theorem w_1387 : Jvm.Cond.code ({ cls := "GossipTrainModel", name := "act", desc := "(III)I" } : Jvm.MethodName) prog_10_method_85_code (4 : Nat) (Option.some Jvm.ClassFile.FieldType.int) ∈ wG := wG_of (List.mem_append_right _ (in_tt6 (List.mem_of_getElem? (i := 86) rfl))) rfl
set_option maxRecDepth 100000 in
theorem w_1388 : Jvm.Cond.methodLink "GossipTrainModel" (416 : Nat) ({ cls := "GossipTrainModel", name := "humsAct", desc := "(II)I" } : Jvm.MethodName) ∈ wG := wG_of (List.mem_append_right _ (in_tt6 (List.mem_of_getElem? (i := 87) rfl))) rfl
set_option maxRecDepth 100000 in
theorem w_1390 : Jvm.Cond.instanceMethod ({ cls := "GossipTrainModel", name := "humsAct", desc := "(II)I" } : Jvm.MethodName) ∈ wG := wG_of (List.mem_append_right _ (in_tt6 (List.mem_of_getElem? (i := 89) rfl))) rfl
set_option maxRecDepth 100000 in
theorem w_1391 : Jvm.Cond.code ({ cls := "GossipTrainModel", name := "humsAct", desc := "(II)I" } : Jvm.MethodName) prog_10_method_79_code (3 : Nat) (Option.some Jvm.ClassFile.FieldType.int) ∈ wG := wG_of (List.mem_append_right _ (in_tt6 (List.mem_of_getElem? (i := 90) rfl))) rfl
set_option maxRecDepth 100000 in
theorem w_1392 : Jvm.Cond.methodLink "GossipTrainModel" (410 : Nat) ({ cls := "GossipTrainModel", name := "body", desc := "(I)V" } : Jvm.MethodName) ∈ wG := wG_of (List.mem_append_right _ (in_tt6 (List.mem_of_getElem? (i := 91) rfl))) rfl
set_option maxRecDepth 100000 in
theorem w_1394 : Jvm.Cond.instanceMethod ({ cls := "GossipTrainModel", name := "body", desc := "(I)V" } : Jvm.MethodName) ∈ wG := wG_of (List.mem_append_right _ (in_tt6 (List.mem_of_getElem? (i := 93) rfl))) rfl
set_option maxRecDepth 100000 in
theorem w_1395 : Jvm.Cond.code ({ cls := "GossipTrainModel", name := "body", desc := "(I)V" } : Jvm.MethodName) prog_10_method_77_code (2 : Nat) (Option.none : Option Jvm.ClassFile.FieldType) ∈ wG := wG_of (List.mem_append_right _ (in_tt6 (List.mem_of_getElem? (i := 94) rfl))) rfl
set_option maxRecDepth 100000 in
theorem w_1396 : Jvm.Cond.methodLink "GossipTrainModel" (413 : Nat) ({ cls := "GossipTrainModel", name := "oneHums", desc := "(II)I" } : Jvm.MethodName) ∈ wG := wG_of (List.mem_append_right _ (in_tt6 (List.mem_of_getElem? (i := 95) rfl))) rfl
set_option maxRecDepth 100000 in
theorem w_1398 : Jvm.Cond.instanceMethod ({ cls := "GossipTrainModel", name := "oneHums", desc := "(II)I" } : Jvm.MethodName) ∈ wG := wG_of (List.mem_append_right _ (in_tt6 (List.mem_of_getElem? (i := 97) rfl))) rfl
set_option maxRecDepth 100000 in
theorem w_1399 : Jvm.Cond.code ({ cls := "GossipTrainModel", name := "oneHums", desc := "(II)I" } : Jvm.MethodName) prog_10_method_78_code (3 : Nat) (Option.some Jvm.ClassFile.FieldType.int) ∈ wG := wG_of (List.mem_append_right _ (in_tt6 (List.mem_of_getElem? (i := 98) rfl))) rfl
set_option maxRecDepth 100000 in
theorem w_1400 : Jvm.Cond.methodLink "GossipTrainModel" (425 : Nat) ({ cls := "GossipTrainModel", name := "leansAct", desc := "(II)I" } : Jvm.MethodName) ∈ wG := wG_of (List.mem_append_right _ (in_tt6 (List.mem_of_getElem? (i := 99) rfl))) rfl
set_option maxRecDepth 100000 in
theorem w_1402 : Jvm.Cond.instanceMethod ({ cls := "GossipTrainModel", name := "leansAct", desc := "(II)I" } : Jvm.MethodName) ∈ wG := wG_of (List.mem_append_right _ (in_tt6 (List.mem_of_getElem? (i := 101) rfl))) rfl
set_option maxRecDepth 100000 in
theorem w_1403 : Jvm.Cond.code ({ cls := "GossipTrainModel", name := "leansAct", desc := "(II)I" } : Jvm.MethodName) prog_10_method_82_code (4 : Nat) (Option.some Jvm.ClassFile.FieldType.int) ∈ wG := wG_of (List.mem_append_right _ (in_tt6 (List.mem_of_getElem? (i := 102) rfl))) rfl
set_option maxRecDepth 100000 in
theorem w_1404 : Jvm.Cond.methodLink "GossipTrainModel" (422 : Nat) ({ cls := "GossipTrainModel", name := "girlLeans", desc := "(II)I" } : Jvm.MethodName) ∈ wG := wG_of (List.mem_append_right _ (in_tt6 (List.mem_of_getElem? (i := 103) rfl))) rfl
set_option maxRecDepth 100000 in
theorem w_1406 : Jvm.Cond.instanceMethod ({ cls := "GossipTrainModel", name := "girlLeans", desc := "(II)I" } : Jvm.MethodName) ∈ wG := wG_of (List.mem_append_right _ (in_tt6 (List.mem_of_getElem? (i := 105) rfl))) rfl
set_option maxRecDepth 100000 in
theorem w_1407 : Jvm.Cond.code ({ cls := "GossipTrainModel", name := "girlLeans", desc := "(II)I" } : Jvm.MethodName) prog_10_method_81_code (3 : Nat) (Option.some Jvm.ClassFile.FieldType.int) ∈ wG := wG_of (List.mem_append_right _ (in_tt6 (List.mem_of_getElem? (i := 106) rfl))) rfl
set_option maxRecDepth 100000 in
theorem w_1408 : Jvm.Cond.methodLink "GossipTrainModel" (419 : Nat) ({ cls := "GossipTrainModel", name := "oneLeans", desc := "(II)I" } : Jvm.MethodName) ∈ wG := wG_of (List.mem_append_right _ (in_tt6 (List.mem_of_getElem? (i := 107) rfl))) rfl
set_option maxRecDepth 100000 in
theorem w_1410 : Jvm.Cond.instanceMethod ({ cls := "GossipTrainModel", name := "oneLeans", desc := "(II)I" } : Jvm.MethodName) ∈ wG := wG_of (List.mem_append_right _ (in_tt6 (List.mem_of_getElem? (i := 109) rfl))) rfl
set_option maxRecDepth 100000 in
theorem w_1411 : Jvm.Cond.code ({ cls := "GossipTrainModel", name := "oneLeans", desc := "(II)I" } : Jvm.MethodName) prog_10_method_80_code (3 : Nat) (Option.some Jvm.ClassFile.FieldType.int) ∈ wG := wG_of (List.mem_append_right _ (in_tt6 (List.mem_of_getElem? (i := 110) rfl))) rfl
set_option maxRecDepth 100000 in
theorem w_1412 : Jvm.Cond.methodLink "GossipTrainModel" (431 : Nat) ({ cls := "GossipTrainModel", name := "tellsAct", desc := "(II)I" } : Jvm.MethodName) ∈ wG := wG_of (List.mem_append_right _ (in_tt6 (List.mem_of_getElem? (i := 111) rfl))) rfl
set_option maxRecDepth 100000 in
theorem w_1414 : Jvm.Cond.instanceMethod ({ cls := "GossipTrainModel", name := "tellsAct", desc := "(II)I" } : Jvm.MethodName) ∈ wG := wG_of (List.mem_append_right _ (in_tt6 (List.mem_of_getElem? (i := 113) rfl))) rfl
set_option maxRecDepth 100000 in
theorem w_1415 : Jvm.Cond.code ({ cls := "GossipTrainModel", name := "tellsAct", desc := "(II)I" } : Jvm.MethodName) prog_10_method_84_code (4 : Nat) (Option.some Jvm.ClassFile.FieldType.int) ∈ wG := wG_of (List.mem_append_right _ (in_tt6 (List.mem_of_getElem? (i := 114) rfl))) rfl
set_option maxRecDepth 100000 in
theorem w_1416 : Jvm.Cond.methodLink "GossipTrainModel" (428 : Nat) ({ cls := "GossipTrainModel", name := "oneTells", desc := "(II)I" } : Jvm.MethodName) ∈ wG := wG_of (List.mem_append_right _ (in_tt6 (List.mem_of_getElem? (i := 115) rfl))) rfl
set_option maxRecDepth 100000 in
theorem w_1418 : Jvm.Cond.instanceMethod ({ cls := "GossipTrainModel", name := "oneTells", desc := "(II)I" } : Jvm.MethodName) ∈ wG := wG_of (List.mem_append_right _ (in_tt6 (List.mem_of_getElem? (i := 117) rfl))) rfl
set_option maxRecDepth 100000 in
theorem w_1419 : Jvm.Cond.code ({ cls := "GossipTrainModel", name := "oneTells", desc := "(II)I" } : Jvm.MethodName) prog_10_method_83_code (3 : Nat) (Option.some Jvm.ClassFile.FieldType.int) ∈ wG := wG_of (List.mem_append_right _ (in_tt6 (List.mem_of_getElem? (i := 118) rfl))) rfl
set_option maxRecDepth 100000 in
theorem w_1420 : Jvm.Cond.methodLink "GossipTrainLaw" (136 : Nat) ({ cls := "GossipTrainModel", name := "trace", desc := "(I)I" } : Jvm.MethodName) ∈ wG := wG_of (List.mem_append_right _ (in_tt6 (List.mem_of_getElem? (i := 119) rfl))) rfl
set_option maxRecDepth 100000 in
theorem w_1421 : Jvm.Cond.instanceMethod ({ cls := "GossipTrainModel", name := "trace", desc := "(I)I" } : Jvm.MethodName) ∈ wG := wG_of (List.mem_append_right _ (in_tt6 (List.mem_of_getElem? (i := 120) rfl))) rfl
set_option maxRecDepth 100000 in
theorem w_1422 : Jvm.Cond.selects "GossipTrainModel" ({ cls := "GossipTrainModel", name := "trace", desc := "(I)I" } : Jvm.MethodName) ({ cls := "GossipTrainModel", name := "trace", desc := "(I)I" } : Jvm.MethodName) ∈ wG := wG_of (List.mem_append_right _ (in_tt6 (List.mem_of_getElem? (i := 121) rfl))) rfl
set_option maxRecDepth 100000 in
theorem w_1423 : Jvm.Cond.code ({ cls := "GossipTrainModel", name := "trace", desc := "(I)I" } : Jvm.MethodName) prog_10_method_86_code (2 : Nat) (Option.some Jvm.ClassFile.FieldType.int) ∈ wG := wG_of (List.mem_append_right _ (in_tt6 (List.mem_of_getElem? (i := 122) rfl))) rfl
set_option maxRecDepth 100000 in
theorem w_1424 : Jvm.Cond.methodLink "GossipTrainLaw" (140 : Nat) ({ cls := "GossipTrainModel", name := "taken", desc := "(II)I" } : Jvm.MethodName) ∈ wG := wG_of (List.mem_append_right _ (in_tt6 (List.mem_of_getElem? (i := 123) rfl))) rfl
set_option maxRecDepth 100000 in
theorem w_1425 : Jvm.Cond.instanceMethod ({ cls := "GossipTrainModel", name := "taken", desc := "(II)I" } : Jvm.MethodName) ∈ wG := wG_of (List.mem_append_right _ (in_tt6 (List.mem_of_getElem? (i := 124) rfl))) rfl
set_option maxRecDepth 100000 in
theorem w_1426 : Jvm.Cond.selects "GossipTrainModel" ({ cls := "GossipTrainModel", name := "taken", desc := "(II)I" } : Jvm.MethodName) ({ cls := "GossipTrainModel", name := "taken", desc := "(II)I" } : Jvm.MethodName) ∈ wG := wG_of (List.mem_append_right _ (in_tt6 (List.mem_of_getElem? (i := 125) rfl))) rfl
set_option maxRecDepth 100000 in
theorem w_1427 : Jvm.Cond.code ({ cls := "GossipTrainModel", name := "taken", desc := "(II)I" } : Jvm.MethodName) prog_10_method_87_code (4 : Nat) (Option.some Jvm.ClassFile.FieldType.int) ∈ wG := wG_of (List.mem_append_right _ (in_tt6 (List.mem_of_getElem? (i := 126) rfl))) rfl
set_option maxRecDepth 100000 in
theorem w_1428 : Jvm.Cond.methodLink "GossipTrainLaw" (144 : Nat) ({ cls := "GossipTrainModel", name := "count", desc := "(I)I" } : Jvm.MethodName) ∈ wG := wG_of (List.mem_append_right _ (in_tt6 (List.mem_of_getElem? (i := 127) rfl))) rfl
set_option maxRecDepth 100000 in
theorem w_1429 : Jvm.Cond.instanceMethod ({ cls := "GossipTrainModel", name := "count", desc := "(I)I" } : Jvm.MethodName) ∈ wG := wG_of (List.mem_append_right _ (in_tt6 (List.mem_of_getElem? (i := 128) rfl))) rfl
set_option maxRecDepth 100000 in
theorem w_1430 : Jvm.Cond.selects "GossipTrainModel" ({ cls := "GossipTrainModel", name := "count", desc := "(I)I" } : Jvm.MethodName) ({ cls := "GossipTrainModel", name := "count", desc := "(I)I" } : Jvm.MethodName) ∈ wG := wG_of (List.mem_append_right _ (in_tt6 (List.mem_of_getElem? (i := 129) rfl))) rfl
set_option maxRecDepth 100000 in
theorem w_1431 : Jvm.Cond.code ({ cls := "GossipTrainModel", name := "count", desc := "(I)I" } : Jvm.MethodName) prog_10_method_88_code (2 : Nat) (Option.some Jvm.ClassFile.FieldType.int) ∈ wG := wG_of (List.mem_append_right _ (in_tt6 (List.mem_of_getElem? (i := 130) rfl))) rfl
set_option maxRecDepth 100000 in
theorem w_1432 : Jvm.Cond.methodLink "GossipTrainLaw" (148 : Nat) ({ cls := "GossipTrainModel", name := "tape", desc := "(III)I" } : Jvm.MethodName) ∈ wG := wG_of (List.mem_append_right _ (in_tt6 (List.mem_of_getElem? (i := 131) rfl))) rfl
set_option maxRecDepth 100000 in
theorem w_1433 : Jvm.Cond.instanceMethod ({ cls := "GossipTrainModel", name := "tape", desc := "(III)I" } : Jvm.MethodName) ∈ wG := wG_of (List.mem_append_right _ (in_tt6 (List.mem_of_getElem? (i := 132) rfl))) rfl
set_option maxRecDepth 100000 in
theorem w_1434 : Jvm.Cond.selects "GossipTrainModel" ({ cls := "GossipTrainModel", name := "tape", desc := "(III)I" } : Jvm.MethodName) ({ cls := "GossipTrainModel", name := "tape", desc := "(III)I" } : Jvm.MethodName) ∈ wG := wG_of (List.mem_append_right _ (in_tt6 (List.mem_of_getElem? (i := 133) rfl))) rfl
set_option maxRecDepth 100000 in
theorem w_1435 : Jvm.Cond.code ({ cls := "GossipTrainModel", name := "tape", desc := "(III)I" } : Jvm.MethodName) prog_10_method_90_code (5 : Nat) (Option.some Jvm.ClassFile.FieldType.int) ∈ wG := wG_of (List.mem_append_right _ (in_tt6 (List.mem_of_getElem? (i := 134) rfl))) rfl
set_option maxRecDepth 100000 in
theorem w_1436 : Jvm.Cond.methodLink "GossipTrainLaw" (155 : Nat) ({ cls := "GossipTrainModel", name := "item", desc := "(IIJ)I" } : Jvm.MethodName) ∈ wG := wG_of (List.mem_append_right _ (in_tt6 (List.mem_of_getElem? (i := 135) rfl))) rfl
set_option maxRecDepth 100000 in
theorem w_1437 : Jvm.Cond.instanceMethod ({ cls := "GossipTrainModel", name := "item", desc := "(IIJ)I" } : Jvm.MethodName) ∈ wG := wG_of (List.mem_append_right _ (in_tt6 (List.mem_of_getElem? (i := 136) rfl))) rfl
set_option maxRecDepth 100000 in
theorem w_1438 : Jvm.Cond.selects "GossipTrainModel" ({ cls := "GossipTrainModel", name := "item", desc := "(IIJ)I" } : Jvm.MethodName) ({ cls := "GossipTrainModel", name := "item", desc := "(IIJ)I" } : Jvm.MethodName) ∈ wG := wG_of (List.mem_append_right _ (in_tt6 (List.mem_of_getElem? (i := 137) rfl))) rfl
set_option maxRecDepth 100000 in
theorem w_1439 : Jvm.Cond.code ({ cls := "GossipTrainModel", name := "item", desc := "(IIJ)I" } : Jvm.MethodName) prog_10_method_92_code (5 : Nat) (Option.some Jvm.ClassFile.FieldType.int) ∈ wG := wG_of (List.mem_append_right _ (in_tt6 (List.mem_of_getElem? (i := 138) rfl))) rfl
set_option maxRecDepth 100000 in
theorem w_1440 : Jvm.Cond.methodLink "GossipTrainModel" (434 : Nat) ({ cls := "GossipTrainModel", name := "narrow", desc := "(IJ)J" } : Jvm.MethodName) ∈ wG := wG_of (List.mem_append_right _ (in_tt6 (List.mem_of_getElem? (i := 139) rfl))) rfl
set_option maxRecDepth 100000 in
theorem w_1442 : Jvm.Cond.instanceMethod ({ cls := "GossipTrainModel", name := "narrow", desc := "(IJ)J" } : Jvm.MethodName) ∈ wG := wG_of (List.mem_append_right _ (in_tt6 (List.mem_of_getElem? (i := 141) rfl))) rfl
set_option maxRecDepth 100000 in
theorem w_1443 : Jvm.Cond.code ({ cls := "GossipTrainModel", name := "narrow", desc := "(IJ)J" } : Jvm.MethodName) prog_10_method_91_code (4 : Nat) (Option.some Jvm.ClassFile.FieldType.long) ∈ wG := wG_of (List.mem_append_right _ (in_tt6 (List.mem_of_getElem? (i := 142) rfl))) rfl
set_option maxRecDepth 100000 in
theorem w_1444 : Jvm.Cond.methodLink "GossipTrainLaw" (159 : Nat) ({ cls := "GossipTrainModel", name := "read", desc := "(II)J" } : Jvm.MethodName) ∈ wG := wG_of (List.mem_append_right _ (in_tt6 (List.mem_of_getElem? (i := 143) rfl))) rfl
set_option maxRecDepth 100000 in
theorem w_1445 : Jvm.Cond.instanceMethod ({ cls := "GossipTrainModel", name := "read", desc := "(II)J" } : Jvm.MethodName) ∈ wG := wG_of (List.mem_append_right _ (in_tt6 (List.mem_of_getElem? (i := 144) rfl))) rfl
set_option maxRecDepth 100000 in
theorem w_1446 : Jvm.Cond.selects "GossipTrainModel" ({ cls := "GossipTrainModel", name := "read", desc := "(II)J" } : Jvm.MethodName) ({ cls := "GossipTrainModel", name := "read", desc := "(II)J" } : Jvm.MethodName) ∈ wG := wG_of (List.mem_append_right _ (in_tt6 (List.mem_of_getElem? (i := 145) rfl))) rfl
set_option maxRecDepth 100000 in
theorem w_1447 : Jvm.Cond.code ({ cls := "GossipTrainModel", name := "read", desc := "(II)J" } : Jvm.MethodName) prog_10_method_93_code (3 : Nat) (Option.some Jvm.ClassFile.FieldType.long) ∈ wG := wG_of (List.mem_append_right _ (in_tt6 (List.mem_of_getElem? (i := 146) rfl))) rfl
set_option maxRecDepth 100000 in
theorem w_1448 : Jvm.Cond.methodLink "GossipTrainLaw" (164 : Nat) ({ cls := "GossipTrainModel", name := "shift", desc := "(IIIII)I" } : Jvm.MethodName) ∈ wG := wG_of (List.mem_append_right _ (in_tt6 (List.mem_of_getElem? (i := 147) rfl))) rfl
set_option maxRecDepth 100000 in
theorem w_1449 : Jvm.Cond.instanceMethod ({ cls := "GossipTrainModel", name := "shift", desc := "(IIIII)I" } : Jvm.MethodName) ∈ wG := wG_of (List.mem_append_right _ (in_tt6 (List.mem_of_getElem? (i := 148) rfl))) rfl
set_option maxRecDepth 100000 in
theorem w_1450 : Jvm.Cond.selects "GossipTrainModel" ({ cls := "GossipTrainModel", name := "shift", desc := "(IIIII)I" } : Jvm.MethodName) ({ cls := "GossipTrainModel", name := "shift", desc := "(IIIII)I" } : Jvm.MethodName) ∈ wG := wG_of (List.mem_append_right _ (in_tt6 (List.mem_of_getElem? (i := 149) rfl))) rfl
set_option maxRecDepth 100000 in
theorem w_1451 : Jvm.Cond.code ({ cls := "GossipTrainModel", name := "shift", desc := "(IIIII)I" } : Jvm.MethodName) prog_10_method_94_code (7 : Nat) (Option.some Jvm.ClassFile.FieldType.int) ∈ wG := wG_of (List.mem_append_right _ (in_tt6 (List.mem_of_getElem? (i := 150) rfl))) rfl
set_option maxRecDepth 100000 in
theorem w_1452 : Jvm.Cond.constantLong "GossipTrainLaw" (149 : Nat) (4294967295 : Int64) ∈ wG := wG_of (List.mem_append_right _ (in_tt6 (List.mem_of_getElem? (i := 151) rfl))) rfl
set_option maxRecDepth 100000 in
theorem w_1453 : Jvm.Cond.fieldLink "java/lang/String" (9 : Nat) "java/lang/String" "value" "[B" ∈ wG := wG_of (List.mem_append_right _ (in_tt6 (List.mem_of_getElem? (i := 152) rfl))) rfl
set_option maxRecDepth 100000 in
theorem w_1454 : Jvm.Cond.fieldLink "java/lang/String" (15 : Nat) "java/lang/String" "coder" "B" ∈ wG := wG_of (List.mem_append_right _ (in_tt6 (List.mem_of_getElem? (i := 153) rfl))) rfl
theorem m_X0_clear : gMth yX0_clear cX0_clear 1 0 (none) := ⟨w_458, w_104, by decide +kernel⟩
theorem v_X0_clear : gMv yX0_clear := ⟨w_457, w_10⟩
theorem m_X0_add : gMth yX0_add cX0_add 4 3 (none) := ⟨w_550, w_104, by decide +kernel⟩
theorem v_X0_add : gMv yX0_add := ⟨w_549, w_20⟩
theorem m_X0_bitOfTest : gMth yX0_bitOfTest cX0_bitOfTest 5 2 (some .int) := ⟨w_407, w_104, by decide +kernel⟩
theorem s_X0_bitOfTest : Cond.static yX0_bitOfTest ∈ wG := w_406
theorem m_X0_warmth : gMth yX0_warmth cX0_warmth 6 1 (some .int) := ⟨w_404, w_104, by decide +kernel⟩
theorem v_X0_warmth : gMv yX0_warmth := ⟨w_403, w_6⟩
theorem m_X2_becomeLike : gMth yX2_becomeLike cX2_becomeLike 2 1 (none) := ⟨w_769, w_106, by decide +kernel⟩
theorem v_X2_becomeLike : gMv yX2_becomeLike := ⟨w_768, w_38⟩
theorem m_X1_becomeLike : gMth yX1_becomeLike cX1_becomeLike 2 1 (none) := ⟨w_765, w_105, by decide +kernel⟩
theorem v_X1_becomeLike : gMv yX1_becomeLike := ⟨w_764, w_37⟩
theorem m_X2_clear : gMth yX2_clear cX2_clear 1 0 (some .int) := ⟨w_694, w_106, by decide +kernel⟩
theorem v_X2_clear : gMv yX2_clear := ⟨w_693, w_31⟩
theorem m_X2_append : gMth yX2_append cX2_append 4 3 (some .int) := ⟨w_698, w_106, by decide +kernel⟩
theorem v_X2_append : gMv yX2_append := ⟨w_697, w_32⟩
theorem m_X3_write : gMth yX3_write cX3_write 2 1 (some .int) := ⟨w_446, w_108, by decide +kernel⟩
theorem v_X3_write : gMv yX3_write := ⟨w_445, w_8⟩
theorem m_X3_handOver : gMth yX3_handOver cX3_handOver 2 0 (some (.object "GossipTrain$Branch")) := ⟨w_622, w_108, by decide +kernel⟩
theorem v_X3_handOver : gMv yX3_handOver := ⟨w_621, w_23⟩
theorem m_X3_next : gMth yX3_next cX3_next 1 0 (some .int) := ⟨w_466, w_108, by decide +kernel⟩
theorem v_X3_next : gMv yX3_next := ⟨w_465, w_12⟩
theorem m_J0_coder_7d493 : gMth yJ0_coder_7d493 cJ0_coder_7d493 1 0 (some .byte) := ⟨w_479, w_112, by decide +kernel⟩
theorem v_J0_coder_7d493 : gMv yJ0_coder_7d493 := ⟨w_477, w_478⟩
theorem m_J0_length_8abf5 : gMth yJ0_length_8abf5 cJ0_length_8abf5 1 0 (some .int) := ⟨w_475, w_112, by decide +kernel⟩
theorem v_J0_length_8abf5 : gMv yJ0_length_8abf5 := ⟨w_473, w_474⟩
theorem m_J0_isLatin1_aae02 : gMth yJ0_isLatin1_aae02 cJ0_isLatin1_aae02 1 0 (some .boolean) := ⟨w_489, w_112, by decide +kernel⟩
theorem v_J0_isLatin1_aae02 : gMv yJ0_isLatin1_aae02 := ⟨w_487, w_488⟩
theorem m_J3_checkIndex_8e157 : gMth yJ3_checkIndex_8e157 cJ3_checkIndex_8e157 3 3 (some .int) := ⟨w_500, w_114, by decide +kernel⟩
theorem s_J3_checkIndex_8e157 : Cond.static yJ3_checkIndex_8e157 ∈ wG := w_499
theorem m_J0_checkIndex_df160 : gMth yJ0_checkIndex_df160 cJ0_checkIndex_df160 2 2 (none) := ⟨w_495, w_112, by decide +kernel⟩
theorem s_J0_checkIndex_df160 : Cond.static yJ0_checkIndex_df160 ∈ wG := w_494
theorem m_J1_charAt_3b067 : gMth yJ1_charAt_3b067 cJ1_charAt_3b067 2 2 (some .char) := ⟨w_492, w_113, by decide +kernel⟩
theorem s_J1_charAt_3b067 : Cond.static yJ1_charAt_3b067 ∈ wG := w_491
theorem m_J0_charAt_5068e : gMth yJ0_charAt_5068e cJ0_charAt_5068e 2 1 (some .char) := ⟨w_485, w_112, by decide +kernel⟩
theorem v_J0_charAt_5068e : gMv yJ0_charAt_5068e := ⟨w_483, w_484⟩
theorem m_X3_skip : gMth yX3_skip cX3_skip 2 1 (some .boolean) := ⟨w_523, w_108, by decide +kernel⟩
theorem v_X3_skip : gMv yX3_skip := ⟨w_522, w_14⟩
theorem m_X3_skipWord : gMth yX3_skipWord cX3_skipWord 3 1 (some .boolean) := ⟨w_471, w_108, by decide +kernel⟩
theorem v_X3_skipWord : gMv yX3_skipWord := ⟨w_470, w_13⟩
theorem m_X3_isDigit : gMth yX3_isDigit cX3_isDigit 1 1 (some .boolean) := ⟨w_534, w_108, by decide +kernel⟩
theorem s_X3_isDigit : Cond.static yX3_isDigit ∈ wG := w_533
theorem m_X3_readNumber : gMth yX3_readNumber cX3_readNumber 2 0 (some .int) := ⟨w_531, w_108, by decide +kernel⟩
theorem v_X3_readNumber : gMv yX3_readNumber := ⟨w_530, w_16⟩
theorem m_J1_canEncode_9a6ad : gMth yJ1_canEncode_9a6ad cJ1_canEncode_9a6ad 1 1 (some .boolean) := ⟨w_570, w_113, by decide +kernel⟩
theorem s_J1_canEncode_9a6ad : Cond.static yJ1_canEncode_9a6ad ∈ wG := w_569
theorem m_J1_indexOfChar_4cfef : gMth yJ1_indexOfChar_4cfef cJ1_indexOfChar_4cfef 6 4 (some .int) := ⟨w_577, w_113, by decide +kernel⟩
theorem s_J1_indexOfChar_4cfef : Cond.static yJ1_indexOfChar_4cfef ∈ wG := w_576
theorem m_J1_indexOf_4cfef : gMth yJ1_indexOf_4cfef cJ1_indexOf_4cfef 4 4 (some .int) := ⟨w_567, w_113, by decide +kernel⟩
theorem s_J1_indexOf_4cfef : Cond.static yJ1_indexOf_4cfef ∈ wG := w_566
theorem m_J0_indexOf_7cf53 : gMth yJ0_indexOf_7cf53 cJ0_indexOf_7cf53 3 2 (some .int) := ⟨w_563, w_112, by decide +kernel⟩
theorem v_J0_indexOf_7cf53 : gMv yJ0_indexOf_7cf53 := ⟨w_561, w_562⟩
theorem m_J0_indexOf_0f7a4 : gMth yJ0_indexOf_0f7a4 cJ0_indexOf_0f7a4 2 1 (some .int) := ⟨w_559, w_112, by decide +kernel⟩
theorem v_J0_indexOf_0f7a4 : gMv yJ0_indexOf_0f7a4 := ⟨w_557, w_558⟩
theorem m_X3_readTest : gMth yX3_readTest cX3_readTest 4 0 (some .boolean) := ⟨w_554, w_108, by decide +kernel⟩
theorem v_X3_readTest : gMv yX3_readTest := ⟨w_553, w_21⟩
theorem m_X3_readFactor : gMth yX3_readFactor cX3_readFactor 3 1 (some .boolean) := ⟨w_546, w_108, by decide +kernel⟩
theorem v_X3_readFactor : gMv yX3_readFactor := ⟨w_545, w_19⟩
theorem m_X3_readChain : gMth yX3_readChain cX3_readChain 3 1 (some .boolean) := ⟨w_542, w_108, by decide +kernel⟩
theorem v_X3_readChain : gMv yX3_readChain := ⟨w_541, w_18⟩
theorem m_X3_readChoice : gMth yX3_readChoice cX3_readChoice 3 1 (some .boolean) := ⟨w_538, w_108, by decide +kernel⟩
theorem v_X3_readChoice : gMv yX3_readChoice := ⟨w_537, w_17⟩
theorem m_X3_readWarmth : gMth yX3_readWarmth cX3_readWarmth 3 1 (some .boolean) := ⟨w_527, w_108, by decide +kernel⟩
theorem v_X3_readWarmth : gMv yX3_readWarmth := ⟨w_526, w_15⟩
theorem m_X3_readSlope : gMth yX3_readSlope cX3_readSlope 2 0 (some .boolean) := ⟨w_617, w_108, by decide +kernel⟩
theorem v_X3_readSlope : gMv yX3_readSlope := ⟨w_616, w_22⟩
theorem m_X3_readClause : gMth yX3_readClause cX3_readClause 1 0 (some .boolean) := ⟨w_462, w_108, by decide +kernel⟩
theorem v_X3_readClause : gMv yX3_readClause := ⟨w_461, w_11⟩
theorem m_X3_readText : gMth yX3_readText cX3_readText 2 0 (some .boolean) := ⟨w_454, w_108, by decide +kernel⟩
theorem v_X3_readText : gMv yX3_readText := ⟨w_453, w_9⟩
theorem m_X7_isWithin : gMth yX7_isWithin cX7_isWithin 2 2 (some .boolean) := ⟨w_366, w_102, by decide +kernel⟩
theorem s_X7_isWithin : Cond.static yX7_isWithin ∈ wG := w_365
theorem m_X4_ownerOf : gMth yX4_ownerOf cX4_ownerOf 4 2 (some .int) := ⟨w_785, w_109, by decide +kernel⟩
theorem s_X4_ownerOf : Cond.static yX4_ownerOf ∈ wG := w_784
theorem m_X4_run : gMth yX4_run cX4_run 5 4 (some .int) := ⟨w_794, w_109, by decide +kernel⟩
theorem v_X4_run : gMv yX4_run := ⟨w_793, w_40⟩
theorem m_X4_play : gMth yX4_play cX4_play 7 4 (some .int) := ⟨w_782, w_109, by decide +kernel⟩
theorem v_X4_play : gMv yX4_play := ⟨w_781, w_39⟩
theorem m_X5_become : gMth yX5_become cX5_become 4 2 (some .int) := ⟨w_820, w_110, by decide +kernel⟩
theorem v_X5_become : gMv yX5_become := ⟨w_819, w_41⟩
theorem m_X5_countFrom : gMth yX5_countFrom cX5_countFrom 2 1 (some .int) := ⟨w_757, w_110, by decide +kernel⟩
theorem v_X5_countFrom : gMv yX5_countFrom := ⟨w_756, w_36⟩
theorem m_X5_lowestBits : gMth yX5_lowestBits cX5_lowestBits 3 1 (some .long) := ⟨w_830, w_110, by decide +kernel⟩
theorem v_X5_lowestBits : gMv yX5_lowestBits := ⟨w_829, w_42⟩
theorem m_X6_becomeLike : gMth yX6_becomeLike cX6_becomeLike 3 1 (none) := ⟨w_666, w_103, by decide +kernel⟩
theorem v_X6_becomeLike : gMv yX6_becomeLike := ⟨w_665, w_30⟩
theorem m_X6_board : gMth yX6_board cX6_board 6 4 (some .int) := ⟨w_373, w_103, by decide +kernel⟩
theorem v_X6_board : gMv yX6_board := ⟨w_372, w_0⟩
theorem m_X6_knowsOf : gMth yX6_knowsOf cX6_knowsOf 3 2 (some .boolean) := ⟨w_392, w_103, by decide +kernel⟩
theorem v_X6_knowsOf : gMv yX6_knowsOf := ⟨w_391, w_3⟩
theorem m_X6_sum : gMth yX6_sum cX6_sum 3 2 (some .int) := ⟨w_400, w_103, by decide +kernel⟩
theorem v_X6_sum : gMv yX6_sum := ⟨w_399, w_5⟩
theorem m_X6_twiceIfFresh : gMth yX6_twiceIfFresh cX6_twiceIfFresh 3 2 (some .int) := ⟨w_411, w_103, by decide +kernel⟩
theorem v_X6_twiceIfFresh : gMv yX6_twiceIfFresh := ⟨w_410, w_7⟩
theorem m_X6_glow : gMth yX6_glow cX6_glow 4 2 (some .int) := ⟨w_396, w_103, by decide +kernel⟩
theorem v_X6_glow : gMv yX6_glow := ⟨w_395, w_4⟩
theorem m_X6_favourite : gMth yX6_favourite cX6_favourite 6 1 (some .int) := ⟨w_388, w_103, by decide +kernel⟩
theorem v_X6_favourite : gMv yX6_favourite := ⟨w_387, w_2⟩
theorem m_X6_ash : gMth yX6_ash cX6_ash 4 0 (some .int) := ⟨w_631, w_103, by decide +kernel⟩
theorem v_X6_ash : gMv yX6_ash := ⟨w_630, w_24⟩
theorem m_X6_hearersOf : gMth yX6_hearersOf cX6_hearersOf 4 1 (some .int) := ⟨w_639, w_103, by decide +kernel⟩
theorem v_X6_hearersOf : gMv yX6_hearersOf := ⟨w_638, w_26⟩
theorem m_X6_spread : gMth yX6_spread cX6_spread 4 1 (some .int) := ⟨w_635, w_103, by decide +kernel⟩
theorem v_X6_spread : gMv yX6_spread := ⟨w_634, w_25⟩
theorem m_X6_tell : gMth yX6_tell cX6_tell 5 2 (none) := ⟨w_652, w_103, by decide +kernel⟩
theorem v_X6_tell : gMv yX6_tell := ⟨w_651, w_28⟩
theorem m_X6_roll : gMth yX6_roll cX6_roll 3 0 (none) := ⟨w_657, w_103, by decide +kernel⟩
theorem v_X6_roll : gMv yX6_roll := ⟨w_656, w_29⟩
theorem m_X6_ride : gMth yX6_ride cX6_ride 5 1 (none) := ⟨w_647, w_103, by decide +kernel⟩
theorem v_X6_ride : gMv yX6_ride := ⟨w_646, w_27⟩
theorem m_X7_isUpTo : gMth yX7_isUpTo cX7_isUpTo 2 2 (some .boolean) := ⟨w_369, w_102, by decide +kernel⟩
theorem s_X7_isUpTo : Cond.static yX7_isUpTo ∈ wG := w_368
theorem m_X7_one : gMth yX7_one cX7_one 5 4 (some .int) := ⟨w_363, w_102, by decide +kernel⟩
theorem v_X7_one : gMv yX7_one := ⟨w_361, w_362⟩
theorem m_X7_isPerson : gMth yX7_isPerson cX7_isPerson 2 1 (some .boolean) := ⟨w_381, w_102, by decide +kernel⟩
theorem v_X7_isPerson : gMv yX7_isPerson := ⟨w_380, w_1⟩
theorem m_X7_asNumber : gMth yX7_asNumber cX7_asNumber 1 1 (some .int) := ⟨w_384, w_102, by decide +kernel⟩
theorem s_X7_asNumber : Cond.static yX7_asNumber ∈ wG := w_383
theorem m_X7_tenLess : gMth yX7_tenLess cX7_tenLess 2 2 (some .int) := ⟨w_414, w_102, by decide +kernel⟩
theorem s_X7_tenLess : Cond.static yX7_tenLess ∈ wG := w_413
theorem m_X7_isTale : gMth yX7_isTale cX7_isTale 1 1 (some .boolean) := ⟨w_417, w_102, by decide +kernel⟩
theorem s_X7_isTale : Cond.static yX7_isTale ∈ wG := w_416
theorem m_X7_of : gMth yX7_of cX7_of 4 2 (some .int) := ⟨w_377, w_102, by decide +kernel⟩
theorem v_X7_of : gMv yX7_of := ⟨w_375, w_376⟩
theorem m_X7_seat : gMth yX7_seat cX7_seat 4 2 (some .int) := ⟨w_422, w_102, by decide +kernel⟩
theorem v_X7_seat : gMv yX7_seat := ⟨w_420, w_421⟩
theorem m_X7_know : gMth yX7_know cX7_know 4 2 (some .int) := ⟨w_426, w_102, by decide +kernel⟩
theorem v_X7_know : gMv yX7_know := ⟨w_424, w_425⟩
theorem m_X7_leave : gMth yX7_leave cX7_leave 4 2 (some .int) := ⟨w_430, w_102, by decide +kernel⟩
theorem v_X7_leave : gMv yX7_leave := ⟨w_428, w_429⟩
theorem m_X7_set : gMth yX7_set cX7_set 6 3 (some .int) := ⟨w_434, w_102, by decide +kernel⟩
theorem v_X7_set : gMv yX7_set := ⟨w_432, w_433⟩
theorem m_X7_row : gMth yX7_row cX7_row 6 3 (some .int) := ⟨w_438, w_102, by decide +kernel⟩
theorem v_X7_row : gMv yX7_row := ⟨w_436, w_437⟩
theorem m_X7_feed : gMth yX7_feed cX7_feed 2 1 (some .int) := ⟨w_442, w_102, by decide +kernel⟩
theorem v_X7_feed : gMv yX7_feed := ⟨w_440, w_441⟩
theorem m_X7_branch : gMth yX7_branch cX7_branch 2 0 (some .int) := ⟨w_450, w_102, by decide +kernel⟩
theorem v_X7_branch : gMv yX7_branch := ⟨w_448, w_449⟩
theorem m_X7_told : gMth yX7_told cX7_told 2 1 (some .int) := ⟨w_627, w_102, by decide +kernel⟩
theorem v_X7_told : gMv yX7_told := ⟨w_625, w_626⟩
theorem m_X7_pass : gMth yX7_pass cX7_pass 2 1 (some .int) := ⟨w_643, w_102, by decide +kernel⟩
theorem v_X7_pass : gMv yX7_pass := ⟨w_641, w_642⟩
theorem m_X7_on : gMth yX7_on cX7_on 5 2 (some .int) := ⟨w_662, w_102, by decide +kernel⟩
theorem v_X7_on : gMv yX7_on := ⟨w_660, w_661⟩
theorem m_X7_gets : gMth yX7_gets cX7_gets 3 1 (some .int) := ⟨w_673, w_102, by decide +kernel⟩
theorem v_X7_gets : gMv yX7_gets := ⟨w_671, w_672⟩
theorem m_X7_hears : gMth yX7_hears cX7_hears 4 2 (some .int) := ⟨w_677, w_102, by decide +kernel⟩
theorem v_X7_hears : gMv yX7_hears := ⟨w_675, w_676⟩
theorem m_X7_best : gMth yX7_best cX7_best 7 2 (some .int) := ⟨w_682, w_102, by decide +kernel⟩
theorem v_X7_best : gMv yX7_best := ⟨w_680, w_681⟩
theorem m_X7_swap : gMth yX7_swap cX7_swap 6 1 (some .int) := ⟨w_686, w_102, by decide +kernel⟩
theorem v_X7_swap : gMv yX7_swap := ⟨w_684, w_685⟩
theorem m_X7_see : gMth yX7_see cX7_see 4 3 (some .int) := ⟨w_690, w_102, by decide +kernel⟩
theorem v_X7_see : gMv yX7_see := ⟨w_688, w_689⟩
theorem m_X7_isAllSeenSo : gMth yX7_isAllSeenSo cX7_isAllSeenSo 7 2 (some .boolean) := ⟨w_706, w_102, by decide +kernel⟩
theorem v_X7_isAllSeenSo : gMv yX7_isAllSeenSo := ⟨w_705, w_33⟩
theorem m_X7_can : gMth yX7_can cX7_can 9 3 (some .int) := ⟨w_702, w_102, by decide +kernel⟩
theorem v_X7_can : gMv yX7_can := ⟨w_700, w_701⟩
theorem m_X7_ofFraction : gMth yX7_ofFraction cX7_ofFraction 5 3 (some .long) := ⟨w_715, w_102, by decide +kernel⟩
theorem s_X7_ofFraction : Cond.static yX7_ofFraction ∈ wG := w_714
theorem m_X7_odds : gMth yX7_odds cX7_odds 7 3 (some .long) := ⟨w_711, w_102, by decide +kernel⟩
theorem v_X7_odds : gMv yX7_odds := ⟨w_709, w_710⟩
theorem m_J6_bitCount_0f7a4 : gMth yJ6_bitCount_0f7a4 cJ6_bitCount_0f7a4 1 1 (some .int) := ⟨w_722, w_118, by decide +kernel⟩
theorem s_J6_bitCount_0f7a4 : Cond.static yJ6_bitCount_0f7a4 ∈ wG := w_721
theorem m_X7_mean : gMth yX7_mean cX7_mean 5 2 (some .long) := ⟨w_719, w_102, by decide +kernel⟩
theorem v_X7_mean : gMv yX7_mean := ⟨w_717, w_718⟩
theorem m_X7_plan : gMth yX7_plan cX7_plan 5 2 (some .int) := ⟨w_729, w_102, by decide +kernel⟩
theorem v_X7_plan : gMv yX7_plan := ⟨w_727, w_728⟩
theorem m_X7_doPlanned : gMth yX7_doPlanned cX7_doPlanned 4 3 (none) := ⟨w_737, w_102, by decide +kernel⟩
theorem v_X7_doPlanned : gMv yX7_doPlanned := ⟨w_736, w_34⟩
theorem m_X7_ends : gMth yX7_ends cX7_ends 3 1 (some .int) := ⟨w_733, w_102, by decide +kernel⟩
theorem v_X7_ends : gMv yX7_ends := ⟨w_731, w_732⟩
theorem m_X7_book : gMth yX7_book cX7_book 3 2 (some .int) := ⟨w_741, w_102, by decide +kernel⟩
theorem v_X7_book : gMv yX7_book := ⟨w_739, w_740⟩
theorem m_X7_looked : gMth yX7_looked cX7_looked 3 0 (some .int) := ⟨w_745, w_102, by decide +kernel⟩
theorem v_X7_looked : gMv yX7_looked := ⟨w_743, w_744⟩
theorem m_X7_tapeAt : gMth yX7_tapeAt cX7_tapeAt 2 1 (some (.object "GossipTrain$Tape")) := ⟨w_753, w_102, by decide +kernel⟩
theorem v_X7_tapeAt : gMv yX7_tapeAt := ⟨w_752, w_35⟩
theorem m_X7_judge : gMth yX7_judge cX7_judge 6 2 (some .int) := ⟨w_749, w_102, by decide +kernel⟩
theorem v_X7_judge : gMv yX7_judge := ⟨w_747, w_748⟩
theorem m_X7_image : gMth yX7_image cX7_image 1 0 (some .int) := ⟨w_761, w_102, by decide +kernel⟩
theorem v_X7_image : gMv yX7_image := ⟨w_759, w_760⟩
theorem m_X7_undo : gMth yX7_undo cX7_undo 1 0 (some .int) := ⟨w_774, w_102, by decide +kernel⟩
theorem v_X7_undo : gMv yX7_undo := ⟨w_772, w_773⟩
theorem m_X7_act : gMth yX7_act cX7_act 4 3 (some .int) := ⟨w_778, w_102, by decide +kernel⟩
theorem v_X7_act : gMv yX7_act := ⟨w_776, w_777⟩
theorem m_X7_trace : gMth yX7_trace cX7_trace 2 1 (some .int) := ⟨w_799, w_102, by decide +kernel⟩
theorem v_X7_trace : gMv yX7_trace := ⟨w_797, w_798⟩
theorem m_X7_isKindUnder : gMth yX7_isKindUnder cX7_isKindUnder 4 2 (some .boolean) := ⟨w_807, w_102, by decide +kernel⟩
theorem s_X7_isKindUnder : Cond.static yX7_isKindUnder ∈ wG := w_806
theorem m_X7_taken : gMth yX7_taken cX7_taken 4 2 (some .int) := ⟨w_804, w_102, by decide +kernel⟩
theorem v_X7_taken : gMv yX7_taken := ⟨w_802, w_803⟩
theorem m_X7_count : gMth yX7_count cX7_count 2 1 (some .int) := ⟨w_812, w_102, by decide +kernel⟩
theorem v_X7_count : gMv yX7_count := ⟨w_810, w_811⟩
theorem m_X7_tape : gMth yX7_tape cX7_tape 5 3 (some .int) := ⟨w_816, w_102, by decide +kernel⟩
theorem v_X7_tape : gMv yX7_tape := ⟨w_814, w_815⟩
theorem m_X7_item : gMth yX7_item cX7_item 6 3 (some .int) := ⟨w_826, w_102, by decide +kernel⟩
theorem v_X7_item : gMv yX7_item := ⟨w_824, w_825⟩
theorem m_X7_read : gMth yX7_read cX7_read 4 2 (some .long) := ⟨w_834, w_102, by decide +kernel⟩
theorem v_X7_read : gMv yX7_read := ⟨w_832, w_833⟩
theorem m_X7_shift : gMth yX7_shift cX7_shift 8 5 (some .int) := ⟨w_838, w_102, by decide +kernel⟩
theorem v_X7_shift : gMv yX7_shift := ⟨w_836, w_837⟩
theorem m_X8_in : gMth yX8_in cX8_in 4 3 (some .boolean) := ⟨w_1085, w_111, by decide +kernel⟩
theorem v_X8_in : gMv yX8_in := ⟨w_1084, w_43⟩
theorem m_X8_has : gMth yX8_has cX8_has 3 2 (some .boolean) := ⟨w_1113, w_111, by decide +kernel⟩
theorem v_X8_has : gMv yX8_has := ⟨w_1112, w_47⟩
theorem m_X8_least : gMth yX8_least cX8_least 3 2 (some .int) := ⟨w_1253, w_111, by decide +kernel⟩
theorem v_X8_least : gMv yX8_least := ⟨w_1252, w_76⟩
theorem m_X8_bits : gMth yX8_bits cX8_bits 4 1 (some .int) := ⟨w_1343, w_111, by decide +kernel⟩
theorem v_X8_bits : gMv yX8_bits := ⟨w_1342, w_88⟩
theorem m_X8_isOne : gMth yX8_isOne cX8_isOne 2 1 (some .boolean) := ⟨w_1101, w_111, by decide +kernel⟩
theorem v_X8_isOne : gMv yX8_isOne := ⟨w_1100, w_46⟩
theorem m_X8_isTale : gMth yX8_isTale cX8_isTale 2 1 (some .boolean) := ⟨w_1125, w_111, by decide +kernel⟩
theorem v_X8_isTale : gMv yX8_isTale := ⟨w_1124, w_49⟩
theorem m_X8_isTales : gMth yX8_isTales cX8_isTales 2 1 (some .boolean) := ⟨w_1093, w_111, by decide +kernel⟩
theorem v_X8_isTales : gMv yX8_isTales := ⟨w_1092, w_45⟩
theorem m_X8_isCarriage : gMth yX8_isCarriage cX8_isCarriage 2 1 (some .boolean) := ⟨w_1089, w_111, by decide +kernel⟩
theorem v_X8_isCarriage : gMv yX8_isCarriage := ⟨w_1088, w_44⟩
theorem m_X8_isMinutes : gMth yX8_isMinutes cX8_isMinutes 2 1 (some .boolean) := ⟨w_1237, w_111, by decide +kernel⟩
theorem v_X8_isMinutes : gMv yX8_isMinutes := ⟨w_1236, w_72⟩
theorem m_X8_one : gMth yX8_one cX8_one 6 4 (some .int) := ⟨w_1081, w_111, by decide +kernel⟩
theorem v_X8_one : gMv yX8_one := ⟨w_1079, w_1080⟩
theorem m_X8_seat : gMth yX8_seat cX8_seat 4 2 (some .int) := ⟨w_1097, w_111, by decide +kernel⟩
theorem v_X8_seat : gMv yX8_seat := ⟨w_1095, w_1096⟩
theorem m_X8_know : gMth yX8_know cX8_know 4 2 (some .int) := ⟨w_1105, w_111, by decide +kernel⟩
theorem v_X8_know : gMv yX8_know := ⟨w_1103, w_1104⟩
theorem m_X8_goes : gMth yX8_goes cX8_goes 3 2 (none) := ⟨w_1117, w_111, by decide +kernel⟩
theorem v_X8_goes : gMv yX8_goes := ⟨w_1116, w_48⟩
theorem m_X8_leave : gMth yX8_leave cX8_leave 4 2 (some .int) := ⟨w_1109, w_111, by decide +kernel⟩
theorem v_X8_leave : gMv yX8_leave := ⟨w_1107, w_1108⟩
theorem m_X8_set : gMth yX8_set cX8_set 5 3 (some .int) := ⟨w_1121, w_111, by decide +kernel⟩
theorem v_X8_set : gMv yX8_set := ⟨w_1119, w_1120⟩
theorem m_X8_row : gMth yX8_row cX8_row 5 3 (some .int) := ⟨w_1129, w_111, by decide +kernel⟩
theorem v_X8_row : gMv yX8_row := ⟨w_1127, w_1128⟩
theorem m_X8_feed : gMth yX8_feed cX8_feed 2 1 (some .int) := ⟨w_1133, w_111, by decide +kernel⟩
theorem v_X8_feed : gMv yX8_feed := ⟨w_1131, w_1132⟩
theorem m_X8_next : gMth yX8_next cX8_next 1 0 (some .int) := ⟨w_1153, w_111, by decide +kernel⟩
theorem v_X8_next : gMv yX8_next := ⟨w_1152, w_53⟩
theorem m_X8_second : gMth yX8_second cX8_second 1 0 (some .int) := ⟨w_1165, w_111, by decide +kernel⟩
theorem v_X8_second : gMv yX8_second := ⟨w_1164, w_56⟩
theorem m_X8_takes : gMth yX8_takes cX8_takes 2 1 (some .boolean) := ⟨w_1161, w_111, by decide +kernel⟩
theorem v_X8_takes : gMv yX8_takes := ⟨w_1160, w_55⟩
theorem m_X8_takesWord : gMth yX8_takesWord cX8_takesWord 4 2 (some .boolean) := ⟨w_1157, w_111, by decide +kernel⟩
theorem v_X8_takesWord : gMv yX8_takesWord := ⟨w_1156, w_54⟩
theorem m_X8_isDigit : gMth yX8_isDigit cX8_isDigit 1 0 (some .boolean) := ⟨w_1173, w_111, by decide +kernel⟩
theorem v_X8_isDigit : gMv yX8_isDigit := ⟨w_1172, w_58⟩
theorem m_X8_takesNumber : gMth yX8_takesNumber cX8_takesNumber 2 0 (some .boolean) := ⟨w_1169, w_111, by decide +kernel⟩
theorem v_X8_takesNumber : gMv yX8_takesNumber := ⟨w_1168, w_57⟩
theorem m_X8_emits : gMth yX8_emits cX8_emits 2 1 (none) := ⟨w_1189, w_111, by decide +kernel⟩
theorem v_X8_emits : gMv yX8_emits := ⟨w_1188, w_62⟩
theorem m_X8_whole : gMth yX8_whole cX8_whole 1 0 (none) := ⟨w_1193, w_111, by decide +kernel⟩
theorem v_X8_whole : gMv yX8_whole := ⟨w_1192, w_63⟩
theorem m_X8_settle : gMth yX8_settle cX8_settle 2 1 (none) := ⟨w_1197, w_111, by decide +kernel⟩
theorem v_X8_settle : gMv yX8_settle := ⟨w_1196, w_64⟩
theorem m_X8_place : gMth yX8_place cX8_place 2 1 (some .int) := ⟨w_1185, w_111, by decide +kernel⟩
theorem v_X8_place : gMv yX8_place := ⟨w_1184, w_61⟩
theorem m_X8_takesTest : gMth yX8_takesTest cX8_takesTest 3 0 (some .boolean) := ⟨w_1181, w_111, by decide +kernel⟩
theorem v_X8_takesTest : gMv yX8_takesTest := ⟨w_1180, w_60⟩
theorem m_X8_takesE : gMth yX8_takesE cX8_takesE 4 1 (some .boolean) := ⟨w_1177, w_111, by decide +kernel⟩
theorem v_X8_takesE : gMv yX8_takesE := ⟨w_1176, w_59⟩
theorem m_X8_takesHead : gMth yX8_takesHead cX8_takesHead 2 1 (some .boolean) := ⟨w_1149, w_111, by decide +kernel⟩
theorem v_X8_takesHead : gMv yX8_takesHead := ⟨w_1148, w_52⟩
theorem m_X8_takesClause : gMth yX8_takesClause cX8_takesClause 2 1 (some .boolean) := ⟨w_1145, w_111, by decide +kernel⟩
theorem v_X8_takesClause : gMv yX8_takesClause := ⟨w_1144, w_51⟩
theorem m_X8_goesText : gMth yX8_goesText cX8_goesText 3 1 (some .boolean) := ⟨w_1141, w_111, by decide +kernel⟩
theorem v_X8_goesText : gMv yX8_goesText := ⟨w_1140, w_50⟩
theorem m_X8_branch : gMth yX8_branch cX8_branch 2 0 (some .int) := ⟨w_1137, w_111, by decide +kernel⟩
theorem v_X8_branch : gMv yX8_branch := ⟨w_1135, w_1136⟩
theorem m_X8_begin : gMth yX8_begin cX8_begin 1 0 (some .int) := ⟨w_1213, w_111, by decide +kernel⟩
theorem v_X8_begin : gMv yX8_begin := ⟨w_1212, w_67⟩
theorem m_X8_behind : gMth yX8_behind cX8_behind 1 0 (some .int) := ⟨w_1217, w_111, by decide +kernel⟩
theorem v_X8_behind : gMv yX8_behind := ⟨w_1216, w_68⟩
theorem m_X8_slope : gMth yX8_slope cX8_slope 3 0 (some .int) := ⟨w_1257, w_111, by decide +kernel⟩
theorem v_X8_slope : gMv yX8_slope := ⟨w_1256, w_77⟩
theorem m_X8_factOf : gMth yX8_factOf cX8_factOf 4 3 (some .int) := ⟨w_1225, w_111, by decide +kernel⟩
theorem v_X8_factOf : gMv yX8_factOf := ⟨w_1224, w_70⟩
theorem m_X8_holds : gMth yX8_holds cX8_holds 9 3 (some .boolean) := ⟨w_1221, w_111, by decide +kernel⟩
theorem v_X8_holds : gMv yX8_holds := ⟨w_1220, w_69⟩
theorem m_X8_sum : gMth yX8_sum cX8_sum 5 2 (some .int) := ⟨w_1209, w_111, by decide +kernel⟩
theorem v_X8_sum : gMv yX8_sum := ⟨w_1208, w_66⟩
theorem m_X8_glow : gMth yX8_glow cX8_glow 5 2 (some .int) := ⟨w_1205, w_111, by decide +kernel⟩
theorem v_X8_glow : gMv yX8_glow := ⟨w_1204, w_65⟩
theorem m_X8_tells : gMth yX8_tells cX8_tells 6 1 (some .int) := ⟨w_1229, w_111, by decide +kernel⟩
theorem v_X8_tells : gMv yX8_tells := ⟨w_1228, w_71⟩
theorem m_X8_of : gMth yX8_of cX8_of 3 2 (some .int) := ⟨w_1201, w_111, by decide +kernel⟩
theorem v_X8_of : gMv yX8_of := ⟨w_1199, w_1200⟩
theorem m_X8_tell : gMth yX8_tell cX8_tell 4 2 (none) := ⟨w_1249, w_111, by decide +kernel⟩
theorem v_X8_tell : gMv yX8_tell := ⟨w_1248, w_75⟩
theorem m_X8_goMinute : gMth yX8_goMinute cX8_goMinute 3 0 (none) := ⟨w_1245, w_111, by decide +kernel⟩
theorem v_X8_goMinute : gMv yX8_goMinute := ⟨w_1244, w_74⟩
theorem m_X8_goMinutes : gMth yX8_goMinutes cX8_goMinutes 3 1 (none) := ⟨w_1241, w_111, by decide +kernel⟩
theorem v_X8_goMinutes : gMv yX8_goMinutes := ⟨w_1240, w_73⟩
theorem m_X8_pass : gMth yX8_pass cX8_pass 2 1 (some .int) := ⟨w_1233, w_111, by decide +kernel⟩
theorem v_X8_pass : gMv yX8_pass := ⟨w_1231, w_1232⟩
theorem m_X8_save : gMth yX8_save cX8_save 2 0 (none) := ⟨w_1277, w_111, by decide +kernel⟩
theorem v_X8_save : gMv yX8_save := ⟨w_1276, w_80⟩
theorem m_X8_putBack : gMth yX8_putBack cX8_putBack 2 0 (none) := ⟨w_1281, w_111, by decide +kernel⟩
theorem v_X8_putBack : gMv yX8_putBack := ⟨w_1280, w_81⟩
theorem m_X8_ash : gMth yX8_ash cX8_ash 4 0 (some .int) := ⟨w_1269, w_111, by decide +kernel⟩
theorem v_X8_ash : gMv yX8_ash := ⟨w_1268, w_79⟩
theorem m_X8_spread : gMth yX8_spread cX8_spread 5 1 (some .int) := ⟨w_1265, w_111, by decide +kernel⟩
theorem v_X8_spread : gMv yX8_spread := ⟨w_1264, w_78⟩
theorem m_X8_told : gMth yX8_told cX8_told 2 1 (some .int) := ⟨w_1261, w_111, by decide +kernel⟩
theorem v_X8_told : gMv yX8_told := ⟨w_1259, w_1260⟩
theorem m_X8_on : gMth yX8_on cX8_on 4 2 (some .int) := ⟨w_1273, w_111, by decide +kernel⟩
theorem v_X8_on : gMv yX8_on := ⟨w_1271, w_1272⟩
theorem m_X8_gets : gMth yX8_gets cX8_gets 3 1 (some .int) := ⟨w_1285, w_111, by decide +kernel⟩
theorem v_X8_gets : gMv yX8_gets := ⟨w_1283, w_1284⟩
theorem m_X8_hears : gMth yX8_hears cX8_hears 4 2 (some .int) := ⟨w_1289, w_111, by decide +kernel⟩
theorem v_X8_hears : gMv yX8_hears := ⟨w_1287, w_1288⟩
theorem m_X8_best : gMth yX8_best cX8_best 9 2 (some .int) := ⟨w_1293, w_111, by decide +kernel⟩
theorem v_X8_best : gMv yX8_best := ⟨w_1291, w_1292⟩
theorem m_X8_spotSwapped : gMth yX8_spotSwapped cX8_spotSwapped 6 3 (some .int) := ⟨w_1302, w_111, by decide +kernel⟩
theorem v_X8_spotSwapped : gMv yX8_spotSwapped := ⟨w_1301, w_82⟩
theorem m_X8_swap : gMth yX8_swap cX8_swap 7 1 (some .int) := ⟨w_1297, w_111, by decide +kernel⟩
theorem v_X8_swap : gMv yX8_swap := ⟨w_1295, w_1296⟩
theorem m_X8_see : gMth yX8_see cX8_see 4 3 (some .int) := ⟨w_1306, w_111, by decide +kernel⟩
theorem v_X8_see : gMv yX8_see := ⟨w_1304, w_1305⟩
theorem m_X8_isSeen : gMth yX8_isSeen cX8_isSeen 5 2 (some .boolean) := ⟨w_1318, w_111, by decide +kernel⟩
theorem v_X8_isSeen : gMv yX8_isSeen := ⟨w_1317, w_84⟩
theorem m_X8_canOne : gMth yX8_canOne cX8_canOne 7 2 (some .int) := ⟨w_1314, w_111, by decide +kernel⟩
theorem v_X8_canOne : gMv yX8_canOne := ⟨w_1313, w_83⟩
theorem m_X8_stale : gMth yX8_stale cX8_stale 7 2 (some .int) := ⟨w_1322, w_111, by decide +kernel⟩
theorem v_X8_stale : gMv yX8_stale := ⟨w_1321, w_85⟩
theorem m_X8_can : gMth yX8_can cX8_can 4 3 (some .int) := ⟨w_1310, w_111, by decide +kernel⟩
theorem v_X8_can : gMv yX8_can := ⟨w_1308, w_1309⟩
theorem m_X8_divisor : gMth yX8_divisor cX8_divisor 6 2 (some .int) := ⟨w_1335, w_111, by decide +kernel⟩
theorem v_X8_divisor : gMv yX8_divisor := ⟨w_1334, w_87⟩
theorem m_X8_lowest : gMth yX8_lowest cX8_lowest 5 3 (some .long) := ⟨w_1331, w_111, by decide +kernel⟩
theorem v_X8_lowest : gMv yX8_lowest := ⟨w_1330, w_86⟩
theorem m_X8_odds : gMth yX8_odds cX8_odds 7 3 (some .long) := ⟨w_1326, w_111, by decide +kernel⟩
theorem v_X8_odds : gMv yX8_odds := ⟨w_1324, w_1325⟩
theorem m_X8_mean : gMth yX8_mean cX8_mean 5 2 (some .long) := ⟨w_1339, w_111, by decide +kernel⟩
theorem v_X8_mean : gMv yX8_mean := ⟨w_1337, w_1338⟩
theorem m_X8_isSeat : gMth yX8_isSeat cX8_isSeat 2 1 (some .boolean) := ⟨w_1351, w_111, by decide +kernel⟩
theorem v_X8_isSeat : gMv yX8_isSeat := ⟨w_1350, w_89⟩
theorem m_X8_plan : gMth yX8_plan cX8_plan 3 2 (some .int) := ⟨w_1347, w_111, by decide +kernel⟩
theorem v_X8_plan : gMv yX8_plan := ⟨w_1345, w_1346⟩
theorem m_X8_goPlan : gMth yX8_goPlan cX8_goPlan 3 2 (none) := ⟨w_1359, w_111, by decide +kernel⟩
theorem v_X8_goPlan : gMv yX8_goPlan := ⟨w_1358, w_90⟩
theorem m_X8_ends : gMth yX8_ends cX8_ends 3 1 (some .int) := ⟨w_1355, w_111, by decide +kernel⟩
theorem v_X8_ends : gMv yX8_ends := ⟨w_1353, w_1354⟩
theorem m_X8_book : gMth yX8_book cX8_book 3 2 (some .int) := ⟨w_1363, w_111, by decide +kernel⟩
theorem v_X8_book : gMv yX8_book := ⟨w_1361, w_1362⟩
theorem m_X8_looked : gMth yX8_looked cX8_looked 2 0 (some .int) := ⟨w_1367, w_111, by decide +kernel⟩
theorem v_X8_looked : gMv yX8_looked := ⟨w_1365, w_1366⟩
theorem m_X8_isTape : gMth yX8_isTape cX8_isTape 2 1 (some .boolean) := ⟨w_1375, w_111, by decide +kernel⟩
theorem v_X8_isTape : gMv yX8_isTape := ⟨w_1374, w_91⟩
theorem m_X8_judge : gMth yX8_judge cX8_judge 4 2 (some .int) := ⟨w_1371, w_111, by decide +kernel⟩
theorem v_X8_judge : gMv yX8_judge := ⟨w_1369, w_1370⟩
theorem m_X8_image : gMth yX8_image cX8_image 2 0 (some .int) := ⟨w_1379, w_111, by decide +kernel⟩
theorem v_X8_image : gMv yX8_image := ⟨w_1377, w_1378⟩
theorem m_X8_undo : gMth yX8_undo cX8_undo 2 0 (some .int) := ⟨w_1383, w_111, by decide +kernel⟩
theorem v_X8_undo : gMv yX8_undo := ⟨w_1381, w_1382⟩
theorem m_X8_body : gMth yX8_body cX8_body 2 1 (none) := ⟨w_1395, w_111, by decide +kernel⟩
theorem v_X8_body : gMv yX8_body := ⟨w_1394, w_93⟩
theorem m_X8_oneHums : gMth yX8_oneHums cX8_oneHums 3 2 (some .int) := ⟨w_1399, w_111, by decide +kernel⟩
theorem v_X8_oneHums : gMv yX8_oneHums := ⟨w_1398, w_94⟩
theorem m_X8_humsAct : gMth yX8_humsAct cX8_humsAct 3 2 (some .int) := ⟨w_1391, w_111, by decide +kernel⟩
theorem v_X8_humsAct : gMv yX8_humsAct := ⟨w_1390, w_92⟩
theorem m_X8_oneLeans : gMth yX8_oneLeans cX8_oneLeans 3 2 (some .int) := ⟨w_1411, w_111, by decide +kernel⟩
theorem v_X8_oneLeans : gMv yX8_oneLeans := ⟨w_1410, w_97⟩
theorem m_X8_girlLeans : gMth yX8_girlLeans cX8_girlLeans 3 2 (some .int) := ⟨w_1407, w_111, by decide +kernel⟩
theorem v_X8_girlLeans : gMv yX8_girlLeans := ⟨w_1406, w_96⟩
theorem m_X8_leansAct : gMth yX8_leansAct cX8_leansAct 4 2 (some .int) := ⟨w_1403, w_111, by decide +kernel⟩
theorem v_X8_leansAct : gMv yX8_leansAct := ⟨w_1402, w_95⟩
theorem m_X8_oneTells : gMth yX8_oneTells cX8_oneTells 3 2 (some .int) := ⟨w_1419, w_111, by decide +kernel⟩
theorem v_X8_oneTells : gMv yX8_oneTells := ⟨w_1418, w_99⟩
theorem m_X8_tellsAct : gMth yX8_tellsAct cX8_tellsAct 4 2 (some .int) := ⟨w_1415, w_111, by decide +kernel⟩
theorem v_X8_tellsAct : gMv yX8_tellsAct := ⟨w_1414, w_98⟩
theorem m_X8_act : gMth yX8_act cX8_act 4 3 (some .int) := ⟨w_1387, w_111, by decide +kernel⟩
theorem v_X8_act : gMv yX8_act := ⟨w_1385, w_1386⟩
theorem m_X8_trace : gMth yX8_trace cX8_trace 2 1 (some .int) := ⟨w_1423, w_111, by decide +kernel⟩
theorem v_X8_trace : gMv yX8_trace := ⟨w_1421, w_1422⟩
theorem m_X8_taken : gMth yX8_taken cX8_taken 4 2 (some .int) := ⟨w_1427, w_111, by decide +kernel⟩
theorem v_X8_taken : gMv yX8_taken := ⟨w_1425, w_1426⟩
theorem m_X8_count : gMth yX8_count cX8_count 2 1 (some .int) := ⟨w_1431, w_111, by decide +kernel⟩
theorem v_X8_count : gMv yX8_count := ⟨w_1429, w_1430⟩
theorem m_X8_tape : gMth yX8_tape cX8_tape 5 3 (some .int) := ⟨w_1435, w_111, by decide +kernel⟩
theorem v_X8_tape : gMv yX8_tape := ⟨w_1433, w_1434⟩
theorem m_X8_narrow : gMth yX8_narrow cX8_narrow 4 2 (some .long) := ⟨w_1443, w_111, by decide +kernel⟩
theorem v_X8_narrow : gMv yX8_narrow := ⟨w_1442, w_100⟩
theorem m_X8_item : gMth yX8_item cX8_item 5 3 (some .int) := ⟨w_1439, w_111, by decide +kernel⟩
theorem v_X8_item : gMv yX8_item := ⟨w_1437, w_1438⟩
theorem m_X8_read : gMth yX8_read cX8_read 3 2 (some .long) := ⟨w_1447, w_111, by decide +kernel⟩
theorem v_X8_read : gMv yX8_read := ⟨w_1445, w_1446⟩
theorem m_X8_shift : gMth yX8_shift cX8_shift 7 5 (some .int) := ⟨w_1451, w_111, by decide +kernel⟩
theorem v_X8_shift : gMv yX8_shift := ⟨w_1449, w_1450⟩
theorem m_X0_init : gMth yX0_init cX0_init 1 0 (none) := ⟨w_137, w_104, by decide +kernel⟩
theorem m_X2_init : gMth yX2_init cX2_init 2 1 (none) := ⟨w_220, w_106, by decide +kernel⟩
theorem m_X1_init : gMth yX1_init cX1_init 1 0 (none) := ⟨w_214, w_105, by decide +kernel⟩
theorem m_X3_init : gMth yX3_init cX3_init 1 0 (none) := ⟨w_262, w_108, by decide +kernel⟩
theorem m_X4_init : gMth yX4_init cX4_init 1 0 (none) := ⟨w_285, w_109, by decide +kernel⟩
theorem m_X5_init : gMth yX5_init cX5_init 1 0 (none) := ⟨w_313, w_110, by decide +kernel⟩
theorem m_X6_init : gMth yX6_init cX6_init 2 0 (none) := ⟨w_131, w_103, by decide +kernel⟩
theorem m_X7_init : gMth yX7_init cX7_init 2 0 (none) := ⟨w_123, w_102, by decide +kernel⟩
theorem m_X8_init : gMth yX8_init cX8_init 1 0 (none) := ⟨w_844, w_111, by decide +kernel⟩
theorem ob_i : Cond.instanceMethod Lib.objectInit ∈ wG := w_125
theorem ob_c : Cond.code Lib.objectInit ⟨#[0xb1]⟩ 1 none ∈ wG := w_126
theorem mt_min_s : Cond.static Lib.Math.min.name ∈ wG := w_223
theorem mt_min_c : Cond.code Lib.Math.min.name Lib.Math.min.code 2 (some .int) ∈ wG := w_224
theorem mt_max_s : Cond.static Lib.Math.max.name ∈ wG := w_572
theorem mt_max_c : Cond.code Lib.Math.max.name Lib.Math.max.code 2 (some .int) ∈ wG := w_573
theorem mt_i : Cond.initialized "java/lang/Math" ∈ wG := w_107
theorem ac_n : Cond.native arraycopyName ∈ wG := w_669
theorem ac_s : Cond.static arraycopyName ∈ wG := w_668
theorem ac_i : Cond.initialized "java/lang/System" ∈ wG := w_117
