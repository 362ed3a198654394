/-! Every method passes the checker. -/
theorem zMs_ok : zMl.all (fun q => zMok q.2) = true := by decide +kernel
theorem k_X_person : c_X_person.all (zOkI 0 prog_1_method_2_code 4 (some .int)) = true := by decide +kernel
theorem k_State_addPerson : c_State_addPerson.all (zOkI 1 prog_9_method_7_code 4 (some .int)) = true := by decide +kernel
theorem k_X_isNumber : c_X_isNumber.all (zOkI 0 prog_1_method_44_code 1 (some .boolean)) = true := by decide +kernel
theorem k_X_isFirst : c_X_isFirst.all (zOkI 0 prog_1_method_45_code 1 (some .boolean)) = true := by decide +kernel
theorem k_Voices_openFor : c_Voices_openFor.all (zOkI 5 prog_12_method_4_code 6 none) = true := by decide +kernel
theorem k_Voices_rulingText : c_Voices_rulingText.all (zOkI 5 prog_12_method_2_code 2 (some (.object "NumberComes$Text"))) = true := by decide +kernel
theorem k_Voices_isShut : c_Voices_isShut.all (zOkI 5 prog_12_method_5_code 5 (some .boolean)) = true := by decide +kernel
theorem k_Machine_run : c_Machine_run.all (zOkI 4 prog_5_method_2_code 7 (some .int)) = true := by decide +kernel
theorem k_Math_max : c_Math_max.all (zOkI 14 prog_18_method_65_code 2 (some .int)) = true := by decide +kernel
theorem k_Machine_join : c_Machine_join.all (zOkI 4 prog_5_method_3_code 3 (some .int)) = true := by decide +kernel
theorem k_Math_min : c_Math_min.all (zOkI 14 prog_18_method_69_code 2 (some .int)) = true := by decide +kernel
theorem k_Math_min2 : c_Math_min2.all (zOkI 14 prog_18_method_70_code 4 (some .long)) = true := by decide +kernel
theorem k_Math_max2 : c_Math_max2.all (zOkI 14 prog_18_method_66_code 4 (some .long)) = true := by decide +kernel
theorem k_X_change : c_X_change.all (zOkI 0 prog_1_method_3_code 4 (some .boolean)) = true := by decide +kernel
theorem k_State_isTold : c_State_isTold.all (zOkI 1 prog_9_method_4_code 2 (some .boolean)) = true := by decide +kernel
theorem k_X_day : c_X_day.all (zOkI 0 prog_1_method_4_code 2 (some .boolean)) = true := by decide +kernel
theorem k_X_isDay : c_X_isDay.all (zOkI 0 prog_1_method_46_code 1 (some .boolean)) = true := by decide +kernel
theorem k_X_clock : c_X_clock.all (zOkI 0 prog_1_method_5_code 2 (some .boolean)) = true := by decide +kernel
theorem k_Voices_openForAll : c_Voices_openForAll.all (zOkI 5 prog_12_method_3_code 2 none) = true := by decide +kernel
theorem k_X_near : c_X_near.all (zOkI 0 prog_1_method_6_code 4 (some .boolean)) = true := by decide +kernel
theorem k_State_setNear : c_State_setNear.all (zOkI 1 prog_9_method_8_code 4 (some .boolean)) = true := by decide +kernel
theorem k_State_isPair : c_State_isPair.all (zOkI 1 prog_9_method_5_code 3 (some .boolean)) = true := by decide +kernel
theorem k_X_feed : c_X_feed.all (zOkI 0 prog_1_method_7_code 6 (some .int)) = true := by decide +kernel
theorem k_Reader_hasRoom : c_Reader_hasRoom.all (zOkI 2 prog_7_method_2_code 2 (some .boolean)) = true := by decide +kernel
theorem k_Reader_addFour : c_Reader_addFour.all (zOkI 2 prog_7_method_3_code 3 none) = true := by decide +kernel
theorem k_X_end : c_X_end.all (zOkI 0 prog_1_method_8_code 2 (some .int)) = true := by decide +kernel
theorem k_X_text : c_X_text.all (zOkI 0 prog_1_method_9_code 3 (some .int)) = true := by decide +kernel
theorem k_Reader_readAll : c_Reader_readAll.all (zOkI 2 prog_7_method_4_code 3 (some .boolean)) = true := by decide +kernel
theorem k_Text_clear : c_Text_clear.all (zOkI 3 prog_10_method_2_code 1 none) = true := by decide +kernel
theorem k_Reader_advance : c_Reader_advance.all (zOkI 2 prog_7_method_20_code 3 none) = true := by decide +kernel
theorem k_Reader_byteAt : c_Reader_byteAt.all (zOkI 2 prog_7_method_21_code 2 (some .int)) = true := by decide +kernel
theorem k_Reader_isLetter : c_Reader_isLetter.all (zOkI 2 prog_7_method_22_code 1 (some .boolean)) = true := by decide +kernel
theorem k_Reader_isDigit : c_Reader_isDigit.all (zOkI 2 prog_7_method_23_code 1 (some .boolean)) = true := by decide +kernel
theorem k_Reader_readClause : c_Reader_readClause.all (zOkI 2 prog_7_method_5_code 5 (some .boolean)) = true := by decide +kernel
theorem k_Reader_clauseKind : c_Reader_clauseKind.all (zOkI 2 prog_7_method_6_code 1 (some .int)) = true := by decide +kernel
theorem k_Reader_isWord : c_Reader_isWord.all (zOkI 2 prog_7_method_19_code 3 (some .boolean)) = true := by decide +kernel
theorem k_Reader_fail : c_Reader_fail.all (zOkI 2 prog_7_method_18_code 2 (some .boolean)) = true := by decide +kernel
theorem k_Reader_readTwo : c_Reader_readTwo.all (zOkI 2 prog_7_method_7_code 6 (some .boolean)) = true := by decide +kernel
theorem k_Reader_isNumberOf : c_Reader_isNumberOf.all (zOkI 2 prog_7_method_8_code 3 (some .boolean)) = true := by decide +kernel
theorem k_Text_addClause : c_Text_addClause.all (zOkI 3 prog_10_method_3_code 4 none) = true := by decide +kernel
theorem k_Reader_takeSign : c_Reader_takeSign.all (zOkI 2 prog_7_method_17_code 2 (some .boolean)) = true := by decide +kernel
theorem k_Reader_readSum : c_Reader_readSum.all (zOkI 2 prog_7_method_12_code 4 (some .boolean)) = true := by decide +kernel
theorem k_Reader_readProduct : c_Reader_readProduct.all (zOkI 2 prog_7_method_13_code 4 (some .boolean)) = true := by decide +kernel
theorem k_Reader_readOne : c_Reader_readOne.all (zOkI 2 prog_7_method_14_code 4 (some .boolean)) = true := by decide +kernel
theorem k_Reader_nameOf : c_Reader_nameOf.all (zOkI 2 prog_7_method_16_code 1 (some .int)) = true := by decide +kernel
theorem k_Reader_faultOfLeaf : c_Reader_faultOfLeaf.all (zOkI 2 prog_7_method_15_code 2 (some .int)) = true := by decide +kernel
theorem k_Text_addStep : c_Text_addStep.all (zOkI 3 prog_10_method_4_code 2 none) = true := by decide +kernel
theorem k_Reader_readEither : c_Reader_readEither.all (zOkI 2 prog_7_method_9_code 4 (some .boolean)) = true := by decide +kernel
theorem k_Reader_readAsk : c_Reader_readAsk.all (zOkI 2 prog_7_method_10_code 3 (some .boolean)) = true := by decide +kernel
theorem k_Reader_comparing : c_Reader_comparing.all (zOkI 2 prog_7_method_11_code 1 (some .int)) = true := by decide +kernel
theorem k_X_fault : c_X_fault.all (zOkI 0 prog_1_method_10_code 2 (some .int)) = true := by decide +kernel
theorem k_X_by : c_X_by.all (zOkI 0 prog_1_method_11_code 2 (some .boolean)) = true := by decide +kernel
theorem k_X_speaks : c_X_speaks.all (zOkI 0 prog_1_method_12_code 4 (some .boolean)) = true := by decide +kernel
theorem k_X_isHour : c_X_isHour.all (zOkI 0 prog_1_method_47_code 2 (some .boolean)) = true := by decide +kernel
theorem k_Voices_isHeardAt : c_Voices_isHeardAt.all (zOkI 5 prog_12_method_9_code 4 (some .boolean)) = true := by decide +kernel
theorem k_Voices_isDue : c_Voices_isDue.all (zOkI 5 prog_12_method_7_code 7 (some .boolean)) = true := by decide +kernel
theorem k_Voices_isOpen : c_Voices_isOpen.all (zOkI 5 prog_12_method_8_code 4 (some .boolean)) = true := by decide +kernel
theorem k_X_next : c_X_next.all (zOkI 0 prog_1_method_13_code 4 (some .long)) = true := by decide +kernel
theorem k_State_isSet : c_State_isSet.all (zOkI 1 prog_9_method_6_code 2 (some .boolean)) = true := by decide +kernel
theorem k_Meetings_firstFrom : c_Meetings_firstFrom.all (zOkI 6 prog_6_method_2_code 6 (some .long)) = true := by decide +kernel
theorem k_Voices_openClocks : c_Voices_openClocks.all (zOkI 5 prog_12_method_6_code 5 (some .long)) = true := by decide +kernel
theorem k_Meetings_firstByDay : c_Meetings_firstByDay.all (zOkI 6 prog_6_method_15_code 12 (some .long)) = true := by decide +kernel
theorem k_Meetings_rarestOf : c_Meetings_rarestOf.all (zOkI 6 prog_6_method_19_code 4 (some .int)) = true := by decide +kernel
theorem k_X_lowestOf : c_X_lowestOf.all (zOkI 0 prog_1_method_52_code 1 (some .int)) = true := by decide +kernel
theorem k_Integer_bitCount : c_Integer_bitCount.all (zOkI 15 prog_16_method_49_code 1 (some .int)) = true := by decide +kernel
theorem k_X_isOf : c_X_isOf.all (zOkI 0 prog_1_method_50_code 2 (some .boolean)) = true := by decide +kernel
theorem k_Meetings_areDue : c_Meetings_areDue.all (zOkI 6 prog_6_method_20_code 5 (some .boolean)) = true := by decide +kernel
theorem k_Meetings_inDay : c_Meetings_inDay.all (zOkI 6 prog_6_method_18_code 6 (some .long)) = true := by decide +kernel
theorem k_Meetings_firstOpen : c_Meetings_firstOpen.all (zOkI 6 prog_6_method_16_code 8 (some .long)) = true := by decide +kernel
theorem k_Meetings_firstWithoutDay : c_Meetings_firstWithoutDay.all (zOkI 6 prog_6_method_6_code 7 (some .long)) = true := by decide +kernel
theorem k_Meetings_pairApart : c_Meetings_pairApart.all (zOkI 6 prog_6_method_4_code 4 (some .int)) = true := by decide +kernel
theorem k_Meetings_isMeeting : c_Meetings_isMeeting.all (zOkI 6 prog_6_method_5_code 3 (some .boolean)) = true := by decide +kernel
theorem k_X_gcd : c_X_gcd.all (zOkI 0 prog_1_method_53_code 11 (some .long)) = true := by decide +kernel
theorem k_Meetings_clocksInReach : c_Meetings_clocksInReach.all (zOkI 6 prog_6_method_7_code 10 (some .long)) = true := by decide +kernel
theorem k_Meetings_gather : c_Meetings_gather.all (zOkI 6 prog_6_method_8_code 3 none) = true := by decide +kernel
theorem k_Meetings_join : c_Meetings_join.all (zOkI 6 prog_6_method_9_code 9 none) = true := by decide +kernel
theorem k_Math_floorMod : c_Math_floorMod.all (zOkI 14 prog_18_method_52_code 6 (some .long)) = true := by decide +kernel
theorem k_Meetings_inverse : c_Meetings_inverse.all (zOkI 6 prog_6_method_10_code 19 (some .long)) = true := by decide +kernel
theorem k_Meetings_moveOn : c_Meetings_moveOn.all (zOkI 6 prog_6_method_11_code 7 none) = true := by decide +kernel
theorem k_X_barred : c_X_barred.all (zOkI 0 prog_1_method_14_code 4 (some .int)) = true := by decide +kernel
theorem k_X_together : c_X_together.all (zOkI 0 prog_1_method_15_code 6 (some .long)) = true := by decide +kernel
theorem k_X_areHours : c_X_areHours.all (zOkI 0 prog_1_method_49_code 4 (some .boolean)) = true := by decide +kernel
theorem k_Meetings_countOf : c_Meetings_countOf.all (zOkI 6 prog_6_method_3_code 8 (some .long)) = true := by decide +kernel
theorem k_Meetings_countByDay : c_Meetings_countByDay.all (zOkI 6 prog_6_method_17_code 12 (some .long)) = true := by decide +kernel
theorem k_Meetings_layClocks : c_Meetings_layClocks.all (zOkI 6 prog_6_method_12_code 6 none) = true := by decide +kernel
theorem k_Meetings_countOpen : c_Meetings_countOpen.all (zOkI 6 prog_6_method_13_code 16 (some .long)) = true := by decide +kernel
theorem k_Meetings_turned : c_Meetings_turned.all (zOkI 6 prog_6_method_14_code 4 (some .long)) = true := by decide +kernel
theorem k_Long_bitCount : c_Long_bitCount.all (zOkI 16 prog_17_method_50_code 2 (some .int)) = true := by decide +kernel
theorem k_X_alone : c_X_alone.all (zOkI 0 prog_1_method_16_code 11 (some .int)) = true := by decide +kernel
theorem k_Voices_begin : c_Voices_begin.all (zOkI 5 prog_12_method_12_code 4 none) = true := by decide +kernel
theorem k_Voices_layRow : c_Voices_layRow.all (zOkI 5 prog_12_method_14_code 10 none) = true := by decide +kernel
theorem k_Arrays_fill : c_Arrays_fill.all (zOkI 17 prog_23_method_104_code 5 none) = true := by decide +kernel
theorem k_Arrays_rangeCheck : c_Arrays_rangeCheck.all (zOkI 17 prog_23_method_30_code 3 none) = true := by decide +kernel
theorem k_Voices_nextMask : c_Voices_nextMask.all (zOkI 5 prog_12_method_13_code 2 (some .int)) = true := by decide +kernel
theorem k_X_secret : c_X_secret.all (zOkI 0 prog_1_method_17_code 13 (some .long)) = true := by decide +kernel
theorem k_State_listenersOf : c_State_listenersOf.all (zOkI 1 prog_9_method_11_code 4 (some .int)) = true := by decide +kernel
theorem k_X_pass : c_X_pass.all (zOkI 0 prog_1_method_18_code 10 (some .long)) = true := by decide +kernel
theorem k_X_isStart : c_X_isStart.all (zOkI 0 prog_1_method_48_code 2 (some .boolean)) = true := by decide +kernel
theorem k_X_talk : c_X_talk.all (zOkI 0 prog_1_method_19_code 6 (some .int)) = true := by decide +kernel
theorem k_X_judge : c_X_judge.all (zOkI 0 prog_1_method_20_code 2 (some .int)) = true := by decide +kernel
theorem k_Voices_heardOf : c_Voices_heardOf.all (zOkI 5 prog_12_method_10_code 6 (some .int)) = true := by decide +kernel
theorem k_X_overheard : c_X_overheard.all (zOkI 0 prog_1_method_21_code 2 (some .int)) = true := by decide +kernel
theorem k_X_turn : c_X_turn.all (zOkI 0 prog_1_method_22_code 6 (some .long)) = true := by decide +kernel
theorem k_X_isOfOrNone : c_X_isOfOrNone.all (zOkI 0 prog_1_method_51_code 2 (some .boolean)) = true := by decide +kernel
theorem k_Turns_fewest : c_Turns_fewest.all (zOkI 7 prog_11_method_2_code 8 (some .int)) = true := by decide +kernel
theorem k_Turns_listHours : c_Turns_listHours.all (zOkI 7 prog_11_method_5_code 6 none) = true := by decide +kernel
theorem k_Arrays_fill2 : c_Arrays_fill2.all (zOkI 17 prog_23_method_101_code 5 none) = true := by decide +kernel
theorem k_Turns_firstHours : c_Turns_firstHours.all (zOkI 7 prog_11_method_6_code 1 (some .long)) = true := by decide +kernel
theorem k_Turns_canAll : c_Turns_canAll.all (zOkI 7 prog_11_method_7_code 5 (some .boolean)) = true := by decide +kernel
theorem k_Arrays_fill3 : c_Arrays_fill3.all (zOkI 17 prog_23_method_103_code 4 none) = true := by decide +kernel
theorem k_Turns_canHold : c_Turns_canHold.all (zOkI 7 prog_11_method_8_code 10 (some .boolean)) = true := by decide +kernel
theorem k_Turns_allot : c_Turns_allot.all (zOkI 7 prog_11_method_3_code 7 none) = true := by decide +kernel
theorem k_Turns_lowestFor : c_Turns_lowestFor.all (zOkI 7 prog_11_method_4_code 8 (some .int)) = true := by decide +kernel
theorem k_X_given : c_X_given.all (zOkI 0 prog_1_method_23_code 3 (some .int)) = true := by decide +kernel
theorem k_X_need : c_X_need.all (zOkI 0 prog_1_method_24_code 6 (some .int)) = true := by decide +kernel
theorem k_X_worth : c_X_worth.all (zOkI 0 prog_1_method_25_code 2 (some .int)) = true := by decide +kernel
theorem k_Gifts_total : c_Gifts_total.all (zOkI 8 prog_4_method_2_code 3 (some .int)) = true := by decide +kernel
theorem k_Gifts_worthOf : c_Gifts_worthOf.all (zOkI 8 prog_4_method_3_code 6 (some .int)) = true := by decide +kernel
theorem k_X_give : c_X_give.all (zOkI 0 prog_1_method_26_code 3 (some .int)) = true := by decide +kernel
theorem k_Gifts_findBest : c_Gifts_findBest.all (zOkI 8 prog_4_method_5_code 10 none) = true := by decide +kernel
theorem k_Gifts_renumber : c_Gifts_renumber.all (zOkI 8 prog_4_method_4_code 3 none) = true := by decide +kernel
theorem k_Gifts_isBetter : c_Gifts_isBetter.all (zOkI 8 prog_4_method_6_code 6 (some .boolean)) = true := by decide +kernel
theorem k_X_mend : c_X_mend.all (zOkI 0 prog_1_method_27_code 2 (some .int)) = true := by decide +kernel
theorem k_Gifts_findChange : c_Gifts_findChange.all (zOkI 8 prog_4_method_7_code 4 (some .boolean)) = true := by decide +kernel
theorem k_X_cover : c_X_cover.all (zOkI 0 prog_1_method_28_code 1 (some .int)) = true := by decide +kernel
theorem k_Cover_fewestOf : c_Cover_fewestOf.all (zOkI 11 prog_3_method_2_code 3 (some .int)) = true := by decide +kernel
theorem k_Cover_hoursToCover : c_Cover_hoursToCover.all (zOkI 11 prog_3_method_3_code 3 (some .int)) = true := by decide +kernel
theorem k_X_common : c_X_common.all (zOkI 0 prog_1_method_54_code 4 (some .long)) = true := by decide +kernel
theorem k_Cover_add : c_Cover_add.all (zOkI 11 prog_3_method_5_code 2 none) = true := by decide +kernel
theorem k_Cover_widen : c_Cover_widen.all (zOkI 11 prog_3_method_6_code 3 none) = true := by decide +kernel
theorem k_Cover_has : c_Cover_has.all (zOkI 11 prog_3_method_4_code 2 (some .boolean)) = true := by decide +kernel
theorem k_Cover_leastCover : c_Cover_leastCover.all (zOkI 11 prog_3_method_7_code 5 (some .int)) = true := by decide +kernel
theorem k_X_apart : c_X_apart.all (zOkI 0 prog_1_method_29_code 3 (some .int)) = true := by decide +kernel
theorem k_Searches_canPart : c_Searches_canPart.all (zOkI 9 prog_8_method_2_code 3 (some .boolean)) = true := by decide +kernel
theorem k_Searches_part : c_Searches_part.all (zOkI 9 prog_8_method_3_code 3 (some .boolean)) = true := by decide +kernel
theorem k_Searches_spanOf : c_Searches_spanOf.all (zOkI 9 prog_8_method_5_code 6 (some .int)) = true := by decide +kernel
theorem k_Searches_place : c_Searches_place.all (zOkI 9 prog_8_method_6_code 5 (some .boolean)) = true := by decide +kernel
theorem k_Searches_leavesChoices : c_Searches_leavesChoices.all (zOkI 9 prog_8_method_7_code 7 (some .boolean)) = true := by decide +kernel
theorem k_Searches_firstOf : c_Searches_firstOf.all (zOkI 9 prog_8_method_8_code 3 (some .int)) = true := by decide +kernel
theorem k_X_heard : c_X_heard.all (zOkI 0 prog_1_method_30_code 3 (some .int)) = true := by decide +kernel
theorem k_State_addHeard : c_State_addHeard.all (zOkI 1 prog_9_method_9_code 3 none) = true := by decide +kernel
theorem k_X_fits : c_X_fits.all (zOkI 0 prog_1_method_31_code 6 (some .int)) = true := by decide +kernel
theorem k_Searches_isFitting : c_Searches_isFitting.all (zOkI 9 prog_8_method_9_code 6 (some .boolean)) = true := by decide +kernel
theorem k_State_wasHeard : c_State_wasHeard.all (zOkI 1 prog_9_method_10_code 2 (some .boolean)) = true := by decide +kernel
theorem k_X_who : c_X_who.all (zOkI 0 prog_1_method_32_code 4 (some .int)) = true := by decide +kernel
theorem k_X_bits : c_X_bits.all (zOkI 0 prog_1_method_33_code 7 (some .long)) = true := by decide +kernel
theorem k_X_other : c_X_other.all (zOkI 0 prog_1_method_34_code 6 (some .int)) = true := by decide +kernel
theorem k_Voices_countAlone : c_Voices_countAlone.all (zOkI 5 prog_12_method_11_code 7 (some .int)) = true := by decide +kernel
theorem k_X_hush : c_X_hush.all (zOkI 0 prog_1_method_35_code 5 (some .long)) = true := by decide +kernel
theorem k_X_silence : c_X_silence.all (zOkI 0 prog_1_method_42_code 10 (some .long)) = true := by decide +kernel
theorem k_X_crowd : c_X_crowd.all (zOkI 0 prog_1_method_43_code 10 (some .long)) = true := by decide +kernel
theorem k_X_child : c_X_child.all (zOkI 0 prog_1_method_36_code 6 (some .int)) = true := by decide +kernel
theorem k_Searches_leastChild : c_Searches_leastChild.all (zOkI 9 prog_8_method_10_code 7 (some .int)) = true := by decide +kernel
theorem k_Searches_spanOfChild : c_Searches_spanOfChild.all (zOkI 9 prog_8_method_11_code 6 (some .int)) = true := by decide +kernel
theorem k_Searches_isChild : c_Searches_isChild.all (zOkI 9 prog_8_method_12_code 6 (some .boolean)) = true := by decide +kernel
theorem k_X_pairs : c_X_pairs.all (zOkI 0 prog_1_method_37_code 5 (some .int)) = true := by decide +kernel
theorem k_Couples_pairUp : c_Couples_pairUp.all (zOkI 10 prog_2_method_2_code 5 none) = true := by decide +kernel
theorem k_Couples_tryAll : c_Couples_tryAll.all (zOkI 10 prog_2_method_3_code 6 none) = true := by decide +kernel
theorem k_X_roll : c_X_roll.all (zOkI 0 prog_1_method_38_code 5 (some .int)) = true := by decide +kernel
theorem k_State_forgetPeople : c_State_forgetPeople.all (zOkI 1 prog_9_method_3_code 1 none) = true := by decide +kernel
theorem k_State_isDone : c_State_isDone.all (zOkI 1 prog_9_method_12_code 4 (some .boolean)) = true := by decide +kernel
theorem k_X_image : c_X_image.all (zOkI 0 prog_1_method_39_code 1 (some .int)) = true := by decide +kernel
theorem k_State_takeAll : c_State_takeAll.all (zOkI 1 prog_9_method_2_code 2 none) = true := by decide +kernel
theorem k_X_back : c_X_back.all (zOkI 0 prog_1_method_40_code 1 (some .int)) = true := by decide +kernel
theorem k_X_about : c_X_about.all (zOkI 0 prog_1_method_41_code 3 (some .int)) = true := by decide +kernel
theorem k_State_countAbout : c_State_countAbout.all (zOkI 1 prog_9_method_13_code 2 (some .int)) = true := by decide +kernel
theorem k_Mo_copy : c_Mo_copy.all (zOkI 12 prog_14_method_2_code 3 none) = true := by decide +kernel
theorem k_Mo_person : c_Mo_person.all (zOkI 12 prog_14_method_9_code 3 (some .int)) = true := by decide +kernel
theorem k_Mo_isCaller : c_Mo_isCaller.all (zOkI 12 prog_14_method_8_code 2 (some .boolean)) = true := by decide +kernel
theorem k_Mo_isIn : c_Mo_isIn.all (zOkI 12 prog_14_method_3_code 3 (some .boolean)) = true := by decide +kernel
theorem k_Mo_change : c_Mo_change.all (zOkI 12 prog_14_method_10_code 4 (some .boolean)) = true := by decide +kernel
theorem k_Mo_isPerson : c_Mo_isPerson.all (zOkI 12 prog_14_method_4_code 2 (some .boolean)) = true := by decide +kernel
theorem k_Mo_day : c_Mo_day.all (zOkI 12 prog_14_method_12_code 2 (some .boolean)) = true := by decide +kernel
theorem k_Mo_isDay : c_Mo_isDay.all (zOkI 12 prog_14_method_11_code 1 (some .boolean)) = true := by decide +kernel
theorem k_Mo_clock : c_Mo_clock.all (zOkI 12 prog_14_method_13_code 2 (some .boolean)) = true := by decide +kernel
theorem k_Mo_near : c_Mo_near.all (zOkI 12 prog_14_method_14_code 4 (some .boolean)) = true := by decide +kernel
theorem k_Mo_feed : c_Mo_feed.all (zOkI 12 prog_14_method_16_code 6 (some .int)) = true := by decide +kernel
theorem k_Mo_four : c_Mo_four.all (zOkI 12 prog_14_method_15_code 3 none) = true := by decide +kernel
theorem k_Mo_end : c_Mo_end.all (zOkI 12 prog_14_method_17_code 2 (some .int)) = true := by decide +kernel
theorem k_Mo_text : c_Mo_text.all (zOkI 12 prog_14_method_46_code 1 (some .int)) = true := by decide +kernel
theorem k_Mo_readText : c_Mo_readText.all (zOkI 12 prog_14_method_45_code 2 (some .int)) = true := by decide +kernel
theorem k_Mo_nextToken : c_Mo_nextToken.all (zOkI 12 prog_14_method_21_code 3 none) = true := by decide +kernel
theorem k_Mo_byteAt : c_Mo_byteAt.all (zOkI 12 prog_14_method_18_code 2 (some .int)) = true := by decide +kernel
theorem k_Mo_isDigit : c_Mo_isDigit.all (zOkI 12 prog_14_method_20_code 1 (some .boolean)) = true := by decide +kernel
theorem k_Mo_isLetter : c_Mo_isLetter.all (zOkI 12 prog_14_method_19_code 1 (some .boolean)) = true := by decide +kernel
theorem k_Mo_clause : c_Mo_clause.all (zOkI 12 prog_14_method_44_code 6 (some .int)) = true := by decide +kernel
theorem k_Mo_sortOf : c_Mo_sortOf.all (zOkI 12 prog_14_method_41_code 1 (some .int)) = true := by decide +kernel
theorem k_Mo_w4 : c_Mo_w4.all (zOkI 12 prog_14_method_24_code 4 (some .long)) = true := by decide +kernel
theorem k_Mo_w3 : c_Mo_w3.all (zOkI 12 prog_14_method_22_code 3 (some .long)) = true := by decide +kernel
theorem k_Mo_isWord : c_Mo_isWord.all (zOkI 12 prog_14_method_26_code 3 (some .boolean)) = true := by decide +kernel
theorem k_Mo_w5 : c_Mo_w5.all (zOkI 12 prog_14_method_23_code 5 (some .long)) = true := by decide +kernel
theorem k_Mo_w6 : c_Mo_w6.all (zOkI 12 prog_14_method_25_code 6 (some .long)) = true := by decide +kernel
theorem k_Mo_rolled : c_Mo_rolled.all (zOkI 12 prog_14_method_43_code 4 (some .int)) = true := by decide +kernel
theorem k_Mo_figure : c_Mo_figure.all (zOkI 12 prog_14_method_42_code 4 (some .int)) = true := by decide +kernel
theorem k_Mo_summed : c_Mo_summed.all (zOkI 12 prog_14_method_37_code 2 (some .int)) = true := by decide +kernel
theorem k_Mo_goesOn : c_Mo_goesOn.all (zOkI 12 prog_14_method_35_code 1 (some .boolean)) = true := by decide +kernel
theorem k_Mo_hasParen : c_Mo_hasParen.all (zOkI 12 prog_14_method_34_code 2 (some .boolean)) = true := by decide +kernel
theorem k_Mo_behindOne : c_Mo_behindOne.all (zOkI 12 prog_14_method_36_code 2 (some .int)) = true := by decide +kernel
theorem k_Mo_settle : c_Mo_settle.all (zOkI 12 prog_14_method_30_code 2 none) = true := by decide +kernel
theorem k_Mo_emit : c_Mo_emit.all (zOkI 12 prog_14_method_27_code 3 none) = true := by decide +kernel
theorem k_Mo_push : c_Mo_push.all (zOkI 12 prog_14_method_28_code 2 none) = true := by decide +kernel
theorem k_Mo_whole : c_Mo_whole.all (zOkI 12 prog_14_method_29_code 1 none) = true := by decide +kernel
theorem k_Mo_beginOne : c_Mo_beginOne.all (zOkI 12 prog_14_method_33_code 2 (some .int)) = true := by decide +kernel
theorem k_Mo_nameOf : c_Mo_nameOf.all (zOkI 12 prog_14_method_31_code 1 (some .int)) = true := by decide +kernel
theorem k_Mo_isBarred : c_Mo_isBarred.all (zOkI 12 prog_14_method_32_code 2 (some .boolean)) = true := by decide +kernel
theorem k_Mo_either : c_Mo_either.all (zOkI 12 prog_14_method_40_code 6 (some .int)) = true := by decide +kernel
theorem k_Mo_asks : c_Mo_asks.all (zOkI 12 prog_14_method_39_code 5 (some .int)) = true := by decide +kernel
theorem k_Mo_compareOf : c_Mo_compareOf.all (zOkI 12 prog_14_method_38_code 1 (some .int)) = true := by decide +kernel
theorem k_Mo_fault : c_Mo_fault.all (zOkI 12 prog_14_method_47_code 2 (some .int)) = true := by decide +kernel
theorem k_Mo_by : c_Mo_by.all (zOkI 12 prog_14_method_48_code 2 (some .boolean)) = true := by decide +kernel
theorem k_Mo_roll : c_Mo_roll.all (zOkI 12 prog_14_method_49_code 4 (some .int)) = true := by decide +kernel
theorem k_Mo_speaks : c_Mo_speaks.all (zOkI 12 prog_14_method_63_code 4 (some .boolean)) = true := by decide +kernel
theorem k_Mo_isHour : c_Mo_isHour.all (zOkI 12 prog_14_method_6_code 2 (some .boolean)) = true := by decide +kernel
theorem k_Mo_take : c_Mo_take.all (zOkI 12 prog_14_method_56_code 2 none) = true := by decide +kernel
theorem k_Mo_bar : c_Mo_bar.all (zOkI 12 prog_14_method_57_code 5 none) = true := by decide +kernel
theorem k_Mo_isDue : c_Mo_isDue.all (zOkI 12 prog_14_method_58_code 4 (some .boolean)) = true := by decide +kernel
theorem k_Mo_clauses : c_Mo_clauses.all (zOkI 12 prog_14_method_54_code 1 (some .int)) = true := by decide +kernel
theorem k_Mo_sortAt : c_Mo_sortAt.all (zOkI 12 prog_14_method_55_code 2 (some .int)) = true := by decide +kernel
theorem k_Mo_work : c_Mo_work.all (zOkI 12 prog_14_method_53_code 9 none) = true := by decide +kernel
theorem k_Mo_two : c_Mo_two.all (zOkI 12 prog_14_method_51_code 5 (some .long)) = true := by decide +kernel
theorem k_Mo_clip : c_Mo_clip.all (zOkI 12 prog_14_method_50_code 2 (some .long)) = true := by decide +kernel
theorem k_Mo_isAsked : c_Mo_isAsked.all (zOkI 12 prog_14_method_52_code 5 (some .boolean)) = true := by decide +kernel
theorem k_Mo_isSpeaking : c_Mo_isSpeaking.all (zOkI 12 prog_14_method_60_code 4 (some .boolean)) = true := by decide +kernel
theorem k_Mo_isSpeakingBy : c_Mo_isSpeakingBy.all (zOkI 12 prog_14_method_59_code 5 (some .boolean)) = true := by decide +kernel
theorem k_Mo_next : c_Mo_next.all (zOkI 12 prog_14_method_75_code 10 (some .long)) = true := by decide +kernel
theorem k_Mo_isSet : c_Mo_isSet.all (zOkI 12 prog_14_method_5_code 2 (some .boolean)) = true := by decide +kernel
theorem k_Mo_nextByDay : c_Mo_nextByDay.all (zOkI 12 prog_14_method_74_code 6 (some .long)) = true := by decide +kernel
theorem k_Mo_turnRound : c_Mo_turnRound.all (zOkI 12 prog_14_method_73_code 1 (some .int)) = true := by decide +kernel
theorem k_Mo_common : c_Mo_common.all (zOkI 12 prog_14_method_64_code 10 (some .long)) = true := by decide +kernel
theorem k_Mo_doAll : c_Mo_doAll.all (zOkI 12 prog_14_method_62_code 5 (some .boolean)) = true := by decide +kernel
theorem k_Mo_has : c_Mo_has.all (zOkI 12 prog_14_method_7_code 2 (some .boolean)) = true := by decide +kernel
theorem k_Mo_areJoined : c_Mo_areJoined.all (zOkI 12 prog_14_method_68_code 4 (some .boolean)) = true := by decide +kernel
theorem k_Mo_canMeet : c_Mo_canMeet.all (zOkI 12 prog_14_method_67_code 3 (some .boolean)) = true := by decide +kernel
theorem k_Mo_isOpen : c_Mo_isOpen.all (zOkI 12 prog_14_method_69_code 4 (some .boolean)) = true := by decide +kernel
theorem k_Mo_findHours : c_Mo_findHours.all (zOkI 12 prog_14_method_70_code 4 (some .boolean)) = true := by decide +kernel
theorem k_Mo_join : c_Mo_join.all (zOkI 12 prog_14_method_66_code 12 (some .boolean)) = true := by decide +kernel
theorem k_Mo_inverse : c_Mo_inverse.all (zOkI 12 prog_14_method_65_code 18 (some .long)) = true := by decide +kernel
theorem k_Mo_begin : c_Mo_begin.all (zOkI 12 prog_14_method_71_code 7 (some .long)) = true := by decide +kernel
theorem k_Mo_from : c_Mo_from.all (zOkI 12 prog_14_method_72_code 3 (some .long)) = true := by decide +kernel
theorem k_Mo_barred : c_Mo_barred.all (zOkI 12 prog_14_method_76_code 5 (some .int)) = true := by decide +kernel
theorem k_Mo_together : c_Mo_together.all (zOkI 12 prog_14_method_80_code 6 (some .long)) = true := by decide +kernel
theorem k_Mo_areHours : c_Mo_areHours.all (zOkI 12 prog_14_method_79_code 4 (some .boolean)) = true := by decide +kernel
theorem k_Mo_togetherOf : c_Mo_togetherOf.all (zOkI 12 prog_14_method_78_code 14 (some .long)) = true := by decide +kernel
theorem k_Mo_countIn : c_Mo_countIn.all (zOkI 12 prog_14_method_77_code 12 (some .int)) = true := by decide +kernel
theorem k_Mo_alone : c_Mo_alone.all (zOkI 12 prog_14_method_81_code 10 (some .int)) = true := by decide +kernel
theorem k_Mo_speakers : c_Mo_speakers.all (zOkI 12 prog_14_method_61_code 5 (some .int)) = true := by decide +kernel
theorem k_Mo_secret : c_Mo_secret.all (zOkI 12 prog_14_method_83_code 9 (some .long)) = true := by decide +kernel
theorem k_Mo_isSecret : c_Mo_isSecret.all (zOkI 12 prog_14_method_82_code 7 (some .boolean)) = true := by decide +kernel
theorem k_Mo_pass : c_Mo_pass.all (zOkI 12 prog_14_method_85_code 10 (some .long)) = true := by decide +kernel
theorem k_Mo_lowest : c_Mo_lowest.all (zOkI 12 prog_14_method_84_code 2 (some .int)) = true := by decide +kernel
theorem k_Mo_talk : c_Mo_talk.all (zOkI 12 prog_14_method_86_code 5 (some .int)) = true := by decide +kernel
theorem k_Mo_judge : c_Mo_judge.all (zOkI 12 prog_14_method_87_code 2 (some .int)) = true := by decide +kernel
theorem k_Mo_overheard : c_Mo_overheard.all (zOkI 12 prog_14_method_88_code 4 (some .int)) = true := by decide +kernel
theorem k_Mo_turn : c_Mo_turn.all (zOkI 12 prog_14_method_93_code 11 (some .long)) = true := by decide +kernel
theorem k_Mo_firstHours : c_Mo_firstHours.all (zOkI 12 prog_14_method_92_code 1 (some .long)) = true := by decide +kernel
theorem k_Mo_canTurn : c_Mo_canTurn.all (zOkI 12 prog_14_method_91_code 5 (some .boolean)) = true := by decide +kernel
theorem k_Mo_size : c_Mo_size.all (zOkI 12 prog_14_method_90_code 3 (some .int)) = true := by decide +kernel
theorem k_Mo_hasAtLeast : c_Mo_hasAtLeast.all (zOkI 12 prog_14_method_89_code 6 (some .boolean)) = true := by decide +kernel
theorem k_Mo_given : c_Mo_given.all (zOkI 12 prog_14_method_94_code 3 (some .int)) = true := by decide +kernel
theorem k_Mo_need : c_Mo_need.all (zOkI 12 prog_14_method_95_code 6 (some .int)) = true := by decide +kernel
theorem k_Mo_worth : c_Mo_worth.all (zOkI 12 prog_14_method_98_code 2 (some .int)) = true := by decide +kernel
theorem k_Mo_worthOfAll : c_Mo_worthOfAll.all (zOkI 12 prog_14_method_97_code 3 (some .int)) = true := by decide +kernel
theorem k_Mo_worthOf : c_Mo_worthOf.all (zOkI 12 prog_14_method_96_code 5 (some .int)) = true := by decide +kernel
theorem k_Mo_give : c_Mo_give.all (zOkI 12 prog_14_method_100_code 11 (some .int)) = true := by decide +kernel
theorem k_Mo_giveTo : c_Mo_giveTo.all (zOkI 12 prog_14_method_99_code 3 none) = true := by decide +kernel
theorem k_Mo_mend : c_Mo_mend.all (zOkI 12 prog_14_method_101_code 8 (some .int)) = true := by decide +kernel
theorem k_Mo_cover : c_Mo_cover.all (zOkI 12 prog_14_method_104_code 4 (some .int)) = true := by decide +kernel
theorem k_Mo_roundOf : c_Mo_roundOf.all (zOkI 12 prog_14_method_102_code 4 (some .int)) = true := by decide +kernel
theorem k_Mo_covers : c_Mo_covers.all (zOkI 12 prog_14_method_103_code 3 (some .boolean)) = true := by decide +kernel
theorem k_Mo_apart : c_Mo_apart.all (zOkI 12 prog_14_method_107_code 5 (some .int)) = true := by decide +kernel
theorem k_Mo_findApart : c_Mo_findApart.all (zOkI 12 prog_14_method_106_code 4 (some .boolean)) = true := by decide +kernel
theorem k_Mo_isApart : c_Mo_isApart.all (zOkI 12 prog_14_method_105_code 3 (some .boolean)) = true := by decide +kernel
theorem k_Mo_heard : c_Mo_heard.all (zOkI 12 prog_14_method_108_code 3 (some .int)) = true := by decide +kernel
theorem k_Mo_fits : c_Mo_fits.all (zOkI 12 prog_14_method_110_code 6 (some .int)) = true := by decide +kernel
theorem k_Mo_fitsAll : c_Mo_fitsAll.all (zOkI 12 prog_14_method_109_code 6 (some .boolean)) = true := by decide +kernel
theorem k_Mo_who : c_Mo_who.all (zOkI 12 prog_14_method_111_code 4 (some .int)) = true := by decide +kernel
theorem k_Mo_bits : c_Mo_bits.all (zOkI 12 prog_14_method_112_code 7 (some .long)) = true := by decide +kernel
theorem k_Mo_other : c_Mo_other.all (zOkI 12 prog_14_method_113_code 9 (some .int)) = true := by decide +kernel
theorem k_Mo_hush : c_Mo_hush.all (zOkI 12 prog_14_method_114_code 15 (some .long)) = true := by decide +kernel
theorem k_Mo_child : c_Mo_child.all (zOkI 12 prog_14_method_117_code 7 (some .int)) = true := by decide +kernel
theorem k_Mo_meets : c_Mo_meets.all (zOkI 12 prog_14_method_115_code 4 (some .boolean)) = true := by decide +kernel
theorem k_Mo_isChild : c_Mo_isChild.all (zOkI 12 prog_14_method_116_code 5 (some .boolean)) = true := by decide +kernel
theorem k_Mo_pairs : c_Mo_pairs.all (zOkI 12 prog_14_method_120_code 9 (some .int)) = true := by decide +kernel
theorem k_Mo_pairsOf : c_Mo_pairsOf.all (zOkI 12 prog_14_method_119_code 5 (some .long)) = true := by decide +kernel
theorem k_Mo_pairUp : c_Mo_pairUp.all (zOkI 12 prog_14_method_118_code 6 none) = true := by decide +kernel
theorem k_Mo_image : c_Mo_image.all (zOkI 12 prog_14_method_121_code 2 (some .int)) = true := by decide +kernel
theorem k_Mo_back : c_Mo_back.all (zOkI 12 prog_14_method_122_code 2 (some .int)) = true := by decide +kernel
theorem k_Mo_about : c_Mo_about.all (zOkI 12 prog_14_method_123_code 2 (some .int)) = true := by decide +kernel
theorem k_Searches_areSharing : c_Searches_areSharing.all (zOkI 9 prog_8_method_4_code 3 (some .boolean)) = true := by decide +kernel
