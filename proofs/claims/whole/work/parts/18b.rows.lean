/-! every row of every code is what the class file holds -/
theorem k_Df_look : am_rok prog_2_method_2_code 0 4 c_Df_look := by decide +kernel
theorem k_Df_walk : am_rok prog_2_method_3_code 0 10 c_Df_walk := by decide +kernel
theorem k_Df_note : am_rok prog_2_method_4_code 0 2 c_Df_note := by decide +kernel
theorem k_Df_addressAt : am_rok prog_2_method_5_code 0 2 c_Df_addressAt := by decide +kernel
theorem k_Pa_keep : am_rok prog_3_method_2_code 1 4 c_Pa_keep := by decide +kernel
theorem k_Pa_takeLatest : am_rok prog_3_method_3_code 1 2 c_Pa_takeLatest := by decide +kernel
theorem k_Pa_copyFrom : am_rok prog_3_method_4_code 1 3 c_Pa_copyFrom := by decide +kernel
theorem k_Po_copyFrom : am_rok prog_4_method_2_code 2 2 c_Po_copyFrom := by decide +kernel
theorem k_Po_isUsedBlock : am_rok prog_4_method_3_code 2 2 c_Po_isUsedBlock := by decide +kernel
theorem k_Po_countOf : am_rok prog_4_method_4_code 2 2 c_Po_countOf := by decide +kernel
theorem k_Po_valueOf : am_rok prog_4_method_5_code 2 2 c_Po_valueOf := by decide +kernel
theorem k_Po_setValue : am_rok prog_4_method_6_code 2 3 c_Po_setValue := by decide +kernel
theorem k_Po_kindOf : am_rok prog_4_method_7_code 2 2 c_Po_kindOf := by decide +kernel
theorem k_Po_at : am_rok prog_4_method_8_code 2 3 c_Po_at := by decide +kernel
theorem k_Po_raise : am_rok prog_4_method_9_code 2 2 c_Po_raise := by decide +kernel
theorem k_Po_hang : am_rok prog_4_method_10_code 2 6 c_Po_hang := by decide +kernel
theorem k_Po_letGo : am_rok prog_4_method_11_code 2 6 c_Po_letGo := by decide +kernel
theorem k_Po_leastFree : am_rok prog_4_method_12_code 2 4 c_Po_leastFree := by decide +kernel
theorem k_Po_newBlock : am_rok prog_4_method_13_code 2 3 c_Po_newBlock := by decide +kernel
theorem k_Po_ownPart : am_rok prog_4_method_14_code 2 6 c_Po_ownPart := by decide +kernel
theorem k_Po_leastBlockWith : am_rok prog_4_method_15_code 2 3 c_Po_leastBlockWith := by decide +kernel
theorem k_Po_filledPlaces : am_rok prog_4_method_16_code 2 4 c_Po_filledPlaces := by decide +kernel
theorem k_Po_usedBlocks : am_rok prog_4_method_17_code 2 3 c_Po_usedBlocks := by decide +kernel
theorem k_Po_usedParts : am_rok prog_4_method_18_code 2 3 c_Po_usedParts := by decide +kernel
theorem k_Po_usedLeaves : am_rok prog_4_method_19_code 2 3 c_Po_usedLeaves := by decide +kernel
theorem k_Po_countsTogether : am_rok prog_4_method_20_code 2 3 c_Po_countsTogether := by decide +kernel
theorem k_Po_mostCounted : am_rok prog_4_method_21_code 2 3 c_Po_mostCounted := by decide +kernel
theorem k_Po_placesOf : am_rok prog_4_method_22_code 2 4 c_Po_placesOf := by decide +kernel
theorem k_Po_leavesWith : am_rok prog_4_method_23_code 2 4 c_Po_leavesWith := by decide +kernel
theorem k_Po_timesIn : am_rok prog_4_method_24_code 2 5 c_Po_timesIn := by decide +kernel
theorem k_Po_mappedUnder : am_rok prog_4_method_25_code 2 5 c_Po_mappedUnder := by decide +kernel
theorem k_Po_isUnder : am_rok prog_4_method_26_code 2 5 c_Po_isUnder := by decide +kernel
theorem k_Po_markUnder : am_rok prog_4_method_27_code 2 5 c_Po_markUnder := by decide +kernel
theorem k_Po_joinLikeBlocks : am_rok prog_4_method_28_code 2 5 c_Po_joinLikeBlocks := by decide +kernel
theorem k_Po_lesserTwin : am_rok prog_4_method_29_code 2 3 c_Po_lesserTwin := by decide +kernel
theorem k_Po_hasSame : am_rok prog_4_method_30_code 2 4 c_Po_hasSame := by decide +kernel
theorem k_Po_hangInstead : am_rok prog_4_method_31_code 2 6 c_Po_hangInstead := by decide +kernel
theorem k_Po_addPlaces : am_rok prog_4_method_32_code 2 5 c_Po_addPlaces := by decide +kernel
theorem k_Po_numberClose : am_rok prog_4_method_33_code 2 6 c_Po_numberClose := by decide +kernel
theorem k_Po_renumber : am_rok prog_4_method_34_code 2 5 c_Po_renumber := by decide +kernel
theorem k_Po_movePart : am_rok prog_4_method_35_code 2 7 c_Po_movePart := by decide +kernel
theorem k_Ro_add : am_rok prog_5_method_2_code 3 3 c_Ro_add := by decide +kernel
theorem k_Ro_told : am_rok prog_5_method_3_code 3 3 c_Ro_told := by decide +kernel
theorem k_St_copyFrom : am_rok prog_6_method_2_code 4 2 c_St_copyFrom := by decide +kernel
theorem k_St_isThere : am_rok prog_6_method_3_code 4 2 c_St_isThere := by decide +kernel
theorem k_St_volumes : am_rok prog_6_method_4_code 4 3 c_St_volumes := by decide +kernel
theorem k_St_leastFreeVolume : am_rok prog_6_method_5_code 4 2 c_St_leastFreeVolume := by decide +kernel
theorem k_St_addVolume : am_rok prog_6_method_6_code 4 4 c_St_addVolume := by decide +kernel
theorem k_St_removeVolume : am_rok prog_6_method_7_code 4 4 c_St_removeVolume := by decide +kernel
theorem k_St_hangTrunk : am_rok prog_6_method_8_code 4 4 c_St_hangTrunk := by decide +kernel
theorem k_St_thingAt : am_rok prog_6_method_9_code 4 6 c_St_thingAt := by decide +kernel
theorem k_St_blockAt : am_rok prog_6_method_10_code 4 3 c_St_blockAt := by decide +kernel
theorem k_St_valueAt : am_rok prog_6_method_11_code 4 3 c_St_valueAt := by decide +kernel
theorem k_St_firstMapped : am_rok prog_6_method_12_code 4 7 c_St_firstMapped := by decide +kernel
theorem k_St_firstWith : am_rok prog_6_method_13_code 4 6 c_St_firstWith := by decide +kernel
theorem k_St_usedOf : am_rok prog_6_method_14_code 4 2 c_St_usedOf := by decide +kernel
theorem k_St_mappedInAll : am_rok prog_6_method_15_code 4 3 c_St_mappedInAll := by decide +kernel
theorem k_St_heldFree : am_rok prog_6_method_16_code 4 3 c_St_heldFree := by decide +kernel
theorem k_St_isAllowed : am_rok prog_6_method_17_code 4 4 c_St_isAllowed := by decide +kernel
theorem k_St_openTo : am_rok prog_6_method_18_code 4 8 c_St_openTo := by decide +kernel
theorem k_St_shut : am_rok prog_6_method_19_code 4 6 c_St_shut := by decide +kernel
theorem k_St_put : am_rok prog_6_method_20_code 4 9 c_St_put := by decide +kernel
theorem k_St_clear : am_rok prog_6_method_21_code 4 4 c_St_clear := by decide +kernel
theorem k_St_resize : am_rok prog_6_method_22_code 4 4 c_St_resize := by decide +kernel
theorem k_St_copyBlock : am_rok prog_6_method_23_code 4 7 c_St_copyBlock := by decide +kernel
theorem k_St_moveBlock : am_rok prog_6_method_24_code 4 4 c_St_moveBlock := by decide +kernel
theorem k_St_insert : am_rok prog_6_method_25_code 4 6 c_St_insert := by decide +kernel
theorem k_St_takeIn : am_rok prog_6_method_26_code 4 7 c_St_takeIn := by decide +kernel
theorem k_St_exchange : am_rok prog_6_method_27_code 4 5 c_St_exchange := by decide +kernel
theorem k_St_isPrunable : am_rok prog_6_method_28_code 4 2 c_St_isPrunable := by decide +kernel
theorem k_St_prunableAfter : am_rok prog_6_method_29_code 4 4 c_St_prunableAfter := by decide +kernel
theorem k_St_joinLikeParts : am_rok prog_6_method_30_code 4 4 c_St_joinLikeParts := by decide +kernel
theorem k_St_hangTrunkInstead : am_rok prog_6_method_31_code 4 4 c_St_hangTrunkInstead := by decide +kernel
theorem k_St_countPlaces : am_rok prog_6_method_32_code 4 4 c_St_countPlaces := by decide +kernel
theorem k_St_firstWrong : am_rok prog_6_method_33_code 4 3 c_St_firstWrong := by decide +kernel
theorem k_St_mendCounts : am_rok prog_6_method_34_code 4 4 c_St_mendCounts := by decide +kernel
theorem k_St_layClose : am_rok prog_6_method_35_code 4 5 c_St_layClose := by decide +kernel
theorem k_St_parentsAbove : am_rok prog_6_method_36_code 4 5 c_St_parentsAbove := by decide +kernel
theorem k_St_isSelfOrAbove : am_rok prog_6_method_37_code 4 5 c_St_isSelfOrAbove := by decide +kernel
theorem k_St_isRunStart : am_rok prog_6_method_38_code 4 5 c_St_isRunStart := by decide +kernel
theorem k_St_runsOf : am_rok prog_6_method_39_code 4 4 c_St_runsOf := by decide +kernel
theorem k_St_runStart : am_rok prog_6_method_40_code 4 5 c_St_runStart := by decide +kernel
theorem k_St_runLength : am_rok prog_6_method_41_code 4 4 c_St_runLength := by decide +kernel
theorem k_Tv_make : am_rok prog_1_method_2_code 5 4 c_Tv_make := by decide +kernel
theorem k_Tv_take : am_rok prog_1_method_3_code 5 4 c_Tv_take := by decide +kernel
theorem k_Tv_write : am_rok prog_1_method_4_code 5 4 c_Tv_write := by decide +kernel
theorem k_Tv_wipe : am_rok prog_1_method_5_code 5 3 c_Tv_wipe := by decide +kernel
theorem k_Tv_bring : am_rok prog_1_method_6_code 5 3 c_Tv_bring := by decide +kernel
theorem k_Tv_size : am_rok prog_1_method_7_code 5 3 c_Tv_size := by decide +kernel
theorem k_Tv_quota : am_rok prog_1_method_8_code 5 3 c_Tv_quota := by decide +kernel
theorem k_Tv_share : am_rok prog_1_method_9_code 5 8 c_Tv_share := by decide +kernel
theorem k_Tv_graft : am_rok prog_1_method_10_code 5 8 c_Tv_graft := by decide +kernel
theorem k_Tv_fill : am_rok prog_1_method_11_code 5 7 c_Tv_fill := by decide +kernel
theorem k_Tv_reserve : am_rok prog_1_method_12_code 5 3 c_Tv_reserve := by decide +kernel
theorem k_Tv_hold : am_rok prog_1_method_13_code 5 4 c_Tv_hold := by decide +kernel
theorem k_Tv_prune : am_rok prog_1_method_14_code 5 4 c_Tv_prune := by decide +kernel
theorem k_Tv_send : am_rok prog_1_method_15_code 5 6 c_Tv_send := by decide +kernel
theorem k_Tv_receive : am_rok prog_1_method_16_code 5 2 c_Tv_receive := by decide +kernel
theorem k_Tv_move : am_rok prog_1_method_17_code 5 7 c_Tv_move := by decide +kernel
theorem k_Tv_swap : am_rok prog_1_method_18_code 5 3 c_Tv_swap := by decide +kernel
theorem k_Tv_stage : am_rok prog_1_method_19_code 5 3 c_Tv_stage := by decide +kernel
theorem k_Tv_commit : am_rok prog_1_method_20_code 5 2 c_Tv_commit := by decide +kernel
theorem k_Tv_merge : am_rok prog_1_method_21_code 5 2 c_Tv_merge := by decide +kernel
theorem k_Tv_fold : am_rok prog_1_method_22_code 5 3 c_Tv_fold := by decide +kernel
theorem k_Tv_free : am_rok prog_1_method_23_code 5 3 c_Tv_free := by decide +kernel
theorem k_Tv_like : am_rok prog_1_method_24_code 5 2 c_Tv_like := by decide +kernel
theorem k_Tv_spoil : am_rok prog_1_method_25_code 5 3 c_Tv_spoil := by decide +kernel
theorem k_Tv_mend : am_rok prog_1_method_26_code 5 2 c_Tv_mend := by decide +kernel
theorem k_Tv_close : am_rok prog_1_method_27_code 5 2 c_Tv_close := by decide +kernel
theorem k_Tv_undo : am_rok prog_1_method_28_code 5 1 c_Tv_undo := by decide +kernel
theorem k_Tv_is : am_rok prog_1_method_29_code 5 2 c_Tv_is := by decide +kernel
theorem k_Tv_of : am_rok prog_1_method_30_code 5 3 c_Tv_of := by decide +kernel
theorem k_Tv_read : am_rok prog_1_method_31_code 5 3 c_Tv_read := by decide +kernel
theorem k_Tv_block : am_rok prog_1_method_32_code 5 3 c_Tv_block := by decide +kernel
theorem k_Tv_ofBlock : am_rok prog_1_method_33_code 5 3 c_Tv_ofBlock := by decide +kernel
theorem k_Tv_ofPart : am_rok prog_1_method_34_code 5 3 c_Tv_ofPart := by decide +kernel
theorem k_Tv_place : am_rok prog_1_method_35_code 5 4 c_Tv_place := by decide +kernel
theorem k_Tv_owners : am_rok prog_1_method_36_code 5 4 c_Tv_owners := by decide +kernel
theorem k_Tv_wrong : am_rok prog_1_method_37_code 5 1 c_Tv_wrong := by decide +kernel
theorem k_Tv_differs : am_rok prog_1_method_38_code 5 4 c_Tv_differs := by decide +kernel
theorem k_Tv_walked : am_rok prog_1_method_39_code 5 3 c_Tv_walked := by decide +kernel
theorem k_Tv_changed : am_rok prog_1_method_40_code 5 7 c_Tv_changed := by decide +kernel
theorem k_Tv_frees : am_rok prog_1_method_41_code 5 3 c_Tv_frees := by decide +kernel
theorem k_Tv_heaviest : am_rok prog_1_method_42_code 5 5 c_Tv_heaviest := by decide +kernel
theorem k_Tv_path : am_rok prog_1_method_43_code 5 4 c_Tv_path := by decide +kernel
theorem k_Tv_find : am_rok prog_1_method_44_code 5 4 c_Tv_find := by decide +kernel
theorem k_Tv_times : am_rok prog_1_method_45_code 5 6 c_Tv_times := by decide +kernel
theorem k_Tv_counted : am_rok prog_1_method_46_code 5 4 c_Tv_counted := by decide +kernel
theorem k_Tv_hottest : am_rok prog_1_method_47_code 5 1 c_Tv_hottest := by decide +kernel
theorem k_Tv_leaves : am_rok prog_1_method_48_code 5 2 c_Tv_leaves := by decide +kernel
theorem k_Tv_parts : am_rok prog_1_method_49_code 5 5 c_Tv_parts := by decide +kernel
theorem k_Tv_staged : am_rok prog_1_method_50_code 5 3 c_Tv_staged := by decide +kernel
theorem k_Tv_stream : am_rok prog_1_method_51_code 5 3 c_Tv_stream := by decide +kernel
theorem k_Tv_children : am_rok prog_1_method_52_code 5 4 c_Tv_children := by decide +kernel
theorem k_Tv_nearest : am_rok prog_1_method_53_code 5 5 c_Tv_nearest := by decide +kernel
theorem k_Tv_run : am_rok prog_1_method_54_code 5 5 c_Tv_run := by decide +kernel
theorem k_Tv_next : am_rok prog_1_method_55_code 5 3 c_Tv_next := by decide +kernel
theorem k_Tv_needs : am_rok prog_1_method_56_code 5 7 c_Tv_needs := by decide +kernel
theorem k_Tv_saved : am_rok prog_1_method_57_code 5 2 c_Tv_saved := by decide +kernel
theorem k_Tv_full : am_rok prog_1_method_58_code 5 2 c_Tv_full := by decide +kernel
theorem k_Tv_mean : am_rok prog_1_method_59_code 5 6 c_Tv_mean := by decide +kernel
theorem k_Tv_digest : am_rok prog_1_method_60_code 5 4 c_Tv_digest := by decide +kernel
theorem k_Tv_image : am_rok prog_1_method_61_code 5 1 c_Tv_image := by decide +kernel
theorem k_Tv_back : am_rok prog_1_method_62_code 5 1 c_Tv_back := by decide +kernel
theorem k_Tv_steps : am_rok prog_1_method_63_code 5 1 c_Tv_steps := by decide +kernel
theorem k_Tv_isSize : am_rok prog_1_method_64_code 5 1 c_Tv_isSize := by decide +kernel
theorem k_Tv_isQuota : am_rok prog_1_method_65_code 5 1 c_Tv_isQuota := by decide +kernel
theorem k_Tv_isValue : am_rok prog_1_method_66_code 5 1 c_Tv_isValue := by decide +kernel
theorem k_Tv_isThing : am_rok prog_1_method_67_code 5 1 c_Tv_isThing := by decide +kernel
theorem k_Tv_isPart : am_rok prog_1_method_68_code 5 1 c_Tv_isPart := by decide +kernel
theorem k_Tv_partNumber : am_rok prog_1_method_69_code 5 1 c_Tv_partNumber := by decide +kernel
theorem k_Tv_placeOf : am_rok prog_1_method_70_code 5 2 c_Tv_placeOf := by decide +kernel
theorem k_Tv_isUsedPart : am_rok prog_1_method_71_code 5 2 c_Tv_isUsedPart := by decide +kernel
theorem k_Tv_isInside : am_rok prog_1_method_72_code 5 3 c_Tv_isInside := by decide +kernel
theorem k_Tv_isPiece : am_rok prog_1_method_73_code 5 4 c_Tv_isPiece := by decide +kernel
theorem k_Tv_isSound : am_rok prog_1_method_74_code 5 1 c_Tv_isSound := by decide +kernel
theorem k_Tv_isOpenToHand : am_rok prog_1_method_75_code 5 2 c_Tv_isOpenToHand := by decide +kernel
theorem k_Tv_begin : am_rok prog_1_method_76_code 5 1 c_Tv_begin := by decide +kernel
theorem k_Tv_keepStep : am_rok prog_1_method_77_code 5 1 c_Tv_keepStep := by decide +kernel
theorem k_Tv_settle : am_rok prog_1_method_78_code 5 2 c_Tv_settle := by decide +kernel
theorem k_Tv_freedBy : am_rok prog_1_method_79_code 5 4 c_Tv_freedBy := by decide +kernel
theorem k_Tv_bitsOfFloat : am_rok prog_1_method_80_code 5 4 c_Tv_bitsOfFloat := by decide +kernel
theorem k_Tv_bitsOfDouble : am_rok prog_1_method_81_code 5 7 c_Tv_bitsOfDouble := by decide +kernel
theorem k_Md_copy : am_rok prog_8_method_2_code 6 3 c_Md_copy := by decide +kernel
theorem k_Md_isIn : am_rok prog_8_method_3_code 6 3 c_Md_isIn := by decide +kernel
theorem k_Md_valueOf : am_rok prog_8_method_4_code 6 2 c_Md_valueOf := by decide +kernel
theorem k_Md_blockCount : am_rok prog_8_method_5_code 6 2 c_Md_blockCount := by decide +kernel
theorem k_Md_letBlock : am_rok prog_8_method_6_code 6 4 c_Md_letBlock := by decide +kernel
theorem k_Md_isBlock : am_rok prog_8_method_7_code 6 2 c_Md_isBlock := by decide +kernel
theorem k_Md_kindOf : am_rok prog_8_method_8_code 6 2 c_Md_kindOf := by decide +kernel
theorem k_Md_partCount : am_rok prog_8_method_9_code 6 2 c_Md_partCount := by decide +kernel
theorem k_Md_letPart : am_rok prog_8_method_10_code 6 3 c_Md_letPart := by decide +kernel
theorem k_Md_isPart : am_rok prog_8_method_11_code 6 2 c_Md_isPart := by decide +kernel
theorem k_Md_placeOf : am_rok prog_8_method_12_code 6 3 c_Md_placeOf := by decide +kernel
theorem k_Md_letPlace : am_rok prog_8_method_13_code 6 4 c_Md_letPlace := by decide +kernel
theorem k_Md_get : am_rok prog_8_method_14_code 6 3 c_Md_get := by decide +kernel
theorem k_Md_let : am_rok prog_8_method_15_code 6 4 c_Md_let := by decide +kernel
theorem k_Md_isVolume : am_rok prog_8_method_16_code 6 2 c_Md_isVolume := by decide +kernel
theorem k_Md_blocks : am_rok prog_8_method_17_code 6 3 c_Md_blocks := by decide +kernel
theorem k_Md_partsOf : am_rok prog_8_method_18_code 6 4 c_Md_partsOf := by decide +kernel
theorem k_Md_stepIn : am_rok prog_8_method_19_code 6 2 c_Md_stepIn := by decide +kernel
theorem k_Md_partAt : am_rok prog_8_method_20_code 6 6 c_Md_partAt := by decide +kernel
theorem k_Md_blockAt : am_rok prog_8_method_21_code 6 4 c_Md_blockAt := by decide +kernel
theorem k_Md_readAt : am_rok prog_8_method_22_code 6 4 c_Md_readAt := by decide +kernel
theorem k_Md_usedOf : am_rok prog_8_method_23_code 6 4 c_Md_usedOf := by decide +kernel
theorem k_Md_letGoBlock : am_rok prog_8_method_24_code 6 2 c_Md_letGoBlock := by decide +kernel
theorem k_Md_letGoLeaf : am_rok prog_8_method_25_code 6 3 c_Md_letGoLeaf := by decide +kernel
theorem k_Md_letGoTwig : am_rok prog_8_method_26_code 6 3 c_Md_letGoTwig := by decide +kernel
theorem k_Md_letGoTrunk : am_rok prog_8_method_27_code 6 3 c_Md_letGoTrunk := by decide +kernel
theorem k_Md_letGoPart : am_rok prog_8_method_28_code 6 2 c_Md_letGoPart := by decide +kernel
theorem k_Md_letGoIn : am_rok prog_8_method_29_code 6 3 c_Md_letGoIn := by decide +kernel
theorem k_Md_countIn : am_rok prog_8_method_30_code 6 3 c_Md_countIn := by decide +kernel
theorem k_Md_hang : am_rok prog_8_method_31_code 6 5 c_Md_hang := by decide +kernel
theorem k_Md_hangTrunk : am_rok prog_8_method_32_code 6 4 c_Md_hangTrunk := by decide +kernel
theorem k_Md_newPart : am_rok prog_8_method_33_code 6 6 c_Md_newPart := by decide +kernel
theorem k_Md_newBlock : am_rok prog_8_method_34_code 6 3 c_Md_newBlock := by decide +kernel
theorem k_Md_own : am_rok prog_8_method_35_code 6 3 c_Md_own := by decide +kernel
theorem k_Md_openTo : am_rok prog_8_method_36_code 6 8 c_Md_openTo := by decide +kernel
theorem k_Md_isEmpty : am_rok prog_8_method_37_code 6 3 c_Md_isEmpty := by decide +kernel
theorem k_Md_shut : am_rok prog_8_method_38_code 6 6 c_Md_shut := by decide +kernel
theorem k_Md_blockWith : am_rok prog_8_method_39_code 6 3 c_Md_blockWith := by decide +kernel
theorem k_Md_writeNow : am_rok prog_8_method_40_code 6 9 c_Md_writeNow := by decide +kernel
theorem k_Md_wipeNow : am_rok prog_8_method_41_code 6 5 c_Md_wipeNow := by decide +kernel
theorem k_Md_begin : am_rok prog_8_method_42_code 6 2 c_Md_begin := by decide +kernel
theorem k_Md_bringBack : am_rok prog_8_method_43_code 6 2 c_Md_bringBack := by decide +kernel
theorem k_Md_stepAt : am_rok prog_8_method_44_code 6 2 c_Md_stepAt := by decide +kernel
theorem k_Md_keep : am_rok prog_8_method_45_code 6 3 c_Md_keep := by decide +kernel
theorem k_Md_reserves : am_rok prog_8_method_46_code 6 4 c_Md_reserves := by decide +kernel
theorem k_Md_isRight : am_rok prog_8_method_47_code 6 2 c_Md_isRight := by decide +kernel
theorem k_Md_end : am_rok prog_8_method_48_code 6 2 c_Md_end := by decide +kernel
theorem k_Md_endBoth : am_rok prog_8_method_49_code 6 3 c_Md_endBoth := by decide +kernel
theorem k_Md_isOpen : am_rok prog_8_method_50_code 6 2 c_Md_isOpen := by decide +kernel
theorem k_Md_isAddress : am_rok prog_8_method_51_code 6 3 c_Md_isAddress := by decide +kernel
theorem k_Md_undo : am_rok prog_8_method_52_code 6 3 c_Md_undo := by decide +kernel
theorem k_Md_newVolume : am_rok prog_8_method_53_code 6 6 c_Md_newVolume := by decide +kernel
theorem k_Md_make : am_rok prog_8_method_54_code 6 3 c_Md_make := by decide +kernel
theorem k_Md_take : am_rok prog_8_method_55_code 6 4 c_Md_take := by decide +kernel
theorem k_Md_write : am_rok prog_8_method_56_code 6 4 c_Md_write := by decide +kernel
theorem k_Md_wipe : am_rok prog_8_method_57_code 6 3 c_Md_wipe := by decide +kernel
theorem k_Md_bring : am_rok prog_8_method_58_code 6 3 c_Md_bring := by decide +kernel
theorem k_Md_size : am_rok prog_8_method_59_code 6 4 c_Md_size := by decide +kernel
theorem k_Md_quota : am_rok prog_8_method_60_code 6 3 c_Md_quota := by decide +kernel
theorem k_Md_isRow : am_rok prog_8_method_61_code 6 4 c_Md_isRow := by decide +kernel
theorem k_Md_shareOne : am_rok prog_8_method_62_code 6 7 c_Md_shareOne := by decide +kernel
theorem k_Md_share : am_rok prog_8_method_63_code 6 7 c_Md_share := by decide +kernel
theorem k_Md_move : am_rok prog_8_method_64_code 6 6 c_Md_move := by decide +kernel
theorem k_Md_swap : am_rok prog_8_method_65_code 6 5 c_Md_swap := by decide +kernel
theorem k_Md_graft : am_rok prog_8_method_66_code 6 10 c_Md_graft := by decide +kernel
theorem k_Md_fill : am_rok prog_8_method_67_code 6 6 c_Md_fill := by decide +kernel
theorem k_Md_reserve : am_rok prog_8_method_68_code 6 3 c_Md_reserve := by decide +kernel
theorem k_Md_hold : am_rok prog_8_method_69_code 6 3 c_Md_hold := by decide +kernel
theorem k_Md_freeNow : am_rok prog_8_method_70_code 6 3 c_Md_freeNow := by decide +kernel
theorem k_Md_bornBehind : am_rok prog_8_method_71_code 6 4 c_Md_bornBehind := by decide +kernel
theorem k_Md_isPrunable : am_rok prog_8_method_72_code 6 2 c_Md_isPrunable := by decide +kernel
theorem k_Md_prune : am_rok prog_8_method_73_code 6 4 c_Md_prune := by decide +kernel
theorem k_Md_free : am_rok prog_8_method_74_code 6 3 c_Md_free := by decide +kernel
theorem k_Md_like : am_rok prog_8_method_75_code 6 2 c_Md_like := by decide +kernel
theorem k_Md_layPlaces : am_rok prog_8_method_76_code 6 4 c_Md_layPlaces := by decide +kernel
theorem k_Md_isWrongBlock : am_rok prog_8_method_77_code 6 2 c_Md_isWrongBlock := by decide +kernel
theorem k_Md_isWrongPart : am_rok prog_8_method_78_code 6 2 c_Md_isWrongPart := by decide +kernel
theorem k_Md_wrong : am_rok prog_8_method_79_code 6 2 c_Md_wrong := by decide +kernel
theorem k_Md_spoil : am_rok prog_8_method_80_code 6 3 c_Md_spoil := by decide +kernel
theorem k_Md_mend : am_rok prog_8_method_81_code 6 3 c_Md_mend := by decide +kernel
theorem k_Md_layBlocks : am_rok prog_8_method_82_code 6 3 c_Md_layBlocks := by decide +kernel
theorem k_Md_layParts : am_rok prog_8_method_83_code 6 5 c_Md_layParts := by decide +kernel
theorem k_Md_close : am_rok prog_8_method_84_code 6 4 c_Md_close := by decide +kernel
theorem k_Md_placeIn : am_rok prog_8_method_85_code 6 3 c_Md_placeIn := by decide +kernel
theorem k_Md_walkLeaves : am_rok prog_8_method_86_code 6 5 c_Md_walkLeaves := by decide +kernel
theorem k_Md_walkTwigs : am_rok prog_8_method_87_code 6 5 c_Md_walkTwigs := by decide +kernel
theorem k_Md_layDifference : am_rok prog_8_method_88_code 6 6 c_Md_layDifference := by decide +kernel
theorem k_Md_areVolumes : am_rok prog_8_method_89_code 6 3 c_Md_areVolumes := by decide +kernel
theorem k_Md_differs : am_rok prog_8_method_90_code 6 4 c_Md_differs := by decide +kernel
theorem k_Md_walked : am_rok prog_8_method_91_code 6 3 c_Md_walked := by decide +kernel
theorem k_Md_changed : am_rok prog_8_method_92_code 6 6 c_Md_changed := by decide +kernel
theorem k_Md_send : am_rok prog_8_method_93_code 6 5 c_Md_send := by decide +kernel
theorem k_Md_stream : am_rok prog_8_method_94_code 6 3 c_Md_stream := by decide +kernel
theorem k_Md_doRow : am_rok prog_8_method_95_code 6 4 c_Md_doRow := by decide +kernel
theorem k_Md_receive : am_rok prog_8_method_96_code 6 3 c_Md_receive := by decide +kernel
theorem k_Md_stage : am_rok prog_8_method_97_code 6 3 c_Md_stage := by decide +kernel
theorem k_Md_staged : am_rok prog_8_method_98_code 6 3 c_Md_staged := by decide +kernel
theorem k_Md_commit : am_rok prog_8_method_99_code 6 3 c_Md_commit := by decide +kernel
theorem k_Md_merge : am_rok prog_8_method_100_code 6 6 c_Md_merge := by decide +kernel
theorem k_Md_areLike : am_rok prog_8_method_101_code 6 4 c_Md_areLike := by decide +kernel
theorem k_Md_likePart : am_rok prog_8_method_102_code 6 3 c_Md_likePart := by decide +kernel
theorem k_Md_replace : am_rok prog_8_method_103_code 6 6 c_Md_replace := by decide +kernel
theorem k_Md_fold : am_rok prog_8_method_104_code 6 5 c_Md_fold := by decide +kernel
theorem k_Md_mapped : am_rok prog_8_method_105_code 6 3 c_Md_mapped := by decide +kernel
theorem k_Md_volumes : am_rok prog_8_method_106_code 6 3 c_Md_volumes := by decide +kernel
theorem k_Md_counts : am_rok prog_8_method_107_code 6 5 c_Md_counts := by decide +kernel
theorem k_Md_is : am_rok prog_8_method_108_code 6 2 c_Md_is := by decide +kernel
theorem k_Md_heightOf : am_rok prog_8_method_109_code 6 4 c_Md_heightOf := by decide +kernel
theorem k_Md_of : am_rok prog_8_method_110_code 6 3 c_Md_of := by decide +kernel
theorem k_Md_read : am_rok prog_8_method_111_code 6 3 c_Md_read := by decide +kernel
theorem k_Md_block : am_rok prog_8_method_112_code 6 3 c_Md_block := by decide +kernel
theorem k_Md_ofBlock : am_rok prog_8_method_113_code 6 3 c_Md_ofBlock := by decide +kernel
theorem k_Md_filled : am_rok prog_8_method_114_code 6 4 c_Md_filled := by decide +kernel
theorem k_Md_ofPart : am_rok prog_8_method_115_code 6 3 c_Md_ofPart := by decide +kernel
theorem k_Md_place : am_rok prog_8_method_116_code 6 3 c_Md_place := by decide +kernel
theorem k_Md_hasBlock : am_rok prog_8_method_117_code 6 4 c_Md_hasBlock := by decide +kernel
theorem k_Md_path : am_rok prog_8_method_118_code 6 4 c_Md_path := by decide +kernel
theorem k_Md_isThere : am_rok prog_8_method_119_code 6 4 c_Md_isThere := by decide +kernel
theorem k_Md_find : am_rok prog_8_method_120_code 6 4 c_Md_find := by decide +kernel
theorem k_Md_times : am_rok prog_8_method_121_code 6 5 c_Md_times := by decide +kernel
theorem k_Md_counted : am_rok prog_8_method_122_code 6 4 c_Md_counted := by decide +kernel
theorem k_Md_hasPart : am_rok prog_8_method_123_code 6 4 c_Md_hasPart := by decide +kernel
theorem k_Md_parts : am_rok prog_8_method_124_code 6 5 c_Md_parts := by decide +kernel
theorem k_Md_hottest : am_rok prog_8_method_125_code 6 3 c_Md_hottest := by decide +kernel
theorem k_Md_holdsBlock : am_rok prog_8_method_126_code 6 4 c_Md_holdsBlock := by decide +kernel
theorem k_Md_leaves : am_rok prog_8_method_127_code 6 4 c_Md_leaves := by decide +kernel
theorem k_Md_owners : am_rok prog_8_method_128_code 6 4 c_Md_owners := by decide +kernel
theorem k_Md_freed : am_rok prog_8_method_129_code 6 4 c_Md_freed := by decide +kernel
theorem k_Md_frees : am_rok prog_8_method_130_code 6 3 c_Md_frees := by decide +kernel
theorem k_Md_heaviest : am_rok prog_8_method_131_code 6 4 c_Md_heaviest := by decide +kernel
theorem k_Md_children : am_rok prog_8_method_132_code 6 4 c_Md_children := by decide +kernel
theorem k_Md_isAbove : am_rok prog_8_method_133_code 6 4 c_Md_isAbove := by decide +kernel
theorem k_Md_nearest : am_rok prog_8_method_134_code 6 4 c_Md_nearest := by decide +kernel
theorem k_Md_layRuns : am_rok prog_8_method_135_code 6 7 c_Md_layRuns := by decide +kernel
theorem k_Md_run : am_rok prog_8_method_136_code 6 4 c_Md_run := by decide +kernel
theorem k_Md_next : am_rok prog_8_method_137_code 6 4 c_Md_next := by decide +kernel
theorem k_Md_needs : am_rok prog_8_method_138_code 6 8 c_Md_needs := by decide +kernel
theorem k_Md_saved : am_rok prog_8_method_139_code 6 1 c_Md_saved := by decide +kernel
theorem k_Md_full : am_rok prog_8_method_140_code 6 2 c_Md_full := by decide +kernel
theorem k_Md_mean : am_rok prog_8_method_141_code 6 5 c_Md_mean := by decide +kernel
theorem k_Md_digest : am_rok prog_8_method_142_code 6 4 c_Md_digest := by decide +kernel
theorem k_Md_image : am_rok prog_8_method_143_code 6 1 c_Md_image := by decide +kernel
theorem k_Md_back : am_rok prog_8_method_144_code 6 1 c_Md_back := by decide +kernel
theorem k_Md_steps : am_rok prog_8_method_145_code 6 1 c_Md_steps := by decide +kernel
theorem k_Du_isNaN : am_rok prog_9_method_6_code 9 2 c_Du_isNaN := by decide +kernel
theorem k_Du_doubleToLongBits : am_rok prog_9_method_23_code 9 2 c_Du_doubleToLongBits := by decide +kernel
theorem k_Fl_isNaN : am_rok prog_10_method_6_code 8 1 c_Fl_isNaN := by decide +kernel
theorem k_Fl_floatToIntBits : am_rok prog_10_method_24_code 8 1 c_Fl_floatToIntBits := by decide +kernel
theorem k_Ar_fill : am_rok prog_14_method_103_code 7 4 c_Ar_fill := by decide +kernel
theorem k_blk_0 (j : Nat) (h1 : 0 ≤ j) (h2 : j < 20) : am_rok (am_bt j) (am_oc j) (am_P j).1 (am_P j).2.2 := by
  rcases (show j = 0 ∨ j = 1 ∨ j = 2 ∨ j = 3 ∨ j = 4 ∨ j = 5 ∨ j = 6 ∨ j = 7 ∨ j = 8 ∨ j = 9 ∨ j = 10 ∨ j = 11 ∨ j = 12 ∨ j = 13 ∨ j = 14 ∨ j = 15 ∨ j = 16 ∨ j = 17 ∨ j = 18 ∨ j = 19 by omega) with rfl | rfl | rfl | rfl | rfl | rfl | rfl | rfl | rfl | rfl | rfl | rfl | rfl | rfl | rfl | rfl | rfl | rfl | rfl | rfl
  · exact k_Df_look
  · exact k_Df_walk
  · exact k_Df_note
  · exact k_Df_addressAt
  · exact k_Pa_keep
  · exact k_Pa_takeLatest
  · exact k_Pa_copyFrom
  · exact k_Po_copyFrom
  · exact k_Po_isUsedBlock
  · exact k_Po_countOf
  · exact k_Po_valueOf
  · exact k_Po_setValue
  · exact k_Po_kindOf
  · exact k_Po_at
  · exact k_Po_raise
  · exact k_Po_hang
  · exact k_Po_letGo
  · exact k_Po_leastFree
  · exact k_Po_newBlock
  · exact k_Po_ownPart
theorem k_blk_1 (j : Nat) (h1 : 20 ≤ j) (h2 : j < 40) : am_rok (am_bt j) (am_oc j) (am_P j).1 (am_P j).2.2 := by
  rcases (show j = 20 ∨ j = 21 ∨ j = 22 ∨ j = 23 ∨ j = 24 ∨ j = 25 ∨ j = 26 ∨ j = 27 ∨ j = 28 ∨ j = 29 ∨ j = 30 ∨ j = 31 ∨ j = 32 ∨ j = 33 ∨ j = 34 ∨ j = 35 ∨ j = 36 ∨ j = 37 ∨ j = 38 ∨ j = 39 by omega) with rfl | rfl | rfl | rfl | rfl | rfl | rfl | rfl | rfl | rfl | rfl | rfl | rfl | rfl | rfl | rfl | rfl | rfl | rfl | rfl
  · exact k_Po_leastBlockWith
  · exact k_Po_filledPlaces
  · exact k_Po_usedBlocks
  · exact k_Po_usedParts
  · exact k_Po_usedLeaves
  · exact k_Po_countsTogether
  · exact k_Po_mostCounted
  · exact k_Po_placesOf
  · exact k_Po_leavesWith
  · exact k_Po_timesIn
  · exact k_Po_mappedUnder
  · exact k_Po_isUnder
  · exact k_Po_markUnder
  · exact k_Po_joinLikeBlocks
  · exact k_Po_lesserTwin
  · exact k_Po_hasSame
  · exact k_Po_hangInstead
  · exact k_Po_addPlaces
  · exact k_Po_numberClose
  · exact k_Po_renumber
theorem k_blk_2 (j : Nat) (h1 : 40 ≤ j) (h2 : j < 60) : am_rok (am_bt j) (am_oc j) (am_P j).1 (am_P j).2.2 := by
  rcases (show j = 40 ∨ j = 41 ∨ j = 42 ∨ j = 43 ∨ j = 44 ∨ j = 45 ∨ j = 46 ∨ j = 47 ∨ j = 48 ∨ j = 49 ∨ j = 50 ∨ j = 51 ∨ j = 52 ∨ j = 53 ∨ j = 54 ∨ j = 55 ∨ j = 56 ∨ j = 57 ∨ j = 58 ∨ j = 59 by omega) with rfl | rfl | rfl | rfl | rfl | rfl | rfl | rfl | rfl | rfl | rfl | rfl | rfl | rfl | rfl | rfl | rfl | rfl | rfl | rfl
  · exact k_Po_movePart
  · exact k_Ro_add
  · exact k_Ro_told
  · exact k_St_copyFrom
  · exact k_St_isThere
  · exact k_St_volumes
  · exact k_St_leastFreeVolume
  · exact k_St_addVolume
  · exact k_St_removeVolume
  · exact k_St_hangTrunk
  · exact k_St_thingAt
  · exact k_St_blockAt
  · exact k_St_valueAt
  · exact k_St_firstMapped
  · exact k_St_firstWith
  · exact k_St_usedOf
  · exact k_St_mappedInAll
  · exact k_St_heldFree
  · exact k_St_isAllowed
  · exact k_St_openTo
theorem k_blk_3 (j : Nat) (h1 : 60 ≤ j) (h2 : j < 80) : am_rok (am_bt j) (am_oc j) (am_P j).1 (am_P j).2.2 := by
  rcases (show j = 60 ∨ j = 61 ∨ j = 62 ∨ j = 63 ∨ j = 64 ∨ j = 65 ∨ j = 66 ∨ j = 67 ∨ j = 68 ∨ j = 69 ∨ j = 70 ∨ j = 71 ∨ j = 72 ∨ j = 73 ∨ j = 74 ∨ j = 75 ∨ j = 76 ∨ j = 77 ∨ j = 78 ∨ j = 79 by omega) with rfl | rfl | rfl | rfl | rfl | rfl | rfl | rfl | rfl | rfl | rfl | rfl | rfl | rfl | rfl | rfl | rfl | rfl | rfl | rfl
  · exact k_St_shut
  · exact k_St_put
  · exact k_St_clear
  · exact k_St_resize
  · exact k_St_copyBlock
  · exact k_St_moveBlock
  · exact k_St_insert
  · exact k_St_takeIn
  · exact k_St_exchange
  · exact k_St_isPrunable
  · exact k_St_prunableAfter
  · exact k_St_joinLikeParts
  · exact k_St_hangTrunkInstead
  · exact k_St_countPlaces
  · exact k_St_firstWrong
  · exact k_St_mendCounts
  · exact k_St_layClose
  · exact k_St_parentsAbove
  · exact k_St_isSelfOrAbove
  · exact k_St_isRunStart
theorem k_blk_4 (j : Nat) (h1 : 80 ≤ j) (h2 : j < 100) : am_rok (am_bt j) (am_oc j) (am_P j).1 (am_P j).2.2 := by
  rcases (show j = 80 ∨ j = 81 ∨ j = 82 ∨ j = 83 ∨ j = 84 ∨ j = 85 ∨ j = 86 ∨ j = 87 ∨ j = 88 ∨ j = 89 ∨ j = 90 ∨ j = 91 ∨ j = 92 ∨ j = 93 ∨ j = 94 ∨ j = 95 ∨ j = 96 ∨ j = 97 ∨ j = 98 ∨ j = 99 by omega) with rfl | rfl | rfl | rfl | rfl | rfl | rfl | rfl | rfl | rfl | rfl | rfl | rfl | rfl | rfl | rfl | rfl | rfl | rfl | rfl
  · exact k_St_runsOf
  · exact k_St_runStart
  · exact k_St_runLength
  · exact k_Tv_make
  · exact k_Tv_take
  · exact k_Tv_write
  · exact k_Tv_wipe
  · exact k_Tv_bring
  · exact k_Tv_size
  · exact k_Tv_quota
  · exact k_Tv_share
  · exact k_Tv_graft
  · exact k_Tv_fill
  · exact k_Tv_reserve
  · exact k_Tv_hold
  · exact k_Tv_prune
  · exact k_Tv_send
  · exact k_Tv_receive
  · exact k_Tv_move
  · exact k_Tv_swap
theorem k_blk_5 (j : Nat) (h1 : 100 ≤ j) (h2 : j < 120) : am_rok (am_bt j) (am_oc j) (am_P j).1 (am_P j).2.2 := by
  rcases (show j = 100 ∨ j = 101 ∨ j = 102 ∨ j = 103 ∨ j = 104 ∨ j = 105 ∨ j = 106 ∨ j = 107 ∨ j = 108 ∨ j = 109 ∨ j = 110 ∨ j = 111 ∨ j = 112 ∨ j = 113 ∨ j = 114 ∨ j = 115 ∨ j = 116 ∨ j = 117 ∨ j = 118 ∨ j = 119 by omega) with rfl | rfl | rfl | rfl | rfl | rfl | rfl | rfl | rfl | rfl | rfl | rfl | rfl | rfl | rfl | rfl | rfl | rfl | rfl | rfl
  · exact k_Tv_stage
  · exact k_Tv_commit
  · exact k_Tv_merge
  · exact k_Tv_fold
  · exact k_Tv_free
  · exact k_Tv_like
  · exact k_Tv_spoil
  · exact k_Tv_mend
  · exact k_Tv_close
  · exact k_Tv_undo
  · exact k_Tv_is
  · exact k_Tv_of
  · exact k_Tv_read
  · exact k_Tv_block
  · exact k_Tv_ofBlock
  · exact k_Tv_ofPart
  · exact k_Tv_place
  · exact k_Tv_owners
  · exact k_Tv_wrong
  · exact k_Tv_differs
theorem k_blk_6 (j : Nat) (h1 : 120 ≤ j) (h2 : j < 140) : am_rok (am_bt j) (am_oc j) (am_P j).1 (am_P j).2.2 := by
  rcases (show j = 120 ∨ j = 121 ∨ j = 122 ∨ j = 123 ∨ j = 124 ∨ j = 125 ∨ j = 126 ∨ j = 127 ∨ j = 128 ∨ j = 129 ∨ j = 130 ∨ j = 131 ∨ j = 132 ∨ j = 133 ∨ j = 134 ∨ j = 135 ∨ j = 136 ∨ j = 137 ∨ j = 138 ∨ j = 139 by omega) with rfl | rfl | rfl | rfl | rfl | rfl | rfl | rfl | rfl | rfl | rfl | rfl | rfl | rfl | rfl | rfl | rfl | rfl | rfl | rfl
  · exact k_Tv_walked
  · exact k_Tv_changed
  · exact k_Tv_frees
  · exact k_Tv_heaviest
  · exact k_Tv_path
  · exact k_Tv_find
  · exact k_Tv_times
  · exact k_Tv_counted
  · exact k_Tv_hottest
  · exact k_Tv_leaves
  · exact k_Tv_parts
  · exact k_Tv_staged
  · exact k_Tv_stream
  · exact k_Tv_children
  · exact k_Tv_nearest
  · exact k_Tv_run
  · exact k_Tv_next
  · exact k_Tv_needs
  · exact k_Tv_saved
  · exact k_Tv_full
theorem k_blk_7 (j : Nat) (h1 : 140 ≤ j) (h2 : j < 160) : am_rok (am_bt j) (am_oc j) (am_P j).1 (am_P j).2.2 := by
  rcases (show j = 140 ∨ j = 141 ∨ j = 142 ∨ j = 143 ∨ j = 144 ∨ j = 145 ∨ j = 146 ∨ j = 147 ∨ j = 148 ∨ j = 149 ∨ j = 150 ∨ j = 151 ∨ j = 152 ∨ j = 153 ∨ j = 154 ∨ j = 155 ∨ j = 156 ∨ j = 157 ∨ j = 158 ∨ j = 159 by omega) with rfl | rfl | rfl | rfl | rfl | rfl | rfl | rfl | rfl | rfl | rfl | rfl | rfl | rfl | rfl | rfl | rfl | rfl | rfl | rfl
  · exact k_Tv_mean
  · exact k_Tv_digest
  · exact k_Tv_image
  · exact k_Tv_back
  · exact k_Tv_steps
  · exact k_Tv_isSize
  · exact k_Tv_isQuota
  · exact k_Tv_isValue
  · exact k_Tv_isThing
  · exact k_Tv_isPart
  · exact k_Tv_partNumber
  · exact k_Tv_placeOf
  · exact k_Tv_isUsedPart
  · exact k_Tv_isInside
  · exact k_Tv_isPiece
  · exact k_Tv_isSound
  · exact k_Tv_isOpenToHand
  · exact k_Tv_begin
  · exact k_Tv_keepStep
  · exact k_Tv_settle
theorem k_blk_8 (j : Nat) (h1 : 160 ≤ j) (h2 : j < 180) : am_rok (am_bt j) (am_oc j) (am_P j).1 (am_P j).2.2 := by
  rcases (show j = 160 ∨ j = 161 ∨ j = 162 ∨ j = 163 ∨ j = 164 ∨ j = 165 ∨ j = 166 ∨ j = 167 ∨ j = 168 ∨ j = 169 ∨ j = 170 ∨ j = 171 ∨ j = 172 ∨ j = 173 ∨ j = 174 ∨ j = 175 ∨ j = 176 ∨ j = 177 ∨ j = 178 ∨ j = 179 by omega) with rfl | rfl | rfl | rfl | rfl | rfl | rfl | rfl | rfl | rfl | rfl | rfl | rfl | rfl | rfl | rfl | rfl | rfl | rfl | rfl
  · exact k_Tv_freedBy
  · exact k_Tv_bitsOfFloat
  · exact k_Tv_bitsOfDouble
  · exact k_Md_copy
  · exact k_Md_isIn
  · exact k_Md_valueOf
  · exact k_Md_blockCount
  · exact k_Md_letBlock
  · exact k_Md_isBlock
  · exact k_Md_kindOf
  · exact k_Md_partCount
  · exact k_Md_letPart
  · exact k_Md_isPart
  · exact k_Md_placeOf
  · exact k_Md_letPlace
  · exact k_Md_get
  · exact k_Md_let
  · exact k_Md_isVolume
  · exact k_Md_blocks
  · exact k_Md_partsOf
theorem k_blk_9 (j : Nat) (h1 : 180 ≤ j) (h2 : j < 200) : am_rok (am_bt j) (am_oc j) (am_P j).1 (am_P j).2.2 := by
  rcases (show j = 180 ∨ j = 181 ∨ j = 182 ∨ j = 183 ∨ j = 184 ∨ j = 185 ∨ j = 186 ∨ j = 187 ∨ j = 188 ∨ j = 189 ∨ j = 190 ∨ j = 191 ∨ j = 192 ∨ j = 193 ∨ j = 194 ∨ j = 195 ∨ j = 196 ∨ j = 197 ∨ j = 198 ∨ j = 199 by omega) with rfl | rfl | rfl | rfl | rfl | rfl | rfl | rfl | rfl | rfl | rfl | rfl | rfl | rfl | rfl | rfl | rfl | rfl | rfl | rfl
  · exact k_Md_stepIn
  · exact k_Md_partAt
  · exact k_Md_blockAt
  · exact k_Md_readAt
  · exact k_Md_usedOf
  · exact k_Md_letGoBlock
  · exact k_Md_letGoLeaf
  · exact k_Md_letGoTwig
  · exact k_Md_letGoTrunk
  · exact k_Md_letGoPart
  · exact k_Md_letGoIn
  · exact k_Md_countIn
  · exact k_Md_hang
  · exact k_Md_hangTrunk
  · exact k_Md_newPart
  · exact k_Md_newBlock
  · exact k_Md_own
  · exact k_Md_openTo
  · exact k_Md_isEmpty
  · exact k_Md_shut
theorem k_blk_10 (j : Nat) (h1 : 200 ≤ j) (h2 : j < 220) : am_rok (am_bt j) (am_oc j) (am_P j).1 (am_P j).2.2 := by
  rcases (show j = 200 ∨ j = 201 ∨ j = 202 ∨ j = 203 ∨ j = 204 ∨ j = 205 ∨ j = 206 ∨ j = 207 ∨ j = 208 ∨ j = 209 ∨ j = 210 ∨ j = 211 ∨ j = 212 ∨ j = 213 ∨ j = 214 ∨ j = 215 ∨ j = 216 ∨ j = 217 ∨ j = 218 ∨ j = 219 by omega) with rfl | rfl | rfl | rfl | rfl | rfl | rfl | rfl | rfl | rfl | rfl | rfl | rfl | rfl | rfl | rfl | rfl | rfl | rfl | rfl
  · exact k_Md_blockWith
  · exact k_Md_writeNow
  · exact k_Md_wipeNow
  · exact k_Md_begin
  · exact k_Md_bringBack
  · exact k_Md_stepAt
  · exact k_Md_keep
  · exact k_Md_reserves
  · exact k_Md_isRight
  · exact k_Md_end
  · exact k_Md_endBoth
  · exact k_Md_isOpen
  · exact k_Md_isAddress
  · exact k_Md_undo
  · exact k_Md_newVolume
  · exact k_Md_make
  · exact k_Md_take
  · exact k_Md_write
  · exact k_Md_wipe
  · exact k_Md_bring
theorem k_blk_11 (j : Nat) (h1 : 220 ≤ j) (h2 : j < 240) : am_rok (am_bt j) (am_oc j) (am_P j).1 (am_P j).2.2 := by
  rcases (show j = 220 ∨ j = 221 ∨ j = 222 ∨ j = 223 ∨ j = 224 ∨ j = 225 ∨ j = 226 ∨ j = 227 ∨ j = 228 ∨ j = 229 ∨ j = 230 ∨ j = 231 ∨ j = 232 ∨ j = 233 ∨ j = 234 ∨ j = 235 ∨ j = 236 ∨ j = 237 ∨ j = 238 ∨ j = 239 by omega) with rfl | rfl | rfl | rfl | rfl | rfl | rfl | rfl | rfl | rfl | rfl | rfl | rfl | rfl | rfl | rfl | rfl | rfl | rfl | rfl
  · exact k_Md_size
  · exact k_Md_quota
  · exact k_Md_isRow
  · exact k_Md_shareOne
  · exact k_Md_share
  · exact k_Md_move
  · exact k_Md_swap
  · exact k_Md_graft
  · exact k_Md_fill
  · exact k_Md_reserve
  · exact k_Md_hold
  · exact k_Md_freeNow
  · exact k_Md_bornBehind
  · exact k_Md_isPrunable
  · exact k_Md_prune
  · exact k_Md_free
  · exact k_Md_like
  · exact k_Md_layPlaces
  · exact k_Md_isWrongBlock
  · exact k_Md_isWrongPart
theorem k_blk_12 (j : Nat) (h1 : 240 ≤ j) (h2 : j < 260) : am_rok (am_bt j) (am_oc j) (am_P j).1 (am_P j).2.2 := by
  rcases (show j = 240 ∨ j = 241 ∨ j = 242 ∨ j = 243 ∨ j = 244 ∨ j = 245 ∨ j = 246 ∨ j = 247 ∨ j = 248 ∨ j = 249 ∨ j = 250 ∨ j = 251 ∨ j = 252 ∨ j = 253 ∨ j = 254 ∨ j = 255 ∨ j = 256 ∨ j = 257 ∨ j = 258 ∨ j = 259 by omega) with rfl | rfl | rfl | rfl | rfl | rfl | rfl | rfl | rfl | rfl | rfl | rfl | rfl | rfl | rfl | rfl | rfl | rfl | rfl | rfl
  · exact k_Md_wrong
  · exact k_Md_spoil
  · exact k_Md_mend
  · exact k_Md_layBlocks
  · exact k_Md_layParts
  · exact k_Md_close
  · exact k_Md_placeIn
  · exact k_Md_walkLeaves
  · exact k_Md_walkTwigs
  · exact k_Md_layDifference
  · exact k_Md_areVolumes
  · exact k_Md_differs
  · exact k_Md_walked
  · exact k_Md_changed
  · exact k_Md_send
  · exact k_Md_stream
  · exact k_Md_doRow
  · exact k_Md_receive
  · exact k_Md_stage
  · exact k_Md_staged
theorem k_blk_13 (j : Nat) (h1 : 260 ≤ j) (h2 : j < 280) : am_rok (am_bt j) (am_oc j) (am_P j).1 (am_P j).2.2 := by
  rcases (show j = 260 ∨ j = 261 ∨ j = 262 ∨ j = 263 ∨ j = 264 ∨ j = 265 ∨ j = 266 ∨ j = 267 ∨ j = 268 ∨ j = 269 ∨ j = 270 ∨ j = 271 ∨ j = 272 ∨ j = 273 ∨ j = 274 ∨ j = 275 ∨ j = 276 ∨ j = 277 ∨ j = 278 ∨ j = 279 by omega) with rfl | rfl | rfl | rfl | rfl | rfl | rfl | rfl | rfl | rfl | rfl | rfl | rfl | rfl | rfl | rfl | rfl | rfl | rfl | rfl
  · exact k_Md_commit
  · exact k_Md_merge
  · exact k_Md_areLike
  · exact k_Md_likePart
  · exact k_Md_replace
  · exact k_Md_fold
  · exact k_Md_mapped
  · exact k_Md_volumes
  · exact k_Md_counts
  · exact k_Md_is
  · exact k_Md_heightOf
  · exact k_Md_of
  · exact k_Md_read
  · exact k_Md_block
  · exact k_Md_ofBlock
  · exact k_Md_filled
  · exact k_Md_ofPart
  · exact k_Md_place
  · exact k_Md_hasBlock
  · exact k_Md_path
theorem k_blk_14 (j : Nat) (h1 : 280 ≤ j) (h2 : j < 300) : am_rok (am_bt j) (am_oc j) (am_P j).1 (am_P j).2.2 := by
  rcases (show j = 280 ∨ j = 281 ∨ j = 282 ∨ j = 283 ∨ j = 284 ∨ j = 285 ∨ j = 286 ∨ j = 287 ∨ j = 288 ∨ j = 289 ∨ j = 290 ∨ j = 291 ∨ j = 292 ∨ j = 293 ∨ j = 294 ∨ j = 295 ∨ j = 296 ∨ j = 297 ∨ j = 298 ∨ j = 299 by omega) with rfl | rfl | rfl | rfl | rfl | rfl | rfl | rfl | rfl | rfl | rfl | rfl | rfl | rfl | rfl | rfl | rfl | rfl | rfl | rfl
  · exact k_Md_isThere
  · exact k_Md_find
  · exact k_Md_times
  · exact k_Md_counted
  · exact k_Md_hasPart
  · exact k_Md_parts
  · exact k_Md_hottest
  · exact k_Md_holdsBlock
  · exact k_Md_leaves
  · exact k_Md_owners
  · exact k_Md_freed
  · exact k_Md_frees
  · exact k_Md_heaviest
  · exact k_Md_children
  · exact k_Md_isAbove
  · exact k_Md_nearest
  · exact k_Md_layRuns
  · exact k_Md_run
  · exact k_Md_next
  · exact k_Md_needs
theorem k_blk_15 (j : Nat) (h1 : 300 ≤ j) (h2 : j < 312) : am_rok (am_bt j) (am_oc j) (am_P j).1 (am_P j).2.2 := by
  rcases (show j = 300 ∨ j = 301 ∨ j = 302 ∨ j = 303 ∨ j = 304 ∨ j = 305 ∨ j = 306 ∨ j = 307 ∨ j = 308 ∨ j = 309 ∨ j = 310 ∨ j = 311 by omega) with rfl | rfl | rfl | rfl | rfl | rfl | rfl | rfl | rfl | rfl | rfl | rfl
  · exact k_Md_saved
  · exact k_Md_full
  · exact k_Md_mean
  · exact k_Md_digest
  · exact k_Md_image
  · exact k_Md_back
  · exact k_Md_steps
  · exact k_Du_isNaN
  · exact k_Du_doubleToLongBits
  · exact k_Fl_isNaN
  · exact k_Fl_floatToIntBits
  · exact k_Ar_fill
theorem k_all (j : Nat) (h : j < am_nm) : am_rok (am_bt j) (am_oc j) (am_P j).1 (am_P j).2.2 := by
  have h : j < 312 := h
  by_cases h0 : j < 20
  · exact k_blk_0 j (by omega) h0
  by_cases h1 : j < 40
  · exact k_blk_1 j (by omega) h1
  by_cases h2 : j < 60
  · exact k_blk_2 j (by omega) h2
  by_cases h3 : j < 80
  · exact k_blk_3 j (by omega) h3
  by_cases h4 : j < 100
  · exact k_blk_4 j (by omega) h4
  by_cases h5 : j < 120
  · exact k_blk_5 j (by omega) h5
  by_cases h6 : j < 140
  · exact k_blk_6 j (by omega) h6
  by_cases h7 : j < 160
  · exact k_blk_7 j (by omega) h7
  by_cases h8 : j < 180
  · exact k_blk_8 j (by omega) h8
  by_cases h9 : j < 200
  · exact k_blk_9 j (by omega) h9
  by_cases h10 : j < 220
  · exact k_blk_10 j (by omega) h10
  by_cases h11 : j < 240
  · exact k_blk_11 j (by omega) h11
  by_cases h12 : j < 260
  · exact k_blk_12 j (by omega) h12
  by_cases h13 : j < 280
  · exact k_blk_13 j (by omega) h13
  by_cases h14 : j < 300
  · exact k_blk_14 j (by omega) h14
  exact k_blk_15 j (by omega) h
