/-! the code words, method by method -/
theorem q_Df_look : Cond.code (am_y 0) (am_bt 0) (am_P 0).1 (am_rt (am_P 0).2.1) ∈ lw_tbl := (List.mem_append_right _ (List.mem_append_right _ (List.mem_append_left _ (List.mem_of_getElem? (i := 227) rfl))))
theorem q_Df_walk : Cond.code (am_y 1) (am_bt 1) (am_P 1).1 (am_rt (am_P 1).2.1) ∈ lw_tbl := (List.mem_append_right _ (List.mem_append_right _ (List.mem_append_left _ (List.mem_of_getElem? (i := 232) rfl))))
theorem q_Df_note : Cond.code (am_y 2) (am_bt 2) (am_P 2).1 (am_rt (am_P 2).2.1) ∈ lw_tbl := (List.mem_append_right _ (List.mem_append_right _ (List.mem_append_left _ (List.mem_of_getElem? (i := 237) rfl))))
theorem q_Df_addressAt : Cond.code (am_y 3) (am_bt 3) (am_P 3).1 (am_rt (am_P 3).2.1) ∈ lw_tbl := (List.mem_append_right _ (List.mem_append_right _ (List.mem_append_right _ (List.mem_append_left _ (List.mem_of_getElem? (i := 1) rfl)))))
theorem q_Pa_keep : Cond.code (am_y 4) (am_bt 4) (am_P 4).1 (am_rt (am_P 4).2.1) ∈ lw_tbl := (List.mem_append_right _ (List.mem_append_right _ (List.mem_append_left _ (List.mem_of_getElem? (i := 14) rfl))))
theorem q_Pa_takeLatest : Cond.code (am_y 5) (am_bt 5) (am_P 5).1 (am_rt (am_P 5).2.1) ∈ lw_tbl := (List.mem_append_right _ (List.mem_append_right _ (List.mem_append_right _ (List.mem_append_left _ (List.mem_of_getElem? (i := 144) rfl)))))
theorem q_Pa_copyFrom : Cond.code (am_y 6) (am_bt 6) (am_P 6).1 (am_rt (am_P 6).2.1) ∈ lw_tbl := (List.mem_append_right _ (List.mem_append_right _ (List.mem_append_right _ (List.mem_append_right _ (List.mem_append_left _ (List.mem_of_getElem? (i := 154) rfl))))))
theorem q_Po_copyFrom : Cond.code (am_y 7) (am_bt 7) (am_P 7).1 (am_rt (am_P 7).2.1) ∈ lw_tbl := (List.mem_append_right _ (List.mem_append_left _ (List.mem_of_getElem? (i := 238) rfl)))
theorem q_Po_isUsedBlock : Cond.code (am_y 8) (am_bt 8) (am_P 8).1 (am_rt (am_P 8).2.1) ∈ lw_tbl := (List.mem_append_right _ (List.mem_append_right _ (List.mem_append_right _ (List.mem_append_left _ (List.mem_of_getElem? (i := 108) rfl)))))
theorem q_Po_countOf : Cond.code (am_y 9) (am_bt 9) (am_P 9).1 (am_rt (am_P 9).2.1) ∈ lw_tbl := (List.mem_append_right _ (List.mem_append_right _ (List.mem_append_left _ (List.mem_of_getElem? (i := 79) rfl))))
theorem q_Po_valueOf : Cond.code (am_y 10) (am_bt 10) (am_P 10).1 (am_rt (am_P 10).2.1) ∈ lw_tbl := (List.mem_append_right _ (List.mem_append_right _ (List.mem_append_right _ (List.mem_append_left _ (List.mem_of_getElem? (i := 5) rfl)))))
theorem q_Po_setValue : Cond.code (am_y 11) (am_bt 11) (am_P 11).1 (am_rt (am_P 11).2.1) ∈ lw_tbl := (List.mem_append_right _ (List.mem_append_right _ (List.mem_append_left _ (List.mem_of_getElem? (i := 98) rfl))))
theorem q_Po_kindOf : Cond.code (am_y 12) (am_bt 12) (am_P 12).1 (am_rt (am_P 12).2.1) ∈ lw_tbl := (List.mem_append_right _ (List.mem_append_right _ (List.mem_append_right _ (List.mem_append_left _ (List.mem_of_getElem? (i := 60) rfl)))))
theorem q_Po_at : Cond.code (am_y 13) (am_bt 13) (am_P 13).1 (am_rt (am_P 13).2.1) ∈ lw_tbl := (List.mem_append_right _ (List.mem_append_left _ (List.mem_of_getElem? (i := 222) rfl)))
theorem q_Po_raise : Cond.code (am_y 14) (am_bt 14) (am_P 14).1 (am_rt (am_P 14).2.1) ∈ lw_tbl := (List.mem_append_right _ (List.mem_append_right _ (List.mem_append_left _ (List.mem_of_getElem? (i := 31) rfl))))
theorem q_Po_hang : Cond.code (am_y 15) (am_bt 15) (am_P 15).1 (am_rt (am_P 15).2.1) ∈ lw_tbl := (List.mem_append_right _ (List.mem_append_right _ (List.mem_append_left _ (List.mem_of_getElem? (i := 89) rfl))))
theorem q_Po_letGo : Cond.code (am_y 16) (am_bt 16) (am_P 16).1 (am_rt (am_P 16).2.1) ∈ lw_tbl := (List.mem_append_right _ (List.mem_append_right _ (List.mem_append_left _ (List.mem_of_getElem? (i := 35) rfl))))
theorem q_Po_leastFree : Cond.code (am_y 17) (am_bt 17) (am_P 17).1 (am_rt (am_P 17).2.1) ∈ lw_tbl := (List.mem_append_right _ (List.mem_append_right _ (List.mem_append_left _ (List.mem_of_getElem? (i := 83) rfl))))
theorem q_Po_newBlock : Cond.code (am_y 18) (am_bt 18) (am_P 18).1 (am_rt (am_P 18).2.1) ∈ lw_tbl := (List.mem_append_right _ (List.mem_append_right _ (List.mem_append_left _ (List.mem_of_getElem? (i := 102) rfl))))
theorem q_Po_ownPart : Cond.code (am_y 19) (am_bt 19) (am_P 19).1 (am_rt (am_P 19).2.1) ∈ lw_tbl := (List.mem_append_right _ (List.mem_append_right _ (List.mem_append_left _ (List.mem_of_getElem? (i := 75) rfl))))
theorem q_Po_leastBlockWith : Cond.code (am_y 20) (am_bt 20) (am_P 20).1 (am_rt (am_P 20).2.1) ∈ lw_tbl := (List.mem_append_right _ (List.mem_append_right _ (List.mem_append_left _ (List.mem_of_getElem? (i := 93) rfl))))
theorem q_Po_filledPlaces : Cond.code (am_y 21) (am_bt 21) (am_P 21).1 (am_rt (am_P 21).2.1) ∈ lw_tbl := (List.mem_append_right _ (List.mem_append_right _ (List.mem_append_left _ (List.mem_of_getElem? (i := 123) rfl))))
theorem q_Po_usedBlocks : Cond.code (am_y 22) (am_bt 22) (am_P 22).1 (am_rt (am_P 22).2.1) ∈ lw_tbl := (List.mem_append_right _ (List.mem_append_right _ (List.mem_append_left _ (List.mem_of_getElem? (i := 129) rfl))))
theorem q_Po_usedParts : Cond.code (am_y 23) (am_bt 23) (am_P 23).1 (am_rt (am_P 23).2.1) ∈ lw_tbl := (List.mem_append_right _ (List.mem_append_right _ (List.mem_append_right _ (List.mem_append_left _ (List.mem_of_getElem? (i := 71) rfl)))))
theorem q_Po_usedLeaves : Cond.code (am_y 24) (am_bt 24) (am_P 24).1 (am_rt (am_P 24).2.1) ∈ lw_tbl := (List.mem_append_right _ (List.mem_append_right _ (List.mem_append_right _ (List.mem_append_left _ (List.mem_of_getElem? (i := 161) rfl)))))
theorem q_Po_countsTogether : Cond.code (am_y 25) (am_bt 25) (am_P 25).1 (am_rt (am_P 25).2.1) ∈ lw_tbl := (List.mem_append_right _ (List.mem_append_right _ (List.mem_append_right _ (List.mem_append_left _ (List.mem_of_getElem? (i := 165) rfl)))))
theorem q_Po_mostCounted : Cond.code (am_y 26) (am_bt 26) (am_P 26).1 (am_rt (am_P 26).2.1) ∈ lw_tbl := (List.mem_append_right _ (List.mem_append_right _ (List.mem_append_right _ (List.mem_append_left _ (List.mem_of_getElem? (i := 169) rfl)))))
theorem q_Po_placesOf : Cond.code (am_y 27) (am_bt 27) (am_P 27).1 (am_rt (am_P 27).2.1) ∈ lw_tbl := (List.mem_append_right _ (List.mem_append_right _ (List.mem_append_right _ (List.mem_append_left _ (List.mem_of_getElem? (i := 221) rfl)))))
theorem q_Po_leavesWith : Cond.code (am_y 28) (am_bt 28) (am_P 28).1 (am_rt (am_P 28).2.1) ∈ lw_tbl := (List.mem_append_right _ (List.mem_append_right _ (List.mem_append_right _ (List.mem_append_right _ (List.mem_append_left _ (List.mem_of_getElem? (i := 66) rfl))))))
theorem q_Po_timesIn : Cond.code (am_y 29) (am_bt 29) (am_P 29).1 (am_rt (am_P 29).2.1) ∈ lw_tbl := (List.mem_append_right _ (List.mem_append_right _ (List.mem_append_right _ (List.mem_append_left _ (List.mem_of_getElem? (i := 225) rfl)))))
theorem q_Po_mappedUnder : Cond.code (am_y 30) (am_bt 30) (am_P 30).1 (am_rt (am_P 30).2.1) ∈ lw_tbl := (List.mem_append_right _ (List.mem_append_right _ (List.mem_append_left _ (List.mem_of_getElem? (i := 119) rfl))))
theorem q_Po_isUnder : Cond.code (am_y 31) (am_bt 31) (am_P 31).1 (am_rt (am_P 31).2.1) ∈ lw_tbl := (List.mem_append_right _ (List.mem_append_right _ (List.mem_append_right _ (List.mem_append_right _ (List.mem_append_left _ (List.mem_of_getElem? (i := 8) rfl))))))
theorem q_Po_markUnder : Cond.code (am_y 32) (am_bt 32) (am_P 32).1 (am_rt (am_P 32).2.1) ∈ lw_tbl := (List.mem_append_right _ (List.mem_append_right _ (List.mem_append_right _ (List.mem_append_right _ (List.mem_append_left _ (List.mem_of_getElem? (i := 75) rfl))))))
theorem q_Po_joinLikeBlocks : Cond.code (am_y 33) (am_bt 33) (am_P 33).1 (am_rt (am_P 33).2.1) ∈ lw_tbl := (List.mem_append_right _ (List.mem_append_right _ (List.mem_append_right _ (List.mem_append_left _ (List.mem_of_getElem? (i := 56) rfl)))))
theorem q_Po_lesserTwin : Cond.code (am_y 34) (am_bt 34) (am_P 34).1 (am_rt (am_P 34).2.1) ∈ lw_tbl := (List.mem_append_right _ (List.mem_append_right _ (List.mem_append_right _ (List.mem_append_left _ (List.mem_of_getElem? (i := 80) rfl)))))
theorem q_Po_hasSame : Cond.code (am_y 35) (am_bt 35) (am_P 35).1 (am_rt (am_P 35).2.1) ∈ lw_tbl := (List.mem_append_right _ (List.mem_append_right _ (List.mem_append_right _ (List.mem_append_left _ (List.mem_of_getElem? (i := 84) rfl)))))
theorem q_Po_hangInstead : Cond.code (am_y 36) (am_bt 36) (am_P 36).1 (am_rt (am_P 36).2.1) ∈ lw_tbl := (List.mem_append_right _ (List.mem_append_right _ (List.mem_append_right _ (List.mem_append_left _ (List.mem_of_getElem? (i := 92) rfl)))))
theorem q_Po_addPlaces : Cond.code (am_y 37) (am_bt 37) (am_P 37).1 (am_rt (am_P 37).2.1) ∈ lw_tbl := (List.mem_append_right _ (List.mem_append_left _ (List.mem_of_getElem? (i := 218) rfl)))
theorem q_Po_numberClose : Cond.code (am_y 38) (am_bt 38) (am_P 38).1 (am_rt (am_P 38).2.1) ∈ lw_tbl := (List.mem_append_right _ (List.mem_append_right _ (List.mem_append_right _ (List.mem_append_left _ (List.mem_of_getElem? (i := 128) rfl)))))
theorem q_Po_renumber : Cond.code (am_y 39) (am_bt 39) (am_P 39).1 (am_rt (am_P 39).2.1) ∈ lw_tbl := (List.mem_append_right _ (List.mem_append_right _ (List.mem_append_right _ (List.mem_append_left _ (List.mem_of_getElem? (i := 132) rfl)))))
theorem q_Po_movePart : Cond.code (am_y 40) (am_bt 40) (am_P 40).1 (am_rt (am_P 40).2.1) ∈ lw_tbl := (List.mem_append_right _ (List.mem_append_right _ (List.mem_append_right _ (List.mem_append_left _ (List.mem_of_getElem? (i := 136) rfl)))))
theorem q_Ro_add : Cond.code (am_y 41) (am_bt 41) (am_P 41).1 (am_rt (am_P 41).2.1) ∈ lw_tbl := (List.mem_append_right _ (List.mem_append_right _ (List.mem_append_right _ (List.mem_append_left _ (List.mem_of_getElem? (i := 9) rfl)))))
theorem q_Ro_told : Cond.code (am_y 42) (am_bt 42) (am_P 42).1 (am_rt (am_P 42).2.1) ∈ lw_tbl := (List.mem_append_right _ (List.mem_append_right _ (List.mem_append_right _ (List.mem_append_left _ (List.mem_of_getElem? (i := 21) rfl)))))
theorem q_St_copyFrom : Cond.code (am_y 43) (am_bt 43) (am_P 43).1 (am_rt (am_P 43).2.1) ∈ lw_tbl := (List.mem_append_right _ (List.mem_append_left _ (List.mem_of_getElem? (i := 234) rfl)))
theorem q_St_isThere : Cond.code (am_y 44) (am_bt 44) (am_P 44).1 (am_rt (am_P 44).2.1) ∈ lw_tbl := (List.mem_append_right _ (List.mem_append_right _ (List.mem_append_left _ (List.mem_of_getElem? (i := 22) rfl))))
theorem q_St_volumes : Cond.code (am_y 45) (am_bt 45) (am_P 45).1 (am_rt (am_P 45).2.1) ∈ lw_tbl := (List.mem_append_right _ (List.mem_append_right _ (List.mem_append_right _ (List.mem_append_left _ (List.mem_of_getElem? (i := 153) rfl)))))
theorem q_St_leastFreeVolume : Cond.code (am_y 46) (am_bt 46) (am_P 46).1 (am_rt (am_P 46).2.1) ∈ lw_tbl := (List.mem_append_right _ (List.mem_append_left _ (List.mem_of_getElem? (i := 196) rfl)))
theorem q_St_addVolume : Cond.code (am_y 47) (am_bt 47) (am_P 47).1 (am_rt (am_P 47).2.1) ∈ lw_tbl := (List.mem_append_right _ (List.mem_append_right _ (List.mem_append_left _ (List.mem_of_getElem? (i := 6) rfl))))
theorem q_St_removeVolume : Cond.code (am_y 48) (am_bt 48) (am_P 48).1 (am_rt (am_P 48).2.1) ∈ lw_tbl := (List.mem_append_right _ (List.mem_append_right _ (List.mem_append_left _ (List.mem_of_getElem? (i := 219) rfl))))
theorem q_St_hangTrunk : Cond.code (am_y 49) (am_bt 49) (am_P 49).1 (am_rt (am_P 49).2.1) ∈ lw_tbl := (List.mem_append_right _ (List.mem_append_right _ (List.mem_append_left _ (List.mem_of_getElem? (i := 26) rfl))))
theorem q_St_thingAt : Cond.code (am_y 50) (am_bt 50) (am_P 50).1 (am_rt (am_P 50).2.1) ∈ lw_tbl := (List.mem_append_right _ (List.mem_append_right _ (List.mem_append_left _ (List.mem_of_getElem? (i := 67) rfl))))
theorem q_St_blockAt : Cond.code (am_y 51) (am_bt 51) (am_P 51).1 (am_rt (am_P 51).2.1) ∈ lw_tbl := (List.mem_append_right _ (List.mem_append_right _ (List.mem_append_left _ (List.mem_of_getElem? (i := 137) rfl))))
theorem q_St_valueAt : Cond.code (am_y 52) (am_bt 52) (am_P 52).1 (am_rt (am_P 52).2.1) ∈ lw_tbl := (List.mem_append_right _ (List.mem_append_right _ (List.mem_append_right _ (List.mem_append_left _ (List.mem_of_getElem? (i := 208) rfl)))))
theorem q_St_firstMapped : Cond.code (am_y 53) (am_bt 53) (am_P 53).1 (am_rt (am_P 53).2.1) ∈ lw_tbl := (List.mem_append_right _ (List.mem_append_right _ (List.mem_append_left _ (List.mem_of_getElem? (i := 190) rfl))))
theorem q_St_firstWith : Cond.code (am_y 54) (am_bt 54) (am_P 54).1 (am_rt (am_P 54).2.1) ∈ lw_tbl := (List.mem_append_right _ (List.mem_append_right _ (List.mem_append_right _ (List.mem_append_right _ (List.mem_append_left _ (List.mem_of_getElem? (i := 45) rfl))))))
theorem q_St_usedOf : Cond.code (am_y 55) (am_bt 55) (am_P 55).1 (am_rt (am_P 55).2.1) ∈ lw_tbl := (List.mem_append_right _ (List.mem_append_right _ (List.mem_append_left _ (List.mem_of_getElem? (i := 115) rfl))))
theorem q_St_mappedInAll : Cond.code (am_y 56) (am_bt 56) (am_P 56).1 (am_rt (am_P 56).2.1) ∈ lw_tbl := (List.mem_append_right _ (List.mem_append_right _ (List.mem_append_right _ (List.mem_append_left _ (List.mem_of_getElem? (i := 157) rfl)))))
theorem q_St_heldFree : Cond.code (am_y 57) (am_bt 57) (am_P 57).1 (am_rt (am_P 57).2.1) ∈ lw_tbl := (List.mem_append_right _ (List.mem_append_right _ (List.mem_append_right _ (List.mem_append_left _ (List.mem_of_getElem? (i := 174) rfl)))))
theorem q_St_isAllowed : Cond.code (am_y 58) (am_bt 58) (am_P 58).1 (am_rt (am_P 58).2.1) ∈ lw_tbl := (List.mem_append_right _ (List.mem_append_right _ (List.mem_append_left _ (List.mem_of_getElem? (i := 111) rfl))))
theorem q_St_openTo : Cond.code (am_y 59) (am_bt 59) (am_P 59).1 (am_rt (am_P 59).2.1) ∈ lw_tbl := (List.mem_append_right _ (List.mem_append_right _ (List.mem_append_left _ (List.mem_of_getElem? (i := 63) rfl))))
theorem q_St_shut : Cond.code (am_y 60) (am_bt 60) (am_P 60).1 (am_rt (am_P 60).2.1) ∈ lw_tbl := (List.mem_append_right _ (List.mem_append_right _ (List.mem_append_left _ (List.mem_of_getElem? (i := 146) rfl))))
theorem q_St_put : Cond.code (am_y 61) (am_bt 61) (am_P 61).1 (am_rt (am_P 61).2.1) ∈ lw_tbl := (List.mem_append_right _ (List.mem_append_right _ (List.mem_append_left _ (List.mem_of_getElem? (i := 59) rfl))))
theorem q_St_clear : Cond.code (am_y 62) (am_bt 62) (am_P 62).1 (am_rt (am_P 62).2.1) ∈ lw_tbl := (List.mem_append_right _ (List.mem_append_right _ (List.mem_append_left _ (List.mem_of_getElem? (i := 141) rfl))))
theorem q_St_resize : Cond.code (am_y 63) (am_bt 63) (am_P 63).1 (am_rt (am_P 63).2.1) ∈ lw_tbl := (List.mem_append_right _ (List.mem_append_right _ (List.mem_append_left _ (List.mem_of_getElem? (i := 159) rfl))))
theorem q_St_copyBlock : Cond.code (am_y 64) (am_bt 64) (am_P 64).1 (am_rt (am_P 64).2.1) ∈ lw_tbl := (List.mem_append_right _ (List.mem_append_right _ (List.mem_append_left _ (List.mem_of_getElem? (i := 177) rfl))))
theorem q_St_moveBlock : Cond.code (am_y 65) (am_bt 65) (am_P 65).1 (am_rt (am_P 65).2.1) ∈ lw_tbl := (List.mem_append_right _ (List.mem_append_right _ (List.mem_append_right _ (List.mem_append_left _ (List.mem_of_getElem? (i := 30) rfl)))))
theorem q_St_insert : Cond.code (am_y 66) (am_bt 66) (am_P 66).1 (am_rt (am_P 66).2.1) ∈ lw_tbl := (List.mem_append_right _ (List.mem_append_right _ (List.mem_append_left _ (List.mem_of_getElem? (i := 186) rfl))))
theorem q_St_takeIn : Cond.code (am_y 67) (am_bt 67) (am_P 67).1 (am_rt (am_P 67).2.1) ∈ lw_tbl := (List.mem_append_right _ (List.mem_append_right _ (List.mem_append_right _ (List.mem_append_left _ (List.mem_of_getElem? (i := 17) rfl)))))
theorem q_St_exchange : Cond.code (am_y 68) (am_bt 68) (am_P 68).1 (am_rt (am_P 68).2.1) ∈ lw_tbl := (List.mem_append_right _ (List.mem_append_right _ (List.mem_append_right _ (List.mem_append_left _ (List.mem_of_getElem? (i := 39) rfl)))))
theorem q_St_isPrunable : Cond.code (am_y 69) (am_bt 69) (am_P 69).1 (am_rt (am_P 69).2.1) ∈ lw_tbl := (List.mem_append_right _ (List.mem_append_right _ (List.mem_append_left _ (List.mem_of_getElem? (i := 210) rfl))))
theorem q_St_prunableAfter : Cond.code (am_y 70) (am_bt 70) (am_P 70).1 (am_rt (am_P 70).2.1) ∈ lw_tbl := (List.mem_append_right _ (List.mem_append_right _ (List.mem_append_left _ (List.mem_of_getElem? (i := 214) rfl))))
theorem q_St_joinLikeParts : Cond.code (am_y 71) (am_bt 71) (am_P 71).1 (am_rt (am_P 71).2.1) ∈ lw_tbl := (List.mem_append_right _ (List.mem_append_right _ (List.mem_append_right _ (List.mem_append_left _ (List.mem_of_getElem? (i := 75) rfl)))))
theorem q_St_hangTrunkInstead : Cond.code (am_y 72) (am_bt 72) (am_P 72).1 (am_rt (am_P 72).2.1) ∈ lw_tbl := (List.mem_append_right _ (List.mem_append_right _ (List.mem_append_right _ (List.mem_append_left _ (List.mem_of_getElem? (i := 88) rfl)))))
theorem q_St_countPlaces : Cond.code (am_y 73) (am_bt 73) (am_P 73).1 (am_rt (am_P 73).2.1) ∈ lw_tbl := (List.mem_append_right _ (List.mem_append_left _ (List.mem_of_getElem? (i := 214) rfl)))
theorem q_St_firstWrong : Cond.code (am_y 74) (am_bt 74) (am_P 74).1 (am_rt (am_P 74).2.1) ∈ lw_tbl := (List.mem_append_right _ (List.mem_append_left _ (List.mem_of_getElem? (i := 210) rfl)))
theorem q_St_mendCounts : Cond.code (am_y 75) (am_bt 75) (am_P 75).1 (am_rt (am_P 75).2.1) ∈ lw_tbl := (List.mem_append_right _ (List.mem_append_right _ (List.mem_append_right _ (List.mem_append_left _ (List.mem_of_getElem? (i := 116) rfl)))))
theorem q_St_layClose : Cond.code (am_y 76) (am_bt 76) (am_P 76).1 (am_rt (am_P 76).2.1) ∈ lw_tbl := (List.mem_append_right _ (List.mem_append_right _ (List.mem_append_right _ (List.mem_append_left _ (List.mem_of_getElem? (i := 124) rfl)))))
theorem q_St_parentsAbove : Cond.code (am_y 77) (am_bt 77) (am_P 77).1 (am_rt (am_P 77).2.1) ∈ lw_tbl := (List.mem_append_right _ (List.mem_append_right _ (List.mem_append_right _ (List.mem_append_left _ (List.mem_of_getElem? (i := 192) rfl)))))
theorem q_St_isSelfOrAbove : Cond.code (am_y 78) (am_bt 78) (am_P 78).1 (am_rt (am_P 78).2.1) ∈ lw_tbl := (List.mem_append_right _ (List.mem_append_right _ (List.mem_append_right _ (List.mem_append_right _ (List.mem_append_left _ (List.mem_of_getElem? (i := 97) rfl))))))
theorem q_St_isRunStart : Cond.code (am_y 79) (am_bt 79) (am_P 79).1 (am_rt (am_P 79).2.1) ∈ lw_tbl := (List.mem_append_right _ (List.mem_append_right _ (List.mem_append_right _ (List.mem_append_left _ (List.mem_of_getElem? (i := 200) rfl)))))
theorem q_St_runsOf : Cond.code (am_y 80) (am_bt 80) (am_P 80).1 (am_rt (am_P 80).2.1) ∈ lw_tbl := (List.mem_append_right _ (List.mem_append_right _ (List.mem_append_right _ (List.mem_append_left _ (List.mem_of_getElem? (i := 196) rfl)))))
theorem q_St_runStart : Cond.code (am_y 81) (am_bt 81) (am_P 81).1 (am_rt (am_P 81).2.1) ∈ lw_tbl := (List.mem_append_right _ (List.mem_append_right _ (List.mem_append_right _ (List.mem_append_right _ (List.mem_append_left _ (List.mem_of_getElem? (i := 105) rfl))))))
theorem q_St_runLength : Cond.code (am_y 82) (am_bt 82) (am_P 82).1 (am_rt (am_P 82).2.1) ∈ lw_tbl := (List.mem_append_right _ (List.mem_append_right _ (List.mem_append_right _ (List.mem_append_right _ (List.mem_append_left _ (List.mem_of_getElem? (i := 109) rfl))))))
theorem q_Tv_make : Cond.code (am_y 83) (am_bt 83) (am_P 83).1 (am_rt (am_P 83).2.1) ∈ lw_tbl := (List.mem_append_right _ (List.mem_append_left _ (List.mem_of_getElem? (i := 192) rfl)))
theorem q_Tv_take : Cond.code (am_y 84) (am_bt 84) (am_P 84).1 (am_rt (am_P 84).2.1) ∈ lw_tbl := (List.mem_append_right _ (List.mem_append_right _ (List.mem_append_left _ (List.mem_of_getElem? (i := 18) rfl))))
theorem q_Tv_write : Cond.code (am_y 85) (am_bt 85) (am_P 85).1 (am_rt (am_P 85).2.1) ∈ lw_tbl := (List.mem_append_right _ (List.mem_append_right _ (List.mem_append_left _ (List.mem_of_getElem? (i := 43) rfl))))
theorem q_Tv_wipe : Cond.code (am_y 86) (am_bt 86) (am_P 86).1 (am_rt (am_P 86).2.1) ∈ lw_tbl := (List.mem_append_right _ (List.mem_append_right _ (List.mem_append_left _ (List.mem_of_getElem? (i := 133) rfl))))
theorem q_Tv_bring : Cond.code (am_y 87) (am_bt 87) (am_P 87).1 (am_rt (am_P 87).2.1) ∈ lw_tbl := (List.mem_append_right _ (List.mem_append_right _ (List.mem_append_left _ (List.mem_of_getElem? (i := 151) rfl))))
theorem q_Tv_size : Cond.code (am_y 88) (am_bt 88) (am_P 88).1 (am_rt (am_P 88).2.1) ∈ lw_tbl := (List.mem_append_right _ (List.mem_append_right _ (List.mem_append_left _ (List.mem_of_getElem? (i := 155) rfl))))
theorem q_Tv_quota : Cond.code (am_y 89) (am_bt 89) (am_P 89).1 (am_rt (am_P 89).2.1) ∈ lw_tbl := (List.mem_append_right _ (List.mem_append_right _ (List.mem_append_left _ (List.mem_of_getElem? (i := 164) rfl))))
theorem q_Tv_share : Cond.code (am_y 90) (am_bt 90) (am_P 90).1 (am_rt (am_P 90).2.1) ∈ lw_tbl := (List.mem_append_right _ (List.mem_append_right _ (List.mem_append_left _ (List.mem_of_getElem? (i := 169) rfl))))
theorem q_Tv_graft : Cond.code (am_y 91) (am_bt 91) (am_P 91).1 (am_rt (am_P 91).2.1) ∈ lw_tbl := (List.mem_append_right _ (List.mem_append_right _ (List.mem_append_left _ (List.mem_of_getElem? (i := 181) rfl))))
theorem q_Tv_fill : Cond.code (am_y 92) (am_bt 92) (am_P 92).1 (am_rt (am_P 92).2.1) ∈ lw_tbl := (List.mem_append_right _ (List.mem_append_right _ (List.mem_append_left _ (List.mem_of_getElem? (i := 194) rfl))))
theorem q_Tv_reserve : Cond.code (am_y 93) (am_bt 93) (am_P 93).1 (am_rt (am_P 93).2.1) ∈ lw_tbl := (List.mem_append_right _ (List.mem_append_right _ (List.mem_append_left _ (List.mem_of_getElem? (i := 198) rfl))))
theorem q_Tv_hold : Cond.code (am_y 94) (am_bt 94) (am_P 94).1 (am_rt (am_P 94).2.1) ∈ lw_tbl := (List.mem_append_right _ (List.mem_append_right _ (List.mem_append_left _ (List.mem_of_getElem? (i := 202) rfl))))
theorem q_Tv_prune : Cond.code (am_y 95) (am_bt 95) (am_P 95).1 (am_rt (am_P 95).2.1) ∈ lw_tbl := (List.mem_append_right _ (List.mem_append_right _ (List.mem_append_left _ (List.mem_of_getElem? (i := 206) rfl))))
theorem q_Tv_send : Cond.code (am_y 96) (am_bt 96) (am_P 96).1 (am_rt (am_P 96).2.1) ∈ lw_tbl := (List.mem_append_right _ (List.mem_append_right _ (List.mem_append_left _ (List.mem_of_getElem? (i := 223) rfl))))
theorem q_Tv_receive : Cond.code (am_y 97) (am_bt 97) (am_P 97).1 (am_rt (am_P 97).2.1) ∈ lw_tbl := (List.mem_append_right _ (List.mem_append_right _ (List.mem_append_right _ (List.mem_append_left _ (List.mem_of_getElem? (i := 13) rfl)))))
theorem q_Tv_move : Cond.code (am_y 98) (am_bt 98) (am_P 98).1 (am_rt (am_P 98).2.1) ∈ lw_tbl := (List.mem_append_right _ (List.mem_append_right _ (List.mem_append_right _ (List.mem_append_left _ (List.mem_of_getElem? (i := 26) rfl)))))
theorem q_Tv_swap : Cond.code (am_y 99) (am_bt 99) (am_P 99).1 (am_rt (am_P 99).2.1) ∈ lw_tbl := (List.mem_append_right _ (List.mem_append_right _ (List.mem_append_right _ (List.mem_append_left _ (List.mem_of_getElem? (i := 35) rfl)))))
theorem q_Tv_stage : Cond.code (am_y 100) (am_bt 100) (am_P 100).1 (am_rt (am_P 100).2.1) ∈ lw_tbl := (List.mem_append_right _ (List.mem_append_right _ (List.mem_append_right _ (List.mem_append_left _ (List.mem_of_getElem? (i := 43) rfl)))))
theorem q_Tv_commit : Cond.code (am_y 101) (am_bt 101) (am_P 101).1 (am_rt (am_P 101).2.1) ∈ lw_tbl := (List.mem_append_right _ (List.mem_append_right _ (List.mem_append_right _ (List.mem_append_left _ (List.mem_of_getElem? (i := 47) rfl)))))
theorem q_Tv_merge : Cond.code (am_y 102) (am_bt 102) (am_P 102).1 (am_rt (am_P 102).2.1) ∈ lw_tbl := (List.mem_append_right _ (List.mem_append_right _ (List.mem_append_right _ (List.mem_append_left _ (List.mem_of_getElem? (i := 51) rfl)))))
theorem q_Tv_fold : Cond.code (am_y 103) (am_bt 103) (am_P 103).1 (am_rt (am_P 103).2.1) ∈ lw_tbl := (List.mem_append_right _ (List.mem_append_right _ (List.mem_append_right _ (List.mem_append_left _ (List.mem_of_getElem? (i := 67) rfl)))))
theorem q_Tv_free : Cond.code (am_y 104) (am_bt 104) (am_P 104).1 (am_rt (am_P 104).2.1) ∈ lw_tbl := (List.mem_append_right _ (List.mem_append_right _ (List.mem_append_right _ (List.mem_append_left _ (List.mem_of_getElem? (i := 96) rfl)))))
theorem q_Tv_like : Cond.code (am_y 105) (am_bt 105) (am_P 105).1 (am_rt (am_P 105).2.1) ∈ lw_tbl := (List.mem_append_right _ (List.mem_append_right _ (List.mem_append_right _ (List.mem_append_left _ (List.mem_of_getElem? (i := 100) rfl)))))
theorem q_Tv_spoil : Cond.code (am_y 106) (am_bt 106) (am_P 106).1 (am_rt (am_P 106).2.1) ∈ lw_tbl := (List.mem_append_right _ (List.mem_append_right _ (List.mem_append_right _ (List.mem_append_left _ (List.mem_of_getElem? (i := 104) rfl)))))
theorem q_Tv_mend : Cond.code (am_y 107) (am_bt 107) (am_P 107).1 (am_rt (am_P 107).2.1) ∈ lw_tbl := (List.mem_append_right _ (List.mem_append_right _ (List.mem_append_right _ (List.mem_append_left _ (List.mem_of_getElem? (i := 112) rfl)))))
theorem q_Tv_close : Cond.code (am_y 108) (am_bt 108) (am_P 108).1 (am_rt (am_P 108).2.1) ∈ lw_tbl := (List.mem_append_right _ (List.mem_append_right _ (List.mem_append_right _ (List.mem_append_left _ (List.mem_of_getElem? (i := 120) rfl)))))
theorem q_Tv_undo : Cond.code (am_y 109) (am_bt 109) (am_P 109).1 (am_rt (am_P 109).2.1) ∈ lw_tbl := (List.mem_append_right _ (List.mem_append_right _ (List.mem_append_right _ (List.mem_append_left _ (List.mem_of_getElem? (i := 140) rfl)))))
theorem q_Tv_is : Cond.code (am_y 110) (am_bt 110) (am_P 110).1 (am_rt (am_P 110).2.1) ∈ lw_tbl := (List.mem_append_right _ (List.mem_append_right _ (List.mem_append_right _ (List.mem_append_left _ (List.mem_of_getElem? (i := 149) rfl)))))
theorem q_Tv_of : Cond.code (am_y 111) (am_bt 111) (am_P 111).1 (am_rt (am_P 111).2.1) ∈ lw_tbl := (List.mem_append_right _ (List.mem_append_right _ (List.mem_append_right _ (List.mem_append_left _ (List.mem_of_getElem? (i := 178) rfl)))))
theorem q_Tv_read : Cond.code (am_y 112) (am_bt 112) (am_P 112).1 (am_rt (am_P 112).2.1) ∈ lw_tbl := (List.mem_append_right _ (List.mem_append_right _ (List.mem_append_right _ (List.mem_append_left _ (List.mem_of_getElem? (i := 204) rfl)))))
theorem q_Tv_block : Cond.code (am_y 113) (am_bt 113) (am_P 113).1 (am_rt (am_P 113).2.1) ∈ lw_tbl := (List.mem_append_right _ (List.mem_append_right _ (List.mem_append_right _ (List.mem_append_left _ (List.mem_of_getElem? (i := 213) rfl)))))
theorem q_Tv_ofBlock : Cond.code (am_y 114) (am_bt 114) (am_P 114).1 (am_rt (am_P 114).2.1) ∈ lw_tbl := (List.mem_append_right _ (List.mem_append_right _ (List.mem_append_right _ (List.mem_append_left _ (List.mem_of_getElem? (i := 217) rfl)))))
theorem q_Tv_ofPart : Cond.code (am_y 115) (am_bt 115) (am_P 115).1 (am_rt (am_P 115).2.1) ∈ lw_tbl := (List.mem_append_right _ (List.mem_append_right _ (List.mem_append_right _ (List.mem_append_left _ (List.mem_of_getElem? (i := 229) rfl)))))
theorem q_Tv_place : Cond.code (am_y 116) (am_bt 116) (am_P 116).1 (am_rt (am_P 116).2.1) ∈ lw_tbl := (List.mem_append_right _ (List.mem_append_right _ (List.mem_append_right _ (List.mem_append_left _ (List.mem_of_getElem? (i := 239) rfl)))))
theorem q_Tv_owners : Cond.code (am_y 117) (am_bt 117) (am_P 117).1 (am_rt (am_P 117).2.1) ∈ lw_tbl := (List.mem_append_right _ (List.mem_append_right _ (List.mem_append_right _ (List.mem_append_right _ (List.mem_append_left _ (List.mem_of_getElem? (i := 4) rfl))))))
theorem q_Tv_wrong : Cond.code (am_y 118) (am_bt 118) (am_P 118).1 (am_rt (am_P 118).2.1) ∈ lw_tbl := (List.mem_append_right _ (List.mem_append_right _ (List.mem_append_right _ (List.mem_append_right _ (List.mem_append_left _ (List.mem_of_getElem? (i := 13) rfl))))))
theorem q_Tv_differs : Cond.code (am_y 119) (am_bt 119) (am_P 119).1 (am_rt (am_P 119).2.1) ∈ lw_tbl := (List.mem_append_right _ (List.mem_append_right _ (List.mem_append_right _ (List.mem_append_right _ (List.mem_append_left _ (List.mem_of_getElem? (i := 17) rfl))))))
theorem q_Tv_walked : Cond.code (am_y 120) (am_bt 120) (am_P 120).1 (am_rt (am_P 120).2.1) ∈ lw_tbl := (List.mem_append_right _ (List.mem_append_right _ (List.mem_append_right _ (List.mem_append_right _ (List.mem_append_left _ (List.mem_of_getElem? (i := 21) rfl))))))
theorem q_Tv_changed : Cond.code (am_y 121) (am_bt 121) (am_P 121).1 (am_rt (am_P 121).2.1) ∈ lw_tbl := (List.mem_append_right _ (List.mem_append_right _ (List.mem_append_right _ (List.mem_append_right _ (List.mem_append_left _ (List.mem_of_getElem? (i := 25) rfl))))))
theorem q_Tv_frees : Cond.code (am_y 122) (am_bt 122) (am_P 122).1 (am_rt (am_P 122).2.1) ∈ lw_tbl := (List.mem_append_right _ (List.mem_append_right _ (List.mem_append_right _ (List.mem_append_right _ (List.mem_append_left _ (List.mem_of_getElem? (i := 29) rfl))))))
theorem q_Tv_heaviest : Cond.code (am_y 123) (am_bt 123) (am_P 123).1 (am_rt (am_P 123).2.1) ∈ lw_tbl := (List.mem_append_right _ (List.mem_append_right _ (List.mem_append_right _ (List.mem_append_right _ (List.mem_append_left _ (List.mem_of_getElem? (i := 33) rfl))))))
theorem q_Tv_path : Cond.code (am_y 124) (am_bt 124) (am_P 124).1 (am_rt (am_P 124).2.1) ∈ lw_tbl := (List.mem_append_right _ (List.mem_append_right _ (List.mem_append_right _ (List.mem_append_right _ (List.mem_append_left _ (List.mem_of_getElem? (i := 37) rfl))))))
theorem q_Tv_find : Cond.code (am_y 125) (am_bt 125) (am_P 125).1 (am_rt (am_P 125).2.1) ∈ lw_tbl := (List.mem_append_right _ (List.mem_append_right _ (List.mem_append_right _ (List.mem_append_right _ (List.mem_append_left _ (List.mem_of_getElem? (i := 41) rfl))))))
theorem q_Tv_times : Cond.code (am_y 126) (am_bt 126) (am_P 126).1 (am_rt (am_P 126).2.1) ∈ lw_tbl := (List.mem_append_right _ (List.mem_append_right _ (List.mem_append_right _ (List.mem_append_right _ (List.mem_append_left _ (List.mem_of_getElem? (i := 50) rfl))))))
theorem q_Tv_counted : Cond.code (am_y 127) (am_bt 127) (am_P 127).1 (am_rt (am_P 127).2.1) ∈ lw_tbl := (List.mem_append_right _ (List.mem_append_right _ (List.mem_append_right _ (List.mem_append_right _ (List.mem_append_left _ (List.mem_of_getElem? (i := 54) rfl))))))
theorem q_Tv_hottest : Cond.code (am_y 128) (am_bt 128) (am_P 128).1 (am_rt (am_P 128).2.1) ∈ lw_tbl := (List.mem_append_right _ (List.mem_append_right _ (List.mem_append_right _ (List.mem_append_right _ (List.mem_append_left _ (List.mem_of_getElem? (i := 58) rfl))))))
theorem q_Tv_leaves : Cond.code (am_y 129) (am_bt 129) (am_P 129).1 (am_rt (am_P 129).2.1) ∈ lw_tbl := (List.mem_append_right _ (List.mem_append_right _ (List.mem_append_right _ (List.mem_append_right _ (List.mem_append_left _ (List.mem_of_getElem? (i := 62) rfl))))))
theorem q_Tv_parts : Cond.code (am_y 130) (am_bt 130) (am_P 130).1 (am_rt (am_P 130).2.1) ∈ lw_tbl := (List.mem_append_right _ (List.mem_append_right _ (List.mem_append_right _ (List.mem_append_right _ (List.mem_append_left _ (List.mem_of_getElem? (i := 70) rfl))))))
theorem q_Tv_staged : Cond.code (am_y 131) (am_bt 131) (am_P 131).1 (am_rt (am_P 131).2.1) ∈ lw_tbl := (List.mem_append_right _ (List.mem_append_right _ (List.mem_append_right _ (List.mem_append_right _ (List.mem_append_left _ (List.mem_of_getElem? (i := 80) rfl))))))
theorem q_Tv_stream : Cond.code (am_y 132) (am_bt 132) (am_P 132).1 (am_rt (am_P 132).2.1) ∈ lw_tbl := (List.mem_append_right _ (List.mem_append_right _ (List.mem_append_right _ (List.mem_append_right _ (List.mem_append_left _ (List.mem_of_getElem? (i := 85) rfl))))))
theorem q_Tv_children : Cond.code (am_y 133) (am_bt 133) (am_P 133).1 (am_rt (am_P 133).2.1) ∈ lw_tbl := (List.mem_append_right _ (List.mem_append_right _ (List.mem_append_right _ (List.mem_append_right _ (List.mem_append_left _ (List.mem_of_getElem? (i := 89) rfl))))))
theorem q_Tv_nearest : Cond.code (am_y 134) (am_bt 134) (am_P 134).1 (am_rt (am_P 134).2.1) ∈ lw_tbl := (List.mem_append_right _ (List.mem_append_right _ (List.mem_append_right _ (List.mem_append_right _ (List.mem_append_left _ (List.mem_of_getElem? (i := 93) rfl))))))
theorem q_Tv_run : Cond.code (am_y 135) (am_bt 135) (am_P 135).1 (am_rt (am_P 135).2.1) ∈ lw_tbl := (List.mem_append_right _ (List.mem_append_right _ (List.mem_append_right _ (List.mem_append_right _ (List.mem_append_left _ (List.mem_of_getElem? (i := 101) rfl))))))
theorem q_Tv_next : Cond.code (am_y 136) (am_bt 136) (am_P 136).1 (am_rt (am_P 136).2.1) ∈ lw_tbl := (List.mem_append_right _ (List.mem_append_right _ (List.mem_append_right _ (List.mem_append_right _ (List.mem_append_left _ (List.mem_of_getElem? (i := 113) rfl))))))
theorem q_Tv_needs : Cond.code (am_y 137) (am_bt 137) (am_P 137).1 (am_rt (am_P 137).2.1) ∈ lw_tbl := (List.mem_append_right _ (List.mem_append_right _ (List.mem_append_right _ (List.mem_append_right _ (List.mem_append_left _ (List.mem_of_getElem? (i := 118) rfl))))))
theorem q_Tv_saved : Cond.code (am_y 138) (am_bt 138) (am_P 138).1 (am_rt (am_P 138).2.1) ∈ lw_tbl := (List.mem_append_right _ (List.mem_append_right _ (List.mem_append_right _ (List.mem_append_right _ (List.mem_append_left _ (List.mem_of_getElem? (i := 123) rfl))))))
theorem q_Tv_full : Cond.code (am_y 139) (am_bt 139) (am_P 139).1 (am_rt (am_P 139).2.1) ∈ lw_tbl := (List.mem_append_right _ (List.mem_append_right _ (List.mem_append_right _ (List.mem_append_right _ (List.mem_append_left _ (List.mem_of_getElem? (i := 131) rfl))))))
theorem q_Tv_mean : Cond.code (am_y 140) (am_bt 140) (am_P 140).1 (am_rt (am_P 140).2.1) ∈ lw_tbl := (List.mem_append_right _ (List.mem_append_right _ (List.mem_append_right _ (List.mem_append_right _ (List.mem_append_left _ (List.mem_of_getElem? (i := 136) rfl))))))
theorem q_Tv_digest : Cond.code (am_y 141) (am_bt 141) (am_P 141).1 (am_rt (am_P 141).2.1) ∈ lw_tbl := (List.mem_append_right _ (List.mem_append_right _ (List.mem_append_right _ (List.mem_append_right _ (List.mem_append_left _ (List.mem_of_getElem? (i := 146) rfl))))))
theorem q_Tv_image : Cond.code (am_y 142) (am_bt 142) (am_P 142).1 (am_rt (am_P 142).2.1) ∈ lw_tbl := (List.mem_append_right _ (List.mem_append_right _ (List.mem_append_right _ (List.mem_append_right _ (List.mem_append_left _ (List.mem_of_getElem? (i := 150) rfl))))))
theorem q_Tv_back : Cond.code (am_y 143) (am_bt 143) (am_P 143).1 (am_rt (am_P 143).2.1) ∈ lw_tbl := (List.mem_append_right _ (List.mem_append_right _ (List.mem_append_right _ (List.mem_append_right _ (List.mem_append_left _ (List.mem_of_getElem? (i := 158) rfl))))))
theorem q_Tv_steps : Cond.code (am_y 144) (am_bt 144) (am_P 144).1 (am_rt (am_P 144).2.1) ∈ lw_tbl := (List.mem_append_right _ (List.mem_append_right _ (List.mem_append_right _ (List.mem_append_right _ (List.mem_append_left _ (List.mem_of_getElem? (i := 162) rfl))))))
theorem q_Tv_isSize : Cond.code (am_y 145) (am_bt 145) (am_P 145).1 (am_rt (am_P 145).2.1) ∈ lw_tbl := (List.mem_append_right _ (List.mem_append_left _ (List.mem_of_getElem? (i := 199) rfl)))
theorem q_Tv_isQuota : Cond.code (am_y 146) (am_bt 146) (am_P 146).1 (am_rt (am_P 146).2.1) ∈ lw_tbl := (List.mem_append_right _ (List.mem_append_left _ (List.mem_of_getElem? (i := 202) rfl)))
theorem q_Tv_isValue : Cond.code (am_y 147) (am_bt 147) (am_P 147).1 (am_rt (am_P 147).2.1) ∈ lw_tbl := (List.mem_append_right _ (List.mem_append_right _ (List.mem_append_left _ (List.mem_of_getElem? (i := 54) rfl))))
theorem q_Tv_isThing : Cond.code (am_y 148) (am_bt 148) (am_P 148).1 (am_rt (am_P 148).2.1) ∈ lw_tbl := (List.mem_append_right _ (List.mem_append_left _ (List.mem_of_getElem? (i := 225) rfl)))
theorem q_Tv_isPart : Cond.code (am_y 149) (am_bt 149) (am_P 149).1 (am_rt (am_P 149).2.1) ∈ lw_tbl := (List.mem_append_right _ (List.mem_append_right _ (List.mem_append_left _ (List.mem_of_getElem? (i := 38) rfl))))
theorem q_Tv_partNumber : Cond.code (am_y 150) (am_bt 150) (am_P 150).1 (am_rt (am_P 150).2.1) ∈ lw_tbl := (List.mem_append_right _ (List.mem_append_right _ (List.mem_append_right _ (List.mem_append_left _ (List.mem_of_getElem? (i := 181) rfl)))))
theorem q_Tv_placeOf : Cond.code (am_y 151) (am_bt 151) (am_P 151).1 (am_rt (am_P 151).2.1) ∈ lw_tbl := (List.mem_append_right _ (List.mem_append_right _ (List.mem_append_left _ (List.mem_of_getElem? (i := 70) rfl))))
theorem q_Tv_isUsedPart : Cond.code (am_y 152) (am_bt 152) (am_P 152).1 (am_rt (am_P 152).2.1) ∈ lw_tbl := (List.mem_append_right _ (List.mem_append_right _ (List.mem_append_right _ (List.mem_append_left _ (List.mem_of_getElem? (i := 233) rfl)))))
theorem q_Tv_isInside : Cond.code (am_y 153) (am_bt 153) (am_P 153).1 (am_rt (am_P 153).2.1) ∈ lw_tbl := (List.mem_append_right _ (List.mem_append_right _ (List.mem_append_left _ (List.mem_of_getElem? (i := 51) rfl))))
theorem q_Tv_isPiece : Cond.code (am_y 154) (am_bt 154) (am_P 154).1 (am_rt (am_P 154).2.1) ∈ lw_tbl := (List.mem_append_right _ (List.mem_append_right _ (List.mem_append_left _ (List.mem_of_getElem? (i := 173) rfl))))
theorem q_Tv_isSound : Cond.code (am_y 155) (am_bt 155) (am_P 155).1 (am_rt (am_P 155).2.1) ∈ lw_tbl := (List.mem_append_right _ (List.mem_append_left _ (List.mem_of_getElem? (i := 206) rfl)))
theorem q_Tv_isOpenToHand : Cond.code (am_y 156) (am_bt 156) (am_P 156).1 (am_rt (am_P 156).2.1) ∈ lw_tbl := (List.mem_append_right _ (List.mem_append_right _ (List.mem_append_left _ (List.mem_of_getElem? (i := 47) rfl))))
theorem q_Tv_begin : Cond.code (am_y 157) (am_bt 157) (am_P 157).1 (am_rt (am_P 157).2.1) ∈ lw_tbl := (List.mem_append_right _ (List.mem_append_left _ (List.mem_of_getElem? (i := 230) rfl)))
theorem q_Tv_keepStep : Cond.code (am_y 158) (am_bt 158) (am_P 158).1 (am_rt (am_P 158).2.1) ∈ lw_tbl := (List.mem_append_right _ (List.mem_append_right _ (List.mem_append_left _ (List.mem_of_getElem? (i := 10) rfl))))
theorem q_Tv_settle : Cond.code (am_y 159) (am_bt 159) (am_P 159).1 (am_rt (am_P 159).2.1) ∈ lw_tbl := (List.mem_append_right _ (List.mem_append_right _ (List.mem_append_left _ (List.mem_of_getElem? (i := 107) rfl))))
theorem q_Tv_freedBy : Cond.code (am_y 160) (am_bt 160) (am_P 160).1 (am_rt (am_P 160).2.1) ∈ lw_tbl := (List.mem_append_right _ (List.mem_append_right _ (List.mem_append_right _ (List.mem_append_left _ (List.mem_of_getElem? (i := 186) rfl)))))
theorem q_Tv_bitsOfFloat : Cond.code (am_y 161) (am_bt 161) (am_P 161).1 (am_rt (am_P 161).2.1) ∈ lw_tbl := (List.mem_append_right _ (List.mem_append_right _ (List.mem_append_right _ (List.mem_append_right _ (List.mem_append_left _ (List.mem_of_getElem? (i := 126) rfl))))))
theorem q_Tv_bitsOfDouble : Cond.code (am_y 162) (am_bt 162) (am_P 162).1 (am_rt (am_P 162).2.1) ∈ lw_tbl := (List.mem_append_right _ (List.mem_append_right _ (List.mem_append_right _ (List.mem_append_right _ (List.mem_append_left _ (List.mem_of_getElem? (i := 139) rfl))))))
theorem q_Md_copy : Cond.code (am_y 163) (am_bt 163) (am_P 163).1 (am_rt (am_P 163).2.1) ∈ lw_tbl := (List.mem_append_right _ (List.mem_append_right _ (List.mem_append_right _ (List.mem_append_right _ (List.mem_append_left _ (List.mem_of_getElem? (i := 171) rfl))))))
theorem q_Md_isIn : Cond.code (am_y 164) (am_bt 164) (am_P 164).1 (am_rt (am_P 164).2.1) ∈ lw_tbl := (List.mem_append_right _ (List.mem_append_right _ (List.mem_append_right _ (List.mem_append_right _ (List.mem_append_right _ (List.mem_append_left _ (List.mem_of_getElem? (i := 30) rfl)))))))
theorem q_Md_valueOf : Cond.code (am_y 165) (am_bt 165) (am_P 165).1 (am_rt (am_P 165).2.1) ∈ lw_tbl := (List.mem_append_right _ (List.mem_append_right _ (List.mem_append_right _ (List.mem_append_right _ (List.mem_append_right _ (List.mem_append_left _ (List.mem_of_getElem? (i := 94) rfl)))))))
theorem q_Md_blockCount : Cond.code (am_y 166) (am_bt 166) (am_P 166).1 (am_rt (am_P 166).2.1) ∈ lw_tbl := (List.mem_append_right _ (List.mem_append_right _ (List.mem_append_right _ (List.mem_append_right _ (List.mem_append_right _ (List.mem_append_left _ (List.mem_of_getElem? (i := 42) rfl)))))))
theorem q_Md_letBlock : Cond.code (am_y 167) (am_bt 167) (am_P 167).1 (am_rt (am_P 167).2.1) ∈ lw_tbl := (List.mem_append_right _ (List.mem_append_right _ (List.mem_append_right _ (List.mem_append_right _ (List.mem_append_right _ (List.mem_append_left _ (List.mem_of_getElem? (i := 98) rfl)))))))
theorem q_Md_isBlock : Cond.code (am_y 168) (am_bt 168) (am_P 168).1 (am_rt (am_P 168).2.1) ∈ lw_tbl := (List.mem_append_right _ (List.mem_append_right _ (List.mem_append_right _ (List.mem_append_right _ (List.mem_append_right _ (List.mem_append_right _ (List.mem_append_left _ (List.mem_of_getElem? (i := 51) rfl))))))))
theorem q_Md_kindOf : Cond.code (am_y 169) (am_bt 169) (am_P 169).1 (am_rt (am_P 169).2.1) ∈ lw_tbl := (List.mem_append_right _ (List.mem_append_right _ (List.mem_append_right _ (List.mem_append_right _ (List.mem_append_right _ (List.mem_append_left _ (List.mem_of_getElem? (i := 23) rfl)))))))
theorem q_Md_partCount : Cond.code (am_y 170) (am_bt 170) (am_P 170).1 (am_rt (am_P 170).2.1) ∈ lw_tbl := (List.mem_append_right _ (List.mem_append_right _ (List.mem_append_right _ (List.mem_append_right _ (List.mem_append_right _ (List.mem_append_left _ (List.mem_of_getElem? (i := 15) rfl)))))))
theorem q_Md_letPart : Cond.code (am_y 171) (am_bt 171) (am_P 171).1 (am_rt (am_P 171).2.1) ∈ lw_tbl := (List.mem_append_right _ (List.mem_append_right _ (List.mem_append_right _ (List.mem_append_right _ (List.mem_append_right _ (List.mem_append_left _ (List.mem_of_getElem? (i := 74) rfl)))))))
theorem q_Md_isPart : Cond.code (am_y 172) (am_bt 172) (am_P 172).1 (am_rt (am_P 172).2.1) ∈ lw_tbl := (List.mem_append_right _ (List.mem_append_right _ (List.mem_append_right _ (List.mem_append_right _ (List.mem_append_right _ (List.mem_append_right _ (List.mem_append_left _ (List.mem_of_getElem? (i := 139) rfl))))))))
theorem q_Md_placeOf : Cond.code (am_y 173) (am_bt 173) (am_P 173).1 (am_rt (am_P 173).2.1) ∈ lw_tbl := (List.mem_append_right _ (List.mem_append_right _ (List.mem_append_right _ (List.mem_append_right _ (List.mem_append_right _ (List.mem_append_left _ (List.mem_of_getElem? (i := 19) rfl)))))))
theorem q_Md_letPlace : Cond.code (am_y 174) (am_bt 174) (am_P 174).1 (am_rt (am_P 174).2.1) ∈ lw_tbl := (List.mem_append_right _ (List.mem_append_right _ (List.mem_append_right _ (List.mem_append_right _ (List.mem_append_right _ (List.mem_append_left _ (List.mem_of_getElem? (i := 131) rfl)))))))
theorem q_Md_get : Cond.code (am_y 175) (am_bt 175) (am_P 175).1 (am_rt (am_P 175).2.1) ∈ lw_tbl := (List.mem_append_right _ (List.mem_append_right _ (List.mem_append_right _ (List.mem_append_right _ (List.mem_append_right _ (List.mem_append_left _ (List.mem_of_getElem? (i := 34) rfl)))))))
theorem q_Md_let : Cond.code (am_y 176) (am_bt 176) (am_P 176).1 (am_rt (am_P 176).2.1) ∈ lw_tbl := (List.mem_append_right _ (List.mem_append_right _ (List.mem_append_right _ (List.mem_append_right _ (List.mem_append_right _ (List.mem_append_left _ (List.mem_of_getElem? (i := 62) rfl)))))))
theorem q_Md_isVolume : Cond.code (am_y 177) (am_bt 177) (am_P 177).1 (am_rt (am_P 177).2.1) ∈ lw_tbl := (List.mem_append_right _ (List.mem_append_right _ (List.mem_append_right _ (List.mem_append_right _ (List.mem_append_right _ (List.mem_append_left _ (List.mem_of_getElem? (i := 27) rfl)))))))
theorem q_Md_blocks : Cond.code (am_y 178) (am_bt 178) (am_P 178).1 (am_rt (am_P 178).2.1) ∈ lw_tbl := (List.mem_append_right _ (List.mem_append_right _ (List.mem_append_right _ (List.mem_append_right _ (List.mem_append_right _ (List.mem_append_left _ (List.mem_of_getElem? (i := 182) rfl)))))))
theorem q_Md_partsOf : Cond.code (am_y 179) (am_bt 179) (am_P 179).1 (am_rt (am_P 179).2.1) ∈ lw_tbl := (List.mem_append_right _ (List.mem_append_right _ (List.mem_append_right _ (List.mem_append_right _ (List.mem_append_right _ (List.mem_append_right _ (List.mem_append_left _ (List.mem_of_getElem? (i := 147) rfl))))))))
theorem q_Md_stepIn : Cond.code (am_y 180) (am_bt 180) (am_P 180).1 (am_rt (am_P 180).2.1) ∈ lw_tbl := (List.mem_append_right _ (List.mem_append_right _ (List.mem_append_right _ (List.mem_append_right _ (List.mem_append_right _ (List.mem_append_left _ (List.mem_of_getElem? (i := 138) rfl)))))))
theorem q_Md_partAt : Cond.code (am_y 181) (am_bt 181) (am_P 181).1 (am_rt (am_P 181).2.1) ∈ lw_tbl := (List.mem_append_right _ (List.mem_append_right _ (List.mem_append_right _ (List.mem_append_right _ (List.mem_append_right _ (List.mem_append_left _ (List.mem_of_getElem? (i := 178) rfl)))))))
theorem q_Md_blockAt : Cond.code (am_y 182) (am_bt 182) (am_P 182).1 (am_rt (am_P 182).2.1) ∈ lw_tbl := (List.mem_append_right _ (List.mem_append_right _ (List.mem_append_right _ (List.mem_append_right _ (List.mem_append_right _ (List.mem_append_left _ (List.mem_of_getElem? (i := 174) rfl)))))))
theorem q_Md_readAt : Cond.code (am_y 183) (am_bt 183) (am_P 183).1 (am_rt (am_P 183).2.1) ∈ lw_tbl := (List.mem_append_right _ (List.mem_append_right _ (List.mem_append_right _ (List.mem_append_right _ (List.mem_append_right _ (List.mem_append_right _ (List.mem_append_left _ (List.mem_of_getElem? (i := 103) rfl))))))))
theorem q_Md_usedOf : Cond.code (am_y 184) (am_bt 184) (am_P 184).1 (am_rt (am_P 184).2.1) ∈ lw_tbl := (List.mem_append_right _ (List.mem_append_right _ (List.mem_append_right _ (List.mem_append_right _ (List.mem_append_right _ (List.mem_append_left _ (List.mem_of_getElem? (i := 170) rfl)))))))
theorem q_Md_letGoBlock : Cond.code (am_y 185) (am_bt 185) (am_P 185).1 (am_rt (am_P 185).2.1) ∈ lw_tbl := (List.mem_append_right _ (List.mem_append_right _ (List.mem_append_right _ (List.mem_append_right _ (List.mem_append_right _ (List.mem_append_left _ (List.mem_of_getElem? (i := 90) rfl)))))))
theorem q_Md_letGoLeaf : Cond.code (am_y 186) (am_bt 186) (am_P 186).1 (am_rt (am_P 186).2.1) ∈ lw_tbl := (List.mem_append_right _ (List.mem_append_right _ (List.mem_append_right _ (List.mem_append_right _ (List.mem_append_right _ (List.mem_append_left _ (List.mem_of_getElem? (i := 86) rfl)))))))
theorem q_Md_letGoTwig : Cond.code (am_y 187) (am_bt 187) (am_P 187).1 (am_rt (am_P 187).2.1) ∈ lw_tbl := (List.mem_append_right _ (List.mem_append_right _ (List.mem_append_right _ (List.mem_append_right _ (List.mem_append_right _ (List.mem_append_left _ (List.mem_of_getElem? (i := 82) rfl)))))))
theorem q_Md_letGoTrunk : Cond.code (am_y 188) (am_bt 188) (am_P 188).1 (am_rt (am_P 188).2.1) ∈ lw_tbl := (List.mem_append_right _ (List.mem_append_right _ (List.mem_append_right _ (List.mem_append_right _ (List.mem_append_right _ (List.mem_append_left _ (List.mem_of_getElem? (i := 78) rfl)))))))
theorem q_Md_letGoPart : Cond.code (am_y 189) (am_bt 189) (am_P 189).1 (am_rt (am_P 189).2.1) ∈ lw_tbl := (List.mem_append_right _ (List.mem_append_right _ (List.mem_append_right _ (List.mem_append_right _ (List.mem_append_right _ (List.mem_append_left _ (List.mem_of_getElem? (i := 150) rfl)))))))
theorem q_Md_letGoIn : Cond.code (am_y 190) (am_bt 190) (am_P 190).1 (am_rt (am_P 190).2.1) ∈ lw_tbl := (List.mem_append_right _ (List.mem_append_right _ (List.mem_append_right _ (List.mem_append_right _ (List.mem_append_right _ (List.mem_append_left _ (List.mem_of_getElem? (i := 146) rfl)))))))
theorem q_Md_countIn : Cond.code (am_y 191) (am_bt 191) (am_P 191).1 (am_rt (am_P 191).2.1) ∈ lw_tbl := (List.mem_append_right _ (List.mem_append_right _ (List.mem_append_right _ (List.mem_append_right _ (List.mem_append_right _ (List.mem_append_left _ (List.mem_of_getElem? (i := 135) rfl)))))))
theorem q_Md_hang : Cond.code (am_y 192) (am_bt 192) (am_P 192).1 (am_rt (am_P 192).2.1) ∈ lw_tbl := (List.mem_append_right _ (List.mem_append_right _ (List.mem_append_right _ (List.mem_append_right _ (List.mem_append_right _ (List.mem_append_left _ (List.mem_of_getElem? (i := 142) rfl)))))))
theorem q_Md_hangTrunk : Cond.code (am_y 193) (am_bt 193) (am_P 193).1 (am_rt (am_P 193).2.1) ∈ lw_tbl := (List.mem_append_right _ (List.mem_append_right _ (List.mem_append_right _ (List.mem_append_right _ (List.mem_append_right _ (List.mem_append_left _ (List.mem_of_getElem? (i := 70) rfl)))))))
theorem q_Md_newPart : Cond.code (am_y 194) (am_bt 194) (am_P 194).1 (am_rt (am_P 194).2.1) ∈ lw_tbl := (List.mem_append_right _ (List.mem_append_right _ (List.mem_append_right _ (List.mem_append_right _ (List.mem_append_right _ (List.mem_append_left _ (List.mem_of_getElem? (i := 127) rfl)))))))
theorem q_Md_newBlock : Cond.code (am_y 195) (am_bt 195) (am_P 195).1 (am_rt (am_P 195).2.1) ∈ lw_tbl := (List.mem_append_right _ (List.mem_append_right _ (List.mem_append_right _ (List.mem_append_right _ (List.mem_append_right _ (List.mem_append_left _ (List.mem_of_getElem? (i := 158) rfl)))))))
theorem q_Md_own : Cond.code (am_y 196) (am_bt 196) (am_P 196).1 (am_rt (am_P 196).2.1) ∈ lw_tbl := (List.mem_append_right _ (List.mem_append_right _ (List.mem_append_right _ (List.mem_append_right _ (List.mem_append_right _ (List.mem_append_left _ (List.mem_of_getElem? (i := 123) rfl)))))))
theorem q_Md_openTo : Cond.code (am_y 197) (am_bt 197) (am_P 197).1 (am_rt (am_P 197).2.1) ∈ lw_tbl := (List.mem_append_right _ (List.mem_append_right _ (List.mem_append_right _ (List.mem_append_right _ (List.mem_append_right _ (List.mem_append_left _ (List.mem_of_getElem? (i := 119) rfl)))))))
theorem q_Md_isEmpty : Cond.code (am_y 198) (am_bt 198) (am_P 198).1 (am_rt (am_P 198).2.1) ∈ lw_tbl := (List.mem_append_right _ (List.mem_append_right _ (List.mem_append_right _ (List.mem_append_right _ (List.mem_append_right _ (List.mem_append_left _ (List.mem_of_getElem? (i := 206) rfl)))))))
theorem q_Md_shut : Cond.code (am_y 199) (am_bt 199) (am_P 199).1 (am_rt (am_P 199).2.1) ∈ lw_tbl := (List.mem_append_right _ (List.mem_append_right _ (List.mem_append_right _ (List.mem_append_right _ (List.mem_append_right _ (List.mem_append_left _ (List.mem_of_getElem? (i := 202) rfl)))))))
theorem q_Md_blockWith : Cond.code (am_y 200) (am_bt 200) (am_P 200).1 (am_rt (am_P 200).2.1) ∈ lw_tbl := (List.mem_append_right _ (List.mem_append_right _ (List.mem_append_right _ (List.mem_append_right _ (List.mem_append_right _ (List.mem_append_left _ (List.mem_of_getElem? (i := 154) rfl)))))))
theorem q_Md_writeNow : Cond.code (am_y 201) (am_bt 201) (am_P 201).1 (am_rt (am_P 201).2.1) ∈ lw_tbl := (List.mem_append_right _ (List.mem_append_right _ (List.mem_append_right _ (List.mem_append_right _ (List.mem_append_right _ (List.mem_append_left _ (List.mem_of_getElem? (i := 115) rfl)))))))
theorem q_Md_wipeNow : Cond.code (am_y 202) (am_bt 202) (am_P 202).1 (am_rt (am_P 202).2.1) ∈ lw_tbl := (List.mem_append_right _ (List.mem_append_right _ (List.mem_append_right _ (List.mem_append_right _ (List.mem_append_right _ (List.mem_append_left _ (List.mem_of_getElem? (i := 198) rfl)))))))
theorem q_Md_begin : Cond.code (am_y 203) (am_bt 203) (am_P 203).1 (am_rt (am_P 203).2.1) ∈ lw_tbl := (List.mem_append_right _ (List.mem_append_right _ (List.mem_append_right _ (List.mem_append_right _ (List.mem_append_right _ (List.mem_append_left _ (List.mem_of_getElem? (i := 54) rfl)))))))
theorem q_Md_bringBack : Cond.code (am_y 204) (am_bt 204) (am_P 204).1 (am_rt (am_P 204).2.1) ∈ lw_tbl := (List.mem_append_right _ (List.mem_append_right _ (List.mem_append_right _ (List.mem_append_right _ (List.mem_append_right _ (List.mem_append_left _ (List.mem_of_getElem? (i := 190) rfl)))))))
theorem q_Md_stepAt : Cond.code (am_y 205) (am_bt 205) (am_P 205).1 (am_rt (am_P 205).2.1) ∈ lw_tbl := (List.mem_append_right _ (List.mem_append_right _ (List.mem_append_right _ (List.mem_append_right _ (List.mem_append_left _ (List.mem_of_getElem? (i := 239) rfl))))))
theorem q_Md_keep : Cond.code (am_y 206) (am_bt 206) (am_P 206).1 (am_rt (am_P 206).2.1) ∈ lw_tbl := (List.mem_append_right _ (List.mem_append_right _ (List.mem_append_right _ (List.mem_append_right _ (List.mem_append_right _ (List.mem_append_left _ (List.mem_of_getElem? (i := 58) rfl)))))))
theorem q_Md_reserves : Cond.code (am_y 207) (am_bt 207) (am_P 207).1 (am_rt (am_P 207).2.1) ∈ lw_tbl := (List.mem_append_right _ (List.mem_append_right _ (List.mem_append_right _ (List.mem_append_right _ (List.mem_append_right _ (List.mem_append_left _ (List.mem_of_getElem? (i := 186) rfl)))))))
theorem q_Md_isRight : Cond.code (am_y 208) (am_bt 208) (am_P 208).1 (am_rt (am_P 208).2.1) ∈ lw_tbl := (List.mem_append_right _ (List.mem_append_right _ (List.mem_append_right _ (List.mem_append_right _ (List.mem_append_right _ (List.mem_append_left _ (List.mem_of_getElem? (i := 166) rfl)))))))
theorem q_Md_end : Cond.code (am_y 209) (am_bt 209) (am_P 209).1 (am_rt (am_P 209).2.1) ∈ lw_tbl := (List.mem_append_right _ (List.mem_append_right _ (List.mem_append_right _ (List.mem_append_right _ (List.mem_append_right _ (List.mem_append_left _ (List.mem_of_getElem? (i := 162) rfl)))))))
theorem q_Md_endBoth : Cond.code (am_y 210) (am_bt 210) (am_P 210).1 (am_rt (am_P 210).2.1) ∈ lw_tbl := (List.mem_append_right _ (List.mem_append_right _ (List.mem_append_right _ (List.mem_append_right _ (List.mem_append_right _ (List.mem_append_right _ (List.mem_append_left _ (List.mem_of_getElem? (i := 2) rfl))))))))
theorem q_Md_isOpen : Cond.code (am_y 211) (am_bt 211) (am_P 211).1 (am_rt (am_P 211).2.1) ∈ lw_tbl := (List.mem_append_right _ (List.mem_append_right _ (List.mem_append_right _ (List.mem_append_right _ (List.mem_append_right _ (List.mem_append_left _ (List.mem_of_getElem? (i := 106) rfl)))))))
theorem q_Md_isAddress : Cond.code (am_y 212) (am_bt 212) (am_P 212).1 (am_rt (am_P 212).2.1) ∈ lw_tbl := (List.mem_append_right _ (List.mem_append_right _ (List.mem_append_right _ (List.mem_append_right _ (List.mem_append_right _ (List.mem_append_left _ (List.mem_of_getElem? (i := 110) rfl)))))))
theorem q_Md_undo : Cond.code (am_y 213) (am_bt 213) (am_P 213).1 (am_rt (am_P 213).2.1) ∈ lw_tbl := (List.mem_append_right _ (List.mem_append_right _ (List.mem_append_right _ (List.mem_append_right _ (List.mem_append_left _ (List.mem_of_getElem? (i := 236) rfl))))))
theorem q_Md_newVolume : Cond.code (am_y 214) (am_bt 214) (am_P 214).1 (am_rt (am_P 214).2.1) ∈ lw_tbl := (List.mem_append_right _ (List.mem_append_right _ (List.mem_append_right _ (List.mem_append_right _ (List.mem_append_right _ (List.mem_append_left _ (List.mem_of_getElem? (i := 50) rfl)))))))
theorem q_Md_make : Cond.code (am_y 215) (am_bt 215) (am_P 215).1 (am_rt (am_P 215).2.1) ∈ lw_tbl := (List.mem_append_right _ (List.mem_append_right _ (List.mem_append_right _ (List.mem_append_right _ (List.mem_append_right _ (List.mem_append_left _ (List.mem_of_getElem? (i := 3) rfl)))))))
theorem q_Md_take : Cond.code (am_y 216) (am_bt 216) (am_P 216).1 (am_rt (am_P 216).2.1) ∈ lw_tbl := (List.mem_append_right _ (List.mem_append_right _ (List.mem_append_right _ (List.mem_append_right _ (List.mem_append_right _ (List.mem_append_left _ (List.mem_of_getElem? (i := 66) rfl)))))))
theorem q_Md_write : Cond.code (am_y 217) (am_bt 217) (am_P 217).1 (am_rt (am_P 217).2.1) ∈ lw_tbl := (List.mem_append_right _ (List.mem_append_right _ (List.mem_append_right _ (List.mem_append_right _ (List.mem_append_right _ (List.mem_append_left _ (List.mem_of_getElem? (i := 102) rfl)))))))
theorem q_Md_wipe : Cond.code (am_y 218) (am_bt 218) (am_P 218).1 (am_rt (am_P 218).2.1) ∈ lw_tbl := (List.mem_append_right _ (List.mem_append_right _ (List.mem_append_right _ (List.mem_append_right _ (List.mem_append_right _ (List.mem_append_left _ (List.mem_of_getElem? (i := 194) rfl)))))))
theorem q_Md_bring : Cond.code (am_y 219) (am_bt 219) (am_P 219).1 (am_rt (am_P 219).2.1) ∈ lw_tbl := (List.mem_append_right _ (List.mem_append_right _ (List.mem_append_right _ (List.mem_append_right _ (List.mem_append_right _ (List.mem_append_left _ (List.mem_of_getElem? (i := 210) rfl)))))))
theorem q_Md_size : Cond.code (am_y 220) (am_bt 220) (am_P 220).1 (am_rt (am_P 220).2.1) ∈ lw_tbl := (List.mem_append_right _ (List.mem_append_right _ (List.mem_append_right _ (List.mem_append_right _ (List.mem_append_right _ (List.mem_append_left _ (List.mem_of_getElem? (i := 214) rfl)))))))
theorem q_Md_quota : Cond.code (am_y 221) (am_bt 221) (am_P 221).1 (am_rt (am_P 221).2.1) ∈ lw_tbl := (List.mem_append_right _ (List.mem_append_right _ (List.mem_append_right _ (List.mem_append_right _ (List.mem_append_right _ (List.mem_append_left _ (List.mem_of_getElem? (i := 218) rfl)))))))
theorem q_Md_isRow : Cond.code (am_y 222) (am_bt 222) (am_P 222).1 (am_rt (am_P 222).2.1) ∈ lw_tbl := (List.mem_append_right _ (List.mem_append_right _ (List.mem_append_right _ (List.mem_append_right _ (List.mem_append_right _ (List.mem_append_left _ (List.mem_of_getElem? (i := 226) rfl)))))))
theorem q_Md_shareOne : Cond.code (am_y 223) (am_bt 223) (am_P 223).1 (am_rt (am_P 223).2.1) ∈ lw_tbl := (List.mem_append_right _ (List.mem_append_right _ (List.mem_append_right _ (List.mem_append_right _ (List.mem_append_right _ (List.mem_append_left _ (List.mem_of_getElem? (i := 230) rfl)))))))
theorem q_Md_share : Cond.code (am_y 224) (am_bt 224) (am_P 224).1 (am_rt (am_P 224).2.1) ∈ lw_tbl := (List.mem_append_right _ (List.mem_append_right _ (List.mem_append_right _ (List.mem_append_right _ (List.mem_append_right _ (List.mem_append_left _ (List.mem_of_getElem? (i := 222) rfl)))))))
theorem q_Md_move : Cond.code (am_y 225) (am_bt 225) (am_P 225).1 (am_rt (am_P 225).2.1) ∈ lw_tbl := (List.mem_append_right _ (List.mem_append_right _ (List.mem_append_right _ (List.mem_append_right _ (List.mem_append_right _ (List.mem_append_left _ (List.mem_of_getElem? (i := 234) rfl)))))))
theorem q_Md_swap : Cond.code (am_y 226) (am_bt 226) (am_P 226).1 (am_rt (am_P 226).2.1) ∈ lw_tbl := (List.mem_append_right _ (List.mem_append_right _ (List.mem_append_right _ (List.mem_append_right _ (List.mem_append_right _ (List.mem_append_left _ (List.mem_of_getElem? (i := 238) rfl)))))))
theorem q_Md_graft : Cond.code (am_y 227) (am_bt 227) (am_P 227).1 (am_rt (am_P 227).2.1) ∈ lw_tbl := (List.mem_append_right _ (List.mem_append_right _ (List.mem_append_right _ (List.mem_append_right _ (List.mem_append_right _ (List.mem_append_right _ (List.mem_append_left _ (List.mem_of_getElem? (i := 6) rfl))))))))
theorem q_Md_fill : Cond.code (am_y 228) (am_bt 228) (am_P 228).1 (am_rt (am_P 228).2.1) ∈ lw_tbl := (List.mem_append_right _ (List.mem_append_right _ (List.mem_append_right _ (List.mem_append_right _ (List.mem_append_right _ (List.mem_append_right _ (List.mem_append_left _ (List.mem_of_getElem? (i := 10) rfl))))))))
theorem q_Md_reserve : Cond.code (am_y 229) (am_bt 229) (am_P 229).1 (am_rt (am_P 229).2.1) ∈ lw_tbl := (List.mem_append_right _ (List.mem_append_right _ (List.mem_append_right _ (List.mem_append_right _ (List.mem_append_right _ (List.mem_append_right _ (List.mem_append_left _ (List.mem_of_getElem? (i := 14) rfl))))))))
theorem q_Md_hold : Cond.code (am_y 230) (am_bt 230) (am_P 230).1 (am_rt (am_P 230).2.1) ∈ lw_tbl := (List.mem_append_right _ (List.mem_append_right _ (List.mem_append_right _ (List.mem_append_right _ (List.mem_append_right _ (List.mem_append_right _ (List.mem_append_left _ (List.mem_of_getElem? (i := 18) rfl))))))))
theorem q_Md_freeNow : Cond.code (am_y 231) (am_bt 231) (am_P 231).1 (am_rt (am_P 231).2.1) ∈ lw_tbl := (List.mem_append_right _ (List.mem_append_right _ (List.mem_append_right _ (List.mem_append_right _ (List.mem_append_right _ (List.mem_append_right _ (List.mem_append_left _ (List.mem_of_getElem? (i := 34) rfl))))))))
theorem q_Md_bornBehind : Cond.code (am_y 232) (am_bt 232) (am_P 232).1 (am_rt (am_P 232).2.1) ∈ lw_tbl := (List.mem_append_right _ (List.mem_append_right _ (List.mem_append_right _ (List.mem_append_right _ (List.mem_append_right _ (List.mem_append_right _ (List.mem_append_left _ (List.mem_of_getElem? (i := 30) rfl))))))))
theorem q_Md_isPrunable : Cond.code (am_y 233) (am_bt 233) (am_P 233).1 (am_rt (am_P 233).2.1) ∈ lw_tbl := (List.mem_append_right _ (List.mem_append_right _ (List.mem_append_right _ (List.mem_append_right _ (List.mem_append_right _ (List.mem_append_right _ (List.mem_append_left _ (List.mem_of_getElem? (i := 26) rfl))))))))
theorem q_Md_prune : Cond.code (am_y 234) (am_bt 234) (am_P 234).1 (am_rt (am_P 234).2.1) ∈ lw_tbl := (List.mem_append_right _ (List.mem_append_right _ (List.mem_append_right _ (List.mem_append_right _ (List.mem_append_right _ (List.mem_append_right _ (List.mem_append_left _ (List.mem_of_getElem? (i := 22) rfl))))))))
theorem q_Md_free : Cond.code (am_y 235) (am_bt 235) (am_P 235).1 (am_rt (am_P 235).2.1) ∈ lw_tbl := (List.mem_append_right _ (List.mem_append_right _ (List.mem_append_right _ (List.mem_append_right _ (List.mem_append_right _ (List.mem_append_right _ (List.mem_append_left _ (List.mem_of_getElem? (i := 38) rfl))))))))
theorem q_Md_like : Cond.code (am_y 236) (am_bt 236) (am_P 236).1 (am_rt (am_P 236).2.1) ∈ lw_tbl := (List.mem_append_right _ (List.mem_append_right _ (List.mem_append_right _ (List.mem_append_right _ (List.mem_append_right _ (List.mem_append_right _ (List.mem_append_left _ (List.mem_of_getElem? (i := 42) rfl))))))))
theorem q_Md_layPlaces : Cond.code (am_y 237) (am_bt 237) (am_P 237).1 (am_rt (am_P 237).2.1) ∈ lw_tbl := (List.mem_append_right _ (List.mem_append_right _ (List.mem_append_right _ (List.mem_append_right _ (List.mem_append_right _ (List.mem_append_left _ (List.mem_of_getElem? (i := 11) rfl)))))))
theorem q_Md_isWrongBlock : Cond.code (am_y 238) (am_bt 238) (am_P 238).1 (am_rt (am_P 238).2.1) ∈ lw_tbl := (List.mem_append_right _ (List.mem_append_right _ (List.mem_append_right _ (List.mem_append_right _ (List.mem_append_right _ (List.mem_append_left _ (List.mem_of_getElem? (i := 38) rfl)))))))
theorem q_Md_isWrongPart : Cond.code (am_y 239) (am_bt 239) (am_P 239).1 (am_rt (am_P 239).2.1) ∈ lw_tbl := (List.mem_append_right _ (List.mem_append_right _ (List.mem_append_right _ (List.mem_append_right _ (List.mem_append_right _ (List.mem_append_left _ (List.mem_of_getElem? (i := 46) rfl)))))))
theorem q_Md_wrong : Cond.code (am_y 240) (am_bt 240) (am_P 240).1 (am_rt (am_P 240).2.1) ∈ lw_tbl := (List.mem_append_right _ (List.mem_append_right _ (List.mem_append_right _ (List.mem_append_right _ (List.mem_append_right _ (List.mem_append_left _ (List.mem_of_getElem? (i := 7) rfl)))))))
theorem q_Md_spoil : Cond.code (am_y 241) (am_bt 241) (am_P 241).1 (am_rt (am_P 241).2.1) ∈ lw_tbl := (List.mem_append_right _ (List.mem_append_right _ (List.mem_append_right _ (List.mem_append_right _ (List.mem_append_right _ (List.mem_append_right _ (List.mem_append_left _ (List.mem_of_getElem? (i := 47) rfl))))))))
theorem q_Md_mend : Cond.code (am_y 242) (am_bt 242) (am_P 242).1 (am_rt (am_P 242).2.1) ∈ lw_tbl := (List.mem_append_right _ (List.mem_append_right _ (List.mem_append_right _ (List.mem_append_right _ (List.mem_append_right _ (List.mem_append_right _ (List.mem_append_left _ (List.mem_of_getElem? (i := 55) rfl))))))))
theorem q_Md_layBlocks : Cond.code (am_y 243) (am_bt 243) (am_P 243).1 (am_rt (am_P 243).2.1) ∈ lw_tbl := (List.mem_append_right _ (List.mem_append_right _ (List.mem_append_right _ (List.mem_append_right _ (List.mem_append_right _ (List.mem_append_right _ (List.mem_append_left _ (List.mem_of_getElem? (i := 63) rfl))))))))
theorem q_Md_layParts : Cond.code (am_y 244) (am_bt 244) (am_P 244).1 (am_rt (am_P 244).2.1) ∈ lw_tbl := (List.mem_append_right _ (List.mem_append_right _ (List.mem_append_right _ (List.mem_append_right _ (List.mem_append_right _ (List.mem_append_right _ (List.mem_append_left _ (List.mem_of_getElem? (i := 67) rfl))))))))
theorem q_Md_close : Cond.code (am_y 245) (am_bt 245) (am_P 245).1 (am_rt (am_P 245).2.1) ∈ lw_tbl := (List.mem_append_right _ (List.mem_append_right _ (List.mem_append_right _ (List.mem_append_right _ (List.mem_append_right _ (List.mem_append_right _ (List.mem_append_left _ (List.mem_of_getElem? (i := 59) rfl))))))))
theorem q_Md_placeIn : Cond.code (am_y 246) (am_bt 246) (am_P 246).1 (am_rt (am_P 246).2.1) ∈ lw_tbl := (List.mem_append_right _ (List.mem_append_right _ (List.mem_append_right _ (List.mem_append_right _ (List.mem_append_right _ (List.mem_append_right _ (List.mem_append_left _ (List.mem_of_getElem? (i := 83) rfl))))))))
theorem q_Md_walkLeaves : Cond.code (am_y 247) (am_bt 247) (am_P 247).1 (am_rt (am_P 247).2.1) ∈ lw_tbl := (List.mem_append_right _ (List.mem_append_right _ (List.mem_append_right _ (List.mem_append_right _ (List.mem_append_right _ (List.mem_append_right _ (List.mem_append_left _ (List.mem_of_getElem? (i := 91) rfl))))))))
theorem q_Md_walkTwigs : Cond.code (am_y 248) (am_bt 248) (am_P 248).1 (am_rt (am_P 248).2.1) ∈ lw_tbl := (List.mem_append_right _ (List.mem_append_right _ (List.mem_append_right _ (List.mem_append_right _ (List.mem_append_right _ (List.mem_append_right _ (List.mem_append_left _ (List.mem_of_getElem? (i := 87) rfl))))))))
theorem q_Md_layDifference : Cond.code (am_y 249) (am_bt 249) (am_P 249).1 (am_rt (am_P 249).2.1) ∈ lw_tbl := (List.mem_append_right _ (List.mem_append_right _ (List.mem_append_right _ (List.mem_append_right _ (List.mem_append_right _ (List.mem_append_right _ (List.mem_append_left _ (List.mem_of_getElem? (i := 79) rfl))))))))
theorem q_Md_areVolumes : Cond.code (am_y 250) (am_bt 250) (am_P 250).1 (am_rt (am_P 250).2.1) ∈ lw_tbl := (List.mem_append_right _ (List.mem_append_right _ (List.mem_append_right _ (List.mem_append_right _ (List.mem_append_right _ (List.mem_append_right _ (List.mem_append_left _ (List.mem_of_getElem? (i := 75) rfl))))))))
theorem q_Md_differs : Cond.code (am_y 251) (am_bt 251) (am_P 251).1 (am_rt (am_P 251).2.1) ∈ lw_tbl := (List.mem_append_right _ (List.mem_append_right _ (List.mem_append_right _ (List.mem_append_right _ (List.mem_append_right _ (List.mem_append_right _ (List.mem_append_left _ (List.mem_of_getElem? (i := 71) rfl))))))))
theorem q_Md_walked : Cond.code (am_y 252) (am_bt 252) (am_P 252).1 (am_rt (am_P 252).2.1) ∈ lw_tbl := (List.mem_append_right _ (List.mem_append_right _ (List.mem_append_right _ (List.mem_append_right _ (List.mem_append_right _ (List.mem_append_right _ (List.mem_append_left _ (List.mem_of_getElem? (i := 95) rfl))))))))
theorem q_Md_changed : Cond.code (am_y 253) (am_bt 253) (am_P 253).1 (am_rt (am_P 253).2.1) ∈ lw_tbl := (List.mem_append_right _ (List.mem_append_right _ (List.mem_append_right _ (List.mem_append_right _ (List.mem_append_right _ (List.mem_append_right _ (List.mem_append_left _ (List.mem_of_getElem? (i := 99) rfl))))))))
theorem q_Md_send : Cond.code (am_y 254) (am_bt 254) (am_P 254).1 (am_rt (am_P 254).2.1) ∈ lw_tbl := (List.mem_append_right _ (List.mem_append_right _ (List.mem_append_right _ (List.mem_append_right _ (List.mem_append_right _ (List.mem_append_right _ (List.mem_append_left _ (List.mem_of_getElem? (i := 107) rfl))))))))
theorem q_Md_stream : Cond.code (am_y 255) (am_bt 255) (am_P 255).1 (am_rt (am_P 255).2.1) ∈ lw_tbl := (List.mem_append_right _ (List.mem_append_right _ (List.mem_append_right _ (List.mem_append_right _ (List.mem_append_right _ (List.mem_append_right _ (List.mem_append_left _ (List.mem_of_getElem? (i := 111) rfl))))))))
theorem q_Md_doRow : Cond.code (am_y 256) (am_bt 256) (am_P 256).1 (am_rt (am_P 256).2.1) ∈ lw_tbl := (List.mem_append_right _ (List.mem_append_right _ (List.mem_append_right _ (List.mem_append_right _ (List.mem_append_right _ (List.mem_append_right _ (List.mem_append_left _ (List.mem_of_getElem? (i := 119) rfl))))))))
theorem q_Md_receive : Cond.code (am_y 257) (am_bt 257) (am_P 257).1 (am_rt (am_P 257).2.1) ∈ lw_tbl := (List.mem_append_right _ (List.mem_append_right _ (List.mem_append_right _ (List.mem_append_right _ (List.mem_append_right _ (List.mem_append_right _ (List.mem_append_left _ (List.mem_of_getElem? (i := 115) rfl))))))))
theorem q_Md_stage : Cond.code (am_y 258) (am_bt 258) (am_P 258).1 (am_rt (am_P 258).2.1) ∈ lw_tbl := (List.mem_append_right _ (List.mem_append_right _ (List.mem_append_right _ (List.mem_append_right _ (List.mem_append_right _ (List.mem_append_right _ (List.mem_append_left _ (List.mem_of_getElem? (i := 123) rfl))))))))
theorem q_Md_staged : Cond.code (am_y 259) (am_bt 259) (am_P 259).1 (am_rt (am_P 259).2.1) ∈ lw_tbl := (List.mem_append_right _ (List.mem_append_right _ (List.mem_append_right _ (List.mem_append_right _ (List.mem_append_right _ (List.mem_append_right _ (List.mem_append_left _ (List.mem_of_getElem? (i := 127) rfl))))))))
theorem q_Md_commit : Cond.code (am_y 260) (am_bt 260) (am_P 260).1 (am_rt (am_P 260).2.1) ∈ lw_tbl := (List.mem_append_right _ (List.mem_append_right _ (List.mem_append_right _ (List.mem_append_right _ (List.mem_append_right _ (List.mem_append_right _ (List.mem_append_left _ (List.mem_of_getElem? (i := 131) rfl))))))))
theorem q_Md_merge : Cond.code (am_y 261) (am_bt 261) (am_P 261).1 (am_rt (am_P 261).2.1) ∈ lw_tbl := (List.mem_append_right _ (List.mem_append_right _ (List.mem_append_right _ (List.mem_append_right _ (List.mem_append_right _ (List.mem_append_right _ (List.mem_append_left _ (List.mem_of_getElem? (i := 135) rfl))))))))
theorem q_Md_areLike : Cond.code (am_y 262) (am_bt 262) (am_P 262).1 (am_rt (am_P 262).2.1) ∈ lw_tbl := (List.mem_append_right _ (List.mem_append_right _ (List.mem_append_right _ (List.mem_append_right _ (List.mem_append_right _ (List.mem_append_right _ (List.mem_append_left _ (List.mem_of_getElem? (i := 155) rfl))))))))
theorem q_Md_likePart : Cond.code (am_y 263) (am_bt 263) (am_P 263).1 (am_rt (am_P 263).2.1) ∈ lw_tbl := (List.mem_append_right _ (List.mem_append_right _ (List.mem_append_right _ (List.mem_append_right _ (List.mem_append_right _ (List.mem_append_right _ (List.mem_append_left _ (List.mem_of_getElem? (i := 151) rfl))))))))
theorem q_Md_replace : Cond.code (am_y 264) (am_bt 264) (am_P 264).1 (am_rt (am_P 264).2.1) ∈ lw_tbl := (List.mem_append_right _ (List.mem_append_right _ (List.mem_append_right _ (List.mem_append_right _ (List.mem_append_right _ (List.mem_append_right _ (List.mem_append_left _ (List.mem_of_getElem? (i := 159) rfl))))))))
theorem q_Md_fold : Cond.code (am_y 265) (am_bt 265) (am_P 265).1 (am_rt (am_P 265).2.1) ∈ lw_tbl := (List.mem_append_right _ (List.mem_append_right _ (List.mem_append_right _ (List.mem_append_right _ (List.mem_append_right _ (List.mem_append_right _ (List.mem_append_left _ (List.mem_of_getElem? (i := 143) rfl))))))))
theorem q_Md_mapped : Cond.code (am_y 266) (am_bt 266) (am_P 266).1 (am_rt (am_P 266).2.1) ∈ lw_tbl := (List.mem_append_right _ (List.mem_append_right _ (List.mem_append_right _ (List.mem_append_right _ (List.mem_append_right _ (List.mem_append_right _ (List.mem_append_left _ (List.mem_of_getElem? (i := 171) rfl))))))))
theorem q_Md_volumes : Cond.code (am_y 267) (am_bt 267) (am_P 267).1 (am_rt (am_P 267).2.1) ∈ lw_tbl := (List.mem_append_right _ (List.mem_append_right _ (List.mem_append_right _ (List.mem_append_right _ (List.mem_append_right _ (List.mem_append_right _ (List.mem_append_left _ (List.mem_of_getElem? (i := 167) rfl))))))))
theorem q_Md_counts : Cond.code (am_y 268) (am_bt 268) (am_P 268).1 (am_rt (am_P 268).2.1) ∈ lw_tbl := (List.mem_append_right _ (List.mem_append_right _ (List.mem_append_right _ (List.mem_append_right _ (List.mem_append_right _ (List.mem_append_right _ (List.mem_append_left _ (List.mem_of_getElem? (i := 175) rfl))))))))
theorem q_Md_is : Cond.code (am_y 269) (am_bt 269) (am_P 269).1 (am_rt (am_P 269).2.1) ∈ lw_tbl := (List.mem_append_right _ (List.mem_append_right _ (List.mem_append_right _ (List.mem_append_right _ (List.mem_append_right _ (List.mem_append_right _ (List.mem_append_left _ (List.mem_of_getElem? (i := 163) rfl))))))))
theorem q_Md_heightOf : Cond.code (am_y 270) (am_bt 270) (am_P 270).1 (am_rt (am_P 270).2.1) ∈ lw_tbl := (List.mem_append_right _ (List.mem_append_right _ (List.mem_append_right _ (List.mem_append_right _ (List.mem_append_right _ (List.mem_append_right _ (List.mem_append_left _ (List.mem_of_getElem? (i := 187) rfl))))))))
theorem q_Md_of : Cond.code (am_y 271) (am_bt 271) (am_P 271).1 (am_rt (am_P 271).2.1) ∈ lw_tbl := (List.mem_append_right _ (List.mem_append_right _ (List.mem_append_right _ (List.mem_append_right _ (List.mem_append_right _ (List.mem_append_right _ (List.mem_append_left _ (List.mem_of_getElem? (i := 179) rfl))))))))
theorem q_Md_read : Cond.code (am_y 272) (am_bt 272) (am_P 272).1 (am_rt (am_P 272).2.1) ∈ lw_tbl := (List.mem_append_right _ (List.mem_append_right _ (List.mem_append_right _ (List.mem_append_right _ (List.mem_append_right _ (List.mem_append_right _ (List.mem_append_left _ (List.mem_of_getElem? (i := 195) rfl))))))))
theorem q_Md_block : Cond.code (am_y 273) (am_bt 273) (am_P 273).1 (am_rt (am_P 273).2.1) ∈ lw_tbl := (List.mem_append_right _ (List.mem_append_right _ (List.mem_append_right _ (List.mem_append_right _ (List.mem_append_right _ (List.mem_append_right _ (List.mem_append_left _ (List.mem_of_getElem? (i := 199) rfl))))))))
theorem q_Md_ofBlock : Cond.code (am_y 274) (am_bt 274) (am_P 274).1 (am_rt (am_P 274).2.1) ∈ lw_tbl := (List.mem_append_right _ (List.mem_append_right _ (List.mem_append_right _ (List.mem_append_right _ (List.mem_append_right _ (List.mem_append_right _ (List.mem_append_left _ (List.mem_of_getElem? (i := 203) rfl))))))))
theorem q_Md_filled : Cond.code (am_y 275) (am_bt 275) (am_P 275).1 (am_rt (am_P 275).2.1) ∈ lw_tbl := (List.mem_append_right _ (List.mem_append_right _ (List.mem_append_right _ (List.mem_append_right _ (List.mem_append_right _ (List.mem_append_right _ (List.mem_append_left _ (List.mem_of_getElem? (i := 211) rfl))))))))
theorem q_Md_ofPart : Cond.code (am_y 276) (am_bt 276) (am_P 276).1 (am_rt (am_P 276).2.1) ∈ lw_tbl := (List.mem_append_right _ (List.mem_append_right _ (List.mem_append_right _ (List.mem_append_right _ (List.mem_append_right _ (List.mem_append_right _ (List.mem_append_left _ (List.mem_of_getElem? (i := 207) rfl))))))))
theorem q_Md_place : Cond.code (am_y 277) (am_bt 277) (am_P 277).1 (am_rt (am_P 277).2.1) ∈ lw_tbl := (List.mem_append_right _ (List.mem_append_right _ (List.mem_append_right _ (List.mem_append_right _ (List.mem_append_right _ (List.mem_append_right _ (List.mem_append_left _ (List.mem_of_getElem? (i := 215) rfl))))))))
theorem q_Md_hasBlock : Cond.code (am_y 278) (am_bt 278) (am_P 278).1 (am_rt (am_P 278).2.1) ∈ lw_tbl := (List.mem_append_right _ (List.mem_append_right _ (List.mem_append_right _ (List.mem_append_right _ (List.mem_append_right _ (List.mem_append_right _ (List.mem_append_right _ (List.mem_of_getElem? (i := 23) rfl))))))))
theorem q_Md_path : Cond.code (am_y 279) (am_bt 279) (am_P 279).1 (am_rt (am_P 279).2.1) ∈ lw_tbl := (List.mem_append_right _ (List.mem_append_right _ (List.mem_append_right _ (List.mem_append_right _ (List.mem_append_right _ (List.mem_append_right _ (List.mem_append_left _ (List.mem_of_getElem? (i := 219) rfl))))))))
theorem q_Md_isThere : Cond.code (am_y 280) (am_bt 280) (am_P 280).1 (am_rt (am_P 280).2.1) ∈ lw_tbl := (List.mem_append_right _ (List.mem_append_right _ (List.mem_append_right _ (List.mem_append_right _ (List.mem_append_right _ (List.mem_append_right _ (List.mem_append_left _ (List.mem_of_getElem? (i := 227) rfl))))))))
theorem q_Md_find : Cond.code (am_y 281) (am_bt 281) (am_P 281).1 (am_rt (am_P 281).2.1) ∈ lw_tbl := (List.mem_append_right _ (List.mem_append_right _ (List.mem_append_right _ (List.mem_append_right _ (List.mem_append_right _ (List.mem_append_right _ (List.mem_append_left _ (List.mem_of_getElem? (i := 223) rfl))))))))
theorem q_Md_times : Cond.code (am_y 282) (am_bt 282) (am_P 282).1 (am_rt (am_P 282).2.1) ∈ lw_tbl := (List.mem_append_right _ (List.mem_append_right _ (List.mem_append_right _ (List.mem_append_right _ (List.mem_append_right _ (List.mem_append_right _ (List.mem_append_left _ (List.mem_of_getElem? (i := 231) rfl))))))))
theorem q_Md_counted : Cond.code (am_y 283) (am_bt 283) (am_P 283).1 (am_rt (am_P 283).2.1) ∈ lw_tbl := (List.mem_append_right _ (List.mem_append_right _ (List.mem_append_right _ (List.mem_append_right _ (List.mem_append_right _ (List.mem_append_right _ (List.mem_append_left _ (List.mem_of_getElem? (i := 235) rfl))))))))
theorem q_Md_hasPart : Cond.code (am_y 284) (am_bt 284) (am_P 284).1 (am_rt (am_P 284).2.1) ∈ lw_tbl := (List.mem_append_right _ (List.mem_append_right _ (List.mem_append_right _ (List.mem_append_right _ (List.mem_append_right _ (List.mem_append_right _ (List.mem_append_right _ (List.mem_of_getElem? (i := 3) rfl))))))))
theorem q_Md_parts : Cond.code (am_y 285) (am_bt 285) (am_P 285).1 (am_rt (am_P 285).2.1) ∈ lw_tbl := (List.mem_append_right _ (List.mem_append_right _ (List.mem_append_right _ (List.mem_append_right _ (List.mem_append_right _ (List.mem_append_right _ (List.mem_append_left _ (List.mem_of_getElem? (i := 239) rfl))))))))
theorem q_Md_hottest : Cond.code (am_y 286) (am_bt 286) (am_P 286).1 (am_rt (am_P 286).2.1) ∈ lw_tbl := (List.mem_append_right _ (List.mem_append_right _ (List.mem_append_right _ (List.mem_append_right _ (List.mem_append_right _ (List.mem_append_right _ (List.mem_append_right _ (List.mem_of_getElem? (i := 7) rfl))))))))
theorem q_Md_holdsBlock : Cond.code (am_y 287) (am_bt 287) (am_P 287).1 (am_rt (am_P 287).2.1) ∈ lw_tbl := (List.mem_append_right _ (List.mem_append_right _ (List.mem_append_right _ (List.mem_append_right _ (List.mem_append_right _ (List.mem_append_right _ (List.mem_append_right _ (List.mem_of_getElem? (i := 15) rfl))))))))
theorem q_Md_leaves : Cond.code (am_y 288) (am_bt 288) (am_P 288).1 (am_rt (am_P 288).2.1) ∈ lw_tbl := (List.mem_append_right _ (List.mem_append_right _ (List.mem_append_right _ (List.mem_append_right _ (List.mem_append_right _ (List.mem_append_right _ (List.mem_append_right _ (List.mem_of_getElem? (i := 11) rfl))))))))
theorem q_Md_owners : Cond.code (am_y 289) (am_bt 289) (am_P 289).1 (am_rt (am_P 289).2.1) ∈ lw_tbl := (List.mem_append_right _ (List.mem_append_right _ (List.mem_append_right _ (List.mem_append_right _ (List.mem_append_right _ (List.mem_append_right _ (List.mem_append_right _ (List.mem_of_getElem? (i := 19) rfl))))))))
theorem q_Md_freed : Cond.code (am_y 290) (am_bt 290) (am_P 290).1 (am_rt (am_P 290).2.1) ∈ lw_tbl := (List.mem_append_right _ (List.mem_append_right _ (List.mem_append_right _ (List.mem_append_right _ (List.mem_append_right _ (List.mem_append_right _ (List.mem_append_left _ (List.mem_of_getElem? (i := 183) rfl))))))))
theorem q_Md_frees : Cond.code (am_y 291) (am_bt 291) (am_P 291).1 (am_rt (am_P 291).2.1) ∈ lw_tbl := (List.mem_append_right _ (List.mem_append_right _ (List.mem_append_right _ (List.mem_append_right _ (List.mem_append_right _ (List.mem_append_right _ (List.mem_append_right _ (List.mem_of_getElem? (i := 27) rfl))))))))
theorem q_Md_heaviest : Cond.code (am_y 292) (am_bt 292) (am_P 292).1 (am_rt (am_P 292).2.1) ∈ lw_tbl := (List.mem_append_right _ (List.mem_append_right _ (List.mem_append_right _ (List.mem_append_right _ (List.mem_append_right _ (List.mem_append_right _ (List.mem_append_right _ (List.mem_of_getElem? (i := 31) rfl))))))))
theorem q_Md_children : Cond.code (am_y 293) (am_bt 293) (am_P 293).1 (am_rt (am_P 293).2.1) ∈ lw_tbl := (List.mem_append_right _ (List.mem_append_right _ (List.mem_append_right _ (List.mem_append_right _ (List.mem_append_right _ (List.mem_append_right _ (List.mem_append_right _ (List.mem_of_getElem? (i := 35) rfl))))))))
theorem q_Md_isAbove : Cond.code (am_y 294) (am_bt 294) (am_P 294).1 (am_rt (am_P 294).2.1) ∈ lw_tbl := (List.mem_append_right _ (List.mem_append_right _ (List.mem_append_right _ (List.mem_append_right _ (List.mem_append_right _ (List.mem_append_right _ (List.mem_append_right _ (List.mem_of_getElem? (i := 43) rfl))))))))
theorem q_Md_nearest : Cond.code (am_y 295) (am_bt 295) (am_P 295).1 (am_rt (am_P 295).2.1) ∈ lw_tbl := (List.mem_append_right _ (List.mem_append_right _ (List.mem_append_right _ (List.mem_append_right _ (List.mem_append_right _ (List.mem_append_right _ (List.mem_append_right _ (List.mem_of_getElem? (i := 39) rfl))))))))
theorem q_Md_layRuns : Cond.code (am_y 296) (am_bt 296) (am_P 296).1 (am_rt (am_P 296).2.1) ∈ lw_tbl := (List.mem_append_right _ (List.mem_append_right _ (List.mem_append_right _ (List.mem_append_right _ (List.mem_append_right _ (List.mem_append_right _ (List.mem_append_left _ (List.mem_of_getElem? (i := 191) rfl))))))))
theorem q_Md_run : Cond.code (am_y 297) (am_bt 297) (am_P 297).1 (am_rt (am_P 297).2.1) ∈ lw_tbl := (List.mem_append_right _ (List.mem_append_right _ (List.mem_append_right _ (List.mem_append_right _ (List.mem_append_right _ (List.mem_append_right _ (List.mem_append_right _ (List.mem_of_getElem? (i := 47) rfl))))))))
theorem q_Md_next : Cond.code (am_y 298) (am_bt 298) (am_P 298).1 (am_rt (am_P 298).2.1) ∈ lw_tbl := (List.mem_append_right _ (List.mem_append_right _ (List.mem_append_right _ (List.mem_append_right _ (List.mem_append_right _ (List.mem_append_right _ (List.mem_append_right _ (List.mem_of_getElem? (i := 51) rfl))))))))
theorem q_Md_needs : Cond.code (am_y 299) (am_bt 299) (am_P 299).1 (am_rt (am_P 299).2.1) ∈ lw_tbl := (List.mem_append_right _ (List.mem_append_right _ (List.mem_append_right _ (List.mem_append_right _ (List.mem_append_right _ (List.mem_append_right _ (List.mem_append_right _ (List.mem_of_getElem? (i := 55) rfl))))))))
theorem q_Md_saved : Cond.code (am_y 300) (am_bt 300) (am_P 300).1 (am_rt (am_P 300).2.1) ∈ lw_tbl := (List.mem_append_right _ (List.mem_append_right _ (List.mem_append_right _ (List.mem_append_right _ (List.mem_append_right _ (List.mem_append_right _ (List.mem_append_right _ (List.mem_of_getElem? (i := 59) rfl))))))))
theorem q_Md_full : Cond.code (am_y 301) (am_bt 301) (am_P 301).1 (am_rt (am_P 301).2.1) ∈ lw_tbl := (List.mem_append_right _ (List.mem_append_right _ (List.mem_append_right _ (List.mem_append_right _ (List.mem_append_right _ (List.mem_append_right _ (List.mem_append_right _ (List.mem_of_getElem? (i := 73) rfl))))))))
theorem q_Md_mean : Cond.code (am_y 302) (am_bt 302) (am_P 302).1 (am_rt (am_P 302).2.1) ∈ lw_tbl := (List.mem_append_right _ (List.mem_append_right _ (List.mem_append_right _ (List.mem_append_right _ (List.mem_append_right _ (List.mem_append_right _ (List.mem_append_right _ (List.mem_of_getElem? (i := 78) rfl))))))))
theorem q_Md_digest : Cond.code (am_y 303) (am_bt 303) (am_P 303).1 (am_rt (am_P 303).2.1) ∈ lw_tbl := (List.mem_append_right _ (List.mem_append_right _ (List.mem_append_right _ (List.mem_append_right _ (List.mem_append_right _ (List.mem_append_right _ (List.mem_append_right _ (List.mem_of_getElem? (i := 92) rfl))))))))
theorem q_Md_image : Cond.code (am_y 304) (am_bt 304) (am_P 304).1 (am_rt (am_P 304).2.1) ∈ lw_tbl := (List.mem_append_right _ (List.mem_append_right _ (List.mem_append_right _ (List.mem_append_right _ (List.mem_append_right _ (List.mem_append_right _ (List.mem_append_right _ (List.mem_of_getElem? (i := 96) rfl))))))))
theorem q_Md_back : Cond.code (am_y 305) (am_bt 305) (am_P 305).1 (am_rt (am_P 305).2.1) ∈ lw_tbl := (List.mem_append_right _ (List.mem_append_right _ (List.mem_append_right _ (List.mem_append_right _ (List.mem_append_right _ (List.mem_append_right _ (List.mem_append_right _ (List.mem_of_getElem? (i := 100) rfl))))))))
theorem q_Md_steps : Cond.code (am_y 306) (am_bt 306) (am_P 306).1 (am_rt (am_P 306).2.1) ∈ lw_tbl := (List.mem_append_right _ (List.mem_append_right _ (List.mem_append_right _ (List.mem_append_right _ (List.mem_append_right _ (List.mem_append_right _ (List.mem_append_right _ (List.mem_of_getElem? (i := 104) rfl))))))))
theorem q_Du_isNaN : Cond.code (am_y 307) (am_bt 307) (am_P 307).1 (am_rt (am_P 307).2.1) ∈ lw_tbl := (List.mem_append_right _ (List.mem_append_right _ (List.mem_append_right _ (List.mem_append_right _ (List.mem_append_right _ (List.mem_append_right _ (List.mem_append_right _ (List.mem_of_getElem? (i := 84) rfl))))))))
theorem q_Du_doubleToLongBits : Cond.code (am_y 308) (am_bt 308) (am_P 308).1 (am_rt (am_P 308).2.1) ∈ lw_tbl := (List.mem_append_right _ (List.mem_append_right _ (List.mem_append_right _ (List.mem_append_right _ (List.mem_append_right _ (List.mem_append_right _ (List.mem_append_right _ (List.mem_of_getElem? (i := 81) rfl))))))))
theorem q_Fl_isNaN : Cond.code (am_y 309) (am_bt 309) (am_P 309).1 (am_rt (am_P 309).2.1) ∈ lw_tbl := (List.mem_append_right _ (List.mem_append_right _ (List.mem_append_right _ (List.mem_append_right _ (List.mem_append_right _ (List.mem_append_right _ (List.mem_append_right _ (List.mem_of_getElem? (i := 65) rfl))))))))
theorem q_Fl_floatToIntBits : Cond.code (am_y 310) (am_bt 310) (am_P 310).1 (am_rt (am_P 310).2.1) ∈ lw_tbl := (List.mem_append_right _ (List.mem_append_right _ (List.mem_append_right _ (List.mem_append_right _ (List.mem_append_right _ (List.mem_append_right _ (List.mem_append_right _ (List.mem_of_getElem? (i := 62) rfl))))))))
theorem q_Ar_fill : Cond.code (am_y 311) (am_bt 311) (am_P 311).1 (am_rt (am_P 311).2.1) ∈ lw_tbl := (List.mem_append_right _ (List.mem_append_left _ (List.mem_of_getElem? (i := 52) rfl)))
theorem q_blk_0 (j : Nat) (h1 : 0 ≤ j) (h2 : j < 20) : Cond.code (am_y j) (am_bt j) (am_P j).1 (am_rt (am_P j).2.1) ∈ lw_tbl := by
  rcases (show j = 0 ∨ j = 1 ∨ j = 2 ∨ j = 3 ∨ j = 4 ∨ j = 5 ∨ j = 6 ∨ j = 7 ∨ j = 8 ∨ j = 9 ∨ j = 10 ∨ j = 11 ∨ j = 12 ∨ j = 13 ∨ j = 14 ∨ j = 15 ∨ j = 16 ∨ j = 17 ∨ j = 18 ∨ j = 19 by omega) with rfl | rfl | rfl | rfl | rfl | rfl | rfl | rfl | rfl | rfl | rfl | rfl | rfl | rfl | rfl | rfl | rfl | rfl | rfl | rfl
  · exact q_Df_look
  · exact q_Df_walk
  · exact q_Df_note
  · exact q_Df_addressAt
  · exact q_Pa_keep
  · exact q_Pa_takeLatest
  · exact q_Pa_copyFrom
  · exact q_Po_copyFrom
  · exact q_Po_isUsedBlock
  · exact q_Po_countOf
  · exact q_Po_valueOf
  · exact q_Po_setValue
  · exact q_Po_kindOf
  · exact q_Po_at
  · exact q_Po_raise
  · exact q_Po_hang
  · exact q_Po_letGo
  · exact q_Po_leastFree
  · exact q_Po_newBlock
  · exact q_Po_ownPart
theorem q_blk_1 (j : Nat) (h1 : 20 ≤ j) (h2 : j < 40) : Cond.code (am_y j) (am_bt j) (am_P j).1 (am_rt (am_P j).2.1) ∈ lw_tbl := by
  rcases (show j = 20 ∨ j = 21 ∨ j = 22 ∨ j = 23 ∨ j = 24 ∨ j = 25 ∨ j = 26 ∨ j = 27 ∨ j = 28 ∨ j = 29 ∨ j = 30 ∨ j = 31 ∨ j = 32 ∨ j = 33 ∨ j = 34 ∨ j = 35 ∨ j = 36 ∨ j = 37 ∨ j = 38 ∨ j = 39 by omega) with rfl | rfl | rfl | rfl | rfl | rfl | rfl | rfl | rfl | rfl | rfl | rfl | rfl | rfl | rfl | rfl | rfl | rfl | rfl | rfl
  · exact q_Po_leastBlockWith
  · exact q_Po_filledPlaces
  · exact q_Po_usedBlocks
  · exact q_Po_usedParts
  · exact q_Po_usedLeaves
  · exact q_Po_countsTogether
  · exact q_Po_mostCounted
  · exact q_Po_placesOf
  · exact q_Po_leavesWith
  · exact q_Po_timesIn
  · exact q_Po_mappedUnder
  · exact q_Po_isUnder
  · exact q_Po_markUnder
  · exact q_Po_joinLikeBlocks
  · exact q_Po_lesserTwin
  · exact q_Po_hasSame
  · exact q_Po_hangInstead
  · exact q_Po_addPlaces
  · exact q_Po_numberClose
  · exact q_Po_renumber
theorem q_blk_2 (j : Nat) (h1 : 40 ≤ j) (h2 : j < 60) : Cond.code (am_y j) (am_bt j) (am_P j).1 (am_rt (am_P j).2.1) ∈ lw_tbl := by
  rcases (show j = 40 ∨ j = 41 ∨ j = 42 ∨ j = 43 ∨ j = 44 ∨ j = 45 ∨ j = 46 ∨ j = 47 ∨ j = 48 ∨ j = 49 ∨ j = 50 ∨ j = 51 ∨ j = 52 ∨ j = 53 ∨ j = 54 ∨ j = 55 ∨ j = 56 ∨ j = 57 ∨ j = 58 ∨ j = 59 by omega) with rfl | rfl | rfl | rfl | rfl | rfl | rfl | rfl | rfl | rfl | rfl | rfl | rfl | rfl | rfl | rfl | rfl | rfl | rfl | rfl
  · exact q_Po_movePart
  · exact q_Ro_add
  · exact q_Ro_told
  · exact q_St_copyFrom
  · exact q_St_isThere
  · exact q_St_volumes
  · exact q_St_leastFreeVolume
  · exact q_St_addVolume
  · exact q_St_removeVolume
  · exact q_St_hangTrunk
  · exact q_St_thingAt
  · exact q_St_blockAt
  · exact q_St_valueAt
  · exact q_St_firstMapped
  · exact q_St_firstWith
  · exact q_St_usedOf
  · exact q_St_mappedInAll
  · exact q_St_heldFree
  · exact q_St_isAllowed
  · exact q_St_openTo
theorem q_blk_3 (j : Nat) (h1 : 60 ≤ j) (h2 : j < 80) : Cond.code (am_y j) (am_bt j) (am_P j).1 (am_rt (am_P j).2.1) ∈ lw_tbl := by
  rcases (show j = 60 ∨ j = 61 ∨ j = 62 ∨ j = 63 ∨ j = 64 ∨ j = 65 ∨ j = 66 ∨ j = 67 ∨ j = 68 ∨ j = 69 ∨ j = 70 ∨ j = 71 ∨ j = 72 ∨ j = 73 ∨ j = 74 ∨ j = 75 ∨ j = 76 ∨ j = 77 ∨ j = 78 ∨ j = 79 by omega) with rfl | rfl | rfl | rfl | rfl | rfl | rfl | rfl | rfl | rfl | rfl | rfl | rfl | rfl | rfl | rfl | rfl | rfl | rfl | rfl
  · exact q_St_shut
  · exact q_St_put
  · exact q_St_clear
  · exact q_St_resize
  · exact q_St_copyBlock
  · exact q_St_moveBlock
  · exact q_St_insert
  · exact q_St_takeIn
  · exact q_St_exchange
  · exact q_St_isPrunable
  · exact q_St_prunableAfter
  · exact q_St_joinLikeParts
  · exact q_St_hangTrunkInstead
  · exact q_St_countPlaces
  · exact q_St_firstWrong
  · exact q_St_mendCounts
  · exact q_St_layClose
  · exact q_St_parentsAbove
  · exact q_St_isSelfOrAbove
  · exact q_St_isRunStart
theorem q_blk_4 (j : Nat) (h1 : 80 ≤ j) (h2 : j < 100) : Cond.code (am_y j) (am_bt j) (am_P j).1 (am_rt (am_P j).2.1) ∈ lw_tbl := by
  rcases (show j = 80 ∨ j = 81 ∨ j = 82 ∨ j = 83 ∨ j = 84 ∨ j = 85 ∨ j = 86 ∨ j = 87 ∨ j = 88 ∨ j = 89 ∨ j = 90 ∨ j = 91 ∨ j = 92 ∨ j = 93 ∨ j = 94 ∨ j = 95 ∨ j = 96 ∨ j = 97 ∨ j = 98 ∨ j = 99 by omega) with rfl | rfl | rfl | rfl | rfl | rfl | rfl | rfl | rfl | rfl | rfl | rfl | rfl | rfl | rfl | rfl | rfl | rfl | rfl | rfl
  · exact q_St_runsOf
  · exact q_St_runStart
  · exact q_St_runLength
  · exact q_Tv_make
  · exact q_Tv_take
  · exact q_Tv_write
  · exact q_Tv_wipe
  · exact q_Tv_bring
  · exact q_Tv_size
  · exact q_Tv_quota
  · exact q_Tv_share
  · exact q_Tv_graft
  · exact q_Tv_fill
  · exact q_Tv_reserve
  · exact q_Tv_hold
  · exact q_Tv_prune
  · exact q_Tv_send
  · exact q_Tv_receive
  · exact q_Tv_move
  · exact q_Tv_swap
theorem q_blk_5 (j : Nat) (h1 : 100 ≤ j) (h2 : j < 120) : Cond.code (am_y j) (am_bt j) (am_P j).1 (am_rt (am_P j).2.1) ∈ lw_tbl := by
  rcases (show j = 100 ∨ j = 101 ∨ j = 102 ∨ j = 103 ∨ j = 104 ∨ j = 105 ∨ j = 106 ∨ j = 107 ∨ j = 108 ∨ j = 109 ∨ j = 110 ∨ j = 111 ∨ j = 112 ∨ j = 113 ∨ j = 114 ∨ j = 115 ∨ j = 116 ∨ j = 117 ∨ j = 118 ∨ j = 119 by omega) with rfl | rfl | rfl | rfl | rfl | rfl | rfl | rfl | rfl | rfl | rfl | rfl | rfl | rfl | rfl | rfl | rfl | rfl | rfl | rfl
  · exact q_Tv_stage
  · exact q_Tv_commit
  · exact q_Tv_merge
  · exact q_Tv_fold
  · exact q_Tv_free
  · exact q_Tv_like
  · exact q_Tv_spoil
  · exact q_Tv_mend
  · exact q_Tv_close
  · exact q_Tv_undo
  · exact q_Tv_is
  · exact q_Tv_of
  · exact q_Tv_read
  · exact q_Tv_block
  · exact q_Tv_ofBlock
  · exact q_Tv_ofPart
  · exact q_Tv_place
  · exact q_Tv_owners
  · exact q_Tv_wrong
  · exact q_Tv_differs
theorem q_blk_6 (j : Nat) (h1 : 120 ≤ j) (h2 : j < 140) : Cond.code (am_y j) (am_bt j) (am_P j).1 (am_rt (am_P j).2.1) ∈ lw_tbl := by
  rcases (show j = 120 ∨ j = 121 ∨ j = 122 ∨ j = 123 ∨ j = 124 ∨ j = 125 ∨ j = 126 ∨ j = 127 ∨ j = 128 ∨ j = 129 ∨ j = 130 ∨ j = 131 ∨ j = 132 ∨ j = 133 ∨ j = 134 ∨ j = 135 ∨ j = 136 ∨ j = 137 ∨ j = 138 ∨ j = 139 by omega) with rfl | rfl | rfl | rfl | rfl | rfl | rfl | rfl | rfl | rfl | rfl | rfl | rfl | rfl | rfl | rfl | rfl | rfl | rfl | rfl
  · exact q_Tv_walked
  · exact q_Tv_changed
  · exact q_Tv_frees
  · exact q_Tv_heaviest
  · exact q_Tv_path
  · exact q_Tv_find
  · exact q_Tv_times
  · exact q_Tv_counted
  · exact q_Tv_hottest
  · exact q_Tv_leaves
  · exact q_Tv_parts
  · exact q_Tv_staged
  · exact q_Tv_stream
  · exact q_Tv_children
  · exact q_Tv_nearest
  · exact q_Tv_run
  · exact q_Tv_next
  · exact q_Tv_needs
  · exact q_Tv_saved
  · exact q_Tv_full
theorem q_blk_7 (j : Nat) (h1 : 140 ≤ j) (h2 : j < 160) : Cond.code (am_y j) (am_bt j) (am_P j).1 (am_rt (am_P j).2.1) ∈ lw_tbl := by
  rcases (show j = 140 ∨ j = 141 ∨ j = 142 ∨ j = 143 ∨ j = 144 ∨ j = 145 ∨ j = 146 ∨ j = 147 ∨ j = 148 ∨ j = 149 ∨ j = 150 ∨ j = 151 ∨ j = 152 ∨ j = 153 ∨ j = 154 ∨ j = 155 ∨ j = 156 ∨ j = 157 ∨ j = 158 ∨ j = 159 by omega) with rfl | rfl | rfl | rfl | rfl | rfl | rfl | rfl | rfl | rfl | rfl | rfl | rfl | rfl | rfl | rfl | rfl | rfl | rfl | rfl
  · exact q_Tv_mean
  · exact q_Tv_digest
  · exact q_Tv_image
  · exact q_Tv_back
  · exact q_Tv_steps
  · exact q_Tv_isSize
  · exact q_Tv_isQuota
  · exact q_Tv_isValue
  · exact q_Tv_isThing
  · exact q_Tv_isPart
  · exact q_Tv_partNumber
  · exact q_Tv_placeOf
  · exact q_Tv_isUsedPart
  · exact q_Tv_isInside
  · exact q_Tv_isPiece
  · exact q_Tv_isSound
  · exact q_Tv_isOpenToHand
  · exact q_Tv_begin
  · exact q_Tv_keepStep
  · exact q_Tv_settle
theorem q_blk_8 (j : Nat) (h1 : 160 ≤ j) (h2 : j < 180) : Cond.code (am_y j) (am_bt j) (am_P j).1 (am_rt (am_P j).2.1) ∈ lw_tbl := by
  rcases (show j = 160 ∨ j = 161 ∨ j = 162 ∨ j = 163 ∨ j = 164 ∨ j = 165 ∨ j = 166 ∨ j = 167 ∨ j = 168 ∨ j = 169 ∨ j = 170 ∨ j = 171 ∨ j = 172 ∨ j = 173 ∨ j = 174 ∨ j = 175 ∨ j = 176 ∨ j = 177 ∨ j = 178 ∨ j = 179 by omega) with rfl | rfl | rfl | rfl | rfl | rfl | rfl | rfl | rfl | rfl | rfl | rfl | rfl | rfl | rfl | rfl | rfl | rfl | rfl | rfl
  · exact q_Tv_freedBy
  · exact q_Tv_bitsOfFloat
  · exact q_Tv_bitsOfDouble
  · exact q_Md_copy
  · exact q_Md_isIn
  · exact q_Md_valueOf
  · exact q_Md_blockCount
  · exact q_Md_letBlock
  · exact q_Md_isBlock
  · exact q_Md_kindOf
  · exact q_Md_partCount
  · exact q_Md_letPart
  · exact q_Md_isPart
  · exact q_Md_placeOf
  · exact q_Md_letPlace
  · exact q_Md_get
  · exact q_Md_let
  · exact q_Md_isVolume
  · exact q_Md_blocks
  · exact q_Md_partsOf
theorem q_blk_9 (j : Nat) (h1 : 180 ≤ j) (h2 : j < 200) : Cond.code (am_y j) (am_bt j) (am_P j).1 (am_rt (am_P j).2.1) ∈ lw_tbl := by
  rcases (show j = 180 ∨ j = 181 ∨ j = 182 ∨ j = 183 ∨ j = 184 ∨ j = 185 ∨ j = 186 ∨ j = 187 ∨ j = 188 ∨ j = 189 ∨ j = 190 ∨ j = 191 ∨ j = 192 ∨ j = 193 ∨ j = 194 ∨ j = 195 ∨ j = 196 ∨ j = 197 ∨ j = 198 ∨ j = 199 by omega) with rfl | rfl | rfl | rfl | rfl | rfl | rfl | rfl | rfl | rfl | rfl | rfl | rfl | rfl | rfl | rfl | rfl | rfl | rfl | rfl
  · exact q_Md_stepIn
  · exact q_Md_partAt
  · exact q_Md_blockAt
  · exact q_Md_readAt
  · exact q_Md_usedOf
  · exact q_Md_letGoBlock
  · exact q_Md_letGoLeaf
  · exact q_Md_letGoTwig
  · exact q_Md_letGoTrunk
  · exact q_Md_letGoPart
  · exact q_Md_letGoIn
  · exact q_Md_countIn
  · exact q_Md_hang
  · exact q_Md_hangTrunk
  · exact q_Md_newPart
  · exact q_Md_newBlock
  · exact q_Md_own
  · exact q_Md_openTo
  · exact q_Md_isEmpty
  · exact q_Md_shut
theorem q_blk_10 (j : Nat) (h1 : 200 ≤ j) (h2 : j < 220) : Cond.code (am_y j) (am_bt j) (am_P j).1 (am_rt (am_P j).2.1) ∈ lw_tbl := by
  rcases (show j = 200 ∨ j = 201 ∨ j = 202 ∨ j = 203 ∨ j = 204 ∨ j = 205 ∨ j = 206 ∨ j = 207 ∨ j = 208 ∨ j = 209 ∨ j = 210 ∨ j = 211 ∨ j = 212 ∨ j = 213 ∨ j = 214 ∨ j = 215 ∨ j = 216 ∨ j = 217 ∨ j = 218 ∨ j = 219 by omega) with rfl | rfl | rfl | rfl | rfl | rfl | rfl | rfl | rfl | rfl | rfl | rfl | rfl | rfl | rfl | rfl | rfl | rfl | rfl | rfl
  · exact q_Md_blockWith
  · exact q_Md_writeNow
  · exact q_Md_wipeNow
  · exact q_Md_begin
  · exact q_Md_bringBack
  · exact q_Md_stepAt
  · exact q_Md_keep
  · exact q_Md_reserves
  · exact q_Md_isRight
  · exact q_Md_end
  · exact q_Md_endBoth
  · exact q_Md_isOpen
  · exact q_Md_isAddress
  · exact q_Md_undo
  · exact q_Md_newVolume
  · exact q_Md_make
  · exact q_Md_take
  · exact q_Md_write
  · exact q_Md_wipe
  · exact q_Md_bring
theorem q_blk_11 (j : Nat) (h1 : 220 ≤ j) (h2 : j < 240) : Cond.code (am_y j) (am_bt j) (am_P j).1 (am_rt (am_P j).2.1) ∈ lw_tbl := by
  rcases (show j = 220 ∨ j = 221 ∨ j = 222 ∨ j = 223 ∨ j = 224 ∨ j = 225 ∨ j = 226 ∨ j = 227 ∨ j = 228 ∨ j = 229 ∨ j = 230 ∨ j = 231 ∨ j = 232 ∨ j = 233 ∨ j = 234 ∨ j = 235 ∨ j = 236 ∨ j = 237 ∨ j = 238 ∨ j = 239 by omega) with rfl | rfl | rfl | rfl | rfl | rfl | rfl | rfl | rfl | rfl | rfl | rfl | rfl | rfl | rfl | rfl | rfl | rfl | rfl | rfl
  · exact q_Md_size
  · exact q_Md_quota
  · exact q_Md_isRow
  · exact q_Md_shareOne
  · exact q_Md_share
  · exact q_Md_move
  · exact q_Md_swap
  · exact q_Md_graft
  · exact q_Md_fill
  · exact q_Md_reserve
  · exact q_Md_hold
  · exact q_Md_freeNow
  · exact q_Md_bornBehind
  · exact q_Md_isPrunable
  · exact q_Md_prune
  · exact q_Md_free
  · exact q_Md_like
  · exact q_Md_layPlaces
  · exact q_Md_isWrongBlock
  · exact q_Md_isWrongPart
theorem q_blk_12 (j : Nat) (h1 : 240 ≤ j) (h2 : j < 260) : Cond.code (am_y j) (am_bt j) (am_P j).1 (am_rt (am_P j).2.1) ∈ lw_tbl := by
  rcases (show j = 240 ∨ j = 241 ∨ j = 242 ∨ j = 243 ∨ j = 244 ∨ j = 245 ∨ j = 246 ∨ j = 247 ∨ j = 248 ∨ j = 249 ∨ j = 250 ∨ j = 251 ∨ j = 252 ∨ j = 253 ∨ j = 254 ∨ j = 255 ∨ j = 256 ∨ j = 257 ∨ j = 258 ∨ j = 259 by omega) with rfl | rfl | rfl | rfl | rfl | rfl | rfl | rfl | rfl | rfl | rfl | rfl | rfl | rfl | rfl | rfl | rfl | rfl | rfl | rfl
  · exact q_Md_wrong
  · exact q_Md_spoil
  · exact q_Md_mend
  · exact q_Md_layBlocks
  · exact q_Md_layParts
  · exact q_Md_close
  · exact q_Md_placeIn
  · exact q_Md_walkLeaves
  · exact q_Md_walkTwigs
  · exact q_Md_layDifference
  · exact q_Md_areVolumes
  · exact q_Md_differs
  · exact q_Md_walked
  · exact q_Md_changed
  · exact q_Md_send
  · exact q_Md_stream
  · exact q_Md_doRow
  · exact q_Md_receive
  · exact q_Md_stage
  · exact q_Md_staged
theorem q_blk_13 (j : Nat) (h1 : 260 ≤ j) (h2 : j < 280) : Cond.code (am_y j) (am_bt j) (am_P j).1 (am_rt (am_P j).2.1) ∈ lw_tbl := by
  rcases (show j = 260 ∨ j = 261 ∨ j = 262 ∨ j = 263 ∨ j = 264 ∨ j = 265 ∨ j = 266 ∨ j = 267 ∨ j = 268 ∨ j = 269 ∨ j = 270 ∨ j = 271 ∨ j = 272 ∨ j = 273 ∨ j = 274 ∨ j = 275 ∨ j = 276 ∨ j = 277 ∨ j = 278 ∨ j = 279 by omega) with rfl | rfl | rfl | rfl | rfl | rfl | rfl | rfl | rfl | rfl | rfl | rfl | rfl | rfl | rfl | rfl | rfl | rfl | rfl | rfl
  · exact q_Md_commit
  · exact q_Md_merge
  · exact q_Md_areLike
  · exact q_Md_likePart
  · exact q_Md_replace
  · exact q_Md_fold
  · exact q_Md_mapped
  · exact q_Md_volumes
  · exact q_Md_counts
  · exact q_Md_is
  · exact q_Md_heightOf
  · exact q_Md_of
  · exact q_Md_read
  · exact q_Md_block
  · exact q_Md_ofBlock
  · exact q_Md_filled
  · exact q_Md_ofPart
  · exact q_Md_place
  · exact q_Md_hasBlock
  · exact q_Md_path
theorem q_blk_14 (j : Nat) (h1 : 280 ≤ j) (h2 : j < 300) : Cond.code (am_y j) (am_bt j) (am_P j).1 (am_rt (am_P j).2.1) ∈ lw_tbl := by
  rcases (show j = 280 ∨ j = 281 ∨ j = 282 ∨ j = 283 ∨ j = 284 ∨ j = 285 ∨ j = 286 ∨ j = 287 ∨ j = 288 ∨ j = 289 ∨ j = 290 ∨ j = 291 ∨ j = 292 ∨ j = 293 ∨ j = 294 ∨ j = 295 ∨ j = 296 ∨ j = 297 ∨ j = 298 ∨ j = 299 by omega) with rfl | rfl | rfl | rfl | rfl | rfl | rfl | rfl | rfl | rfl | rfl | rfl | rfl | rfl | rfl | rfl | rfl | rfl | rfl | rfl
  · exact q_Md_isThere
  · exact q_Md_find
  · exact q_Md_times
  · exact q_Md_counted
  · exact q_Md_hasPart
  · exact q_Md_parts
  · exact q_Md_hottest
  · exact q_Md_holdsBlock
  · exact q_Md_leaves
  · exact q_Md_owners
  · exact q_Md_freed
  · exact q_Md_frees
  · exact q_Md_heaviest
  · exact q_Md_children
  · exact q_Md_isAbove
  · exact q_Md_nearest
  · exact q_Md_layRuns
  · exact q_Md_run
  · exact q_Md_next
  · exact q_Md_needs
theorem q_blk_15 (j : Nat) (h1 : 300 ≤ j) (h2 : j < 312) : Cond.code (am_y j) (am_bt j) (am_P j).1 (am_rt (am_P j).2.1) ∈ lw_tbl := by
  rcases (show j = 300 ∨ j = 301 ∨ j = 302 ∨ j = 303 ∨ j = 304 ∨ j = 305 ∨ j = 306 ∨ j = 307 ∨ j = 308 ∨ j = 309 ∨ j = 310 ∨ j = 311 by omega) with rfl | rfl | rfl | rfl | rfl | rfl | rfl | rfl | rfl | rfl | rfl | rfl
  · exact q_Md_saved
  · exact q_Md_full
  · exact q_Md_mean
  · exact q_Md_digest
  · exact q_Md_image
  · exact q_Md_back
  · exact q_Md_steps
  · exact q_Du_isNaN
  · exact q_Du_doubleToLongBits
  · exact q_Fl_isNaN
  · exact q_Fl_floatToIntBits
  · exact q_Ar_fill
theorem q_all (j : Nat) (h : j < am_nm) : Cond.code (am_y j) (am_bt j) (am_P j).1 (am_rt (am_P j).2.1) ∈ lw_tbl := by
  have h : j < 312 := h
  by_cases h0 : j < 20
  · exact q_blk_0 j (by omega) h0
  by_cases h1 : j < 40
  · exact q_blk_1 j (by omega) h1
  by_cases h2 : j < 60
  · exact q_blk_2 j (by omega) h2
  by_cases h3 : j < 80
  · exact q_blk_3 j (by omega) h3
  by_cases h4 : j < 100
  · exact q_blk_4 j (by omega) h4
  by_cases h5 : j < 120
  · exact q_blk_5 j (by omega) h5
  by_cases h6 : j < 140
  · exact q_blk_6 j (by omega) h6
  by_cases h7 : j < 160
  · exact q_blk_7 j (by omega) h7
  by_cases h8 : j < 180
  · exact q_blk_8 j (by omega) h8
  by_cases h9 : j < 200
  · exact q_blk_9 j (by omega) h9
  by_cases h10 : j < 220
  · exact q_blk_10 j (by omega) h10
  by_cases h11 : j < 240
  · exact q_blk_11 j (by omega) h11
  by_cases h12 : j < 260
  · exact q_blk_12 j (by omega) h12
  by_cases h13 : j < 280
  · exact q_blk_13 j (by omega) h13
  by_cases h14 : j < 300
  · exact q_blk_14 j (by omega) h14
  exact q_blk_15 j (by omega) h
