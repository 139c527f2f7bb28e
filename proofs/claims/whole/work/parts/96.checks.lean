/-! each method against its bytes: decided by the kernel -/
theorem mk_LateIndexesLaw_law_0 : ((mc_LateIndexesLaw_law.drop 0).take 35).all (mm_chk 0) = true := by decide +kernel
theorem mk_LateIndexesLaw_law_35 : ((mc_LateIndexesLaw_law.drop 35).take 35).all (mm_chk 0) = true := by decide +kernel
theorem mk_LateIndexesLaw_law_70 : ((mc_LateIndexesLaw_law.drop 70).take 35).all (mm_chk 0) = true := by decide +kernel
theorem mk_LateIndexesLaw_law_105 : ((mc_LateIndexesLaw_law.drop 105).take 35).all (mm_chk 0) = true := by decide +kernel
theorem mk_LateIndexesLaw_law_140 : ((mc_LateIndexesLaw_law.drop 140).take 35).all (mm_chk 0) = true := by decide +kernel
theorem mk_LateIndexesLaw_law_175 : ((mc_LateIndexesLaw_law.drop 175).take 35).all (mm_chk 0) = true := by decide +kernel
theorem mk_LateIndexesLaw_law_210 : ((mc_LateIndexesLaw_law.drop 210).take 35).all (mm_chk 0) = true := by decide +kernel
theorem mk_LateIndexesLaw_law_245 : ((mc_LateIndexesLaw_law.drop 245).take 35).all (mm_chk 0) = true := by decide +kernel
theorem mk_LateIndexesLaw_law_280 : ((mc_LateIndexesLaw_law.drop 280).take 35).all (mm_chk 0) = true := by decide +kernel
theorem mk_LateIndexesLaw_law_315 : ((mc_LateIndexesLaw_law.drop 315).take 35).all (mm_chk 0) = true := by decide +kernel
theorem mk_LateIndexesLaw_law_350 : ((mc_LateIndexesLaw_law.drop 350).take 35).all (mm_chk 0) = true := by decide +kernel
theorem mk_LateIndexesLaw_law_385 : ((mc_LateIndexesLaw_law.drop 385).take 35).all (mm_chk 0) = true := by decide +kernel
theorem mk_LateIndexesLaw_law_420 : ((mc_LateIndexesLaw_law.drop 420).take 35).all (mm_chk 0) = true := by decide +kernel
theorem mk_LateIndexesLaw_law_455 : ((mc_LateIndexesLaw_law.drop 455).take 35).all (mm_chk 0) = true := by decide +kernel
theorem mk_LateIndexesLaw_law_490 : ((mc_LateIndexesLaw_law.drop 490).take 35).all (mm_chk 0) = true := by decide +kernel
theorem mk_LateIndexesLaw_law_525 : ((mc_LateIndexesLaw_law.drop 525).take 35).all (mm_chk 0) = true := by decide +kernel
theorem mk_LateIndexesLaw_law_560 : ((mc_LateIndexesLaw_law.drop 560).take 35).all (mm_chk 0) = true := by decide +kernel
theorem mk_LateIndexesLaw_law_595 : ((mc_LateIndexesLaw_law.drop 595).take 35).all (mm_chk 0) = true := by decide +kernel
theorem mk_LateIndexesLaw_law_630 : ((mc_LateIndexesLaw_law.drop 630).take 35).all (mm_chk 0) = true := by decide +kernel
theorem mk_LateIndexesLaw_law_665 : ((mc_LateIndexesLaw_law.drop 665).take 35).all (mm_chk 0) = true := by decide +kernel
theorem mk_LateIndexesLaw_law_700 : ((mc_LateIndexesLaw_law.drop 700).take 35).all (mm_chk 0) = true := by decide +kernel
theorem mk_LateIndexesLaw_law_735 : ((mc_LateIndexesLaw_law.drop 735).take 35).all (mm_chk 0) = true := by decide +kernel
theorem mk_LateIndexesLaw_law_770 : ((mc_LateIndexesLaw_law.drop 770).take 35).all (mm_chk 0) = true := by decide +kernel
theorem mk_LateIndexesLaw_law_805 : ((mc_LateIndexesLaw_law.drop 805).take 35).all (mm_chk 0) = true := by decide +kernel
theorem mk_LateIndexesLaw_law_840 : ((mc_LateIndexesLaw_law.drop 840).take 35).all (mm_chk 0) = true := by decide +kernel
theorem mk_LateIndexesLaw_law_875 : ((mc_LateIndexesLaw_law.drop 875).take 35).all (mm_chk 0) = true := by decide +kernel
theorem mk_LateIndexesLaw_law_910 : ((mc_LateIndexesLaw_law.drop 910).take 35).all (mm_chk 0) = true := by decide +kernel
theorem mk_LateIndexesLaw_law_945 : ((mc_LateIndexesLaw_law.drop 945).take 35).all (mm_chk 0) = true := by decide +kernel
theorem mk_LateIndexesLaw_law_980 : ((mc_LateIndexesLaw_law.drop 980).take 35).all (mm_chk 0) = true := by decide +kernel
theorem mk_LateIndexesLaw_law_1015 : (mc_LateIndexesLaw_law.drop 1015).all (mm_chk 0) = true := by decide +kernel
theorem mk_LateIndexesLaw_law : mc_LateIndexesLaw_law.all (mm_chk 0) = true := by
  have sp : ∀ (k : Nat), (mc_LateIndexesLaw_law.drop k).all (mm_chk 0) = (((mc_LateIndexesLaw_law.drop k).take 35).all (mm_chk 0) && (mc_LateIndexesLaw_law.drop (k + 35)).all (mm_chk 0)) := by
    intro k
    have e : mc_LateIndexesLaw_law.drop k = (mc_LateIndexesLaw_law.drop k).take 35 ++ mc_LateIndexesLaw_law.drop (k + 35) := by
      rw [← List.drop_drop]
      exact (List.take_append_drop 35 _).symm
    conv => lhs; rw [e]
    rw [List.all_append]
  have h980 : (mc_LateIndexesLaw_law.drop 980).all (mm_chk 0) = true := by rw [sp 980, mk_LateIndexesLaw_law_980, mk_LateIndexesLaw_law_1015]; rfl
  have h945 : (mc_LateIndexesLaw_law.drop 945).all (mm_chk 0) = true := by rw [sp 945, mk_LateIndexesLaw_law_945, h980]; rfl
  have h910 : (mc_LateIndexesLaw_law.drop 910).all (mm_chk 0) = true := by rw [sp 910, mk_LateIndexesLaw_law_910, h945]; rfl
  have h875 : (mc_LateIndexesLaw_law.drop 875).all (mm_chk 0) = true := by rw [sp 875, mk_LateIndexesLaw_law_875, h910]; rfl
  have h840 : (mc_LateIndexesLaw_law.drop 840).all (mm_chk 0) = true := by rw [sp 840, mk_LateIndexesLaw_law_840, h875]; rfl
  have h805 : (mc_LateIndexesLaw_law.drop 805).all (mm_chk 0) = true := by rw [sp 805, mk_LateIndexesLaw_law_805, h840]; rfl
  have h770 : (mc_LateIndexesLaw_law.drop 770).all (mm_chk 0) = true := by rw [sp 770, mk_LateIndexesLaw_law_770, h805]; rfl
  have h735 : (mc_LateIndexesLaw_law.drop 735).all (mm_chk 0) = true := by rw [sp 735, mk_LateIndexesLaw_law_735, h770]; rfl
  have h700 : (mc_LateIndexesLaw_law.drop 700).all (mm_chk 0) = true := by rw [sp 700, mk_LateIndexesLaw_law_700, h735]; rfl
  have h665 : (mc_LateIndexesLaw_law.drop 665).all (mm_chk 0) = true := by rw [sp 665, mk_LateIndexesLaw_law_665, h700]; rfl
  have h630 : (mc_LateIndexesLaw_law.drop 630).all (mm_chk 0) = true := by rw [sp 630, mk_LateIndexesLaw_law_630, h665]; rfl
  have h595 : (mc_LateIndexesLaw_law.drop 595).all (mm_chk 0) = true := by rw [sp 595, mk_LateIndexesLaw_law_595, h630]; rfl
  have h560 : (mc_LateIndexesLaw_law.drop 560).all (mm_chk 0) = true := by rw [sp 560, mk_LateIndexesLaw_law_560, h595]; rfl
  have h525 : (mc_LateIndexesLaw_law.drop 525).all (mm_chk 0) = true := by rw [sp 525, mk_LateIndexesLaw_law_525, h560]; rfl
  have h490 : (mc_LateIndexesLaw_law.drop 490).all (mm_chk 0) = true := by rw [sp 490, mk_LateIndexesLaw_law_490, h525]; rfl
  have h455 : (mc_LateIndexesLaw_law.drop 455).all (mm_chk 0) = true := by rw [sp 455, mk_LateIndexesLaw_law_455, h490]; rfl
  have h420 : (mc_LateIndexesLaw_law.drop 420).all (mm_chk 0) = true := by rw [sp 420, mk_LateIndexesLaw_law_420, h455]; rfl
  have h385 : (mc_LateIndexesLaw_law.drop 385).all (mm_chk 0) = true := by rw [sp 385, mk_LateIndexesLaw_law_385, h420]; rfl
  have h350 : (mc_LateIndexesLaw_law.drop 350).all (mm_chk 0) = true := by rw [sp 350, mk_LateIndexesLaw_law_350, h385]; rfl
  have h315 : (mc_LateIndexesLaw_law.drop 315).all (mm_chk 0) = true := by rw [sp 315, mk_LateIndexesLaw_law_315, h350]; rfl
  have h280 : (mc_LateIndexesLaw_law.drop 280).all (mm_chk 0) = true := by rw [sp 280, mk_LateIndexesLaw_law_280, h315]; rfl
  have h245 : (mc_LateIndexesLaw_law.drop 245).all (mm_chk 0) = true := by rw [sp 245, mk_LateIndexesLaw_law_245, h280]; rfl
  have h210 : (mc_LateIndexesLaw_law.drop 210).all (mm_chk 0) = true := by rw [sp 210, mk_LateIndexesLaw_law_210, h245]; rfl
  have h175 : (mc_LateIndexesLaw_law.drop 175).all (mm_chk 0) = true := by rw [sp 175, mk_LateIndexesLaw_law_175, h210]; rfl
  have h140 : (mc_LateIndexesLaw_law.drop 140).all (mm_chk 0) = true := by rw [sp 140, mk_LateIndexesLaw_law_140, h175]; rfl
  have h105 : (mc_LateIndexesLaw_law.drop 105).all (mm_chk 0) = true := by rw [sp 105, mk_LateIndexesLaw_law_105, h140]; rfl
  have h70 : (mc_LateIndexesLaw_law.drop 70).all (mm_chk 0) = true := by rw [sp 70, mk_LateIndexesLaw_law_70, h105]; rfl
  have h35 : (mc_LateIndexesLaw_law.drop 35).all (mm_chk 0) = true := by rw [sp 35, mk_LateIndexesLaw_law_35, h70]; rfl
  have h0 : (mc_LateIndexesLaw_law.drop 0).all (mm_chk 0) = true := by rw [sp 0, mk_LateIndexesLaw_law_0, h35]; rfl
  exact h0
theorem mk_LI_new : mc_LI_new.all (mm_chk 1) = true := by decide +kernel
theorem mk_LI_feed : mc_LI_feed.all (mm_chk 2) = true := by decide +kernel
theorem mk_LI_end : mc_LI_end.all (mm_chk 3) = true := by decide +kernel
theorem mk_LI_define : mc_LI_define.all (mm_chk 4) = true := by decide +kernel
theorem mk_LI_columnOf : mc_LI_columnOf.all (mm_chk 5) = true := by decide +kernel
theorem mk_LI_fault : mc_LI_fault.all (mm_chk 6) = true := by decide +kernel
theorem mk_LI_set : mc_LI_set.all (mm_chk 7) = true := by decide +kernel
theorem mk_LI_mend : mc_LI_mend.all (mm_chk 8) = true := by decide +kernel
theorem mk_LI_put : mc_LI_put.all (mm_chk 9) = true := by decide +kernel
theorem mk_LI_isKey : mc_LI_isKey.all (mm_chk 10) = true := by decide +kernel
theorem mk_LI_isNumber : mc_LI_isNumber.all (mm_chk 11) = true := by decide +kernel
theorem mk_LI_packed : mc_LI_packed.all (mm_chk 12) = true := by decide +kernel
theorem mk_LI_entryOf : mc_LI_entryOf.all (mm_chk 13) = true := by decide +kernel
theorem mk_LI_isStale : mc_LI_isStale.all (mm_chk 14) = true := by decide +kernel
theorem mk_LI_lesser : mc_LI_lesser.all (mm_chk 15) = true := by decide +kernel
theorem mk_LI_alike : mc_LI_alike.all (mm_chk 16) = true := by decide +kernel
theorem mk_LI_highest : mc_LI_highest.all (mm_chk 17) = true := by decide +kernel
theorem mk_LI_change : mc_LI_change.all (mm_chk 18) = true := by decide +kernel
theorem mk_LI_isColumn : mc_LI_isColumn.all (mm_chk 19) = true := by decide +kernel
theorem mk_LI_remove : mc_LI_remove.all (mm_chk 20) = true := by decide +kernel
theorem mk_LI_load : mc_LI_load.all (mm_chk 21) = true := by decide +kernel
theorem mk_LI_isLoad : mc_LI_isLoad.all (mm_chk 22) = true := by decide +kernel
theorem mk_LI_flush : mc_LI_flush.all (mm_chk 23) = true := by decide +kernel
theorem mk_LI_merge : mc_LI_merge.all (mm_chk 24) = true := by decide +kernel
theorem mk_LI_areRuns : mc_LI_areRuns.all (mm_chk 25) = true := by decide +kernel
theorem mk_LI_repair : mc_LI_repair.all (mm_chk 26) = true := by decide +kernel
theorem mk_LI_build : mc_LI_build.all (mm_chk 27) = true := by decide +kernel
theorem mk_LI_drop : mc_LI_drop.all (mm_chk 28) = true := by decide +kernel
theorem mk_LI_row : mc_LI_row.all (mm_chk 29) = true := by decide +kernel
theorem mk_LI_ask : mc_LI_ask.all (mm_chk 30) = true := by decide +kernel
theorem mk_LI_valueOf : mc_LI_valueOf.all (mm_chk 31) = true := by decide +kernel
theorem mk_LI_keyOf : mc_LI_keyOf.all (mm_chk 32) = true := by decide +kernel
theorem mk_LI_answered : mc_LI_answered.all (mm_chk 33) = true := by decide +kernel
theorem mk_LI_cost : mc_LI_cost.all (mm_chk 34) = true := by decide +kernel
theorem mk_LI_both : mc_LI_both.all (mm_chk 35) = true := by decide +kernel
theorem mk_LI_sum : mc_LI_sum.all (mm_chk 36) = true := by decide +kernel
theorem mk_LI_near : mc_LI_near.all (mm_chk 37) = true := by decide +kernel
theorem mk_LI_open : mc_LI_open.all (mm_chk 38) = true := by decide +kernel
theorem mk_LI_next : mc_LI_next.all (mm_chk 39) = true := by decide +kernel
theorem mk_LI_close : mc_LI_close.all (mm_chk 40) = true := by decide +kernel
theorem mk_LI_count : mc_LI_count.all (mm_chk 41) = true := by decide +kernel
theorem mk_LI_isAmong : mc_LI_isAmong.all (mm_chk 42) = true := by decide +kernel
theorem mk_LI_run : mc_LI_run.all (mm_chk 43) = true := by decide +kernel
theorem mk_LI_index : mc_LI_index.all (mm_chk 44) = true := by decide +kernel
theorem mk_LI_entry : mc_LI_entry.all (mm_chk 45) = true := by decide +kernel
theorem mk_LI_toldEntry : mc_LI_toldEntry.all (mm_chk 46) = true := by decide +kernel
theorem mk_LI_stampOf : mc_LI_stampOf.all (mm_chk 47) = true := by decide +kernel
theorem mk_LI_value : mc_LI_value.all (mm_chk 48) = true := by decide +kernel
theorem mk_LI_why : mc_LI_why.all (mm_chk 49) = true := by decide +kernel
theorem mk_LI_would : mc_LI_would.all (mm_chk 50) = true := by decide +kernel
theorem mk_LI_held : mc_LI_held.all (mm_chk 51) = true := by decide +kernel
theorem mk_LI_tried : mc_LI_tried.all (mm_chk 52) = true := by decide +kernel
theorem mk_LI_image : mc_LI_image.all (mm_chk 53) = true := by decide +kernel
theorem mk_LI_again : mc_LI_again.all (mm_chk 54) = true := by decide +kernel
theorem mk_Cost_new : mc_Cost_new.all (mm_chk 55) = true := by decide +kernel
theorem mk_Cost_goAlong : mc_Cost_goAlong.all (mm_chk 56) = true := by decide +kernel
theorem mk_Cost_judge : mc_Cost_judge.all (mm_chk 57) = true := by decide +kernel
theorem mk_Cost_copy : mc_Cost_copy.all (mm_chk 58) = true := by decide +kernel
theorem mk_Cursor_new : mc_Cursor_new.all (mm_chk 59) = true := by decide +kernel
theorem mk_Cursor_begin : mc_Cursor_begin.all (mm_chk 60) = true := by decide +kernel
theorem mk_Cursor_hold : mc_Cursor_hold.all (mm_chk 61) = true := by decide +kernel
theorem mk_Cursor_copy : mc_Cursor_copy.all (mm_chk 62) = true := by decide +kernel
theorem mk_Entries_new : mc_Entries_new.all (mm_chk 63) = true := by decide +kernel
theorem mk_Entries_add : mc_Entries_add.all (mm_chk 64) = true := by decide +kernel
theorem mk_Entries_copy : mc_Entries_copy.all (mm_chk 65) = true := by decide +kernel
theorem mk_Index_new : mc_Index_new.all (mm_chk 66) = true := by decide +kernel
theorem mk_Index_begin : mc_Index_begin.all (mm_chk 67) = true := by decide +kernel
theorem mk_Index_another : mc_Index_another.all (mm_chk 68) = true := by decide +kernel
theorem mk_Index_take : mc_Index_take.all (mm_chk 69) = true := by decide +kernel
theorem mk_Index_layDown : mc_Index_layDown.all (mm_chk 70) = true := by decide +kernel
theorem mk_Index_sure : mc_Index_sure.all (mm_chk 71) = true := by decide +kernel
theorem mk_Index_size : mc_Index_size.all (mm_chk 72) = true := by decide +kernel
theorem mk_Index_keepAside : mc_Index_keepAside.all (mm_chk 73) = true := by decide +kernel
theorem mk_Index_clash : mc_Index_clash.all (mm_chk 74) = true := by decide +kernel
theorem mk_Index_finish : mc_Index_finish.all (mm_chk 75) = true := by decide +kernel
theorem mk_Index_hasFrom : mc_Index_hasFrom.all (mm_chk 76) = true := by decide +kernel
theorem mk_Index_nearest : mc_Index_nearest.all (mm_chk 77) = true := by decide +kernel
theorem mk_Index_toldOfValues : mc_Index_toldOfValues.all (mm_chk 78) = true := by decide +kernel
theorem mk_Index_havers : mc_Index_havers.all (mm_chk 79) = true := by decide +kernel
theorem mk_Index_told : mc_Index_told.all (mm_chk 80) = true := by decide +kernel
theorem mk_Index_stale : mc_Index_stale.all (mm_chk 81) = true := by decide +kernel
theorem mk_Index_waste : mc_Index_waste.all (mm_chk 82) = true := by decide +kernel
theorem mk_Index_isAhead : mc_Index_isAhead.all (mm_chk 83) = true := by decide +kernel
theorem mk_Index_copy : mc_Index_copy.all (mm_chk 84) = true := by decide +kernel
theorem mk_Pile_new : mc_Pile_new.all (mm_chk 85) = true := by decide +kernel
theorem mk_Pile_putIn : mc_Pile_putIn.all (mm_chk 86) = true := by decide +kernel
theorem mk_Pile_size : mc_Pile_size.all (mm_chk 87) = true := by decide +kernel
theorem mk_Pile_leastRepaired : mc_Pile_leastRepaired.all (mm_chk 88) = true := by decide +kernel
theorem mk_Pile_mergeLevels : mc_Pile_mergeLevels.all (mm_chk 89) = true := by decide +kernel
theorem mk_Pile_mergeRuns : mc_Pile_mergeRuns.all (mm_chk 90) = true := by decide +kernel
theorem mk_Pile_takeOut : mc_Pile_takeOut.all (mm_chk 91) = true := by decide +kernel
theorem mk_Pile_sort : mc_Pile_sort.all (mm_chk 92) = true := by decide +kernel
theorem mk_Pile_keptGreatest : mc_Pile_keptGreatest.all (mm_chk 93) = true := by decide +kernel
theorem mk_Pile_cut : mc_Pile_cut.all (mm_chk 94) = true := by decide +kernel
theorem mk_Pile_keptFresh : mc_Pile_keptFresh.all (mm_chk 95) = true := by decide +kernel
theorem mk_Pile_dropEmpty : mc_Pile_dropEmpty.all (mm_chk 96) = true := by decide +kernel
theorem mk_Pile_repairRuns : mc_Pile_repairRuns.all (mm_chk 97) = true := by decide +kernel
theorem mk_Pile_hasRuns : mc_Pile_hasRuns.all (mm_chk 98) = true := by decide +kernel
theorem mk_Pile_told : mc_Pile_told.all (mm_chk 99) = true := by decide +kernel
theorem mk_Pile_sizeOf : mc_Pile_sizeOf.all (mm_chk 100) = true := by decide +kernel
theorem mk_Pile_staleIn : mc_Pile_staleIn.all (mm_chk 101) = true := by decide +kernel
theorem mk_Pile_worst : mc_Pile_worst.all (mm_chk 102) = true := by decide +kernel
theorem mk_Pile_wouldHave : mc_Pile_wouldHave.all (mm_chk 103) = true := by decide +kernel
theorem mk_Pile_copy : mc_Pile_copy.all (mm_chk 104) = true := by decide +kernel
theorem mk_Reader_new : mc_Reader_new.all (mm_chk 105) = true := by decide +kernel
theorem mk_Reader_readIndex : mc_Reader_readIndex.all (mm_chk 106) = true := by decide +kernel
theorem mk_Reader_split : mc_Reader_split.all (mm_chk 107) = true := by decide +kernel
theorem mk_Reader_sortOf : mc_Reader_sortOf.all (mm_chk 108) = true := by decide +kernel
theorem mk_Reader_name : mc_Reader_name.all (mm_chk 109) = true := by decide +kernel
theorem mk_Reader_word : mc_Reader_word.all (mm_chk 110) = true := by decide +kernel
theorem mk_Reader_isWord : mc_Reader_isWord.all (mm_chk 111) = true := by decide +kernel
theorem mk_Reader_sign : mc_Reader_sign.all (mm_chk 112) = true := by decide +kernel
theorem mk_Reader_passes : mc_Reader_passes.all (mm_chk 113) = true := by decide +kernel
theorem mk_Reader_fails : mc_Reader_fails.all (mm_chk 114) = true := by decide +kernel
theorem mk_Reader_readSum : mc_Reader_readSum.all (mm_chk 115) = true := by decide +kernel
theorem mk_Reader_readTerm : mc_Reader_readTerm.all (mm_chk 116) = true := by decide +kernel
theorem mk_Reader_beginsTerm : mc_Reader_beginsTerm.all (mm_chk 117) = true := by decide +kernel
theorem mk_Reader_readAtoms : mc_Reader_readAtoms.all (mm_chk 118) = true := by decide +kernel
theorem mk_Reader_place : mc_Reader_place.all (mm_chk 119) = true := by decide +kernel
theorem mk_Rule_new : mc_Rule_new.all (mm_chk 120) = true := by decide +kernel
theorem mk_Rule_clear : mc_Rule_clear.all (mm_chk 121) = true := by decide +kernel
theorem mk_Rule_add : mc_Rule_add.all (mm_chk 122) = true := by decide +kernel
theorem mk_Rule_valueOf : mc_Rule_valueOf.all (mm_chk 123) = true := by decide +kernel
theorem mk_Rule_reckoned : mc_Rule_reckoned.all (mm_chk 124) = true := by decide +kernel
theorem mk_Rule_copy : mc_Rule_copy.all (mm_chk 125) = true := by decide +kernel
theorem mk_Store_new : mc_Store_new.all (mm_chk 126) = true := by decide +kernel
theorem mk_Store_tell : mc_Store_tell.all (mm_chk 127) = true := by decide +kernel
theorem mk_Store_defined : mc_Store_defined.all (mm_chk 128) = true := by decide +kernel
theorem mk_Store_find : mc_Store_find.all (mm_chk 129) = true := by decide +kernel
theorem mk_Store_write : mc_Store_write.all (mm_chk 130) = true := by decide +kernel
theorem mk_Store_isRefused : mc_Store_isRefused.all (mm_chk 131) = true := by decide +kernel
theorem mk_Store_tellBy : mc_Store_tellBy.all (mm_chk 132) = true := by decide +kernel
theorem mk_Store_flushed : mc_Store_flushed.all (mm_chk 133) = true := by decide +kernel
theorem mk_Store_sure : mc_Store_sure.all (mm_chk 134) = true := by decide +kernel
theorem mk_Store_changed : mc_Store_changed.all (mm_chk 135) = true := by decide +kernel
theorem mk_Store_loaded : mc_Store_loaded.all (mm_chk 136) = true := by decide +kernel
theorem mk_Store_drawn : mc_Store_drawn.all (mm_chk 137) = true := by decide +kernel
theorem mk_Store_mergedTable : mc_Store_mergedTable.all (mm_chk 138) = true := by decide +kernel
theorem mk_Store_goAlong : mc_Store_goAlong.all (mm_chk 139) = true := by decide +kernel
theorem mk_Store_findBuilt : mc_Store_findBuilt.all (mm_chk 140) = true := by decide +kernel
theorem mk_Store_gather : mc_Store_gather.all (mm_chk 141) = true := by decide +kernel
theorem mk_Store_opened : mc_Store_opened.all (mm_chk 142) = true := by decide +kernel
theorem mk_Store_findCursor : mc_Store_findCursor.all (mm_chk 143) = true := by decide +kernel
theorem mk_Store_counted : mc_Store_counted.all (mm_chk 144) = true := by decide +kernel
theorem mk_Store_leftOver : mc_Store_leftOver.all (mm_chk 145) = true := by decide +kernel
theorem mk_Store_stands : mc_Store_stands.all (mm_chk 146) = true := by decide +kernel
theorem mk_Store_isHeldAhead : mc_Store_isHeldAhead.all (mm_chk 147) = true := by decide +kernel
theorem mk_Store_openCursors : mc_Store_openCursors.all (mm_chk 148) = true := by decide +kernel
theorem mk_Store_bits : mc_Store_bits.all (mm_chk 149) = true := by decide +kernel
theorem mk_Store_nextMerges : mc_Store_nextMerges.all (mm_chk 150) = true := by decide +kernel
theorem mk_Store_heldBy : mc_Store_heldBy.all (mm_chk 151) = true := by decide +kernel
theorem mk_Store_copy : mc_Store_copy.all (mm_chk 152) = true := by decide +kernel
theorem mk_Table_new : mc_Table_new.all (mm_chk 153) = true := by decide +kernel
theorem mk_Table_write : mc_Table_write.all (mm_chk 154) = true := by decide +kernel
theorem mk_Table_newId : mc_Table_newId.all (mm_chk 155) = true := by decide +kernel
theorem mk_Table_layDown : mc_Table_layDown.all (mm_chk 156) = true := by decide +kernel
theorem mk_Table_mergeLevels : mc_Table_mergeLevels.all (mm_chk 157) = true := by decide +kernel
theorem mk_Table_mergeRuns : mc_Table_mergeRuns.all (mm_chk 158) = true := by decide +kernel
theorem mk_Table_forgetGone : mc_Table_forgetGone.all (mm_chk 159) = true := by decide +kernel
theorem mk_Table_takeOut : mc_Table_takeOut.all (mm_chk 160) = true := by decide +kernel
theorem mk_Table_looks : mc_Table_looks.all (mm_chk 161) = true := by decide +kernel
theorem mk_Table_versions : mc_Table_versions.all (mm_chk 162) = true := by decide +kernel
theorem mk_Table_gone : mc_Table_gone.all (mm_chk 163) = true := by decide +kernel
theorem mk_Table_copy : mc_Table_copy.all (mm_chk 164) = true := by decide +kernel
theorem mk_Tape_new : mc_Tape_new.all (mm_chk 165) = true := by decide +kernel
theorem mk_Tape_add : mc_Tape_add.all (mm_chk 166) = true := by decide +kernel
theorem mk_Tape_copy : mc_Tape_copy.all (mm_chk 167) = true := by decide +kernel
theorem mk_Versions_new : mc_Versions_new.all (mm_chk 168) = true := by decide +kernel
theorem mk_Versions_isThere : mc_Versions_isThere.all (mm_chk 169) = true := by decide +kernel
theorem mk_Versions_has : mc_Versions_has.all (mm_chk 170) = true := by decide +kernel
theorem mk_Versions_keep : mc_Versions_keep.all (mm_chk 171) = true := by decide +kernel
theorem mk_Versions_copy : mc_Versions_copy.all (mm_chk 172) = true := by decide +kernel
theorem mk_Versions_takeOlder : mc_Versions_takeOlder.all (mm_chk 173) = true := by decide +kernel
theorem mk_Versions_forget : mc_Versions_forget.all (mm_chk 174) = true := by decide +kernel
theorem mk_Versions_filter : mc_Versions_filter.all (mm_chk 175) = true := by decide +kernel
theorem mk_Versions_size : mc_Versions_size.all (mm_chk 176) = true := by decide +kernel
theorem mk_Versions_gone : mc_Versions_gone.all (mm_chk 177) = true := by decide +kernel
theorem mk_Versions_keyAt : mc_Versions_keyAt.all (mm_chk 178) = true := by decide +kernel
theorem mk_M_new : mc_M_new.all (mm_chk 179) = true := by decide +kernel
theorem mk_M_define : mc_M_define.all (mm_chk 180) = true := by decide +kernel
theorem mk_M_at : mc_M_at.all (mm_chk 181) = true := by decide +kernel
theorem mk_M_takes : mc_M_takes.all (mm_chk 182) = true := by decide +kernel
theorem mk_M_byteAt : mc_M_byteAt.all (mm_chk 183) = true := by decide +kernel
theorem mk_M_isLetter : mc_M_isLetter.all (mm_chk 184) = true := by decide +kernel
theorem mk_M_isDigit : mc_M_isDigit.all (mm_chk 185) = true := by decide +kernel
theorem mk_M_readsIndex : mc_M_readsIndex.all (mm_chk 186) = true := by decide +kernel
theorem mk_M_hasWord : mc_M_hasWord.all (mm_chk 187) = true := by decide +kernel
theorem mk_M_isWord : mc_M_isWord.all (mm_chk 188) = true := by decide +kernel
theorem mk_M_fails : mc_M_fails.all (mm_chk 189) = true := by decide +kernel
theorem mk_M_reads : mc_M_reads.all (mm_chk 190) = true := by decide +kernel
theorem mk_M_isTerm : mc_M_isTerm.all (mm_chk 191) = true := by decide +kernel
theorem mk_M_isColumn : mc_M_isColumn.all (mm_chk 192) = true := by decide +kernel
theorem mk_M_isSign : mc_M_isSign.all (mm_chk 193) = true := by decide +kernel
theorem mk_M_readsAtom : mc_M_readsAtom.all (mm_chk 194) = true := by decide +kernel
theorem mk_M_fault : mc_M_fault.all (mm_chk 195) = true := by decide +kernel
theorem mk_M_feed : mc_M_feed.all (mm_chk 196) = true := by decide +kernel
theorem mk_M_end : mc_M_end.all (mm_chk 197) = true := by decide +kernel
theorem mk_M_isIn : mc_M_isIn.all (mm_chk 198) = true := by decide +kernel
theorem mk_M_set : mc_M_set.all (mm_chk 199) = true := by decide +kernel
theorem mk_M_mend : mc_M_mend.all (mm_chk 200) = true := by decide +kernel
theorem mk_M_isIndex : mc_M_isIndex.all (mm_chk 201) = true := by decide +kernel
theorem mk_M_put : mc_M_put.all (mm_chk 202) = true := by decide +kernel
theorem mk_M_isKey : mc_M_isKey.all (mm_chk 203) = true := by decide +kernel
theorem mk_M_areRow : mc_M_areRow.all (mm_chk 204) = true := by decide +kernel
theorem mk_M_packed : mc_M_packed.all (mm_chk 205) = true := by decide +kernel
theorem mk_M_puts : mc_M_puts.all (mm_chk 206) = true := by decide +kernel
theorem mk_M_wants : mc_M_wants.all (mm_chk 207) = true := by decide +kernel
theorem mk_M_sumOf : mc_M_sumOf.all (mm_chk 208) = true := by decide +kernel
theorem mk_M_column : mc_M_column.all (mm_chk 209) = true := by decide +kernel
theorem mk_M_valueOf : mc_M_valueOf.all (mm_chk 210) = true := by decide +kernel
theorem mk_M_other : mc_M_other.all (mm_chk 211) = true := by decide +kernel
theorem mk_M_isWanted : mc_M_isWanted.all (mm_chk 212) = true := by decide +kernel
theorem mk_M_isThere : mc_M_isThere.all (mm_chk 213) = true := by decide +kernel
theorem mk_M_latest : mc_M_latest.all (mm_chk 214) = true := by decide +kernel
theorem mk_M_runAt : mc_M_runAt.all (mm_chk 215) = true := by decide +kernel
theorem mk_M_rowOf : mc_M_rowOf.all (mm_chk 216) = true := by decide +kernel
theorem mk_M_whys : mc_M_whys.all (mm_chk 217) = true := by decide +kernel
theorem mk_M_stampOf : mc_M_stampOf.all (mm_chk 218) = true := by decide +kernel
theorem mk_M_writes : mc_M_writes.all (mm_chk 219) = true := by decide +kernel
theorem mk_M_adds : mc_M_adds.all (mm_chk 220) = true := by decide +kernel
theorem mk_M_entryAt : mc_M_entryAt.all (mm_chk 221) = true := by decide +kernel
theorem mk_M_sorts : mc_M_sorts.all (mm_chk 222) = true := by decide +kernel
theorem mk_M_isAhead : mc_M_isAhead.all (mm_chk 223) = true := by decide +kernel
theorem mk_M_swaps : mc_M_swaps.all (mm_chk 224) = true := by decide +kernel
theorem mk_M_flushes : mc_M_flushes.all (mm_chk 225) = true := by decide +kernel
theorem mk_M_flushesIndex : mc_M_flushesIndex.all (mm_chk 226) = true := by decide +kernel
theorem mk_M_drops : mc_M_drops.all (mm_chk 227) = true := by decide +kernel
theorem mk_M_entriesOf : mc_M_entriesOf.all (mm_chk 228) = true := by decide +kernel
theorem mk_M_head : mc_M_head.all (mm_chk 229) = true := by decide +kernel
theorem mk_M_lays : mc_M_lays.all (mm_chk 230) = true := by decide +kernel
theorem mk_M_number : mc_M_number.all (mm_chk 231) = true := by decide +kernel
theorem mk_M_mergesAll : mc_M_mergesAll.all (mm_chk 232) = true := by decide +kernel
theorem mk_M_alike : mc_M_alike.all (mm_chk 233) = true := by decide +kernel
theorem mk_M_levelOf : mc_M_levelOf.all (mm_chk 234) = true := by decide +kernel
theorem mk_M_merges : mc_M_merges.all (mm_chk 235) = true := by decide +kernel
theorem mk_M_mergesTable : mc_M_mergesTable.all (mm_chk 236) = true := by decide +kernel
theorem mk_M_sure : mc_M_sure.all (mm_chk 237) = true := by decide +kernel
theorem mk_M_oldest : mc_M_oldest.all (mm_chk 238) = true := by decide +kernel
theorem mk_M_tableGoes : mc_M_tableGoes.all (mm_chk 239) = true := by decide +kernel
theorem mk_M_mergesIndex : mc_M_mergesIndex.all (mm_chk 240) = true := by decide +kernel
theorem mk_M_isStale : mc_M_isStale.all (mm_chk 241) = true := by decide +kernel
theorem mk_M_runGoes : mc_M_runGoes.all (mm_chk 242) = true := by decide +kernel
theorem mk_M_topLevel : mc_M_topLevel.all (mm_chk 243) = true := by decide +kernel
theorem mk_M_repairs : mc_M_repairs.all (mm_chk 244) = true := by decide +kernel
theorem mk_M_change : mc_M_change.all (mm_chk 245) = true := by decide +kernel
theorem mk_M_changes : mc_M_changes.all (mm_chk 246) = true := by decide +kernel
theorem mk_M_remove : mc_M_remove.all (mm_chk 247) = true := by decide +kernel
theorem mk_M_load : mc_M_load.all (mm_chk 248) = true := by decide +kernel
theorem mk_M_loads : mc_M_loads.all (mm_chk 249) = true := by decide +kernel
theorem mk_M_draws : mc_M_draws.all (mm_chk 250) = true := by decide +kernel
theorem mk_M_flush : mc_M_flush.all (mm_chk 251) = true := by decide +kernel
theorem mk_M_merge : mc_M_merge.all (mm_chk 252) = true := by decide +kernel
theorem mk_M_areRuns : mc_M_areRuns.all (mm_chk 253) = true := by decide +kernel
theorem mk_M_repair : mc_M_repair.all (mm_chk 254) = true := by decide +kernel
theorem mk_M_drop : mc_M_drop.all (mm_chk 255) = true := by decide +kernel
theorem mk_M_goes : mc_M_goes.all (mm_chk 256) = true := by decide +kernel
theorem mk_M_build : mc_M_build.all (mm_chk 257) = true := by decide +kernel
theorem mk_M_isBuilt : mc_M_isBuilt.all (mm_chk 258) = true := by decide +kernel
theorem mk_M_keeps : mc_M_keeps.all (mm_chk 259) = true := by decide +kernel
theorem mk_M_clashes : mc_M_clashes.all (mm_chk 260) = true := by decide +kernel
theorem mk_M_ends : mc_M_ends.all (mm_chk 261) = true := by decide +kernel
theorem mk_M_row : mc_M_row.all (mm_chk 262) = true := by decide +kernel
theorem mk_M_ask : mc_M_ask.all (mm_chk 263) = true := by decide +kernel
theorem mk_M_costs : mc_M_costs.all (mm_chk 264) = true := by decide +kernel
theorem mk_M_looks : mc_M_looks.all (mm_chk 265) = true := by decide +kernel
theorem mk_M_filter : mc_M_filter.all (mm_chk 266) = true := by decide +kernel
theorem mk_M_asks : mc_M_asks.all (mm_chk 267) = true := by decide +kernel
theorem mk_M_cost : mc_M_cost.all (mm_chk 268) = true := by decide +kernel
theorem mk_M_both : mc_M_both.all (mm_chk 269) = true := by decide +kernel
theorem mk_M_isWith : mc_M_isWith.all (mm_chk 270) = true := by decide +kernel
theorem mk_M_sum : mc_M_sum.all (mm_chk 271) = true := by decide +kernel
theorem mk_M_near : mc_M_near.all (mm_chk 272) = true := by decide +kernel
theorem mk_M_open : mc_M_open.all (mm_chk 273) = true := by decide +kernel
theorem mk_M_isOpen : mc_M_isOpen.all (mm_chk 274) = true := by decide +kernel
theorem mk_M_cursorAt : mc_M_cursorAt.all (mm_chk 275) = true := by decide +kernel
theorem mk_M_next : mc_M_next.all (mm_chk 276) = true := by decide +kernel
theorem mk_M_close : mc_M_close.all (mm_chk 277) = true := by decide +kernel
theorem mk_M_count : mc_M_count.all (mm_chk 278) = true := by decide +kernel
theorem mk_M_counts : mc_M_counts.all (mm_chk 279) = true := by decide +kernel
theorem mk_M_inMemory : mc_M_inMemory.all (mm_chk 280) = true := by decide +kernel
theorem mk_M_versions : mc_M_versions.all (mm_chk 281) = true := by decide +kernel
theorem mk_M_there : mc_M_there.all (mm_chk 282) = true := by decide +kernel
theorem mk_M_leftOver : mc_M_leftOver.all (mm_chk 283) = true := by decide +kernel
theorem mk_M_isRun : mc_M_isRun.all (mm_chk 284) = true := by decide +kernel
theorem mk_M_isHeld : mc_M_isHeld.all (mm_chk 285) = true := by decide +kernel
theorem mk_M_cursors : mc_M_cursors.all (mm_chk 286) = true := by decide +kernel
theorem mk_M_indexes : mc_M_indexes.all (mm_chk 287) = true := by decide +kernel
theorem mk_M_merging : mc_M_merging.all (mm_chk 288) = true := by decide +kernel
theorem mk_M_copies : mc_M_copies.all (mm_chk 289) = true := by decide +kernel
theorem mk_M_run : mc_M_run.all (mm_chk 290) = true := by decide +kernel
theorem mk_M_index : mc_M_index.all (mm_chk 291) = true := by decide +kernel
theorem mk_M_ofRuns : mc_M_ofRuns.all (mm_chk 292) = true := by decide +kernel
theorem mk_M_stales : mc_M_stales.all (mm_chk 293) = true := by decide +kernel
theorem mk_M_waste : mc_M_waste.all (mm_chk 294) = true := by decide +kernel
theorem mk_M_unused : mc_M_unused.all (mm_chk 295) = true := by decide +kernel
theorem mk_M_withValue : mc_M_withValue.all (mm_chk 296) = true := by decide +kernel
theorem mk_M_crowded : mc_M_crowded.all (mm_chk 297) = true := by decide +kernel
theorem mk_M_worst : mc_M_worst.all (mm_chk 298) = true := by decide +kernel
theorem mk_M_entry : mc_M_entry.all (mm_chk 299) = true := by decide +kernel
theorem mk_M_value : mc_M_value.all (mm_chk 300) = true := by decide +kernel
theorem mk_M_why : mc_M_why.all (mm_chk 301) = true := by decide +kernel
theorem mk_M_would : mc_M_would.all (mm_chk 302) = true := by decide +kernel
theorem mk_M_held : mc_M_held.all (mm_chk 303) = true := by decide +kernel
theorem mk_M_tried : mc_M_tried.all (mm_chk 304) = true := by decide +kernel
theorem mk_M_image : mc_M_image.all (mm_chk 305) = true := by decide +kernel
theorem mk_M_again : mc_M_again.all (mm_chk 306) = true := by decide +kernel
theorem mk_Integer_bitCount : mc_Integer_bitCount.all (mm_chk 307) = true := by decide +kernel
theorem mk_String_length : mc_String_length.all (mm_chk 308) = true := by decide +kernel
theorem mk_String_charAt : mc_String_charAt.all (mm_chk 309) = true := by decide +kernel
theorem mm_chk_all : ∀ y, y < 310 → (mm_code y).all (mm_chk y) = true := by
  intro y hy
  match y, hy with
  | 0, _ => exact mk_LateIndexesLaw_law
  | 1, _ => exact mk_LI_new
  | 2, _ => exact mk_LI_feed
  | 3, _ => exact mk_LI_end
  | 4, _ => exact mk_LI_define
  | 5, _ => exact mk_LI_columnOf
  | 6, _ => exact mk_LI_fault
  | 7, _ => exact mk_LI_set
  | 8, _ => exact mk_LI_mend
  | 9, _ => exact mk_LI_put
  | 10, _ => exact mk_LI_isKey
  | 11, _ => exact mk_LI_isNumber
  | 12, _ => exact mk_LI_packed
  | 13, _ => exact mk_LI_entryOf
  | 14, _ => exact mk_LI_isStale
  | 15, _ => exact mk_LI_lesser
  | 16, _ => exact mk_LI_alike
  | 17, _ => exact mk_LI_highest
  | 18, _ => exact mk_LI_change
  | 19, _ => exact mk_LI_isColumn
  | 20, _ => exact mk_LI_remove
  | 21, _ => exact mk_LI_load
  | 22, _ => exact mk_LI_isLoad
  | 23, _ => exact mk_LI_flush
  | 24, _ => exact mk_LI_merge
  | 25, _ => exact mk_LI_areRuns
  | 26, _ => exact mk_LI_repair
  | 27, _ => exact mk_LI_build
  | 28, _ => exact mk_LI_drop
  | 29, _ => exact mk_LI_row
  | 30, _ => exact mk_LI_ask
  | 31, _ => exact mk_LI_valueOf
  | 32, _ => exact mk_LI_keyOf
  | 33, _ => exact mk_LI_answered
  | 34, _ => exact mk_LI_cost
  | 35, _ => exact mk_LI_both
  | 36, _ => exact mk_LI_sum
  | 37, _ => exact mk_LI_near
  | 38, _ => exact mk_LI_open
  | 39, _ => exact mk_LI_next
  | 40, _ => exact mk_LI_close
  | 41, _ => exact mk_LI_count
  | 42, _ => exact mk_LI_isAmong
  | 43, _ => exact mk_LI_run
  | 44, _ => exact mk_LI_index
  | 45, _ => exact mk_LI_entry
  | 46, _ => exact mk_LI_toldEntry
  | 47, _ => exact mk_LI_stampOf
  | 48, _ => exact mk_LI_value
  | 49, _ => exact mk_LI_why
  | 50, _ => exact mk_LI_would
  | 51, _ => exact mk_LI_held
  | 52, _ => exact mk_LI_tried
  | 53, _ => exact mk_LI_image
  | 54, _ => exact mk_LI_again
  | 55, _ => exact mk_Cost_new
  | 56, _ => exact mk_Cost_goAlong
  | 57, _ => exact mk_Cost_judge
  | 58, _ => exact mk_Cost_copy
  | 59, _ => exact mk_Cursor_new
  | 60, _ => exact mk_Cursor_begin
  | 61, _ => exact mk_Cursor_hold
  | 62, _ => exact mk_Cursor_copy
  | 63, _ => exact mk_Entries_new
  | 64, _ => exact mk_Entries_add
  | 65, _ => exact mk_Entries_copy
  | 66, _ => exact mk_Index_new
  | 67, _ => exact mk_Index_begin
  | 68, _ => exact mk_Index_another
  | 69, _ => exact mk_Index_take
  | 70, _ => exact mk_Index_layDown
  | 71, _ => exact mk_Index_sure
  | 72, _ => exact mk_Index_size
  | 73, _ => exact mk_Index_keepAside
  | 74, _ => exact mk_Index_clash
  | 75, _ => exact mk_Index_finish
  | 76, _ => exact mk_Index_hasFrom
  | 77, _ => exact mk_Index_nearest
  | 78, _ => exact mk_Index_toldOfValues
  | 79, _ => exact mk_Index_havers
  | 80, _ => exact mk_Index_told
  | 81, _ => exact mk_Index_stale
  | 82, _ => exact mk_Index_waste
  | 83, _ => exact mk_Index_isAhead
  | 84, _ => exact mk_Index_copy
  | 85, _ => exact mk_Pile_new
  | 86, _ => exact mk_Pile_putIn
  | 87, _ => exact mk_Pile_size
  | 88, _ => exact mk_Pile_leastRepaired
  | 89, _ => exact mk_Pile_mergeLevels
  | 90, _ => exact mk_Pile_mergeRuns
  | 91, _ => exact mk_Pile_takeOut
  | 92, _ => exact mk_Pile_sort
  | 93, _ => exact mk_Pile_keptGreatest
  | 94, _ => exact mk_Pile_cut
  | 95, _ => exact mk_Pile_keptFresh
  | 96, _ => exact mk_Pile_dropEmpty
  | 97, _ => exact mk_Pile_repairRuns
  | 98, _ => exact mk_Pile_hasRuns
  | 99, _ => exact mk_Pile_told
  | 100, _ => exact mk_Pile_sizeOf
  | 101, _ => exact mk_Pile_staleIn
  | 102, _ => exact mk_Pile_worst
  | 103, _ => exact mk_Pile_wouldHave
  | 104, _ => exact mk_Pile_copy
  | 105, _ => exact mk_Reader_new
  | 106, _ => exact mk_Reader_readIndex
  | 107, _ => exact mk_Reader_split
  | 108, _ => exact mk_Reader_sortOf
  | 109, _ => exact mk_Reader_name
  | 110, _ => exact mk_Reader_word
  | 111, _ => exact mk_Reader_isWord
  | 112, _ => exact mk_Reader_sign
  | 113, _ => exact mk_Reader_passes
  | 114, _ => exact mk_Reader_fails
  | 115, _ => exact mk_Reader_readSum
  | 116, _ => exact mk_Reader_readTerm
  | 117, _ => exact mk_Reader_beginsTerm
  | 118, _ => exact mk_Reader_readAtoms
  | 119, _ => exact mk_Reader_place
  | 120, _ => exact mk_Rule_new
  | 121, _ => exact mk_Rule_clear
  | 122, _ => exact mk_Rule_add
  | 123, _ => exact mk_Rule_valueOf
  | 124, _ => exact mk_Rule_reckoned
  | 125, _ => exact mk_Rule_copy
  | 126, _ => exact mk_Store_new
  | 127, _ => exact mk_Store_tell
  | 128, _ => exact mk_Store_defined
  | 129, _ => exact mk_Store_find
  | 130, _ => exact mk_Store_write
  | 131, _ => exact mk_Store_isRefused
  | 132, _ => exact mk_Store_tellBy
  | 133, _ => exact mk_Store_flushed
  | 134, _ => exact mk_Store_sure
  | 135, _ => exact mk_Store_changed
  | 136, _ => exact mk_Store_loaded
  | 137, _ => exact mk_Store_drawn
  | 138, _ => exact mk_Store_mergedTable
  | 139, _ => exact mk_Store_goAlong
  | 140, _ => exact mk_Store_findBuilt
  | 141, _ => exact mk_Store_gather
  | 142, _ => exact mk_Store_opened
  | 143, _ => exact mk_Store_findCursor
  | 144, _ => exact mk_Store_counted
  | 145, _ => exact mk_Store_leftOver
  | 146, _ => exact mk_Store_stands
  | 147, _ => exact mk_Store_isHeldAhead
  | 148, _ => exact mk_Store_openCursors
  | 149, _ => exact mk_Store_bits
  | 150, _ => exact mk_Store_nextMerges
  | 151, _ => exact mk_Store_heldBy
  | 152, _ => exact mk_Store_copy
  | 153, _ => exact mk_Table_new
  | 154, _ => exact mk_Table_write
  | 155, _ => exact mk_Table_newId
  | 156, _ => exact mk_Table_layDown
  | 157, _ => exact mk_Table_mergeLevels
  | 158, _ => exact mk_Table_mergeRuns
  | 159, _ => exact mk_Table_forgetGone
  | 160, _ => exact mk_Table_takeOut
  | 161, _ => exact mk_Table_looks
  | 162, _ => exact mk_Table_versions
  | 163, _ => exact mk_Table_gone
  | 164, _ => exact mk_Table_copy
  | 165, _ => exact mk_Tape_new
  | 166, _ => exact mk_Tape_add
  | 167, _ => exact mk_Tape_copy
  | 168, _ => exact mk_Versions_new
  | 169, _ => exact mk_Versions_isThere
  | 170, _ => exact mk_Versions_has
  | 171, _ => exact mk_Versions_keep
  | 172, _ => exact mk_Versions_copy
  | 173, _ => exact mk_Versions_takeOlder
  | 174, _ => exact mk_Versions_forget
  | 175, _ => exact mk_Versions_filter
  | 176, _ => exact mk_Versions_size
  | 177, _ => exact mk_Versions_gone
  | 178, _ => exact mk_Versions_keyAt
  | 179, _ => exact mk_M_new
  | 180, _ => exact mk_M_define
  | 181, _ => exact mk_M_at
  | 182, _ => exact mk_M_takes
  | 183, _ => exact mk_M_byteAt
  | 184, _ => exact mk_M_isLetter
  | 185, _ => exact mk_M_isDigit
  | 186, _ => exact mk_M_readsIndex
  | 187, _ => exact mk_M_hasWord
  | 188, _ => exact mk_M_isWord
  | 189, _ => exact mk_M_fails
  | 190, _ => exact mk_M_reads
  | 191, _ => exact mk_M_isTerm
  | 192, _ => exact mk_M_isColumn
  | 193, _ => exact mk_M_isSign
  | 194, _ => exact mk_M_readsAtom
  | 195, _ => exact mk_M_fault
  | 196, _ => exact mk_M_feed
  | 197, _ => exact mk_M_end
  | 198, _ => exact mk_M_isIn
  | 199, _ => exact mk_M_set
  | 200, _ => exact mk_M_mend
  | 201, _ => exact mk_M_isIndex
  | 202, _ => exact mk_M_put
  | 203, _ => exact mk_M_isKey
  | 204, _ => exact mk_M_areRow
  | 205, _ => exact mk_M_packed
  | 206, _ => exact mk_M_puts
  | 207, _ => exact mk_M_wants
  | 208, _ => exact mk_M_sumOf
  | 209, _ => exact mk_M_column
  | 210, _ => exact mk_M_valueOf
  | 211, _ => exact mk_M_other
  | 212, _ => exact mk_M_isWanted
  | 213, _ => exact mk_M_isThere
  | 214, _ => exact mk_M_latest
  | 215, _ => exact mk_M_runAt
  | 216, _ => exact mk_M_rowOf
  | 217, _ => exact mk_M_whys
  | 218, _ => exact mk_M_stampOf
  | 219, _ => exact mk_M_writes
  | 220, _ => exact mk_M_adds
  | 221, _ => exact mk_M_entryAt
  | 222, _ => exact mk_M_sorts
  | 223, _ => exact mk_M_isAhead
  | 224, _ => exact mk_M_swaps
  | 225, _ => exact mk_M_flushes
  | 226, _ => exact mk_M_flushesIndex
  | 227, _ => exact mk_M_drops
  | 228, _ => exact mk_M_entriesOf
  | 229, _ => exact mk_M_head
  | 230, _ => exact mk_M_lays
  | 231, _ => exact mk_M_number
  | 232, _ => exact mk_M_mergesAll
  | 233, _ => exact mk_M_alike
  | 234, _ => exact mk_M_levelOf
  | 235, _ => exact mk_M_merges
  | 236, _ => exact mk_M_mergesTable
  | 237, _ => exact mk_M_sure
  | 238, _ => exact mk_M_oldest
  | 239, _ => exact mk_M_tableGoes
  | 240, _ => exact mk_M_mergesIndex
  | 241, _ => exact mk_M_isStale
  | 242, _ => exact mk_M_runGoes
  | 243, _ => exact mk_M_topLevel
  | 244, _ => exact mk_M_repairs
  | 245, _ => exact mk_M_change
  | 246, _ => exact mk_M_changes
  | 247, _ => exact mk_M_remove
  | 248, _ => exact mk_M_load
  | 249, _ => exact mk_M_loads
  | 250, _ => exact mk_M_draws
  | 251, _ => exact mk_M_flush
  | 252, _ => exact mk_M_merge
  | 253, _ => exact mk_M_areRuns
  | 254, _ => exact mk_M_repair
  | 255, _ => exact mk_M_drop
  | 256, _ => exact mk_M_goes
  | 257, _ => exact mk_M_build
  | 258, _ => exact mk_M_isBuilt
  | 259, _ => exact mk_M_keeps
  | 260, _ => exact mk_M_clashes
  | 261, _ => exact mk_M_ends
  | 262, _ => exact mk_M_row
  | 263, _ => exact mk_M_ask
  | 264, _ => exact mk_M_costs
  | 265, _ => exact mk_M_looks
  | 266, _ => exact mk_M_filter
  | 267, _ => exact mk_M_asks
  | 268, _ => exact mk_M_cost
  | 269, _ => exact mk_M_both
  | 270, _ => exact mk_M_isWith
  | 271, _ => exact mk_M_sum
  | 272, _ => exact mk_M_near
  | 273, _ => exact mk_M_open
  | 274, _ => exact mk_M_isOpen
  | 275, _ => exact mk_M_cursorAt
  | 276, _ => exact mk_M_next
  | 277, _ => exact mk_M_close
  | 278, _ => exact mk_M_count
  | 279, _ => exact mk_M_counts
  | 280, _ => exact mk_M_inMemory
  | 281, _ => exact mk_M_versions
  | 282, _ => exact mk_M_there
  | 283, _ => exact mk_M_leftOver
  | 284, _ => exact mk_M_isRun
  | 285, _ => exact mk_M_isHeld
  | 286, _ => exact mk_M_cursors
  | 287, _ => exact mk_M_indexes
  | 288, _ => exact mk_M_merging
  | 289, _ => exact mk_M_copies
  | 290, _ => exact mk_M_run
  | 291, _ => exact mk_M_index
  | 292, _ => exact mk_M_ofRuns
  | 293, _ => exact mk_M_stales
  | 294, _ => exact mk_M_waste
  | 295, _ => exact mk_M_unused
  | 296, _ => exact mk_M_withValue
  | 297, _ => exact mk_M_crowded
  | 298, _ => exact mk_M_worst
  | 299, _ => exact mk_M_entry
  | 300, _ => exact mk_M_value
  | 301, _ => exact mk_M_why
  | 302, _ => exact mk_M_would
  | 303, _ => exact mk_M_held
  | 304, _ => exact mk_M_tried
  | 305, _ => exact mk_M_image
  | 306, _ => exact mk_M_again
  | 307, _ => exact mk_Integer_bitCount
  | 308, _ => exact mk_String_length
  | 309, _ => exact mk_String_charAt
  | _ + 310, h => omega
theorem mm_mx_28 : (List.range 310).all (fun y => decide (mm_mx y ≤ 28)) = true := by decide +kernel
theorem mm_mx_all : (List.range 310).all (fun y => decide (mm_mx y = mm_ml_ y)) = true := by decide +kernel
