set_option maxRecDepth 20000 in
theorem cw_0 : lw_tbl[676]? = some (Cond.code mi_Acts_forget.1 mi_Acts_forget.2.1 mi_Acts_forget.2.2.1 mi_Acts_forget.2.2.2.1) := rfl
set_option maxRecDepth 20000 in
theorem cw_1 : lw_tbl[697]? = some (Cond.code mi_Acts_note.1 mi_Acts_note.2.1 mi_Acts_note.2.2.1 mi_Acts_note.2.2.2.1) := rfl
set_option maxRecDepth 20000 in
theorem cw_2 : lw_tbl[1037]? = some (Cond.code mi_Acts_undoLatest.1 mi_Acts_undoLatest.2.1 mi_Acts_undoLatest.2.2.1 mi_Acts_undoLatest.2.2.2.1) := rfl
set_option maxRecDepth 20000 in
theorem cw_3 : lw_tbl[895]? = some (Cond.code mi_Basis_independent.1 mi_Basis_independent.2.1 mi_Basis_independent.2.2.1 mi_Basis_independent.2.2.2.1) := rfl
set_option maxRecDepth 20000 in
theorem cw_4 : lw_tbl[899]? = some (Cond.code mi_Basis_join.1 mi_Basis_join.2.1 mi_Basis_join.2.2.1 mi_Basis_join.2.2.2.1) := rfl
set_option maxRecDepth 20000 in
theorem cw_5 : lw_tbl[520]? = some (Cond.code mi_Given_reset.1 mi_Given_reset.2.1 mi_Given_reset.2.2.1 mi_Given_reset.2.2.2.1) := rfl
set_option maxRecDepth 20000 in
theorem cw_6 : lw_tbl[672]? = some (Cond.code mi_Given_copy.1 mi_Given_copy.2.1 mi_Given_copy.2.2.1 mi_Given_copy.2.2.2.1) := rfl
set_option maxRecDepth 20000 in
theorem cw_7 : lw_tbl[684]? = some (Cond.code mi_Given_has.1 mi_Given_has.2.1 mi_Given_has.2.2.1 mi_Given_has.2.2.2.1) := rfl
set_option maxRecDepth 20000 in
theorem cw_8 : lw_tbl[658]? = some (Cond.code mi_Given_find.1 mi_Given_find.2.1 mi_Given_find.2.2.1 mi_Given_find.2.2.2.1) := rfl
set_option maxRecDepth 20000 in
theorem cw_9 : lw_tbl[668]? = some (Cond.code mi_Given_insert.1 mi_Given_insert.2.1 mi_Given_insert.2.2.1 mi_Given_insert.2.2.2.1) := rfl
set_option maxRecDepth 20000 in
theorem cw_10 : lw_tbl[709]? = some (Cond.code mi_Given_drop.1 mi_Given_drop.2.1 mi_Given_drop.2.2.1 mi_Given_drop.2.2.2.1) := rfl
set_option maxRecDepth 20000 in
theorem cw_11 : lw_tbl[718]? = some (Cond.code mi_Given_revalue.1 mi_Given_revalue.2.1 mi_Given_revalue.2.2.1 mi_Given_revalue.2.2.2.1) := rfl
set_option maxRecDepth 20000 in
theorem cw_12 : lw_tbl[644]? = some (Cond.code mi_Given_resettle.1 mi_Given_resettle.2.1 mi_Given_resettle.2.2.1 mi_Given_resettle.2.2.2.1) := rfl
set_option maxRecDepth 20000 in
theorem cw_13 : lw_tbl[692]? = some (Cond.code mi_Given_canBeValue.1 mi_Given_canBeValue.2.1 mi_Given_canBeValue.2.2.1 mi_Given_canBeValue.2.2.2.1) := rfl
set_option maxRecDepth 20000 in
theorem cw_14 : lw_tbl[727]? = some (Cond.code mi_Given_fitsBits.1 mi_Given_fitsBits.2.1 mi_Given_fitsBits.2.2.1 mi_Given_fitsBits.2.2.2.1) := rfl
set_option maxRecDepth 20000 in
theorem cw_15 : lw_tbl[647]? = some (Cond.code mi_Given_canBeSetting.1 mi_Given_canBeSetting.2.1 mi_Given_canBeSetting.2.2.1 mi_Given_canBeSetting.2.2.2.1) := rfl
set_option maxRecDepth 20000 in
theorem cw_16 : lw_tbl[735]? = some (Cond.code mi_Marks_mix.1 mi_Marks_mix.2.1 mi_Marks_mix.2.2.1 mi_Marks_mix.2.2.2.1) := rfl
set_option maxRecDepth 20000 in
theorem cw_17 : lw_tbl[749]? = some (Cond.code mi_Marks_aim.1 mi_Marks_aim.2.1 mi_Marks_aim.2.2.1 mi_Marks_aim.2.2.2.1) := rfl
set_option maxRecDepth 20000 in
theorem cw_18 : lw_tbl[754]? = some (Cond.code mi_Marks_look.1 mi_Marks_look.2.1 mi_Marks_look.2.2.1 mi_Marks_look.2.2.2.1) := rfl
set_option maxRecDepth 20000 in
theorem cw_19 : lw_tbl[758]? = some (Cond.code mi_Marks_placeApart.1 mi_Marks_placeApart.2.1 mi_Marks_placeApart.2.2.1 mi_Marks_placeApart.2.2.2.1) := rfl
set_option maxRecDepth 20000 in
theorem cw_20 : lw_tbl[766]? = some (Cond.code mi_Marks_placeClose.1 mi_Marks_placeClose.2.1 mi_Marks_placeClose.2.2.1 mi_Marks_placeClose.2.2.2.1) := rfl
set_option maxRecDepth 20000 in
theorem cw_21 : lw_tbl[770]? = some (Cond.code mi_Marks_placeFree.1 mi_Marks_placeFree.2.1 mi_Marks_placeFree.2.2.1 mi_Marks_placeFree.2.2.2.1) := rfl
set_option maxRecDepth 20000 in
theorem cw_22 : lw_tbl[761]? = some (Cond.code mi_Marks_share.1 mi_Marks_share.2.1 mi_Marks_share.2.2.1 mi_Marks_share.2.2.2.1) := rfl
set_option maxRecDepth 20000 in
theorem cw_23 : lw_tbl[774]? = some (Cond.code mi_Marks_gatherTouched.1 mi_Marks_gatherTouched.2.1 mi_Marks_gatherTouched.2.2.1 mi_Marks_gatherTouched.2.2.2.1) := rfl
set_option maxRecDepth 20000 in
theorem cw_24 : lw_tbl[778]? = some (Cond.code mi_Marks_touchOnly.1 mi_Marks_touchOnly.2.1 mi_Marks_touchOnly.2.2.1 mi_Marks_touchOnly.2.2.2.1) := rfl
set_option maxRecDepth 20000 in
theorem cw_25 : lw_tbl[999]? = some (Cond.code mi_Marks_sum.1 mi_Marks_sum.2.1 mi_Marks_sum.2.2.1 mi_Marks_sum.2.2.2.1) := rfl
set_option maxRecDepth 20000 in
theorem cw_26 : lw_tbl[907]? = some (Cond.code mi_Mender_search.1 mi_Mender_search.2.1 mi_Mender_search.2.2.1 mi_Mender_search.2.2.2.1) := rfl
set_option maxRecDepth 20000 in
theorem cw_27 : lw_tbl[911]? = some (Cond.code mi_Mender_choose.1 mi_Mender_choose.2.1 mi_Mender_choose.2.2.1 mi_Mender_choose.2.2.2.1) := rfl
set_option maxRecDepth 20000 in
theorem cw_28 : lw_tbl[919]? = some (Cond.code mi_Mender_leaveOut.1 mi_Mender_leaveOut.2.1 mi_Mender_leaveOut.2.2.1 mi_Mender_leaveOut.2.2.2.1) := rfl
set_option maxRecDepth 20000 in
theorem cw_29 : lw_tbl[923]? = some (Cond.code mi_Mender_take.1 mi_Mender_take.2.1 mi_Mender_take.2.2.1 mi_Mender_take.2.2.2.1) := rfl
set_option maxRecDepth 20000 in
theorem cw_30 : lw_tbl[930]? = some (Cond.code mi_Mender_bringBack.1 mi_Mender_bringBack.2.1 mi_Mender_bringBack.2.2.1 mi_Mender_bringBack.2.2.2.1) := rfl
set_option maxRecDepth 20000 in
theorem cw_31 : lw_tbl[827]? = some (Cond.code mi_Peeling_run.1 mi_Peeling_run.2.1 mi_Peeling_run.2.2.1 mi_Peeling_run.2.2.2.1) := rfl
set_option maxRecDepth 20000 in
theorem cw_32 : lw_tbl[847]? = some (Cond.code mi_Peeling_runLine.1 mi_Peeling_runLine.2.1 mi_Peeling_runLine.2.2.1 mi_Peeling_runLine.2.2.2.1) := rfl
set_option maxRecDepth 20000 in
theorem cw_33 : lw_tbl[851]? = some (Cond.code mi_Peeling_lineUp.1 mi_Peeling_lineUp.2.1 mi_Peeling_lineUp.2.2.1 mi_Peeling_lineUp.2.2.2.1) := rfl
set_option maxRecDepth 20000 in
theorem cw_34 : lw_tbl[860]? = some (Cond.code mi_Peeling_leaveLine.1 mi_Peeling_leaveLine.2.1 mi_Peeling_leaveLine.2.2.1 mi_Peeling_leaveLine.2.2.2.1) := rfl
set_option maxRecDepth 20000 in
theorem cw_35 : lw_tbl[831]? = some (Cond.code mi_Peeling_runLeast.1 mi_Peeling_runLeast.2.1 mi_Peeling_runLeast.2.2.1 mi_Peeling_runLeast.2.2.2.1) := rfl
set_option maxRecDepth 20000 in
theorem cw_36 : lw_tbl[839]? = some (Cond.code mi_Peeling_goOut.1 mi_Peeling_goOut.2.1 mi_Peeling_goOut.2.2.1 mi_Peeling_goOut.2.2.2.1) := rfl
set_option maxRecDepth 20000 in
theorem cw_37 : lw_tbl[956]? = some (Cond.code mi_Peeling_fillBack.1 mi_Peeling_fillBack.2.1 mi_Peeling_fillBack.2.2.1 mi_Peeling_fillBack.2.2.2.1) := rfl
set_option maxRecDepth 20000 in
theorem cw_38 : lw_tbl[951]? = some (Cond.code mi_Peeling_countWoken.1 mi_Peeling_countWoken.2.1 mi_Peeling_countWoken.2.2.1 mi_Peeling_countWoken.2.2.2.1) := rfl
set_option maxRecDepth 20000 in
theorem cw_39 : lw_tbl[516]? = some (Cond.code mi_Reader_read.1 mi_Reader_read.2.1 mi_Reader_read.2.2.1 mi_Reader_read.2.2.2.1) := rfl
set_option maxRecDepth 20000 in
theorem cw_40 : lw_tbl[549]? = some (Cond.code mi_Reader_readSetting.1 mi_Reader_readSetting.2.1 mi_Reader_readSetting.2.2.1 mi_Reader_readSetting.2.2.2.1) := rfl
set_option maxRecDepth 20000 in
theorem cw_41 : lw_tbl[653]? = some (Cond.code mi_Reader_readKey.1 mi_Reader_readKey.2.1 mi_Reader_readKey.2.2.1 mi_Reader_readKey.2.2.2.1) := rfl
set_option maxRecDepth 20000 in
theorem cw_42 : lw_tbl[663]? = some (Cond.code mi_Reader_takeValue.1 mi_Reader_takeValue.2.1 mi_Reader_takeValue.2.2.1 mi_Reader_takeValue.2.2.2.1) := rfl
set_option maxRecDepth 20000 in
theorem cw_43 : lw_tbl[619]? = some (Cond.code mi_Reader_takeNumber.1 mi_Reader_takeNumber.2.1 mi_Reader_takeNumber.2.2.1 mi_Reader_takeNumber.2.2.2.1) := rfl
set_option maxRecDepth 20000 in
theorem cw_44 : lw_tbl[627]? = some (Cond.code mi_Reader_takeChoice.1 mi_Reader_takeChoice.2.1 mi_Reader_takeChoice.2.2.1 mi_Reader_takeChoice.2.2.2.1) := rfl
set_option maxRecDepth 20000 in
theorem cw_45 : lw_tbl[640]? = some (Cond.code mi_Reader_passStop.1 mi_Reader_passStop.2.1 mi_Reader_passStop.2.2.1 mi_Reader_passStop.2.2.2.1) := rfl
set_option maxRecDepth 20000 in
theorem cw_46 : lw_tbl[623]? = some (Cond.code mi_Reader_fail.1 mi_Reader_fail.2.1 mi_Reader_fail.2.2.1 mi_Reader_fail.2.2.2.1) := rfl
set_option maxRecDepth 20000 in
theorem cw_47 : lw_tbl[552]? = some (Cond.code mi_Reader_nameOf.1 mi_Reader_nameOf.2.1 mi_Reader_nameOf.2.2.1 mi_Reader_nameOf.2.2.2.1) := rfl
set_option maxRecDepth 20000 in
theorem cw_48 : lw_tbl[630]? = some (Cond.code mi_Reader_choiceOf.1 mi_Reader_choiceOf.2.1 mi_Reader_choiceOf.2.2.1 mi_Reader_choiceOf.2.2.2.1) := rfl
set_option maxRecDepth 20000 in
theorem cw_49 : lw_tbl[876]? = some (Cond.code mi_Rounds_run.1 mi_Rounds_run.2.1 mi_Rounds_run.2.2.1 mi_Rounds_run.2.2.2.1) := rfl
set_option maxRecDepth 20000 in
theorem cw_50 : lw_tbl[881]? = some (Cond.code mi_Rounds_mark.1 mi_Rounds_mark.2.1 mi_Rounds_mark.2.2.1 mi_Rounds_mark.2.2.2.1) := rfl
set_option maxRecDepth 20000 in
theorem cw_51 : lw_tbl[886]? = some (Cond.code mi_Rounds_takeMarked.1 mi_Rounds_takeMarked.2.1 mi_Rounds_takeMarked.2.2.1 mi_Rounds_takeMarked.2.2.2.1) := rfl
set_option maxRecDepth 20000 in
theorem cw_52 : lw_tbl[798]? = some (Cond.code mi_Row_lay.1 mi_Row_lay.2.1 mi_Row_lay.2.2.1 mi_Row_lay.2.2.2.1) := rfl
set_option maxRecDepth 20000 in
theorem cw_53 : lw_tbl[807]? = some (Cond.code mi_Row_putBack.1 mi_Row_putBack.2.1 mi_Row_putBack.2.2.1 mi_Row_putBack.2.2.2.1) := rfl
set_option maxRecDepth 20000 in
theorem cw_54 : lw_tbl[843]? = some (Cond.code mi_Row_takeOff.1 mi_Row_takeOff.2.1 mi_Row_takeOff.2.2.1 mi_Row_takeOff.2.2.2.1) := rfl
set_option maxRecDepth 20000 in
theorem cw_55 : lw_tbl[835]? = some (Cond.code mi_Row_loneKey.1 mi_Row_loneKey.2.1 mi_Row_loneKey.2.2.1 mi_Row_loneKey.2.2.2.1) := rfl
set_option maxRecDepth 20000 in
theorem cw_56 : lw_tbl[855]? = some (Cond.code mi_Row_isAlone.1 mi_Row_isAlone.2.1 mi_Row_isAlone.2.2.1 mi_Row_isAlone.2.2.2.1) := rfl
set_option maxRecDepth 20000 in
theorem cw_57 : lw_tbl[915]? = some (Cond.code mi_Row_countTouched.1 mi_Row_countTouched.2.1 mi_Row_countTouched.2.2.1 mi_Row_countTouched.2.2.2.1) := rfl
set_option maxRecDepth 20000 in
theorem cw_58 : lw_tbl[868]? = some (Cond.code mi_Row_leftAt.1 mi_Row_leftAt.2.1 mi_Row_leftAt.2.2.1 mi_Row_leftAt.2.2.2.1) := rfl
set_option maxRecDepth 20000 in
theorem cw_59 : lw_tbl[815]? = some (Cond.code mi_Row_touchSame.1 mi_Row_touchSame.2.1 mi_Row_touchSame.2.2.1 mi_Row_touchSame.2.2.2.1) := rfl
set_option maxRecDepth 20000 in
theorem cw_60 : lw_tbl[964]? = some (Cond.code mi_Sieve_describe.1 mi_Sieve_describe.2.1 mi_Sieve_describe.2.2.1 mi_Sieve_describe.2.2.2.1) := rfl
set_option maxRecDepth 20000 in
theorem cw_61 : lw_tbl[1020]? = some (Cond.code mi_Sieve_copy.1 mi_Sieve_copy.2.1 mi_Sieve_copy.2.2.1 mi_Sieve_copy.2.2.2.1) := rfl
set_option maxRecDepth 20000 in
theorem cw_62 : lw_tbl[977]? = some (Cond.code mi_Sieve_length.1 mi_Sieve_length.2.1 mi_Sieve_length.2.2.1 mi_Sieve_length.2.2.2.1) := rfl
set_option maxRecDepth 20000 in
theorem cw_63 : lw_tbl[973]? = some (Cond.code mi_Sieve_countBits.1 mi_Sieve_countBits.2.1 mi_Sieve_countBits.2.2.1 mi_Sieve_countBits.2.2.2.1) := rfl
set_option maxRecDepth 20000 in
theorem cw_64 : lw_tbl[990]? = some (Cond.code mi_Sieve_aim.1 mi_Sieve_aim.2.1 mi_Sieve_aim.2.2.1 mi_Sieve_aim.2.2.2.1) := rfl
set_option maxRecDepth 20000 in
theorem cw_65 : lw_tbl[995]? = some (Cond.code mi_Sieve_letsThrough.1 mi_Sieve_letsThrough.2.1 mi_Sieve_letsThrough.2.2.1 mi_Sieve_letsThrough.2.2.2.1) := rfl
set_option maxRecDepth 20000 in
theorem cw_66 : lw_tbl[1029]? = some (Cond.code mi_Sieve_countUnlike.1 mi_Sieve_countUnlike.2.1 mi_Sieve_countUnlike.2.2.1 mi_Sieve_countUnlike.2.2.2.1) := rfl
set_option maxRecDepth 20000 in
theorem cw_67 : lw_tbl[504]? = some (Cond.code mi_Tape_append.1 mi_Tape_append.2.1 mi_Tape_append.2.2.1 mi_Tape_append.2.2.2.1) := rfl
set_option maxRecDepth 20000 in
theorem cw_68 : lw_tbl[527]? = some (Cond.code mi_Tape_rewind.1 mi_Tape_rewind.2.1 mi_Tape_rewind.2.2.1 mi_Tape_rewind.2.2.2.1) := rfl
set_option maxRecDepth 20000 in
theorem cw_69 : lw_tbl[531]? = some (Cond.code mi_Tape_step.1 mi_Tape_step.2.1 mi_Tape_step.2.2.1 mi_Tape_step.2.2.2.1) := rfl
set_option maxRecDepth 20000 in
theorem cw_70 : lw_tbl[538]? = some (Cond.code mi_Tape_takeWord.1 mi_Tape_takeWord.2.1 mi_Tape_takeWord.2.2.1 mi_Tape_takeWord.2.2.2.1) := rfl
set_option maxRecDepth 20000 in
theorem cw_71 : lw_tbl[545]? = some (Cond.code mi_Tape_takeNumber.1 mi_Tape_takeNumber.2.1 mi_Tape_takeNumber.2.2.1 mi_Tape_takeNumber.2.2.2.1) := rfl
set_option maxRecDepth 20000 in
theorem cw_72 : lw_tbl[562]? = some (Cond.code mi_Tape_isWord.1 mi_Tape_isWord.2.1 mi_Tape_isWord.2.2.1 mi_Tape_isWord.2.2.2.1) := rfl
set_option maxRecDepth 20000 in
theorem cw_73 : lw_tbl[534]? = some (Cond.code mi_Tape_isLetter.1 mi_Tape_isLetter.2.1 mi_Tape_isLetter.2.2.1 mi_Tape_isLetter.2.2.2.1) := rfl
set_option maxRecDepth 20000 in
theorem cw_74 : lw_tbl[541]? = some (Cond.code mi_Tape_isDigit.1 mi_Tape_isDigit.2.1 mi_Tape_isDigit.2.2.1 mi_Tape_isDigit.2.2.2.1) := rfl
set_option maxRecDepth 20000 in
theorem cw_75 : lw_tbl[500]? = some (Cond.code mi_T_feed.1 mi_T_feed.2.1 mi_T_feed.2.2.1 mi_T_feed.2.2.2.1) := rfl
set_option maxRecDepth 20000 in
theorem cw_76 : lw_tbl[508]? = some (Cond.code mi_T_end.1 mi_T_end.2.1 mi_T_end.2.2.1 mi_T_end.2.2.2.1) := rfl
set_option maxRecDepth 20000 in
theorem cw_77 : lw_tbl[512]? = some (Cond.code mi_T_text.1 mi_T_text.2.1 mi_T_text.2.2.1 mi_T_text.2.2.2.1) := rfl
set_option maxRecDepth 20000 in
theorem cw_78 : lw_tbl[1054]? = some (Cond.code mi_T_key.1 mi_T_key.2.1 mi_T_key.2.2.1 mi_T_key.2.2.2.1) := rfl
set_option maxRecDepth 20000 in
theorem cw_79 : lw_tbl[680]? = some (Cond.code mi_T_worth.1 mi_T_worth.2.1 mi_T_worth.2.2.1 mi_T_worth.2.2.2.1) := rfl
set_option maxRecDepth 20000 in
theorem cw_80 : lw_tbl[688]? = some (Cond.code mi_T_add.1 mi_T_add.2.1 mi_T_add.2.2.1 mi_T_add.2.2.2.1) := rfl
set_option maxRecDepth 20000 in
theorem cw_81 : lw_tbl[705]? = some (Cond.code mi_T_gone.1 mi_T_gone.2.1 mi_T_gone.2.2.1 mi_T_gone.2.2.2.1) := rfl
set_option maxRecDepth 20000 in
theorem cw_82 : lw_tbl[714]? = some (Cond.code mi_T_turn.1 mi_T_turn.2.1 mi_T_turn.2.2.1 mi_T_turn.2.2.2.1) := rfl
set_option maxRecDepth 20000 in
theorem cw_83 : lw_tbl[722]? = some (Cond.code mi_T_set.1 mi_T_set.2.1 mi_T_set.2.2.1 mi_T_set.2.2.2.1) := rfl
set_option maxRecDepth 20000 in
theorem cw_84 : lw_tbl[732]? = some (Cond.code mi_T_hash.1 mi_T_hash.2.1 mi_T_hash.2.2.1 mi_T_hash.2.2.2.1) := rfl
set_option maxRecDepth 20000 in
theorem cw_85 : lw_tbl[741]? = some (Cond.code mi_T_cell.1 mi_T_cell.2.1 mi_T_cell.2.2.1 mi_T_cell.2.2.2.1) := rfl
set_option maxRecDepth 20000 in
theorem cw_86 : lw_tbl[786]? = some (Cond.code mi_T_print.1 mi_T_print.2.1 mi_T_print.2.2.1 mi_T_print.2.2.2.1) := rfl
set_option maxRecDepth 20000 in
theorem cw_87 : lw_tbl[790]? = some (Cond.code mi_T_load.1 mi_T_load.2.1 mi_T_load.2.2.1 mi_T_load.2.2.2.1) := rfl
set_option maxRecDepth 20000 in
theorem cw_88 : lw_tbl[811]? = some (Cond.code mi_T_twins.1 mi_T_twins.2.1 mi_T_twins.2.2.1 mi_T_twins.2.2.2.1) := rfl
set_option maxRecDepth 20000 in
theorem cw_89 : lw_tbl[819]? = some (Cond.code mi_T_peel.1 mi_T_peel.2.1 mi_T_peel.2.2.1 mi_T_peel.2.2.2.1) := rfl
set_option maxRecDepth 20000 in
theorem cw_90 : lw_tbl[864]? = some (Cond.code mi_T_core.1 mi_T_core.2.1 mi_T_core.2.2.1 mi_T_core.2.2.2.1) := rfl
set_option maxRecDepth 20000 in
theorem cw_91 : lw_tbl[872]? = some (Cond.code mi_T_level.1 mi_T_level.2.1 mi_T_level.2.2.1 mi_T_level.2.2.2.1) := rfl
set_option maxRecDepth 20000 in
theorem cw_92 : lw_tbl[891]? = some (Cond.code mi_T_rank.1 mi_T_rank.2.1 mi_T_rank.2.2.1 mi_T_rank.2.2.2.1) := rfl
set_option maxRecDepth 20000 in
theorem cw_93 : lw_tbl[903]? = some (Cond.code mi_T_mend.1 mi_T_mend.2.1 mi_T_mend.2.2.1 mi_T_mend.2.2.2.1) := rfl
set_option maxRecDepth 20000 in
theorem cw_94 : lw_tbl[935]? = some (Cond.code mi_T_tight.1 mi_T_tight.2.1 mi_T_tight.2.2.1 mi_T_tight.2.2.2.1) := rfl
set_option maxRecDepth 20000 in
theorem cw_95 : lw_tbl[943]? = some (Cond.code mi_T_peels.1 mi_T_peels.2.1 mi_T_peels.2.2.1 mi_T_peels.2.2.2.1) := rfl
set_option maxRecDepth 20000 in
theorem cw_96 : lw_tbl[947]? = some (Cond.code mi_T_wake.1 mi_T_wake.2.1 mi_T_wake.2.2.1 mi_T_wake.2.2.2.1) := rfl
set_option maxRecDepth 20000 in
theorem cw_97 : lw_tbl[960]? = some (Cond.code mi_T_build.1 mi_T_build.2.1 mi_T_build.2.2.1 mi_T_build.2.2.2.1) := rfl
set_option maxRecDepth 20000 in
theorem cw_98 : lw_tbl[969]? = some (Cond.code mi_T_built.1 mi_T_built.2.1 mi_T_built.2.2.1 mi_T_built.2.2.2.1) := rfl
set_option maxRecDepth 20000 in
theorem cw_99 : lw_tbl[981]? = some (Cond.code mi_T_filled.1 mi_T_filled.2.1 mi_T_filled.2.2.1 mi_T_filled.2.2.2.1) := rfl
set_option maxRecDepth 20000 in
theorem cw_100 : lw_tbl[986]? = some (Cond.code mi_T_passes.1 mi_T_passes.2.1 mi_T_passes.2.2.1 mi_T_passes.2.2.2.1) := rfl
set_option maxRecDepth 20000 in
theorem cw_101 : lw_tbl[1003]? = some (Cond.code mi_T_told.1 mi_T_told.2.1 mi_T_told.2.2.1 mi_T_told.2.2.2.1) := rfl
set_option maxRecDepth 20000 in
theorem cw_102 : lw_tbl[1008]? = some (Cond.code mi_T_right.1 mi_T_right.2.1 mi_T_right.2.2.1 mi_T_right.2.2.2.1) := rfl
set_option maxRecDepth 20000 in
theorem cw_103 : lw_tbl[1012]? = some (Cond.code mi_T_strangers.1 mi_T_strangers.2.1 mi_T_strangers.2.2.1 mi_T_strangers.2.2.2.1) := rfl
set_option maxRecDepth 20000 in
theorem cw_104 : lw_tbl[1016]? = some (Cond.code mi_T_shelf.1 mi_T_shelf.2.1 mi_T_shelf.2.2.1 mi_T_shelf.2.2.2.1) := rfl
set_option maxRecDepth 20000 in
theorem cw_105 : lw_tbl[1025]? = some (Cond.code mi_T_unlike.1 mi_T_unlike.2.1 mi_T_unlike.2.2.1 mi_T_unlike.2.2.2.1) := rfl
set_option maxRecDepth 20000 in
theorem cw_106 : lw_tbl[1033]? = some (Cond.code mi_T_undo.1 mi_T_undo.2.1 mi_T_undo.2.2.1 mi_T_undo.2.2.2.1) := rfl
set_option maxRecDepth 20000 in
theorem cw_107 : lw_tbl[1045]? = some (Cond.code mi_T_count.1 mi_T_count.2.1 mi_T_count.2.2.1 mi_T_count.2.2.2.1) := rfl
set_option maxRecDepth 20000 in
theorem cw_108 : lw_tbl[745]? = some (Cond.code mi_T_lookNow.1 mi_T_lookNow.2.1 mi_T_lookNow.2.2.1 mi_T_lookNow.2.2.2.1) := rfl
set_option maxRecDepth 20000 in
theorem cw_109 : lw_tbl[794]? = some (Cond.code mi_T_layNow.1 mi_T_layNow.2.1 mi_T_layNow.2.2.1 mi_T_layNow.2.2.2.1) := rfl
set_option maxRecDepth 20000 in
theorem cw_110 : lw_tbl[823]? = some (Cond.code mi_T_peelNow.1 mi_T_peelNow.2.1 mi_T_peelNow.2.2.1 mi_T_peelNow.2.2.2.1) := rfl
set_option maxRecDepth 20000 in
theorem cw_111 : lw_tbl[939]? = some (Cond.code mi_T_allPeel.1 mi_T_allPeel.2.1 mi_T_allPeel.2.2.1 mi_T_allPeel.2.2.2.1) := rfl
set_option maxRecDepth 20000 in
theorem cw_112 : lw_tbl[1119]? = some (Cond.code mi_M_thrown.1 mi_M_thrown.2.1 mi_M_thrown.2.2.1 mi_M_thrown.2.2.2.1) := rfl
set_option maxRecDepth 20000 in
theorem cw_113 : lw_tbl[1383]? = some (Cond.code mi_M_refuse.1 mi_M_refuse.2.1 mi_M_refuse.2.2.1 mi_M_refuse.2.2.2.1) := rfl
set_option maxRecDepth 20000 in
theorem cw_114 : lw_tbl[1358]? = some (Cond.code mi_M_isIn.1 mi_M_isIn.2.1 mi_M_isIn.2.2.1 mi_M_isIn.2.2.2.1) := rfl
set_option maxRecDepth 20000 in
theorem cw_115 : lw_tbl[1128]? = some (Cond.code mi_M_lays.1 mi_M_lays.2.1 mi_M_lays.2.2.1 mi_M_lays.2.2.2.1) := rfl
set_option maxRecDepth 20000 in
theorem cw_116 : lw_tbl[1123]? = some (Cond.code mi_M_feed.1 mi_M_feed.2.1 mi_M_feed.2.2.1 mi_M_feed.2.2.2.1) := rfl
set_option maxRecDepth 20000 in
theorem cw_117 : lw_tbl[1132]? = some (Cond.code mi_M_end.1 mi_M_end.2.1 mi_M_end.2.2.1 mi_M_end.2.2.2.1) := rfl
set_option maxRecDepth 20000 in
theorem cw_118 : lw_tbl[1303]? = some (Cond.code mi_M_tapeAt.1 mi_M_tapeAt.2.1 mi_M_tapeAt.2.2.1 mi_M_tapeAt.2.2.2.1) := rfl
set_option maxRecDepth 20000 in
theorem cw_119 : lw_tbl[1308]? = some (Cond.code mi_M_isDigit.1 mi_M_isDigit.2.1 mi_M_isDigit.2.2.1 mi_M_isDigit.2.2.2.1) := rfl
set_option maxRecDepth 20000 in
theorem cw_120 : lw_tbl[1299]? = some (Cond.code mi_M_isLetter.1 mi_M_isLetter.2.1 mi_M_isLetter.2.2.1 mi_M_isLetter.2.2.2.1) := rfl
set_option maxRecDepth 20000 in
theorem cw_121 : lw_tbl[1296]? = some (Cond.code mi_M_go.1 mi_M_go.2.1 mi_M_go.2.2.1 mi_M_go.2.2.2.1) := rfl
set_option maxRecDepth 20000 in
theorem cw_122 : lw_tbl[1322]? = some (Cond.code mi_M_three.1 mi_M_three.2.1 mi_M_three.2.2.1 mi_M_three.2.2.2.1) := rfl
set_option maxRecDepth 20000 in
theorem cw_123 : lw_tbl[1318]? = some (Cond.code mi_M_five.1 mi_M_five.2.1 mi_M_five.2.2.1 mi_M_five.2.2.2.1) := rfl
set_option maxRecDepth 20000 in
theorem cw_124 : lw_tbl[1325]? = some (Cond.code mi_M_six.1 mi_M_six.2.1 mi_M_six.2.2.1 mi_M_six.2.2.2.1) := rfl
set_option maxRecDepth 20000 in
theorem cw_125 : lw_tbl[1331]? = some (Cond.code mi_M_isWord.1 mi_M_isWord.2.1 mi_M_isWord.2.2.1 mi_M_isWord.2.2.2.1) := rfl
set_option maxRecDepth 20000 in
theorem cw_126 : lw_tbl[1348]? = some (Cond.code mi_M_bad.1 mi_M_bad.2.1 mi_M_bad.2.2.1 mi_M_bad.2.2.2.1) := rfl
set_option maxRecDepth 20000 in
theorem cw_127 : lw_tbl[1140]? = some (Cond.code mi_M_begins.1 mi_M_begins.2.1 mi_M_begins.2.2.1 mi_M_begins.2.2.2.1) := rfl
set_option maxRecDepth 20000 in
theorem cw_128 : lw_tbl[1351]? = some (Cond.code mi_M_lowOf.1 mi_M_lowOf.2.1 mi_M_lowOf.2.2.1 mi_M_lowOf.2.2.2.1) := rfl
set_option maxRecDepth 20000 in
theorem cw_129 : lw_tbl[1354]? = some (Cond.code mi_M_highOf.1 mi_M_highOf.2.1 mi_M_highOf.2.2.1 mi_M_highOf.2.2.2.1) := rfl
set_option maxRecDepth 20000 in
theorem cw_130 : lw_tbl[1315]? = some (Cond.code mi_M_nameOf.1 mi_M_nameOf.2.1 mi_M_nameOf.2.2.1 mi_M_nameOf.2.2.2.1) := rfl
set_option maxRecDepth 20000 in
theorem cw_131 : lw_tbl[1339]? = some (Cond.code mi_M_wayHere.1 mi_M_wayHere.2.1 mi_M_wayHere.2.2.1 mi_M_wayHere.2.2.2.1) := rfl
set_option maxRecDepth 20000 in
theorem cw_132 : lw_tbl[1343]? = some (Cond.code mi_M_spreadHere.1 mi_M_spreadHere.2.1 mi_M_spreadHere.2.2.1 mi_M_spreadHere.2.2.2.1) := rfl
set_option maxRecDepth 20000 in
theorem cw_133 : lw_tbl[1335]? = some (Cond.code mi_M_readSetting.1 mi_M_readSetting.2.1 mi_M_readSetting.2.2.1 mi_M_readSetting.2.2.2.1) := rfl
set_option maxRecDepth 20000 in
theorem cw_134 : lw_tbl[1362]? = some (Cond.code mi_M_readEnd.1 mi_M_readEnd.2.1 mi_M_readEnd.2.2.1 mi_M_readEnd.2.2.2.1) := rfl
set_option maxRecDepth 20000 in
theorem cw_135 : lw_tbl[1366]? = some (Cond.code mi_M_readKey.1 mi_M_readKey.2.1 mi_M_readKey.2.2.1 mi_M_readKey.2.2.2.1) := rfl
set_option maxRecDepth 20000 in
theorem cw_136 : lw_tbl[1312]? = some (Cond.code mi_M_readWhole.1 mi_M_readWhole.2.1 mi_M_readWhole.2.2.1 mi_M_readWhole.2.2.2.1) := rfl
set_option maxRecDepth 20000 in
theorem cw_137 : lw_tbl[1292]? = some (Cond.code mi_M_text.1 mi_M_text.2.1 mi_M_text.2.2.1 mi_M_text.2.2.2.1) := rfl
set_option maxRecDepth 20000 in
theorem cw_138 : lw_tbl[1379]? = some (Cond.code mi_M_isKey.1 mi_M_isKey.2.1 mi_M_isKey.2.2.1 mi_M_isKey.2.2.2.1) := rfl
set_option maxRecDepth 20000 in
theorem cw_139 : lw_tbl[1395]? = some (Cond.code mi_M_isValue.1 mi_M_isValue.2.1 mi_M_isValue.2.2.1 mi_M_isValue.2.2.2.1) := rfl
set_option maxRecDepth 20000 in
theorem cw_140 : lw_tbl[1399]? = some (Cond.code mi_M_indexOf.1 mi_M_indexOf.2.1 mi_M_indexOf.2.2.1 mi_M_indexOf.2.2.2.1) := rfl
set_option maxRecDepth 20000 in
theorem cw_141 : lw_tbl[1403]? = some (Cond.code mi_M_snap.1 mi_M_snap.2.1 mi_M_snap.2.2.1 mi_M_snap.2.2.2.1) := rfl
set_option maxRecDepth 20000 in
theorem cw_142 : lw_tbl[1371]? = some (Cond.code mi_M_undo.1 mi_M_undo.2.1 mi_M_undo.2.2.1 mi_M_undo.2.2.2.1) := rfl
set_option maxRecDepth 20000 in
theorem cw_143 : lw_tbl[1375]? = some (Cond.code mi_M_key.1 mi_M_key.2.1 mi_M_key.2.2.1 mi_M_key.2.2.2.1) := rfl
set_option maxRecDepth 20000 in
theorem cw_144 : lw_tbl[1387]? = some (Cond.code mi_M_worth.1 mi_M_worth.2.1 mi_M_worth.2.2.1 mi_M_worth.2.2.2.1) := rfl
set_option maxRecDepth 20000 in
theorem cw_145 : lw_tbl[1391]? = some (Cond.code mi_M_add.1 mi_M_add.2.1 mi_M_add.2.2.1 mi_M_add.2.2.2.1) := rfl
set_option maxRecDepth 20000 in
theorem cw_146 : lw_tbl[1407]? = some (Cond.code mi_M_gone.1 mi_M_gone.2.1 mi_M_gone.2.2.1 mi_M_gone.2.2.2.1) := rfl
set_option maxRecDepth 20000 in
theorem cw_147 : lw_tbl[1411]? = some (Cond.code mi_M_turn.1 mi_M_turn.2.1 mi_M_turn.2.2.1 mi_M_turn.2.2.2.1) := rfl
set_option maxRecDepth 20000 in
theorem cw_148 : lw_tbl[1415]? = some (Cond.code mi_M_set.1 mi_M_set.2.1 mi_M_set.2.2.1 mi_M_set.2.2.2.1) := rfl
set_option maxRecDepth 20000 in
theorem cw_149 : lw_tbl[1425]? = some (Cond.code mi_M_mix.1 mi_M_mix.2.1 mi_M_mix.2.2.1 mi_M_mix.2.2.2.1) := rfl
set_option maxRecDepth 20000 in
theorem cw_150 : lw_tbl[1422]? = some (Cond.code mi_M_hashOf.1 mi_M_hashOf.2.1 mi_M_hashOf.2.2.1 mi_M_hashOf.2.2.2.1) := rfl
set_option maxRecDepth 20000 in
theorem cw_151 : lw_tbl[1447]? = some (Cond.code mi_M_printOf.1 mi_M_printOf.2.1 mi_M_printOf.2.2.1 mi_M_printOf.2.2.2.1) := rfl
set_option maxRecDepth 20000 in
theorem cw_152 : lw_tbl[1438]? = some (Cond.code mi_M_part.1 mi_M_part.2.1 mi_M_part.2.2.1 mi_M_part.2.2.2.1) := rfl
set_option maxRecDepth 20000 in
theorem cw_153 : lw_tbl[1435]? = some (Cond.code mi_M_lays3.1 mi_M_lays3.2.1 mi_M_lays3.2.2.1 mi_M_lays3.2.2.2.1) := rfl
set_option maxRecDepth 20000 in
theorem cw_154 : lw_tbl[1463]? = some (Cond.code mi_M_touchesBy.1 mi_M_touchesBy.2.1 mi_M_touchesBy.2.2.1 mi_M_touchesBy.2.2.2.1) := rfl
set_option maxRecDepth 20000 in
theorem cw_155 : lw_tbl[1419]? = some (Cond.code mi_M_hash.1 mi_M_hash.2.1 mi_M_hash.2.2.1 mi_M_hash.2.2.2.1) := rfl
set_option maxRecDepth 20000 in
theorem cw_156 : lw_tbl[1431]? = some (Cond.code mi_M_cell.1 mi_M_cell.2.1 mi_M_cell.2.2.1 mi_M_cell.2.2.2.1) := rfl
set_option maxRecDepth 20000 in
theorem cw_157 : lw_tbl[1444]? = some (Cond.code mi_M_print.1 mi_M_print.2.1 mi_M_print.2.2.1 mi_M_print.2.2.2.1) := rfl
set_option maxRecDepth 20000 in
theorem cw_158 : lw_tbl[1459]? = some (Cond.code mi_M_nets.1 mi_M_nets.2.1 mi_M_nets.2.2.1 mi_M_nets.2.2.2.1) := rfl
set_option maxRecDepth 20000 in
theorem cw_159 : lw_tbl[1455]? = some (Cond.code mi_M_netNow.1 mi_M_netNow.2.1 mi_M_netNow.2.2.1 mi_M_netNow.2.2.2.1) := rfl
set_option maxRecDepth 20000 in
theorem cw_160 : lw_tbl[1499]? = some (Cond.code mi_M_takesOut.1 mi_M_takesOut.2.1 mi_M_takesOut.2.2.1 mi_M_takesOut.2.2.2.1) := rfl
set_option maxRecDepth 20000 in
theorem cw_161 : lw_tbl[1495]? = some (Cond.code mi_M_nextCell.1 mi_M_nextCell.2.1 mi_M_nextCell.2.2.1 mi_M_nextCell.2.2.2.1) := rfl
set_option maxRecDepth 20000 in
theorem cw_162 : lw_tbl[1491]? = some (Cond.code mi_M_comesBehind.1 mi_M_comesBehind.2.1 mi_M_comesBehind.2.2.1 mi_M_comesBehind.2.2.2.1) := rfl
set_option maxRecDepth 20000 in
theorem cw_163 : lw_tbl[1487]? = some (Cond.code mi_M_peelsBy.1 mi_M_peelsBy.2.1 mi_M_peelsBy.2.2.1 mi_M_peelsBy.2.2.2.1) := rfl
set_option maxRecDepth 20000 in
theorem cw_164 : lw_tbl[1475]? = some (Cond.code mi_M_isOf.1 mi_M_isOf.2.1 mi_M_isOf.2.2.1 mi_M_isOf.2.2.2.1) := rfl
set_option maxRecDepth 20000 in
theorem cw_165 : lw_tbl[1483]? = some (Cond.code mi_M_peelNow.1 mi_M_peelNow.2.1 mi_M_peelNow.2.2.1 mi_M_peelNow.2.2.2.1) := rfl
set_option maxRecDepth 20000 in
theorem cw_166 : lw_tbl[1527]? = some (Cond.code mi_M_peelsAll.1 mi_M_peelsAll.2.1 mi_M_peelsAll.2.2.1 mi_M_peelsAll.2.2.2.1) := rfl
set_option maxRecDepth 20000 in
theorem cw_167 : lw_tbl[1451]? = some (Cond.code mi_M_load.1 mi_M_load.2.1 mi_M_load.2.2.1 mi_M_load.2.2.2.1) := rfl
set_option maxRecDepth 20000 in
theorem cw_168 : lw_tbl[1467]? = some (Cond.code mi_M_twins.1 mi_M_twins.2.1 mi_M_twins.2.2.1 mi_M_twins.2.2.2.1) := rfl
set_option maxRecDepth 20000 in
theorem cw_169 : lw_tbl[1471]? = some (Cond.code mi_M_areTwins.1 mi_M_areTwins.2.1 mi_M_areTwins.2.2.1 mi_M_areTwins.2.2.2.1) := rfl
set_option maxRecDepth 20000 in
theorem cw_170 : lw_tbl[1479]? = some (Cond.code mi_M_peel.1 mi_M_peel.2.1 mi_M_peel.2.2.1 mi_M_peel.2.2.2.1) := rfl
set_option maxRecDepth 20000 in
theorem cw_171 : lw_tbl[1503]? = some (Cond.code mi_M_core.1 mi_M_core.2.1 mi_M_core.2.2.1 mi_M_core.2.2.2.1) := rfl
set_option maxRecDepth 20000 in
theorem cw_172 : lw_tbl[1511]? = some (Cond.code mi_M_laysLevels.1 mi_M_laysLevels.2.1 mi_M_laysLevels.2.2.1 mi_M_laysLevels.2.2.2.1) := rfl
set_option maxRecDepth 20000 in
theorem cw_173 : lw_tbl[1507]? = some (Cond.code mi_M_level.1 mi_M_level.2.1 mi_M_level.2.2.1 mi_M_level.2.2.2.1) := rfl
set_option maxRecDepth 20000 in
theorem cw_174 : lw_tbl[1515]? = some (Cond.code mi_M_rank.1 mi_M_rank.2.1 mi_M_rank.2.2.1 mi_M_rank.2.2.2.1) := rfl
set_option maxRecDepth 20000 in
theorem cw_175 : lw_tbl[1523]? = some (Cond.code mi_M_findsOut.1 mi_M_findsOut.2.1 mi_M_findsOut.2.2.1 mi_M_findsOut.2.2.2.1) := rfl
set_option maxRecDepth 20000 in
theorem cw_176 : lw_tbl[1519]? = some (Cond.code mi_M_mend.1 mi_M_mend.2.1 mi_M_mend.2.2.1 mi_M_mend.2.2.2.1) := rfl
set_option maxRecDepth 20000 in
theorem cw_177 : lw_tbl[1531]? = some (Cond.code mi_M_tight.1 mi_M_tight.2.1 mi_M_tight.2.2.1 mi_M_tight.2.2.2.1) := rfl
set_option maxRecDepth 20000 in
theorem cw_178 : lw_tbl[1535]? = some (Cond.code mi_M_peels.1 mi_M_peels.2.1 mi_M_peels.2.2.1 mi_M_peels.2.2.2.1) := rfl
set_option maxRecDepth 20000 in
theorem cw_179 : lw_tbl[1543]? = some (Cond.code mi_M_fills.1 mi_M_fills.2.1 mi_M_fills.2.2.1 mi_M_fills.2.2.2.1) := rfl
set_option maxRecDepth 20000 in
theorem cw_180 : lw_tbl[1539]? = some (Cond.code mi_M_wake.1 mi_M_wake.2.1 mi_M_wake.2.2.1 mi_M_wake.2.2.2.1) := rfl
set_option maxRecDepth 20000 in
theorem cw_181 : lw_tbl[1547]? = some (Cond.code mi_M_build.1 mi_M_build.2.1 mi_M_build.2.2.1 mi_M_build.2.2.2.1) := rfl
set_option maxRecDepth 20000 in
theorem cw_182 : lw_tbl[1551]? = some (Cond.code mi_M_built.1 mi_M_built.2.1 mi_M_built.2.2.1 mi_M_built.2.2.2.1) := rfl
set_option maxRecDepth 20000 in
theorem cw_183 : lw_tbl[1555]? = some (Cond.code mi_M_filled.1 mi_M_filled.2.1 mi_M_filled.2.2.1 mi_M_filled.2.2.2.1) := rfl
set_option maxRecDepth 20000 in
theorem cw_184 : lw_tbl[1563]? = some (Cond.code mi_M_asks.1 mi_M_asks.2.1 mi_M_asks.2.2.1 mi_M_asks.2.2.2.1) := rfl
set_option maxRecDepth 20000 in
theorem cw_185 : lw_tbl[1559]? = some (Cond.code mi_M_passes.1 mi_M_passes.2.1 mi_M_passes.2.2.1 mi_M_passes.2.2.2.1) := rfl
set_option maxRecDepth 20000 in
theorem cw_186 : lw_tbl[1567]? = some (Cond.code mi_M_told.1 mi_M_told.2.1 mi_M_told.2.2.1 mi_M_told.2.2.2.1) := rfl
set_option maxRecDepth 20000 in
theorem cw_187 : lw_tbl[1571]? = some (Cond.code mi_M_right.1 mi_M_right.2.1 mi_M_right.2.2.1 mi_M_right.2.2.2.1) := rfl
set_option maxRecDepth 20000 in
theorem cw_188 : lw_tbl[1575]? = some (Cond.code mi_M_strangers.1 mi_M_strangers.2.1 mi_M_strangers.2.2.1 mi_M_strangers.2.2.2.1) := rfl
set_option maxRecDepth 20000 in
theorem cw_189 : lw_tbl[1583]? = some (Cond.code mi_M_copies.1 mi_M_copies.2.1 mi_M_copies.2.2.1 mi_M_copies.2.2.2.1) := rfl
set_option maxRecDepth 20000 in
theorem cw_190 : lw_tbl[1579]? = some (Cond.code mi_M_shelf.1 mi_M_shelf.2.1 mi_M_shelf.2.2.1 mi_M_shelf.2.2.2.1) := rfl
set_option maxRecDepth 20000 in
theorem cw_191 : lw_tbl[1587]? = some (Cond.code mi_M_unlike.1 mi_M_unlike.2.1 mi_M_unlike.2.2.1 mi_M_unlike.2.2.2.1) := rfl
set_option maxRecDepth 20000 in
theorem cw_192 : lw_tbl[1595]? = some (Cond.code mi_M_emptyCells.1 mi_M_emptyCells.2.1 mi_M_emptyCells.2.2.1 mi_M_emptyCells.2.2.2.1) := rfl
set_option maxRecDepth 20000 in
theorem cw_193 : lw_tbl[1591]? = some (Cond.code mi_M_count.1 mi_M_count.2.1 mi_M_count.2.2.1 mi_M_count.2.2.2.1) := rfl
set_option maxRecDepth 20000 in
theorem cw_195 : lw_tbl[802]? = some (Cond.code mi_Arrays_fill.1 mi_Arrays_fill.2.1 mi_Arrays_fill.2.2.1 mi_Arrays_fill.2.2.2.1) := rfl
set_option maxRecDepth 20000 in
theorem cw_196 : lw_tbl[700]? = some (Cond.code mi_Math_min.1 mi_Math_min.2.1 mi_Math_min.2.2.1 mi_Math_min.2.2.2.1) := rfl
set_option maxRecDepth 20000 in
theorem cw_197 : lw_tbl[782]? = some (Cond.code mi_Math_max.1 mi_Math_max.2.1 mi_Math_max.2.2.1 mi_Math_max.2.2.2.1) := rfl
set_option maxRecDepth 20000 in
theorem cw_198 : lw_tbl[566]? = some (Cond.code mi_String_length.1 mi_String_length.2.1 mi_String_length.2.2.1 mi_String_length.2.2.2.1) := rfl
set_option maxRecDepth 20000 in
theorem cw_199 : lw_tbl[576]? = some (Cond.code mi_String_charAt.1 mi_String_charAt.2.1 mi_String_charAt.2.2.1 mi_String_charAt.2.2.2.1) := rfl
def am_cwP (y : Nat) : Prop := Cond.code (am_mi y).1 (am_mi y).2.1 (am_mi y).2.2.1 (am_mi y).2.2.2.1 ∈ am_big
theorem cwb_0 : am_cwP 0 := am_big_of cw_0 rfl
theorem cwb_1 : am_cwP 1 := am_big_of cw_1 rfl
theorem cwb_2 : am_cwP 2 := am_big_of cw_2 rfl
theorem cwb_3 : am_cwP 3 := am_big_of cw_3 rfl
theorem cwb_4 : am_cwP 4 := am_big_of cw_4 rfl
theorem cwb_5 : am_cwP 5 := am_big_of cw_5 rfl
theorem cwb_6 : am_cwP 6 := am_big_of cw_6 rfl
theorem cwb_7 : am_cwP 7 := am_big_of cw_7 rfl
theorem cwb_8 : am_cwP 8 := am_big_of cw_8 rfl
theorem cwb_9 : am_cwP 9 := am_big_of cw_9 rfl
theorem cwb_10 : am_cwP 10 := am_big_of cw_10 rfl
theorem cwb_11 : am_cwP 11 := am_big_of cw_11 rfl
theorem cwb_12 : am_cwP 12 := am_big_of cw_12 rfl
theorem cwb_13 : am_cwP 13 := am_big_of cw_13 rfl
theorem cwb_14 : am_cwP 14 := am_big_of cw_14 rfl
theorem cwb_15 : am_cwP 15 := am_big_of cw_15 rfl
theorem cwb_16 : am_cwP 16 := am_big_of cw_16 rfl
theorem cwb_17 : am_cwP 17 := am_big_of cw_17 rfl
theorem cwb_18 : am_cwP 18 := am_big_of cw_18 rfl
theorem cwb_19 : am_cwP 19 := am_big_of cw_19 rfl
theorem cwb_20 : am_cwP 20 := am_big_of cw_20 rfl
theorem cwb_21 : am_cwP 21 := am_big_of cw_21 rfl
theorem cwb_22 : am_cwP 22 := am_big_of cw_22 rfl
theorem cwb_23 : am_cwP 23 := am_big_of cw_23 rfl
theorem cwb_24 : am_cwP 24 := am_big_of cw_24 rfl
theorem cwb_25 : am_cwP 25 := am_big_of cw_25 rfl
theorem cwb_26 : am_cwP 26 := am_big_of cw_26 rfl
theorem cwb_27 : am_cwP 27 := am_big_of cw_27 rfl
theorem cwb_28 : am_cwP 28 := am_big_of cw_28 rfl
theorem cwb_29 : am_cwP 29 := am_big_of cw_29 rfl
theorem cwb_30 : am_cwP 30 := am_big_of cw_30 rfl
theorem cwb_31 : am_cwP 31 := am_big_of cw_31 rfl
theorem cwb_32 : am_cwP 32 := am_big_of cw_32 rfl
theorem cwb_33 : am_cwP 33 := am_big_of cw_33 rfl
theorem cwb_34 : am_cwP 34 := am_big_of cw_34 rfl
theorem cwb_35 : am_cwP 35 := am_big_of cw_35 rfl
theorem cwb_36 : am_cwP 36 := am_big_of cw_36 rfl
theorem cwb_37 : am_cwP 37 := am_big_of cw_37 rfl
theorem cwb_38 : am_cwP 38 := am_big_of cw_38 rfl
theorem cwb_39 : am_cwP 39 := am_big_of cw_39 rfl
theorem cwb_40 : am_cwP 40 := am_big_of cw_40 rfl
theorem cwb_41 : am_cwP 41 := am_big_of cw_41 rfl
theorem cwb_42 : am_cwP 42 := am_big_of cw_42 rfl
theorem cwb_43 : am_cwP 43 := am_big_of cw_43 rfl
theorem cwb_44 : am_cwP 44 := am_big_of cw_44 rfl
theorem cwb_45 : am_cwP 45 := am_big_of cw_45 rfl
theorem cwb_46 : am_cwP 46 := am_big_of cw_46 rfl
theorem cwb_47 : am_cwP 47 := am_big_of cw_47 rfl
theorem cwb_48 : am_cwP 48 := am_big_of cw_48 rfl
theorem cwb_49 : am_cwP 49 := am_big_of cw_49 rfl
theorem cwb_50 : am_cwP 50 := am_big_of cw_50 rfl
theorem cwb_51 : am_cwP 51 := am_big_of cw_51 rfl
theorem cwb_52 : am_cwP 52 := am_big_of cw_52 rfl
theorem cwb_53 : am_cwP 53 := am_big_of cw_53 rfl
theorem cwb_54 : am_cwP 54 := am_big_of cw_54 rfl
theorem cwb_55 : am_cwP 55 := am_big_of cw_55 rfl
theorem cwb_56 : am_cwP 56 := am_big_of cw_56 rfl
theorem cwb_57 : am_cwP 57 := am_big_of cw_57 rfl
theorem cwb_58 : am_cwP 58 := am_big_of cw_58 rfl
theorem cwb_59 : am_cwP 59 := am_big_of cw_59 rfl
theorem cwb_60 : am_cwP 60 := am_big_of cw_60 rfl
theorem cwb_61 : am_cwP 61 := am_big_of cw_61 rfl
theorem cwb_62 : am_cwP 62 := am_big_of cw_62 rfl
theorem cwb_63 : am_cwP 63 := am_big_of cw_63 rfl
theorem cwb_64 : am_cwP 64 := am_big_of cw_64 rfl
theorem cwb_65 : am_cwP 65 := am_big_of cw_65 rfl
theorem cwb_66 : am_cwP 66 := am_big_of cw_66 rfl
theorem cwb_67 : am_cwP 67 := am_big_of cw_67 rfl
theorem cwb_68 : am_cwP 68 := am_big_of cw_68 rfl
theorem cwb_69 : am_cwP 69 := am_big_of cw_69 rfl
theorem cwb_70 : am_cwP 70 := am_big_of cw_70 rfl
theorem cwb_71 : am_cwP 71 := am_big_of cw_71 rfl
theorem cwb_72 : am_cwP 72 := am_big_of cw_72 rfl
theorem cwb_73 : am_cwP 73 := am_big_of cw_73 rfl
theorem cwb_74 : am_cwP 74 := am_big_of cw_74 rfl
theorem cwb_75 : am_cwP 75 := am_big_of cw_75 rfl
theorem cwb_76 : am_cwP 76 := am_big_of cw_76 rfl
theorem cwb_77 : am_cwP 77 := am_big_of cw_77 rfl
theorem cwb_78 : am_cwP 78 := am_big_of cw_78 rfl
theorem cwb_79 : am_cwP 79 := am_big_of cw_79 rfl
theorem cwb_80 : am_cwP 80 := am_big_of cw_80 rfl
theorem cwb_81 : am_cwP 81 := am_big_of cw_81 rfl
theorem cwb_82 : am_cwP 82 := am_big_of cw_82 rfl
theorem cwb_83 : am_cwP 83 := am_big_of cw_83 rfl
theorem cwb_84 : am_cwP 84 := am_big_of cw_84 rfl
theorem cwb_85 : am_cwP 85 := am_big_of cw_85 rfl
theorem cwb_86 : am_cwP 86 := am_big_of cw_86 rfl
theorem cwb_87 : am_cwP 87 := am_big_of cw_87 rfl
theorem cwb_88 : am_cwP 88 := am_big_of cw_88 rfl
theorem cwb_89 : am_cwP 89 := am_big_of cw_89 rfl
theorem cwb_90 : am_cwP 90 := am_big_of cw_90 rfl
theorem cwb_91 : am_cwP 91 := am_big_of cw_91 rfl
theorem cwb_92 : am_cwP 92 := am_big_of cw_92 rfl
theorem cwb_93 : am_cwP 93 := am_big_of cw_93 rfl
theorem cwb_94 : am_cwP 94 := am_big_of cw_94 rfl
theorem cwb_95 : am_cwP 95 := am_big_of cw_95 rfl
theorem cwb_96 : am_cwP 96 := am_big_of cw_96 rfl
theorem cwb_97 : am_cwP 97 := am_big_of cw_97 rfl
theorem cwb_98 : am_cwP 98 := am_big_of cw_98 rfl
theorem cwb_99 : am_cwP 99 := am_big_of cw_99 rfl
theorem cwb_100 : am_cwP 100 := am_big_of cw_100 rfl
theorem cwb_101 : am_cwP 101 := am_big_of cw_101 rfl
theorem cwb_102 : am_cwP 102 := am_big_of cw_102 rfl
theorem cwb_103 : am_cwP 103 := am_big_of cw_103 rfl
theorem cwb_104 : am_cwP 104 := am_big_of cw_104 rfl
theorem cwb_105 : am_cwP 105 := am_big_of cw_105 rfl
theorem cwb_106 : am_cwP 106 := am_big_of cw_106 rfl
theorem cwb_107 : am_cwP 107 := am_big_of cw_107 rfl
theorem cwb_108 : am_cwP 108 := am_big_of cw_108 rfl
theorem cwb_109 : am_cwP 109 := am_big_of cw_109 rfl
theorem cwb_110 : am_cwP 110 := am_big_of cw_110 rfl
theorem cwb_111 : am_cwP 111 := am_big_of cw_111 rfl
theorem cwb_112 : am_cwP 112 := am_big_of cw_112 rfl
theorem cwb_113 : am_cwP 113 := am_big_of cw_113 rfl
theorem cwb_114 : am_cwP 114 := am_big_of cw_114 rfl
theorem cwb_115 : am_cwP 115 := am_big_of cw_115 rfl
theorem cwb_116 : am_cwP 116 := am_big_of cw_116 rfl
theorem cwb_117 : am_cwP 117 := am_big_of cw_117 rfl
theorem cwb_118 : am_cwP 118 := am_big_of cw_118 rfl
theorem cwb_119 : am_cwP 119 := am_big_of cw_119 rfl
theorem cwb_120 : am_cwP 120 := am_big_of cw_120 rfl
theorem cwb_121 : am_cwP 121 := am_big_of cw_121 rfl
theorem cwb_122 : am_cwP 122 := am_big_of cw_122 rfl
theorem cwb_123 : am_cwP 123 := am_big_of cw_123 rfl
theorem cwb_124 : am_cwP 124 := am_big_of cw_124 rfl
theorem cwb_125 : am_cwP 125 := am_big_of cw_125 rfl
theorem cwb_126 : am_cwP 126 := am_big_of cw_126 rfl
theorem cwb_127 : am_cwP 127 := am_big_of cw_127 rfl
theorem cwb_128 : am_cwP 128 := am_big_of cw_128 rfl
theorem cwb_129 : am_cwP 129 := am_big_of cw_129 rfl
theorem cwb_130 : am_cwP 130 := am_big_of cw_130 rfl
theorem cwb_131 : am_cwP 131 := am_big_of cw_131 rfl
theorem cwb_132 : am_cwP 132 := am_big_of cw_132 rfl
theorem cwb_133 : am_cwP 133 := am_big_of cw_133 rfl
theorem cwb_134 : am_cwP 134 := am_big_of cw_134 rfl
theorem cwb_135 : am_cwP 135 := am_big_of cw_135 rfl
theorem cwb_136 : am_cwP 136 := am_big_of cw_136 rfl
theorem cwb_137 : am_cwP 137 := am_big_of cw_137 rfl
theorem cwb_138 : am_cwP 138 := am_big_of cw_138 rfl
theorem cwb_139 : am_cwP 139 := am_big_of cw_139 rfl
theorem cwb_140 : am_cwP 140 := am_big_of cw_140 rfl
theorem cwb_141 : am_cwP 141 := am_big_of cw_141 rfl
theorem cwb_142 : am_cwP 142 := am_big_of cw_142 rfl
theorem cwb_143 : am_cwP 143 := am_big_of cw_143 rfl
theorem cwb_144 : am_cwP 144 := am_big_of cw_144 rfl
theorem cwb_145 : am_cwP 145 := am_big_of cw_145 rfl
theorem cwb_146 : am_cwP 146 := am_big_of cw_146 rfl
theorem cwb_147 : am_cwP 147 := am_big_of cw_147 rfl
theorem cwb_148 : am_cwP 148 := am_big_of cw_148 rfl
theorem cwb_149 : am_cwP 149 := am_big_of cw_149 rfl
theorem cwb_150 : am_cwP 150 := am_big_of cw_150 rfl
theorem cwb_151 : am_cwP 151 := am_big_of cw_151 rfl
theorem cwb_152 : am_cwP 152 := am_big_of cw_152 rfl
theorem cwb_153 : am_cwP 153 := am_big_of cw_153 rfl
theorem cwb_154 : am_cwP 154 := am_big_of cw_154 rfl
theorem cwb_155 : am_cwP 155 := am_big_of cw_155 rfl
theorem cwb_156 : am_cwP 156 := am_big_of cw_156 rfl
theorem cwb_157 : am_cwP 157 := am_big_of cw_157 rfl
theorem cwb_158 : am_cwP 158 := am_big_of cw_158 rfl
theorem cwb_159 : am_cwP 159 := am_big_of cw_159 rfl
theorem cwb_160 : am_cwP 160 := am_big_of cw_160 rfl
theorem cwb_161 : am_cwP 161 := am_big_of cw_161 rfl
theorem cwb_162 : am_cwP 162 := am_big_of cw_162 rfl
theorem cwb_163 : am_cwP 163 := am_big_of cw_163 rfl
theorem cwb_164 : am_cwP 164 := am_big_of cw_164 rfl
theorem cwb_165 : am_cwP 165 := am_big_of cw_165 rfl
theorem cwb_166 : am_cwP 166 := am_big_of cw_166 rfl
theorem cwb_167 : am_cwP 167 := am_big_of cw_167 rfl
theorem cwb_168 : am_cwP 168 := am_big_of cw_168 rfl
theorem cwb_169 : am_cwP 169 := am_big_of cw_169 rfl
theorem cwb_170 : am_cwP 170 := am_big_of cw_170 rfl
theorem cwb_171 : am_cwP 171 := am_big_of cw_171 rfl
theorem cwb_172 : am_cwP 172 := am_big_of cw_172 rfl
theorem cwb_173 : am_cwP 173 := am_big_of cw_173 rfl
theorem cwb_174 : am_cwP 174 := am_big_of cw_174 rfl
theorem cwb_175 : am_cwP 175 := am_big_of cw_175 rfl
theorem cwb_176 : am_cwP 176 := am_big_of cw_176 rfl
theorem cwb_177 : am_cwP 177 := am_big_of cw_177 rfl
theorem cwb_178 : am_cwP 178 := am_big_of cw_178 rfl
theorem cwb_179 : am_cwP 179 := am_big_of cw_179 rfl
theorem cwb_180 : am_cwP 180 := am_big_of cw_180 rfl
theorem cwb_181 : am_cwP 181 := am_big_of cw_181 rfl
theorem cwb_182 : am_cwP 182 := am_big_of cw_182 rfl
theorem cwb_183 : am_cwP 183 := am_big_of cw_183 rfl
theorem cwb_184 : am_cwP 184 := am_big_of cw_184 rfl
theorem cwb_185 : am_cwP 185 := am_big_of cw_185 rfl
theorem cwb_186 : am_cwP 186 := am_big_of cw_186 rfl
theorem cwb_187 : am_cwP 187 := am_big_of cw_187 rfl
theorem cwb_188 : am_cwP 188 := am_big_of cw_188 rfl
theorem cwb_189 : am_cwP 189 := am_big_of cw_189 rfl
theorem cwb_190 : am_cwP 190 := am_big_of cw_190 rfl
theorem cwb_191 : am_cwP 191 := am_big_of cw_191 rfl
theorem cwb_192 : am_cwP 192 := am_big_of cw_192 rfl
theorem cwb_193 : am_cwP 193 := am_big_of cw_193 rfl
theorem cwb_195 : am_cwP 195 := am_big_of cw_195 rfl
theorem cwb_196 : am_cwP 196 := am_big_of cw_196 rfl
theorem cwb_197 : am_cwP 197 := am_big_of cw_197 rfl
theorem cwb_198 : am_cwP 198 := am_big_of cw_198 rfl
theorem cwb_199 : am_cwP 199 := am_big_of cw_199 rfl
theorem am_cwA : ∀ y, (y < 200 ∧ y ≠ 194) → am_cwP y := by
  intro y h
  match y, h with
  | 0, _ => exact cwb_0
  | 1, _ => exact cwb_1
  | 2, _ => exact cwb_2
  | 3, _ => exact cwb_3
  | 4, _ => exact cwb_4
  | 5, _ => exact cwb_5
  | 6, _ => exact cwb_6
  | 7, _ => exact cwb_7
  | 8, _ => exact cwb_8
  | 9, _ => exact cwb_9
  | 10, _ => exact cwb_10
  | 11, _ => exact cwb_11
  | 12, _ => exact cwb_12
  | 13, _ => exact cwb_13
  | 14, _ => exact cwb_14
  | 15, _ => exact cwb_15
  | 16, _ => exact cwb_16
  | 17, _ => exact cwb_17
  | 18, _ => exact cwb_18
  | 19, _ => exact cwb_19
  | 20, _ => exact cwb_20
  | 21, _ => exact cwb_21
  | 22, _ => exact cwb_22
  | 23, _ => exact cwb_23
  | 24, _ => exact cwb_24
  | 25, _ => exact cwb_25
  | 26, _ => exact cwb_26
  | 27, _ => exact cwb_27
  | 28, _ => exact cwb_28
  | 29, _ => exact cwb_29
  | 30, _ => exact cwb_30
  | 31, _ => exact cwb_31
  | 32, _ => exact cwb_32
  | 33, _ => exact cwb_33
  | 34, _ => exact cwb_34
  | 35, _ => exact cwb_35
  | 36, _ => exact cwb_36
  | 37, _ => exact cwb_37
  | 38, _ => exact cwb_38
  | 39, _ => exact cwb_39
  | 40, _ => exact cwb_40
  | 41, _ => exact cwb_41
  | 42, _ => exact cwb_42
  | 43, _ => exact cwb_43
  | 44, _ => exact cwb_44
  | 45, _ => exact cwb_45
  | 46, _ => exact cwb_46
  | 47, _ => exact cwb_47
  | 48, _ => exact cwb_48
  | 49, _ => exact cwb_49
  | 50, _ => exact cwb_50
  | 51, _ => exact cwb_51
  | 52, _ => exact cwb_52
  | 53, _ => exact cwb_53
  | 54, _ => exact cwb_54
  | 55, _ => exact cwb_55
  | 56, _ => exact cwb_56
  | 57, _ => exact cwb_57
  | 58, _ => exact cwb_58
  | 59, _ => exact cwb_59
  | 60, _ => exact cwb_60
  | 61, _ => exact cwb_61
  | 62, _ => exact cwb_62
  | 63, _ => exact cwb_63
  | 64, _ => exact cwb_64
  | 65, _ => exact cwb_65
  | 66, _ => exact cwb_66
  | 67, _ => exact cwb_67
  | 68, _ => exact cwb_68
  | 69, _ => exact cwb_69
  | 70, _ => exact cwb_70
  | 71, _ => exact cwb_71
  | 72, _ => exact cwb_72
  | 73, _ => exact cwb_73
  | 74, _ => exact cwb_74
  | 75, _ => exact cwb_75
  | 76, _ => exact cwb_76
  | 77, _ => exact cwb_77
  | 78, _ => exact cwb_78
  | 79, _ => exact cwb_79
  | 80, _ => exact cwb_80
  | 81, _ => exact cwb_81
  | 82, _ => exact cwb_82
  | 83, _ => exact cwb_83
  | 84, _ => exact cwb_84
  | 85, _ => exact cwb_85
  | 86, _ => exact cwb_86
  | 87, _ => exact cwb_87
  | 88, _ => exact cwb_88
  | 89, _ => exact cwb_89
  | 90, _ => exact cwb_90
  | 91, _ => exact cwb_91
  | 92, _ => exact cwb_92
  | 93, _ => exact cwb_93
  | 94, _ => exact cwb_94
  | 95, _ => exact cwb_95
  | 96, _ => exact cwb_96
  | 97, _ => exact cwb_97
  | 98, _ => exact cwb_98
  | 99, _ => exact cwb_99
  | 100, _ => exact cwb_100
  | 101, _ => exact cwb_101
  | 102, _ => exact cwb_102
  | 103, _ => exact cwb_103
  | 104, _ => exact cwb_104
  | 105, _ => exact cwb_105
  | 106, _ => exact cwb_106
  | 107, _ => exact cwb_107
  | 108, _ => exact cwb_108
  | 109, _ => exact cwb_109
  | 110, _ => exact cwb_110
  | 111, _ => exact cwb_111
  | 112, _ => exact cwb_112
  | 113, _ => exact cwb_113
  | 114, _ => exact cwb_114
  | 115, _ => exact cwb_115
  | 116, _ => exact cwb_116
  | 117, _ => exact cwb_117
  | 118, _ => exact cwb_118
  | 119, _ => exact cwb_119
  | 120, _ => exact cwb_120
  | 121, _ => exact cwb_121
  | 122, _ => exact cwb_122
  | 123, _ => exact cwb_123
  | 124, _ => exact cwb_124
  | 125, _ => exact cwb_125
  | 126, _ => exact cwb_126
  | 127, _ => exact cwb_127
  | 128, _ => exact cwb_128
  | 129, _ => exact cwb_129
  | 130, _ => exact cwb_130
  | 131, _ => exact cwb_131
  | 132, _ => exact cwb_132
  | 133, _ => exact cwb_133
  | 134, _ => exact cwb_134
  | 135, _ => exact cwb_135
  | 136, _ => exact cwb_136
  | 137, _ => exact cwb_137
  | 138, _ => exact cwb_138
  | 139, _ => exact cwb_139
  | 140, _ => exact cwb_140
  | 141, _ => exact cwb_141
  | 142, _ => exact cwb_142
  | 143, _ => exact cwb_143
  | 144, _ => exact cwb_144
  | 145, _ => exact cwb_145
  | 146, _ => exact cwb_146
  | 147, _ => exact cwb_147
  | 148, _ => exact cwb_148
  | 149, _ => exact cwb_149
  | 150, _ => exact cwb_150
  | 151, _ => exact cwb_151
  | 152, _ => exact cwb_152
  | 153, _ => exact cwb_153
  | 154, _ => exact cwb_154
  | 155, _ => exact cwb_155
  | 156, _ => exact cwb_156
  | 157, _ => exact cwb_157
  | 158, _ => exact cwb_158
  | 159, _ => exact cwb_159
  | 160, _ => exact cwb_160
  | 161, _ => exact cwb_161
  | 162, _ => exact cwb_162
  | 163, _ => exact cwb_163
  | 164, _ => exact cwb_164
  | 165, _ => exact cwb_165
  | 166, _ => exact cwb_166
  | 167, _ => exact cwb_167
  | 168, _ => exact cwb_168
  | 169, _ => exact cwb_169
  | 170, _ => exact cwb_170
  | 171, _ => exact cwb_171
  | 172, _ => exact cwb_172
  | 173, _ => exact cwb_173
  | 174, _ => exact cwb_174
  | 175, _ => exact cwb_175
  | 176, _ => exact cwb_176
  | 177, _ => exact cwb_177
  | 178, _ => exact cwb_178
  | 179, _ => exact cwb_179
  | 180, _ => exact cwb_180
  | 181, _ => exact cwb_181
  | 182, _ => exact cwb_182
  | 183, _ => exact cwb_183
  | 184, _ => exact cwb_184
  | 185, _ => exact cwb_185
  | 186, _ => exact cwb_186
  | 187, _ => exact cwb_187
  | 188, _ => exact cwb_188
  | 189, _ => exact cwb_189
  | 190, _ => exact cwb_190
  | 191, _ => exact cwb_191
  | 192, _ => exact cwb_192
  | 193, _ => exact cwb_193
  | 194, h => exact absurd rfl h.2
  | 195, _ => exact cwb_195
  | 196, _ => exact cwb_196
  | 197, _ => exact cwb_197
  | 198, _ => exact cwb_198
  | 199, _ => exact cwb_199
  | n + 200, h => exact absurd h.1 (by omega)
