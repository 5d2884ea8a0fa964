abbrev mX0_init : aM := (yX0_init, cX0_init, 7, none)
theorem iX0_init : a_mi mX0_init 6 := ⟨k_243, k_101, by decide +kernel, by decide +kernel, by decide, by decide +kernel⟩
abbrev mX0_isAsTold : aM := (yX0_isAsTold, cX0_isAsTold, 5, some .boolean)
theorem iX0_isAsTold : a_mi mX0_isAsTold 5 := ⟨k_229, k_101, by decide +kernel, by decide +kernel, by decide, by decide +kernel⟩
abbrev mX0_fits : aM := (yX0_fits, cX0_fits, 2, some .boolean)
theorem iX0_fits : a_mi mX0_fits 2 := ⟨k_234, k_101, by decide +kernel, by decide +kernel, by decide, by decide +kernel⟩
abbrev mX0_done : aM := (yX0_done, cX0_done, 3, some .int)
theorem iX0_done : a_mi mX0_done 1 := ⟨k_460, k_101, by decide +kernel, by decide +kernel, by decide, by decide +kernel⟩
abbrev mX0_findWays : aM := (yX0_findWays, cX0_findWays, 2, none)
theorem iX0_findWays : a_mi mX0_findWays 1 := ⟨k_760, k_101, by decide +kernel, by decide +kernel, by decide, by decide +kernel⟩
abbrev mX0_mayFail : aM := (yX0_mayFail, cX0_mayFail, 2, none)
theorem iX0_mayFail : a_mi mX0_mayFail 1 := ⟨k_780, k_101, by decide +kernel, by decide +kernel, by decide, by decide +kernel⟩
abbrev mX0_mustFail : aM := (yX0_mustFail, cX0_mustFail, 2, none)
theorem iX0_mustFail : a_mi mX0_mustFail 1 := ⟨k_776, k_101, by decide +kernel, by decide +kernel, by decide, by decide +kernel⟩
abbrev mX0_failFor : aM := (yX0_failFor, cX0_failFor, 5, none)
theorem iX0_failFor : a_mi mX0_failFor 3 := ⟨k_805, k_101, by decide +kernel, by decide +kernel, by decide, by decide +kernel⟩
abbrev mX0_makeAnew : aM := (yX0_makeAnew, cX0_makeAnew, 2, none)
theorem iX0_makeAnew : a_mi mX0_makeAnew 1 := ⟨k_790, k_101, by decide +kernel, by decide +kernel, by decide, by decide +kernel⟩
abbrev mX0_askAs : aM := (yX0_askAs, cX0_askAs, 3, none)
theorem iX0_askAs : a_mi mX0_askAs 2 := ⟨k_800, k_101, by decide +kernel, by decide +kernel, by decide, by decide +kernel⟩
abbrev mX0_askSomething : aM := (yX0_askSomething, cX0_askSomething, 3, none)
theorem iX0_askSomething : a_mi mX0_askSomething 2 := ⟨k_818, k_101, by decide +kernel, by decide +kernel, by decide, by decide +kernel⟩
abbrev mX0_askNew : aM := (yX0_askNew, cX0_askNew, 3, none)
theorem iX0_askNew : a_mi mX0_askNew 2 := ⟨k_772, k_101, by decide +kernel, by decide +kernel, by decide, by decide +kernel⟩
abbrev mX0_askMove : aM := (yX0_askMove, cX0_askMove, 1, none)
theorem iX0_askMove : a_mi mX0_askMove 0 := ⟨k_796, k_101, by decide +kernel, by decide +kernel, by decide, by decide +kernel⟩
abbrev mX0_askTake : aM := (yX0_askTake, cX0_askTake, 2, none)
theorem iX0_askTake : a_mi mX0_askTake 0 := ⟨k_822, k_101, by decide +kernel, by decide +kernel, by decide, by decide +kernel⟩
abbrev mX0_askLay : aM := (yX0_askLay, cX0_askLay, 1, none)
theorem iX0_askLay : a_mi mX0_askLay 0 := ⟨k_831, k_101, by decide +kernel, by decide +kernel, by decide, by decide +kernel⟩
abbrev mX0_keepWhatLays : aM := (yX0_keepWhatLays, cX0_keepWhatLays, 5, none)
theorem iX0_keepWhatLays : a_mi mX0_keepWhatLays 0 := ⟨k_836, k_101, by decide +kernel, by decide +kernel, by decide, by decide +kernel⟩
abbrev mX0_askCopy : aM := (yX0_askCopy, cX0_askCopy, 3, none)
theorem iX0_askCopy : a_mi mX0_askCopy 0 := ⟨k_840, k_101, by decide +kernel, by decide +kernel, by decide, by decide +kernel⟩
abbrev mX1_init : aM := (yX1_init, cX1_init, 5, none)
theorem iX1_init : a_mi mX1_init 4 := ⟨k_335, k_103, by decide +kernel, by decide +kernel, by decide, by decide +kernel⟩
abbrev mX1_done : aM := (yX1_done, cX1_done, 3, some .int)
theorem iX1_done : a_mi mX1_done 1 := ⟨k_632, k_103, by decide +kernel, by decide +kernel, by decide, by decide +kernel⟩
abbrev mX1_findWays : aM := (yX1_findWays, cX1_findWays, 2, none)
theorem iX1_findWays : a_mi mX1_findWays 1 := ⟨k_857, k_103, by decide +kernel, by decide +kernel, by decide, by decide +kernel⟩
abbrev mX2_init : aM := (yX2_init, cX2_init, 7, none)
theorem iX2_init : a_mi mX2_init 6 := ⟨k_365, k_104, by decide +kernel, by decide +kernel, by decide, by decide +kernel⟩
abbrev mX2_done : aM := (yX2_done, cX2_done, 2, some .int)
theorem iX2_done : a_mi mX2_done 1 := ⟨k_635, k_104, by decide +kernel, by decide +kernel, by decide, by decide +kernel⟩
abbrev mX2_findWays : aM := (yX2_findWays, cX2_findWays, 2, none)
theorem iX2_findWays : a_mi mX2_findWays 1 := ⟨k_874, k_104, by decide +kernel, by decide +kernel, by decide, by decide +kernel⟩
abbrev mX2_choose : aM := (yX2_choose, cX2_choose, 4, none)
theorem iX2_choose : a_mi mX2_choose 3 := ⟨k_879, k_104, by decide +kernel, by decide +kernel, by decide, by decide +kernel⟩
abbrev mX3_init : aM := (yX3_init, cX3_init, 7, none)
theorem iX3_init : a_mi mX3_init 6 := ⟨k_406, k_105, by decide +kernel, by decide +kernel, by decide, by decide +kernel⟩
abbrev mX3_takes : aM := (yX3_takes, cX3_takes, 2, some .boolean)
theorem iX3_takes : a_mi mX3_takes 1 := ⟨k_644, k_105, by decide +kernel, by decide +kernel, by decide, by decide +kernel⟩
abbrev mX3_done : aM := (yX3_done, cX3_done, 4, some .int)
theorem iX3_done : a_mi mX3_done 1 := ⟨k_639, k_105, by decide +kernel, by decide +kernel, by decide, by decide +kernel⟩
abbrev mX3_findWays : aM := (yX3_findWays, cX3_findWays, 2, none)
theorem iX3_findWays : a_mi mX3_findWays 1 := ⟨k_887, k_105, by decide +kernel, by decide +kernel, by decide, by decide +kernel⟩
abbrev mX3_sortBodysWays : aM := (yX3_sortBodysWays, cX3_sortBodysWays, 3, none)
theorem iX3_sortBodysWays : a_mi mX3_sortBodysWays 0 := ⟨k_896, k_105, by decide +kernel, by decide +kernel, by decide, by decide +kernel⟩
abbrev mX3_goOnThroughLast : aM := (yX3_goOnThroughLast, cX3_goOnThroughLast, 3, none)
theorem iX3_goOnThroughLast : a_mi mX3_goOnThroughLast 1 := ⟨k_906, k_105, by decide +kernel, by decide +kernel, by decide, by decide +kernel⟩
abbrev mX3_vainFailures : aM := (yX3_vainFailures, cX3_vainFailures, 1, some .int)
theorem iX3_vainFailures : a_mi mX3_vainFailures 0 := ⟨k_937, k_105, by decide +kernel, by decide +kernel, by decide, by decide +kernel⟩
abbrev mX3_forgetReport : aM := (yX3_forgetReport, cX3_forgetReport, 1, none)
theorem iX3_forgetReport : a_mi mX3_forgetReport 0 := ⟨k_726, k_105, by decide +kernel, by decide +kernel, by decide, by decide +kernel⟩
abbrev mX4_setOf : aM := (yX4_setOf, cX4_setOf, 1, some .int)
theorem iX4_setOf : a_mi mX4_setOf 1 := ⟨k_768, k_107, by decide +kernel, by decide +kernel, by decide, by decide +kernel⟩
abbrev mX4_has : aM := (yX4_has, cX4_has, 2, some .boolean)
theorem iX4_has : a_mi mX4_has 2 := ⟨k_539, k_107, by decide +kernel, by decide +kernel, by decide, by decide +kernel⟩
abbrev mX4_thoseThatAre : aM := (yX4_thoseThatAre, cX4_thoseThatAre, 1, some .int)
theorem iX4_thoseThatAre : a_mi mX4_thoseThatAre 1 := ⟨k_533, k_107, by decide +kernel, by decide +kernel, by decide, by decide +kernel⟩
abbrev mX4_thoseThatMeet : aM := (yX4_thoseThatMeet, cX4_thoseThatMeet, 1, some .int)
theorem iX4_thoseThatMeet : a_mi mX4_thoseThatMeet 1 := ⟨k_618, k_107, by decide +kernel, by decide +kernel, by decide, by decide +kernel⟩
abbrev mX4_thoseThatTakeAllOf : aM := (yX4_thoseThatTakeAllOf, cX4_thoseThatTakeAllOf, 1, some .int)
theorem iX4_thoseThatTakeAllOf : a_mi mX4_thoseThatTakeAllOf 1 := ⟨k_847, k_107, by decide +kernel, by decide +kernel, by decide, by decide +kernel⟩
abbrev mX4_ofItems : aM := (yX4_ofItems, cX4_ofItems, 1, some .int)
theorem iX4_ofItems : a_mi mX4_ofItems 1 := ⟨k_567, k_107, by decide +kernel, by decide +kernel, by decide, by decide +kernel⟩
abbrev mX4_isRow : aM := (yX4_isRow, cX4_isRow, 1, some .boolean)
theorem iX4_isRow : a_mi mX4_isRow 1 := ⟨k_504, k_107, by decide +kernel, by decide +kernel, by decide, by decide +kernel⟩
abbrev mX4_meeting : aM := (yX4_meeting, cX4_meeting, 4, some .int)
theorem iX4_meeting : a_mi mX4_meeting 2 := ⟨k_852, k_107, by decide +kernel, by decide +kernel, by decide, by decide +kernel⟩
abbrev mX4_copyMayFailByStore : aM := (yX4_copyMayFailByStore, cX4_copyMayFailByStore, 3, some .boolean)
theorem iX4_copyMayFailByStore : a_mi mX4_copyMayFailByStore 2 := ⟨k_843, k_107, by decide +kernel, by decide +kernel, by decide, by decide +kernel⟩
abbrev mX5_init : aM := (yX5_init, cX5_init, 1, none)
theorem iX5_init : a_mi mX5_init 0 := ⟨k_121, k_96, by decide +kernel, by decide +kernel, by decide, by decide +kernel⟩
abbrev mX5_beginRun : aM := (yX5_beginRun, cX5_beginRun, 1, none)
theorem iX5_beginRun : a_mi mX5_beginRun 0 := ⟨k_454, k_96, by decide +kernel, by decide +kernel, by decide, by decide +kernel⟩
abbrev mX5_empty : aM := (yX5_empty, cX5_empty, 1, some .int)
theorem iX5_empty : a_mi mX5_empty 0 := ⟨k_658, k_96, by decide +kernel, by decide +kernel, by decide, by decide +kernel⟩
abbrev mX5_holds : aM := (yX5_holds, cX5_holds, 3, some .boolean)
theorem iX5_holds : a_mi mX5_holds 2 := ⟨k_530, k_96, by decide +kernel, by decide +kernel, by decide, by decide +kernel⟩
abbrev mX5_perform : aM := (yX5_perform, cX5_perform, 6, some .int)
theorem iX5_perform : a_mi mX5_perform 5 := ⟨k_464, k_96, by decide +kernel, by decide +kernel, by decide, by decide +kernel⟩
abbrev mX5_kindIn : aM := (yX5_kindIn, cX5_kindIn, 2, some .int)
theorem iX5_kindIn : a_mi mX5_kindIn 1 := ⟨k_573, k_96, by decide +kernel, by decide +kernel, by decide, by decide +kernel⟩
abbrev mX5_unlessAs : aM := (yX5_unlessAs, cX5_unlessAs, 3, some .int)
theorem iX5_unlessAs : a_mi mX5_unlessAs 2 := ⟨k_526, k_96, by decide +kernel, by decide +kernel, by decide, by decide +kernel⟩
abbrev mX5_unlessSomething : aM := (yX5_unlessSomething, cX5_unlessSomething, 3, some .int)
theorem iX5_unlessSomething : a_mi mX5_unlessSomething 2 := ⟨k_581, k_96, by decide +kernel, by decide +kernel, by decide, by decide +kernel⟩
abbrev mX5_unlessItem : aM := (yX5_unlessItem, cX5_unlessItem, 4, some .int)
theorem iX5_unlessItem : a_mi mX5_unlessItem 3 := ⟨k_547, k_96, by decide +kernel, by decide +kernel, by decide, by decide +kernel⟩
abbrev mX5_make : aM := (yX5_make, cX5_make, 4, some .int)
theorem iX5_make : a_mi mX5_make 3 := ⟨k_468, k_96, by decide +kernel, by decide +kernel, by decide, by decide +kernel⟩
abbrev mX5_makeDeep : aM := (yX5_makeDeep, cX5_makeDeep, 6, some .int)
theorem iX5_makeDeep : a_mi mX5_makeDeep 3 := ⟨k_489, k_96, by decide +kernel, by decide +kernel, by decide, by decide +kernel⟩
abbrev mX5_makeFigure : aM := (yX5_makeFigure, cX5_makeFigure, 4, some .int)
theorem iX5_makeFigure : a_mi mX5_makeFigure 3 := ⟨k_514, k_96, by decide +kernel, by decide +kernel, by decide, by decide +kernel⟩
abbrev mX5_move : aM := (yX5_move, cX5_move, 5, some .int)
theorem iX5_move : a_mi mX5_move 3 := ⟨k_522, k_96, by decide +kernel, by decide +kernel, by decide, by decide +kernel⟩
abbrev mX5_get : aM := (yX5_get, cX5_get, 6, some .int)
theorem iX5_get : a_mi mX5_get 4 := ⟨k_543, k_96, by decide +kernel, by decide +kernel, by decide, by decide +kernel⟩
abbrev mX5_set : aM := (yX5_set, cX5_set, 6, some .int)
theorem iX5_set : a_mi mX5_set 4 := ⟨k_556, k_96, by decide +kernel, by decide +kernel, by decide, by decide +kernel⟩
abbrev mX5_take : aM := (yX5_take, cX5_take, 6, some .int)
theorem iX5_take : a_mi mX5_take 4 := ⟨k_560, k_96, by decide +kernel, by decide +kernel, by decide, by decide +kernel⟩
abbrev mX5_lay : aM := (yX5_lay, cX5_lay, 6, some .int)
theorem iX5_lay : a_mi mX5_lay 4 := ⟨k_564, k_96, by decide +kernel, by decide +kernel, by decide, by decide +kernel⟩
abbrev mX5_length : aM := (yX5_length, cX5_length, 5, some .int)
theorem iX5_length : a_mi mX5_length 3 := ⟨k_577, k_96, by decide +kernel, by decide +kernel, by decide, by decide +kernel⟩
abbrev mX5_cloneRow : aM := (yX5_cloneRow, cX5_cloneRow, 6, some .int)
theorem iX5_cloneRow : a_mi mX5_cloneRow 2 := ⟨k_589, k_96, by decide +kernel, by decide +kernel, by decide, by decide +kernel⟩
abbrev mX5_tell : aM := (yX5_tell, cX5_tell, 5, some .int)
theorem iX5_tell : a_mi mX5_tell 2 := ⟨k_611, k_96, by decide +kernel, by decide +kernel, by decide, by decide +kernel⟩
abbrev mX5_copy : aM := (yX5_copy, cX5_copy, 9, some .int)
theorem iX5_copy : a_mi mX5_copy 4 := ⟨k_615, k_96, by decide +kernel, by decide +kernel, by decide, by decide +kernel⟩
abbrev mX5_divide : aM := (yX5_divide, cX5_divide, 4, some .int)
theorem iX5_divide : a_mi mX5_divide 3 := ⟨k_625, k_96, by decide +kernel, by decide +kernel, by decide, by decide +kernel⟩
abbrev mX5_rest : aM := (yX5_rest, cX5_rest, 4, some .int)
theorem iX5_rest : a_mi mX5_rest 3 := ⟨k_629, k_96, by decide +kernel, by decide +kernel, by decide, by decide +kernel⟩
abbrev mX6_init : aM := (yX6_init, cX6_init, 3, none)
theorem iX6_init : a_mi mX6_init 2 := ⟨k_246, k_100, by decide +kernel, by decide +kernel, by decide, by decide +kernel⟩
abbrev mX6_goThrough : aM := (yX6_goThrough, cX6_goThrough, 2, none)
theorem iX6_goThrough : a_mi mX6_goThrough 1 := ⟨k_741, k_100, by decide +kernel, by decide +kernel, by decide, by decide +kernel⟩
abbrev mX6_isReached : aM := (yX6_isReached, cX6_isReached, 1, some .boolean)
theorem iX6_isReached : a_mi mX6_isReached 0 := ⟨k_920, k_100, by decide +kernel, by decide +kernel, by decide, by decide +kernel⟩
abbrev mX6_forgetReport : aM := (yX6_forgetReport, cX6_forgetReport, 1, none)
theorem iX6_forgetReport : a_mi mX6_forgetReport 0 := ⟨k_728, k_100, by decide +kernel, by decide +kernel, by decide, by decide +kernel⟩
abbrev mX7_init : aM := (yX7_init, cX7_init, 1, none)
theorem iX7_init : a_mi mX7_init 0 := ⟨k_200, k_98, by decide +kernel, by decide +kernel, by decide, by decide +kernel⟩
abbrev mX7_isThere : aM := (yX7_isThere, cX7_isThere, 1, some .boolean)
theorem iX7_isThere : a_mi mX7_isThere 0 := ⟨k_753, k_98, by decide +kernel, by decide +kernel, by decide, by decide +kernel⟩
abbrev mX7_of : aM := (yX7_of, cX7_of, 2, some .int)
theorem iX7_of : a_mi mX7_of 1 := ⟨k_713, k_98, by decide +kernel, by decide +kernel, by decide, by decide +kernel⟩
abbrev mX7_has : aM := (yX7_has, cX7_has, 3, some .boolean)
theorem iX7_has : a_mi mX7_has 2 := ⟨k_826, k_98, by decide +kernel, by decide +kernel, by decide, by decide +kernel⟩
abbrev mX7_put : aM := (yX7_put, cX7_put, 3, none)
theorem iX7_put : a_mi mX7_put 2 := ⟨k_209, k_98, by decide +kernel, by decide +kernel, by decide, by decide +kernel⟩
abbrev mX7_keep : aM := (yX7_keep, cX7_keep, 3, none)
theorem iX7_keep : a_mi mX7_keep 2 := ⟨k_814, k_98, by decide +kernel, by decide +kernel, by decide, by decide +kernel⟩
abbrev mX7_erase : aM := (yX7_erase, cX7_erase, 1, none)
theorem iX7_erase : a_mi mX7_erase 0 := ⟨k_732, k_98, by decide +kernel, by decide +kernel, by decide, by decide +kernel⟩
abbrev mX7_become : aM := (yX7_become, cX7_become, 2, none)
theorem iX7_become : a_mi mX7_become 1 := ⟨k_764, k_98, by decide +kernel, by decide +kernel, by decide, by decide +kernel⟩
abbrev mX7_join : aM := (yX7_join, cX7_join, 3, none)
theorem iX7_join : a_mi mX7_join 1 := ⟨k_745, k_98, by decide +kernel, by decide +kernel, by decide, by decide +kernel⟩
abbrev mX7_joinWith : aM := (yX7_joinWith, cX7_joinWith, 5, none)
theorem iX7_joinWith : a_mi mX7_joinWith 3 := ⟨k_810, k_98, by decide +kernel, by decide +kernel, by decide, by decide +kernel⟩
abbrev mX8_init : aM := (yX8_init, cX8_init, 1, none)
theorem iX8_init : a_mi mX8_init 0 := ⟨k_127, k_97, by decide +kernel, by decide +kernel, by decide, by decide +kernel⟩
abbrev mX8_haveRoom : aM := (yX8_haveRoom, cX8_haveRoom, 5, some .boolean)
theorem iX8_haveRoom : a_mi mX8_haveRoom 2 := ⟨k_472, k_97, by decide +kernel, by decide +kernel, by decide, by decide +kernel⟩
abbrev mX8_addRow : aM := (yX8_addRow, cX8_addRow, 3, some .int)
theorem iX8_addRow : a_mi mX8_addRow 2 := ⟨k_478, k_97, by decide +kernel, by decide +kernel, by decide, by decide +kernel⟩
abbrev mX8_addFigure : aM := (yX8_addFigure, cX8_addFigure, 3, some .int)
theorem iX8_addFigure : a_mi mX8_addFigure 2 := ⟨k_518, k_97, by decide +kernel, by decide +kernel, by decide, by decide +kernel⟩
abbrev mX8_removeAll : aM := (yX8_removeAll, cX8_removeAll, 2, some .int)
theorem iX8_removeAll : a_mi mX8_removeAll 0 := ⟨k_668, k_97, by decide +kernel, by decide +kernel, by decide, by decide +kernel⟩
abbrev mX8_kindOf : aM := (yX8_kindOf, cX8_kindOf, 2, some .int)
theorem iX8_kindOf : a_mi mX8_kindOf 1 := ⟨k_501, k_97, by decide +kernel, by decide +kernel, by decide, by decide +kernel⟩
abbrev mX8_sizeOf : aM := (yX8_sizeOf, cX8_sizeOf, 2, some .int)
theorem iX8_sizeOf : a_mi mX8_sizeOf 1 := ⟨k_585, k_97, by decide +kernel, by decide +kernel, by decide, by decide +kernel⟩
abbrev mX8_hasItem : aM := (yX8_hasItem, cX8_hasItem, 3, some .boolean)
theorem iX8_hasItem : a_mi mX8_hasItem 2 := ⟨k_497, k_97, by decide +kernel, by decide +kernel, by decide, by decide +kernel⟩
abbrev mX8_read : aM := (yX8_read, cX8_read, 3, some .long)
theorem iX8_read : a_mi mX8_read 2 := ⟨k_552, k_97, by decide +kernel, by decide +kernel, by decide, by decide +kernel⟩
abbrev mX8_write : aM := (yX8_write, cX8_write, 5, none)
theorem iX8_write : a_mi mX8_write 3 := ⟨k_493, k_97, by decide +kernel, by decide +kernel, by decide, by decide +kernel⟩
abbrev mX8_asItem : aM := (yX8_asItem, cX8_asItem, 3, some .long)
theorem iX8_asItem : a_mi mX8_asItem 2 := ⟨k_507, k_97, by decide +kernel, by decide +kernel, by decide, by decide +kernel⟩
abbrev mX8_hasPart : aM := (yX8_hasPart, cX8_hasPart, 4, some .boolean)
theorem iX8_hasPart : a_mi mX8_hasPart 3 := ⟨k_597, k_97, by decide +kernel, by decide +kernel, by decide, by decide +kernel⟩
abbrev mX8_bring : aM := (yX8_bring, cX8_bring, 6, some .int)
theorem iX8_bring : a_mi mX8_bring 5 := ⟨k_593, k_97, by decide +kernel, by decide +kernel, by decide, by decide +kernel⟩
abbrev mX8_bringOneByOne : aM := (yX8_bringOneByOne, cX8_bringOneByOne, 11, some .int)
theorem iX8_bringOneByOne : a_mi mX8_bringOneByOne 5 := ⟨k_601, k_97, by decide +kernel, by decide +kernel, by decide, by decide +kernel⟩
abbrev mX8_match : aM := (yX8_match, cX8_match, 4, some .boolean)
theorem iX8_match : a_mi mX8_match 2 := ⟨k_695, k_97, by decide +kernel, by decide +kernel, by decide, by decide +kernel⟩
abbrev mX8_numbersMatch : aM := (yX8_numbersMatch, cX8_numbersMatch, 5, some .boolean)
theorem iX8_numbersMatch : a_mi mX8_numbersMatch 2 := ⟨k_705, k_97, by decide +kernel, by decide +kernel, by decide, by decide +kernel⟩
abbrev mX8_rowsMatch : aM := (yX8_rowsMatch, cX8_rowsMatch, 8, some .boolean)
theorem iX8_rowsMatch : a_mi mX8_rowsMatch 2 := ⟨k_700, k_97, by decide +kernel, by decide +kernel, by decide, by decide +kernel⟩
abbrev mX9_init : aM := (yX9_init, cX9_init, 2, none)
theorem iX9_init : a_mi mX9_init 0 := ⟨k_254, k_102, by decide +kernel, by decide +kernel, by decide, by decide +kernel⟩
abbrev mX9_by : aM := (yX9_by, cX9_by, 2, some (.object "ThrowReports$State"))
theorem iX9_by : a_mi mX9_by 1 := ⟨k_784, k_102, by decide +kernel, by decide +kernel, by decide, by decide +kernel⟩
abbrev mX9_erase : aM := (yX9_erase, cX9_erase, 2, none)
theorem iX9_erase : a_mi mX9_erase 0 := ⟨k_749, k_102, by decide +kernel, by decide +kernel, by decide, by decide +kernel⟩
abbrev mX9_join : aM := (yX9_join, cX9_join, 2, none)
theorem iX9_join : a_mi mX9_join 1 := ⟨k_870, k_102, by decide +kernel, by decide +kernel, by decide, by decide +kernel⟩
abbrev mX9_joinFailures : aM := (yX9_joinFailures, cX9_joinFailures, 3, none)
theorem iX9_joinFailures : a_mi mX9_joinFailures 1 := ⟨k_862, k_102, by decide +kernel, by decide +kernel, by decide, by decide +kernel⟩
abbrev mX9_bits : aM := (yX9_bits, cX9_bits, 3, some .int)
theorem iX9_bits : a_mi mX9_bits 0 := ⟨k_892, k_102, by decide +kernel, by decide +kernel, by decide, by decide +kernel⟩
abbrev mX10_init : aM := (yX10_init, cX10_init, 2, none)
theorem iX10_init : a_mi mX10_init 0 := ⟨k_113, k_95, by decide +kernel, by decide +kernel, by decide, by decide +kernel⟩
abbrev mX10_act : aM := (yX10_act, cX10_act, 6, some .int)
theorem iX10_act : a_mi mX10_act 5 := ⟨k_226, k_95, by decide +kernel, by decide +kernel, by decide, by decide +kernel⟩
abbrev mX10_both : aM := (yX10_both, cX10_both, 4, some .int)
theorem iX10_both : a_mi mX10_both 2 := ⟨k_322, k_95, by decide +kernel, by decide +kernel, by decide, by decide +kernel⟩
abbrev mX10_choice : aM := (yX10_choice, cX10_choice, 6, some .int)
theorem iX10_choice : a_mi mX10_choice 4 := ⟨k_357, k_95, by decide +kernel, by decide +kernel, by decide, by decide +kernel⟩
abbrev mX10_guard : aM := (yX10_guard, cX10_guard, 6, some .int)
theorem iX10_guard : a_mi mX10_guard 4 := ⟨k_393, k_95, by decide +kernel, by decide +kernel, by decide, by decide +kernel⟩
abbrev mX10_forget : aM := (yX10_forget, cX10_forget, 3, some .int)
theorem iX10_forget : a_mi mX10_forget 0 := ⟨k_446, k_95, by decide +kernel, by decide +kernel, by decide, by decide +kernel⟩
abbrev mX10_run : aM := (yX10_run, cX10_run, 2, some .int)
theorem iX10_run : a_mi mX10_run 1 := ⟨k_450, k_95, by decide +kernel, by decide +kernel, by decide, by decide +kernel⟩
abbrev mX10_ran : aM := (yX10_ran, cX10_ran, 2, some .int)
theorem iX10_ran : a_mi mX10_ran 1 := ⟨k_650, k_95, by decide +kernel, by decide +kernel, by decide, by decide +kernel⟩
abbrev mX10_clear : aM := (yX10_clear, cX10_clear, 1, some .int)
theorem iX10_clear : a_mi mX10_clear 0 := ⟨k_654, k_95, by decide +kernel, by decide +kernel, by decide, by decide +kernel⟩
abbrev mX10_count : aM := (yX10_count, cX10_count, 2, some .int)
theorem iX10_count : a_mi mX10_count 1 := ⟨k_672, k_95, by decide +kernel, by decide +kernel, by decide, by decide +kernel⟩
abbrev mX10_slot : aM := (yX10_slot, cX10_slot, 4, some .int)
theorem iX10_slot : a_mi mX10_slot 2 := ⟨k_676, k_95, by decide +kernel, by decide +kernel, by decide, by decide +kernel⟩
abbrev mX10_item : aM := (yX10_item, cX10_item, 3, some .long)
theorem iX10_item : a_mi mX10_item 2 := ⟨k_682, k_95, by decide +kernel, by decide +kernel, by decide, by decide +kernel⟩
abbrev mX10_register : aM := (yX10_register, cX10_register, 2, some .long)
theorem iX10_register : a_mi mX10_register 1 := ⟨k_687, k_95, by decide +kernel, by decide +kernel, by decide, by decide +kernel⟩
abbrev mX10_alike : aM := (yX10_alike, cX10_alike, 5, some .int)
theorem iX10_alike : a_mi mX10_alike 2 := ⟨k_691, k_95, by decide +kernel, by decide +kernel, by decide, by decide +kernel⟩
abbrev mX10_given : aM := (yX10_given, cX10_given, 4, some .int)
theorem iX10_given : a_mi mX10_given 2 := ⟨k_709, k_95, by decide +kernel, by decide +kernel, by decide, by decide +kernel⟩
abbrev mX10_report : aM := (yX10_report, cX10_report, 3, some .int)
theorem iX10_report : a_mi mX10_report 1 := ⟨k_717, k_95, by decide +kernel, by decide +kernel, by decide, by decide +kernel⟩
abbrev mX10_reached : aM := (yX10_reached, cX10_reached, 2, some .int)
theorem iX10_reached : a_mi mX10_reached 1 := ⟨k_912, k_95, by decide +kernel, by decide +kernel, by decide, by decide +kernel⟩
abbrev mX10_may : aM := (yX10_may, cX10_may, 2, some .int)
theorem iX10_may : a_mi mX10_may 1 := ⟨k_925, k_95, by decide +kernel, by decide +kernel, by decide, by decide +kernel⟩
abbrev mX10_ahead : aM := (yX10_ahead, cX10_ahead, 3, some .int)
theorem iX10_ahead : a_mi mX10_ahead 2 := ⟨k_929, k_95, by decide +kernel, by decide +kernel, by decide, by decide +kernel⟩
abbrev mX10_guarded : aM := (yX10_guarded, cX10_guarded, 5, some .int)
theorem iX10_guarded : a_mi mX10_guarded 2 := ⟨k_933, k_95, by decide +kernel, by decide +kernel, by decide, by decide +kernel⟩
abbrev mX10_isSlot : aM := (yX10_isSlot, cX10_isSlot, 1, some .boolean)
theorem iX10_isSlot : a_mi mX10_isSlot 1 := ⟨k_360, k_95, by decide +kernel, by decide +kernel, by decide, by decide +kernel⟩
abbrev mX10_isNode : aM := (yX10_isNode, cX10_isNode, 2, some .boolean)
theorem iX10_isNode : a_mi mX10_isNode 1 := ⟨k_326, k_95, by decide +kernel, by decide +kernel, by decide, by decide +kernel⟩
abbrev mX10_isNodeOrNone : aM := (yX10_isNodeOrNone, cX10_isNodeOrNone, 2, some .boolean)
theorem iX10_isNodeOrNone : a_mi mX10_isNodeOrNone 1 := ⟨k_397, k_95, by decide +kernel, by decide +kernel, by decide, by decide +kernel⟩
abbrev mX10_nodeOrNull : aM := (yX10_nodeOrNull, cX10_nodeOrNull, 2, some (.object "ThrowReports$Node"))
theorem iX10_nodeOrNull : a_mi mX10_nodeOrNull 1 := ⟨k_403, k_95, by decide +kernel, by decide +kernel, by decide, by decide +kernel⟩
abbrev mX10_costOf : aM := (yX10_costOf, cX10_costOf, 2, some .int)
theorem iX10_costOf : a_mi mX10_costOf 1 := ⟨k_330, k_95, by decide +kernel, by decide +kernel, by decide, by decide +kernel⟩
abbrev mX10_isFull : aM := (yX10_isFull, cX10_isFull, 2, some .boolean)
theorem iX10_isFull : a_mi mX10_isFull 1 := ⟨k_238, k_95, by decide +kernel, by decide +kernel, by decide, by decide +kernel⟩
abbrev mX10_added : aM := (yX10_added, cX10_added, 2, some .int)
theorem iX10_added : a_mi mX10_added 1 := ⟨k_318, k_95, by decide +kernel, by decide +kernel, by decide, by decide +kernel⟩
abbrev mX11_init : aM := (yX11_init, cX11_init, 1, none)
theorem iX11_init : a_mi mX11_init 0 := ⟨k_946, k_99, by decide +kernel, by decide +kernel, by decide, by decide +kernel⟩
abbrev mX11_in : aM := (yX11_in, cX11_in, 3, some .boolean)
theorem iX11_in : a_mi mX11_in 3 := ⟨k_1082, k_99, by decide +kernel, by decide +kernel, by decide, by decide +kernel⟩
abbrev mX11_isSlot : aM := (yX11_isSlot, cX11_isSlot, 1, some .boolean)
theorem iX11_isSlot : a_mi mX11_isSlot 1 := ⟨k_1079, k_99, by decide +kernel, by decide +kernel, by decide, by decide +kernel⟩
abbrev mX11_isRegister : aM := (yX11_isRegister, cX11_isRegister, 1, some .boolean)
theorem iX11_isRegister : a_mi mX11_isRegister 1 := ⟨k_1085, k_99, by decide +kernel, by decide +kernel, by decide, by decide +kernel⟩
abbrev mX11_mask : aM := (yX11_mask, cX11_mask, 1, some .int)
theorem iX11_mask : a_mi mX11_mask 1 := ⟨k_1166, k_99, by decide +kernel, by decide +kernel, by decide, by decide +kernel⟩
abbrev mX11_is : aM := (yX11_is, cX11_is, 3, some .boolean)
theorem iX11_is : a_mi mX11_is 2 := ⟨k_1163, k_99, by decide +kernel, by decide +kernel, by decide, by decide +kernel⟩
abbrev mX11_fresh : aM := (yX11_fresh, cX11_fresh, 4, some .int)
theorem iX11_fresh : a_mi mX11_fresh 2 := ⟨k_1143, k_99, by decide +kernel, by decide +kernel, by decide, by decide +kernel⟩
abbrev mX11_fits : aM := (yX11_fits, cX11_fits, 5, some .boolean)
theorem iX11_fits : a_mi mX11_fits 2 := ⟨k_1137, k_99, by decide +kernel, by decide +kernel, by decide, by decide +kernel⟩
abbrev mX11_isNode : aM := (yX11_isNode, cX11_isNode, 2, some .boolean)
theorem iX11_isNode : a_mi mX11_isNode 1 := ⟨k_1097, k_99, by decide +kernel, by decide +kernel, by decide, by decide +kernel⟩
abbrev mX11_node : aM := (yX11_node, cX11_node, 8, some .int)
theorem iX11_node : a_mi mX11_node 7 := ⟨k_1089, k_99, by decide +kernel, by decide +kernel, by decide, by decide +kernel⟩
abbrev mX11_isAct : aM := (yX11_isAct, cX11_isAct, 5, some .boolean)
theorem iX11_isAct : a_mi mX11_isAct 5 := ⟨k_1076, k_99, by decide +kernel, by decide +kernel, by decide, by decide +kernel⟩
abbrev mX11_act : aM := (yX11_act, cX11_act, 6, some .int)
theorem iX11_act : a_mi mX11_act 5 := ⟨k_1073, k_99, by decide +kernel, by decide +kernel, by decide, by decide +kernel⟩
abbrev mX11_both : aM := (yX11_both, cX11_both, 3, some .int)
theorem iX11_both : a_mi mX11_both 2 := ⟨k_1093, k_99, by decide +kernel, by decide +kernel, by decide, by decide +kernel⟩
abbrev mX11_choice : aM := (yX11_choice, cX11_choice, 6, some .int)
theorem iX11_choice : a_mi mX11_choice 4 := ⟨k_1101, k_99, by decide +kernel, by decide +kernel, by decide, by decide +kernel⟩
abbrev mX11_guard : aM := (yX11_guard, cX11_guard, 7, some .int)
theorem iX11_guard : a_mi mX11_guard 4 := ⟨k_1105, k_99, by decide +kernel, by decide +kernel, by decide, by decide +kernel⟩
abbrev mX11_forget : aM := (yX11_forget, cX11_forget, 2, some .int)
theorem iX11_forget : a_mi mX11_forget 0 := ⟨k_1109, k_99, by decide +kernel, by decide +kernel, by decide, by decide +kernel⟩
abbrev mX11_as : aM := (yX11_as, cX11_as, 3, some .int)
theorem iX11_as : a_mi mX11_as 2 := ⟨k_1159, k_99, by decide +kernel, by decide +kernel, by decide, by decide +kernel⟩
abbrev mX11_row : aM := (yX11_row, cX11_row, 3, some .int)
theorem iX11_row : a_mi mX11_row 2 := ⟨k_1178, k_99, by decide +kernel, by decide +kernel, by decide, by decide +kernel⟩
abbrev mX11_itemOf : aM := (yX11_itemOf, cX11_itemOf, 5, some .int)
theorem iX11_itemOf : a_mi mX11_itemOf 3 := ⟨k_1174, k_99, by decide +kernel, by decide +kernel, by decide, by decide +kernel⟩
abbrev mX11_make : aM := (yX11_make, cX11_make, 4, some .int)
theorem iX11_make : a_mi mX11_make 3 := ⟨k_1133, k_99, by decide +kernel, by decide +kernel, by decide, by decide +kernel⟩
abbrev mX11_deep : aM := (yX11_deep, cX11_deep, 6, some .int)
theorem iX11_deep : a_mi mX11_deep 3 := ⟨k_1147, k_99, by decide +kernel, by decide +kernel, by decide, by decide +kernel⟩
abbrev mX11_figure : aM := (yX11_figure, cX11_figure, 4, some .int)
theorem iX11_figure : a_mi mX11_figure 3 := ⟨k_1151, k_99, by decide +kernel, by decide +kernel, by decide, by decide +kernel⟩
abbrev mX11_told : aM := (yX11_told, cX11_told, 4, some .long)
theorem iX11_told : a_mi mX11_told 2 := ⟨k_1185, k_99, by decide +kernel, by decide +kernel, by decide, by decide +kernel⟩
abbrev mX11_lay : aM := (yX11_lay, cX11_lay, 6, some .int)
theorem iX11_lay : a_mi mX11_lay 4 := ⟨k_1196, k_99, by decide +kernel, by decide +kernel, by decide, by decide +kernel⟩
abbrev mX11_meet : aM := (yX11_meet, cX11_meet, 2, some .boolean)
theorem iX11_meet : a_mi mX11_meet 2 := ⟨k_1215, k_99, by decide +kernel, by decide +kernel, by decide, by decide +kernel⟩
abbrev mX11_copy : aM := (yX11_copy, cX11_copy, 10, some .int)
theorem iX11_copy : a_mi mX11_copy 5 := ⟨k_1212, k_99, by decide +kernel, by decide +kernel, by decide, by decide +kernel⟩
abbrev mX11_divide : aM := (yX11_divide, cX11_divide, 7, some .int)
theorem iX11_divide : a_mi mX11_divide 4 := ⟨k_1219, k_99, by decide +kernel, by decide +kernel, by decide, by decide +kernel⟩
abbrev mX11_tell : aM := (yX11_tell, cX11_tell, 5, some .int)
theorem iX11_tell : a_mi mX11_tell 2 := ⟨k_1208, k_99, by decide +kernel, by decide +kernel, by decide, by decide +kernel⟩
abbrev mX11_get : aM := (yX11_get, cX11_get, 6, some .int)
theorem iX11_get : a_mi mX11_get 4 := ⟨k_1170, k_99, by decide +kernel, by decide +kernel, by decide, by decide +kernel⟩
abbrev mX11_set : aM := (yX11_set, cX11_set, 6, some .int)
theorem iX11_set : a_mi mX11_set 4 := ⟨k_1182, k_99, by decide +kernel, by decide +kernel, by decide, by decide +kernel⟩
abbrev mX11_take : aM := (yX11_take, cX11_take, 6, some .int)
theorem iX11_take : a_mi mX11_take 4 := ⟨k_1192, k_99, by decide +kernel, by decide +kernel, by decide, by decide +kernel⟩
abbrev mX11_cloned : aM := (yX11_cloned, cX11_cloned, 7, some .int)
theorem iX11_cloned : a_mi mX11_cloned 2 := ⟨k_1204, k_99, by decide +kernel, by decide +kernel, by decide, by decide +kernel⟩
abbrev mX11_measure : aM := (yX11_measure, cX11_measure, 5, some .int)
theorem iX11_measure : a_mi mX11_measure 3 := ⟨k_1200, k_99, by decide +kernel, by decide +kernel, by decide, by decide +kernel⟩
abbrev mX11_move : aM := (yX11_move, cX11_move, 5, some .int)
theorem iX11_move : a_mi mX11_move 3 := ⟨k_1155, k_99, by decide +kernel, by decide +kernel, by decide, by decide +kernel⟩
abbrev mX11_done : aM := (yX11_done, cX11_done, 6, some .int)
theorem iX11_done : a_mi mX11_done 1 := ⟨k_1129, k_99, by decide +kernel, by decide +kernel, by decide, by decide +kernel⟩
abbrev mX11_push : aM := (yX11_push, cX11_push, 2, none)
theorem iX11_push : a_mi mX11_push 1 := ⟨k_1121, k_99, by decide +kernel, by decide +kernel, by decide, by decide +kernel⟩
abbrev mX11_step : aM := (yX11_step, cX11_step, 3, none)
theorem iX11_step : a_mi mX11_step 2 := ⟨k_1228, k_99, by decide +kernel, by decide +kernel, by decide, by decide +kernel⟩
abbrev mX11_ofAct : aM := (yX11_ofAct, cX11_ofAct, 3, some .int)
theorem iX11_ofAct : a_mi mX11_ofAct 1 := ⟨k_1125, k_99, by decide +kernel, by decide +kernel, by decide, by decide +kernel⟩
abbrev mX11_ofGuard : aM := (yX11_ofGuard, cX11_ofGuard, 6, some .int)
theorem iX11_ofGuard : a_mi mX11_ofGuard 2 := ⟨k_1224, k_99, by decide +kernel, by decide +kernel, by decide, by decide +kernel⟩
abbrev mX11_ofOther : aM := (yX11_ofOther, cX11_ofOther, 6, some .int)
theorem iX11_ofOther : a_mi mX11_ofOther 2 := ⟨k_1232, k_99, by decide +kernel, by decide +kernel, by decide, by decide +kernel⟩
abbrev mX11_goes : aM := (yX11_goes, cX11_goes, 4, some .int)
theorem iX11_goes : a_mi mX11_goes 1 := ⟨k_1117, k_99, by decide +kernel, by decide +kernel, by decide, by decide +kernel⟩
abbrev mX11_run : aM := (yX11_run, cX11_run, 2, some .int)
theorem iX11_run : a_mi mX11_run 1 := ⟨k_1113, k_99, by decide +kernel, by decide +kernel, by decide, by decide +kernel⟩
abbrev mX11_ran : aM := (yX11_ran, cX11_ran, 2, some .int)
theorem iX11_ran : a_mi mX11_ran 1 := ⟨k_1236, k_99, by decide +kernel, by decide +kernel, by decide, by decide +kernel⟩
abbrev mX11_clear : aM := (yX11_clear, cX11_clear, 3, some .int)
theorem iX11_clear : a_mi mX11_clear 0 := ⟨k_1240, k_99, by decide +kernel, by decide +kernel, by decide, by decide +kernel⟩
abbrev mX11_count : aM := (yX11_count, cX11_count, 2, some .int)
theorem iX11_count : a_mi mX11_count 1 := ⟨k_1244, k_99, by decide +kernel, by decide +kernel, by decide, by decide +kernel⟩
abbrev mX11_slot : aM := (yX11_slot, cX11_slot, 4, some .int)
theorem iX11_slot : a_mi mX11_slot 2 := ⟨k_1248, k_99, by decide +kernel, by decide +kernel, by decide, by decide +kernel⟩
abbrev mX11_item : aM := (yX11_item, cX11_item, 4, some .long)
theorem iX11_item : a_mi mX11_item 2 := ⟨k_1252, k_99, by decide +kernel, by decide +kernel, by decide, by decide +kernel⟩
abbrev mX11_register : aM := (yX11_register, cX11_register, 2, some .long)
theorem iX11_register : a_mi mX11_register 1 := ⟨k_1256, k_99, by decide +kernel, by decide +kernel, by decide, by decide +kernel⟩
abbrev mX11_plainTwins : aM := (yX11_plainTwins, cX11_plainTwins, 5, some .boolean)
theorem iX11_plainTwins : a_mi mX11_plainTwins 2 := ⟨k_1268, k_99, by decide +kernel, by decide +kernel, by decide, by decide +kernel⟩
abbrev mX11_twins : aM := (yX11_twins, cX11_twins, 7, some .boolean)
theorem iX11_twins : a_mi mX11_twins 2 := ⟨k_1264, k_99, by decide +kernel, by decide +kernel, by decide, by decide +kernel⟩
abbrev mX11_alike : aM := (yX11_alike, cX11_alike, 5, some .int)
theorem iX11_alike : a_mi mX11_alike 2 := ⟨k_1260, k_99, by decide +kernel, by decide +kernel, by decide, by decide +kernel⟩
abbrev mX11_startOf : aM := (yX11_startOf, cX11_startOf, 2, some .int)
theorem iX11_startOf : a_mi mX11_startOf 1 := ⟨k_1276, k_99, by decide +kernel, by decide +kernel, by decide, by decide +kernel⟩
abbrev mX11_given : aM := (yX11_given, cX11_given, 4, some .int)
theorem iX11_given : a_mi mX11_given 2 := ⟨k_1272, k_99, by decide +kernel, by decide +kernel, by decide, by decide +kernel⟩
abbrev mX11_join : aM := (yX11_join, cX11_join, 5, none)
theorem iX11_join : a_mi mX11_join 4 := ⟨k_1298, k_99, by decide +kernel, by decide +kernel, by decide, by decide +kernel⟩
abbrev mX11_lay_ : aM := (yX11_lay_, cX11_lay_, 5, none)
theorem iX11_lay_ : a_mi mX11_lay_ 4 := ⟨k_1301, k_99, by decide +kernel, by decide +kernel, by decide, by decide +kernel⟩
abbrev mX11_wipe : aM := (yX11_wipe, cX11_wipe, 4, none)
theorem iX11_wipe : a_mi mX11_wipe 3 := ⟨k_1283, k_99, by decide +kernel, by decide +kernel, by decide, by decide +kernel⟩
abbrev mX11_mayFail : aM := (yX11_mayFail, cX11_mayFail, 6, none)
theorem iX11_mayFail : a_mi mX11_mayFail 4 := ⟨k_1313, k_99, by decide +kernel, by decide +kernel, by decide, by decide +kernel⟩
abbrev mX11_mayAs : aM := (yX11_mayAs, cX11_mayAs, 5, some .boolean)
theorem iX11_mayAs : a_mi mX11_mayAs 3 := ⟨k_1317, k_99, by decide +kernel, by decide +kernel, by decide, by decide +kernel⟩
abbrev mX11_mayRow : aM := (yX11_mayRow, cX11_mayRow, 3, some .boolean)
theorem iX11_mayRow : a_mi mX11_mayRow 2 := ⟨k_1325, k_99, by decide +kernel, by decide +kernel, by decide, by decide +kernel⟩
abbrev mX11_mayItem : aM := (yX11_mayItem, cX11_mayItem, 5, some .boolean)
theorem iX11_mayItem : a_mi mX11_mayItem 3 := ⟨k_1321, k_99, by decide +kernel, by decide +kernel, by decide, by decide +kernel⟩
abbrev mX11_mayNew : aM := (yX11_mayNew, cX11_mayNew, 5, some .boolean)
theorem iX11_mayNew : a_mi mX11_mayNew 4 := ⟨k_1309, k_99, by decide +kernel, by decide +kernel, by decide, by decide +kernel⟩
abbrev mX11_mayLay : aM := (yX11_mayLay, cX11_mayLay, 7, some .boolean)
theorem iX11_mayLay : a_mi mX11_mayLay 4 := ⟨k_1333, k_99, by decide +kernel, by decide +kernel, by decide, by decide +kernel⟩
abbrev mX11_partly : aM := (yX11_partly, cX11_partly, 2, some .boolean)
theorem iX11_partly : a_mi mX11_partly 2 := ⟨k_1340, k_99, by decide +kernel, by decide +kernel, by decide, by decide +kernel⟩
abbrev mX11_mayCopy : aM := (yX11_mayCopy, cX11_mayCopy, 9, some .boolean)
theorem iX11_mayCopy : a_mi mX11_mayCopy 3 := ⟨k_1337, k_99, by decide +kernel, by decide +kernel, by decide, by decide +kernel⟩
abbrev mX11_mayTake : aM := (yX11_mayTake, cX11_mayTake, 7, some .boolean)
theorem iX11_mayTake : a_mi mX11_mayTake 4 := ⟨k_1329, k_99, by decide +kernel, by decide +kernel, by decide, by decide +kernel⟩
abbrev mX11_mayAct : aM := (yX11_mayAct, cX11_mayAct, 7, some .boolean)
theorem iX11_mayAct : a_mi mX11_mayAct 2 := ⟨k_1305, k_99, by decide +kernel, by decide +kernel, by decide, by decide +kernel⟩
abbrev mX11_put : aM := (yX11_put, cX11_put, 4, none)
theorem iX11_put : a_mi mX11_put 2 := ⟨k_1352, k_99, by decide +kernel, by decide +kernel, by decide, by decide +kernel⟩
abbrev mX11_enter : aM := (yX11_enter, cX11_enter, 3, none)
theorem iX11_enter : a_mi mX11_enter 2 := ⟨k_1295, k_99, by decide +kernel, by decide +kernel, by decide, by decide +kernel⟩
abbrev mX11_leave : aM := (yX11_leave, cX11_leave, 4, none)
theorem iX11_leave : a_mi mX11_leave 2 := ⟨k_1344, k_99, by decide +kernel, by decide +kernel, by decide, by decide +kernel⟩
abbrev mX11_throughAct : aM := (yX11_throughAct, cX11_throughAct, 3, none)
theorem iX11_throughAct : a_mi mX11_throughAct 2 := ⟨k_1291, k_99, by decide +kernel, by decide +kernel, by decide, by decide +kernel⟩
abbrev mX11_throughBoth : aM := (yX11_throughBoth, cX11_throughBoth, 5, none)
theorem iX11_throughBoth : a_mi mX11_throughBoth 2 := ⟨k_1348, k_99, by decide +kernel, by decide +kernel, by decide, by decide +kernel⟩
abbrev mX11_throughChoice : aM := (yX11_throughChoice, cX11_throughChoice, 6, none)
theorem iX11_throughChoice : a_mi mX11_throughChoice 2 := ⟨k_1356, k_99, by decide +kernel, by decide +kernel, by decide, by decide +kernel⟩
abbrev mX11_part : aM := (yX11_part, cX11_part, 5, none)
theorem iX11_part : a_mi mX11_part 2 := ⟨k_1364, k_99, by decide +kernel, by decide +kernel, by decide, by decide +kernel⟩
abbrev mX11_last : aM := (yX11_last, cX11_last, 7, none)
theorem iX11_last : a_mi mX11_last 3 := ⟨k_1368, k_99, by decide +kernel, by decide +kernel, by decide, by decide +kernel⟩
abbrev mX11_throughGuard : aM := (yX11_throughGuard, cX11_throughGuard, 7, none)
theorem iX11_throughGuard : a_mi mX11_throughGuard 2 := ⟨k_1360, k_99, by decide +kernel, by decide +kernel, by decide, by decide +kernel⟩
abbrev mX11_through : aM := (yX11_through, cX11_through, 3, none)
theorem iX11_through : a_mi mX11_through 1 := ⟨k_1287, k_99, by decide +kernel, by decide +kernel, by decide, by decide +kernel⟩
abbrev mX11_report : aM := (yX11_report, cX11_report, 3, some .int)
theorem iX11_report : a_mi mX11_report 1 := ⟨k_1280, k_99, by decide +kernel, by decide +kernel, by decide, by decide +kernel⟩
abbrev mX11_has : aM := (yX11_has, cX11_has, 2, some .boolean)
theorem iX11_has : a_mi mX11_has 1 := ⟨k_1376, k_99, by decide +kernel, by decide +kernel, by decide, by decide +kernel⟩
abbrev mX11_reached : aM := (yX11_reached, cX11_reached, 2, some .int)
theorem iX11_reached : a_mi mX11_reached 1 := ⟨k_1372, k_99, by decide +kernel, by decide +kernel, by decide, by decide +kernel⟩
abbrev mX11_may : aM := (yX11_may, cX11_may, 2, some .int)
theorem iX11_may : a_mi mX11_may 1 := ⟨k_1380, k_99, by decide +kernel, by decide +kernel, by decide, by decide +kernel⟩
abbrev mX11_ahead : aM := (yX11_ahead, cX11_ahead, 3, some .int)
theorem iX11_ahead : a_mi mX11_ahead 2 := ⟨k_1384, k_99, by decide +kernel, by decide +kernel, by decide, by decide +kernel⟩
abbrev mX11_guarded : aM := (yX11_guarded, cX11_guarded, 3, some .int)
theorem iX11_guarded : a_mi mX11_guarded 2 := ⟨k_1388, k_99, by decide +kernel, by decide +kernel, by decide, by decide +kernel⟩
abbrev mJ7_rangeCheck_23922 : aM := (yJ7_rangeCheck_23922, cJ7_rangeCheck_23922, 3, none)
theorem iJ7_rangeCheck_23922 : a_mi mJ7_rangeCheck_23922 3 := ⟨k_485, k_106, by decide +kernel, by decide +kernel, by decide, by decide +kernel⟩
abbrev mJ7_fill_d0a16 : aM := (yJ7_fill_d0a16, cJ7_fill_d0a16, 5, none)
theorem iJ7_fill_d0a16 : a_mi mJ7_fill_d0a16 2 := ⟨k_664, k_106, by decide +kernel, by decide +kernel, by decide, by decide +kernel⟩
abbrev mJ7_fill_bad5a : aM := (yJ7_fill_bad5a, cJ7_fill_bad5a, 6, none)
theorem iJ7_fill_bad5a : a_mi mJ7_fill_bad5a 4 := ⟨k_482, k_106, by decide +kernel, by decide +kernel, by decide, by decide +kernel⟩
abbrev mJ7_fill_53178 : aM := (yJ7_fill_53178, cJ7_fill_53178, 4, none)
theorem iJ7_fill_53178 : a_mi mJ7_fill_53178 2 := ⟨k_661, k_106, by decide +kernel, by decide +kernel, by decide, by decide +kernel⟩
theorem clX0 : a_cl 0 RX0 TX0 11 tyX0 := by
  refine ⟨rfl, fun w hw => ?_, tyX0_ok, nmX0⟩
  obtain ⟨k, hk, rfl⟩ := List.mem_map.mp hw
  have hk := List.mem_range.mp hk
  match k, hk with
  | 0, _ => exact k_304
  | 1, _ => exact k_306
  | 2, _ => exact k_308
  | 3, _ => exact k_310
  | 4, _ => exact k_312
  | 5, _ => exact k_292
  | 6, _ => exact k_294
  | 7, _ => exact k_296
  | 8, _ => exact k_298
  | 9, _ => exact k_300
  | 10, _ => exact k_302
  | k + 11, hk => exact absurd hk (by omega)
theorem dvX0 : ∀ j, j < 11 → defaultValue (tyX0 j) = vp_V [.int 0, .int 0, .null, .null, .int 0, .int 0, .int 0, .int 0, .int 0, .int 0, .null] j := by decide
theorem clX1 : a_cl 1 RX1 TX1 8 tyX1 := by
  refine ⟨rfl, fun w hw => ?_, tyX1_ok, nmX1⟩
  obtain ⟨k, hk, rfl⟩ := List.mem_map.mp hw
  have hk := List.mem_range.mp hk
  match k, hk with
  | 0, _ => exact k_348
  | 1, _ => exact k_349
  | 2, _ => exact k_350
  | 3, _ => exact k_351
  | 4, _ => exact k_352
  | 5, _ => exact k_342
  | 6, _ => exact k_344
  | 7, _ => exact k_346
  | k + 8, hk => exact absurd hk (by omega)
theorem dvX1 : ∀ j, j < 8 → defaultValue (tyX1 j) = vp_V [.int 0, .int 0, .null, .null, .int 0, .null, .null, .null] j := by decide
theorem clX2 : a_cl 2 RX2 TX2 10 tyX2 := by
  refine ⟨rfl, fun w hw => ?_, tyX2_ok, nmX2⟩
  obtain ⟨k, hk, rfl⟩ := List.mem_map.mp hw
  have hk := List.mem_range.mp hk
  match k, hk with
  | 0, _ => exact k_384
  | 1, _ => exact k_385
  | 2, _ => exact k_386
  | 3, _ => exact k_387
  | 4, _ => exact k_388
  | 5, _ => exact k_374
  | 6, _ => exact k_376
  | 7, _ => exact k_378
  | 8, _ => exact k_380
  | 9, _ => exact k_382
  | k + 10, hk => exact absurd hk (by omega)
theorem dvX2 : ∀ j, j < 10 → defaultValue (tyX2 j) = vp_V [.int 0, .int 0, .null, .null, .int 0, .int 0, .int 0, .null, .null, .null] j := by decide
theorem clX3 : a_cl 3 RX3 TX3 13 tyX3 := by
  refine ⟨rfl, fun w hw => ?_, tyX3_ok, nmX3⟩
  obtain ⟨k, hk, rfl⟩ := List.mem_map.mp hw
  have hk := List.mem_range.mp hk
  match k, hk with
  | 0, _ => exact k_437
  | 1, _ => exact k_438
  | 2, _ => exact k_439
  | 3, _ => exact k_440
  | 4, _ => exact k_441
  | 5, _ => exact k_421
  | 6, _ => exact k_423
  | 7, _ => exact k_425
  | 8, _ => exact k_427
  | 9, _ => exact k_429
  | 10, _ => exact k_431
  | 11, _ => exact k_433
  | 12, _ => exact k_435
  | k + 13, hk => exact absurd hk (by omega)
theorem dvX3 : ∀ j, j < 13 → defaultValue (tyX3 j) = vp_V [.int 0, .int 0, .null, .null, .int 0, .null, .int 0, .null, .null, .null, .null, .int 0, .int 0] j := by decide
theorem clX5 : a_cl 4 RX5 TX5 9 tyX5 := by
  refine ⟨rfl, fun w hw => ?_, tyX5_ok, nmX5⟩
  obtain ⟨k, hk, rfl⟩ := List.mem_map.mp hw
  have hk := List.mem_range.mp hk
  match k, hk with
  | 0, _ => exact k_175
  | 1, _ => exact k_177
  | 2, _ => exact k_179
  | 3, _ => exact k_181
  | 4, _ => exact k_183
  | 5, _ => exact k_185
  | 6, _ => exact k_187
  | 7, _ => exact k_189
  | 8, _ => exact k_191
  | k + 9, hk => exact absurd hk (by omega)
theorem dvX5 : ∀ j, j < 9 → defaultValue (tyX5 j) = vp_V [.null, .null, .null, .int 0, .int 0, .int 0, .int 0, .int 0, .int 0] j := by decide
theorem clX7 : a_cl 5 RX7 TX7 1 tyX7 := by
  refine ⟨rfl, fun w hw => ?_, tyX7_ok, nmX7⟩
  obtain ⟨k, hk, rfl⟩ := List.mem_map.mp hw
  have hk := List.mem_range.mp hk
  match k, hk with
  | 0, _ => exact k_203
  | k + 1, hk => exact absurd hk (by omega)
theorem dvX7 : ∀ j, j < 1 → defaultValue (tyX7 j) = vp_V [.null] j := by decide
theorem clX8 : a_cl 6 RX8 TX8 6 tyX8 := by
  refine ⟨rfl, fun w hw => ?_, tyX8_ok, nmX8⟩
  obtain ⟨k, hk, rfl⟩ := List.mem_map.mp hw
  have hk := List.mem_range.mp hk
  match k, hk with
  | 0, _ => exact k_137
  | 1, _ => exact k_139
  | 2, _ => exact k_141
  | 3, _ => exact k_143
  | 4, _ => exact k_145
  | 5, _ => exact k_147
  | k + 6, hk => exact absurd hk (by omega)
theorem dvX8 : ∀ j, j < 6 → defaultValue (tyX8 j) = vp_V [.null, .null, .null, .null, .int 0, .int 0] j := by decide
theorem clX9 : a_cl 7 RX9 TX9 1 tyX9 := by
  refine ⟨rfl, fun w hw => ?_, tyX9_ok, nmX9⟩
  obtain ⟨k, hk, rfl⟩ := List.mem_map.mp hw
  have hk := List.mem_range.mp hk
  match k, hk with
  | 0, _ => exact k_260
  | k + 1, hk => exact absurd hk (by omega)
theorem dvX9 : ∀ j, j < 1 → defaultValue (tyX9 j) = vp_V [.null] j := by decide
theorem clX10 : a_cl 8 RX10 TX10 4 tyX10 := by
  refine ⟨rfl, fun w hw => ?_, tyX10_ok, nmX10⟩
  obtain ⟨k, hk, rfl⟩ := List.mem_map.mp hw
  have hk := List.mem_range.mp hk
  match k, hk with
  | 0, _ => exact k_214
  | 1, _ => exact k_216
  | 2, _ => exact k_218
  | 3, _ => exact k_220
  | k + 4, hk => exact absurd hk (by omega)
theorem dvX10 : ∀ j, j < 4 → defaultValue (tyX10 j) = vp_V [.null, .null, .null, .int 0] j := by decide
theorem clX11 : a_cl 9 RX11 TX11 40 tyX11 := by
  refine ⟨rfl, fun w hw => ?_, tyX11_ok, nmX11⟩
  obtain ⟨k, hk, rfl⟩ := List.mem_map.mp hw
  have hk := List.mem_range.mp hk
  match k, hk with
  | 0, _ => exact k_988
  | 1, _ => exact k_990
  | 2, _ => exact k_992
  | 3, _ => exact k_994
  | 4, _ => exact k_996
  | 5, _ => exact k_998
  | 6, _ => exact k_1000
  | 7, _ => exact k_1002
  | 8, _ => exact k_1004
  | 9, _ => exact k_1006
  | 10, _ => exact k_1008
  | 11, _ => exact k_1010
  | 12, _ => exact k_1012
  | 13, _ => exact k_1014
  | 14, _ => exact k_1016
  | 15, _ => exact k_1018
  | 16, _ => exact k_1020
  | 17, _ => exact k_1022
  | 18, _ => exact k_1024
  | 19, _ => exact k_1026
  | 20, _ => exact k_1028
  | 21, _ => exact k_1030
  | 22, _ => exact k_1032
  | 23, _ => exact k_1034
  | 24, _ => exact k_1036
  | 25, _ => exact k_1038
  | 26, _ => exact k_1040
  | 27, _ => exact k_1042
  | 28, _ => exact k_1044
  | 29, _ => exact k_1046
  | 30, _ => exact k_1048
  | 31, _ => exact k_1050
  | 32, _ => exact k_1052
  | 33, _ => exact k_1054
  | 34, _ => exact k_1056
  | 35, _ => exact k_1058
  | 36, _ => exact k_1060
  | 37, _ => exact k_1062
  | 38, _ => exact k_1064
  | 39, _ => exact k_1066
  | k + 40, hk => exact absurd hk (by omega)
theorem dvX11 : ∀ j, j < 40 → defaultValue (tyX11 j) = vp_V [.int 0, .int 0, .null, .null, .null, .null, .null, .null, .null, .int 0, .null, .null, .null, .null, .null, .null, .null, .int 0, .int 0, .int 0, .int 0, .int 0, .int 0, .null, .null, .null, .null, .int 0, .int 0, .null, .null, .null, .null, .null, .null, .null, .null, .null, .null, .null] j := by decide
def isO (h : aH) (a ci : Nat) (K : Prop) : Prop := ∃ fs : List Value, h.2 a = some (.inr (ci, fs)) ∧ K
def isN (h : aH) (a : Nat) (K : Nat → Prop) : Prop := ∃ (ci : Nat) (fs : List Value), ci < 4 ∧ h.2 a = some (.inr (ci, fs)) ∧ K ci
theorem a_cat (r : Option Nat) : (va_rf r).category = 1 := by cases r <;> rfl
theorem a_nQ {C : String} (r : Option Nat) : narrow (.object C) (va_rf r) = va_rf r := by cases r <;> rfl
theorem a_fQ {C : String} (r : Option Nat) : fits (.object C) (va_rf r) = true := by cases r <;> rfl
theorem aw_bud {l : Launch} {G : aG} {d c w c1 w1 : Nat} {M : aM} {Q : Option Value → aH → Prop} {pc : Nat} {lv : List (Nat × Value)} {st : List Value} {h : aH} (hc : c1 ≤ c) (hw : w1 ≤ w) (k : AW l G d c1 w1 M Q pc lv st h) : AW l G d c w M Q pc lv st h :=
  fun p e R s m args below meth cd H locs cells slots mc ms ls F S hl => k p e R s m args below meth cd H locs cells slots mc ms ls F ⟨Nat.le_trans (Nat.add_le_add_left hc _) S.1, Nat.le_trans (Nat.add_le_add_left hw _) S.2.1, S.2.2⟩ hl
theorem a_z0 (N : Nat) (cA : ClassId) : vp_cell cA (N, .inl (fun _ => 0)) = arrV cA N (fun _ => defaultValue (a_ty 0)) := by rw [vp_cell_i]; rfl
theorem a_z1 (N : Nat) (cA : ClassId) : vp_cell cA (N, .inr (.inl (fun _ => 0))) = arrV cA N (fun _ => defaultValue (a_ty 1)) := by rw [vp_cell_l]; rfl
theorem a_z2 (N : Nat) (cA : ClassId) : vp_cell cA (N, .inl (fun _ => 0)) = arrV cA N (fun _ => defaultValue (a_ty 2)) := by rw [vp_cell_i]; rfl
def mdone (ci : Nat) : aM := match ci with
  | 0 => mX0_done
  | 1 => mX1_done
  | 2 => mX2_done
  | _ => mX3_done
def mfindWays (ci : Nat) : aM := match ci with
  | 0 => mX0_findWays
  | 1 => mX1_findWays
  | 2 => mX2_findWays
  | _ => mX3_findWays
def mforget (ci : Nat) : aM := match ci with
  | 3 => mX3_forgetReport
  | _ => mX6_forgetReport
section AWN
variable {l : Launch} {G : aG} {d c w : Nat} {M : aM} {Q : Option Value → aH → Prop} {pc : Nat} {lv : List (Nat × Value)} {st : List Value} {h : aH}
theorem aw_getN {a ci k index : Nat} {fs : List Value} {v : Value} (hdg : decode M.2.1 pc = .ok (.getfield index, 3)) (hci : ci < 4) (hk : k < 5) (hw : Cond.fieldLink M.1.cls index "ThrowReports$Node" (TX0 k).2.1 (TX0 k).2.2.1 ∈ a_wt) (hf : h.2 a = some (.inr (ci, fs))) (hv : fs[k]? = some v) (kk : AW l G d c w M Q (pc + 3) lv (v :: st) h) : AW l G d c w M Q pc lv (.ref a :: st) h := by
  rcases (show ci = 0 ∨ ci = 1 ∨ ci = 2 ∨ ci = 3 by omega) with rfl | rfl | rfl | rfl <;> rcases (show k = 0 ∨ k = 1 ∨ k = 2 ∨ k = 3 ∨ k = 4 by omega) with rfl | rfl | rfl | rfl | rfl
  all_goals first | exact aw_getf hdg clX0 (by decide) hw (Or.inl rfl) hf hv kk | exact aw_getf hdg clX1 (by decide) hw (Or.inl rfl) hf hv kk | exact aw_getf hdg clX2 (by decide) hw (Or.inl rfl) hf hv kk | exact aw_getf hdg clX3 (by decide) hw (Or.inl rfl) hf hv kk
theorem aw_putN {a ci k index : Nat} {fs : List Value} {v : Value} (hdg : decode M.2.1 pc = .ok (.putfield index, 3)) (hci : ci < 4) (hk : k < 5) (hw : Cond.fieldLink M.1.cls index "ThrowReports$Node" (TX0 k).2.1 (TX0 k).2.2.1 ∈ a_wt) (hfin : (TX0 k).2.2.2 = false) (hn : narrow (tyX0 k) v = v) (hfit : fits (tyX0 k) v = true) (hf : h.2 a = some (.inr (ci, fs))) (hlen : k < fs.length) (kk : AW l G d c w M Q (pc + 3) lv st (a_up h a (.inr (ci, fs.set k v)))) : AW l G d c w M Q pc lv (v :: .ref a :: st) h := by
  rcases (show ci = 0 ∨ ci = 1 ∨ ci = 2 ∨ ci = 3 by omega) with rfl | rfl | rfl | rfl
  · rcases (show k = 0 ∨ k = 1 ∨ k = 2 ∨ k = 3 ∨ k = 4 by omega) with rfl | rfl | rfl | rfl | rfl
    · exact aw_putf (k := 0) hdg clX0 (by decide) hw (Or.inl rfl) hfin hn hfit hf hlen kk
    · exact aw_putf (k := 1) hdg clX0 (by decide) hw (Or.inl rfl) hfin hn hfit hf hlen kk
    · exact aw_putf (k := 2) hdg clX0 (by decide) hw (Or.inl rfl) hfin hn hfit hf hlen kk
    · exact aw_putf (k := 3) hdg clX0 (by decide) hw (Or.inl rfl) hfin hn hfit hf hlen kk
    · exact aw_putf (k := 4) hdg clX0 (by decide) hw (Or.inl rfl) hfin hn hfit hf hlen kk
  · rcases (show k = 0 ∨ k = 1 ∨ k = 2 ∨ k = 3 ∨ k = 4 by omega) with rfl | rfl | rfl | rfl | rfl
    · exact aw_putf (k := 0) hdg clX1 (by decide) hw (Or.inl rfl) hfin hn hfit hf hlen kk
    · exact aw_putf (k := 1) hdg clX1 (by decide) hw (Or.inl rfl) hfin hn hfit hf hlen kk
    · exact aw_putf (k := 2) hdg clX1 (by decide) hw (Or.inl rfl) hfin hn hfit hf hlen kk
    · exact aw_putf (k := 3) hdg clX1 (by decide) hw (Or.inl rfl) hfin hn hfit hf hlen kk
    · exact aw_putf (k := 4) hdg clX1 (by decide) hw (Or.inl rfl) hfin hn hfit hf hlen kk
  · rcases (show k = 0 ∨ k = 1 ∨ k = 2 ∨ k = 3 ∨ k = 4 by omega) with rfl | rfl | rfl | rfl | rfl
    · exact aw_putf (k := 0) hdg clX2 (by decide) hw (Or.inl rfl) hfin hn hfit hf hlen kk
    · exact aw_putf (k := 1) hdg clX2 (by decide) hw (Or.inl rfl) hfin hn hfit hf hlen kk
    · exact aw_putf (k := 2) hdg clX2 (by decide) hw (Or.inl rfl) hfin hn hfit hf hlen kk
    · exact aw_putf (k := 3) hdg clX2 (by decide) hw (Or.inl rfl) hfin hn hfit hf hlen kk
    · exact aw_putf (k := 4) hdg clX2 (by decide) hw (Or.inl rfl) hfin hn hfit hf hlen kk
  · rcases (show k = 0 ∨ k = 1 ∨ k = 2 ∨ k = 3 ∨ k = 4 by omega) with rfl | rfl | rfl | rfl | rfl
    · exact aw_putf (k := 0) hdg clX3 (by decide) hw (Or.inl rfl) hfin hn hfit hf hlen kk
    · exact aw_putf (k := 1) hdg clX3 (by decide) hw (Or.inl rfl) hfin hn hfit hf hlen kk
    · exact aw_putf (k := 2) hdg clX3 (by decide) hw (Or.inl rfl) hfin hn hfit hf hlen kk
    · exact aw_putf (k := 3) hdg clX3 (by decide) hw (Or.inl rfl) hfin hn hfit hf hlen kk
    · exact aw_putf (k := 4) hdg clX3 (by decide) hw (Or.inl rfl) hfin hn hfit hf hlen kk
theorem aw_putNF {a ci k index : Nat} {fs : List Value} {v : Value} (hdg : decode M.2.1 pc = .ok (.putfield index, 3)) (hci : ci < 4) (hk : k < 5) (hw : Cond.fieldLink M.1.cls index "ThrowReports$Node" (TX0 k).2.1 (TX0 k).2.2.1 ∈ a_wt) (hfin : (TX0 k).2.2.2 = true) (hi2 : M.1.name = "<init>") (hdecl : "ThrowReports$Node" = M.1.cls) (hn : narrow (tyX0 k) v = v) (hfit : fits (tyX0 k) v = true) (hf : h.2 a = some (.inr (ci, fs))) (hlen : k < fs.length) (kk : AW l G d c w M Q (pc + 3) lv st (a_up h a (.inr (ci, fs.set k v)))) : AW l G d c w M Q pc lv (v :: .ref a :: st) h := by
  rcases (show ci = 0 ∨ ci = 1 ∨ ci = 2 ∨ ci = 3 by omega) with rfl | rfl | rfl | rfl
  · rcases (show k = 0 ∨ k = 1 ∨ k = 2 ∨ k = 3 ∨ k = 4 by omega) with rfl | rfl | rfl | rfl | rfl
    · exact aw_putF (k := 0) hdg clX0 (by decide) hw (Or.inl rfl) hfin hi2 hdecl hn hfit hf hlen kk
    · exact aw_putF (k := 1) hdg clX0 (by decide) hw (Or.inl rfl) hfin hi2 hdecl hn hfit hf hlen kk
    · exact aw_putF (k := 2) hdg clX0 (by decide) hw (Or.inl rfl) hfin hi2 hdecl hn hfit hf hlen kk
    · exact aw_putF (k := 3) hdg clX0 (by decide) hw (Or.inl rfl) hfin hi2 hdecl hn hfit hf hlen kk
    · exact aw_putF (k := 4) hdg clX0 (by decide) hw (Or.inl rfl) hfin hi2 hdecl hn hfit hf hlen kk
  · rcases (show k = 0 ∨ k = 1 ∨ k = 2 ∨ k = 3 ∨ k = 4 by omega) with rfl | rfl | rfl | rfl | rfl
    · exact aw_putF (k := 0) hdg clX1 (by decide) hw (Or.inl rfl) hfin hi2 hdecl hn hfit hf hlen kk
    · exact aw_putF (k := 1) hdg clX1 (by decide) hw (Or.inl rfl) hfin hi2 hdecl hn hfit hf hlen kk
    · exact aw_putF (k := 2) hdg clX1 (by decide) hw (Or.inl rfl) hfin hi2 hdecl hn hfit hf hlen kk
    · exact aw_putF (k := 3) hdg clX1 (by decide) hw (Or.inl rfl) hfin hi2 hdecl hn hfit hf hlen kk
    · exact aw_putF (k := 4) hdg clX1 (by decide) hw (Or.inl rfl) hfin hi2 hdecl hn hfit hf hlen kk
  · rcases (show k = 0 ∨ k = 1 ∨ k = 2 ∨ k = 3 ∨ k = 4 by omega) with rfl | rfl | rfl | rfl | rfl
    · exact aw_putF (k := 0) hdg clX2 (by decide) hw (Or.inl rfl) hfin hi2 hdecl hn hfit hf hlen kk
    · exact aw_putF (k := 1) hdg clX2 (by decide) hw (Or.inl rfl) hfin hi2 hdecl hn hfit hf hlen kk
    · exact aw_putF (k := 2) hdg clX2 (by decide) hw (Or.inl rfl) hfin hi2 hdecl hn hfit hf hlen kk
    · exact aw_putF (k := 3) hdg clX2 (by decide) hw (Or.inl rfl) hfin hi2 hdecl hn hfit hf hlen kk
    · exact aw_putF (k := 4) hdg clX2 (by decide) hw (Or.inl rfl) hfin hi2 hdecl hn hfit hf hlen kk
  · rcases (show k = 0 ∨ k = 1 ∨ k = 2 ∨ k = 3 ∨ k = 4 by omega) with rfl | rfl | rfl | rfl | rfl
    · exact aw_putF (k := 0) hdg clX3 (by decide) hw (Or.inl rfl) hfin hi2 hdecl hn hfit hf hlen kk
    · exact aw_putF (k := 1) hdg clX3 (by decide) hw (Or.inl rfl) hfin hi2 hdecl hn hfit hf hlen kk
    · exact aw_putF (k := 2) hdg clX3 (by decide) hw (Or.inl rfl) hfin hi2 hdecl hn hfit hf hlen kk
    · exact aw_putF (k := 3) hdg clX3 (by decide) hw (Or.inl rfl) hfin hi2 hdecl hn hfit hf hlen kk
    · exact aw_putF (k := 4) hdg clX3 (by decide) hw (Or.inl rfl) hfin hi2 hdecl hn hfit hf hlen kk
theorem aw_aastNode {a n v ci : Nat} {u : Nat → Option Nat} {fs : List Value} {i : Int32} (hdg : decode M.2.1 pc = .ok (.aastore, 1)) (hf : h.2 a = some (.inl (3, n, .inr (.inr (.inr (.inr u)))))) (hv : h.2 v = some (.inr (ci, fs))) (hci : ci < 4) (hin : vp_in i n) (kk : AW l G d c w M Q (pc + 1) lv st (a_up h a (.inl (3, n, .inr (.inr (.inr (.inr (va_up u i.toNatClampNeg (some v))))))))) : AW l G d c w M Q pc lv (.ref v :: .int i :: .ref a :: st) h := by
  rcases (show ci = 0 ∨ ci = 1 ∨ ci = 2 ∨ ci = 3 by omega) with rfl | rfl | rfl | rfl
  all_goals exact aw_aast 3 (by decide) hdg rfl hf hv rfl (Or.inr (by decide +kernel)) hin kk
theorem aw_instG {index a ci : Nat} {fs : List Value} (hdg : decode M.2.1 pc = .ok (.instanceof index, 3)) (hL : Cond.classLink M.1.cls index "ThrowReports$Guard" ∈ a_wt) (hci : ci < 4) (hf : h.2 a = some (.inr (ci, fs))) (kk : AW l G d c w M Q (pc + 3) lv (.int (if ci = 3 then 1 else 0) :: st) h) : AW l G d c w M Q pc lv (.ref a :: st) h := by
  rcases (show ci = 0 ∨ ci = 1 ∨ ci = 2 ∨ ci = 3 by omega) with rfl | rfl | rfl | rfl
  · exact aw_instN hdg hL (by decide +kernel) rfl hf kk
  · exact aw_instN hdg hL (by decide +kernel) rfl hf kk
  · exact aw_instN hdg hL (by decide +kernel) rfl hf kk
  · exact aw_instY hdg hL (by decide +kernel) rfl hf kk
theorem aw_vdone {index a ci d1 c1 w1 : Nat} {b0 : Nat} {fs rest : List Value} {Q1 : Int32 → aH → Prop} (hdg : decode M.2.1 pc = .ok (.invokevirtual index, 3)) (hci : ci < 4) (hf : h.2 a = some (.inr (ci, fs))) (hC : AC l G d1 c1 w1 (mdone ci) (.ref a :: [.ref b0]) h (qI Q1)) (hL : Cond.methodLink M.1.cls index ({ cls := "ThrowReports$Node", name := "done", desc := "(LThrowReports$Machine;)I" } : MethodName) ∈ a_wt) (hd : d1 + 1 ≤ d) (hc : c1 ≤ c) (hw : w1 ≤ w) (he : st = ([.ref b0] : List Value).reverse ++ .ref a :: rest) (hr : (rest.map fun v => v.category).sum ≤ 8) (kk : ∀ (x1 : Int32) (h1 : aH), Q1 x1 h1 → AW l G d (c - c1) (w - w1) M Q (pc + 3) lv (.int x1 :: rest) h1) : AW l G d c w M Q pc lv st h := by
  rcases (show ci = 0 ∨ ci = 1 ∨ ci = 2 ∨ ci = 3 by omega) with rfl | rfl | rfl | rfl
  · exact aw_virtUI (N := mX0_done) (x := ({ cls := "ThrowReports$Node", name := "done", desc := "(LThrowReports$Machine;)I" } : MethodName)) hdg hC iX0_done rfl hL k_457 (by decide) rfl (Or.inl (by decide +kernel)) k_459 k_458 rfl hf hd hc hw he hr kk
  · exact aw_virtUI (N := mX1_done) (x := ({ cls := "ThrowReports$Node", name := "done", desc := "(LThrowReports$Machine;)I" } : MethodName)) hdg hC iX1_done rfl hL k_457 (by decide) rfl (Or.inl (by decide +kernel)) k_631 k_630 rfl hf hd hc hw he hr kk
  · exact aw_virtUI (N := mX2_done) (x := ({ cls := "ThrowReports$Node", name := "done", desc := "(LThrowReports$Machine;)I" } : MethodName)) hdg hC iX2_done rfl hL k_457 (by decide) rfl (Or.inl (by decide +kernel)) k_634 k_645 rfl hf hd hc hw he hr kk
  · exact aw_virtUI (N := mX3_done) (x := ({ cls := "ThrowReports$Node", name := "done", desc := "(LThrowReports$Machine;)I" } : MethodName)) hdg hC iX3_done rfl hL k_457 (by decide) rfl (Or.inl (by decide +kernel)) k_638 k_646 rfl hf hd hc hw he hr kk
theorem aw_vfind {index a ci d1 c1 w1 : Nat} {b0 : Nat} {fs rest : List Value} {Q1 : aH → Prop} (hdg : decode M.2.1 pc = .ok (.invokevirtual index, 3)) (hci : ci < 4) (hf : h.2 a = some (.inr (ci, fs))) (hC : AC l G d1 c1 w1 (mfindWays ci) (.ref a :: [.ref b0]) h (qV Q1)) (hL : Cond.methodLink M.1.cls index ({ cls := "ThrowReports$Node", name := "findWays", desc := "(LThrowReports$State;)V" } : MethodName) ∈ a_wt) (hd : d1 + 1 ≤ d) (hc : c1 ≤ c) (hw : w1 ≤ w) (he : st = ([.ref b0] : List Value).reverse ++ .ref a :: rest) (hr : (rest.map fun v => v.category).sum ≤ 8) (kk : ∀ (h1 : aH), Q1 h1 → AW l G d (c - c1) (w - w1) M Q (pc + 3) lv rest h1) : AW l G d c w M Q pc lv st h := by
  rcases (show ci = 0 ∨ ci = 1 ∨ ci = 2 ∨ ci = 3 by omega) with rfl | rfl | rfl | rfl
  · exact aw_virtUV (N := mX0_findWays) (x := ({ cls := "ThrowReports$Node", name := "findWays", desc := "(LThrowReports$State;)V" } : MethodName)) hdg hC iX0_findWays rfl hL k_757 (by decide) rfl (Or.inl (by decide +kernel)) k_759 k_758 rfl hf hd hc hw he hr kk
  · exact aw_virtUV (N := mX1_findWays) (x := ({ cls := "ThrowReports$Node", name := "findWays", desc := "(LThrowReports$State;)V" } : MethodName)) hdg hC iX1_findWays rfl hL k_757 (by decide) rfl (Or.inl (by decide +kernel)) k_856 k_855 rfl hf hd hc hw he hr kk
  · exact aw_virtUV (N := mX2_findWays) (x := ({ cls := "ThrowReports$Node", name := "findWays", desc := "(LThrowReports$State;)V" } : MethodName)) hdg hC iX2_findWays rfl hL k_757 (by decide) rfl (Or.inl (by decide +kernel)) k_873 k_872 rfl hf hd hc hw he hr kk
  · exact aw_virtUV (N := mX3_findWays) (x := ({ cls := "ThrowReports$Node", name := "findWays", desc := "(LThrowReports$State;)V" } : MethodName)) hdg hC iX3_findWays rfl hL k_757 (by decide) rfl (Or.inl (by decide +kernel)) k_886 k_885 rfl hf hd hc hw he hr kk
theorem aw_vgoThrough {index a ci d1 c1 w1 : Nat} {b0 : Nat} {fs rest : List Value} {Q1 : aH → Prop} (hdg : decode M.2.1 pc = .ok (.invokevirtual index, 3)) (hci : ci < 4) (hf : h.2 a = some (.inr (ci, fs))) (hC : AC l G d1 c1 w1 mX6_goThrough (.ref a :: [.ref b0]) h (qV Q1)) (hL : Cond.methodLink M.1.cls index ({ cls := "ThrowReports$Node", name := "goThrough", desc := "(LThrowReports$State;)V" } : MethodName) ∈ a_wt) (hd : d1 + 1 ≤ d) (hc : c1 ≤ c) (hw : w1 ≤ w) (he : st = ([.ref b0] : List Value).reverse ++ .ref a :: rest) (hr : (rest.map fun v => v.category).sum ≤ 8) (kk : ∀ (h1 : aH), Q1 h1 → AW l G d (c - c1) (w - w1) M Q (pc + 3) lv rest h1) : AW l G d c w M Q pc lv st h := by
  rcases (show ci = 0 ∨ ci = 1 ∨ ci = 2 ∨ ci = 3 by omega) with rfl | rfl | rfl | rfl
  · exact aw_virtUV (N := mX6_goThrough) (x := ({ cls := "ThrowReports$Node", name := "goThrough", desc := "(LThrowReports$State;)V" } : MethodName)) hdg hC iX6_goThrough rfl hL k_736 (by decide) rfl (Or.inr ⟨k_735, _, _, _, k_741⟩) k_735 k_737 rfl hf hd hc hw he hr kk
  · exact aw_virtUV (N := mX6_goThrough) (x := ({ cls := "ThrowReports$Node", name := "goThrough", desc := "(LThrowReports$State;)V" } : MethodName)) hdg hC iX6_goThrough rfl hL k_736 (by decide) rfl (Or.inr ⟨k_735, _, _, _, k_741⟩) k_735 k_738 rfl hf hd hc hw he hr kk
  · exact aw_virtUV (N := mX6_goThrough) (x := ({ cls := "ThrowReports$Node", name := "goThrough", desc := "(LThrowReports$State;)V" } : MethodName)) hdg hC iX6_goThrough rfl hL k_736 (by decide) rfl (Or.inr ⟨k_735, _, _, _, k_741⟩) k_735 k_739 rfl hf hd hc hw he hr kk
  · exact aw_virtUV (N := mX6_goThrough) (x := ({ cls := "ThrowReports$Node", name := "goThrough", desc := "(LThrowReports$State;)V" } : MethodName)) hdg hC iX6_goThrough rfl hL k_736 (by decide) rfl (Or.inr ⟨k_735, _, _, _, k_741⟩) k_735 k_740 rfl hf hd hc hw he hr kk
theorem aw_visReached {index a ci d1 c1 w1 : Nat} {fs rest : List Value} {Q1 : Int32 → aH → Prop} (hdg : decode M.2.1 pc = .ok (.invokevirtual index, 3)) (hci : ci < 4) (hf : h.2 a = some (.inr (ci, fs))) (hC : AC l G d1 c1 w1 mX6_isReached (.ref a :: []) h (qI Q1)) (hL : Cond.methodLink M.1.cls index ({ cls := "ThrowReports$Node", name := "isReached", desc := "()Z" } : MethodName) ∈ a_wt) (hd : d1 + 1 ≤ d) (hc : c1 ≤ c) (hw : w1 ≤ w) (he : st = ([] : List Value).reverse ++ .ref a :: rest) (hr : (rest.map fun v => v.category).sum ≤ 8) (kk : ∀ (x1 : Int32) (h1 : aH), Q1 x1 h1 → AW l G d (c - c1) (w - w1) M Q (pc + 3) lv (.int x1 :: rest) h1) : AW l G d c w M Q pc lv st h := by
  rcases (show ci = 0 ∨ ci = 1 ∨ ci = 2 ∨ ci = 3 by omega) with rfl | rfl | rfl | rfl
  · exact aw_virtUI (N := mX6_isReached) (x := ({ cls := "ThrowReports$Node", name := "isReached", desc := "()Z" } : MethodName)) hdg hC iX6_isReached rfl hL k_915 (by decide) rfl (Or.inr ⟨k_914, _, _, _, k_920⟩) k_914 k_916 rfl hf hd hc hw he hr kk
  · exact aw_virtUI (N := mX6_isReached) (x := ({ cls := "ThrowReports$Node", name := "isReached", desc := "()Z" } : MethodName)) hdg hC iX6_isReached rfl hL k_915 (by decide) rfl (Or.inr ⟨k_914, _, _, _, k_920⟩) k_914 k_917 rfl hf hd hc hw he hr kk
  · exact aw_virtUI (N := mX6_isReached) (x := ({ cls := "ThrowReports$Node", name := "isReached", desc := "()Z" } : MethodName)) hdg hC iX6_isReached rfl hL k_915 (by decide) rfl (Or.inr ⟨k_914, _, _, _, k_920⟩) k_914 k_918 rfl hf hd hc hw he hr kk
  · exact aw_virtUI (N := mX6_isReached) (x := ({ cls := "ThrowReports$Node", name := "isReached", desc := "()Z" } : MethodName)) hdg hC iX6_isReached rfl hL k_915 (by decide) rfl (Or.inr ⟨k_914, _, _, _, k_920⟩) k_914 k_919 rfl hf hd hc hw he hr kk
theorem aw_vforget {index a ci d1 c1 w1 : Nat} {fs rest : List Value} {Q1 : aH → Prop} (hdg : decode M.2.1 pc = .ok (.invokevirtual index, 3)) (hci : ci < 4) (hf : h.2 a = some (.inr (ci, fs))) (hC : AC l G d1 c1 w1 (mforget ci) (.ref a :: []) h (qV Q1)) (hL : Cond.methodLink M.1.cls index ({ cls := "ThrowReports$Node", name := "forgetReport", desc := "()V" } : MethodName) ∈ a_wt) (hd : d1 + 1 ≤ d) (hc : c1 ≤ c) (hw : w1 ≤ w) (he : st = ([] : List Value).reverse ++ .ref a :: rest) (hr : (rest.map fun v => v.category).sum ≤ 8) (kk : ∀ (h1 : aH), Q1 h1 → AW l G d (c - c1) (w - w1) M Q (pc + 3) lv rest h1) : AW l G d c w M Q pc lv st h := by
  rcases (show ci = 0 ∨ ci = 1 ∨ ci = 2 ∨ ci = 3 by omega) with rfl | rfl | rfl | rfl
  · exact aw_virtUV (N := mX6_forgetReport) (x := ({ cls := "ThrowReports$Node", name := "forgetReport", desc := "()V" } : MethodName)) hdg hC iX6_forgetReport rfl hL k_720 (by decide) rfl (Or.inr ⟨k_719, _, _, _, k_728⟩) k_719 k_721 rfl hf hd hc hw he hr kk
  · exact aw_virtUV (N := mX6_forgetReport) (x := ({ cls := "ThrowReports$Node", name := "forgetReport", desc := "()V" } : MethodName)) hdg hC iX6_forgetReport rfl hL k_720 (by decide) rfl (Or.inr ⟨k_719, _, _, _, k_728⟩) k_719 k_722 rfl hf hd hc hw he hr kk
  · exact aw_virtUV (N := mX6_forgetReport) (x := ({ cls := "ThrowReports$Node", name := "forgetReport", desc := "()V" } : MethodName)) hdg hC iX6_forgetReport rfl hL k_720 (by decide) rfl (Or.inr ⟨k_719, _, _, _, k_728⟩) k_719 k_723 rfl hf hd hc hw he hr kk
  · exact aw_virtUV (N := mX3_forgetReport) (x := ({ cls := "ThrowReports$Node", name := "forgetReport", desc := "()V" } : MethodName)) hdg hC iX3_forgetReport rfl hL k_720 (by decide) rfl (Or.inr ⟨k_719, _, _, _, k_728⟩) k_725 k_724 rfl hf hd hc hw he hr kk
end AWN
