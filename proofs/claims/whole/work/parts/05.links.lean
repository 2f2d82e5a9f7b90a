/-! LINKS by their places in the tables -/
theorem mw_X3_init : MW yX3_init cX3_init 1 none 0 := ⟨(wa1 (List.mem_of_getElem? (i := 12) rfl) rfl), (wa1 (List.mem_of_getElem? (i := 1) (by decide +kernel)) rfl), by decide +kernel, by decide +kernel, by decide +kernel⟩
theorem mw_X3_addReel : MW yX3_addReel cX3_addReel 4 (some .int) 3 := ⟨(wa1 (List.mem_of_getElem? (i := 197) rfl) rfl), (wa1 (List.mem_of_getElem? (i := 1) (by decide +kernel)) rfl), by decide +kernel, by decide +kernel, by decide +kernel⟩
theorem mw_X3_removeReels : MW yX3_removeReels cX3_removeReels 3 (some .int) 1 := ⟨(wa1 (List.mem_of_getElem? (i := 223) rfl) rfl), (wa1 (List.mem_of_getElem? (i := 1) (by decide +kernel)) rfl), by decide +kernel, by decide +kernel, by decide +kernel⟩
theorem mw_X3_setHome : MW yX3_setHome cX3_setHome 4 (some .int) 2 := ⟨(wa1 (List.mem_of_getElem? (i := 231) rfl) rfl), (wa1 (List.mem_of_getElem? (i := 1) (by decide +kernel)) rfl), by decide +kernel, by decide +kernel, by decide +kernel⟩
theorem mw_X3_filmLength : MW yX3_filmLength cX3_filmLength 2 (some .int) 1 := ⟨(wa1 (List.mem_of_getElem? (i := 235) rfl) rfl), (wa1 (List.mem_of_getElem? (i := 1) (by decide +kernel)) rfl), by decide +kernel, by decide +kernel, by decide +kernel⟩
theorem mw_X3_addMachine : MW yX3_addMachine cX3_addMachine 2 (some .int) 1 := ⟨(wa2 (List.mem_of_getElem? (i := 3) rfl) rfl), (wa1 (List.mem_of_getElem? (i := 1) (by decide +kernel)) rfl), by decide +kernel, by decide +kernel, by decide +kernel⟩
theorem mw_X3_removeMachine : MW yX3_removeMachine cX3_removeMachine 2 (some .int) 1 := ⟨(wa2 (List.mem_of_getElem? (i := 11) rfl) rfl), (wa1 (List.mem_of_getElem? (i := 1) (by decide +kernel)) rfl), by decide +kernel, by decide +kernel, by decide +kernel⟩
theorem mw_X3_houseOf : MW yX3_houseOf cX3_houseOf 2 (some .int) 1 := ⟨(wa2 (List.mem_of_getElem? (i := 23) rfl) rfl), (wa1 (List.mem_of_getElem? (i := 1) (by decide +kernel)) rfl), by decide +kernel, by decide +kernel, by decide +kernel⟩
theorem mw_X3_setCarriers : MW yX3_setCarriers cX3_setCarriers 3 (some .int) 1 := ⟨(wa2 (List.mem_of_getElem? (i := 27) rfl) rfl), (wa1 (List.mem_of_getElem? (i := 1) (by decide +kernel)) rfl), by decide +kernel, by decide +kernel, by decide +kernel⟩
theorem mw_X3_setDuration : MW yX3_setDuration cX3_setDuration 4 (some .int) 2 := ⟨(wa2 (List.mem_of_getElem? (i := 31) rfl) rfl), (wa1 (List.mem_of_getElem? (i := 1) (by decide +kernel)) rfl), by decide +kernel, by decide +kernel, by decide +kernel⟩
theorem mw_X3_addShow : MW yX3_addShow cX3_addShow 4 (some .int) 3 := ⟨(wa2 (List.mem_of_getElem? (i := 39) rfl) rfl), (wa1 (List.mem_of_getElem? (i := 1) (by decide +kernel)) rfl), by decide +kernel, by decide +kernel, by decide +kernel⟩
theorem mw_X3_removeShow : MW yX3_removeShow cX3_removeShow 2 (some .int) 1 := ⟨(wa2 (List.mem_of_getElem? (i := 47) rfl) rfl), (wa1 (List.mem_of_getElem? (i := 1) (by decide +kernel)) rfl), by decide +kernel, by decide +kernel, by decide +kernel⟩
theorem mw_X3_moveShow : MW yX3_moveShow cX3_moveShow 4 (some .int) 2 := ⟨(wa2 (List.mem_of_getElem? (i := 63) rfl) rfl), (wa1 (List.mem_of_getElem? (i := 1) (by decide +kernel)) rfl), by decide +kernel, by decide +kernel, by decide +kernel⟩
theorem mw_X3_addBreak : MW yX3_addBreak cX3_addBreak 4 (some .int) 3 := ⟨(wa2 (List.mem_of_getElem? (i := 67) rfl) rfl), (wa1 (List.mem_of_getElem? (i := 1) (by decide +kernel)) rfl), by decide +kernel, by decide +kernel, by decide +kernel⟩
theorem mw_X3_clearBreaks : MW yX3_clearBreaks cX3_clearBreaks 2 (some .int) 0 := ⟨(wa2 (List.mem_of_getElem? (i := 79) rfl) rfl), (wa1 (List.mem_of_getElem? (i := 1) (by decide +kernel)) rfl), by decide +kernel, by decide +kernel, by decide +kernel⟩
theorem mw_X3_startOf : MW yX3_startOf cX3_startOf 3 (some .int) 2 := ⟨(wa2 (List.mem_of_getElem? (i := 83) rfl) rfl), (wa1 (List.mem_of_getElem? (i := 1) (by decide +kernel)) rfl), by decide +kernel, by decide +kernel, by decide +kernel⟩
theorem mw_X3_machineOf : MW yX3_machineOf cX3_machineOf 3 (some .int) 2 := ⟨(wa2 (List.mem_of_getElem? (i := 144) rfl) rfl), (wa1 (List.mem_of_getElem? (i := 1) (by decide +kernel)) rfl), by decide +kernel, by decide +kernel, by decide +kernel⟩
theorem mw_X3_endOf : MW yX3_endOf cX3_endOf 2 (some .int) 1 := ⟨(wa2 (List.mem_of_getElem? (i := 148) rfl) rfl), (wa1 (List.mem_of_getElem? (i := 1) (by decide +kernel)) rfl), by decide +kernel, by decide +kernel, by decide +kernel⟩
theorem mw_X3_delayOf : MW yX3_delayOf cX3_delayOf 2 (some .int) 1 := ⟨(wa2 (List.mem_of_getElem? (i := 152) rfl) rfl), (wa1 (List.mem_of_getElem? (i := 1) (by decide +kernel)) rfl), by decide +kernel, by decide +kernel, by decide +kernel⟩
theorem mw_X3_gapOf : MW yX3_gapOf cX3_gapOf 2 (some .int) 1 := ⟨(wa2 (List.mem_of_getElem? (i := 156) rfl) rfl), (wa1 (List.mem_of_getElem? (i := 1) (by decide +kernel)) rfl), by decide +kernel, by decide +kernel, by decide +kernel⟩
theorem mw_X3_loss : MW yX3_loss cX3_loss 1 (some .int) 0 := ⟨(wa2 (List.mem_of_getElem? (i := 160) rfl) rfl), (wa1 (List.mem_of_getElem? (i := 1) (by decide +kernel)) rfl), by decide +kernel, by decide +kernel, by decide +kernel⟩
theorem mw_X3_carriedReels : MW yX3_carriedReels cX3_carriedReels 1 (some .int) 0 := ⟨(wa2 (List.mem_of_getElem? (i := 169) rfl) rfl), (wa1 (List.mem_of_getElem? (i := 1) (by decide +kernel)) rfl), by decide +kernel, by decide +kernel, by decide +kernel⟩
theorem mw_X3_plateChanges : MW yX3_plateChanges cX3_plateChanges 1 (some .int) 0 := ⟨(wa2 (List.mem_of_getElem? (i := 173) rfl) rfl), (wa1 (List.mem_of_getElem? (i := 1) (by decide +kernel)) rfl), by decide +kernel, by decide +kernel, by decide +kernel⟩
theorem mw_X3_machineTime : MW yX3_machineTime cX3_machineTime 2 (some .int) 1 := ⟨(wa2 (List.mem_of_getElem? (i := 177) rfl) rfl), (wa1 (List.mem_of_getElem? (i := 1) (by decide +kernel)) rfl), by decide +kernel, by decide +kernel, by decide +kernel⟩
theorem mw_X3_leastShift : MW yX3_leastShift cX3_leastShift 4 (some .int) 1 := ⟨(wa2 (List.mem_of_getElem? (i := 181) rfl) rfl), (wa1 (List.mem_of_getElem? (i := 1) (by decide +kernel)) rfl), by decide +kernel, by decide +kernel, by decide +kernel⟩
theorem mw_X3_removalGain : MW yX3_removalGain cX3_removalGain 2 (some .int) 1 := ⟨(wa2 (List.mem_of_getElem? (i := 193) rfl) rfl), (wa1 (List.mem_of_getElem? (i := 1) (by decide +kernel)) rfl), by decide +kernel, by decide +kernel, by decide +kernel⟩
theorem mw_X3_bestHomes : MW yX3_bestHomes cX3_bestHomes 5 (some .int) 0 := ⟨(wa2 (List.mem_of_getElem? (i := 198) rfl) rfl), (wa1 (List.mem_of_getElem? (i := 1) (by decide +kernel)) rfl), by decide +kernel, by decide +kernel, by decide +kernel⟩
theorem mw_X3_missingMachines : MW yX3_missingMachines cX3_missingMachines 4 (some .int) 1 := ⟨(wa2 (List.mem_of_getElem? (i := 206) rfl) rfl), (wa1 (List.mem_of_getElem? (i := 1) (by decide +kernel)) rfl), by decide +kernel, by decide +kernel, by decide +kernel⟩
theorem mw_X3_undo : MW yX3_undo cX3_undo 1 (some .int) 0 := ⟨(wa2 (List.mem_of_getElem? (i := 210) rfl) rfl), (wa1 (List.mem_of_getElem? (i := 1) (by decide +kernel)) rfl), by decide +kernel, by decide +kernel, by decide +kernel⟩
theorem mw_X3_isIn : MW yX3_isIn cX3_isIn 3 (some .boolean) 3 := ⟨(wa1 (List.mem_of_getElem? (i := 200) rfl) rfl), (wa1 (List.mem_of_getElem? (i := 1) (by decide +kernel)) rfl), by decide +kernel, by decide +kernel, by decide +kernel⟩
theorem mw_X3_isMachine : MW yX3_isMachine cX3_isMachine 2 (some .boolean) 1 := ⟨(wa2 (List.mem_of_getElem? (i := 15) rfl) rfl), (wa1 (List.mem_of_getElem? (i := 1) (by decide +kernel)) rfl), by decide +kernel, by decide +kernel, by decide +kernel⟩
theorem mw_X3_isShow : MW yX3_isShow cX3_isShow 2 (some .boolean) 1 := ⟨(wa2 (List.mem_of_getElem? (i := 51) rfl) rfl), (wa1 (List.mem_of_getElem? (i := 1) (by decide +kernel)) rfl), by decide +kernel, by decide +kernel, by decide +kernel⟩
theorem mw_X3_isReelOfShow : MW yX3_isReelOfShow cX3_isReelOfShow 3 (some .boolean) 2 := ⟨(wa2 (List.mem_of_getElem? (i := 71) rfl) rfl), (wa1 (List.mem_of_getElem? (i := 1) (by decide +kernel)) rfl), by decide +kernel, by decide +kernel, by decide +kernel⟩
theorem mw_X3_reelPlace : MW yX3_reelPlace cX3_reelPlace 2 (some .int) 2 := ⟨(wa1 (List.mem_of_getElem? (i := 219) rfl) rfl), (wa1 (List.mem_of_getElem? (i := 1) (by decide +kernel)) rfl), by decide +kernel, by decide +kernel, by decide +kernel⟩
theorem mw_X4_init : MW yX4_init cX4_init 1 none 0 := ⟨(wa2 (List.mem_of_getElem? (i := 219) rfl) rfl), (wa1 (List.mem_of_getElem? (i := 6) (by decide +kernel)) rfl), by decide +kernel, by decide +kernel, by decide +kernel⟩
theorem mw_X4_in : MW yX4_in cX4_in 6 (some .boolean) 3 := ⟨(wa3 (List.mem_of_getElem? (i := 50) rfl) rfl), (wa1 (List.mem_of_getElem? (i := 6) (by decide +kernel)) rfl), by decide +kernel, by decide +kernel, by decide +kernel⟩
theorem mw_X4_keeps : MW yX4_keeps cX4_keeps 2 none 0 := ⟨(wa3 (List.mem_of_getElem? (i := 56) rfl) rfl), (wa1 (List.mem_of_getElem? (i := 6) (by decide +kernel)) rfl), by decide +kernel, by decide +kernel, by decide +kernel⟩
theorem mw_X4_undo : MW yX4_undo cX4_undo 2 (some .int) 0 := ⟨(wa3 (List.mem_of_getElem? (i := 39) rfl) rfl), (wa1 (List.mem_of_getElem? (i := 6) (by decide +kernel)) rfl), by decide +kernel, by decide +kernel, by decide +kernel⟩
theorem mw_X4_isFilm : MW yX4_isFilm cX4_isFilm 1 (some .boolean) 1 := ⟨(wa3 (List.mem_of_getElem? (i := 46) rfl) rfl), (wa1 (List.mem_of_getElem? (i := 6) (by decide +kernel)) rfl), by decide +kernel, by decide +kernel, by decide +kernel⟩
theorem mw_X4_isHouse : MW yX4_isHouse cX4_isHouse 1 (some .boolean) 1 := ⟨(wa3 (List.mem_of_getElem? (i := 67) rfl) rfl), (wa1 (List.mem_of_getElem? (i := 6) (by decide +kernel)) rfl), by decide +kernel, by decide +kernel, by decide +kernel⟩
theorem mw_X4_isMachine : MW yX4_isMachine cX4_isMachine 2 (some .boolean) 1 := ⟨(wa3 (List.mem_of_getElem? (i := 83) rfl) rfl), (wa1 (List.mem_of_getElem? (i := 6) (by decide +kernel)) rfl), by decide +kernel, by decide +kernel, by decide +kernel⟩
theorem mw_X4_isShow : MW yX4_isShow cX4_isShow 2 (some .boolean) 1 := ⟨(wa3 (List.mem_of_getElem? (i := 113) rfl) rfl), (wa1 (List.mem_of_getElem? (i := 6) (by decide +kernel)) rfl), by decide +kernel, by decide +kernel, by decide +kernel⟩
theorem mw_X4_isStart : MW yX4_isStart cX4_isStart 1 (some .boolean) 1 := ⟨(wa3 (List.mem_of_getElem? (i := 104) rfl) rfl), (wa1 (List.mem_of_getElem? (i := 6) (by decide +kernel)) rfl), by decide +kernel, by decide +kernel, by decide +kernel⟩
theorem mw_X4_addReel : MW yX4_addReel cX4_addReel 5 (some .int) 3 := ⟨(wa3 (List.mem_of_getElem? (i := 43) rfl) rfl), (wa1 (List.mem_of_getElem? (i := 6) (by decide +kernel)) rfl), by decide +kernel, by decide +kernel, by decide +kernel⟩
theorem mw_X4_removeReels : MW yX4_removeReels cX4_removeReels 3 (some .int) 1 := ⟨(wa3 (List.mem_of_getElem? (i := 60) rfl) rfl), (wa1 (List.mem_of_getElem? (i := 6) (by decide +kernel)) rfl), by decide +kernel, by decide +kernel, by decide +kernel⟩
theorem mw_X4_setHome : MW yX4_setHome cX4_setHome 4 (some .int) 2 := ⟨(wa3 (List.mem_of_getElem? (i := 64) rfl) rfl), (wa1 (List.mem_of_getElem? (i := 6) (by decide +kernel)) rfl), by decide +kernel, by decide +kernel, by decide +kernel⟩
theorem mw_X4_filmLength : MW yX4_filmLength cX4_filmLength 4 (some .int) 1 := ⟨(wa3 (List.mem_of_getElem? (i := 71) rfl) rfl), (wa1 (List.mem_of_getElem? (i := 6) (by decide +kernel)) rfl), by decide +kernel, by decide +kernel, by decide +kernel⟩
theorem mw_X4_addMachine : MW yX4_addMachine cX4_addMachine 2 (some .int) 1 := ⟨(wa3 (List.mem_of_getElem? (i := 75) rfl) rfl), (wa1 (List.mem_of_getElem? (i := 6) (by decide +kernel)) rfl), by decide +kernel, by decide +kernel, by decide +kernel⟩
theorem mw_X4_removeMachine : MW yX4_removeMachine cX4_removeMachine 3 (some .int) 1 := ⟨(wa3 (List.mem_of_getElem? (i := 79) rfl) rfl), (wa1 (List.mem_of_getElem? (i := 6) (by decide +kernel)) rfl), by decide +kernel, by decide +kernel, by decide +kernel⟩
theorem mw_X4_houseOf : MW yX4_houseOf cX4_houseOf 2 (some .int) 1 := ⟨(wa3 (List.mem_of_getElem? (i := 87) rfl) rfl), (wa1 (List.mem_of_getElem? (i := 6) (by decide +kernel)) rfl), by decide +kernel, by decide +kernel, by decide +kernel⟩
theorem mw_X4_setCarriers : MW yX4_setCarriers cX4_setCarriers 3 (some .int) 1 := ⟨(wa3 (List.mem_of_getElem? (i := 91) rfl) rfl), (wa1 (List.mem_of_getElem? (i := 6) (by decide +kernel)) rfl), by decide +kernel, by decide +kernel, by decide +kernel⟩
theorem mw_X4_setDuration : MW yX4_setDuration cX4_setDuration 4 (some .int) 2 := ⟨(wa3 (List.mem_of_getElem? (i := 95) rfl) rfl), (wa1 (List.mem_of_getElem? (i := 6) (by decide +kernel)) rfl), by decide +kernel, by decide +kernel, by decide +kernel⟩
theorem mw_X4_addShow : MW yX4_addShow cX4_addShow 5 (some .int) 3 := ⟨(wa3 (List.mem_of_getElem? (i := 101) rfl) rfl), (wa1 (List.mem_of_getElem? (i := 6) (by decide +kernel)) rfl), by decide +kernel, by decide +kernel, by decide +kernel⟩
theorem mw_X4_goes : MW yX4_goes cX4_goes 5 none 1 := ⟨(wa3 (List.mem_of_getElem? (i := 117) rfl) rfl), (wa1 (List.mem_of_getElem? (i := 6) (by decide +kernel)) rfl), by decide +kernel, by decide +kernel, by decide +kernel⟩
theorem mw_X4_removeShow : MW yX4_removeShow cX4_removeShow 2 (some .int) 1 := ⟨(wa3 (List.mem_of_getElem? (i := 109) rfl) rfl), (wa1 (List.mem_of_getElem? (i := 6) (by decide +kernel)) rfl), by decide +kernel, by decide +kernel, by decide +kernel⟩
theorem mw_X4_moveShow : MW yX4_moveShow cX4_moveShow 4 (some .int) 2 := ⟨(wa3 (List.mem_of_getElem? (i := 121) rfl) rfl), (wa1 (List.mem_of_getElem? (i := 6) (by decide +kernel)) rfl), by decide +kernel, by decide +kernel, by decide +kernel⟩
theorem mw_X4_isReel : MW yX4_isReel cX4_isReel 3 (some .boolean) 2 := ⟨(wa3 (List.mem_of_getElem? (i := 129) rfl) rfl), (wa1 (List.mem_of_getElem? (i := 6) (by decide +kernel)) rfl), by decide +kernel, by decide +kernel, by decide +kernel⟩
theorem mw_X4_addBreak : MW yX4_addBreak cX4_addBreak 4 (some .int) 3 := ⟨(wa3 (List.mem_of_getElem? (i := 125) rfl) rfl), (wa1 (List.mem_of_getElem? (i := 6) (by decide +kernel)) rfl), by decide +kernel, by decide +kernel, by decide +kernel⟩
theorem mw_X4_clearBreaks : MW yX4_clearBreaks cX4_clearBreaks 2 (some .int) 0 := ⟨(wa3 (List.mem_of_getElem? (i := 134) rfl) rfl), (wa1 (List.mem_of_getElem? (i := 6) (by decide +kernel)) rfl), by decide +kernel, by decide +kernel, by decide +kernel⟩
theorem mw_X4_arrives : MW yX4_arrives cX4_arrives 7 (some .int) 2 := ⟨(wa3 (List.mem_of_getElem? (i := 154) rfl) rfl), (wa1 (List.mem_of_getElem? (i := 6) (by decide +kernel)) rfl), by decide +kernel, by decide +kernel, by decide +kernel⟩
theorem mw_X4_hasPlate : MW yX4_hasPlate cX4_hasPlate 3 (some .boolean) 2 := ⟨(wa3 (List.mem_of_getElem? (i := 162) rfl) rfl), (wa1 (List.mem_of_getElem? (i := 6) (by decide +kernel)) rfl), by decide +kernel, by decide +kernel, by decide +kernel⟩
theorem mw_X4_startBy : MW yX4_startBy cX4_startBy 6 (some .int) 4 := ⟨(wa3 (List.mem_of_getElem? (i := 158) rfl) rfl), (wa1 (List.mem_of_getElem? (i := 6) (by decide +kernel)) rfl), by decide +kernel, by decide +kernel, by decide +kernel⟩
theorem mw_X4_repairs : MW yX4_repairs cX4_repairs 5 (some .int) 2 := ⟨(wa3 (List.mem_of_getElem? (i := 166) rfl) rfl), (wa1 (List.mem_of_getElem? (i := 6) (by decide +kernel)) rfl), by decide +kernel, by decide +kernel, by decide +kernel⟩
theorem mw_X4_runs : MW yX4_runs cX4_runs 11 (some .int) 3 := ⟨(wa3 (List.mem_of_getElem? (i := 150) rfl) rfl), (wa1 (List.mem_of_getElem? (i := 6) (by decide +kernel)) rfl), by decide +kernel, by decide +kernel, by decide +kernel⟩
theorem mw_X4_plansShow : MW yX4_plansShow cX4_plansShow 5 none 1 := ⟨(wa3 (List.mem_of_getElem? (i := 146) rfl) rfl), (wa1 (List.mem_of_getElem? (i := 6) (by decide +kernel)) rfl), by decide +kernel, by decide +kernel, by decide +kernel⟩
theorem mw_X4_plans : MW yX4_plans cX4_plans 7 (some .int) 0 := ⟨(wa3 (List.mem_of_getElem? (i := 142) rfl) rfl), (wa1 (List.mem_of_getElem? (i := 6) (by decide +kernel)) rfl), by decide +kernel, by decide +kernel, by decide +kernel⟩
theorem mw_X4_startOf : MW yX4_startOf cX4_startOf 3 (some .int) 2 := ⟨(wa3 (List.mem_of_getElem? (i := 138) rfl) rfl), (wa1 (List.mem_of_getElem? (i := 6) (by decide +kernel)) rfl), by decide +kernel, by decide +kernel, by decide +kernel⟩
theorem mw_X4_machineOf : MW yX4_machineOf cX4_machineOf 3 (some .int) 2 := ⟨(wa3 (List.mem_of_getElem? (i := 170) rfl) rfl), (wa1 (List.mem_of_getElem? (i := 6) (by decide +kernel)) rfl), by decide +kernel, by decide +kernel, by decide +kernel⟩
theorem mw_X4_endOf : MW yX4_endOf cX4_endOf 2 (some .int) 1 := ⟨(wa3 (List.mem_of_getElem? (i := 174) rfl) rfl), (wa1 (List.mem_of_getElem? (i := 6) (by decide +kernel)) rfl), by decide +kernel, by decide +kernel, by decide +kernel⟩
theorem mw_X4_delayOf : MW yX4_delayOf cX4_delayOf 2 (some .int) 1 := ⟨(wa3 (List.mem_of_getElem? (i := 178) rfl) rfl), (wa1 (List.mem_of_getElem? (i := 6) (by decide +kernel)) rfl), by decide +kernel, by decide +kernel, by decide +kernel⟩
theorem mw_X4_gapOf : MW yX4_gapOf cX4_gapOf 2 (some .int) 1 := ⟨(wa3 (List.mem_of_getElem? (i := 182) rfl) rfl), (wa1 (List.mem_of_getElem? (i := 6) (by decide +kernel)) rfl), by decide +kernel, by decide +kernel, by decide +kernel⟩
theorem mw_X4_loss : MW yX4_loss cX4_loss 1 (some .int) 0 := ⟨(wa3 (List.mem_of_getElem? (i := 186) rfl) rfl), (wa1 (List.mem_of_getElem? (i := 6) (by decide +kernel)) rfl), by decide +kernel, by decide +kernel, by decide +kernel⟩
theorem mw_X4_carriedReels : MW yX4_carriedReels cX4_carriedReels 1 (some .int) 0 := ⟨(wa3 (List.mem_of_getElem? (i := 190) rfl) rfl), (wa1 (List.mem_of_getElem? (i := 6) (by decide +kernel)) rfl), by decide +kernel, by decide +kernel, by decide +kernel⟩
theorem mw_X4_plateChanges : MW yX4_plateChanges cX4_plateChanges 1 (some .int) 0 := ⟨(wa3 (List.mem_of_getElem? (i := 194) rfl) rfl), (wa1 (List.mem_of_getElem? (i := 6) (by decide +kernel)) rfl), by decide +kernel, by decide +kernel, by decide +kernel⟩
theorem mw_X4_machineTime : MW yX4_machineTime cX4_machineTime 2 (some .int) 1 := ⟨(wa3 (List.mem_of_getElem? (i := 198) rfl) rfl), (wa1 (List.mem_of_getElem? (i := 6) (by decide +kernel)) rfl), by decide +kernel, by decide +kernel, by decide +kernel⟩
theorem mw_X4_setsAside : MW yX4_setsAside cX4_setsAside 2 none 0 := ⟨(wa3 (List.mem_of_getElem? (i := 206) rfl) rfl), (wa1 (List.mem_of_getElem? (i := 6) (by decide +kernel)) rfl), by decide +kernel, by decide +kernel, by decide +kernel⟩
theorem mw_X4_takesBack : MW yX4_takesBack cX4_takesBack 2 none 0 := ⟨(wa3 (List.mem_of_getElem? (i := 210) rfl) rfl), (wa1 (List.mem_of_getElem? (i := 6) (by decide +kernel)) rfl), by decide +kernel, by decide +kernel, by decide +kernel⟩
theorem mw_X4_leastShift : MW yX4_leastShift cX4_leastShift 4 (some .int) 1 := ⟨(wa3 (List.mem_of_getElem? (i := 202) rfl) rfl), (wa1 (List.mem_of_getElem? (i := 6) (by decide +kernel)) rfl), by decide +kernel, by decide +kernel, by decide +kernel⟩
theorem mw_X4_removalGain : MW yX4_removalGain cX4_removalGain 4 (some .int) 1 := ⟨(wa3 (List.mem_of_getElem? (i := 214) rfl) rfl), (wa1 (List.mem_of_getElem? (i := 6) (by decide +kernel)) rfl), by decide +kernel, by decide +kernel, by decide +kernel⟩
theorem mw_X4_bestHomes : MW yX4_bestHomes cX4_bestHomes 5 (some .int) 0 := ⟨(wa3 (List.mem_of_getElem? (i := 219) rfl) rfl), (wa1 (List.mem_of_getElem? (i := 6) (by decide +kernel)) rfl), by decide +kernel, by decide +kernel, by decide +kernel⟩
theorem mw_X4_missingMachines : MW yX4_missingMachines cX4_missingMachines 4 (some .int) 1 := ⟨(wa3 (List.mem_of_getElem? (i := 223) rfl) rfl), (wa1 (List.mem_of_getElem? (i := 6) (by decide +kernel)) rfl), by decide +kernel, by decide +kernel, by decide +kernel⟩
theorem mw_X0_init : MW yX0_init cX0_init 1 none 0 := ⟨(wa1 (List.mem_of_getElem? (i := 20) rfl) rfl), (wa1 (List.mem_of_getElem? (i := 2) (by decide +kernel)) rfl), by decide +kernel, by decide +kernel, by decide +kernel⟩
theorem mw_X0_copyFrom : MW yX0_copyFrom cX0_copyFrom 2 none 1 := ⟨(wa1 (List.mem_of_getElem? (i := 212) rfl) rfl), (wa1 (List.mem_of_getElem? (i := 2) (by decide +kernel)) rfl), by decide +kernel, by decide +kernel, by decide +kernel⟩
theorem mw_X0_appendReel : MW yX0_appendReel cX0_appendReel 5 none 3 := ⟨(wa1 (List.mem_of_getElem? (i := 216) rfl) rfl), (wa1 (List.mem_of_getElem? (i := 2) (by decide +kernel)) rfl), by decide +kernel, by decide +kernel, by decide +kernel⟩
theorem mw_X0_sumOfLengths : MW yX0_sumOfLengths cX0_sumOfLengths 4 (some .int) 1 := ⟨(wa1 (List.mem_of_getElem? (i := 239) rfl) rfl), (wa1 (List.mem_of_getElem? (i := 2) (by decide +kernel)) rfl), by decide +kernel, by decide +kernel, by decide +kernel⟩
theorem mw_X0_isShown : MW yX0_isShown cX0_isShown 3 (some .boolean) 1 := ⟨(wa1 (List.mem_of_getElem? (i := 227) rfl) rfl), (wa1 (List.mem_of_getElem? (i := 2) (by decide +kernel)) rfl), by decide +kernel, by decide +kernel, by decide +kernel⟩
theorem mw_X0_setHomes : MW yX0_setHomes cX0_setHomes 3 none 1 := ⟨(wa2 (List.mem_of_getElem? (i := 202) rfl) rfl), (wa1 (List.mem_of_getElem? (i := 2) (by decide +kernel)) rfl), by decide +kernel, by decide +kernel, by decide +kernel⟩
theorem mw_X0_appendMachine : MW yX0_appendMachine cX0_appendMachine 2 none 1 := ⟨(wa2 (List.mem_of_getElem? (i := 7) rfl) rfl), (wa1 (List.mem_of_getElem? (i := 2) (by decide +kernel)) rfl), by decide +kernel, by decide +kernel, by decide +kernel⟩
theorem mw_X0_dropMachine : MW yX0_dropMachine cX0_dropMachine 3 none 1 := ⟨(wa2 (List.mem_of_getElem? (i := 19) rfl) rfl), (wa1 (List.mem_of_getElem? (i := 2) (by decide +kernel)) rfl), by decide +kernel, by decide +kernel, by decide +kernel⟩
theorem mw_X0_firstMachineIn : MW yX0_firstMachineIn cX0_firstMachineIn 3 (some .int) 1 := ⟨(wa2 (List.mem_of_getElem? (i := 108) rfl) rfl), (wa1 (List.mem_of_getElem? (i := 2) (by decide +kernel)) rfl), by decide +kernel, by decide +kernel, by decide +kernel⟩
theorem mw_X0_appendShow : MW yX0_appendShow cX0_appendShow 4 none 3 := ⟨(wa2 (List.mem_of_getElem? (i := 43) rfl) rfl), (wa1 (List.mem_of_getElem? (i := 2) (by decide +kernel)) rfl), by decide +kernel, by decide +kernel, by decide +kernel⟩
theorem mw_X0_dropShow : MW yX0_dropShow cX0_dropShow 3 none 1 := ⟨(wa2 (List.mem_of_getElem? (i := 55) rfl) rfl), (wa1 (List.mem_of_getElem? (i := 2) (by decide +kernel)) rfl), by decide +kernel, by decide +kernel, by decide +kernel⟩
theorem mw_X0_dropBreaksOf : MW yX0_dropBreaksOf cX0_dropBreaksOf 5 none 1 := ⟨(wa2 (List.mem_of_getElem? (i := 59) rfl) rfl), (wa1 (List.mem_of_getElem? (i := 2) (by decide +kernel)) rfl), by decide +kernel, by decide +kernel, by decide +kernel⟩
theorem mw_X0_appendBreak : MW yX0_appendBreak cX0_appendBreak 4 none 3 := ⟨(wa2 (List.mem_of_getElem? (i := 75) rfl) rfl), (wa1 (List.mem_of_getElem? (i := 2) (by decide +kernel)) rfl), by decide +kernel, by decide +kernel, by decide +kernel⟩
theorem mw_X0_repairTime : MW yX0_repairTime cX0_repairTime 5 (some .int) 2 := ⟨(wa2 (List.mem_of_getElem? (i := 139) rfl) rfl), (wa1 (List.mem_of_getElem? (i := 2) (by decide +kernel)) rfl), by decide +kernel, by decide +kernel, by decide +kernel⟩
theorem mw_X1_init : MW yX1_init cX1_init 2 none 0 := ⟨(wa1 (List.mem_of_getElem? (i := 103) rfl) rfl), (wa1 (List.mem_of_getElem? (i := 4) (by decide +kernel)) rfl), by decide +kernel, by decide +kernel, by decide +kernel⟩
theorem mw_X1_remember : MW yX1_remember cX1_remember 2 none 1 := ⟨(wa1 (List.mem_of_getElem? (i := 204) rfl) rfl), (wa1 (List.mem_of_getElem? (i := 4) (by decide +kernel)) rfl), by decide +kernel, by decide +kernel, by decide +kernel⟩
theorem mw_X1_forgetOldest : MW yX1_forgetOldest cX1_forgetOldest 3 none 0 := ⟨(wa1 (List.mem_of_getElem? (i := 208) rfl) rfl), (wa1 (List.mem_of_getElem? (i := 4) (by decide +kernel)) rfl), by decide +kernel, by decide +kernel, by decide +kernel⟩
theorem mw_X1_restore : MW yX1_restore cX1_restore 2 none 1 := ⟨(wa2 (List.mem_of_getElem? (i := 214) rfl) rfl), (wa1 (List.mem_of_getElem? (i := 4) (by decide +kernel)) rfl), by decide +kernel, by decide +kernel, by decide +kernel⟩
theorem mw_X2_init : MW yX2_init cX2_init 1 none 0 := ⟨(wa1 (List.mem_of_getElem? (i := 120) rfl) rfl), (wa1 (List.mem_of_getElem? (i := 5) (by decide +kernel)) rfl), by decide +kernel, by decide +kernel, by decide +kernel⟩
theorem mw_X2_make : MW yX2_make cX2_make 3 none 1 := ⟨(wa2 (List.mem_of_getElem? (i := 87) rfl) rfl), (wa1 (List.mem_of_getElem? (i := 5) (by decide +kernel)) rfl), by decide +kernel, by decide +kernel, by decide +kernel⟩
theorem mw_X2_lossWith : MW yX2_lossWith cX2_lossWith 2 (some .int) 1 := ⟨(wa2 (List.mem_of_getElem? (i := 164) rfl) rfl), (wa1 (List.mem_of_getElem? (i := 5) (by decide +kernel)) rfl), by decide +kernel, by decide +kernel, by decide +kernel⟩
theorem mw_X2_isSmooth : MW yX2_isSmooth cX2_isSmooth 3 (some .boolean) 1 := ⟨(wa2 (List.mem_of_getElem? (i := 189) rfl) rfl), (wa1 (List.mem_of_getElem? (i := 5) (by decide +kernel)) rfl), by decide +kernel, by decide +kernel, by decide +kernel⟩
theorem mw_X2_open : MW yX2_open cX2_open 3 none 1 := ⟨(wa2 (List.mem_of_getElem? (i := 91) rfl) rfl), (wa1 (List.mem_of_getElem? (i := 5) (by decide +kernel)) rfl), by decide +kernel, by decide +kernel, by decide +kernel⟩
theorem mw_X2_bringHome : MW yX2_bringHome cX2_bringHome 5 none 2 := ⟨(wa2 (List.mem_of_getElem? (i := 95) rfl) rfl), (wa1 (List.mem_of_getElem? (i := 5) (by decide +kernel)) rfl), by decide +kernel, by decide +kernel, by decide +kernel⟩
theorem mw_X2_sortShows : MW yX2_sortShows cX2_sortShows 4 none 1 := ⟨(wa2 (List.mem_of_getElem? (i := 100) rfl) rfl), (wa1 (List.mem_of_getElem? (i := 5) (by decide +kernel)) rfl), by decide +kernel, by decide +kernel, by decide +kernel⟩
theorem mw_X2_planShow : MW yX2_planShow cX2_planShow 9 none 2 := ⟨(wa2 (List.mem_of_getElem? (i := 104) rfl) rfl), (wa1 (List.mem_of_getElem? (i := 5) (by decide +kernel)) rfl), by decide +kernel, by decide +kernel, by decide +kernel⟩
theorem mw_X2_planReel : MW yX2_planReel cX2_planReel 12 (some .int) 5 := ⟨(wa2 (List.mem_of_getElem? (i := 112) rfl) rfl), (wa1 (List.mem_of_getElem? (i := 5) (by decide +kernel)) rfl), by decide +kernel, by decide +kernel, by decide +kernel⟩
theorem mw_X2_bring : MW yX2_bring cX2_bring 6 (some .int) 3 := ⟨(wa2 (List.mem_of_getElem? (i := 116) rfl) rfl), (wa1 (List.mem_of_getElem? (i := 5) (by decide +kernel)) rfl), by decide +kernel, by decide +kernel, by decide +kernel⟩
theorem mw_X2_soonestCarrier : MW yX2_soonestCarrier cX2_soonestCarrier 5 (some .int) 2 := ⟨(wa2 (List.mem_of_getElem? (i := 120) rfl) rfl), (wa1 (List.mem_of_getElem? (i := 5) (by decide +kernel)) rfl), by decide +kernel, by decide +kernel, by decide +kernel⟩
theorem mw_X2_soonestMachine : MW yX2_soonestMachine cX2_soonestMachine 11 (some .int) 5 := ⟨(wa2 (List.mem_of_getElem? (i := 127) rfl) rfl), (wa1 (List.mem_of_getElem? (i := 5) (by decide +kernel)) rfl), by decide +kernel, by decide +kernel, by decide +kernel⟩
theorem mw_X2_startOn : MW yX2_startOn cX2_startOn 7 (some .int) 5 := ⟨(wa2 (List.mem_of_getElem? (i := 131) rfl) rfl), (wa1 (List.mem_of_getElem? (i := 5) (by decide +kernel)) rfl), by decide +kernel, by decide +kernel, by decide +kernel⟩
theorem mw_X2_needsPlate : MW yX2_needsPlate cX2_needsPlate 3 (some .boolean) 2 := ⟨(wa2 (List.mem_of_getElem? (i := 135) rfl) rfl), (wa1 (List.mem_of_getElem? (i := 5) (by decide +kernel)) rfl), by decide +kernel, by decide +kernel, by decide +kernel⟩
theorem f_X3_10 : FLk RX3 10 3 0 := flk3 (by decide) (wa1 (List.mem_of_getElem? (i := 181) (by decide +kernel)) rfl) (by decide)
theorem f_X3_16 : FLk RX3 16 3 1 := flk3 (by decide) (wa1 (List.mem_of_getElem? (i := 182) (by decide +kernel)) rfl) (by decide)
theorem f_X3_22 : FLk RX3 22 3 2 := flk3 (by decide) (wa1 (List.mem_of_getElem? (i := 183) (by decide +kernel)) rfl) (by decide)
theorem f_X3_29 : FLk RX3 29 3 3 := flk3 (by decide) (wa1 (List.mem_of_getElem? (i := 184) (by decide +kernel)) rfl) (by decide)
theorem ms_X3_33 : MS RX3 33 yX3_isIn := ⟨(wa1 (List.mem_of_getElem? (i := 198) (by decide +kernel)) rfl), (wa1 (List.mem_of_getElem? (i := 199) (by decide +kernel)) rfl)⟩
theorem f_X3_37 : FLk RX3 37 0 0 := flk0 (by decide) (wa1 (List.mem_of_getElem? (i := 28) (by decide +kernel)) rfl) (by decide)
theorem mv_X3_41 : MV RX3 41 (kN 1) yX1_remember := ⟨(wa1 (List.mem_of_getElem? (i := 201) (by decide +kernel)) rfl), (wa1 (List.mem_of_getElem? (i := 202) (by decide +kernel)) rfl), (wa1 (List.mem_of_getElem? (i := 203) (by decide +kernel)) rfl), rfl⟩
theorem mv_X3_45 : MV RX3 45 (kN 0) yX0_appendReel := ⟨(wa1 (List.mem_of_getElem? (i := 213) (by decide +kernel)) rfl), (wa1 (List.mem_of_getElem? (i := 214) (by decide +kernel)) rfl), (wa1 (List.mem_of_getElem? (i := 215) (by decide +kernel)) rfl), rfl⟩
theorem mv_X3_49 : MV RX3 49 (kN 0) yX0_isShown := ⟨(wa1 (List.mem_of_getElem? (i := 224) (by decide +kernel)) rfl), (wa1 (List.mem_of_getElem? (i := 225) (by decide +kernel)) rfl), (wa1 (List.mem_of_getElem? (i := 226) (by decide +kernel)) rfl), rfl⟩
theorem f_X3_53 : FLk RX3 53 0 3 := flk0 (by decide) (wa1 (List.mem_of_getElem? (i := 35) (by decide +kernel)) rfl) (by decide)
theorem mv_X3_56 : MV RX3 56 (kN 0) yX0_sumOfLengths := ⟨(wa1 (List.mem_of_getElem? (i := 236) (by decide +kernel)) rfl), (wa1 (List.mem_of_getElem? (i := 237) (by decide +kernel)) rfl), (wa1 (List.mem_of_getElem? (i := 238) (by decide +kernel)) rfl), rfl⟩
theorem f_X3_60 : FLk RX3 60 0 4 := flk0 (by decide) (wa1 (List.mem_of_getElem? (i := 38) (by decide +kernel)) rfl) (by decide)
theorem mv_X3_64 : MV RX3 64 (kN 0) yX0_appendMachine := ⟨(wa2 (List.mem_of_getElem? (i := 4) (by decide +kernel)) rfl), (wa2 (List.mem_of_getElem? (i := 5) (by decide +kernel)) rfl), (wa2 (List.mem_of_getElem? (i := 6) (by decide +kernel)) rfl), rfl⟩
theorem mv_X3_68 : MV RX3 68 (kN 3) yX3_isMachine := ⟨(wa2 (List.mem_of_getElem? (i := 12) (by decide +kernel)) rfl), (wa2 (List.mem_of_getElem? (i := 14) (by decide +kernel)) rfl), (wa0 (List.mem_of_getElem? (i := 1) (by decide +kernel)) rfl), rfl⟩
theorem mv_X3_71 : MV RX3 71 (kN 0) yX0_dropMachine := ⟨(wa2 (List.mem_of_getElem? (i := 16) (by decide +kernel)) rfl), (wa2 (List.mem_of_getElem? (i := 17) (by decide +kernel)) rfl), (wa2 (List.mem_of_getElem? (i := 18) (by decide +kernel)) rfl), rfl⟩
theorem f_X3_74 : FLk RX3 74 0 5 := flk0 (by decide) (wa1 (List.mem_of_getElem? (i := 41) (by decide +kernel)) rfl) (by decide)
theorem f_X3_77 : FLk RX3 77 0 6 := flk0 (by decide) (wa1 (List.mem_of_getElem? (i := 44) (by decide +kernel)) rfl) (by decide)
theorem g_X3_80 : Cond.fieldLink RX3 80 RX3 "LEAST_MINUTES" "[I" ∈ wA := (wa2 (List.mem_of_getElem? (i := 32) (by decide +kernel)) rfl)
theorem g_X3_83 : Cond.fieldLink RX3 83 RX3 "MOST_MINUTES" "[I" ∈ wA := (wa2 (List.mem_of_getElem? (i := 34) (by decide +kernel)) rfl)
theorem f_X3_86 : FLk RX3 86 0 7 := flk0 (by decide) (wa1 (List.mem_of_getElem? (i := 48) (by decide +kernel)) rfl) (by decide)
theorem f_X3_89 : FLk RX3 89 0 8 := flk0 (by decide) (wa1 (List.mem_of_getElem? (i := 51) (by decide +kernel)) rfl) (by decide)
theorem mv_X3_92 : MV RX3 92 (kN 0) yX0_appendShow := ⟨(wa2 (List.mem_of_getElem? (i := 40) (by decide +kernel)) rfl), (wa2 (List.mem_of_getElem? (i := 41) (by decide +kernel)) rfl), (wa2 (List.mem_of_getElem? (i := 42) (by decide +kernel)) rfl), rfl⟩
theorem mv_X3_95 : MV RX3 95 (kN 3) yX3_isShow := ⟨(wa2 (List.mem_of_getElem? (i := 48) (by decide +kernel)) rfl), (wa2 (List.mem_of_getElem? (i := 50) (by decide +kernel)) rfl), (wa0 (List.mem_of_getElem? (i := 2) (by decide +kernel)) rfl), rfl⟩
theorem mv_X3_98 : MV RX3 98 (kN 0) yX0_dropShow := ⟨(wa2 (List.mem_of_getElem? (i := 52) (by decide +kernel)) rfl), (wa2 (List.mem_of_getElem? (i := 53) (by decide +kernel)) rfl), (wa2 (List.mem_of_getElem? (i := 54) (by decide +kernel)) rfl), rfl⟩
theorem f_X3_101 : FLk RX3 101 0 11 := flk0 (by decide) (wa1 (List.mem_of_getElem? (i := 59) (by decide +kernel)) rfl) (by decide)
theorem mv_X3_104 : MV RX3 104 (kN 3) yX3_isReelOfShow := ⟨(wa2 (List.mem_of_getElem? (i := 68) (by decide +kernel)) rfl), (wa2 (List.mem_of_getElem? (i := 70) (by decide +kernel)) rfl), (wa0 (List.mem_of_getElem? (i := 4) (by decide +kernel)) rfl), rfl⟩
theorem f_X3_108 : FLk RX3 108 0 12 := flk0 (by decide) (wa1 (List.mem_of_getElem? (i := 61) (by decide +kernel)) rfl) (by decide)
theorem mv_X3_111 : MV RX3 111 (kN 0) yX0_appendBreak := ⟨(wa2 (List.mem_of_getElem? (i := 72) (by decide +kernel)) rfl), (wa2 (List.mem_of_getElem? (i := 73) (by decide +kernel)) rfl), (wa2 (List.mem_of_getElem? (i := 74) (by decide +kernel)) rfl), rfl⟩
theorem mv_X3_114 : MV RX3 114 (kN 2) yX2_make := ⟨(wa2 (List.mem_of_getElem? (i := 84) (by decide +kernel)) rfl), (wa2 (List.mem_of_getElem? (i := 85) (by decide +kernel)) rfl), (wa2 (List.mem_of_getElem? (i := 86) (by decide +kernel)) rfl), rfl⟩
theorem f_X3_117 : FLk RX3 117 2 0 := flk2 (by decide) (wa1 (List.mem_of_getElem? (i := 123) (by decide +kernel)) rfl) (by decide)
theorem f_X3_121 : FLk RX3 121 2 1 := flk2 (by decide) (wa1 (List.mem_of_getElem? (i := 125) (by decide +kernel)) rfl) (by decide)
theorem ms_X3_124 : MS RX3 124 yX3_reelPlace := ⟨(wa2 (List.mem_of_getElem? (i := 140) (by decide +kernel)) rfl), (wa1 (List.mem_of_getElem? (i := 218) (by decide +kernel)) rfl)⟩
theorem f_X3_128 : FLk RX3 128 2 2 := flk2 (by decide) (wa1 (List.mem_of_getElem? (i := 127) (by decide +kernel)) rfl) (by decide)
theorem f_X3_131 : FLk RX3 131 2 3 := flk2 (by decide) (wa1 (List.mem_of_getElem? (i := 129) (by decide +kernel)) rfl) (by decide)
theorem f_X3_134 : FLk RX3 134 2 4 := flk2 (by decide) (wa1 (List.mem_of_getElem? (i := 131) (by decide +kernel)) rfl) (by decide)
theorem f_X3_137 : FLk RX3 137 2 5 := flk2 (by decide) (wa1 (List.mem_of_getElem? (i := 133) (by decide +kernel)) rfl) (by decide)
theorem mv_X3_140 : MV RX3 140 (kN 2) yX2_lossWith := ⟨(wa2 (List.mem_of_getElem? (i := 161) (by decide +kernel)) rfl), (wa2 (List.mem_of_getElem? (i := 162) (by decide +kernel)) rfl), (wa2 (List.mem_of_getElem? (i := 163) (by decide +kernel)) rfl), rfl⟩
theorem f_X3_144 : FLk RX3 144 2 7 := flk2 (by decide) (wa1 (List.mem_of_getElem? (i := 137) (by decide +kernel)) rfl) (by decide)
theorem f_X3_147 : FLk RX3 147 2 8 := flk2 (by decide) (wa1 (List.mem_of_getElem? (i := 139) (by decide +kernel)) rfl) (by decide)
theorem f_X3_150 : FLk RX3 150 2 6 := flk2 (by decide) (wa1 (List.mem_of_getElem? (i := 135) (by decide +kernel)) rfl) (by decide)
theorem mv_X3_153 : MV RX3 153 (kN 0) yX0_copyFrom := ⟨(wa2 (List.mem_of_getElem? (i := 182) (by decide +kernel)) rfl), (wa1 (List.mem_of_getElem? (i := 210) (by decide +kernel)) rfl), (wa1 (List.mem_of_getElem? (i := 211) (by decide +kernel)) rfl), rfl⟩
theorem ms_X3_156 : Cond.methodLink RX3 156 Lib.Math.min.name ∈ wA := (wa2 (List.mem_of_getElem? (i := 183) (by decide +kernel)) rfl)
theorem mv_X3_161 : MV RX3 161 (kN 2) yX2_isSmooth := ⟨(wa2 (List.mem_of_getElem? (i := 186) (by decide +kernel)) rfl), (wa2 (List.mem_of_getElem? (i := 187) (by decide +kernel)) rfl), (wa2 (List.mem_of_getElem? (i := 188) (by decide +kernel)) rfl), rfl⟩
theorem k_X3_165 : Cond.constant RX3 165 (-1000000) ∈ wA := (wa2 (List.mem_of_getElem? (i := 194) (by decide +kernel)) rfl)
theorem mv_X3_166 : MV RX3 166 (kN 0) yX0_setHomes := ⟨(wa2 (List.mem_of_getElem? (i := 199) (by decide +kernel)) rfl), (wa2 (List.mem_of_getElem? (i := 200) (by decide +kernel)) rfl), (wa2 (List.mem_of_getElem? (i := 201) (by decide +kernel)) rfl), rfl⟩
theorem f_X3_169 : FLk RX3 169 1 1 := flk1 (by decide) (wa1 (List.mem_of_getElem? (i := 110) (by decide +kernel)) rfl) (by decide)
theorem mv_X3_172 : MV RX3 172 (kN 1) yX1_restore := ⟨(wa2 (List.mem_of_getElem? (i := 211) (by decide +kernel)) rfl), (wa2 (List.mem_of_getElem? (i := 212) (by decide +kernel)) rfl), (wa2 (List.mem_of_getElem? (i := 213) (by decide +kernel)) rfl), rfl⟩
theorem f_X3_175 : FLk RX3 175 0 10 := flk0 (by decide) (wa1 (List.mem_of_getElem? (i := 56) (by decide +kernel)) rfl) (by decide)
theorem f_X4_7 : FLk RX4 7 4 0 := flk4 (by decide) (wa2 (List.mem_of_getElem? (i := 221) (by decide +kernel)) rfl) (by decide)
theorem f_X4_13 : FLk RX4 13 4 1 := flk4 (by decide) (wa2 (List.mem_of_getElem? (i := 222) (by decide +kernel)) rfl) (by decide)
theorem f_X4_16 : FLk RX4 16 4 3 := flk4 (by decide) (wa2 (List.mem_of_getElem? (i := 224) (by decide +kernel)) rfl) (by decide)
theorem f_X4_19 : FLk RX4 19 4 4 := flk4 (by decide) (wa2 (List.mem_of_getElem? (i := 225) (by decide +kernel)) rfl) (by decide)
theorem f_X4_22 : FLk RX4 22 4 5 := flk4 (by decide) (wa2 (List.mem_of_getElem? (i := 226) (by decide +kernel)) rfl) (by decide)
theorem f_X4_25 : FLk RX4 25 4 6 := flk4 (by decide) (wa2 (List.mem_of_getElem? (i := 227) (by decide +kernel)) rfl) (by decide)
theorem f_X4_28 : FLk RX4 28 4 7 := flk4 (by decide) (wa2 (List.mem_of_getElem? (i := 228) (by decide +kernel)) rfl) (by decide)
theorem f_X4_31 : FLk RX4 31 4 8 := flk4 (by decide) (wa2 (List.mem_of_getElem? (i := 229) (by decide +kernel)) rfl) (by decide)
theorem f_X4_34 : FLk RX4 34 4 9 := flk4 (by decide) (wa2 (List.mem_of_getElem? (i := 230) (by decide +kernel)) rfl) (by decide)
theorem f_X4_37 : FLk RX4 37 4 10 := flk4 (by decide) (wa2 (List.mem_of_getElem? (i := 231) (by decide +kernel)) rfl) (by decide)
theorem f_X4_40 : FLk RX4 40 4 11 := flk4 (by decide) (wa2 (List.mem_of_getElem? (i := 232) (by decide +kernel)) rfl) (by decide)
theorem f_X4_44 : FLk RX4 44 4 12 := flk4 (by decide) (wa2 (List.mem_of_getElem? (i := 233) (by decide +kernel)) rfl) (by decide)
theorem f_X4_47 : FLk RX4 47 4 13 := flk4 (by decide) (wa2 (List.mem_of_getElem? (i := 234) (by decide +kernel)) rfl) (by decide)
theorem f_X4_50 : FLk RX4 50 4 14 := flk4 (by decide) (wa2 (List.mem_of_getElem? (i := 235) (by decide +kernel)) rfl) (by decide)
theorem f_X4_53 : FLk RX4 53 4 17 := flk4 (by decide) (wa2 (List.mem_of_getElem? (i := 238) (by decide +kernel)) rfl) (by decide)
theorem f_X4_56 : FLk RX4 56 4 2 := flk4 (by decide) (wa2 (List.mem_of_getElem? (i := 223) (by decide +kernel)) rfl) (by decide)
theorem k_X4_60 : Cond.constantLong RX4 60 (3) ∈ wA := (wa3 (List.mem_of_getElem? (i := 47) (by decide +kernel)) rfl)
theorem ms_X4_62 : MS RX4 62 yX4_in := ⟨(wa3 (List.mem_of_getElem? (i := 48) (by decide +kernel)) rfl), (wa3 (List.mem_of_getElem? (i := 49) (by decide +kernel)) rfl)⟩
theorem k_X4_66 : Cond.constantLong RX4 66 (1439) ∈ wA := (wa3 (List.mem_of_getElem? (i := 105) (by decide +kernel)) rfl)
theorem ms_X4_68 : MS RX4 68 yX4_isFilm := ⟨(wa3 (List.mem_of_getElem? (i := 44) (by decide +kernel)) rfl), (wa3 (List.mem_of_getElem? (i := 45) (by decide +kernel)) rfl)⟩
theorem k_X4_72 : Cond.constantLong RX4 72 (30) ∈ wA := (wa3 (List.mem_of_getElem? (i := 51) (by decide +kernel)) rfl)
theorem k_X4_74 : Cond.constantLong RX4 74 (2) ∈ wA := (wa3 (List.mem_of_getElem? (i := 52) (by decide +kernel)) rfl)
theorem mv_X4_76 : MV RX4 76 (kN 4) yX4_keeps := ⟨(wa3 (List.mem_of_getElem? (i := 53) (by decide +kernel)) rfl), (wa3 (List.mem_of_getElem? (i := 55) (by decide +kernel)) rfl), (wa0 (List.mem_of_getElem? (i := 15) (by decide +kernel)) rfl), rfl⟩
theorem ms_X4_79 : MS RX4 79 yX4_isHouse := ⟨(wa3 (List.mem_of_getElem? (i := 65) (by decide +kernel)) rfl), (wa3 (List.mem_of_getElem? (i := 66) (by decide +kernel)) rfl)⟩
theorem mv_X4_82 : MV RX4 82 (kN 4) yX4_isMachine := ⟨(wa3 (List.mem_of_getElem? (i := 80) (by decide +kernel)) rfl), (wa3 (List.mem_of_getElem? (i := 82) (by decide +kernel)) rfl), (wa0 (List.mem_of_getElem? (i := 16) (by decide +kernel)) rfl), rfl⟩
theorem k_X4_85 : Cond.constantLong RX4 85 (10) ∈ wA := (wa3 (List.mem_of_getElem? (i := 96) (by decide +kernel)) rfl)
theorem k_X4_87 : Cond.constantLong RX4 87 (15) ∈ wA := (wa3 (List.mem_of_getElem? (i := 97) (by decide +kernel)) rfl)
theorem ms_X4_89 : MS RX4 89 yX4_isStart := ⟨(wa3 (List.mem_of_getElem? (i := 102) (by decide +kernel)) rfl), (wa3 (List.mem_of_getElem? (i := 103) (by decide +kernel)) rfl)⟩
theorem mv_X4_92 : MV RX4 92 (kN 4) yX4_isShow := ⟨(wa3 (List.mem_of_getElem? (i := 110) (by decide +kernel)) rfl), (wa3 (List.mem_of_getElem? (i := 112) (by decide +kernel)) rfl), (wa0 (List.mem_of_getElem? (i := 17) (by decide +kernel)) rfl), rfl⟩
theorem mv_X4_95 : MV RX4 95 (kN 4) yX4_goes := ⟨(wa3 (List.mem_of_getElem? (i := 114) (by decide +kernel)) rfl), (wa3 (List.mem_of_getElem? (i := 116) (by decide +kernel)) rfl), (wa0 (List.mem_of_getElem? (i := 18) (by decide +kernel)) rfl), rfl⟩
theorem mv_X4_99 : MV RX4 99 (kN 4) yX4_isReel := ⟨(wa3 (List.mem_of_getElem? (i := 126) (by decide +kernel)) rfl), (wa3 (List.mem_of_getElem? (i := 128) (by decide +kernel)) rfl), (wa0 (List.mem_of_getElem? (i := 19) (by decide +kernel)) rfl), rfl⟩
theorem k_X4_103 : Cond.constantLong RX4 103 (60) ∈ wA := (wa3 (List.mem_of_getElem? (i := 130) (by decide +kernel)) rfl)
theorem f_X4_105 : FLk RX4 105 4 15 := flk4 (by decide) (wa2 (List.mem_of_getElem? (i := 236) (by decide +kernel)) rfl) (by decide)
theorem mv_X4_108 : MV RX4 108 (kN 4) yX4_hasPlate := ⟨(wa3 (List.mem_of_getElem? (i := 159) (by decide +kernel)) rfl), (wa3 (List.mem_of_getElem? (i := 161) (by decide +kernel)) rfl), (wa0 (List.mem_of_getElem? (i := 25) (by decide +kernel)) rfl), rfl⟩
theorem mv_X4_111 : MV RX4 111 (kN 4) yX4_arrives := ⟨(wa3 (List.mem_of_getElem? (i := 151) (by decide +kernel)) rfl), (wa3 (List.mem_of_getElem? (i := 153) (by decide +kernel)) rfl), (wa0 (List.mem_of_getElem? (i := 23) (by decide +kernel)) rfl), rfl⟩
theorem mv_X4_115 : MV RX4 115 (kN 4) yX4_startBy := ⟨(wa3 (List.mem_of_getElem? (i := 155) (by decide +kernel)) rfl), (wa3 (List.mem_of_getElem? (i := 157) (by decide +kernel)) rfl), (wa0 (List.mem_of_getElem? (i := 24) (by decide +kernel)) rfl), rfl⟩
theorem mv_X4_119 : MV RX4 119 (kN 4) yX4_repairs := ⟨(wa3 (List.mem_of_getElem? (i := 163) (by decide +kernel)) rfl), (wa3 (List.mem_of_getElem? (i := 165) (by decide +kernel)) rfl), (wa0 (List.mem_of_getElem? (i := 26) (by decide +kernel)) rfl), rfl⟩
theorem f_X4_122 : FLk RX4 122 4 16 := flk4 (by decide) (wa2 (List.mem_of_getElem? (i := 237) (by decide +kernel)) rfl) (by decide)
theorem mv_X4_125 : MV RX4 125 (kN 4) yX4_runs := ⟨(wa3 (List.mem_of_getElem? (i := 147) (by decide +kernel)) rfl), (wa3 (List.mem_of_getElem? (i := 149) (by decide +kernel)) rfl), (wa0 (List.mem_of_getElem? (i := 22) (by decide +kernel)) rfl), rfl⟩
theorem mv_X4_129 : MV RX4 129 (kN 4) yX4_plansShow := ⟨(wa3 (List.mem_of_getElem? (i := 143) (by decide +kernel)) rfl), (wa3 (List.mem_of_getElem? (i := 145) (by decide +kernel)) rfl), (wa0 (List.mem_of_getElem? (i := 21) (by decide +kernel)) rfl), rfl⟩
theorem mv_X4_132 : MV RX4 132 (kN 4) yX4_plans := ⟨(wa3 (List.mem_of_getElem? (i := 139) (by decide +kernel)) rfl), (wa3 (List.mem_of_getElem? (i := 141) (by decide +kernel)) rfl), (wa0 (List.mem_of_getElem? (i := 20) (by decide +kernel)) rfl), rfl⟩
theorem mv_X4_136 : MV RX4 136 (kN 4) yX4_setsAside := ⟨(wa3 (List.mem_of_getElem? (i := 203) (by decide +kernel)) rfl), (wa3 (List.mem_of_getElem? (i := 205) (by decide +kernel)) rfl), (wa0 (List.mem_of_getElem? (i := 27) (by decide +kernel)) rfl), rfl⟩
theorem mv_X4_139 : MV RX4 139 (kN 4) yX4_takesBack := ⟨(wa3 (List.mem_of_getElem? (i := 207) (by decide +kernel)) rfl), (wa3 (List.mem_of_getElem? (i := 209) (by decide +kernel)) rfl), (wa0 (List.mem_of_getElem? (i := 28) (by decide +kernel)) rfl), rfl⟩
theorem k_X4_142 : Cond.constant RX4 142 (-1000000) ∈ wA := (wa3 (List.mem_of_getElem? (i := 215) (by decide +kernel)) rfl)
theorem f_X0_9 : FLk RX0 9 0 0 := flk0 (by decide) (wa1 (List.mem_of_getElem? (i := 27) (by decide +kernel)) rfl) (by decide)
theorem f_X0_15 : FLk RX0 15 0 1 := flk0 (by decide) (wa1 (List.mem_of_getElem? (i := 30) (by decide +kernel)) rfl) (by decide)
theorem f_X0_18 : FLk RX0 18 0 2 := flk0 (by decide) (wa1 (List.mem_of_getElem? (i := 32) (by decide +kernel)) rfl) (by decide)
theorem f_X0_21 : FLk RX0 21 0 3 := flk0 (by decide) (wa1 (List.mem_of_getElem? (i := 34) (by decide +kernel)) rfl) (by decide)
theorem f_X0_24 : FLk RX0 24 0 4 := flk0 (by decide) (wa1 (List.mem_of_getElem? (i := 37) (by decide +kernel)) rfl) (by decide)
theorem f_X0_28 : FLk RX0 28 0 5 := flk0 (by decide) (wa1 (List.mem_of_getElem? (i := 40) (by decide +kernel)) rfl) (by decide)
theorem f_X0_31 : FLk RX0 31 0 6 := flk0 (by decide) (wa1 (List.mem_of_getElem? (i := 43) (by decide +kernel)) rfl) (by decide)
theorem f_X0_34 : FLk RX0 34 0 7 := flk0 (by decide) (wa1 (List.mem_of_getElem? (i := 46) (by decide +kernel)) rfl) (by decide)
theorem f_X0_37 : FLk RX0 37 0 8 := flk0 (by decide) (wa1 (List.mem_of_getElem? (i := 49) (by decide +kernel)) rfl) (by decide)
theorem f_X0_40 : FLk RX0 40 0 9 := flk0 (by decide) (wa1 (List.mem_of_getElem? (i := 52) (by decide +kernel)) rfl) (by decide)
theorem f_X0_43 : FLk RX0 43 0 10 := flk0 (by decide) (wa1 (List.mem_of_getElem? (i := 54) (by decide +kernel)) rfl) (by decide)
theorem f_X0_46 : FLk RX0 46 0 11 := flk0 (by decide) (wa1 (List.mem_of_getElem? (i := 57) (by decide +kernel)) rfl) (by decide)
theorem f_X0_49 : FLk RX0 49 0 12 := flk0 (by decide) (wa1 (List.mem_of_getElem? (i := 60) (by decide +kernel)) rfl) (by decide)
theorem f_X0_52 : FLk RX0 52 0 13 := flk0 (by decide) (wa1 (List.mem_of_getElem? (i := 62) (by decide +kernel)) rfl) (by decide)
theorem f_X0_55 : FLk RX0 55 0 14 := flk0 (by decide) (wa1 (List.mem_of_getElem? (i := 63) (by decide +kernel)) rfl) (by decide)
theorem f_X0_58 : FLk RX0 58 0 15 := flk0 (by decide) (wa1 (List.mem_of_getElem? (i := 64) (by decide +kernel)) rfl) (by decide)
theorem ms_X0_64 : Cond.methodLink RX0 64 arraycopyName ∈ wA := (wa1 (List.mem_of_getElem? (i := 24) (by decide +kernel)) rfl)
theorem mv_X0_74 : MV RX0 74 (kN 0) yX0_dropBreaksOf := ⟨(wa2 (List.mem_of_getElem? (i := 56) (by decide +kernel)) rfl), (wa2 (List.mem_of_getElem? (i := 58) (by decide +kernel)) rfl), (wa0 (List.mem_of_getElem? (i := 3) (by decide +kernel)) rfl), rfl⟩
theorem f_X1_11 : FLk RX1 11 1 0 := flk1 (by decide) (wa1 (List.mem_of_getElem? (i := 108) (by decide +kernel)) rfl) (by decide)
theorem f_X1_17 : FLk RX1 17 1 1 := flk1 (by decide) (wa1 (List.mem_of_getElem? (i := 109) (by decide +kernel)) rfl) (by decide)
theorem mv_X1_22 : MV RX1 22 (kN 1) yX1_forgetOldest := ⟨(wa1 (List.mem_of_getElem? (i := 205) (by decide +kernel)) rfl), (wa1 (List.mem_of_getElem? (i := 207) (by decide +kernel)) rfl), (wa0 (List.mem_of_getElem? (i := 0) (by decide +kernel)) rfl), rfl⟩
theorem mv_X1_25 : MV RX1 25 (kN 0) yX0_copyFrom := ⟨(wa1 (List.mem_of_getElem? (i := 209) (by decide +kernel)) rfl), (wa1 (List.mem_of_getElem? (i := 210) (by decide +kernel)) rfl), (wa1 (List.mem_of_getElem? (i := 211) (by decide +kernel)) rfl), rfl⟩
theorem f_X2_9 : FLk RX2 9 2 0 := flk2 (by decide) (wa1 (List.mem_of_getElem? (i := 122) (by decide +kernel)) rfl) (by decide)
theorem f_X2_15 : FLk RX2 15 2 1 := flk2 (by decide) (wa1 (List.mem_of_getElem? (i := 124) (by decide +kernel)) rfl) (by decide)
theorem f_X2_19 : FLk RX2 19 2 2 := flk2 (by decide) (wa1 (List.mem_of_getElem? (i := 126) (by decide +kernel)) rfl) (by decide)
theorem f_X2_22 : FLk RX2 22 2 3 := flk2 (by decide) (wa1 (List.mem_of_getElem? (i := 128) (by decide +kernel)) rfl) (by decide)
theorem f_X2_25 : FLk RX2 25 2 4 := flk2 (by decide) (wa1 (List.mem_of_getElem? (i := 130) (by decide +kernel)) rfl) (by decide)
theorem f_X2_28 : FLk RX2 28 2 5 := flk2 (by decide) (wa1 (List.mem_of_getElem? (i := 132) (by decide +kernel)) rfl) (by decide)
theorem f_X2_31 : FLk RX2 31 2 6 := flk2 (by decide) (wa1 (List.mem_of_getElem? (i := 134) (by decide +kernel)) rfl) (by decide)
theorem f_X2_34 : FLk RX2 34 2 7 := flk2 (by decide) (wa1 (List.mem_of_getElem? (i := 136) (by decide +kernel)) rfl) (by decide)
theorem f_X2_38 : FLk RX2 38 2 8 := flk2 (by decide) (wa1 (List.mem_of_getElem? (i := 138) (by decide +kernel)) rfl) (by decide)
theorem f_X2_41 : FLk RX2 41 2 9 := flk2 (by decide) (wa1 (List.mem_of_getElem? (i := 140) (by decide +kernel)) rfl) (by decide)
theorem f_X2_44 : FLk RX2 44 2 10 := flk2 (by decide) (wa1 (List.mem_of_getElem? (i := 141) (by decide +kernel)) rfl) (by decide)
theorem f_X2_47 : FLk RX2 47 2 11 := flk2 (by decide) (wa1 (List.mem_of_getElem? (i := 142) (by decide +kernel)) rfl) (by decide)
theorem f_X2_50 : FLk RX2 50 2 12 := flk2 (by decide) (wa1 (List.mem_of_getElem? (i := 143) (by decide +kernel)) rfl) (by decide)
theorem f_X2_53 : FLk RX2 53 2 13 := flk2 (by decide) (wa1 (List.mem_of_getElem? (i := 144) (by decide +kernel)) rfl) (by decide)
theorem f_X2_56 : FLk RX2 56 2 14 := flk2 (by decide) (wa1 (List.mem_of_getElem? (i := 145) (by decide +kernel)) rfl) (by decide)
theorem f_X2_59 : FLk RX2 59 2 15 := flk2 (by decide) (wa1 (List.mem_of_getElem? (i := 146) (by decide +kernel)) rfl) (by decide)
theorem mv_X2_62 : MV RX2 62 (kN 2) yX2_open := ⟨(wa2 (List.mem_of_getElem? (i := 88) (by decide +kernel)) rfl), (wa2 (List.mem_of_getElem? (i := 90) (by decide +kernel)) rfl), (wa0 (List.mem_of_getElem? (i := 5) (by decide +kernel)) rfl), rfl⟩
theorem f_X2_66 : FLk RX2 66 0 8 := flk0 (by decide) (wa1 (List.mem_of_getElem? (i := 50) (by decide +kernel)) rfl) (by decide)
theorem mv_X2_71 : MV RX2 71 (kN 2) yX2_planShow := ⟨(wa2 (List.mem_of_getElem? (i := 101) (by decide +kernel)) rfl), (wa2 (List.mem_of_getElem? (i := 103) (by decide +kernel)) rfl), (wa0 (List.mem_of_getElem? (i := 8) (by decide +kernel)) rfl), rfl⟩
theorem mv_X2_75 : MV RX2 75 (kN 2) yX2_make := ⟨(wa2 (List.mem_of_getElem? (i := 165) (by decide +kernel)) rfl), (wa2 (List.mem_of_getElem? (i := 85) (by decide +kernel)) rfl), (wa2 (List.mem_of_getElem? (i := 86) (by decide +kernel)) rfl), rfl⟩
theorem f_X2_78 : FLk RX2 78 0 3 := flk0 (by decide) (wa1 (List.mem_of_getElem? (i := 36) (by decide +kernel)) rfl) (by decide)
theorem mv_X2_81 : MV RX2 81 (kN 2) yX2_bringHome := ⟨(wa2 (List.mem_of_getElem? (i := 92) (by decide +kernel)) rfl), (wa2 (List.mem_of_getElem? (i := 94) (by decide +kernel)) rfl), (wa0 (List.mem_of_getElem? (i := 6) (by decide +kernel)) rfl), rfl⟩
theorem mv_X2_85 : MV RX2 85 (kN 2) yX2_sortShows := ⟨(wa2 (List.mem_of_getElem? (i := 97) (by decide +kernel)) rfl), (wa2 (List.mem_of_getElem? (i := 99) (by decide +kernel)) rfl), (wa0 (List.mem_of_getElem? (i := 7) (by decide +kernel)) rfl), rfl⟩
theorem f_X2_92 : FLk RX2 92 0 11 := flk0 (by decide) (wa1 (List.mem_of_getElem? (i := 58) (by decide +kernel)) rfl) (by decide)
theorem f_X2_95 : FLk RX2 95 0 9 := flk0 (by decide) (wa1 (List.mem_of_getElem? (i := 53) (by decide +kernel)) rfl) (by decide)
theorem mv_X2_98 : MV RX2 98 (kN 0) yX0_firstMachineIn := ⟨(wa2 (List.mem_of_getElem? (i := 105) (by decide +kernel)) rfl), (wa2 (List.mem_of_getElem? (i := 106) (by decide +kernel)) rfl), (wa2 (List.mem_of_getElem? (i := 107) (by decide +kernel)) rfl), rfl⟩
theorem f_X2_102 : FLk RX2 102 0 0 := flk0 (by decide) (wa1 (List.mem_of_getElem? (i := 29) (by decide +kernel)) rfl) (by decide)
theorem f_X2_105 : FLk RX2 105 0 10 := flk0 (by decide) (wa1 (List.mem_of_getElem? (i := 55) (by decide +kernel)) rfl) (by decide)
theorem mv_X2_108 : MV RX2 108 (kN 2) yX2_planReel := ⟨(wa2 (List.mem_of_getElem? (i := 109) (by decide +kernel)) rfl), (wa2 (List.mem_of_getElem? (i := 111) (by decide +kernel)) rfl), (wa0 (List.mem_of_getElem? (i := 9) (by decide +kernel)) rfl), rfl⟩
theorem f_X2_112 : FLk RX2 112 0 2 := flk0 (by decide) (wa1 (List.mem_of_getElem? (i := 33) (by decide +kernel)) rfl) (by decide)
theorem mv_X2_115 : MV RX2 115 (kN 2) yX2_bring := ⟨(wa2 (List.mem_of_getElem? (i := 113) (by decide +kernel)) rfl), (wa2 (List.mem_of_getElem? (i := 115) (by decide +kernel)) rfl), (wa0 (List.mem_of_getElem? (i := 10) (by decide +kernel)) rfl), rfl⟩
theorem mv_X2_119 : MV RX2 119 (kN 2) yX2_soonestMachine := ⟨(wa2 (List.mem_of_getElem? (i := 124) (by decide +kernel)) rfl), (wa2 (List.mem_of_getElem? (i := 126) (by decide +kernel)) rfl), (wa0 (List.mem_of_getElem? (i := 12) (by decide +kernel)) rfl), rfl⟩
theorem mv_X2_122 : MV RX2 122 (kN 2) yX2_startOn := ⟨(wa2 (List.mem_of_getElem? (i := 128) (by decide +kernel)) rfl), (wa2 (List.mem_of_getElem? (i := 130) (by decide +kernel)) rfl), (wa0 (List.mem_of_getElem? (i := 13) (by decide +kernel)) rfl), rfl⟩
theorem f_X2_125 : FLk RX2 125 0 1 := flk0 (by decide) (wa1 (List.mem_of_getElem? (i := 31) (by decide +kernel)) rfl) (by decide)
theorem mv_X2_128 : MV RX2 128 (kN 0) yX0_repairTime := ⟨(wa2 (List.mem_of_getElem? (i := 136) (by decide +kernel)) rfl), (wa2 (List.mem_of_getElem? (i := 137) (by decide +kernel)) rfl), (wa2 (List.mem_of_getElem? (i := 138) (by decide +kernel)) rfl), rfl⟩
theorem mv_X2_131 : MV RX2 131 (kN 2) yX2_needsPlate := ⟨(wa2 (List.mem_of_getElem? (i := 132) (by decide +kernel)) rfl), (wa2 (List.mem_of_getElem? (i := 134) (by decide +kernel)) rfl), (wa0 (List.mem_of_getElem? (i := 14) (by decide +kernel)) rfl), rfl⟩
theorem f_X2_135 : FLk RX2 135 0 7 := flk0 (by decide) (wa1 (List.mem_of_getElem? (i := 47) (by decide +kernel)) rfl) (by decide)
theorem mv_X2_138 : MV RX2 138 (kN 2) yX2_soonestCarrier := ⟨(wa2 (List.mem_of_getElem? (i := 117) (by decide +kernel)) rfl), (wa2 (List.mem_of_getElem? (i := 119) (by decide +kernel)) rfl), (wa0 (List.mem_of_getElem? (i := 11) (by decide +kernel)) rfl), rfl⟩
theorem ms_X2_142 : Cond.methodLink RX2 142 Lib.Math.max.name ∈ wA := (wa2 (List.mem_of_getElem? (i := 121) (by decide +kernel)) rfl)
theorem f_X2_147 : FLk RX2 147 0 6 := flk0 (by decide) (wa1 (List.mem_of_getElem? (i := 45) (by decide +kernel)) rfl) (by decide)
theorem f_X2_150 : FLk RX2 150 0 5 := flk0 (by decide) (wa1 (List.mem_of_getElem? (i := 42) (by decide +kernel)) rfl) (by decide)
theorem f_X2_153 : FLk RX2 153 0 4 := flk0 (by decide) (wa1 (List.mem_of_getElem? (i := 39) (by decide +kernel)) rfl) (by decide)
theorem mv_L_13 : MV RL 13 (kN 3) yX3_addReel := ⟨(wa1 (List.mem_of_getElem? (i := 194) (by decide +kernel)) rfl), (wa1 (List.mem_of_getElem? (i := 195) (by decide +kernel)) rfl), (wa1 (List.mem_of_getElem? (i := 196) (by decide +kernel)) rfl), rfl⟩
theorem mv_L_17 : MV RL 17 (kN 4) yX4_addReel := ⟨(wa3 (List.mem_of_getElem? (i := 40) (by decide +kernel)) rfl), (wa3 (List.mem_of_getElem? (i := 41) (by decide +kernel)) rfl), (wa3 (List.mem_of_getElem? (i := 42) (by decide +kernel)) rfl), rfl⟩
theorem mv_L_18 : MV RL 18 (kN 3) yX3_removeReels := ⟨(wa1 (List.mem_of_getElem? (i := 220) (by decide +kernel)) rfl), (wa1 (List.mem_of_getElem? (i := 221) (by decide +kernel)) rfl), (wa1 (List.mem_of_getElem? (i := 222) (by decide +kernel)) rfl), rfl⟩
theorem mv_L_22 : MV RL 22 (kN 4) yX4_removeReels := ⟨(wa3 (List.mem_of_getElem? (i := 57) (by decide +kernel)) rfl), (wa3 (List.mem_of_getElem? (i := 58) (by decide +kernel)) rfl), (wa3 (List.mem_of_getElem? (i := 59) (by decide +kernel)) rfl), rfl⟩
theorem mv_L_23 : MV RL 23 (kN 3) yX3_setHome := ⟨(wa1 (List.mem_of_getElem? (i := 228) (by decide +kernel)) rfl), (wa1 (List.mem_of_getElem? (i := 229) (by decide +kernel)) rfl), (wa1 (List.mem_of_getElem? (i := 230) (by decide +kernel)) rfl), rfl⟩
theorem mv_L_27 : MV RL 27 (kN 4) yX4_setHome := ⟨(wa3 (List.mem_of_getElem? (i := 61) (by decide +kernel)) rfl), (wa3 (List.mem_of_getElem? (i := 62) (by decide +kernel)) rfl), (wa3 (List.mem_of_getElem? (i := 63) (by decide +kernel)) rfl), rfl⟩
theorem mv_L_28 : MV RL 28 (kN 3) yX3_filmLength := ⟨(wa1 (List.mem_of_getElem? (i := 232) (by decide +kernel)) rfl), (wa1 (List.mem_of_getElem? (i := 233) (by decide +kernel)) rfl), (wa1 (List.mem_of_getElem? (i := 234) (by decide +kernel)) rfl), rfl⟩
theorem mv_L_31 : MV RL 31 (kN 4) yX4_filmLength := ⟨(wa3 (List.mem_of_getElem? (i := 68) (by decide +kernel)) rfl), (wa3 (List.mem_of_getElem? (i := 69) (by decide +kernel)) rfl), (wa3 (List.mem_of_getElem? (i := 70) (by decide +kernel)) rfl), rfl⟩
theorem mv_L_32 : MV RL 32 (kN 3) yX3_addMachine := ⟨(wa2 (List.mem_of_getElem? (i := 0) (by decide +kernel)) rfl), (wa2 (List.mem_of_getElem? (i := 1) (by decide +kernel)) rfl), (wa2 (List.mem_of_getElem? (i := 2) (by decide +kernel)) rfl), rfl⟩
theorem mv_L_35 : MV RL 35 (kN 4) yX4_addMachine := ⟨(wa3 (List.mem_of_getElem? (i := 72) (by decide +kernel)) rfl), (wa3 (List.mem_of_getElem? (i := 73) (by decide +kernel)) rfl), (wa3 (List.mem_of_getElem? (i := 74) (by decide +kernel)) rfl), rfl⟩
theorem mv_L_36 : MV RL 36 (kN 3) yX3_removeMachine := ⟨(wa2 (List.mem_of_getElem? (i := 8) (by decide +kernel)) rfl), (wa2 (List.mem_of_getElem? (i := 9) (by decide +kernel)) rfl), (wa2 (List.mem_of_getElem? (i := 10) (by decide +kernel)) rfl), rfl⟩
theorem mv_L_39 : MV RL 39 (kN 4) yX4_removeMachine := ⟨(wa3 (List.mem_of_getElem? (i := 76) (by decide +kernel)) rfl), (wa3 (List.mem_of_getElem? (i := 77) (by decide +kernel)) rfl), (wa3 (List.mem_of_getElem? (i := 78) (by decide +kernel)) rfl), rfl⟩
theorem mv_L_40 : MV RL 40 (kN 3) yX3_houseOf := ⟨(wa2 (List.mem_of_getElem? (i := 20) (by decide +kernel)) rfl), (wa2 (List.mem_of_getElem? (i := 21) (by decide +kernel)) rfl), (wa2 (List.mem_of_getElem? (i := 22) (by decide +kernel)) rfl), rfl⟩
theorem mv_L_43 : MV RL 43 (kN 4) yX4_houseOf := ⟨(wa3 (List.mem_of_getElem? (i := 84) (by decide +kernel)) rfl), (wa3 (List.mem_of_getElem? (i := 85) (by decide +kernel)) rfl), (wa3 (List.mem_of_getElem? (i := 86) (by decide +kernel)) rfl), rfl⟩
theorem mv_L_44 : MV RL 44 (kN 3) yX3_setCarriers := ⟨(wa2 (List.mem_of_getElem? (i := 24) (by decide +kernel)) rfl), (wa2 (List.mem_of_getElem? (i := 25) (by decide +kernel)) rfl), (wa2 (List.mem_of_getElem? (i := 26) (by decide +kernel)) rfl), rfl⟩
theorem mv_L_47 : MV RL 47 (kN 4) yX4_setCarriers := ⟨(wa3 (List.mem_of_getElem? (i := 88) (by decide +kernel)) rfl), (wa3 (List.mem_of_getElem? (i := 89) (by decide +kernel)) rfl), (wa3 (List.mem_of_getElem? (i := 90) (by decide +kernel)) rfl), rfl⟩
theorem mv_L_48 : MV RL 48 (kN 3) yX3_setDuration := ⟨(wa2 (List.mem_of_getElem? (i := 28) (by decide +kernel)) rfl), (wa2 (List.mem_of_getElem? (i := 29) (by decide +kernel)) rfl), (wa2 (List.mem_of_getElem? (i := 30) (by decide +kernel)) rfl), rfl⟩
theorem mv_L_51 : MV RL 51 (kN 4) yX4_setDuration := ⟨(wa3 (List.mem_of_getElem? (i := 92) (by decide +kernel)) rfl), (wa3 (List.mem_of_getElem? (i := 93) (by decide +kernel)) rfl), (wa3 (List.mem_of_getElem? (i := 94) (by decide +kernel)) rfl), rfl⟩
theorem mv_L_52 : MV RL 52 (kN 3) yX3_addShow := ⟨(wa2 (List.mem_of_getElem? (i := 36) (by decide +kernel)) rfl), (wa2 (List.mem_of_getElem? (i := 37) (by decide +kernel)) rfl), (wa2 (List.mem_of_getElem? (i := 38) (by decide +kernel)) rfl), rfl⟩
theorem mv_L_55 : MV RL 55 (kN 4) yX4_addShow := ⟨(wa3 (List.mem_of_getElem? (i := 98) (by decide +kernel)) rfl), (wa3 (List.mem_of_getElem? (i := 99) (by decide +kernel)) rfl), (wa3 (List.mem_of_getElem? (i := 100) (by decide +kernel)) rfl), rfl⟩
theorem mv_L_56 : MV RL 56 (kN 3) yX3_removeShow := ⟨(wa2 (List.mem_of_getElem? (i := 44) (by decide +kernel)) rfl), (wa2 (List.mem_of_getElem? (i := 45) (by decide +kernel)) rfl), (wa2 (List.mem_of_getElem? (i := 46) (by decide +kernel)) rfl), rfl⟩
theorem mv_L_59 : MV RL 59 (kN 4) yX4_removeShow := ⟨(wa3 (List.mem_of_getElem? (i := 106) (by decide +kernel)) rfl), (wa3 (List.mem_of_getElem? (i := 107) (by decide +kernel)) rfl), (wa3 (List.mem_of_getElem? (i := 108) (by decide +kernel)) rfl), rfl⟩
theorem mv_L_60 : MV RL 60 (kN 3) yX3_moveShow := ⟨(wa2 (List.mem_of_getElem? (i := 60) (by decide +kernel)) rfl), (wa2 (List.mem_of_getElem? (i := 61) (by decide +kernel)) rfl), (wa2 (List.mem_of_getElem? (i := 62) (by decide +kernel)) rfl), rfl⟩
theorem mv_L_63 : MV RL 63 (kN 4) yX4_moveShow := ⟨(wa3 (List.mem_of_getElem? (i := 118) (by decide +kernel)) rfl), (wa3 (List.mem_of_getElem? (i := 119) (by decide +kernel)) rfl), (wa3 (List.mem_of_getElem? (i := 120) (by decide +kernel)) rfl), rfl⟩
theorem mv_L_64 : MV RL 64 (kN 3) yX3_addBreak := ⟨(wa2 (List.mem_of_getElem? (i := 64) (by decide +kernel)) rfl), (wa2 (List.mem_of_getElem? (i := 65) (by decide +kernel)) rfl), (wa2 (List.mem_of_getElem? (i := 66) (by decide +kernel)) rfl), rfl⟩
theorem mv_L_67 : MV RL 67 (kN 4) yX4_addBreak := ⟨(wa3 (List.mem_of_getElem? (i := 122) (by decide +kernel)) rfl), (wa3 (List.mem_of_getElem? (i := 123) (by decide +kernel)) rfl), (wa3 (List.mem_of_getElem? (i := 124) (by decide +kernel)) rfl), rfl⟩
theorem mv_L_68 : MV RL 68 (kN 3) yX3_clearBreaks := ⟨(wa2 (List.mem_of_getElem? (i := 76) (by decide +kernel)) rfl), (wa2 (List.mem_of_getElem? (i := 77) (by decide +kernel)) rfl), (wa2 (List.mem_of_getElem? (i := 78) (by decide +kernel)) rfl), rfl⟩
theorem mv_L_72 : MV RL 72 (kN 4) yX4_clearBreaks := ⟨(wa3 (List.mem_of_getElem? (i := 131) (by decide +kernel)) rfl), (wa3 (List.mem_of_getElem? (i := 132) (by decide +kernel)) rfl), (wa3 (List.mem_of_getElem? (i := 133) (by decide +kernel)) rfl), rfl⟩
theorem mv_L_73 : MV RL 73 (kN 3) yX3_startOf := ⟨(wa2 (List.mem_of_getElem? (i := 80) (by decide +kernel)) rfl), (wa2 (List.mem_of_getElem? (i := 81) (by decide +kernel)) rfl), (wa2 (List.mem_of_getElem? (i := 82) (by decide +kernel)) rfl), rfl⟩
theorem mv_L_76 : MV RL 76 (kN 4) yX4_startOf := ⟨(wa3 (List.mem_of_getElem? (i := 135) (by decide +kernel)) rfl), (wa3 (List.mem_of_getElem? (i := 136) (by decide +kernel)) rfl), (wa3 (List.mem_of_getElem? (i := 137) (by decide +kernel)) rfl), rfl⟩
theorem mv_L_77 : MV RL 77 (kN 3) yX3_machineOf := ⟨(wa2 (List.mem_of_getElem? (i := 141) (by decide +kernel)) rfl), (wa2 (List.mem_of_getElem? (i := 142) (by decide +kernel)) rfl), (wa2 (List.mem_of_getElem? (i := 143) (by decide +kernel)) rfl), rfl⟩
theorem mv_L_80 : MV RL 80 (kN 4) yX4_machineOf := ⟨(wa3 (List.mem_of_getElem? (i := 167) (by decide +kernel)) rfl), (wa3 (List.mem_of_getElem? (i := 168) (by decide +kernel)) rfl), (wa3 (List.mem_of_getElem? (i := 169) (by decide +kernel)) rfl), rfl⟩
theorem mv_L_81 : MV RL 81 (kN 3) yX3_endOf := ⟨(wa2 (List.mem_of_getElem? (i := 145) (by decide +kernel)) rfl), (wa2 (List.mem_of_getElem? (i := 146) (by decide +kernel)) rfl), (wa2 (List.mem_of_getElem? (i := 147) (by decide +kernel)) rfl), rfl⟩
theorem mv_L_84 : MV RL 84 (kN 4) yX4_endOf := ⟨(wa3 (List.mem_of_getElem? (i := 171) (by decide +kernel)) rfl), (wa3 (List.mem_of_getElem? (i := 172) (by decide +kernel)) rfl), (wa3 (List.mem_of_getElem? (i := 173) (by decide +kernel)) rfl), rfl⟩
theorem mv_L_85 : MV RL 85 (kN 3) yX3_delayOf := ⟨(wa2 (List.mem_of_getElem? (i := 149) (by decide +kernel)) rfl), (wa2 (List.mem_of_getElem? (i := 150) (by decide +kernel)) rfl), (wa2 (List.mem_of_getElem? (i := 151) (by decide +kernel)) rfl), rfl⟩
theorem mv_L_88 : MV RL 88 (kN 4) yX4_delayOf := ⟨(wa3 (List.mem_of_getElem? (i := 175) (by decide +kernel)) rfl), (wa3 (List.mem_of_getElem? (i := 176) (by decide +kernel)) rfl), (wa3 (List.mem_of_getElem? (i := 177) (by decide +kernel)) rfl), rfl⟩
theorem mv_L_89 : MV RL 89 (kN 3) yX3_gapOf := ⟨(wa2 (List.mem_of_getElem? (i := 153) (by decide +kernel)) rfl), (wa2 (List.mem_of_getElem? (i := 154) (by decide +kernel)) rfl), (wa2 (List.mem_of_getElem? (i := 155) (by decide +kernel)) rfl), rfl⟩
theorem mv_L_92 : MV RL 92 (kN 4) yX4_gapOf := ⟨(wa3 (List.mem_of_getElem? (i := 179) (by decide +kernel)) rfl), (wa3 (List.mem_of_getElem? (i := 180) (by decide +kernel)) rfl), (wa3 (List.mem_of_getElem? (i := 181) (by decide +kernel)) rfl), rfl⟩
theorem mv_L_93 : MV RL 93 (kN 3) yX3_loss := ⟨(wa2 (List.mem_of_getElem? (i := 157) (by decide +kernel)) rfl), (wa2 (List.mem_of_getElem? (i := 158) (by decide +kernel)) rfl), (wa2 (List.mem_of_getElem? (i := 159) (by decide +kernel)) rfl), rfl⟩
theorem mv_L_96 : MV RL 96 (kN 4) yX4_loss := ⟨(wa3 (List.mem_of_getElem? (i := 183) (by decide +kernel)) rfl), (wa3 (List.mem_of_getElem? (i := 184) (by decide +kernel)) rfl), (wa3 (List.mem_of_getElem? (i := 185) (by decide +kernel)) rfl), rfl⟩
theorem mv_L_97 : MV RL 97 (kN 3) yX3_carriedReels := ⟨(wa2 (List.mem_of_getElem? (i := 166) (by decide +kernel)) rfl), (wa2 (List.mem_of_getElem? (i := 167) (by decide +kernel)) rfl), (wa2 (List.mem_of_getElem? (i := 168) (by decide +kernel)) rfl), rfl⟩
theorem mv_L_100 : MV RL 100 (kN 4) yX4_carriedReels := ⟨(wa3 (List.mem_of_getElem? (i := 187) (by decide +kernel)) rfl), (wa3 (List.mem_of_getElem? (i := 188) (by decide +kernel)) rfl), (wa3 (List.mem_of_getElem? (i := 189) (by decide +kernel)) rfl), rfl⟩
theorem mv_L_101 : MV RL 101 (kN 3) yX3_plateChanges := ⟨(wa2 (List.mem_of_getElem? (i := 170) (by decide +kernel)) rfl), (wa2 (List.mem_of_getElem? (i := 171) (by decide +kernel)) rfl), (wa2 (List.mem_of_getElem? (i := 172) (by decide +kernel)) rfl), rfl⟩
theorem mv_L_104 : MV RL 104 (kN 4) yX4_plateChanges := ⟨(wa3 (List.mem_of_getElem? (i := 191) (by decide +kernel)) rfl), (wa3 (List.mem_of_getElem? (i := 192) (by decide +kernel)) rfl), (wa3 (List.mem_of_getElem? (i := 193) (by decide +kernel)) rfl), rfl⟩
theorem mv_L_105 : MV RL 105 (kN 3) yX3_machineTime := ⟨(wa2 (List.mem_of_getElem? (i := 174) (by decide +kernel)) rfl), (wa2 (List.mem_of_getElem? (i := 175) (by decide +kernel)) rfl), (wa2 (List.mem_of_getElem? (i := 176) (by decide +kernel)) rfl), rfl⟩
theorem mv_L_108 : MV RL 108 (kN 4) yX4_machineTime := ⟨(wa3 (List.mem_of_getElem? (i := 195) (by decide +kernel)) rfl), (wa3 (List.mem_of_getElem? (i := 196) (by decide +kernel)) rfl), (wa3 (List.mem_of_getElem? (i := 197) (by decide +kernel)) rfl), rfl⟩
theorem mv_L_109 : MV RL 109 (kN 3) yX3_leastShift := ⟨(wa2 (List.mem_of_getElem? (i := 178) (by decide +kernel)) rfl), (wa2 (List.mem_of_getElem? (i := 179) (by decide +kernel)) rfl), (wa2 (List.mem_of_getElem? (i := 180) (by decide +kernel)) rfl), rfl⟩
theorem mv_L_112 : MV RL 112 (kN 4) yX4_leastShift := ⟨(wa3 (List.mem_of_getElem? (i := 199) (by decide +kernel)) rfl), (wa3 (List.mem_of_getElem? (i := 200) (by decide +kernel)) rfl), (wa3 (List.mem_of_getElem? (i := 201) (by decide +kernel)) rfl), rfl⟩
theorem mv_L_113 : MV RL 113 (kN 3) yX3_removalGain := ⟨(wa2 (List.mem_of_getElem? (i := 190) (by decide +kernel)) rfl), (wa2 (List.mem_of_getElem? (i := 191) (by decide +kernel)) rfl), (wa2 (List.mem_of_getElem? (i := 192) (by decide +kernel)) rfl), rfl⟩
theorem mv_L_116 : MV RL 116 (kN 4) yX4_removalGain := ⟨(wa3 (List.mem_of_getElem? (i := 211) (by decide +kernel)) rfl), (wa3 (List.mem_of_getElem? (i := 212) (by decide +kernel)) rfl), (wa3 (List.mem_of_getElem? (i := 213) (by decide +kernel)) rfl), rfl⟩
theorem mv_L_117 : MV RL 117 (kN 3) yX3_bestHomes := ⟨(wa2 (List.mem_of_getElem? (i := 195) (by decide +kernel)) rfl), (wa2 (List.mem_of_getElem? (i := 196) (by decide +kernel)) rfl), (wa2 (List.mem_of_getElem? (i := 197) (by decide +kernel)) rfl), rfl⟩
theorem mv_L_120 : MV RL 120 (kN 4) yX4_bestHomes := ⟨(wa3 (List.mem_of_getElem? (i := 216) (by decide +kernel)) rfl), (wa3 (List.mem_of_getElem? (i := 217) (by decide +kernel)) rfl), (wa3 (List.mem_of_getElem? (i := 218) (by decide +kernel)) rfl), rfl⟩
theorem mv_L_121 : MV RL 121 (kN 3) yX3_missingMachines := ⟨(wa2 (List.mem_of_getElem? (i := 203) (by decide +kernel)) rfl), (wa2 (List.mem_of_getElem? (i := 204) (by decide +kernel)) rfl), (wa2 (List.mem_of_getElem? (i := 205) (by decide +kernel)) rfl), rfl⟩
theorem mv_L_124 : MV RL 124 (kN 4) yX4_missingMachines := ⟨(wa3 (List.mem_of_getElem? (i := 220) (by decide +kernel)) rfl), (wa3 (List.mem_of_getElem? (i := 221) (by decide +kernel)) rfl), (wa3 (List.mem_of_getElem? (i := 222) (by decide +kernel)) rfl), rfl⟩
theorem mv_L_125 : MV RL 125 (kN 3) yX3_undo := ⟨(wa2 (List.mem_of_getElem? (i := 207) (by decide +kernel)) rfl), (wa2 (List.mem_of_getElem? (i := 208) (by decide +kernel)) rfl), (wa2 (List.mem_of_getElem? (i := 209) (by decide +kernel)) rfl), rfl⟩
theorem mv_L_128 : MV RL 128 (kN 4) yX4_undo := ⟨(wa3 (List.mem_of_getElem? (i := 36) (by decide +kernel)) rfl), (wa3 (List.mem_of_getElem? (i := 37) (by decide +kernel)) rfl), (wa3 (List.mem_of_getElem? (i := 38) (by decide +kernel)) rfl), rfl⟩
theorem st_reelPlace : Cond.static yX3_reelPlace ∈ wA := (wa1 (List.mem_of_getElem? (i := 218) (by decide +kernel)) rfl)
theorem mmax_s : Cond.static Lib.Math.max.name ∈ wA := (wa2 (List.mem_of_getElem? (i := 122) (by decide +kernel)) rfl)
theorem mmax_c : Cond.code Lib.Math.max.name Lib.Math.max.code 2 (some .int) ∈ wA := (wa2 (List.mem_of_getElem? (i := 123) rfl) rfl)
theorem mmin_s : Cond.static Lib.Math.min.name ∈ wA := (wa2 (List.mem_of_getElem? (i := 184) (by decide +kernel)) rfl)
theorem mmin_c : Cond.code Lib.Math.min.name Lib.Math.min.code 2 (some .int) ∈ wA := (wa2 (List.mem_of_getElem? (i := 185) rfl) rfl)
theorem mmath_i : Cond.initialized "java/lang/Math" ∈ wA := (wa1 (List.mem_of_getElem? (i := 7) (by decide +kernel)) rfl)
theorem ac_n : Cond.native arraycopyName ∈ wA := (wa1 (List.mem_of_getElem? (i := 26) (by decide +kernel)) rfl)
theorem ac_s : Cond.static arraycopyName ∈ wA := (wa1 (List.mem_of_getElem? (i := 25) (by decide +kernel)) rfl)
theorem ac_i : Cond.initialized "java/lang/System" ∈ wA := (wa1 (List.mem_of_getElem? (i := 3) (by decide +kernel)) rfl)
theorem oo0 : 0 < 11 := by decide
theorem kk0 : kd 0 = 0 := rfl
theorem oo1 : 1 < 11 := by decide
theorem kk1 : kd 1 = 0 := rfl
theorem oo2 : 2 < 11 := by decide
theorem kk2 : kd 2 = 0 := rfl
theorem oo3 : 3 < 11 := by decide
theorem kk3 : kd 3 = 0 := rfl
theorem oo4 : 4 < 11 := by decide
theorem kk4 : kd 4 = 0 := rfl
theorem oo5 : 5 < 11 := by decide
theorem kk5 : kd 5 = 0 := rfl
theorem oo6 : 6 < 11 := by decide
theorem kk6 : kd 6 = 0 := rfl
theorem oo7 : 7 < 11 := by decide
theorem kk7 : kd 7 = 1 := rfl
theorem oo8 : 8 < 11 := by decide
theorem kk8 : kd 8 = 2 := rfl
theorem oo9 : 9 < 11 := by decide
theorem kk9 : kd 9 = 3 := rfl
theorem oo10 : 10 < 11 := by decide
theorem kk10 : kd 10 = 4 := rfl
