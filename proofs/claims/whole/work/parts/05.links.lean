set_option maxRecDepth 100000 in
theorem mm {w : Cond} (i : Nat) (h : tables_1[i]? = some w) (g : mGood w = true) : w ∈ mTs := mTs_mem (List.mem_append_right _ (List.mem_of_getElem? h)) g
set_option maxRecDepth 100000 in
theorem mp {w : Cond} (i : Nat) (h : (k2_sels lw_privs)[i]? = some w) (g : mGood w = true) : w ∈ mTs := mTs_mem (List.mem_append_left _ (List.mem_of_getElem? h)) g
set_option maxRecDepth 100000 in
theorem mn {w : Cond} (i : Nat) (h : tables_1[i]? = some w) (g : mNest w = true) : w ∈ mTn := mTn_mem (List.mem_append_right _ (List.mem_of_getElem? h)) g
abbrev kX0_init : mM := (yX0_init, cX0_init, 1, none)
set_option maxRecDepth 100000 in
theorem mkX0_init : mMk kX0_init 0 := ⟨mm 200 (by decide +kernel) (by decide +kernel), mm 7 (by decide +kernel) (by decide +kernel), ⟨by decide +kernel, by decide +kernel, by decide +kernel⟩, by decide⟩
abbrev kX0_get : mM := (yX0_get, cX0_get, 2, (some (FieldType.object "FogIsland$Coast")))
set_option maxRecDepth 100000 in
theorem mkX0_get : mMk kX0_get 1 := ⟨mm 641 (by decide +kernel) (by decide +kernel), mm 7 (by decide +kernel) (by decide +kernel), ⟨by decide +kernel, by decide +kernel, by decide +kernel⟩, by decide⟩
abbrev kX0_restart : mM := (yX0_restart, cX0_restart, 2, none)
set_option maxRecDepth 100000 in
theorem mkX0_restart : mMk kX0_restart 0 := ⟨mm 632 (by decide +kernel) (by decide +kernel), mm 7 (by decide +kernel) (by decide +kernel), ⟨by decide +kernel, by decide +kernel, by decide +kernel⟩, by decide⟩
abbrev kX0_dropBeyond : mM := (yX0_dropBeyond, cX0_dropBeyond, 4, none)
set_option maxRecDepth 100000 in
theorem mkX0_dropBeyond : mMk kX0_dropBeyond 1 := ⟨mm 839 (by decide +kernel) (by decide +kernel), mm 7 (by decide +kernel) (by decide +kernel), ⟨by decide +kernel, by decide +kernel, by decide +kernel⟩, by decide⟩
abbrev kX0_survey : mM := (yX0_survey, cX0_survey, 5, none)
set_option maxRecDepth 100000 in
theorem mkX0_survey : mMk kX0_survey 2 := ⟨mm 935 (by decide +kernel) (by decide +kernel), mm 7 (by decide +kernel) (by decide +kernel), ⟨by decide +kernel, by decide +kernel, by decide +kernel⟩, by decide⟩
abbrev kX0_isSureWater : mM := (yX0_isSureWater, cX0_isSureWater, 3, (some FieldType.boolean))
set_option maxRecDepth 100000 in
theorem mkX0_isSureWater : mMk kX0_isSureWater 2 := ⟨mm 947 (by decide +kernel) (by decide +kernel), mm 7 (by decide +kernel) (by decide +kernel), ⟨by decide +kernel, by decide +kernel, by decide +kernel⟩, by decide⟩
abbrev kX0_lowestFitting : mM := (yX0_lowestFitting, cX0_lowestFitting, 5, (some FieldType.int))
set_option maxRecDepth 100000 in
theorem mkX0_lowestFitting : mMk kX0_lowestFitting 3 := ⟨mm 942 (by decide +kernel) (by decide +kernel), mm 7 (by decide +kernel) (by decide +kernel), ⟨by decide +kernel, by decide +kernel, by decide +kernel⟩, by decide⟩
abbrev kX0_fillPool : mM := (yX0_fillPool, cX0_fillPool, 6, none)
set_option maxRecDepth 100000 in
theorem mkX0_fillPool : mMk kX0_fillPool 2 := ⟨mm 1059 (by decide +kernel) (by decide +kernel), mm 7 (by decide +kernel) (by decide +kernel), ⟨by decide +kernel, by decide +kernel, by decide +kernel⟩, by decide⟩
abbrev kX0_growPool : mM := (yX0_growPool, cX0_growPool, 6, (some FieldType.boolean))
set_option maxRecDepth 100000 in
theorem mkX0_growPool : mMk kX0_growPool 1 := ⟨mm 1063 (by decide +kernel) (by decide +kernel), mm 7 (by decide +kernel) (by decide +kernel), ⟨by decide +kernel, by decide +kernel, by decide +kernel⟩, by decide⟩
abbrev kX0_besidePool : mM := (yX0_besidePool, cX0_besidePool, 4, (some FieldType.int))
set_option maxRecDepth 100000 in
theorem mkX0_besidePool : mMk kX0_besidePool 1 := ⟨mm 1067 (by decide +kernel) (by decide +kernel), mm 7 (by decide +kernel) (by decide +kernel), ⟨by decide +kernel, by decide +kernel, by decide +kernel⟩, by decide⟩
abbrev kX0_wallCells : mM := (yX0_wallCells, cX0_wallCells, 5, (some FieldType.int))
set_option maxRecDepth 100000 in
theorem mkX0_wallCells : mMk kX0_wallCells 1 := ⟨mm 1071 (by decide +kernel) (by decide +kernel), mm 7 (by decide +kernel) (by decide +kernel), ⟨by decide +kernel, by decide +kernel, by decide +kernel⟩, by decide⟩
abbrev kX1_init : mM := (yX1_init, cX1_init, 3, none)
set_option maxRecDepth 100000 in
theorem mkX1_init : mMk kX1_init 2 := ⟨mm 381 (by decide +kernel) (by decide +kernel), mm 11 (by decide +kernel) (by decide +kernel), ⟨by decide +kernel, by decide +kernel, by decide +kernel⟩, by decide⟩
abbrev kX1_copyMoved : mM := (yX1_copyMoved, cX1_copyMoved, 8, none)
set_option maxRecDepth 100000 in
theorem mkX1_copyMoved : mMk kX1_copyMoved 3 := ⟨mm 650 (by decide +kernel) (by decide +kernel), mm 11 (by decide +kernel) (by decide +kernel), ⟨by decide +kernel, by decide +kernel, by decide +kernel⟩, by decide⟩
abbrev kX1_canMoveSide : mM := (yX1_canMoveSide, cX1_canMoveSide, 7, (some FieldType.boolean))
set_option maxRecDepth 100000 in
theorem mkX1_canMoveSide : mMk kX1_canMoveSide 2 := ⟨mm 645 (by decide +kernel) (by decide +kernel), mm 11 (by decide +kernel) (by decide +kernel), ⟨by decide +kernel, by decide +kernel, by decide +kernel⟩, by decide⟩
abbrev kX1_drawLand : mM := (yX1_drawLand, cX1_drawLand, 3, none)
set_option maxRecDepth 100000 in
theorem mkX1_drawLand : mMk kX1_drawLand 0 := ⟨mm 446 (by decide +kernel) (by decide +kernel), mm 11 (by decide +kernel) (by decide +kernel), ⟨by decide +kernel, by decide +kernel, by decide +kernel⟩, by decide⟩
abbrev kX1_turnBeyond : mM := (yX1_turnBeyond, cX1_turnBeyond, 7, none)
set_option maxRecDepth 100000 in
theorem mkX1_turnBeyond : mMk kX1_turnBeyond 4 := ⟨mm 449 (by decide +kernel) (by decide +kernel), mm 11 (by decide +kernel) (by decide +kernel), ⟨by decide +kernel, by decide +kernel, by decide +kernel⟩, by decide⟩
abbrev kX1_isLand : mM := (yX1_isLand, cX1_isLand, 3, (some FieldType.boolean))
set_option maxRecDepth 100000 in
theorem mkX1_isLand : mMk kX1_isLand 2 := ⟨mm 661 (by decide +kernel) (by decide +kernel), mm 11 (by decide +kernel) (by decide +kernel), ⟨by decide +kernel, by decide +kernel, by decide +kernel⟩, by decide⟩
abbrev kX1_landBetween : mM := (yX1_landBetween, cX1_landBetween, 7, (some FieldType.int))
set_option maxRecDepth 100000 in
theorem mkX1_landBetween : mMk kX1_landBetween 4 := ⟨mm 713 (by decide +kernel) (by decide +kernel), mm 11 (by decide +kernel) (by decide +kernel), ⟨by decide +kernel, by decide +kernel, by decide +kernel⟩, by decide⟩
abbrev kX1_sweep : mM := (yX1_sweep, cX1_sweep, 3, none)
set_option maxRecDepth 100000 in
theorem mkX1_sweep : mMk kX1_sweep 1 := ⟨mm 669 (by decide +kernel) (by decide +kernel), mm 11 (by decide +kernel) (by decide +kernel), ⟨by decide +kernel, by decide +kernel, by decide +kernel⟩, by decide⟩
abbrev kX1_sweepLane : mM := (yX1_sweepLane, cX1_sweepLane, 9, none)
set_option maxRecDepth 100000 in
theorem mkX1_sweepLane : mMk kX1_sweepLane 2 := ⟨mm 673 (by decide +kernel) (by decide +kernel), mm 11 (by decide +kernel) (by decide +kernel), ⟨by decide +kernel, by decide +kernel, by decide +kernel⟩, by decide⟩
abbrev kX1_sortBeside : mM := (yX1_sortBeside, cX1_sortBeside, 12, (some FieldType.int))
set_option maxRecDepth 100000 in
theorem mkX1_sortBeside : mMk kX1_sortBeside 3 := ⟨mm 678 (by decide +kernel) (by decide +kernel), mm 11 (by decide +kernel) (by decide +kernel), ⟨by decide +kernel, by decide +kernel, by decide +kernel⟩, by decide⟩
abbrev kX1_rowsAt : mM := (yX1_rowsAt, cX1_rowsAt, 3, (some FieldType.int))
set_option maxRecDepth 100000 in
theorem mkX1_rowsAt : mMk kX1_rowsAt 2 := ⟨mm 866 (by decide +kernel) (by decide +kernel), mm 11 (by decide +kernel) (by decide +kernel), ⟨by decide +kernel, by decide +kernel, by decide +kernel⟩, by decide⟩
abbrev kX2_init : mM := (yX2_init, cX2_init, 1, none)
set_option maxRecDepth 100000 in
theorem mkX2_init : mMk kX2_init 0 := ⟨mm 79 (by decide +kernel) (by decide +kernel), mm 5 (by decide +kernel) (by decide +kernel), ⟨by decide +kernel, by decide +kernel, by decide +kernel⟩, by decide⟩
abbrev kX2_addSounder : mM := (yX2_addSounder, cX2_addSounder, 5, none)
set_option maxRecDepth 100000 in
theorem mkX2_addSounder : mMk kX2_addSounder 4 := ⟨mm 689 (by decide +kernel) (by decide +kernel), mm 5 (by decide +kernel) (by decide +kernel), ⟨by decide +kernel, by decide +kernel, by decide +kernel⟩, by decide⟩
abbrev kX2_takeSpare : mM := (yX2_takeSpare, cX2_takeSpare, 2, none)
set_option maxRecDepth 100000 in
theorem mkX2_takeSpare : mMk kX2_takeSpare 0 := ⟨mm 617 (by decide +kernel) (by decide +kernel), mm 5 (by decide +kernel) (by decide +kernel), ⟨by decide +kernel, by decide +kernel, by decide +kernel⟩, by decide⟩
abbrev kX2_hasSounder : mM := (yX2_hasSounder, cX2_hasSounder, 2, (some FieldType.boolean))
set_option maxRecDepth 100000 in
theorem mkX2_hasSounder : mMk kX2_hasSounder 1 := ⟨mm 697 (by decide +kernel) (by decide +kernel), mm 5 (by decide +kernel) (by decide +kernel), ⟨by decide +kernel, by decide +kernel, by decide +kernel⟩, by decide⟩
abbrev kX2_listen : mM := (yX2_listen, cX2_listen, 4, none)
set_option maxRecDepth 100000 in
theorem mkX2_listen : mMk kX2_listen 3 := ⟨mm 701 (by decide +kernel) (by decide +kernel), mm 5 (by decide +kernel) (by decide +kernel), ⟨by decide +kernel, by decide +kernel, by decide +kernel⟩, by decide⟩
abbrev kX2_loudnessAt : mM := (yX2_loudnessAt, cX2_loudnessAt, 8, (some FieldType.int))
set_option maxRecDepth 100000 in
theorem mkX2_loudnessAt : mMk kX2_loudnessAt 3 := ⟨mm 706 (by decide +kernel) (by decide +kernel), mm 5 (by decide +kernel) (by decide +kernel), ⟨by decide +kernel, by decide +kernel, by decide +kernel⟩, by decide⟩
abbrev kX2_holdsIn : mM := (yX2_holdsIn, cX2_holdsIn, 13, (some FieldType.int))
set_option maxRecDepth 100000 in
theorem mkX2_holdsIn : mMk kX2_holdsIn 5 := ⟨mm 882 (by decide +kernel) (by decide +kernel), mm 5 (by decide +kernel) (by decide +kernel), ⟨by decide +kernel, by decide +kernel, by decide +kernel⟩, by decide⟩
abbrev kX3_init : mM := (yX3_init, cX3_init, 1, none)
set_option maxRecDepth 100000 in
theorem mkX3_init : mMk kX3_init 0 := ⟨mm 85 (by decide +kernel) (by decide +kernel), mm 6 (by decide +kernel) (by decide +kernel), ⟨by decide +kernel, by decide +kernel, by decide +kernel⟩, by decide⟩
abbrev kX3_clear : mM := (yX3_clear, cX3_clear, 1, none)
set_option maxRecDepth 100000 in
theorem mkX3_clear : mMk kX3_clear 0 := ⟨mm 467 (by decide +kernel) (by decide +kernel), mm 6 (by decide +kernel) (by decide +kernel), ⟨by decide +kernel, by decide +kernel, by decide +kernel⟩, by decide⟩
abbrev kX3_add : mM := (yX3_add, cX3_add, 3, (some FieldType.int))
set_option maxRecDepth 100000 in
theorem mkX3_add : mMk kX3_add 2 := ⟨mm 580 (by decide +kernel) (by decide +kernel), mm 6 (by decide +kernel) (by decide +kernel), ⟨by decide +kernel, by decide +kernel, by decide +kernel⟩, by decide⟩
abbrev kX3_aimHere : mM := (yX3_aimHere, cX3_aimHere, 2, none)
set_option maxRecDepth 100000 in
theorem mkX3_aimHere : mMk kX3_aimHere 1 := ⟨mm 609 (by decide +kernel) (by decide +kernel), mm 6 (by decide +kernel) (by decide +kernel), ⟨by decide +kernel, by decide +kernel, by decide +kernel⟩, by decide⟩
abbrev kX3_endSum : mM := (yX3_endSum, cX3_endSum, 1, none)
set_option maxRecDepth 100000 in
theorem mkX3_endSum : mMk kX3_endSum 0 := ⟨mm 597 (by decide +kernel) (by decide +kernel), mm 6 (by decide +kernel) (by decide +kernel), ⟨by decide +kernel, by decide +kernel, by decide +kernel⟩, by decide⟩
abbrev kX3_endClause : mM := (yX3_endClause, cX3_endClause, 1, none)
set_option maxRecDepth 100000 in
theorem mkX3_endClause : mMk kX3_endClause 0 := ⟨mm 613 (by decide +kernel) (by decide +kernel), mm 6 (by decide +kernel) (by decide +kernel), ⟨by decide +kernel, by decide +kernel, by decide +kernel⟩, by decide⟩
abbrev kX3_run : mM := (yX3_run, cX3_run, 10, (some FieldType.int))
set_option maxRecDepth 100000 in
theorem mkX3_run : mMk kX3_run 3 := ⟨mm 726 (by decide +kernel) (by decide +kernel), mm 6 (by decide +kernel) (by decide +kernel), ⟨by decide +kernel, by decide +kernel, by decide +kernel⟩, by decide⟩
abbrev kX3_reckon : mM := (yX3_reckon, cX3_reckon, 3, (some FieldType.int))
set_option maxRecDepth 100000 in
theorem mkX3_reckon : mMk kX3_reckon 3 := ⟨mm 730 (by decide +kernel) (by decide +kernel), mm 6 (by decide +kernel) (by decide +kernel), ⟨by decide +kernel, by decide +kernel, by decide +kernel⟩, by decide⟩
abbrev kX4_init : mM := (yX4_init, cX4_init, 1, none)
set_option maxRecDepth 100000 in
theorem mkX4_init : mMk kX4_init 0 := ⟨mm 49 (by decide +kernel) (by decide +kernel), mm 3 (by decide +kernel) (by decide +kernel), ⟨by decide +kernel, by decide +kernel, by decide +kernel⟩, by decide⟩
abbrev kX4_read : mM := (yX4_read, cX4_read, 6, (some FieldType.int))
set_option maxRecDepth 100000 in
theorem mkX4_read : mMk kX4_read 3 := ⟨mm 463 (by decide +kernel) (by decide +kernel), mm 3 (by decide +kernel) (by decide +kernel), ⟨by decide +kernel, by decide +kernel, by decide +kernel⟩, by decide⟩
abbrev kX4_readCondition : mM := (yX4_readCondition, cX4_readCondition, 6, none)
set_option maxRecDepth 100000 in
theorem mkX4_readCondition : mMk kX4_readCondition 1 := ⟨mm 601 (by decide +kernel) (by decide +kernel), mm 3 (by decide +kernel) (by decide +kernel), ⟨by decide +kernel, by decide +kernel, by decide +kernel⟩, by decide⟩
abbrev kX4_readPiece : mM := (yX4_readPiece, cX4_readPiece, 3, none)
set_option maxRecDepth 100000 in
theorem mkX4_readPiece : mMk kX4_readPiece 1 := ⟨mm 605 (by decide +kernel) (by decide +kernel), mm 3 (by decide +kernel) (by decide +kernel), ⟨by decide +kernel, by decide +kernel, by decide +kernel⟩, by decide⟩
abbrev kX4_readSum : mM := (yX4_readSum, cX4_readSum, 7, none)
set_option maxRecDepth 100000 in
theorem mkX4_readSum : mMk kX4_readSum 1 := ⟨mm 485 (by decide +kernel) (by decide +kernel), mm 3 (by decide +kernel) (by decide +kernel), ⟨by decide +kernel, by decide +kernel, by decide +kernel⟩, by decide⟩
abbrev kX4_readFactor : mM := (yX4_readFactor, cX4_readFactor, 4, none)
set_option maxRecDepth 100000 in
theorem mkX4_readFactor : mMk kX4_readFactor 1 := ⟨mm 489 (by decide +kernel) (by decide +kernel), mm 3 (by decide +kernel) (by decide +kernel), ⟨by decide +kernel, by decide +kernel, by decide +kernel⟩, by decide⟩
abbrev kX4_readNumber : mM := (yX4_readNumber, cX4_readNumber, 3, none)
set_option maxRecDepth 100000 in
theorem mkX4_readNumber : mMk kX4_readNumber 0 := ⟨mm 585 (by decide +kernel) (by decide +kernel), mm 3 (by decide +kernel) (by decide +kernel), ⟨by decide +kernel, by decide +kernel, by decide +kernel⟩, by decide⟩
abbrev kX4_sign : mM := (yX4_sign, cX4_sign, 1, (some FieldType.int))
set_option maxRecDepth 100000 in
theorem mkX4_sign : mMk kX4_sign 0 := ⟨mm 477 (by decide +kernel) (by decide +kernel), mm 3 (by decide +kernel) (by decide +kernel), ⟨by decide +kernel, by decide +kernel, by decide +kernel⟩, by decide⟩
abbrev kX4_takes : mM := (yX4_takes, cX4_takes, 3, (some FieldType.boolean))
set_option maxRecDepth 100000 in
theorem mkX4_takes : mMk kX4_takes 1 := ⟨mm 593 (by decide +kernel) (by decide +kernel), mm 3 (by decide +kernel) (by decide +kernel), ⟨by decide +kernel, by decide +kernel, by decide +kernel⟩, by decide⟩
abbrev kX4_takesOneOf : mM := (yX4_takesOneOf, cX4_takesOneOf, 5, (some FieldType.int))
set_option maxRecDepth 100000 in
theorem mkX4_takesOneOf : mMk kX4_takesOneOf 4 := ⟨mm 589 (by decide +kernel) (by decide +kernel), mm 3 (by decide +kernel) (by decide +kernel), ⟨by decide +kernel, by decide +kernel, by decide +kernel⟩, by decide⟩
abbrev kX4_expect : mM := (yX4_expect, cX4_expect, 2, none)
set_option maxRecDepth 100000 in
theorem mkX4_expect : mMk kX4_expect 1 := ⟨mm 473 (by decide +kernel) (by decide +kernel), mm 3 (by decide +kernel) (by decide +kernel), ⟨by decide +kernel, by decide +kernel, by decide +kernel⟩, by decide⟩
abbrev kX4_opens : mM := (yX4_opens, cX4_opens, 2, (some FieldType.boolean))
set_option maxRecDepth 100000 in
theorem mkX4_opens : mMk kX4_opens 1 := ⟨mm 576 (by decide +kernel) (by decide +kernel), mm 3 (by decide +kernel) (by decide +kernel), ⟨by decide +kernel, by decide +kernel, by decide +kernel⟩, by decide⟩
abbrev kX4_stop : mM := (yX4_stop, cX4_stop, 2, none)
set_option maxRecDepth 100000 in
theorem mkX4_stop : mMk kX4_stop 1 := ⟨mm 481 (by decide +kernel) (by decide +kernel), mm 3 (by decide +kernel) (by decide +kernel), ⟨by decide +kernel, by decide +kernel, by decide +kernel⟩, by decide⟩
abbrev kX5_init : mM := (yX5_init, cX5_init, 1, none)
set_option maxRecDepth 100000 in
theorem mkX5_init : mMk kX5_init 0 := ⟨mm 744 (by decide +kernel) (by decide +kernel), mm 20 (by decide +kernel) (by decide +kernel), ⟨by decide +kernel, by decide +kernel, by decide +kernel⟩, by decide⟩
abbrev kX5_addNote : mM := (yX5_addNote, cX5_addNote, 5, none)
set_option maxRecDepth 100000 in
theorem mkX5_addNote : mMk kX5_addNote 4 := ⟨mm 791 (by decide +kernel) (by decide +kernel), mm 20 (by decide +kernel) (by decide +kernel), ⟨by decide +kernel, by decide +kernel, by decide +kernel⟩, by decide⟩
abbrev kX6_init : mM := (yX6_init, cX6_init, 1, none)
set_option maxRecDepth 100000 in
theorem mkX6_init : mMk kX6_init 0 := ⟨mm 71 (by decide +kernel) (by decide +kernel), mm 4 (by decide +kernel) (by decide +kernel), ⟨by decide +kernel, by decide +kernel, by decide +kernel⟩, by decide⟩
abbrev kX6_add : mM := (yX6_add, cX6_add, 7, none)
set_option maxRecDepth 100000 in
theorem mkX6_add : mMk kX6_add 5 := ⟨mm 740 (by decide +kernel) (by decide +kernel), mm 4 (by decide +kernel) (by decide +kernel), ⟨by decide +kernel, by decide +kernel, by decide +kernel⟩, by decide⟩
abbrev kX6_last : mM := (yX6_last, cX6_last, 1, (some (FieldType.object "FogIsland$Line")))
set_option maxRecDepth 100000 in
theorem mkX6_last : mMk kX6_last 0 := ⟨mm 787 (by decide +kernel) (by decide +kernel), mm 4 (by decide +kernel) (by decide +kernel), ⟨by decide +kernel, by decide +kernel, by decide +kernel⟩, by decide⟩
abbrev kX6_forgetHeard : mM := (yX6_forgetHeard, cX6_forgetHeard, 3, none)
set_option maxRecDepth 100000 in
theorem mkX6_forgetHeard : mMk kX6_forgetHeard 0 := ⟨mm 621 (by decide +kernel) (by decide +kernel), mm 4 (by decide +kernel) (by decide +kernel), ⟨by decide +kernel, by decide +kernel, by decide +kernel⟩, by decide⟩
abbrev kX6_follow : mM := (yX6_follow, cX6_follow, 5, none)
set_option maxRecDepth 100000 in
theorem mkX6_follow : mMk kX6_follow 1 := ⟨mm 857 (by decide +kernel) (by decide +kernel), mm 4 (by decide +kernel) (by decide +kernel), ⟨by decide +kernel, by decide +kernel, by decide +kernel⟩, by decide⟩
abbrev kX6_begin : mM := (yX6_begin, cX6_begin, 9, none)
set_option maxRecDepth 100000 in
theorem mkX6_begin : mMk kX6_begin 3 := ⟨mm 862 (by decide +kernel) (by decide +kernel), mm 4 (by decide +kernel) (by decide +kernel), ⟨by decide +kernel, by decide +kernel, by decide +kernel⟩, by decide⟩
abbrev kX6_drift : mM := (yX6_drift, cX6_drift, 11, none)
set_option maxRecDepth 100000 in
theorem mkX6_drift : mMk kX6_drift 5 := ⟨mm 870 (by decide +kernel) (by decide +kernel), mm 4 (by decide +kernel) (by decide +kernel), ⟨by decide +kernel, by decide +kernel, by decide +kernel⟩, by decide⟩
abbrev kX6_sift : mM := (yX6_sift, cX6_sift, 11, none)
set_option maxRecDepth 100000 in
theorem mkX6_sift : mMk kX6_sift 5 := ⟨mm 878 (by decide +kernel) (by decide +kernel), mm 4 (by decide +kernel) (by decide +kernel), ⟨by decide +kernel, by decide +kernel, by decide +kernel⟩, by decide⟩
abbrev kX6_badLine : mM := (yX6_badLine, cX6_badLine, 3, (some FieldType.int))
set_option maxRecDepth 100000 in
theorem mkX6_badLine : mMk kX6_badLine 1 := ⟨mm 901 (by decide +kernel) (by decide +kernel), mm 4 (by decide +kernel) (by decide +kernel), ⟨by decide +kernel, by decide +kernel, by decide +kernel⟩, by decide⟩
abbrev kX6_placesAt : mM := (yX6_placesAt, cX6_placesAt, 7, (some (FieldType.array FieldType.int)))
set_option maxRecDepth 100000 in
theorem mkX6_placesAt : mMk kX6_placesAt 3 := ⟨mm 916 (by decide +kernel) (by decide +kernel), mm 4 (by decide +kernel) (by decide +kernel), ⟨by decide +kernel, by decide +kernel, by decide +kernel⟩, by decide⟩
abbrev kX6_goBackTo : mM := (yX6_goBackTo, cX6_goBackTo, 6, none)
set_option maxRecDepth 100000 in
theorem mkX6_goBackTo : mMk kX6_goBackTo 2 := ⟨mm 921 (by decide +kernel) (by decide +kernel), mm 4 (by decide +kernel) (by decide +kernel), ⟨by decide +kernel, by decide +kernel, by decide +kernel⟩, by decide⟩
abbrev kX7_init : mM := (yX7_init, cX7_init, 1, none)
set_option maxRecDepth 100000 in
theorem mkX7_init : mMk kX7_init 0 := ⟨mm 795 (by decide +kernel) (by decide +kernel), mm 21 (by decide +kernel) (by decide +kernel), ⟨by decide +kernel, by decide +kernel, by decide +kernel⟩, by decide⟩
abbrev kX7_tell : mM := (yX7_tell, cX7_tell, 5, none)
set_option maxRecDepth 100000 in
theorem mkX7_tell : mMk kX7_tell 4 := ⟨mm 826 (by decide +kernel) (by decide +kernel), mm 21 (by decide +kernel) (by decide +kernel), ⟨by decide +kernel, by decide +kernel, by decide +kernel⟩, by decide⟩
abbrev kX7_forget : mM := (yX7_forget, cX7_forget, 1, none)
set_option maxRecDepth 100000 in
theorem mkX7_forget : mMk kX7_forget 0 := ⟨mm 625 (by decide +kernel) (by decide +kernel), mm 21 (by decide +kernel) (by decide +kernel), ⟨by decide +kernel, by decide +kernel, by decide +kernel⟩, by decide⟩
abbrev kX7_fitsView : mM := (yX7_fitsView, cX7_fitsView, 2, (some FieldType.boolean))
set_option maxRecDepth 100000 in
theorem mkX7_fitsView : mMk kX7_fitsView 1 := ⟨mm 892 (by decide +kernel) (by decide +kernel), mm 21 (by decide +kernel) (by decide +kernel), ⟨by decide +kernel, by decide +kernel, by decide +kernel⟩, by decide⟩
abbrev kX8_init : mM := (yX8_init, cX8_init, 1, none)
set_option maxRecDepth 100000 in
theorem mkX8_init : mMk kX8_init 0 := ⟨mm 273 (by decide +kernel) (by decide +kernel), mm 9 (by decide +kernel) (by decide +kernel), ⟨by decide +kernel, by decide +kernel, by decide +kernel⟩, by decide⟩
abbrev kX8_tell : mM := (yX8_tell, cX8_tell, 5, none)
set_option maxRecDepth 100000 in
theorem mkX8_tell : mMk kX8_tell 4 := ⟨mm 955 (by decide +kernel) (by decide +kernel), mm 9 (by decide +kernel) (by decide +kernel), ⟨by decide +kernel, by decide +kernel, by decide +kernel⟩, by decide⟩
abbrev kX8_isTold : mM := (yX8_isTold, cX8_isTold, 2, (some FieldType.boolean))
set_option maxRecDepth 100000 in
theorem mkX8_isTold : mMk kX8_isTold 1 := ⟨mm 974 (by decide +kernel) (by decide +kernel), mm 9 (by decide +kernel) (by decide +kernel), ⟨by decide +kernel, by decide +kernel, by decide +kernel⟩, by decide⟩
abbrev kX8_countStates : mM := (yX8_countStates, cX8_countStates, 5, none)
set_option maxRecDepth 100000 in
theorem mkX8_countStates : mMk kX8_countStates 2 := ⟨mm 967 (by decide +kernel) (by decide +kernel), mm 9 (by decide +kernel) (by decide +kernel), ⟨by decide +kernel, by decide +kernel, by decide +kernel⟩, by decide⟩
abbrev kX8_weigh : mM := (yX8_weigh, cX8_weigh, 7, none)
set_option maxRecDepth 100000 in
theorem mkX8_weigh : mMk kX8_weigh 3 := ⟨mm 963 (by decide +kernel) (by decide +kernel), mm 9 (by decide +kernel) (by decide +kernel), ⟨by decide +kernel, by decide +kernel, by decide +kernel⟩, by decide⟩
abbrev kX8_tally : mM := (yX8_tally, cX8_tally, 11, none)
set_option maxRecDepth 100000 in
theorem mkX8_tally : mMk kX8_tally 3 := ⟨mm 979 (by decide +kernel) (by decide +kernel), mm 9 (by decide +kernel) (by decide +kernel), ⟨by decide +kernel, by decide +kernel, by decide +kernel⟩, by decide⟩
abbrev kX8_takeIfBetter : mM := (yX8_takeIfBetter, cX8_takeIfBetter, 4, none)
set_option maxRecDepth 100000 in
theorem mkX8_takeIfBetter : mMk kX8_takeIfBetter 1 := ⟨mm 990 (by decide +kernel) (by decide +kernel), mm 9 (by decide +kernel) (by decide +kernel), ⟨by decide +kernel, by decide +kernel, by decide +kernel⟩, by decide⟩
abbrev kX8_weighTwo : mM := (yX8_weighTwo, cX8_weighTwo, 6, none)
set_option maxRecDepth 100000 in
theorem mkX8_weighTwo : mMk kX8_weighTwo 3 := ⟨mm 998 (by decide +kernel) (by decide +kernel), mm 9 (by decide +kernel) (by decide +kernel), ⟨by decide +kernel, by decide +kernel, by decide +kernel⟩, by decide⟩
abbrev kX8_staysBehind : mM := (yX8_staysBehind, cX8_staysBehind, 7, (some FieldType.int))
set_option maxRecDepth 100000 in
theorem mkX8_staysBehind : mMk kX8_staysBehind 3 := ⟨mm 1002 (by decide +kernel) (by decide +kernel), mm 9 (by decide +kernel) (by decide +kernel), ⟨by decide +kernel, by decide +kernel, by decide +kernel⟩, by decide⟩
abbrev kX8_mostBehind : mM := (yX8_mostBehind, cX8_mostBehind, 4, (some FieldType.int))
set_option maxRecDepth 100000 in
theorem mkX8_mostBehind : mMk kX8_mostBehind 1 := ⟨mm 1015 (by decide +kernel) (by decide +kernel), mm 9 (by decide +kernel) (by decide +kernel), ⟨by decide +kernel, by decide +kernel, by decide +kernel⟩, by decide⟩
abbrev kX8_tallyPairs : mM := (yX8_tallyPairs, cX8_tallyPairs, 13, none)
set_option maxRecDepth 100000 in
theorem mkX8_tallyPairs : mMk kX8_tallyPairs 4 := ⟨mm 1006 (by decide +kernel) (by decide +kernel), mm 9 (by decide +kernel) (by decide +kernel), ⟨by decide +kernel, by decide +kernel, by decide +kernel⟩, by decide⟩
abbrev kX8_addPairs : mM := (yX8_addPairs, cX8_addPairs, 7, none)
set_option maxRecDepth 100000 in
theorem mkX8_addPairs : mMk kX8_addPairs 2 := ⟨mm 1011 (by decide +kernel) (by decide +kernel), mm 9 (by decide +kernel) (by decide +kernel), ⟨by decide +kernel, by decide +kernel, by decide +kernel⟩, by decide⟩
abbrev kX9_init : mM := (yX9_init, cX9_init, 1, none)
set_option maxRecDepth 100000 in
theorem mkX9_init : mMk kX9_init 0 := ⟨mm 34 (by decide +kernel) (by decide +kernel), mm 2 (by decide +kernel) (by decide +kernel), ⟨by decide +kernel, by decide +kernel, by decide +kernel⟩, by decide⟩
abbrev kX9_put : mM := (yX9_put, cX9_put, 3, none)
set_option maxRecDepth 100000 in
theorem mkX9_put : mMk kX9_put 1 := ⟨mm 357 (by decide +kernel) (by decide +kernel), mm 2 (by decide +kernel) (by decide +kernel), ⟨by decide +kernel, by decide +kernel, by decide +kernel⟩, by decide⟩
abbrev kX9_at : mM := (yX9_at, cX9_at, 2, (some FieldType.int))
set_option maxRecDepth 100000 in
theorem mkX9_at : mMk kX9_at 1 := ⟨mm 372 (by decide +kernel) (by decide +kernel), mm 2 (by decide +kernel) (by decide +kernel), ⟨by decide +kernel, by decide +kernel, by decide +kernel⟩, by decide⟩
abbrev kX9_number : mM := (yX9_number, cX9_number, 3, (some FieldType.int))
set_option maxRecDepth 100000 in
theorem mkX9_number : mMk kX9_number 1 := ⟨mm 1080 (by decide +kernel) (by decide +kernel), mm 2 (by decide +kernel) (by decide +kernel), ⟨by decide +kernel, by decide +kernel, by decide +kernel⟩, by decide⟩
abbrev kX9_badCoastPlace : mM := (yX9_badCoastPlace, cX9_badCoastPlace, 4, (some FieldType.int))
set_option maxRecDepth 100000 in
theorem mkX9_badCoastPlace : mMk kX9_badCoastPlace 1 := ⟨mm 368 (by decide +kernel) (by decide +kernel), mm 2 (by decide +kernel) (by decide +kernel), ⟨by decide +kernel, by decide +kernel, by decide +kernel⟩, by decide⟩
abbrev kX9_joins : mM := (yX9_joins, cX9_joins, 5, (some FieldType.boolean))
set_option maxRecDepth 100000 in
theorem mkX9_joins : mMk kX9_joins 2 := ⟨mm 376 (by decide +kernel) (by decide +kernel), mm 2 (by decide +kernel) (by decide +kernel), ⟨by decide +kernel, by decide +kernel, by decide +kernel⟩, by decide⟩
abbrev kX10_init : mM := (yX10_init, cX10_init, 1, none)
set_option maxRecDepth 100000 in
theorem mkX10_init : mMk kX10_init 0 := ⟨mm 238 (by decide +kernel) (by decide +kernel), mm 8 (by decide +kernel) (by decide +kernel), ⟨by decide +kernel, by decide +kernel, by decide +kernel⟩, by decide⟩
abbrev kX10_seek : mM := (yX10_seek, cX10_seek, 7, none)
set_option maxRecDepth 100000 in
theorem mkX10_seek : mMk kX10_seek 4 := ⟨mm 1023 (by decide +kernel) (by decide +kernel), mm 8 (by decide +kernel) (by decide +kernel), ⟨by decide +kernel, by decide +kernel, by decide +kernel⟩, by decide⟩
abbrev kX10_addTurn : mM := (yX10_addTurn, cX10_addTurn, 8, (some FieldType.boolean))
set_option maxRecDepth 100000 in
theorem mkX10_addTurn : mMk kX10_addTurn 2 := ⟨mm 1028 (by decide +kernel) (by decide +kernel), mm 8 (by decide +kernel) (by decide +kernel), ⟨by decide +kernel, by decide +kernel, by decide +kernel⟩, by decide⟩
abbrev kX10_stepsFrom : mM := (yX10_stepsFrom, cX10_stepsFrom, 13, (some FieldType.int))
set_option maxRecDepth 100000 in
theorem mkX10_stepsFrom : mMk kX10_stepsFrom 4 := ⟨mm 1032 (by decide +kernel) (by decide +kernel), mm 8 (by decide +kernel) (by decide +kernel), ⟨by decide +kernel, by decide +kernel, by decide +kernel⟩, by decide⟩
abbrev kX10_bestFirst : mM := (yX10_bestFirst, cX10_bestFirst, 4, (some FieldType.int))
set_option maxRecDepth 100000 in
theorem mkX10_bestFirst : mMk kX10_bestFirst 0 := ⟨mm 1042 (by decide +kernel) (by decide +kernel), mm 8 (by decide +kernel) (by decide +kernel), ⟨by decide +kernel, by decide +kernel, by decide +kernel⟩, by decide⟩
abbrev kX10_walk : mM := (yX10_walk, cX10_walk, 5, none)
set_option maxRecDepth 100000 in
theorem mkX10_walk : mMk kX10_walk 0 := ⟨mm 1046 (by decide +kernel) (by decide +kernel), mm 8 (by decide +kernel) (by decide +kernel), ⟨by decide +kernel, by decide +kernel, by decide +kernel⟩, by decide⟩
abbrev kX10_directionOn : mM := (yX10_directionOn, cX10_directionOn, 6, (some FieldType.int))
set_option maxRecDepth 100000 in
theorem mkX10_directionOn : mMk kX10_directionOn 3 := ⟨mm 1050 (by decide +kernel) (by decide +kernel), mm 8 (by decide +kernel) (by decide +kernel), ⟨by decide +kernel, by decide +kernel, by decide +kernel⟩, by decide⟩
abbrev kX11_init : mM := (yX11_init, cX11_init, 1, none)
set_option maxRecDepth 100000 in
theorem mkX11_init : mMk kX11_init 0 := ⟨mm 26 (by decide +kernel) (by decide +kernel), mm 1 (by decide +kernel) (by decide +kernel), ⟨by decide +kernel, by decide +kernel, by decide +kernel⟩, by decide⟩
abbrev kX11_feed : mM := (yX11_feed, cX11_feed, 6, (some FieldType.int))
set_option maxRecDepth 100000 in
theorem mkX11_feed : mMk kX11_feed 5 := ⟨mm 353 (by decide +kernel) (by decide +kernel), mm 1 (by decide +kernel) (by decide +kernel), ⟨by decide +kernel, by decide +kernel, by decide +kernel⟩, by decide⟩
abbrev kX11_coast : mM := (yX11_coast, cX11_coast, 6, (some FieldType.int))
set_option maxRecDepth 100000 in
theorem mkX11_coast : mMk kX11_coast 1 := ⟨mm 361 (by decide +kernel) (by decide +kernel), mm 1 (by decide +kernel) (by decide +kernel), ⟨by decide +kernel, by decide +kernel, by decide +kernel⟩, by decide⟩
abbrev kX11_law : mM := (yX11_law, cX11_law, 3, (some FieldType.int))
set_option maxRecDepth 100000 in
theorem mkX11_law : mMk kX11_law 1 := ⟨mm 459 (by decide +kernel) (by decide +kernel), mm 1 (by decide +kernel) (by decide +kernel), ⟨by decide +kernel, by decide +kernel, by decide +kernel⟩, by decide⟩
abbrev kX11_push : mM := (yX11_push, cX11_push, 6, (some FieldType.int))
set_option maxRecDepth 100000 in
theorem mkX11_push : mMk kX11_push 3 := ⟨mm 637 (by decide +kernel) (by decide +kernel), mm 1 (by decide +kernel) (by decide +kernel), ⟨by decide +kernel, by decide +kernel, by decide +kernel⟩, by decide⟩
abbrev kX11_land : mM := (yX11_land, cX11_land, 5, (some FieldType.int))
set_option maxRecDepth 100000 in
theorem mkX11_land : mMk kX11_land 3 := ⟨mm 654 (by decide +kernel) (by decide +kernel), mm 1 (by decide +kernel) (by decide +kernel), ⟨by decide +kernel, by decide +kernel, by decide +kernel⟩, by decide⟩
abbrev kX11_facing : mM := (yX11_facing, cX11_facing, 9, (some FieldType.int))
set_option maxRecDepth 100000 in
theorem mkX11_facing : mMk kX11_facing 5 := ⟨mm 665 (by decide +kernel) (by decide +kernel), mm 1 (by decide +kernel) (by decide +kernel), ⟨by decide +kernel, by decide +kernel, by decide +kernel⟩, by decide⟩
abbrev kX11_sounder : mM := (yX11_sounder, cX11_sounder, 6, (some FieldType.int))
set_option maxRecDepth 100000 in
theorem mkX11_sounder : mMk kX11_sounder 4 := ⟨mm 685 (by decide +kernel) (by decide +kernel), mm 1 (by decide +kernel) (by decide +kernel), ⟨by decide +kernel, by decide +kernel, by decide +kernel⟩, by decide⟩
abbrev kX11_level : mM := (yX11_level, cX11_level, 9, (some FieldType.int))
set_option maxRecDepth 100000 in
theorem mkX11_level : mMk kX11_level 6 := ⟨mm 693 (by decide +kernel) (by decide +kernel), mm 1 (by decide +kernel) (by decide +kernel), ⟨by decide +kernel, by decide +kernel, by decide +kernel⟩, by decide⟩
abbrev kX11_line : mM := (yX11_line, cX11_line, 7, (some FieldType.int))
set_option maxRecDepth 100000 in
theorem mkX11_line : mMk kX11_line 5 := ⟨mm 736 (by decide +kernel) (by decide +kernel), mm 1 (by decide +kernel) (by decide +kernel), ⟨by decide +kernel, by decide +kernel, by decide +kernel⟩, by decide⟩
abbrev kX11_hears : mM := (yX11_hears, cX11_hears, 5, (some FieldType.int))
set_option maxRecDepth 100000 in
theorem mkX11_hears : mMk kX11_hears 3 := ⟨mm 779 (by decide +kernel) (by decide +kernel), mm 1 (by decide +kernel) (by decide +kernel), ⟨by decide +kernel, by decide +kernel, by decide +kernel⟩, by decide⟩
abbrev kX11_echo : mM := (yX11_echo, cX11_echo, 3, (some FieldType.int))
set_option maxRecDepth 100000 in
theorem mkX11_echo : mMk kX11_echo 2 := ⟨mm 831 (by decide +kernel) (by decide +kernel), mm 1 (by decide +kernel) (by decide +kernel), ⟨by decide +kernel, by decide +kernel, by decide +kernel⟩, by decide⟩
abbrev kX11_back : mM := (yX11_back, cX11_back, 1, (some FieldType.int))
set_option maxRecDepth 100000 in
theorem mkX11_back : mMk kX11_back 0 := ⟨mm 835 (by decide +kernel) (by decide +kernel), mm 1 (by decide +kernel) (by decide +kernel), ⟨by decide +kernel, by decide +kernel, by decide +kernel⟩, by decide⟩
abbrev kX11_wrong : mM := (yX11_wrong, cX11_wrong, 2, (some FieldType.boolean))
set_option maxRecDepth 100000 in
theorem mkX11_wrong : mMk kX11_wrong 1 := ⟨mm 844 (by decide +kernel) (by decide +kernel), mm 1 (by decide +kernel) (by decide +kernel), ⟨by decide +kernel, by decide +kernel, by decide +kernel⟩, by decide⟩
abbrev kX11_box : mM := (yX11_box, cX11_box, 5, (some FieldType.boolean))
set_option maxRecDepth 100000 in
theorem mkX11_box : mMk kX11_box 4 := ⟨mm 848 (by decide +kernel) (by decide +kernel), mm 1 (by decide +kernel) (by decide +kernel), ⟨by decide +kernel, by decide +kernel, by decide +kernel⟩, by decide⟩
abbrev kX11_fits : mM := (yX11_fits, cX11_fits, 3, (some FieldType.int))
set_option maxRecDepth 100000 in
theorem mkX11_fits : mMk kX11_fits 1 := ⟨mm 853 (by decide +kernel) (by decide +kernel), mm 1 (by decide +kernel) (by decide +kernel), ⟨by decide +kernel, by decide +kernel, by decide +kernel⟩, by decide⟩
abbrev kX11_firstBad : mM := (yX11_firstBad, cX11_firstBad, 4, (some FieldType.int))
set_option maxRecDepth 100000 in
theorem mkX11_firstBad : mMk kX11_firstBad 1 := ⟨mm 908 (by decide +kernel) (by decide +kernel), mm 1 (by decide +kernel) (by decide +kernel), ⟨by decide +kernel, by decide +kernel, by decide +kernel⟩, by decide⟩
abbrev kX11_possible : mM := (yX11_possible, cX11_possible, 8, (some FieldType.int))
set_option maxRecDepth 100000 in
theorem mkX11_possible : mMk kX11_possible 2 := ⟨mm 912 (by decide +kernel) (by decide +kernel), mm 1 (by decide +kernel) (by decide +kernel), ⟨by decide +kernel, by decide +kernel, by decide +kernel⟩, by decide⟩
abbrev kX11_isPossible : mM := (yX11_isPossible, cX11_isPossible, 6, (some FieldType.int))
set_option maxRecDepth 100000 in
theorem mkX11_isPossible : mMk kX11_isPossible 4 := ⟨mm 927 (by decide +kernel) (by decide +kernel), mm 1 (by decide +kernel) (by decide +kernel), ⟨by decide +kernel, by decide +kernel, by decide +kernel⟩, by decide⟩
abbrev kX11_sure : mM := (yX11_sure, cX11_sure, 4, (some FieldType.int))
set_option maxRecDepth 100000 in
theorem mkX11_sure : mMk kX11_sure 3 := ⟨mm 931 (by decide +kernel) (by decide +kernel), mm 1 (by decide +kernel) (by decide +kernel), ⟨by decide +kernel, by decide +kernel, by decide +kernel⟩, by decide⟩
abbrev kX11_choice : mM := (yX11_choice, cX11_choice, 6, (some FieldType.boolean))
set_option maxRecDepth 100000 in
theorem mkX11_choice : mMk kX11_choice 4 := ⟨mm 951 (by decide +kernel) (by decide +kernel), mm 1 (by decide +kernel) (by decide +kernel), ⟨by decide +kernel, by decide +kernel, by decide +kernel⟩, by decide⟩
abbrev kX11_next : mM := (yX11_next, cX11_next, 2, (some FieldType.int))
set_option maxRecDepth 100000 in
theorem mkX11_next : mMk kX11_next 1 := ⟨mm 959 (by decide +kernel) (by decide +kernel), mm 1 (by decide +kernel) (by decide +kernel), ⟨by decide +kernel, by decide +kernel, by decide +kernel⟩, by decide⟩
abbrev kX11_ahead : mM := (yX11_ahead, cX11_ahead, 2, (some FieldType.int))
set_option maxRecDepth 100000 in
theorem mkX11_ahead : mMk kX11_ahead 1 := ⟨mm 994 (by decide +kernel) (by decide +kernel), mm 1 (by decide +kernel) (by decide +kernel), ⟨by decide +kernel, by decide +kernel, by decide +kernel⟩, by decide⟩
abbrev kX11_wayIn : mM := (yX11_wayIn, cX11_wayIn, 6, (some FieldType.int))
set_option maxRecDepth 100000 in
theorem mkX11_wayIn : mMk kX11_wayIn 5 := ⟨mm 1019 (by decide +kernel) (by decide +kernel), mm 1 (by decide +kernel) (by decide +kernel), ⟨by decide +kernel, by decide +kernel, by decide +kernel⟩, by decide⟩
abbrev kX11_pool : mM := (yX11_pool, cX11_pool, 4, (some FieldType.int))
set_option maxRecDepth 100000 in
theorem mkX11_pool : mMk kX11_pool 3 := ⟨mm 1055 (by decide +kernel) (by decide +kernel), mm 1 (by decide +kernel) (by decide +kernel), ⟨by decide +kernel, by decide +kernel, by decide +kernel⟩, by decide⟩
abbrev kX11_check : mM := (yX11_check, cX11_check, 5, (some FieldType.int))
set_option maxRecDepth 100000 in
theorem mkX11_check : mMk kX11_check 2 := ⟨mm 1076 (by decide +kernel) (by decide +kernel), mm 1 (by decide +kernel) (by decide +kernel), ⟨by decide +kernel, by decide +kernel, by decide +kernel⟩, by decide⟩
abbrev kX11_count : mM := (yX11_count, cX11_count, 4, (some FieldType.int))
set_option maxRecDepth 100000 in
theorem mkX11_count : mMk kX11_count 1 := ⟨mm 1084 (by decide +kernel) (by decide +kernel), mm 1 (by decide +kernel) (by decide +kernel), ⟨by decide +kernel, by decide +kernel, by decide +kernel⟩, by decide⟩
abbrev kX11_addCoast : mM := (yX11_addCoast, cX11_addCoast, 2, none)
set_option maxRecDepth 100000 in
theorem mkX11_addCoast : mMk kX11_addCoast 1 := ⟨mm 442 (by decide +kernel) (by decide +kernel), mm 1 (by decide +kernel) (by decide +kernel), ⟨by decide +kernel, by decide +kernel, by decide +kernel⟩, by decide⟩
abbrev kX11_addNote : mM := (yX11_addNote, cX11_addNote, 6, (some FieldType.int))
set_option maxRecDepth 100000 in
theorem mkX11_addNote : mMk kX11_addNote 4 := ⟨mm 783 (by decide +kernel) (by decide +kernel), mm 1 (by decide +kernel) (by decide +kernel), ⟨by decide +kernel, by decide +kernel, by decide +kernel⟩, by decide⟩
abbrev kX11_within : mM := (yX11_within, cX11_within, 3, (some FieldType.boolean))
set_option maxRecDepth 100000 in
theorem mkX11_within : mMk kX11_within 3 := ⟨mm 364 (by decide +kernel) (by decide +kernel), mm 1 (by decide +kernel) (by decide +kernel), ⟨by decide +kernel, by decide +kernel, by decide +kernel⟩, by decide⟩
abbrev kX11_inGrid : mM := (yX11_inGrid, cX11_inGrid, 2, (some FieldType.boolean))
set_option maxRecDepth 100000 in
theorem mkX11_inGrid : mMk kX11_inGrid 2 := ⟨mm 657 (by decide +kernel) (by decide +kernel), mm 1 (by decide +kernel) (by decide +kernel), ⟨by decide +kernel, by decide +kernel, by decide +kernel⟩, by decide⟩
abbrev kX11_span : mM := (yX11_span, cX11_span, 4, (some FieldType.int))
set_option maxRecDepth 100000 in
theorem mkX11_span : mMk kX11_span 2 := ⟨mm 716 (by decide +kernel) (by decide +kernel), mm 1 (by decide +kernel) (by decide +kernel), ⟨by decide +kernel, by decide +kernel, by decide +kernel⟩, by decide⟩
abbrev kX11_moved : mM := (yX11_moved, cX11_moved, 2, (some FieldType.int))
set_option maxRecDepth 100000 in
theorem mkX11_moved : mMk kX11_moved 2 := ⟨mm 873 (by decide +kernel) (by decide +kernel), mm 1 (by decide +kernel) (by decide +kernel), ⟨by decide +kernel, by decide +kernel, by decide +kernel⟩, by decide⟩
abbrev kX11_bitsIn : mM := (yX11_bitsIn, cX11_bitsIn, 4, (some FieldType.int))
set_option maxRecDepth 100000 in
theorem mkX11_bitsIn : mMk kX11_bitsIn 2 := ⟨mm 904 (by decide +kernel) (by decide +kernel), mm 1 (by decide +kernel) (by decide +kernel), ⟨by decide +kernel, by decide +kernel, by decide +kernel⟩, by decide⟩
abbrev kX11_lowestBit : mM := (yX11_lowestBit, cX11_lowestBit, 1, (some FieldType.int))
set_option maxRecDepth 100000 in
theorem mkX11_lowestBit : mMk kX11_lowestBit 1 := ⟨mm 887 (by decide +kernel) (by decide +kernel), mm 1 (by decide +kernel) (by decide +kernel), ⟨by decide +kernel, by decide +kernel, by decide +kernel⟩, by decide⟩
abbrev kX11_echoSteps : mM := (yX11_echoSteps, cX11_echoSteps, 1, (some FieldType.int))
set_option maxRecDepth 100000 in
theorem mkX11_echoSteps : mMk kX11_echoSteps 1 := ⟨mm 681 (by decide +kernel) (by decide +kernel), mm 1 (by decide +kernel) (by decide +kernel), ⟨by decide +kernel, by decide +kernel, by decide +kernel⟩, by decide⟩
abbrev kX11_maybeSilent : mM := (yX11_maybeSilent, cX11_maybeSilent, 1, (some FieldType.boolean))
set_option maxRecDepth 100000 in
theorem mkX11_maybeSilent : mMk kX11_maybeSilent 1 := ⟨mm 895 (by decide +kernel) (by decide +kernel), mm 1 (by decide +kernel) (by decide +kernel), ⟨by decide +kernel, by decide +kernel, by decide +kernel⟩, by decide⟩
abbrev kX12_init : mM := (yX12_init, cX12_init, 1, none)
set_option maxRecDepth 100000 in
theorem mkX12_init : mMk kX12_init 0 := ⟨mm 1089 (by decide +kernel) (by decide +kernel), mm 10 (by decide +kernel) (by decide +kernel), ⟨by decide +kernel, by decide +kernel, by decide +kernel⟩, by decide⟩
abbrev kX12_in : mM := (yX12_in, cX12_in, 3, (some FieldType.boolean))
set_option maxRecDepth 100000 in
theorem mkX12_in : mMk kX12_in 3 := ⟨mm 1296 (by decide +kernel) (by decide +kernel), mm 10 (by decide +kernel) (by decide +kernel), ⟨by decide +kernel, by decide +kernel, by decide +kernel⟩, by decide⟩
abbrev kX12_size : mM := (yX12_size, cX12_size, 1, (some FieldType.int))
set_option maxRecDepth 100000 in
theorem mkX12_size : mMk kX12_size 1 := ⟨mm 1479 (by decide +kernel) (by decide +kernel), mm 10 (by decide +kernel) (by decide +kernel), ⟨by decide +kernel, by decide +kernel, by decide +kernel⟩, by decide⟩
abbrev kX12_isCell : mM := (yX12_isCell, cX12_isCell, 2, (some FieldType.boolean))
set_option maxRecDepth 100000 in
theorem mkX12_isCell : mMk kX12_isCell 2 := ⟨mm 1333 (by decide +kernel) (by decide +kernel), mm 10 (by decide +kernel) (by decide +kernel), ⟨by decide +kernel, by decide +kernel, by decide +kernel⟩, by decide⟩
abbrev kX12_isDirection : mM := (yX12_isDirection, cX12_isDirection, 1, (some FieldType.boolean))
set_option maxRecDepth 100000 in
theorem mkX12_isDirection : mMk kX12_isDirection 1 := ⟨mm 1344 (by decide +kernel) (by decide +kernel), mm 10 (by decide +kernel) (by decide +kernel), ⟨by decide +kernel, by decide +kernel, by decide +kernel⟩, by decide⟩
abbrev kX12_stepX : mM := (yX12_stepX, cX12_stepX, 1, (some FieldType.int))
set_option maxRecDepth 100000 in
theorem mkX12_stepX : mMk kX12_stepX 1 := ⟨mm 1351 (by decide +kernel) (by decide +kernel), mm 10 (by decide +kernel) (by decide +kernel), ⟨by decide +kernel, by decide +kernel, by decide +kernel⟩, by decide⟩
abbrev kX12_stepY : mM := (yX12_stepY, cX12_stepY, 1, (some FieldType.int))
set_option maxRecDepth 100000 in
theorem mkX12_stepY : mMk kX12_stepY 1 := ⟨mm 1354 (by decide +kernel) (by decide +kernel), mm 10 (by decide +kernel) (by decide +kernel), ⟨by decide +kernel, by decide +kernel, by decide +kernel⟩, by decide⟩
abbrev kX12_isCoast : mM := (yX12_isCoast, cX12_isCoast, 2, (some FieldType.boolean))
set_option maxRecDepth 100000 in
theorem mkX12_isCoast : mMk kX12_isCoast 1 := ⟨mm 1326 (by decide +kernel) (by decide +kernel), mm 10 (by decide +kernel) (by decide +kernel), ⟨by decide +kernel, by decide +kernel, by decide +kernel⟩, by decide⟩
abbrev kX12_next0 : mM := (yX12_next0, cX12_next0, 3, (some FieldType.int))
set_option maxRecDepth 100000 in
theorem mkX12_next0 : mMk kX12_next0 2 := ⟨mm 1311 (by decide +kernel) (by decide +kernel), mm 10 (by decide +kernel) (by decide +kernel), ⟨by decide +kernel, by decide +kernel, by decide +kernel⟩, by decide⟩
abbrev kX12_isSide : mM := (yX12_isSide, cX12_isSide, 5, (some FieldType.boolean))
set_option maxRecDepth 100000 in
theorem mkX12_isSide : mMk kX12_isSide 2 := ⟨mm 1307 (by decide +kernel) (by decide +kernel), mm 10 (by decide +kernel) (by decide +kernel), ⟨by decide +kernel, by decide +kernel, by decide +kernel⟩, by decide⟩
abbrev kX12_isBetween : mM := (yX12_isBetween, cX12_isBetween, 3, (some FieldType.boolean))
set_option maxRecDepth 100000 in
theorem mkX12_isBetween : mMk kX12_isBetween 3 := ⟨mm 1318 (by decide +kernel) (by decide +kernel), mm 10 (by decide +kernel) (by decide +kernel), ⟨by decide +kernel, by decide +kernel, by decide +kernel⟩, by decide⟩
abbrev kX12_laysLand : mM := (yX12_laysLand, cX12_laysLand, 7, none)
set_option maxRecDepth 100000 in
theorem mkX12_laysLand : mMk kX12_laysLand 1 := ⟨mm 1315 (by decide +kernel) (by decide +kernel), mm 10 (by decide +kernel) (by decide +kernel), ⟨by decide +kernel, by decide +kernel, by decide +kernel⟩, by decide⟩
abbrev kX12_isCorner : mM := (yX12_isCorner, cX12_isCorner, 1, (some FieldType.boolean))
set_option maxRecDepth 100000 in
theorem mkX12_isCorner : mMk kX12_isCorner 1 := ⟨mm 1303 (by decide +kernel) (by decide +kernel), mm 10 (by decide +kernel) (by decide +kernel), ⟨by decide +kernel, by decide +kernel, by decide +kernel⟩, by decide⟩
abbrev kX12_firstWrong : mM := (yX12_firstWrong, cX12_firstWrong, 4, (some FieldType.int))
set_option maxRecDepth 100000 in
theorem mkX12_firstWrong : mMk kX12_firstWrong 1 := ⟨mm 1300 (by decide +kernel) (by decide +kernel), mm 10 (by decide +kernel) (by decide +kernel), ⟨by decide +kernel, by decide +kernel, by decide +kernel⟩, by decide⟩
abbrev kX12_coast : mM := (yX12_coast, cX12_coast, 3, (some FieldType.int))
set_option maxRecDepth 100000 in
theorem mkX12_coast : mMk kX12_coast 1 := ⟨mm 1293 (by decide +kernel) (by decide +kernel), mm 10 (by decide +kernel) (by decide +kernel), ⟨by decide +kernel, by decide +kernel, by decide +kernel⟩, by decide⟩
abbrev kX12_push : mM := (yX12_push, cX12_push, 7, (some FieldType.int))
set_option maxRecDepth 100000 in
theorem mkX12_push : mMk kX12_push 3 := ⟨mm 1322 (by decide +kernel) (by decide +kernel), mm 10 (by decide +kernel) (by decide +kernel), ⟨by decide +kernel, by decide +kernel, by decide +kernel⟩, by decide⟩
abbrev kX12_isLandAt : mM := (yX12_isLandAt, cX12_isLandAt, 4, (some FieldType.boolean))
set_option maxRecDepth 100000 in
theorem mkX12_isLandAt : mMk kX12_isLandAt 3 := ⟨mm 1337 (by decide +kernel) (by decide +kernel), mm 10 (by decide +kernel) (by decide +kernel), ⟨by decide +kernel, by decide +kernel, by decide +kernel⟩, by decide⟩
abbrev kX12_land : mM := (yX12_land, cX12_land, 4, (some FieldType.int))
set_option maxRecDepth 100000 in
theorem mkX12_land : mMk kX12_land 3 := ⟨mm 1330 (by decide +kernel) (by decide +kernel), mm 10 (by decide +kernel) (by decide +kernel), ⟨by decide +kernel, by decide +kernel, by decide +kernel⟩, by decide⟩
abbrev kX12_stepsTo : mM := (yX12_stepsTo, cX12_stepsTo, 6, (some FieldType.int))
set_option maxRecDepth 100000 in
theorem mkX12_stepsTo : mMk kX12_stepsTo 4 := ⟨mm 1348 (by decide +kernel) (by decide +kernel), mm 10 (by decide +kernel) (by decide +kernel), ⟨by decide +kernel, by decide +kernel, by decide +kernel⟩, by decide⟩
abbrev kX12_sortAt : mM := (yX12_sortAt, cX12_sortAt, 10, (some FieldType.int))
set_option maxRecDepth 100000 in
theorem mkX12_sortAt : mMk kX12_sortAt 4 := ⟨mm 1362 (by decide +kernel) (by decide +kernel), mm 10 (by decide +kernel) (by decide +kernel), ⟨by decide +kernel, by decide +kernel, by decide +kernel⟩, by decide⟩
abbrev kX12_sortTo : mM := (yX12_sortTo, cX12_sortTo, 6, (some FieldType.int))
set_option maxRecDepth 100000 in
theorem mkX12_sortTo : mMk kX12_sortTo 4 := ⟨mm 1358 (by decide +kernel) (by decide +kernel), mm 10 (by decide +kernel) (by decide +kernel), ⟨by decide +kernel, by decide +kernel, by decide +kernel⟩, by decide⟩
abbrev kX12_echoOf : mM := (yX12_echoOf, cX12_echoOf, 6, (some FieldType.int))
set_option maxRecDepth 100000 in
theorem mkX12_echoOf : mMk kX12_echoOf 4 := ⟨mm 1366 (by decide +kernel) (by decide +kernel), mm 10 (by decide +kernel) (by decide +kernel), ⟨by decide +kernel, by decide +kernel, by decide +kernel⟩, by decide⟩
abbrev kX12_mayBeNone : mM := (yX12_mayBeNone, cX12_mayBeNone, 5, (some FieldType.boolean))
set_option maxRecDepth 100000 in
theorem mkX12_mayBeNone : mMk kX12_mayBeNone 4 := ⟨mm 1539 (by decide +kernel) (by decide +kernel), mm 10 (by decide +kernel) (by decide +kernel), ⟨by decide +kernel, by decide +kernel, by decide +kernel⟩, by decide⟩
abbrev kX12_facing : mM := (yX12_facing, cX12_facing, 6, (some FieldType.int))
set_option maxRecDepth 100000 in
theorem mkX12_facing : mMk kX12_facing 5 := ⟨mm 1341 (by decide +kernel) (by decide +kernel), mm 10 (by decide +kernel) (by decide +kernel), ⟨by decide +kernel, by decide +kernel, by decide +kernel⟩, by decide⟩
abbrev kX12_isSounder : mM := (yX12_isSounder, cX12_isSounder, 2, (some FieldType.boolean))
set_option maxRecDepth 100000 in
theorem mkX12_isSounder : mMk kX12_isSounder 1 := ⟨mm 1469 (by decide +kernel) (by decide +kernel), mm 10 (by decide +kernel) (by decide +kernel), ⟨by decide +kernel, by decide +kernel, by decide +kernel⟩, by decide⟩
abbrev kX12_sounder : mM := (yX12_sounder, cX12_sounder, 5, (some FieldType.int))
set_option maxRecDepth 100000 in
theorem mkX12_sounder : mMk kX12_sounder 4 := ⟨mm 1370 (by decide +kernel) (by decide +kernel), mm 10 (by decide +kernel) (by decide +kernel), ⟨by decide +kernel, by decide +kernel, by decide +kernel⟩, by decide⟩
abbrev kX12_types : mM := (yX12_types, cX12_types, 3, none)
set_option maxRecDepth 100000 in
theorem mkX12_types : mMk kX12_types 1 := ⟨mm 1378 (by decide +kernel) (by decide +kernel), mm 10 (by decide +kernel) (by decide +kernel), ⟨by decide +kernel, by decide +kernel, by decide +kernel⟩, by decide⟩
abbrev kX12_feed : mM := (yX12_feed, cX12_feed, 6, (some FieldType.int))
set_option maxRecDepth 100000 in
theorem mkX12_feed : mMk kX12_feed 5 := ⟨mm 1374 (by decide +kernel) (by decide +kernel), mm 10 (by decide +kernel) (by decide +kernel), ⟨by decide +kernel, by decide +kernel, by decide +kernel⟩, by decide⟩
abbrev kX12_here : mM := (yX12_here, cX12_here, 1, (some FieldType.int))
set_option maxRecDepth 100000 in
theorem mkX12_here : mMk kX12_here 0 := ⟨mm 1390 (by decide +kernel) (by decide +kernel), mm 10 (by decide +kernel) (by decide +kernel), ⟨by decide +kernel, by decide +kernel, by decide +kernel⟩, by decide⟩
abbrev kX12_isDigit : mM := (yX12_isDigit, cX12_isDigit, 1, (some FieldType.boolean))
set_option maxRecDepth 100000 in
theorem mkX12_isDigit : mMk kX12_isDigit 0 := ⟨mm 1411 (by decide +kernel) (by decide +kernel), mm 10 (by decide +kernel) (by decide +kernel), ⟨by decide +kernel, by decide +kernel, by decide +kernel⟩, by decide⟩
abbrev kX12_wrongAt : mM := (yX12_wrongAt, cX12_wrongAt, 3, (some FieldType.boolean))
set_option maxRecDepth 100000 in
theorem mkX12_wrongAt : mMk kX12_wrongAt 2 := ⟨mm 1394 (by decide +kernel) (by decide +kernel), mm 10 (by decide +kernel) (by decide +kernel), ⟨by decide +kernel, by decide +kernel, by decide +kernel⟩, by decide⟩
abbrev kX12_takes : mM := (yX12_takes, cX12_takes, 2, (some FieldType.boolean))
set_option maxRecDepth 100000 in
theorem mkX12_takes : mMk kX12_takes 1 := ⟨mm 1461 (by decide +kernel) (by decide +kernel), mm 10 (by decide +kernel) (by decide +kernel), ⟨by decide +kernel, by decide +kernel, by decide +kernel⟩, by decide⟩
abbrev kX12_readsNumber : mM := (yX12_readsNumber, cX12_readsNumber, 2, (some FieldType.boolean))
set_option maxRecDepth 100000 in
theorem mkX12_readsNumber : mMk kX12_readsNumber 0 := ⟨mm 1415 (by decide +kernel) (by decide +kernel), mm 10 (by decide +kernel) (by decide +kernel), ⟨by decide +kernel, by decide +kernel, by decide +kernel⟩, by decide⟩
abbrev kX12_notes : mM := (yX12_notes, cX12_notes, 3, none)
set_option maxRecDepth 100000 in
theorem mkX12_notes : mMk kX12_notes 2 := ⟨mm 1419 (by decide +kernel) (by decide +kernel), mm 10 (by decide +kernel) (by decide +kernel), ⟨by decide +kernel, by decide +kernel, by decide +kernel⟩, by decide⟩
abbrev kX12_opens : mM := (yX12_opens, cX12_opens, 2, (some FieldType.boolean))
set_option maxRecDepth 100000 in
theorem mkX12_opens : mMk kX12_opens 1 := ⟨mm 1406 (by decide +kernel) (by decide +kernel), mm 10 (by decide +kernel) (by decide +kernel), ⟨by decide +kernel, by decide +kernel, by decide +kernel⟩, by decide⟩
abbrev kX12_top : mM := (yX12_top, cX12_top, 1, (some FieldType.int))
set_option maxRecDepth 100000 in
theorem mkX12_top : mMk kX12_top 0 := ⟨mm 1433 (by decide +kernel) (by decide +kernel), mm 10 (by decide +kernel) (by decide +kernel), ⟨by decide +kernel, by decide +kernel, by decide +kernel⟩, by decide⟩
abbrev kX12_factOf : mM := (yX12_factOf, cX12_factOf, 1, (some FieldType.int))
set_option maxRecDepth 100000 in
theorem mkX12_factOf : mMk kX12_factOf 1 := ⟨mm 1422 (by decide +kernel) (by decide +kernel), mm 10 (by decide +kernel) (by decide +kernel), ⟨by decide +kernel, by decide +kernel, by decide +kernel⟩, by decide⟩
abbrev kX12_sumSign : mM := (yX12_sumSign, cX12_sumSign, 1, (some FieldType.int))
set_option maxRecDepth 100000 in
theorem mkX12_sumSign : mMk kX12_sumSign 1 := ⟨mm 1425 (by decide +kernel) (by decide +kernel), mm 10 (by decide +kernel) (by decide +kernel), ⟨by decide +kernel, by decide +kernel, by decide +kernel⟩, by decide⟩
abbrev kX12_closesSums : mM := (yX12_closesSums, cX12_closesSums, 2, none)
set_option maxRecDepth 100000 in
theorem mkX12_closesSums : mMk kX12_closesSums 1 := ⟨mm 1429 (by decide +kernel) (by decide +kernel), mm 10 (by decide +kernel) (by decide +kernel), ⟨by decide +kernel, by decide +kernel, by decide +kernel⟩, by decide⟩
abbrev kX12_readsFactor : mM := (yX12_readsFactor, cX12_readsFactor, 2, (some FieldType.boolean))
set_option maxRecDepth 100000 in
theorem mkX12_readsFactor : mMk kX12_readsFactor 0 := ⟨mm 1402 (by decide +kernel) (by decide +kernel), mm 10 (by decide +kernel) (by decide +kernel), ⟨by decide +kernel, by decide +kernel, by decide +kernel⟩, by decide⟩
abbrev kX12_hasOpenSum : mM := (yX12_hasOpenSum, cX12_hasOpenSum, 3, (some FieldType.boolean))
set_option maxRecDepth 100000 in
theorem mkX12_hasOpenSum : mMk kX12_hasOpenSum 1 := ⟨mm 1437 (by decide +kernel) (by decide +kernel), mm 10 (by decide +kernel) (by decide +kernel), ⟨by decide +kernel, by decide +kernel, by decide +kernel⟩, by decide⟩
abbrev kX12_readsSum : mM := (yX12_readsSum, cX12_readsSum, 3, (some FieldType.boolean))
set_option maxRecDepth 100000 in
theorem mkX12_readsSum : mMk kX12_readsSum 0 := ⟨mm 1398 (by decide +kernel) (by decide +kernel), mm 10 (by decide +kernel) (by decide +kernel), ⟨by decide +kernel, by decide +kernel, by decide +kernel⟩, by decide⟩
abbrev kX12_endsPiece : mM := (yX12_endsPiece, cX12_endsPiece, 1, none)
set_option maxRecDepth 100000 in
theorem mkX12_endsPiece : mMk kX12_endsPiece 0 := ⟨mm 1449 (by decide +kernel) (by decide +kernel), mm 10 (by decide +kernel) (by decide +kernel), ⟨by decide +kernel, by decide +kernel, by decide +kernel⟩, by decide⟩
abbrev kX12_lands : mM := (yX12_lands, cX12_lands, 3, none)
set_option maxRecDepth 100000 in
theorem mkX12_lands : mMk kX12_lands 1 := ⟨mm 1453 (by decide +kernel) (by decide +kernel), mm 10 (by decide +kernel) (by decide +kernel), ⟨by decide +kernel, by decide +kernel, by decide +kernel⟩, by decide⟩
abbrev kX12_jumps : mM := (yX12_jumps, cX12_jumps, 2, none)
set_option maxRecDepth 100000 in
theorem mkX12_jumps : mMk kX12_jumps 1 := ⟨mm 1457 (by decide +kernel) (by decide +kernel), mm 10 (by decide +kernel) (by decide +kernel), ⟨by decide +kernel, by decide +kernel, by decide +kernel⟩, by decide⟩
abbrev kX12_readsCompared : mM := (yX12_readsCompared, cX12_readsCompared, 2, (some FieldType.boolean))
set_option maxRecDepth 100000 in
theorem mkX12_readsCompared : mMk kX12_readsCompared 0 := ⟨mm 1445 (by decide +kernel) (by decide +kernel), mm 10 (by decide +kernel) (by decide +kernel), ⟨by decide +kernel, by decide +kernel, by decide +kernel⟩, by decide⟩
abbrev kX12_readsCondition : mM := (yX12_readsCondition, cX12_readsCondition, 1, (some FieldType.boolean))
set_option maxRecDepth 100000 in
theorem mkX12_readsCondition : mMk kX12_readsCondition 0 := ⟨mm 1441 (by decide +kernel) (by decide +kernel), mm 10 (by decide +kernel) (by decide +kernel), ⟨by decide +kernel, by decide +kernel, by decide +kernel⟩, by decide⟩
abbrev kX12_readsClause : mM := (yX12_readsClause, cX12_readsClause, 1, (some FieldType.boolean))
set_option maxRecDepth 100000 in
theorem mkX12_readsClause : mMk kX12_readsClause 0 := ⟨mm 1386 (by decide +kernel) (by decide +kernel), mm 10 (by decide +kernel) (by decide +kernel), ⟨by decide +kernel, by decide +kernel, by decide +kernel⟩, by decide⟩
abbrev kX12_law : mM := (yX12_law, cX12_law, 4, (some FieldType.int))
set_option maxRecDepth 100000 in
theorem mkX12_law : mMk kX12_law 1 := ⟨mm 1382 (by decide +kernel) (by decide +kernel), mm 10 (by decide +kernel) (by decide +kernel), ⟨by decide +kernel, by decide +kernel, by decide +kernel⟩, by decide⟩
abbrev kX12_reckon : mM := (yX12_reckon, cX12_reckon, 3, (some FieldType.int))
set_option maxRecDepth 100000 in
theorem mkX12_reckon : mMk kX12_reckon 3 := ⟨mm 1490 (by decide +kernel) (by decide +kernel), mm 10 (by decide +kernel) (by decide +kernel), ⟨by decide +kernel, by decide +kernel, by decide +kernel⟩, by decide⟩
abbrev kX12_comesTo : mM := (yX12_comesTo, cX12_comesTo, 8, (some FieldType.int))
set_option maxRecDepth 100000 in
theorem mkX12_comesTo : mMk kX12_comesTo 2 := ⟨mm 1487 (by decide +kernel) (by decide +kernel), mm 10 (by decide +kernel) (by decide +kernel), ⟨by decide +kernel, by decide +kernel, by decide +kernel⟩, by decide⟩
abbrev kX12_landOnWay : mM := (yX12_landOnWay, cX12_landOnWay, 9, (some FieldType.int))
set_option maxRecDepth 100000 in
theorem mkX12_landOnWay : mMk kX12_landOnWay 5 := ⟨mm 1483 (by decide +kernel) (by decide +kernel), mm 10 (by decide +kernel) (by decide +kernel), ⟨by decide +kernel, by decide +kernel, by decide +kernel⟩, by decide⟩
abbrev kX12_levelOf : mM := (yX12_levelOf, cX12_levelOf, 9, (some FieldType.int))
set_option maxRecDepth 100000 in
theorem mkX12_levelOf : mMk kX12_levelOf 6 := ⟨mm 1476 (by decide +kernel) (by decide +kernel), mm 10 (by decide +kernel) (by decide +kernel), ⟨by decide +kernel, by decide +kernel, by decide +kernel⟩, by decide⟩
abbrev kX12_isAir : mM := (yX12_isAir, cX12_isAir, 2, (some FieldType.boolean))
set_option maxRecDepth 100000 in
theorem mkX12_isAir : mMk kX12_isAir 2 := ⟨mm 1472 (by decide +kernel) (by decide +kernel), mm 10 (by decide +kernel) (by decide +kernel), ⟨by decide +kernel, by decide +kernel, by decide +kernel⟩, by decide⟩
abbrev kX12_level : mM := (yX12_level, cX12_level, 7, (some FieldType.int))
set_option maxRecDepth 100000 in
theorem mkX12_level : mMk kX12_level 6 := ⟨mm 1465 (by decide +kernel) (by decide +kernel), mm 10 (by decide +kernel) (by decide +kernel), ⟨by decide +kernel, by decide +kernel, by decide +kernel⟩, by decide⟩
abbrev kX12_line : mM := (yX12_line, cX12_line, 6, (some FieldType.int))
set_option maxRecDepth 100000 in
theorem mkX12_line : mMk kX12_line 5 := ⟨mm 1494 (by decide +kernel) (by decide +kernel), mm 10 (by decide +kernel) (by decide +kernel), ⟨by decide +kernel, by decide +kernel, by decide +kernel⟩, by decide⟩
abbrev kX12_note : mM := (yX12_note, cX12_note, 5, (some FieldType.int))
set_option maxRecDepth 100000 in
theorem mkX12_note : mMk kX12_note 3 := ⟨mm 1502 (by decide +kernel) (by decide +kernel), mm 10 (by decide +kernel) (by decide +kernel), ⟨by decide +kernel, by decide +kernel, by decide +kernel⟩, by decide⟩
abbrev kX12_hears : mM := (yX12_hears, cX12_hears, 4, (some FieldType.int))
set_option maxRecDepth 100000 in
theorem mkX12_hears : mMk kX12_hears 3 := ⟨mm 1498 (by decide +kernel) (by decide +kernel), mm 10 (by decide +kernel) (by decide +kernel), ⟨by decide +kernel, by decide +kernel, by decide +kernel⟩, by decide⟩
abbrev kX12_echo : mM := (yX12_echo, cX12_echo, 3, (some FieldType.int))
set_option maxRecDepth 100000 in
theorem mkX12_echo : mMk kX12_echo 2 := ⟨mm 1506 (by decide +kernel) (by decide +kernel), mm 10 (by decide +kernel) (by decide +kernel), ⟨by decide +kernel, by decide +kernel, by decide +kernel⟩, by decide⟩
abbrev kX12_back : mM := (yX12_back, cX12_back, 1, (some FieldType.int))
set_option maxRecDepth 100000 in
theorem mkX12_back : mMk kX12_back 0 := ⟨mm 1510 (by decide +kernel) (by decide +kernel), mm 10 (by decide +kernel) (by decide +kernel), ⟨by decide +kernel, by decide +kernel, by decide +kernel⟩, by decide⟩
abbrev kX12_wrong : mM := (yX12_wrong, cX12_wrong, 2, (some FieldType.boolean))
set_option maxRecDepth 100000 in
theorem mkX12_wrong : mMk kX12_wrong 1 := ⟨mm 1514 (by decide +kernel) (by decide +kernel), mm 10 (by decide +kernel) (by decide +kernel), ⟨by decide +kernel, by decide +kernel, by decide +kernel⟩, by decide⟩
abbrev kX12_box : mM := (yX12_box, cX12_box, 5, (some FieldType.boolean))
set_option maxRecDepth 100000 in
theorem mkX12_box : mMk kX12_box 4 := ⟨mm 1518 (by decide +kernel) (by decide +kernel), mm 10 (by decide +kernel) (by decide +kernel), ⟨by decide +kernel, by decide +kernel, by decide +kernel⟩, by decide⟩
abbrev kX12_holds : mM := (yX12_holds, cX12_holds, 8, (some FieldType.boolean))
set_option maxRecDepth 100000 in
theorem mkX12_holds : mMk kX12_holds 4 := ⟨mm 1535 (by decide +kernel) (by decide +kernel), mm 10 (by decide +kernel) (by decide +kernel), ⟨by decide +kernel, by decide +kernel, by decide +kernel⟩, by decide⟩
abbrev kX12_laysOwn : mM := (yX12_laysOwn, cX12_laysOwn, 6, none)
set_option maxRecDepth 100000 in
theorem mkX12_laysOwn : mMk kX12_laysOwn 1 := ⟨mm 1530 (by decide +kernel) (by decide +kernel), mm 10 (by decide +kernel) (by decide +kernel), ⟨by decide +kernel, by decide +kernel, by decide +kernel⟩, by decide⟩
abbrev kX12_sum : mM := (yX12_sum, cX12_sum, 2, (some FieldType.int))
set_option maxRecDepth 100000 in
theorem mkX12_sum : mMk kX12_sum 2 := ⟨mm 1557 (by decide +kernel) (by decide +kernel), mm 10 (by decide +kernel) (by decide +kernel), ⟨by decide +kernel, by decide +kernel, by decide +kernel⟩, by decide⟩
abbrev kX12_least : mM := (yX12_least, cX12_least, 2, (some FieldType.int))
set_option maxRecDepth 100000 in
theorem mkX12_least : mMk kX12_least 2 := ⟨mm 1554 (by decide +kernel) (by decide +kernel), mm 10 (by decide +kernel) (by decide +kernel), ⟨by decide +kernel, by decide +kernel, by decide +kernel⟩, by decide⟩
abbrev kX12_leastAround : mM := (yX12_leastAround, cX12_leastAround, 9, (some FieldType.int))
set_option maxRecDepth 100000 in
theorem mkX12_leastAround : mMk kX12_leastAround 5 := ⟨mm 1551 (by decide +kernel) (by decide +kernel), mm 10 (by decide +kernel) (by decide +kernel), ⟨by decide +kernel, by decide +kernel, by decide +kernel⟩, by decide⟩
abbrev kX12_isInBox : mM := (yX12_isInBox, cX12_isInBox, 2, (some FieldType.boolean))
set_option maxRecDepth 100000 in
theorem mkX12_isInBox : mMk kX12_isInBox 1 := ⟨mm 1547 (by decide +kernel) (by decide +kernel), mm 10 (by decide +kernel) (by decide +kernel), ⟨by decide +kernel, by decide +kernel, by decide +kernel⟩, by decide⟩
abbrev kX12_laysForth : mM := (yX12_laysForth, cX12_laysForth, 4, none)
set_option maxRecDepth 100000 in
theorem mkX12_laysForth : mMk kX12_laysForth 0 := ⟨mm 1543 (by decide +kernel) (by decide +kernel), mm 10 (by decide +kernel) (by decide +kernel), ⟨by decide +kernel, by decide +kernel, by decide +kernel⟩, by decide⟩
abbrev kX12_laysBehind : mM := (yX12_laysBehind, cX12_laysBehind, 4, none)
set_option maxRecDepth 100000 in
theorem mkX12_laysBehind : mMk kX12_laysBehind 0 := ⟨mm 1585 (by decide +kernel) (by decide +kernel), mm 10 (by decide +kernel) (by decide +kernel), ⟨by decide +kernel, by decide +kernel, by decide +kernel⟩, by decide⟩
abbrev kX12_leastAt : mM := (yX12_leastAt, cX12_leastAt, 4, (some FieldType.int))
set_option maxRecDepth 100000 in
theorem mkX12_leastAt : mMk kX12_leastAt 1 := ⟨mm 1561 (by decide +kernel) (by decide +kernel), mm 10 (by decide +kernel) (by decide +kernel), ⟨by decide +kernel, by decide +kernel, by decide +kernel⟩, by decide⟩
abbrev kX12_isFitting : mM := (yX12_isFitting, cX12_isFitting, 2, (some FieldType.boolean))
set_option maxRecDepth 100000 in
theorem mkX12_isFitting : mMk kX12_isFitting 1 := ⟨mm 1526 (by decide +kernel) (by decide +kernel), mm 10 (by decide +kernel) (by decide +kernel), ⟨by decide +kernel, by decide +kernel, by decide +kernel⟩, by decide⟩
abbrev kX12_fits : mM := (yX12_fits, cX12_fits, 2, (some FieldType.int))
set_option maxRecDepth 100000 in
theorem mkX12_fits : mMk kX12_fits 1 := ⟨mm 1522 (by decide +kernel) (by decide +kernel), mm 10 (by decide +kernel) (by decide +kernel), ⟨by decide +kernel, by decide +kernel, by decide +kernel⟩, by decide⟩
abbrev kX12_firstBad : mM := (yX12_firstBad, cX12_firstBad, 3, (some FieldType.int))
set_option maxRecDepth 100000 in
theorem mkX12_firstBad : mMk kX12_firstBad 1 := ⟨mm 1565 (by decide +kernel) (by decide +kernel), mm 10 (by decide +kernel) (by decide +kernel), ⟨by decide +kernel, by decide +kernel, by decide +kernel⟩, by decide⟩
abbrev kX12_laysPossible : mM := (yX12_laysPossible, cX12_laysPossible, 2, none)
set_option maxRecDepth 100000 in
theorem mkX12_laysPossible : mMk kX12_laysPossible 1 := ⟨mm 1581 (by decide +kernel) (by decide +kernel), mm 10 (by decide +kernel) (by decide +kernel), ⟨by decide +kernel, by decide +kernel, by decide +kernel⟩, by decide⟩
abbrev kX12_isThere : mM := (yX12_isThere, cX12_isThere, 4, (some FieldType.boolean))
set_option maxRecDepth 100000 in
theorem mkX12_isThere : mMk kX12_isThere 2 := ⟨mm 1589 (by decide +kernel) (by decide +kernel), mm 10 (by decide +kernel) (by decide +kernel), ⟨by decide +kernel, by decide +kernel, by decide +kernel⟩, by decide⟩
abbrev kX12_possibleIn : mM := (yX12_possibleIn, cX12_possibleIn, 5, (some FieldType.int))
set_option maxRecDepth 100000 in
theorem mkX12_possibleIn : mMk kX12_possibleIn 2 := ⟨mm 1577 (by decide +kernel) (by decide +kernel), mm 10 (by decide +kernel) (by decide +kernel), ⟨by decide +kernel, by decide +kernel, by decide +kernel⟩, by decide⟩
abbrev kX12_isLine : mM := (yX12_isLine, cX12_isLine, 2, (some FieldType.boolean))
set_option maxRecDepth 100000 in
theorem mkX12_isLine : mMk kX12_isLine 1 := ⟨mm 1573 (by decide +kernel) (by decide +kernel), mm 10 (by decide +kernel) (by decide +kernel), ⟨by decide +kernel, by decide +kernel, by decide +kernel⟩, by decide⟩
abbrev kX12_possible : mM := (yX12_possible, cX12_possible, 5, (some FieldType.int))
set_option maxRecDepth 100000 in
theorem mkX12_possible : mMk kX12_possible 2 := ⟨mm 1569 (by decide +kernel) (by decide +kernel), mm 10 (by decide +kernel) (by decide +kernel), ⟨by decide +kernel, by decide +kernel, by decide +kernel⟩, by decide⟩
abbrev kX12_isPossible : mM := (yX12_isPossible, cX12_isPossible, 5, (some FieldType.int))
set_option maxRecDepth 100000 in
theorem mkX12_isPossible : mMk kX12_isPossible 4 := ⟨mm 1593 (by decide +kernel) (by decide +kernel), mm 10 (by decide +kernel) (by decide +kernel), ⟨by decide +kernel, by decide +kernel, by decide +kernel⟩, by decide⟩
abbrev kX12_laysFitting : mM := (yX12_laysFitting, cX12_laysFitting, 2, none)
set_option maxRecDepth 100000 in
theorem mkX12_laysFitting : mMk kX12_laysFitting 0 := ⟨mm 1601 (by decide +kernel) (by decide +kernel), mm 10 (by decide +kernel) (by decide +kernel), ⟨by decide +kernel, by decide +kernel, by decide +kernel⟩, by decide⟩
abbrev kX12_lowest : mM := (yX12_lowest, cX12_lowest, 4, (some FieldType.int))
set_option maxRecDepth 100000 in
theorem mkX12_lowest : mMk kX12_lowest 2 := ⟨mm 1605 (by decide +kernel) (by decide +kernel), mm 10 (by decide +kernel) (by decide +kernel), ⟨by decide +kernel, by decide +kernel, by decide +kernel⟩, by decide⟩
abbrev kX12_isSurelyWater : mM := (yX12_isSurelyWater, cX12_isSurelyWater, 2, (some FieldType.boolean))
set_option maxRecDepth 100000 in
theorem mkX12_isSurelyWater : mMk kX12_isSurelyWater 1 := ⟨mm 1673 (by decide +kernel) (by decide +kernel), mm 10 (by decide +kernel) (by decide +kernel), ⟨by decide +kernel, by decide +kernel, by decide +kernel⟩, by decide⟩
abbrev kX12_sure : mM := (yX12_sure, cX12_sure, 6, (some FieldType.int))
set_option maxRecDepth 100000 in
theorem mkX12_sure : mMk kX12_sure 3 := ⟨mm 1597 (by decide +kernel) (by decide +kernel), mm 10 (by decide +kernel) (by decide +kernel), ⟨by decide +kernel, by decide +kernel, by decide +kernel⟩, by decide⟩
abbrev kX12_choice : mM := (yX12_choice, cX12_choice, 5, (some FieldType.boolean))
set_option maxRecDepth 100000 in
theorem mkX12_choice : mMk kX12_choice 4 := ⟨mm 1609 (by decide +kernel) (by decide +kernel), mm 10 (by decide +kernel) (by decide +kernel), ⟨by decide +kernel, by decide +kernel, by decide +kernel⟩, by decide⟩
abbrev kX12_laysStates : mM := (yX12_laysStates, cX12_laysStates, 3, none)
set_option maxRecDepth 100000 in
theorem mkX12_laysStates : mMk kX12_laysStates 0 := ⟨mm 1621 (by decide +kernel) (by decide +kernel), mm 10 (by decide +kernel) (by decide +kernel), ⟨by decide +kernel, by decide +kernel, by decide +kernel⟩, by decide⟩
abbrev kX12_isChoice : mM := (yX12_isChoice, cX12_isChoice, 2, (some FieldType.boolean))
set_option maxRecDepth 100000 in
theorem mkX12_isChoice : mMk kX12_isChoice 1 := ⟨mm 1625 (by decide +kernel) (by decide +kernel), mm 10 (by decide +kernel) (by decide +kernel), ⟨by decide +kernel, by decide +kernel, by decide +kernel⟩, by decide⟩
abbrev kX12_movedBy : mM := (yX12_movedBy, cX12_movedBy, 6, (some FieldType.int))
set_option maxRecDepth 100000 in
theorem mkX12_movedBy : mMk kX12_movedBy 3 := ⟨mm 1633 (by decide +kernel) (by decide +kernel), mm 10 (by decide +kernel) (by decide +kernel), ⟨by decide +kernel, by decide +kernel, by decide +kernel⟩, by decide⟩
abbrev kX12_countAt : mM := (yX12_countAt, cX12_countAt, 4, (some FieldType.int))
set_option maxRecDepth 100000 in
theorem mkX12_countAt : mMk kX12_countAt 3 := ⟨mm 1637 (by decide +kernel) (by decide +kernel), mm 10 (by decide +kernel) (by decide +kernel), ⟨by decide +kernel, by decide +kernel, by decide +kernel⟩, by decide⟩
abbrev kX12_mayBeSilent : mM := (yX12_mayBeSilent, cX12_mayBeSilent, 4, (some FieldType.boolean))
set_option maxRecDepth 100000 in
theorem mkX12_mayBeSilent : mMk kX12_mayBeSilent 3 := ⟨mm 1641 (by decide +kernel) (by decide +kernel), mm 10 (by decide +kernel) (by decide +kernel), ⟨by decide +kernel, by decide +kernel, by decide +kernel⟩, by decide⟩
abbrev kX12_mostBy : mM := (yX12_mostBy, cX12_mostBy, 5, (some FieldType.int))
set_option maxRecDepth 100000 in
theorem mkX12_mostBy : mMk kX12_mostBy 1 := ⟨mm 1629 (by decide +kernel) (by decide +kernel), mm 10 (by decide +kernel) (by decide +kernel), ⟨by decide +kernel, by decide +kernel, by decide +kernel⟩, by decide⟩
abbrev kX12_worstAnswer : mM := (yX12_worstAnswer, cX12_worstAnswer, 3, (some FieldType.int))
set_option maxRecDepth 100000 in
theorem mkX12_worstAnswer : mMk kX12_worstAnswer 1 := ⟨mm 1645 (by decide +kernel) (by decide +kernel), mm 10 (by decide +kernel) (by decide +kernel), ⟨by decide +kernel, by decide +kernel, by decide +kernel⟩, by decide⟩
abbrev kX12_canChoose : mM := (yX12_canChoose, cX12_canChoose, 1, (some FieldType.boolean))
set_option maxRecDepth 100000 in
theorem mkX12_canChoose : mMk kX12_canChoose 0 := ⟨mm 1617 (by decide +kernel) (by decide +kernel), mm 10 (by decide +kernel) (by decide +kernel), ⟨by decide +kernel, by decide +kernel, by decide +kernel⟩, by decide⟩
abbrev kX12_next : mM := (yX12_next, cX12_next, 7, (some FieldType.int))
set_option maxRecDepth 100000 in
theorem mkX12_next : mMk kX12_next 1 := ⟨mm 1613 (by decide +kernel) (by decide +kernel), mm 10 (by decide +kernel) (by decide +kernel), ⟨by decide +kernel, by decide +kernel, by decide +kernel⟩, by decide⟩
abbrev kX12_addsSecond : mM := (yX12_addsSecond, cX12_addsSecond, 8, none)
set_option maxRecDepth 100000 in
theorem mkX12_addsSecond : mMk kX12_addsSecond 3 := ⟨mm 1657 (by decide +kernel) (by decide +kernel), mm 10 (by decide +kernel) (by decide +kernel), ⟨by decide +kernel, by decide +kernel, by decide +kernel⟩, by decide⟩
abbrev kX12_mostSecond : mM := (yX12_mostSecond, cX12_mostSecond, 5, (some FieldType.int))
set_option maxRecDepth 100000 in
theorem mkX12_mostSecond : mMk kX12_mostSecond 2 := ⟨mm 1661 (by decide +kernel) (by decide +kernel), mm 10 (by decide +kernel) (by decide +kernel), ⟨by decide +kernel, by decide +kernel, by decide +kernel⟩, by decide⟩
abbrev kX12_staysBy : mM := (yX12_staysBy, cX12_staysBy, 6, (some FieldType.int))
set_option maxRecDepth 100000 in
theorem mkX12_staysBy : mMk kX12_staysBy 1 := ⟨mm 1653 (by decide +kernel) (by decide +kernel), mm 10 (by decide +kernel) (by decide +kernel), ⟨by decide +kernel, by decide +kernel, by decide +kernel⟩, by decide⟩
abbrev kX12_ahead : mM := (yX12_ahead, cX12_ahead, 6, (some FieldType.int))
set_option maxRecDepth 100000 in
theorem mkX12_ahead : mMk kX12_ahead 1 := ⟨mm 1649 (by decide +kernel) (by decide +kernel), mm 10 (by decide +kernel) (by decide +kernel), ⟨by decide +kernel, by decide +kernel, by decide +kernel⟩, by decide⟩
abbrev kX12_laysSure : mM := (yX12_laysSure, cX12_laysSure, 2, (some FieldType.boolean))
set_option maxRecDepth 100000 in
theorem mkX12_laysSure : mMk kX12_laysSure 0 := ⟨mm 1669 (by decide +kernel) (by decide +kernel), mm 10 (by decide +kernel) (by decide +kernel), ⟨by decide +kernel, by decide +kernel, by decide +kernel⟩, by decide⟩
abbrev kX12_stepBy : mM := (yX12_stepBy, cX12_stepBy, 6, (some FieldType.int))
set_option maxRecDepth 100000 in
theorem mkX12_stepBy : mMk kX12_stepBy 3 := ⟨mm 1685 (by decide +kernel) (by decide +kernel), mm 10 (by decide +kernel) (by decide +kernel), ⟨by decide +kernel, by decide +kernel, by decide +kernel⟩, by decide⟩
abbrev kX12_bestBy : mM := (yX12_bestBy, cX12_bestBy, 5, (some FieldType.int))
set_option maxRecDepth 100000 in
theorem mkX12_bestBy : mMk kX12_bestBy 2 := ⟨mm 1681 (by decide +kernel) (by decide +kernel), mm 10 (by decide +kernel) (by decide +kernel), ⟨by decide +kernel, by decide +kernel, by decide +kernel⟩, by decide⟩
abbrev kX12_laysWays : mM := (yX12_laysWays, cX12_laysWays, 5, none)
set_option maxRecDepth 100000 in
theorem mkX12_laysWays : mMk kX12_laysWays 1 := ⟨mm 1677 (by decide +kernel) (by decide +kernel), mm 10 (by decide +kernel) (by decide +kernel), ⟨by decide +kernel, by decide +kernel, by decide +kernel⟩, by decide⟩
abbrev kX12_firstBy : mM := (yX12_firstBy, cX12_firstBy, 3, (some FieldType.int))
set_option maxRecDepth 100000 in
theorem mkX12_firstBy : mMk kX12_firstBy 2 := ⟨mm 1689 (by decide +kernel) (by decide +kernel), mm 10 (by decide +kernel) (by decide +kernel), ⟨by decide +kernel, by decide +kernel, by decide +kernel⟩, by decide⟩
abbrev kX12_wayIn : mM := (yX12_wayIn, cX12_wayIn, 13, (some FieldType.int))
set_option maxRecDepth 100000 in
theorem mkX12_wayIn : mMk kX12_wayIn 5 := ⟨mm 1665 (by decide +kernel) (by decide +kernel), mm 10 (by decide +kernel) (by decide +kernel), ⟨by decide +kernel, by decide +kernel, by decide +kernel⟩, by decide⟩
abbrev kX12_spreads : mM := (yX12_spreads, cX12_spreads, 8, none)
set_option maxRecDepth 100000 in
theorem mkX12_spreads : mMk kX12_spreads 1 := ⟨mm 1697 (by decide +kernel) (by decide +kernel), mm 10 (by decide +kernel) (by decide +kernel), ⟨by decide +kernel, by decide +kernel, by decide +kernel⟩, by decide⟩
abbrev kX12_pool : mM := (yX12_pool, cX12_pool, 6, (some FieldType.int))
set_option maxRecDepth 100000 in
theorem mkX12_pool : mMk kX12_pool 3 := ⟨mm 1693 (by decide +kernel) (by decide +kernel), mm 10 (by decide +kernel) (by decide +kernel), ⟨by decide +kernel, by decide +kernel, by decide +kernel⟩, by decide⟩
abbrev kX12_tapeNumber : mM := (yX12_tapeNumber, cX12_tapeNumber, 4, (some FieldType.int))
set_option maxRecDepth 100000 in
theorem mkX12_tapeNumber : mMk kX12_tapeNumber 1 := ⟨mm 1705 (by decide +kernel) (by decide +kernel), mm 10 (by decide +kernel) (by decide +kernel), ⟨by decide +kernel, by decide +kernel, by decide +kernel⟩, by decide⟩
abbrev kX12_rowOf : mM := (yX12_rowOf, cX12_rowOf, 5, (some FieldType.int))
set_option maxRecDepth 100000 in
theorem mkX12_rowOf : mMk kX12_rowOf 2 := ⟨mm 1709 (by decide +kernel) (by decide +kernel), mm 10 (by decide +kernel) (by decide +kernel), ⟨by decide +kernel, by decide +kernel, by decide +kernel⟩, by decide⟩
abbrev kX12_check : mM := (yX12_check, cX12_check, 4, (some FieldType.int))
set_option maxRecDepth 100000 in
theorem mkX12_check : mMk kX12_check 2 := ⟨mm 1701 (by decide +kernel) (by decide +kernel), mm 10 (by decide +kernel) (by decide +kernel), ⟨by decide +kernel, by decide +kernel, by decide +kernel⟩, by decide⟩
abbrev kX12_count : mM := (yX12_count, cX12_count, 2, (some FieldType.int))
set_option maxRecDepth 100000 in
theorem mkX12_count : mMk kX12_count 1 := ⟨mm 1713 (by decide +kernel) (by decide +kernel), mm 10 (by decide +kernel) (by decide +kernel), ⟨by decide +kernel, by decide +kernel, by decide +kernel⟩, by decide⟩
abbrev kJ11_isValidCodePoint_9a6ad : mM := (yJ11_isValidCodePoint_9a6ad, cJ11_isValidCodePoint_9a6ad, 2, (some FieldType.boolean))
set_option maxRecDepth 100000 in
theorem mkJ11_isValidCodePoint_9a6ad : mMk kJ11_isValidCodePoint_9a6ad 1 := ⟨mm 564 (by decide +kernel) (by decide +kernel), mm 17 (by decide +kernel) (by decide +kernel), ⟨by decide +kernel, by decide +kernel, by decide +kernel⟩, by decide⟩
abbrev kJ11_highSurrogate_5068e : mM := (yJ11_highSurrogate_5068e, cJ11_highSurrogate_5068e, 1, (some FieldType.char))
set_option maxRecDepth 100000 in
theorem mkJ11_highSurrogate_5068e : mMk kJ11_highSurrogate_5068e 1 := ⟨mm 567 (by decide +kernel) (by decide +kernel), mm 17 (by decide +kernel) (by decide +kernel), ⟨by decide +kernel, by decide +kernel, by decide +kernel⟩, by decide⟩
abbrev kJ11_lowSurrogate_5068e : mM := (yJ11_lowSurrogate_5068e, cJ11_lowSurrogate_5068e, 1, (some FieldType.char))
set_option maxRecDepth 100000 in
theorem mkJ11_lowSurrogate_5068e : mMk kJ11_lowSurrogate_5068e 1 := ⟨mm 571 (by decide +kernel) (by decide +kernel), mm 17 (by decide +kernel) (by decide +kernel), ⟨by decide +kernel, by decide +kernel, by decide +kernel⟩, by decide⟩
abbrev kJ6_bitCount_0f7a4 : mM := (yJ6_bitCount_0f7a4, cJ6_bitCount_0f7a4, 1, (some FieldType.int))
set_option maxRecDepth 100000 in
theorem mkJ6_bitCount_0f7a4 : mMk kJ6_bitCount_0f7a4 1 := ⟨mm 719 (by decide +kernel) (by decide +kernel), mm 19 (by decide +kernel) (by decide +kernel), ⟨by decide +kernel, by decide +kernel, by decide +kernel⟩, by decide⟩
abbrev kJ9_abs_0f7a4 : mM := (yJ9_abs_0f7a4, cJ9_abs_0f7a4, 1, (some FieldType.int))
set_option maxRecDepth 100000 in
theorem mkJ9_abs_0f7a4 : mMk kJ9_abs_0f7a4 1 := ⟨mm 709 (by decide +kernel) (by decide +kernel), mm 12 (by decide +kernel) (by decide +kernel), ⟨by decide +kernel, by decide +kernel, by decide +kernel⟩, by decide⟩
abbrev kJ9_max_7cf53 : mM := (yJ9_max_7cf53, cJ9_max_7cf53, 2, (some FieldType.int))
set_option maxRecDepth 100000 in
theorem mkJ9_max_7cf53 : mMk kJ9_max_7cf53 2 := ⟨mm 452 (by decide +kernel) (by decide +kernel), mm 12 (by decide +kernel) (by decide +kernel), ⟨by decide +kernel, by decide +kernel, by decide +kernel⟩, by decide⟩
abbrev kJ9_min_7cf53 : mM := (yJ9_min_7cf53, cJ9_min_7cf53, 2, (some FieldType.int))
set_option maxRecDepth 100000 in
theorem mkJ9_min_7cf53 : mMk kJ9_min_7cf53 2 := ⟨mm 455 (by decide +kernel) (by decide +kernel), mm 12 (by decide +kernel) (by decide +kernel), ⟨by decide +kernel, by decide +kernel, by decide +kernel⟩, by decide⟩
abbrev kJ0_length_8abf5 : mM := (yJ0_length_8abf5, cJ0_length_8abf5, 1, (some FieldType.int))
set_option maxRecDepth 100000 in
theorem mkJ0_length_8abf5 : mMk kJ0_length_8abf5 0 := ⟨mm 508 (by decide +kernel) (by decide +kernel), mm 13 (by decide +kernel) (by decide +kernel), ⟨by decide +kernel, by decide +kernel, by decide +kernel⟩, by decide⟩
abbrev kJ0_indexOf_0f7a4 : mM := (yJ0_indexOf_0f7a4, cJ0_indexOf_0f7a4, 2, (some FieldType.int))
set_option maxRecDepth 100000 in
theorem mkJ0_indexOf_0f7a4 : mMk kJ0_indexOf_0f7a4 1 := ⟨mm 494 (by decide +kernel) (by decide +kernel), mm 13 (by decide +kernel) (by decide +kernel), ⟨by decide +kernel, by decide +kernel, by decide +kernel⟩, by decide⟩
abbrev kJ0_indexOf_7cf53 : mM := (yJ0_indexOf_7cf53, cJ0_indexOf_7cf53, 3, (some FieldType.int))
set_option maxRecDepth 100000 in
theorem mkJ0_indexOf_7cf53 : mMk kJ0_indexOf_7cf53 2 := ⟨mm 498 (by decide +kernel) (by decide +kernel), mm 13 (by decide +kernel) (by decide +kernel), ⟨by decide +kernel, by decide +kernel, by decide +kernel⟩, by decide⟩
abbrev kJ0_coder_7d493 : mM := (yJ0_coder_7d493, cJ0_coder_7d493, 1, (some FieldType.byte))
set_option maxRecDepth 100000 in
theorem mkJ0_coder_7d493 : mMk kJ0_coder_7d493 0 := ⟨mm 512 (by decide +kernel) (by decide +kernel), mm 13 (by decide +kernel) (by decide +kernel), ⟨by decide +kernel, by decide +kernel, by decide +kernel⟩, by decide⟩
abbrev kJ0_isLatin1_aae02 : mM := (yJ0_isLatin1_aae02, cJ0_isLatin1_aae02, 1, (some FieldType.boolean))
set_option maxRecDepth 100000 in
theorem mkJ0_isLatin1_aae02 : mMk kJ0_isLatin1_aae02 0 := ⟨mm 502 (by decide +kernel) (by decide +kernel), mm 13 (by decide +kernel) (by decide +kernel), ⟨by decide +kernel, by decide +kernel, by decide +kernel⟩, by decide⟩
abbrev kJ0_checkBoundsBeginEnd_23922 : mM := (yJ0_checkBoundsBeginEnd_23922, cJ0_checkBoundsBeginEnd_23922, 3, none)
set_option maxRecDepth 100000 in
theorem mkJ0_checkBoundsBeginEnd_23922 : mMk kJ0_checkBoundsBeginEnd_23922 3 := ⟨mm 541 (by decide +kernel) (by decide +kernel), mm 13 (by decide +kernel) (by decide +kernel), ⟨by decide +kernel, by decide +kernel, by decide +kernel⟩, by decide⟩
abbrev kJ1_canEncode_9a6ad : mM := (yJ1_canEncode_9a6ad, cJ1_canEncode_9a6ad, 1, (some FieldType.boolean))
set_option maxRecDepth 100000 in
theorem mkJ1_canEncode_9a6ad : mMk kJ1_canEncode_9a6ad 1 := ⟨mm 518 (by decide +kernel) (by decide +kernel), mm 14 (by decide +kernel) (by decide +kernel), ⟨by decide +kernel, by decide +kernel, by decide +kernel⟩, by decide⟩
abbrev kJ1_indexOf_4cfef : mM := (yJ1_indexOf_4cfef, cJ1_indexOf_4cfef, 4, (some FieldType.int))
set_option maxRecDepth 100000 in
theorem mkJ1_indexOf_4cfef : mMk kJ1_indexOf_4cfef 4 := ⟨mm 515 (by decide +kernel) (by decide +kernel), mm 14 (by decide +kernel) (by decide +kernel), ⟨by decide +kernel, by decide +kernel, by decide +kernel⟩, by decide⟩
abbrev kJ1_indexOfChar_4cfef : mM := (yJ1_indexOfChar_4cfef, cJ1_indexOfChar_4cfef, 6, (some FieldType.int))
set_option maxRecDepth 100000 in
theorem mkJ1_indexOfChar_4cfef : mMk kJ1_indexOfChar_4cfef 4 := ⟨mm 523 (by decide +kernel) (by decide +kernel), mm 14 (by decide +kernel) (by decide +kernel), ⟨by decide +kernel, by decide +kernel, by decide +kernel⟩, by decide⟩
abbrev kJ2_getChar_3b067 : mM := (yJ2_getChar_3b067, cJ2_getChar_3b067, 2, (some FieldType.char))
set_option maxRecDepth 100000 in
theorem mkJ2_getChar_3b067 : mMk kJ2_getChar_3b067 2 := ⟨mm 552 (by decide +kernel) (by decide +kernel), mm 15 (by decide +kernel) (by decide +kernel), ⟨by decide +kernel, by decide +kernel, by decide +kernel⟩, by decide⟩
abbrev kJ2_length_9d52b : mM := (yJ2_length_9d52b, cJ2_length_9d52b, 1, (some FieldType.int))
set_option maxRecDepth 100000 in
theorem mkJ2_length_9d52b : mMk kJ2_length_9d52b 1 := ⟨mm 538 (by decide +kernel) (by decide +kernel), mm 15 (by decide +kernel) (by decide +kernel), ⟨by decide +kernel, by decide +kernel, by decide +kernel⟩, by decide⟩
abbrev kJ2_indexOf_4cfef : mM := (yJ2_indexOf_4cfef, cJ2_indexOf_4cfef, 4, (some FieldType.int))
set_option maxRecDepth 100000 in
theorem mkJ2_indexOf_4cfef : mMk kJ2_indexOf_4cfef 4 := ⟨mm 526 (by decide +kernel) (by decide +kernel), mm 15 (by decide +kernel) (by decide +kernel), ⟨by decide +kernel, by decide +kernel, by decide +kernel⟩, by decide⟩
abbrev kJ2_indexOfChar_4cfef : mM := (yJ2_indexOfChar_4cfef, cJ2_indexOfChar_4cfef, 4, (some FieldType.int))
set_option maxRecDepth 100000 in
theorem mkJ2_indexOfChar_4cfef : mMk kJ2_indexOfChar_4cfef 4 := ⟨mm 532 (by decide +kernel) (by decide +kernel), mm 15 (by decide +kernel) (by decide +kernel), ⟨by decide +kernel, by decide +kernel, by decide +kernel⟩, by decide⟩
abbrev kJ2_indexOfCharUnsafe_4cfef : mM := (yJ2_indexOfCharUnsafe_4cfef, cJ2_indexOfCharUnsafe_4cfef, 5, (some FieldType.int))
set_option maxRecDepth 100000 in
theorem mkJ2_indexOfCharUnsafe_4cfef : mMk kJ2_indexOfCharUnsafe_4cfef 4 := ⟨mm 549 (by decide +kernel) (by decide +kernel), mm 15 (by decide +kernel) (by decide +kernel), ⟨by decide +kernel, by decide +kernel, by decide +kernel⟩, by decide⟩
abbrev kJ2_indexOfSupplementary_4cfef : mM := (yJ2_indexOfSupplementary_4cfef, cJ2_indexOfSupplementary_4cfef, 7, (some FieldType.int))
set_option maxRecDepth 100000 in
theorem mkJ2_indexOfSupplementary_4cfef : mMk kJ2_indexOfSupplementary_4cfef 4 := ⟨mm 561 (by decide +kernel) (by decide +kernel), mm 15 (by decide +kernel) (by decide +kernel), ⟨by decide +kernel, by decide +kernel, by decide +kernel⟩, by decide⟩
abbrev kJ2_checkBoundsBeginEnd_d044e : mM := (yJ2_checkBoundsBeginEnd_d044e, cJ2_checkBoundsBeginEnd_d044e, 3, none)
set_option maxRecDepth 100000 in
theorem mkJ2_checkBoundsBeginEnd_d044e : mMk kJ2_checkBoundsBeginEnd_d044e 3 := ⟨mm 535 (by decide +kernel) (by decide +kernel), mm 15 (by decide +kernel) (by decide +kernel), ⟨by decide +kernel, by decide +kernel, by decide +kernel⟩, by decide⟩
abbrev kJ7_fill_53178 : mM := (yJ7_fill_53178, cJ7_fill_53178, 4, none)
set_option maxRecDepth 100000 in
theorem mkJ7_fill_53178 : mMk kJ7_fill_53178 2 := ⟨mm 628 (by decide +kernel) (by decide +kernel), mm 18 (by decide +kernel) (by decide +kernel), ⟨by decide +kernel, by decide +kernel, by decide +kernel⟩, by decide⟩
abbrev kJ3_checkFromToIndex_8c36e : mM := (yJ3_checkFromToIndex_8c36e, cJ3_checkFromToIndex_8c36e, 4, (some FieldType.int))
set_option maxRecDepth 100000 in
theorem mkJ3_checkFromToIndex_8c36e : mMk kJ3_checkFromToIndex_8c36e 4 := ⟨mm 546 (by decide +kernel) (by decide +kernel), mm 16 (by decide +kernel) (by decide +kernel), ⟨by decide +kernel, by decide +kernel, by decide +kernel⟩, by decide⟩
set_option maxRecDepth 100000 in
theorem lkX0_3 : Cond.methodLink RX0 3 objectInit ∈ mTs ∧ Cond.instanceMethod objectInit ∈ mTs ∧ Cond.code objectInit ⟨#[0xb1]⟩ 1 none ∈ mTs := ⟨mm 201 (by decide +kernel) (by decide +kernel), mm 28 (by decide +kernel) (by decide +kernel), mm 29 (by decide +kernel) (by decide +kernel)⟩
set_option maxRecDepth 100000 in
theorem anX0_9 : ∀ q : vw_C, vwCl[mAc 0]? = some q → Cond.classLink RX0 9 q.1 ∈ mTs := fun q h => by cases h; exact mm 202 (by decide +kernel) (by decide +kernel)
set_option maxRecDepth 100000 in
theorem flX0_11 : mFL RX0 11 0 0 := ⟨_, rfl, by decide, mm 204 (by decide +kernel) (by decide +kernel)⟩
set_option maxRecDepth 100000 in
theorem flX0_17 : mFL RX0 17 0 3 := ⟨_, rfl, by decide, mm 212 (by decide +kernel) (by decide +kernel)⟩
set_option maxRecDepth 100000 in
theorem flX0_21 : mFL RX0 21 0 4 := ⟨_, rfl, by decide, mm 214 (by decide +kernel) (by decide +kernel)⟩
set_option maxRecDepth 100000 in
theorem flX0_24 : mFL RX0 24 0 5 := ⟨_, rfl, by decide, mm 216 (by decide +kernel) (by decide +kernel)⟩
set_option maxRecDepth 100000 in
theorem flX0_27 : mFL RX0 27 0 1 := ⟨_, rfl, by decide, mm 207 (by decide +kernel) (by decide +kernel)⟩
set_option maxRecDepth 100000 in
theorem flX0_31 : mFL RX0 31 1 10 := ⟨_, rfl, by decide, mm 408 (by decide +kernel) (by decide +kernel)⟩
set_option maxRecDepth 100000 in
theorem flX0_34 : mFL RX0 34 1 11 := ⟨_, rfl, by decide, mm 410 (by decide +kernel) (by decide +kernel)⟩
set_option maxRecDepth 100000 in
theorem lkX0_37 : mLV RX0 37 kX6_last 6 0 := ⟨mkX6_last, mm 785 (by decide +kernel) (by decide +kernel), mm 786 (by decide +kernel) (by decide +kernel), ⟨_, rfl, rfl⟩, Or.inl (mm 840 (by decide +kernel) (by decide +kernel))⟩
set_option maxRecDepth 100000 in
theorem flX0_43 : mFL RX0 43 6 1 := ⟨_, rfl, by decide, mm 149 (by decide +kernel) (by decide +kernel)⟩
set_option maxRecDepth 100000 in
theorem flX0_44 : mFL RX0 44 5 5 := ⟨_, rfl, by decide, mm 757 (by decide +kernel) (by decide +kernel)⟩
set_option maxRecDepth 100000 in
theorem flX0_49 : mFL RX0 49 0 6 := ⟨_, rfl, by decide, mm 218 (by decide +kernel) (by decide +kernel)⟩
set_option maxRecDepth 100000 in
theorem flX0_52 : mFL RX0 52 0 2 := ⟨_, rfl, by decide, mm 210 (by decide +kernel) (by decide +kernel)⟩
set_option maxRecDepth 100000 in
theorem lkX0_55 : mLS RX0 55 kJ7_fill_53178 2 := ⟨mkJ7_fill_53178, mm 627 (by decide +kernel) (by decide +kernel), Or.inl (mm 936 (by decide +kernel) (by decide +kernel))⟩
set_option maxRecDepth 100000 in
theorem lkX0_61 : mLV RX0 61 kX6_follow 6 1 := ⟨mkX6_follow, mm 855 (by decide +kernel) (by decide +kernel), mm 856 (by decide +kernel) (by decide +kernel), ⟨_, rfl, rfl⟩, Or.inl (mm 937 (by decide +kernel) (by decide +kernel))⟩
set_option maxRecDepth 100000 in
theorem lkX0_65 : mLV RX0 65 kX6_badLine 6 1 := ⟨mkX6_badLine, mm 899 (by decide +kernel) (by decide +kernel), mm 900 (by decide +kernel) (by decide +kernel), ⟨_, rfl, rfl⟩, Or.inl (mm 938 (by decide +kernel) (by decide +kernel))⟩
set_option maxRecDepth 100000 in
theorem flX0_69 : mFL RX0 69 1 5 := ⟨_, rfl, by decide, mm 395 (by decide +kernel) (by decide +kernel)⟩
set_option maxRecDepth 100000 in
theorem lkX0_72 : mLV RX0 72 kX1_isLand 1 2 := ⟨mkX1_isLand, mm 659 (by decide +kernel) (by decide +kernel), mm 660 (by decide +kernel) (by decide +kernel), ⟨_, rfl, rfl⟩, Or.inl (mm 943 (by decide +kernel) (by decide +kernel))⟩
set_option maxRecDepth 100000 in
theorem lkX0_76 : mLV RX0 76 kX0_growPool 0 1 := ⟨mkX0_growPool, mm 1062 (by decide +kernel) (by decide +kernel), mp 33 (by decide +kernel) (by decide +kernel), ⟨_, rfl, rfl⟩, Or.inl (mm 1060 (by decide +kernel) (by decide +kernel))⟩
set_option maxRecDepth 100000 in
theorem lkX0_80 : mLV RX0 80 kX0_besidePool 0 1 := ⟨mkX0_besidePool, mm 1066 (by decide +kernel) (by decide +kernel), mp 34 (by decide +kernel) (by decide +kernel), ⟨_, rfl, rfl⟩, Or.inl (mm 1064 (by decide +kernel) (by decide +kernel))⟩
set_option maxRecDepth 100000 in
theorem lkX0_84 : mLS RX0 84 kJ6_bitCount_0f7a4 1 := ⟨mkJ6_bitCount_0f7a4, mm 718 (by decide +kernel) (by decide +kernel), Or.inl (mm 1072 (by decide +kernel) (by decide +kernel))⟩
set_option maxRecDepth 100000 in
theorem lkX1_3 : Cond.methodLink RX1 3 objectInit ∈ mTs ∧ Cond.instanceMethod objectInit ∈ mTs ∧ Cond.code objectInit ⟨#[0xb1]⟩ 1 none ∈ mTs := ⟨mm 382 (by decide +kernel) (by decide +kernel), mm 28 (by decide +kernel) (by decide +kernel), mm 29 (by decide +kernel) (by decide +kernel)⟩
set_option maxRecDepth 100000 in
theorem flX1_9 : mFL RX1 9 1 5 := ⟨_, rfl, by decide, mm 394 (by decide +kernel) (by decide +kernel)⟩
set_option maxRecDepth 100000 in
theorem flX1_15 : mFL RX1 15 1 6 := ⟨_, rfl, by decide, mm 399 (by decide +kernel) (by decide +kernel)⟩
set_option maxRecDepth 100000 in
theorem flX1_18 : mFL RX1 18 1 7 := ⟨_, rfl, by decide, mm 400 (by decide +kernel) (by decide +kernel)⟩
set_option maxRecDepth 100000 in
theorem flX1_21 : mFL RX1 21 1 8 := ⟨_, rfl, by decide, mm 404 (by decide +kernel) (by decide +kernel)⟩
set_option maxRecDepth 100000 in
theorem flX1_25 : mFL RX1 25 1 9 := ⟨_, rfl, by decide, mm 405 (by decide +kernel) (by decide +kernel)⟩
set_option maxRecDepth 100000 in
theorem flX1_28 : mFL RX1 28 1 0 := ⟨_, rfl, by decide, mm 383 (by decide +kernel) (by decide +kernel)⟩
set_option maxRecDepth 100000 in
theorem flX1_32 : mFL RX1 32 1 1 := ⟨_, rfl, by decide, mm 386 (by decide +kernel) (by decide +kernel)⟩
set_option maxRecDepth 100000 in
theorem flX1_35 : mFL RX1 35 1 2 := ⟨_, rfl, by decide, mm 388 (by decide +kernel) (by decide +kernel)⟩
set_option maxRecDepth 100000 in
theorem flX1_38 : mFL RX1 38 1 3 := ⟨_, rfl, by decide, mm 390 (by decide +kernel) (by decide +kernel)⟩
set_option maxRecDepth 100000 in
theorem flX1_41 : mFL RX1 41 1 4 := ⟨_, rfl, by decide, mm 392 (by decide +kernel) (by decide +kernel)⟩
set_option maxRecDepth 100000 in
theorem lkX1_44 : mLS RX1 44 kX11_within 3 := ⟨mkX11_within, mm 363 (by decide +kernel) (by decide +kernel), Or.inr ⟨"FogIsland", mn 646 (by decide +kernel) (by decide +kernel)⟩⟩
set_option maxRecDepth 100000 in
theorem lkX1_48 : mLS RX1 48 kX1_turnBeyond 4 := ⟨mkX1_turnBeyond, mm 448 (by decide +kernel) (by decide +kernel), Or.inl (mm 447 (by decide +kernel) (by decide +kernel))⟩
set_option maxRecDepth 100000 in
theorem lkX1_52 : mLS RX1 52 kJ9_max_7cf53 2 := ⟨mkJ9_max_7cf53, mm 451 (by decide +kernel) (by decide +kernel), Or.inl (mm 450 (by decide +kernel) (by decide +kernel))⟩
set_option maxRecDepth 100000 in
theorem lkX1_58 : mLS RX1 58 kJ9_min_7cf53 2 := ⟨mkJ9_min_7cf53, mm 454 (by decide +kernel) (by decide +kernel), Or.inl (mm 453 (by decide +kernel) (by decide +kernel))⟩
set_option maxRecDepth 100000 in
theorem lkX1_61 : mLS RX1 61 kX11_span 2 := ⟨mkX11_span, mm 715 (by decide +kernel) (by decide +kernel), Or.inr ⟨"FogIsland", mn 714 (by decide +kernel) (by decide +kernel)⟩⟩
set_option maxRecDepth 100000 in
theorem lkX1_64 : mLS RX1 64 kJ6_bitCount_0f7a4 1 := ⟨mkJ6_bitCount_0f7a4, mm 718 (by decide +kernel) (by decide +kernel), Or.inl (mm 717 (by decide +kernel) (by decide +kernel))⟩
set_option maxRecDepth 100000 in
theorem lkX1_70 : mLV RX1 70 kX1_sweepLane 1 2 := ⟨mkX1_sweepLane, mm 672 (by decide +kernel) (by decide +kernel), mp 13 (by decide +kernel) (by decide +kernel), ⟨_, rfl, rfl⟩, Or.inl (mm 670 (by decide +kernel) (by decide +kernel))⟩
set_option maxRecDepth 100000 in
theorem lkX1_74 : mLV RX1 74 kX1_isLand 1 2 := ⟨mkX1_isLand, mm 659 (by decide +kernel) (by decide +kernel), mm 660 (by decide +kernel) (by decide +kernel), ⟨_, rfl, rfl⟩, Or.inl (mm 674 (by decide +kernel) (by decide +kernel))⟩
set_option maxRecDepth 100000 in
theorem lkX1_78 : mLV RX1 78 kX1_sortBeside 1 3 := ⟨mkX1_sortBeside, mm 677 (by decide +kernel) (by decide +kernel), mp 14 (by decide +kernel) (by decide +kernel), ⟨_, rfl, rfl⟩, Or.inl (mm 675 (by decide +kernel) (by decide +kernel))⟩
set_option maxRecDepth 100000 in
theorem lkX2_3 : Cond.methodLink RX2 3 objectInit ∈ mTs ∧ Cond.instanceMethod objectInit ∈ mTs ∧ Cond.code objectInit ⟨#[0xb1]⟩ 1 none ∈ mTs := ⟨mm 80 (by decide +kernel) (by decide +kernel), mm 28 (by decide +kernel) (by decide +kernel), mm 29 (by decide +kernel) (by decide +kernel)⟩
set_option maxRecDepth 100000 in
theorem flX2_9 : mFL RX2 9 2 0 := ⟨_, rfl, by decide, mm 119 (by decide +kernel) (by decide +kernel)⟩
set_option maxRecDepth 100000 in
theorem flX2_15 : mFL RX2 15 2 1 := ⟨_, rfl, by decide, mm 120 (by decide +kernel) (by decide +kernel)⟩
set_option maxRecDepth 100000 in
theorem flX2_18 : mFL RX2 18 2 2 := ⟨_, rfl, by decide, mm 121 (by decide +kernel) (by decide +kernel)⟩
set_option maxRecDepth 100000 in
theorem flX2_21 : mFL RX2 21 2 3 := ⟨_, rfl, by decide, mm 122 (by decide +kernel) (by decide +kernel)⟩
set_option maxRecDepth 100000 in
theorem nwX2_24 : ∃ q : vw_C, vwCl[3]? = some q ∧ Cond.classLink RX2 24 q.1 ∈ mTs ∧ Cond.instantiable q.1 8 ∈ mTs ∧ Cond.initialized q.1 ∈ mTs := ⟨_, rfl, mm 81 (by decide +kernel) (by decide +kernel), mm 82 (by decide +kernel) (by decide +kernel), mm 6 (by decide +kernel) (by decide +kernel)⟩
set_option maxRecDepth 100000 in
theorem lkX2_26 : mLI RX2 26 kX3_init 0 := ⟨mkX3_init, ⟨rfl, rfl⟩, mm 84 (by decide +kernel) (by decide +kernel), Or.inr ⟨"FogIsland", mn 83 (by decide +kernel) (by decide +kernel)⟩⟩
set_option maxRecDepth 100000 in
theorem flX2_27 : mFL RX2 27 2 5 := ⟨_, rfl, by decide, mm 125 (by decide +kernel) (by decide +kernel)⟩
set_option maxRecDepth 100000 in
theorem flX2_31 : mFL RX2 31 2 6 := ⟨_, rfl, by decide, mm 127 (by decide +kernel) (by decide +kernel)⟩
set_option maxRecDepth 100000 in
theorem flX2_34 : mFL RX2 34 2 7 := ⟨_, rfl, by decide, mm 129 (by decide +kernel) (by decide +kernel)⟩
set_option maxRecDepth 100000 in
theorem flX2_37 : mFL RX2 37 2 4 := ⟨_, rfl, by decide, mm 123 (by decide +kernel) (by decide +kernel)⟩
set_option maxRecDepth 100000 in
theorem lkX2_41 : mLV RX2 41 kX2_hasSounder 2 1 := ⟨mkX2_hasSounder, mm 695 (by decide +kernel) (by decide +kernel), mm 696 (by decide +kernel) (by decide +kernel), ⟨_, rfl, rfl⟩, Or.inl (mm 702 (by decide +kernel) (by decide +kernel))⟩
set_option maxRecDepth 100000 in
theorem lkX2_45 : mLS RX2 45 kJ9_abs_0f7a4 1 := ⟨mkJ9_abs_0f7a4, mm 708 (by decide +kernel) (by decide +kernel), Or.inl (mm 707 (by decide +kernel) (by decide +kernel))⟩
set_option maxRecDepth 100000 in
theorem lkX2_51 : mLV RX2 51 kX1_landBetween 1 4 := ⟨mkX1_landBetween, mm 711 (by decide +kernel) (by decide +kernel), mm 712 (by decide +kernel) (by decide +kernel), ⟨_, rfl, rfl⟩, Or.inl (mm 710 (by decide +kernel) (by decide +kernel))⟩
set_option maxRecDepth 100000 in
theorem flX2_57 : mFL RX2 57 3 5 := ⟨_, rfl, by decide, mm 96 (by decide +kernel) (by decide +kernel)⟩
set_option maxRecDepth 100000 in
theorem flX2_60 : mFL RX2 60 3 2 := ⟨_, rfl, by decide, mm 91 (by decide +kernel) (by decide +kernel)⟩
set_option maxRecDepth 100000 in
theorem flX2_63 : mFL RX2 63 3 1 := ⟨_, rfl, by decide, mm 89 (by decide +kernel) (by decide +kernel)⟩
set_option maxRecDepth 100000 in
theorem lkX2_66 : mLV RX2 66 kX3_run 3 3 := ⟨mkX3_run, mm 724 (by decide +kernel) (by decide +kernel), mm 725 (by decide +kernel) (by decide +kernel), ⟨_, rfl, rfl⟩, Or.inl (mm 723 (by decide +kernel) (by decide +kernel))⟩
set_option maxRecDepth 100000 in
theorem flX2_70 : mFL RX2 70 3 7 := ⟨_, rfl, by decide, mm 100 (by decide +kernel) (by decide +kernel)⟩
set_option maxRecDepth 100000 in
theorem flX2_74 : mFL RX2 74 3 6 := ⟨_, rfl, by decide, mm 98 (by decide +kernel) (by decide +kernel)⟩
set_option maxRecDepth 100000 in
theorem lkX2_77 : mLS RX2 77 kJ9_min_7cf53 2 := ⟨mkJ9_min_7cf53, mm 454 (by decide +kernel) (by decide +kernel), Or.inl (mm 731 (by decide +kernel) (by decide +kernel))⟩
set_option maxRecDepth 100000 in
theorem lkX2_81 : mLS RX2 81 kJ9_max_7cf53 2 := ⟨mkJ9_max_7cf53, mm 451 (by decide +kernel) (by decide +kernel), Or.inl (mm 732 (by decide +kernel) (by decide +kernel))⟩
set_option maxRecDepth 100000 in
theorem flX2_84 : mFL RX2 84 1 0 := ⟨_, rfl, by decide, mm 384 (by decide +kernel) (by decide +kernel)⟩
set_option maxRecDepth 100000 in
theorem flX2_87 : mFL RX2 87 7 4 := ⟨_, rfl, by decide, mm 807 (by decide +kernel) (by decide +kernel)⟩
set_option maxRecDepth 100000 in
theorem flX2_92 : mFL RX2 92 7 0 := ⟨_, rfl, by decide, mm 799 (by decide +kernel) (by decide +kernel)⟩
set_option maxRecDepth 100000 in
theorem flX2_95 : mFL RX2 95 7 1 := ⟨_, rfl, by decide, mm 801 (by decide +kernel) (by decide +kernel)⟩
set_option maxRecDepth 100000 in
theorem lkX2_98 : mLV RX2 98 kX1_sweep 1 1 := ⟨mkX1_sweep, mm 667 (by decide +kernel) (by decide +kernel), mm 668 (by decide +kernel) (by decide +kernel), ⟨_, rfl, rfl⟩, Or.inl (mm 883 (by decide +kernel) (by decide +kernel))⟩
set_option maxRecDepth 100000 in
theorem flX2_102 : mFL RX2 102 5 3 := ⟨_, rfl, by decide, mm 752 (by decide +kernel) (by decide +kernel)⟩
set_option maxRecDepth 100000 in
theorem flX2_107 : mFL RX2 107 5 4 := ⟨_, rfl, by decide, mm 754 (by decide +kernel) (by decide +kernel)⟩
set_option maxRecDepth 100000 in
theorem lkX2_110 : mLV RX2 110 kX2_listen 2 3 := ⟨mkX2_listen, mm 699 (by decide +kernel) (by decide +kernel), mm 700 (by decide +kernel) (by decide +kernel), ⟨_, rfl, rfl⟩, Or.inl (mm 884 (by decide +kernel) (by decide +kernel))⟩
set_option maxRecDepth 100000 in
theorem lkX2_114 : mLS RX2 114 kX11_lowestBit 1 := ⟨mkX11_lowestBit, mm 886 (by decide +kernel) (by decide +kernel), Or.inr ⟨"FogIsland", mn 885 (by decide +kernel) (by decide +kernel)⟩⟩
set_option maxRecDepth 100000 in
theorem flX2_117 : mFL RX2 117 1 7 := ⟨_, rfl, by decide, mm 403 (by decide +kernel) (by decide +kernel)⟩
set_option maxRecDepth 100000 in
theorem lkX2_120 : mLV RX2 120 kX7_fitsView 7 1 := ⟨mkX7_fitsView, mm 890 (by decide +kernel) (by decide +kernel), mm 891 (by decide +kernel) (by decide +kernel), ⟨_, rfl, rfl⟩, Or.inl (mm 889 (by decide +kernel) (by decide +kernel))⟩
set_option maxRecDepth 100000 in
theorem lkX2_123 : mLV RX2 123 kX2_loudnessAt 2 3 := ⟨mkX2_loudnessAt, mm 704 (by decide +kernel) (by decide +kernel), mm 705 (by decide +kernel) (by decide +kernel), ⟨_, rfl, rfl⟩, Or.inl (mm 897 (by decide +kernel) (by decide +kernel))⟩
set_option maxRecDepth 100000 in
theorem flX2_127 : mFL RX2 127 7 2 := ⟨_, rfl, by decide, mm 803 (by decide +kernel) (by decide +kernel)⟩
set_option maxRecDepth 100000 in
theorem flX2_130 : mFL RX2 130 7 3 := ⟨_, rfl, by decide, mm 805 (by decide +kernel) (by decide +kernel)⟩
set_option maxRecDepth 100000 in
theorem flX2_133 : mFL RX2 133 7 5 := ⟨_, rfl, by decide, mm 809 (by decide +kernel) (by decide +kernel)⟩
set_option maxRecDepth 100000 in
theorem lkX3_3 : Cond.methodLink RX3 3 objectInit ∈ mTs ∧ Cond.instanceMethod objectInit ∈ mTs ∧ Cond.code objectInit ⟨#[0xb1]⟩ 1 none ∈ mTs := ⟨mm 86 (by decide +kernel) (by decide +kernel), mm 28 (by decide +kernel) (by decide +kernel), mm 29 (by decide +kernel) (by decide +kernel)⟩
set_option maxRecDepth 100000 in
theorem flX3_9 : mFL RX3 9 3 0 := ⟨_, rfl, by decide, mm 87 (by decide +kernel) (by decide +kernel)⟩
set_option maxRecDepth 100000 in
theorem flX3_15 : mFL RX3 15 3 1 := ⟨_, rfl, by decide, mm 88 (by decide +kernel) (by decide +kernel)⟩
set_option maxRecDepth 100000 in
theorem flX3_18 : mFL RX3 18 3 2 := ⟨_, rfl, by decide, mm 90 (by decide +kernel) (by decide +kernel)⟩
set_option maxRecDepth 100000 in
theorem flX3_21 : mFL RX3 21 3 3 := ⟨_, rfl, by decide, mm 92 (by decide +kernel) (by decide +kernel)⟩
set_option maxRecDepth 100000 in
theorem flX3_24 : mFL RX3 24 3 4 := ⟨_, rfl, by decide, mm 93 (by decide +kernel) (by decide +kernel)⟩
set_option maxRecDepth 100000 in
theorem flX3_28 : mFL RX3 28 3 5 := ⟨_, rfl, by decide, mm 94 (by decide +kernel) (by decide +kernel)⟩
set_option maxRecDepth 100000 in
theorem flX3_31 : mFL RX3 31 3 6 := ⟨_, rfl, by decide, mm 99 (by decide +kernel) (by decide +kernel)⟩
set_option maxRecDepth 100000 in
theorem flX3_35 : mFL RX3 35 3 7 := ⟨_, rfl, by decide, mm 101 (by decide +kernel) (by decide +kernel)⟩
set_option maxRecDepth 100000 in
theorem lkX3_38 : mLS RX3 38 kJ9_max_7cf53 2 := ⟨mkJ9_max_7cf53, mm 451 (by decide +kernel) (by decide +kernel), Or.inl (mm 727 (by decide +kernel) (by decide +kernel))⟩
set_option maxRecDepth 100000 in
theorem lkX3_44 : mLS RX3 44 kX3_reckon 3 := ⟨mkX3_reckon, mm 729 (by decide +kernel) (by decide +kernel), Or.inl (mm 728 (by decide +kernel) (by decide +kernel))⟩
set_option maxRecDepth 100000 in
theorem lkX4_3 : Cond.methodLink RX4 3 objectInit ∈ mTs ∧ Cond.instanceMethod objectInit ∈ mTs ∧ Cond.code objectInit ⟨#[0xb1]⟩ 1 none ∈ mTs := ⟨mm 50 (by decide +kernel) (by decide +kernel), mm 28 (by decide +kernel) (by decide +kernel), mm 29 (by decide +kernel) (by decide +kernel)⟩
set_option maxRecDepth 100000 in
theorem flX4_9 : mFL RX4 9 4 0 := ⟨_, rfl, by decide, mm 51 (by decide +kernel) (by decide +kernel)⟩
set_option maxRecDepth 100000 in
theorem flX4_15 : mFL RX4 15 4 1 := ⟨_, rfl, by decide, mm 52 (by decide +kernel) (by decide +kernel)⟩
set_option maxRecDepth 100000 in
theorem lkX4_19 : mLV RX4 19 kX3_clear 3 0 := ⟨mkX3_clear, mm 465 (by decide +kernel) (by decide +kernel), mm 466 (by decide +kernel) (by decide +kernel), ⟨_, rfl, rfl⟩, Or.inl (mm 464 (by decide +kernel) (by decide +kernel))⟩
set_option maxRecDepth 100000 in
theorem lkX4_24 : mLS RX4 24 kJ9_min_7cf53 2 := ⟨mkJ9_min_7cf53, mm 454 (by decide +kernel) (by decide +kernel), Or.inl (mm 468 (by decide +kernel) (by decide +kernel))⟩
set_option maxRecDepth 100000 in
theorem flX4_30 : mFL RX4 30 4 2 := ⟨_, rfl, by decide, mm 53 (by decide +kernel) (by decide +kernel)⟩
set_option maxRecDepth 100000 in
theorem lkX4_34 : mLV RX4 34 kX9_at 9 1 := ⟨mkX9_at, mm 370 (by decide +kernel) (by decide +kernel), mm 371 (by decide +kernel) (by decide +kernel), ⟨_, rfl, rfl⟩, Or.inl (mm 469 (by decide +kernel) (by decide +kernel))⟩
set_option maxRecDepth 100000 in
theorem flX4_40 : mFL RX4 40 4 3 := ⟨_, rfl, by decide, mm 54 (by decide +kernel) (by decide +kernel)⟩
set_option maxRecDepth 100000 in
theorem flX4_42 : mFL RX4 42 4 4 := ⟨_, rfl, by decide, mm 55 (by decide +kernel) (by decide +kernel)⟩
set_option maxRecDepth 100000 in
theorem lkX4_45 : mLV RX4 45 kX4_expect 4 1 := ⟨mkX4_expect, mm 472 (by decide +kernel) (by decide +kernel), mp 2 (by decide +kernel) (by decide +kernel), ⟨_, rfl, rfl⟩, Or.inl (mm 470 (by decide +kernel) (by decide +kernel))⟩
set_option maxRecDepth 100000 in
theorem lkX4_49 : mLV RX4 49 kX4_readSum 4 1 := ⟨mkX4_readSum, mm 484 (by decide +kernel) (by decide +kernel), mp 5 (by decide +kernel) (by decide +kernel), ⟨_, rfl, rfl⟩, Or.inl (mm 482 (by decide +kernel) (by decide +kernel))⟩
set_option maxRecDepth 100000 in
theorem lkX4_53 : mLV RX4 53 kX3_endSum 3 0 := ⟨mkX3_endSum, mm 595 (by decide +kernel) (by decide +kernel), mm 596 (by decide +kernel) (by decide +kernel), ⟨_, rfl, rfl⟩, Or.inl (mm 594 (by decide +kernel) (by decide +kernel))⟩
set_option maxRecDepth 100000 in
theorem lkX4_56 : mLV RX4 56 kX4_readCondition 4 1 := ⟨mkX4_readCondition, mm 600 (by decide +kernel) (by decide +kernel), mp 11 (by decide +kernel) (by decide +kernel), ⟨_, rfl, rfl⟩, Or.inl (mm 598 (by decide +kernel) (by decide +kernel))⟩
set_option maxRecDepth 100000 in
theorem lkX4_59 : mLV RX4 59 kX3_endClause 3 0 := ⟨mkX3_endClause, mm 611 (by decide +kernel) (by decide +kernel), mm 612 (by decide +kernel) (by decide +kernel), ⟨_, rfl, rfl⟩, Or.inl (mm 610 (by decide +kernel) (by decide +kernel))⟩
set_option maxRecDepth 100000 in
theorem lkX4_62 : mLV RX4 62 kX4_sign 4 0 := ⟨mkX4_sign, mm 476 (by decide +kernel) (by decide +kernel), mp 3 (by decide +kernel) (by decide +kernel), ⟨_, rfl, rfl⟩, Or.inl (mm 474 (by decide +kernel) (by decide +kernel))⟩
set_option maxRecDepth 100000 in
theorem lkX4_66 : mLV RX4 66 kX4_stop 4 1 := ⟨mkX4_stop, mm 480 (by decide +kernel) (by decide +kernel), mp 4 (by decide +kernel) (by decide +kernel), ⟨_, rfl, rfl⟩, Or.inl (mm 478 (by decide +kernel) (by decide +kernel))⟩
set_option maxRecDepth 100000 in
theorem flX4_69 : mFL RX4 69 3 5 := ⟨_, rfl, by decide, mm 95 (by decide +kernel) (by decide +kernel)⟩
set_option maxRecDepth 100000 in
theorem lkX4_72 : mLV RX4 72 kX4_readPiece 4 1 := ⟨mkX4_readPiece, mm 604 (by decide +kernel) (by decide +kernel), mp 12 (by decide +kernel) (by decide +kernel), ⟨_, rfl, rfl⟩, Or.inl (mm 602 (by decide +kernel) (by decide +kernel))⟩
set_option maxRecDepth 100000 in
theorem lkX4_75 : mLV RX4 75 kX3_aimHere 3 1 := ⟨mkX3_aimHere, mm 607 (by decide +kernel) (by decide +kernel), mm 608 (by decide +kernel) (by decide +kernel), ⟨_, rfl, rfl⟩, Or.inl (mm 606 (by decide +kernel) (by decide +kernel))⟩
set_option maxRecDepth 100000 in
theorem lkX4_78 : mLV RX4 78 kX4_takes 4 1 := ⟨mkX4_takes, mm 592 (by decide +kernel) (by decide +kernel), mp 10 (by decide +kernel) (by decide +kernel), ⟨_, rfl, rfl⟩, Or.inl (mm 590 (by decide +kernel) (by decide +kernel))⟩
set_option maxRecDepth 100000 in
theorem lkX4_82 : mLV RX4 82 kX3_add 3 2 := ⟨mkX3_add, mm 578 (by decide +kernel) (by decide +kernel), mm 579 (by decide +kernel) (by decide +kernel), ⟨_, rfl, rfl⟩, Or.inl (mm 577 (by decide +kernel) (by decide +kernel))⟩
set_option maxRecDepth 100000 in
theorem lkX4_85 : mLV RX4 85 kX4_opens 4 1 := ⟨mkX4_opens, mm 575 (by decide +kernel) (by decide +kernel), mp 7 (by decide +kernel) (by decide +kernel), ⟨_, rfl, rfl⟩, Or.inl (mm 573 (by decide +kernel) (by decide +kernel))⟩
set_option maxRecDepth 100000 in
theorem lkX4_89 : mLV RX4 89 kX4_takesOneOf 4 4 := ⟨mkX4_takesOneOf, mm 588 (by decide +kernel) (by decide +kernel), mp 9 (by decide +kernel) (by decide +kernel), ⟨_, rfl, rfl⟩, Or.inl (mm 586 (by decide +kernel) (by decide +kernel))⟩
set_option maxRecDepth 100000 in
theorem lkX4_93 : mLV RX4 93 kX4_readFactor 4 1 := ⟨mkX4_readFactor, mm 488 (by decide +kernel) (by decide +kernel), mp 6 (by decide +kernel) (by decide +kernel), ⟨_, rfl, rfl⟩, Or.inl (mm 486 (by decide +kernel) (by decide +kernel))⟩
set_option maxRecDepth 100000 in
theorem lkX4_103 : mLS RX4 103 kX11_within 3 := ⟨mkX11_within, mm 363 (by decide +kernel) (by decide +kernel), Or.inr ⟨"FogIsland", mn 581 (by decide +kernel) (by decide +kernel)⟩⟩
set_option maxRecDepth 100000 in
theorem lkX4_107 : mLV RX4 107 kX4_readNumber 4 0 := ⟨mkX4_readNumber, mm 584 (by decide +kernel) (by decide +kernel), mp 8 (by decide +kernel) (by decide +kernel), ⟨_, rfl, rfl⟩, Or.inl (mm 582 (by decide +kernel) (by decide +kernel))⟩
set_option maxRecDepth 100000 in
theorem lkX5_3 : Cond.methodLink RX5 3 objectInit ∈ mTs ∧ Cond.instanceMethod objectInit ∈ mTs ∧ Cond.code objectInit ⟨#[0xb1]⟩ 1 none ∈ mTs := ⟨mm 745 (by decide +kernel) (by decide +kernel), mm 28 (by decide +kernel) (by decide +kernel), mm 29 (by decide +kernel) (by decide +kernel)⟩
set_option maxRecDepth 100000 in
theorem anX5_9 : ∀ q : vw_C, vwCl[mAc 2]? = some q → Cond.classLink RX5 9 q.1 ∈ mTs := fun q h => by cases h; exact mm 746 (by decide +kernel) (by decide +kernel)
set_option maxRecDepth 100000 in
theorem flX5_11 : mFL RX5 11 5 6 := ⟨_, rfl, by decide, mm 759 (by decide +kernel) (by decide +kernel)⟩
set_option maxRecDepth 100000 in
theorem flX5_17 : mFL RX5 17 5 5 := ⟨_, rfl, by decide, mm 755 (by decide +kernel) (by decide +kernel)⟩
set_option maxRecDepth 100000 in
theorem lkX5_21 : mLI RX5 21 kX7_init 0 := ⟨mkX7_init, ⟨rfl, rfl⟩, mm 794 (by decide +kernel) (by decide +kernel), Or.inr ⟨"FogIsland", mn 793 (by decide +kernel) (by decide +kernel)⟩⟩
set_option maxRecDepth 100000 in
theorem lkX5_22 : mLV RX5 22 kX7_tell 7 4 := ⟨mkX7_tell, mm 824 (by decide +kernel) (by decide +kernel), mm 825 (by decide +kernel) (by decide +kernel), ⟨_, rfl, rfl⟩, Or.inl (mm 823 (by decide +kernel) (by decide +kernel))⟩
set_option maxRecDepth 100000 in
theorem lkX6_3 : Cond.methodLink RX6 3 objectInit ∈ mTs ∧ Cond.instanceMethod objectInit ∈ mTs ∧ Cond.code objectInit ⟨#[0xb1]⟩ 1 none ∈ mTs := ⟨mm 72 (by decide +kernel) (by decide +kernel), mm 28 (by decide +kernel) (by decide +kernel), mm 29 (by decide +kernel) (by decide +kernel)⟩
set_option maxRecDepth 100000 in
theorem anX6_9 : ∀ q : vw_C, vwCl[mAc 1]? = some q → Cond.classLink RX6 9 q.1 ∈ mTs := fun q h => by cases h; exact mm 73 (by decide +kernel) (by decide +kernel)
set_option maxRecDepth 100000 in
theorem flX6_11 : mFL RX6 11 6 0 := ⟨_, rfl, by decide, mm 147 (by decide +kernel) (by decide +kernel)⟩
set_option maxRecDepth 100000 in
theorem flX6_17 : mFL RX6 17 6 4 := ⟨_, rfl, by decide, mm 157 (by decide +kernel) (by decide +kernel)⟩
set_option maxRecDepth 100000 in
theorem flX6_21 : mFL RX6 21 6 5 := ⟨_, rfl, by decide, mm 159 (by decide +kernel) (by decide +kernel)⟩
set_option maxRecDepth 100000 in
theorem nwX6_24 : ∃ q : vw_C, vwCl[2]? = some q ∧ Cond.classLink RX6 24 q.1 ∈ mTs ∧ Cond.instantiable q.1 8 ∈ mTs ∧ Cond.initialized q.1 ∈ mTs := ⟨_, rfl, mm 75 (by decide +kernel) (by decide +kernel), mm 76 (by decide +kernel) (by decide +kernel), mm 5 (by decide +kernel) (by decide +kernel)⟩
set_option maxRecDepth 100000 in
theorem lkX6_26 : mLI RX6 26 kX2_init 0 := ⟨mkX2_init, ⟨rfl, rfl⟩, mm 78 (by decide +kernel) (by decide +kernel), Or.inr ⟨"FogIsland", mn 77 (by decide +kernel) (by decide +kernel)⟩⟩
set_option maxRecDepth 100000 in
theorem flX6_27 : mFL RX6 27 6 6 := ⟨_, rfl, by decide, mm 161 (by decide +kernel) (by decide +kernel)⟩
set_option maxRecDepth 100000 in
theorem flX6_31 : mFL RX6 31 6 7 := ⟨_, rfl, by decide, mm 163 (by decide +kernel) (by decide +kernel)⟩
set_option maxRecDepth 100000 in
theorem flX6_35 : mFL RX6 35 6 8 := ⟨_, rfl, by decide, mm 164 (by decide +kernel) (by decide +kernel)⟩
set_option maxRecDepth 100000 in
theorem flX6_38 : mFL RX6 38 6 9 := ⟨_, rfl, by decide, mm 165 (by decide +kernel) (by decide +kernel)⟩
set_option maxRecDepth 100000 in
theorem flX6_41 : mFL RX6 41 6 1 := ⟨_, rfl, by decide, mm 148 (by decide +kernel) (by decide +kernel)⟩
set_option maxRecDepth 100000 in
theorem lkX6_44 : mLI RX6 44 kX5_init 0 := ⟨mkX5_init, ⟨rfl, rfl⟩, mm 743 (by decide +kernel) (by decide +kernel), Or.inr ⟨"FogIsland", mn 742 (by decide +kernel) (by decide +kernel)⟩⟩
set_option maxRecDepth 100000 in
theorem flX6_45 : mFL RX6 45 5 0 := ⟨_, rfl, by decide, mm 748 (by decide +kernel) (by decide +kernel)⟩
set_option maxRecDepth 100000 in
theorem flX6_48 : mFL RX6 48 5 1 := ⟨_, rfl, by decide, mm 749 (by decide +kernel) (by decide +kernel)⟩
set_option maxRecDepth 100000 in
theorem flX6_51 : mFL RX6 51 5 2 := ⟨_, rfl, by decide, mm 750 (by decide +kernel) (by decide +kernel)⟩
set_option maxRecDepth 100000 in
theorem flX6_54 : mFL RX6 54 5 3 := ⟨_, rfl, by decide, mm 751 (by decide +kernel) (by decide +kernel)⟩
set_option maxRecDepth 100000 in
theorem flX6_57 : mFL RX6 57 5 4 := ⟨_, rfl, by decide, mm 753 (by decide +kernel) (by decide +kernel)⟩
set_option maxRecDepth 100000 in
theorem flX6_60 : mFL RX6 60 5 5 := ⟨_, rfl, by decide, mm 756 (by decide +kernel) (by decide +kernel)⟩
set_option maxRecDepth 100000 in
theorem flX6_63 : mFL RX6 63 5 6 := ⟨_, rfl, by decide, mm 760 (by decide +kernel) (by decide +kernel)⟩
set_option maxRecDepth 100000 in
theorem flX6_67 : mFL RX6 67 7 0 := ⟨_, rfl, by decide, mm 798 (by decide +kernel) (by decide +kernel)⟩
set_option maxRecDepth 100000 in
theorem lkX6_73 : mLV RX6 73 kX7_forget 7 0 := ⟨mkX7_forget, mm 623 (by decide +kernel) (by decide +kernel), mm 624 (by decide +kernel) (by decide +kernel), ⟨_, rfl, rfl⟩, Or.inl (mm 622 (by decide +kernel) (by decide +kernel))⟩
set_option maxRecDepth 100000 in
theorem flX6_76 : mFL RX6 76 1 10 := ⟨_, rfl, by decide, mm 409 (by decide +kernel) (by decide +kernel)⟩
set_option maxRecDepth 100000 in
theorem lkX6_81 : mLS RX6 81 kJ9_max_7cf53 2 := ⟨mkJ9_max_7cf53, mm 451 (by decide +kernel) (by decide +kernel), Or.inl (mm 858 (by decide +kernel) (by decide +kernel))⟩
set_option maxRecDepth 100000 in
theorem lkX6_87 : mLV RX6 87 kX6_begin 6 3 := ⟨mkX6_begin, mm 861 (by decide +kernel) (by decide +kernel), mp 16 (by decide +kernel) (by decide +kernel), ⟨_, rfl, rfl⟩, Or.inl (mm 859 (by decide +kernel) (by decide +kernel))⟩
set_option maxRecDepth 100000 in
theorem flX6_91 : mFL RX6 91 1 11 := ⟨_, rfl, by decide, mm 411 (by decide +kernel) (by decide +kernel)⟩
set_option maxRecDepth 100000 in
theorem flX6_94 : mFL RX6 94 1 9 := ⟨_, rfl, by decide, mm 407 (by decide +kernel) (by decide +kernel)⟩
set_option maxRecDepth 100000 in
theorem lkX6_97 : mLV RX6 97 kX1_rowsAt 1 2 := ⟨mkX1_rowsAt, mm 864 (by decide +kernel) (by decide +kernel), mm 865 (by decide +kernel) (by decide +kernel), ⟨_, rfl, rfl⟩, Or.inl (mm 863 (by decide +kernel) (by decide +kernel))⟩
set_option maxRecDepth 100000 in
theorem lkX6_100 : mLV RX6 100 kX6_sift 6 5 := ⟨mkX6_sift, mm 877 (by decide +kernel) (by decide +kernel), mp 18 (by decide +kernel) (by decide +kernel), ⟨_, rfl, rfl⟩, Or.inl (mm 875 (by decide +kernel) (by decide +kernel))⟩
set_option maxRecDepth 100000 in
theorem flX6_104 : mFL RX6 104 6 2 := ⟨_, rfl, by decide, mm 153 (by decide +kernel) (by decide +kernel)⟩
set_option maxRecDepth 100000 in
theorem lkX6_107 : mLV RX6 107 kX6_drift 6 5 := ⟨mkX6_drift, mm 869 (by decide +kernel) (by decide +kernel), mp 17 (by decide +kernel) (by decide +kernel), ⟨_, rfl, rfl⟩, Or.inl (mm 867 (by decide +kernel) (by decide +kernel))⟩
set_option maxRecDepth 100000 in
theorem flX6_110 : mFL RX6 110 6 3 := ⟨_, rfl, by decide, mm 155 (by decide +kernel) (by decide +kernel)⟩
set_option maxRecDepth 100000 in
theorem flX6_113 : mFL RX6 113 1 5 := ⟨_, rfl, by decide, mm 397 (by decide +kernel) (by decide +kernel)⟩
set_option maxRecDepth 100000 in
theorem lkX6_116 : mLS RX6 116 kX11_moved 2 := ⟨mkX11_moved, mm 872 (by decide +kernel) (by decide +kernel), Or.inr ⟨"FogIsland", mn 871 (by decide +kernel) (by decide +kernel)⟩⟩
set_option maxRecDepth 100000 in
theorem lkX6_119 : mLS RX6 119 kJ9_min_7cf53 2 := ⟨mkJ9_min_7cf53, mm 454 (by decide +kernel) (by decide +kernel), Or.inl (mm 874 (by decide +kernel) (by decide +kernel))⟩
set_option maxRecDepth 100000 in
theorem lkX6_122 : mLV RX6 122 kX2_holdsIn 2 5 := ⟨mkX2_holdsIn, mm 880 (by decide +kernel) (by decide +kernel), mm 881 (by decide +kernel) (by decide +kernel), ⟨_, rfl, rfl⟩, Or.inl (mm 879 (by decide +kernel) (by decide +kernel))⟩
set_option maxRecDepth 100000 in
theorem lkX6_126 : mLS RX6 126 kX11_bitsIn 2 := ⟨mkX11_bitsIn, mm 903 (by decide +kernel) (by decide +kernel), Or.inr ⟨"FogIsland", mn 902 (by decide +kernel) (by decide +kernel)⟩⟩
set_option maxRecDepth 100000 in
theorem flX6_130 : mFL RX6 130 6 10 := ⟨_, rfl, by decide, mm 166 (by decide +kernel) (by decide +kernel)⟩
set_option maxRecDepth 100000 in
theorem flX6_133 : mFL RX6 133 1 0 := ⟨_, rfl, by decide, mm 385 (by decide +kernel) (by decide +kernel)⟩
set_option maxRecDepth 100000 in
theorem flX6_136 : mFL RX6 136 6 11 := ⟨_, rfl, by decide, mm 167 (by decide +kernel) (by decide +kernel)⟩
set_option maxRecDepth 100000 in
theorem flX6_139 : mFL RX6 139 6 12 := ⟨_, rfl, by decide, mm 168 (by decide +kernel) (by decide +kernel)⟩
set_option maxRecDepth 100000 in
theorem lkX6_142 : mLV RX6 142 kX6_follow 6 1 := ⟨mkX6_follow, mm 855 (by decide +kernel) (by decide +kernel), mm 856 (by decide +kernel) (by decide +kernel), ⟨_, rfl, rfl⟩, Or.inl (mm 917 (by decide +kernel) (by decide +kernel))⟩
set_option maxRecDepth 100000 in
theorem lkX6_146 : mLV RX6 146 kX6_goBackTo 6 2 := ⟨mkX6_goBackTo, mm 920 (by decide +kernel) (by decide +kernel), mp 19 (by decide +kernel) (by decide +kernel), ⟨_, rfl, rfl⟩, Or.inl (mm 918 (by decide +kernel) (by decide +kernel))⟩
set_option maxRecDepth 100000 in
theorem lkX6_150 : mLS RX6 150 kJ7_fill_53178 2 := ⟨mkJ7_fill_53178, mm 627 (by decide +kernel) (by decide +kernel), Or.inl (mm 922 (by decide +kernel) (by decide +kernel))⟩
set_option maxRecDepth 100000 in
theorem lkX7_3 : Cond.methodLink RX7 3 objectInit ∈ mTs ∧ Cond.instanceMethod objectInit ∈ mTs ∧ Cond.code objectInit ⟨#[0xb1]⟩ 1 none ∈ mTs := ⟨mm 796 (by decide +kernel) (by decide +kernel), mm 28 (by decide +kernel) (by decide +kernel), mm 29 (by decide +kernel) (by decide +kernel)⟩
set_option maxRecDepth 100000 in
theorem flX7_9 : mFL RX7 9 7 4 := ⟨_, rfl, by decide, mm 806 (by decide +kernel) (by decide +kernel)⟩
set_option maxRecDepth 100000 in
theorem flX7_15 : mFL RX7 15 7 5 := ⟨_, rfl, by decide, mm 808 (by decide +kernel) (by decide +kernel)⟩
set_option maxRecDepth 100000 in
theorem flX7_18 : mFL RX7 18 7 0 := ⟨_, rfl, by decide, mm 797 (by decide +kernel) (by decide +kernel)⟩
set_option maxRecDepth 100000 in
theorem flX7_22 : mFL RX7 22 7 1 := ⟨_, rfl, by decide, mm 800 (by decide +kernel) (by decide +kernel)⟩
set_option maxRecDepth 100000 in
theorem flX7_26 : mFL RX7 26 7 2 := ⟨_, rfl, by decide, mm 802 (by decide +kernel) (by decide +kernel)⟩
set_option maxRecDepth 100000 in
theorem flX7_29 : mFL RX7 29 7 3 := ⟨_, rfl, by decide, mm 804 (by decide +kernel) (by decide +kernel)⟩
set_option maxRecDepth 100000 in
theorem lkX7_32 : mLV RX7 32 kX7_forget 7 0 := ⟨mkX7_forget, mm 623 (by decide +kernel) (by decide +kernel), mm 624 (by decide +kernel) (by decide +kernel), ⟨_, rfl, rfl⟩, Or.inl (mm 827 (by decide +kernel) (by decide +kernel))⟩
set_option maxRecDepth 100000 in
theorem lkX7_35 : mLS RX7 35 kJ7_fill_53178 2 := ⟨mkJ7_fill_53178, mm 627 (by decide +kernel) (by decide +kernel), Or.inl (mm 626 (by decide +kernel) (by decide +kernel))⟩
set_option maxRecDepth 100000 in
theorem lkX7_41 : mLS RX7 41 kX11_maybeSilent 1 := ⟨mkX11_maybeSilent, mm 894 (by decide +kernel) (by decide +kernel), Or.inr ⟨"FogIsland", mn 893 (by decide +kernel) (by decide +kernel)⟩⟩
set_option maxRecDepth 100000 in
theorem lkX7_45 : mLS RX7 45 kX11_echoSteps 1 := ⟨mkX11_echoSteps, mm 680 (by decide +kernel) (by decide +kernel), Or.inr ⟨"FogIsland", mn 896 (by decide +kernel) (by decide +kernel)⟩⟩
set_option maxRecDepth 100000 in
theorem lkX8_3 : Cond.methodLink RX8 3 objectInit ∈ mTs ∧ Cond.instanceMethod objectInit ∈ mTs ∧ Cond.code objectInit ⟨#[0xb1]⟩ 1 none ∈ mTs := ⟨mm 274 (by decide +kernel) (by decide +kernel), mm 28 (by decide +kernel) (by decide +kernel), mm 29 (by decide +kernel) (by decide +kernel)⟩
set_option maxRecDepth 100000 in
theorem flX8_9 : mFL RX8 9 8 0 := ⟨_, rfl, by decide, mm 275 (by decide +kernel) (by decide +kernel)⟩
set_option maxRecDepth 100000 in
theorem flX8_15 : mFL RX8 15 8 1 := ⟨_, rfl, by decide, mm 276 (by decide +kernel) (by decide +kernel)⟩
set_option maxRecDepth 100000 in
theorem flX8_18 : mFL RX8 18 8 2 := ⟨_, rfl, by decide, mm 277 (by decide +kernel) (by decide +kernel)⟩
set_option maxRecDepth 100000 in
theorem flX8_21 : mFL RX8 21 8 10 := ⟨_, rfl, by decide, mm 292 (by decide +kernel) (by decide +kernel)⟩
set_option maxRecDepth 100000 in
theorem flX8_24 : mFL RX8 24 8 11 := ⟨_, rfl, by decide, mm 293 (by decide +kernel) (by decide +kernel)⟩
set_option maxRecDepth 100000 in
theorem flX8_27 : mFL RX8 27 8 3 := ⟨_, rfl, by decide, mm 278 (by decide +kernel) (by decide +kernel)⟩
set_option maxRecDepth 100000 in
theorem flX8_31 : mFL RX8 31 8 4 := ⟨_, rfl, by decide, mm 280 (by decide +kernel) (by decide +kernel)⟩
set_option maxRecDepth 100000 in
theorem flX8_34 : mFL RX8 34 0 1 := ⟨_, rfl, by decide, mm 209 (by decide +kernel) (by decide +kernel)⟩
set_option maxRecDepth 100000 in
theorem flX8_39 : mFL RX8 39 0 0 := ⟨_, rfl, by decide, mm 205 (by decide +kernel) (by decide +kernel)⟩
set_option maxRecDepth 100000 in
theorem flX8_43 : mFL RX8 43 1 9 := ⟨_, rfl, by decide, mm 406 (by decide +kernel) (by decide +kernel)⟩
set_option maxRecDepth 100000 in
theorem flX8_48 : mFL RX8 48 6 1 := ⟨_, rfl, by decide, mm 150 (by decide +kernel) (by decide +kernel)⟩
set_option maxRecDepth 100000 in
theorem flX8_51 : mFL RX8 51 6 2 := ⟨_, rfl, by decide, mm 152 (by decide +kernel) (by decide +kernel)⟩
set_option maxRecDepth 100000 in
theorem lkX8_54 : mLV RX8 54 kX1_rowsAt 1 2 := ⟨mkX1_rowsAt, mm 864 (by decide +kernel) (by decide +kernel), mm 865 (by decide +kernel) (by decide +kernel), ⟨_, rfl, rfl⟩, Or.inl (mm 968 (by decide +kernel) (by decide +kernel))⟩
set_option maxRecDepth 100000 in
theorem lkX8_58 : mLS RX8 58 kX11_bitsIn 2 := ⟨mkX11_bitsIn, mm 903 (by decide +kernel) (by decide +kernel), Or.inr ⟨"FogIsland", mn 969 (by decide +kernel) (by decide +kernel)⟩⟩
set_option maxRecDepth 100000 in
theorem flX8_62 : mFL RX8 62 8 12 := ⟨_, rfl, by decide, mm 294 (by decide +kernel) (by decide +kernel)⟩
set_option maxRecDepth 100000 in
theorem lkX8_65 : mLV RX8 65 kX8_countStates 8 2 := ⟨mkX8_countStates, mm 966 (by decide +kernel) (by decide +kernel), mp 20 (by decide +kernel) (by decide +kernel), ⟨_, rfl, rfl⟩, Or.inl (mm 964 (by decide +kernel) (by decide +kernel))⟩
set_option maxRecDepth 100000 in
theorem cnX8_69 : Cond.constant RX8 69 (1000000) ∈ mTs := mm 970 (by decide +kernel) (by decide +kernel)
set_option maxRecDepth 100000 in
theorem flX8_70 : mFL RX8 70 8 6 := ⟨_, rfl, by decide, mm 284 (by decide +kernel) (by decide +kernel)⟩
set_option maxRecDepth 100000 in
theorem lkX8_73 : mLV RX8 73 kX8_isTold 8 1 := ⟨mkX8_isTold, mm 973 (by decide +kernel) (by decide +kernel), mp 21 (by decide +kernel) (by decide +kernel), ⟨_, rfl, rfl⟩, Or.inl (mm 971 (by decide +kernel) (by decide +kernel))⟩
set_option maxRecDepth 100000 in
theorem lkX8_77 : mLS RX8 77 kJ7_fill_53178 2 := ⟨mkJ7_fill_53178, mm 627 (by decide +kernel) (by decide +kernel), Or.inl (mm 975 (by decide +kernel) (by decide +kernel))⟩
set_option maxRecDepth 100000 in
theorem lkX8_83 : mLV RX8 83 kX8_tally 8 3 := ⟨mkX8_tally, mm 978 (by decide +kernel) (by decide +kernel), mp 22 (by decide +kernel) (by decide +kernel), ⟨_, rfl, rfl⟩, Or.inl (mm 976 (by decide +kernel) (by decide +kernel))⟩
set_option maxRecDepth 100000 in
theorem lkX8_87 : mLV RX8 87 kX8_takeIfBetter 8 1 := ⟨mkX8_takeIfBetter, mm 989 (by decide +kernel) (by decide +kernel), mp 23 (by decide +kernel) (by decide +kernel), ⟨_, rfl, rfl⟩, Or.inl (mm 987 (by decide +kernel) (by decide +kernel))⟩
set_option maxRecDepth 100000 in
theorem lkX8_91 : mLV RX8 91 kX1_sweep 1 1 := ⟨mkX1_sweep, mm 667 (by decide +kernel) (by decide +kernel), mm 668 (by decide +kernel) (by decide +kernel), ⟨_, rfl, rfl⟩, Or.inl (mm 980 (by decide +kernel) (by decide +kernel))⟩
set_option maxRecDepth 100000 in
theorem lkX8_94 : mLS RX8 94 kJ9_min_7cf53 2 := ⟨mkJ9_min_7cf53, mm 454 (by decide +kernel) (by decide +kernel), Or.inl (mm 981 (by decide +kernel) (by decide +kernel))⟩
set_option maxRecDepth 100000 in
theorem lkX8_99 : mLS RX8 99 kJ9_max_7cf53 2 := ⟨mkJ9_max_7cf53, mm 451 (by decide +kernel) (by decide +kernel), Or.inl (mm 982 (by decide +kernel) (by decide +kernel))⟩
set_option maxRecDepth 100000 in
theorem lkX8_102 : mLS RX8 102 kX11_moved 2 := ⟨mkX11_moved, mm 872 (by decide +kernel) (by decide +kernel), Or.inr ⟨"FogIsland", mn 983 (by decide +kernel) (by decide +kernel)⟩⟩
set_option maxRecDepth 100000 in
theorem flX8_105 : mFL RX8 105 1 5 := ⟨_, rfl, by decide, mm 396 (by decide +kernel) (by decide +kernel)⟩
set_option maxRecDepth 100000 in
theorem flX8_108 : mFL RX8 108 1 7 := ⟨_, rfl, by decide, mm 401 (by decide +kernel) (by decide +kernel)⟩
set_option maxRecDepth 100000 in
theorem lkX8_111 : mLS RX8 111 kX11_lowestBit 1 := ⟨mkX11_lowestBit, mm 886 (by decide +kernel) (by decide +kernel), Or.inr ⟨"FogIsland", mn 984 (by decide +kernel) (by decide +kernel)⟩⟩
set_option maxRecDepth 100000 in
theorem lkX8_115 : mLS RX8 115 kX11_echoSteps 1 := ⟨mkX11_echoSteps, mm 680 (by decide +kernel) (by decide +kernel), Or.inr ⟨"FogIsland", mn 985 (by decide +kernel) (by decide +kernel)⟩⟩
set_option maxRecDepth 100000 in
theorem lkX8_118 : mLS RX8 118 kX11_maybeSilent 1 := ⟨mkX11_maybeSilent, mm 894 (by decide +kernel) (by decide +kernel), Or.inr ⟨"FogIsland", mn 986 (by decide +kernel) (by decide +kernel)⟩⟩
set_option maxRecDepth 100000 in
theorem flX8_121 : mFL RX8 121 8 5 := ⟨_, rfl, by decide, mm 282 (by decide +kernel) (by decide +kernel)⟩
set_option maxRecDepth 100000 in
theorem flX8_124 : mFL RX8 124 8 7 := ⟨_, rfl, by decide, mm 286 (by decide +kernel) (by decide +kernel)⟩
set_option maxRecDepth 100000 in
theorem flX8_127 : mFL RX8 127 8 13 := ⟨_, rfl, by decide, mm 295 (by decide +kernel) (by decide +kernel)⟩
set_option maxRecDepth 100000 in
theorem flX8_130 : mFL RX8 130 8 9 := ⟨_, rfl, by decide, mm 290 (by decide +kernel) (by decide +kernel)⟩
set_option maxRecDepth 100000 in
theorem lkX8_133 : mLV RX8 133 kX8_staysBehind 8 3 := ⟨mkX8_staysBehind, mm 1001 (by decide +kernel) (by decide +kernel), mp 24 (by decide +kernel) (by decide +kernel), ⟨_, rfl, rfl⟩, Or.inl (mm 999 (by decide +kernel) (by decide +kernel))⟩
set_option maxRecDepth 100000 in
theorem flX8_137 : mFL RX8 137 8 8 := ⟨_, rfl, by decide, mm 288 (by decide +kernel) (by decide +kernel)⟩
set_option maxRecDepth 100000 in
theorem lkX8_140 : mLV RX8 140 kX8_tallyPairs 8 4 := ⟨mkX8_tallyPairs, mm 1005 (by decide +kernel) (by decide +kernel), mp 25 (by decide +kernel) (by decide +kernel), ⟨_, rfl, rfl⟩, Or.inl (mm 1003 (by decide +kernel) (by decide +kernel))⟩
set_option maxRecDepth 100000 in
theorem lkX8_144 : mLV RX8 144 kX8_mostBehind 8 1 := ⟨mkX8_mostBehind, mm 1014 (by decide +kernel) (by decide +kernel), mp 27 (by decide +kernel) (by decide +kernel), ⟨_, rfl, rfl⟩, Or.inl (mm 1012 (by decide +kernel) (by decide +kernel))⟩
set_option maxRecDepth 100000 in
theorem lkX8_147 : mLS RX8 147 kX11_within 3 := ⟨mkX11_within, mm 363 (by decide +kernel) (by decide +kernel), Or.inr ⟨"FogIsland", mn 1007 (by decide +kernel) (by decide +kernel)⟩⟩
set_option maxRecDepth 100000 in
theorem lkX8_151 : mLV RX8 151 kX8_addPairs 8 2 := ⟨mkX8_addPairs, mm 1010 (by decide +kernel) (by decide +kernel), mp 26 (by decide +kernel) (by decide +kernel), ⟨_, rfl, rfl⟩, Or.inl (mm 1008 (by decide +kernel) (by decide +kernel))⟩
set_option maxRecDepth 100000 in
theorem lkX9_3 : Cond.methodLink RX9 3 objectInit ∈ mTs ∧ Cond.instanceMethod objectInit ∈ mTs ∧ Cond.code objectInit ⟨#[0xb1]⟩ 1 none ∈ mTs := ⟨mm 35 (by decide +kernel) (by decide +kernel), mm 28 (by decide +kernel) (by decide +kernel), mm 29 (by decide +kernel) (by decide +kernel)⟩
set_option maxRecDepth 100000 in
theorem flX9_9 : mFL RX9 9 9 0 := ⟨_, rfl, by decide, mm 36 (by decide +kernel) (by decide +kernel)⟩
set_option maxRecDepth 100000 in
theorem flX9_15 : mFL RX9 15 9 1 := ⟨_, rfl, by decide, mm 38 (by decide +kernel) (by decide +kernel)⟩
set_option maxRecDepth 100000 in
theorem lkX9_19 : mLV RX9 19 kX9_at 9 1 := ⟨mkX9_at, mm 370 (by decide +kernel) (by decide +kernel), mm 371 (by decide +kernel) (by decide +kernel), ⟨_, rfl, rfl⟩, Or.inl (mm 369 (by decide +kernel) (by decide +kernel))⟩
set_option maxRecDepth 100000 in
theorem lkX9_23 : mLV RX9 23 kX9_joins 9 2 := ⟨mkX9_joins, mm 375 (by decide +kernel) (by decide +kernel), mp 0 (by decide +kernel) (by decide +kernel), ⟨_, rfl, rfl⟩, Or.inl (mm 373 (by decide +kernel) (by decide +kernel))⟩
set_option maxRecDepth 100000 in
theorem lkX10_3 : Cond.methodLink RX10 3 objectInit ∈ mTs ∧ Cond.instanceMethod objectInit ∈ mTs ∧ Cond.code objectInit ⟨#[0xb1]⟩ 1 none ∈ mTs := ⟨mm 239 (by decide +kernel) (by decide +kernel), mm 28 (by decide +kernel) (by decide +kernel), mm 29 (by decide +kernel) (by decide +kernel)⟩
set_option maxRecDepth 100000 in
theorem flX10_9 : mFL RX10 9 10 0 := ⟨_, rfl, by decide, mm 240 (by decide +kernel) (by decide +kernel)⟩
set_option maxRecDepth 100000 in
theorem flX10_15 : mFL RX10 15 10 1 := ⟨_, rfl, by decide, mm 241 (by decide +kernel) (by decide +kernel)⟩
set_option maxRecDepth 100000 in
theorem flX10_18 : mFL RX10 18 10 7 := ⟨_, rfl, by decide, mm 251 (by decide +kernel) (by decide +kernel)⟩
set_option maxRecDepth 100000 in
theorem flX10_22 : mFL RX10 22 10 5 := ⟨_, rfl, by decide, mm 249 (by decide +kernel) (by decide +kernel)⟩
set_option maxRecDepth 100000 in
theorem flX10_25 : mFL RX10 25 10 6 := ⟨_, rfl, by decide, mm 250 (by decide +kernel) (by decide +kernel)⟩
set_option maxRecDepth 100000 in
theorem flX10_28 : mFL RX10 28 10 2 := ⟨_, rfl, by decide, mm 243 (by decide +kernel) (by decide +kernel)⟩
set_option maxRecDepth 100000 in
theorem flX10_32 : mFL RX10 32 10 3 := ⟨_, rfl, by decide, mm 245 (by decide +kernel) (by decide +kernel)⟩
set_option maxRecDepth 100000 in
theorem flX10_35 : mFL RX10 35 10 4 := ⟨_, rfl, by decide, mm 247 (by decide +kernel) (by decide +kernel)⟩
set_option maxRecDepth 100000 in
theorem lkX10_38 : mLS RX10 38 kJ7_fill_53178 2 := ⟨mkJ7_fill_53178, mm 627 (by decide +kernel) (by decide +kernel), Or.inl (mm 1024 (by decide +kernel) (by decide +kernel))⟩
set_option maxRecDepth 100000 in
theorem lkX10_44 : mLV RX10 44 kX10_addTurn 10 2 := ⟨mkX10_addTurn, mm 1027 (by decide +kernel) (by decide +kernel), mp 28 (by decide +kernel) (by decide +kernel), ⟨_, rfl, rfl⟩, Or.inl (mm 1025 (by decide +kernel) (by decide +kernel))⟩
set_option maxRecDepth 100000 in
theorem lkX10_48 : mLV RX10 48 kX10_bestFirst 10 0 := ⟨mkX10_bestFirst, mm 1041 (by decide +kernel) (by decide +kernel), mp 30 (by decide +kernel) (by decide +kernel), ⟨_, rfl, rfl⟩, Or.inl (mm 1039 (by decide +kernel) (by decide +kernel))⟩
set_option maxRecDepth 100000 in
theorem lkX10_52 : mLV RX10 52 kX10_walk 10 0 := ⟨mkX10_walk, mm 1045 (by decide +kernel) (by decide +kernel), mp 31 (by decide +kernel) (by decide +kernel), ⟨_, rfl, rfl⟩, Or.inl (mm 1043 (by decide +kernel) (by decide +kernel))⟩
set_option maxRecDepth 100000 in
theorem lkX10_55 : mLV RX10 55 kX10_stepsFrom 10 4 := ⟨mkX10_stepsFrom, mm 1031 (by decide +kernel) (by decide +kernel), mp 29 (by decide +kernel) (by decide +kernel), ⟨_, rfl, rfl⟩, Or.inl (mm 1029 (by decide +kernel) (by decide +kernel))⟩
set_option maxRecDepth 100000 in
theorem gsX10_59 : Cond.fieldLinkNest RX10 59 RX11 "STEP_X" "[I" "FogIsland" ∈ mTn := mn 1033 (by decide +kernel) (by decide +kernel)
set_option maxRecDepth 100000 in
theorem gsX10_62 : Cond.fieldLinkNest RX10 62 RX11 "STEP_Y" "[I" "FogIsland" ∈ mTn := mn 1035 (by decide +kernel) (by decide +kernel)
set_option maxRecDepth 100000 in
theorem lkX10_65 : mLS RX10 65 kX11_inGrid 2 := ⟨mkX11_inGrid, mm 656 (by decide +kernel) (by decide +kernel), Or.inr ⟨"FogIsland", mn 1037 (by decide +kernel) (by decide +kernel)⟩⟩
set_option maxRecDepth 100000 in
theorem lkX10_69 : mLS RX10 69 kJ9_min_7cf53 2 := ⟨mkJ9_min_7cf53, mm 454 (by decide +kernel) (by decide +kernel), Or.inl (mm 1038 (by decide +kernel) (by decide +kernel))⟩
set_option maxRecDepth 100000 in
theorem lkX10_75 : mLV RX10 75 kX10_directionOn 10 3 := ⟨mkX10_directionOn, mm 1049 (by decide +kernel) (by decide +kernel), mp 32 (by decide +kernel) (by decide +kernel), ⟨_, rfl, rfl⟩, Or.inl (mm 1047 (by decide +kernel) (by decide +kernel))⟩
set_option maxRecDepth 100000 in
theorem lkX10_79 : mLS RX10 79 kX11_within 3 := ⟨mkX11_within, mm 363 (by decide +kernel) (by decide +kernel), Or.inr ⟨"FogIsland", mn 1051 (by decide +kernel) (by decide +kernel)⟩⟩
set_option maxRecDepth 100000 in
theorem lkX11_3 : Cond.methodLink RX11 3 objectInit ∈ mTs ∧ Cond.instanceMethod objectInit ∈ mTs ∧ Cond.code objectInit ⟨#[0xb1]⟩ 1 none ∈ mTs := ⟨mm 27 (by decide +kernel) (by decide +kernel), mm 28 (by decide +kernel) (by decide +kernel), mm 29 (by decide +kernel) (by decide +kernel)⟩
set_option maxRecDepth 100000 in
theorem nwX11_9 : ∃ q : vw_C, vwCl[9]? = some q ∧ Cond.classLink RX11 9 q.1 ∈ mTs ∧ Cond.instantiable q.1 2 ∈ mTs ∧ Cond.initialized q.1 ∈ mTs := ⟨_, rfl, mm 30 (by decide +kernel) (by decide +kernel), mm 31 (by decide +kernel) (by decide +kernel), mm 2 (by decide +kernel) (by decide +kernel)⟩
set_option maxRecDepth 100000 in
theorem lkX11_11 : mLI RX11 11 kX9_init 0 := ⟨mkX9_init, ⟨rfl, rfl⟩, mm 33 (by decide +kernel) (by decide +kernel), Or.inr ⟨"FogIsland", mn 32 (by decide +kernel) (by decide +kernel)⟩⟩
set_option maxRecDepth 100000 in
theorem flX11_12 : mFL RX11 12 11 0 := ⟨_, rfl, by decide, mm 325 (by decide +kernel) (by decide +kernel)⟩
set_option maxRecDepth 100000 in
theorem nwX11_16 : ∃ q : vw_C, vwCl[4]? = some q ∧ Cond.classLink RX11 16 q.1 ∈ mTs ∧ Cond.instantiable q.1 5 ∈ mTs ∧ Cond.initialized q.1 ∈ mTs := ⟨_, rfl, mm 45 (by decide +kernel) (by decide +kernel), mm 46 (by decide +kernel) (by decide +kernel), mm 3 (by decide +kernel) (by decide +kernel)⟩
set_option maxRecDepth 100000 in
theorem lkX11_18 : mLI RX11 18 kX4_init 0 := ⟨mkX4_init, ⟨rfl, rfl⟩, mm 48 (by decide +kernel) (by decide +kernel), Or.inr ⟨"FogIsland", mn 47 (by decide +kernel) (by decide +kernel)⟩⟩
set_option maxRecDepth 100000 in
theorem flX11_19 : mFL RX11 19 11 1 := ⟨_, rfl, by decide, mm 326 (by decide +kernel) (by decide +kernel)⟩
set_option maxRecDepth 100000 in
theorem nwX11_23 : ∃ q : vw_C, vwCl[6]? = some q ∧ Cond.classLink RX11 23 q.1 ∈ mTs ∧ Cond.instantiable q.1 13 ∈ mTs ∧ Cond.initialized q.1 ∈ mTs := ⟨_, rfl, mm 67 (by decide +kernel) (by decide +kernel), mm 68 (by decide +kernel) (by decide +kernel), mm 4 (by decide +kernel) (by decide +kernel)⟩
set_option maxRecDepth 100000 in
theorem lkX11_25 : mLI RX11 25 kX6_init 0 := ⟨mkX6_init, ⟨rfl, rfl⟩, mm 70 (by decide +kernel) (by decide +kernel), Or.inr ⟨"FogIsland", mn 69 (by decide +kernel) (by decide +kernel)⟩⟩
set_option maxRecDepth 100000 in
theorem flX11_26 : mFL RX11 26 11 2 := ⟨_, rfl, by decide, mm 327 (by decide +kernel) (by decide +kernel)⟩
set_option maxRecDepth 100000 in
theorem flX11_30 : mFL RX11 30 6 6 := ⟨_, rfl, by decide, mm 162 (by decide +kernel) (by decide +kernel)⟩
set_option maxRecDepth 100000 in
theorem flX11_34 : mFL RX11 34 11 3 := ⟨_, rfl, by decide, mm 328 (by decide +kernel) (by decide +kernel)⟩
set_option maxRecDepth 100000 in
theorem nwX11_35 : ∃ q : vw_C, vwCl[0]? = some q ∧ Cond.classLink RX11 35 q.1 ∈ mTs ∧ Cond.instantiable q.1 7 ∈ mTs ∧ Cond.initialized q.1 ∈ mTs := ⟨_, rfl, mm 196 (by decide +kernel) (by decide +kernel), mm 197 (by decide +kernel) (by decide +kernel), mm 7 (by decide +kernel) (by decide +kernel)⟩
set_option maxRecDepth 100000 in
theorem lkX11_37 : mLI RX11 37 kX0_init 0 := ⟨mkX0_init, ⟨rfl, rfl⟩, mm 199 (by decide +kernel) (by decide +kernel), Or.inr ⟨"FogIsland", mn 198 (by decide +kernel) (by decide +kernel)⟩⟩
set_option maxRecDepth 100000 in
theorem flX11_38 : mFL RX11 38 11 4 := ⟨_, rfl, by decide, mm 329 (by decide +kernel) (by decide +kernel)⟩
set_option maxRecDepth 100000 in
theorem nwX11_42 : ∃ q : vw_C, vwCl[10]? = some q ∧ Cond.classLink RX11 42 q.1 ∈ mTs ∧ Cond.instantiable q.1 8 ∈ mTs ∧ Cond.initialized q.1 ∈ mTs := ⟨_, rfl, mm 234 (by decide +kernel) (by decide +kernel), mm 235 (by decide +kernel) (by decide +kernel), mm 8 (by decide +kernel) (by decide +kernel)⟩
set_option maxRecDepth 100000 in
theorem lkX11_44 : mLI RX11 44 kX10_init 0 := ⟨mkX10_init, ⟨rfl, rfl⟩, mm 237 (by decide +kernel) (by decide +kernel), Or.inr ⟨"FogIsland", mn 236 (by decide +kernel) (by decide +kernel)⟩⟩
set_option maxRecDepth 100000 in
theorem flX11_45 : mFL RX11 45 11 5 := ⟨_, rfl, by decide, mm 330 (by decide +kernel) (by decide +kernel)⟩
set_option maxRecDepth 100000 in
theorem nwX11_49 : ∃ q : vw_C, vwCl[8]? = some q ∧ Cond.classLink RX11 49 q.1 ∈ mTs ∧ Cond.instantiable q.1 14 ∈ mTs ∧ Cond.initialized q.1 ∈ mTs := ⟨_, rfl, mm 269 (by decide +kernel) (by decide +kernel), mm 270 (by decide +kernel) (by decide +kernel), mm 9 (by decide +kernel) (by decide +kernel)⟩
set_option maxRecDepth 100000 in
theorem lkX11_51 : mLI RX11 51 kX8_init 0 := ⟨mkX8_init, ⟨rfl, rfl⟩, mm 272 (by decide +kernel) (by decide +kernel), Or.inr ⟨"FogIsland", mn 271 (by decide +kernel) (by decide +kernel)⟩⟩
set_option maxRecDepth 100000 in
theorem flX11_52 : mFL RX11 52 11 6 := ⟨_, rfl, by decide, mm 331 (by decide +kernel) (by decide +kernel)⟩
set_option maxRecDepth 100000 in
theorem flX11_56 : mFL RX11 56 11 7 := ⟨_, rfl, by decide, mm 332 (by decide +kernel) (by decide +kernel)⟩
set_option maxRecDepth 100000 in
theorem flX11_60 : mFL RX11 60 9 1 := ⟨_, rfl, by decide, mm 37 (by decide +kernel) (by decide +kernel)⟩
set_option maxRecDepth 100000 in
theorem lkX11_63 : mLV RX11 63 kX9_put 9 1 := ⟨mkX9_put, mm 355 (by decide +kernel) (by decide +kernel), mm 356 (by decide +kernel) (by decide +kernel), ⟨_, rfl, rfl⟩, Or.inl (mm 354 (by decide +kernel) (by decide +kernel))⟩
set_option maxRecDepth 100000 in
theorem lkX11_67 : mLS RX11 67 kX11_within 3 := ⟨mkX11_within, mm 363 (by decide +kernel) (by decide +kernel), Or.inl (mm 362 (by decide +kernel) (by decide +kernel))⟩
set_option maxRecDepth 100000 in
theorem flX11_71 : mFL RX11 71 0 1 := ⟨_, rfl, by decide, mm 208 (by decide +kernel) (by decide +kernel)⟩
set_option maxRecDepth 100000 in
theorem lkX11_72 : mLV RX11 72 kX9_badCoastPlace 9 1 := ⟨mkX9_badCoastPlace, mm 366 (by decide +kernel) (by decide +kernel), mm 367 (by decide +kernel) (by decide +kernel), ⟨_, rfl, rfl⟩, Or.inl (mm 365 (by decide +kernel) (by decide +kernel))⟩
set_option maxRecDepth 100000 in
theorem nwX11_76 : ∃ q : vw_C, vwCl[1]? = some q ∧ Cond.classLink RX11 76 q.1 ∈ mTs ∧ Cond.instantiable q.1 12 ∈ mTs ∧ Cond.initialized q.1 ∈ mTs := ⟨_, rfl, mm 377 (by decide +kernel) (by decide +kernel), mm 378 (by decide +kernel) (by decide +kernel), mm 11 (by decide +kernel) (by decide +kernel)⟩
set_option maxRecDepth 100000 in
theorem lkX11_78 : mLI RX11 78 kX1_init 2 := ⟨mkX1_init, ⟨rfl, rfl⟩, mm 380 (by decide +kernel) (by decide +kernel), Or.inl (mm 379 (by decide +kernel) (by decide +kernel))⟩
set_option maxRecDepth 100000 in
theorem flX11_81 : mFL RX11 81 1 2 := ⟨_, rfl, by decide, mm 389 (by decide +kernel) (by decide +kernel)⟩
set_option maxRecDepth 100000 in
theorem lkX11_85 : mLV RX11 85 kX9_at 9 1 := ⟨mkX9_at, mm 370 (by decide +kernel) (by decide +kernel), mm 371 (by decide +kernel) (by decide +kernel), ⟨_, rfl, rfl⟩, Or.inl (mm 438 (by decide +kernel) (by decide +kernel))⟩
set_option maxRecDepth 100000 in
theorem flX11_88 : mFL RX11 88 1 3 := ⟨_, rfl, by decide, mm 391 (by decide +kernel) (by decide +kernel)⟩
set_option maxRecDepth 100000 in
theorem flX11_91 : mFL RX11 91 1 4 := ⟨_, rfl, by decide, mm 393 (by decide +kernel) (by decide +kernel)⟩
set_option maxRecDepth 100000 in
theorem lkX11_94 : mLV RX11 94 kX11_addCoast 11 1 := ⟨mkX11_addCoast, mm 441 (by decide +kernel) (by decide +kernel), mp 1 (by decide +kernel) (by decide +kernel), ⟨_, rfl, rfl⟩, Or.inl (mm 439 (by decide +kernel) (by decide +kernel))⟩
set_option maxRecDepth 100000 in
theorem flX11_98 : mFL RX11 98 2 6 := ⟨_, rfl, by decide, mm 128 (by decide +kernel) (by decide +kernel)⟩
set_option maxRecDepth 100000 in
theorem lkX11_104 : mLV RX11 104 kX4_read 4 3 := ⟨mkX4_read, mm 461 (by decide +kernel) (by decide +kernel), mm 462 (by decide +kernel) (by decide +kernel), ⟨_, rfl, rfl⟩, Or.inl (mm 460 (by decide +kernel) (by decide +kernel))⟩
set_option maxRecDepth 100000 in
theorem lkX11_108 : mLV RX11 108 kX2_takeSpare 2 0 := ⟨mkX2_takeSpare, mm 615 (by decide +kernel) (by decide +kernel), mm 616 (by decide +kernel) (by decide +kernel), ⟨_, rfl, rfl⟩, Or.inl (mm 614 (by decide +kernel) (by decide +kernel))⟩
set_option maxRecDepth 100000 in
theorem lkX11_111 : mLV RX11 111 kX6_forgetHeard 6 0 := ⟨mkX6_forgetHeard, mm 619 (by decide +kernel) (by decide +kernel), mm 620 (by decide +kernel) (by decide +kernel), ⟨_, rfl, rfl⟩, Or.inl (mm 618 (by decide +kernel) (by decide +kernel))⟩
set_option maxRecDepth 100000 in
theorem lkX11_114 : mLV RX11 114 kX0_restart 0 0 := ⟨mkX0_restart, mm 630 (by decide +kernel) (by decide +kernel), mm 631 (by decide +kernel) (by decide +kernel), ⟨_, rfl, rfl⟩, Or.inl (mm 629 (by decide +kernel) (by decide +kernel))⟩
set_option maxRecDepth 100000 in
theorem lkX11_117 : mLV RX11 117 kX0_get 0 1 := ⟨mkX0_get, mm 639 (by decide +kernel) (by decide +kernel), mm 640 (by decide +kernel) (by decide +kernel), ⟨_, rfl, rfl⟩, Or.inl (mm 638 (by decide +kernel) (by decide +kernel))⟩
set_option maxRecDepth 100000 in
theorem flX11_121 : mFL RX11 121 1 1 := ⟨_, rfl, by decide, mm 387 (by decide +kernel) (by decide +kernel)⟩
set_option maxRecDepth 100000 in
theorem lkX11_124 : mLV RX11 124 kX1_canMoveSide 1 2 := ⟨mkX1_canMoveSide, mm 643 (by decide +kernel) (by decide +kernel), mm 644 (by decide +kernel) (by decide +kernel), ⟨_, rfl, rfl⟩, Or.inl (mm 642 (by decide +kernel) (by decide +kernel))⟩
set_option maxRecDepth 100000 in
theorem lkX11_128 : mLV RX11 128 kX1_copyMoved 1 3 := ⟨mkX1_copyMoved, mm 648 (by decide +kernel) (by decide +kernel), mm 649 (by decide +kernel) (by decide +kernel), ⟨_, rfl, rfl⟩, Or.inl (mm 647 (by decide +kernel) (by decide +kernel))⟩
set_option maxRecDepth 100000 in
theorem lkX11_132 : mLS RX11 132 kX11_inGrid 2 := ⟨mkX11_inGrid, mm 656 (by decide +kernel) (by decide +kernel), Or.inl (mm 655 (by decide +kernel) (by decide +kernel))⟩
set_option maxRecDepth 100000 in
theorem lkX11_135 : mLV RX11 135 kX1_isLand 1 2 := ⟨mkX1_isLand, mm 659 (by decide +kernel) (by decide +kernel), mm 660 (by decide +kernel) (by decide +kernel), ⟨_, rfl, rfl⟩, Or.inl (mm 658 (by decide +kernel) (by decide +kernel))⟩
set_option maxRecDepth 100000 in
theorem lkX11_138 : mLV RX11 138 kX1_sweep 1 1 := ⟨mkX1_sweep, mm 667 (by decide +kernel) (by decide +kernel), mm 668 (by decide +kernel) (by decide +kernel), ⟨_, rfl, rfl⟩, Or.inl (mm 666 (by decide +kernel) (by decide +kernel))⟩
set_option maxRecDepth 100000 in
theorem flX11_141 : mFL RX11 141 1 7 := ⟨_, rfl, by decide, mm 402 (by decide +kernel) (by decide +kernel)⟩
set_option maxRecDepth 100000 in
theorem lkX11_144 : mLS RX11 144 kX11_echoSteps 1 := ⟨mkX11_echoSteps, mm 680 (by decide +kernel) (by decide +kernel), Or.inl (mm 679 (by decide +kernel) (by decide +kernel))⟩
set_option maxRecDepth 100000 in
theorem flX11_147 : mFL RX11 147 2 4 := ⟨_, rfl, by decide, mm 124 (by decide +kernel) (by decide +kernel)⟩
set_option maxRecDepth 100000 in
theorem lkX11_148 : mLV RX11 148 kX2_addSounder 2 4 := ⟨mkX2_addSounder, mm 687 (by decide +kernel) (by decide +kernel), mm 688 (by decide +kernel) (by decide +kernel), ⟨_, rfl, rfl⟩, Or.inl (mm 686 (by decide +kernel) (by decide +kernel))⟩
set_option maxRecDepth 100000 in
theorem lkX11_152 : mLV RX11 152 kX2_hasSounder 2 1 := ⟨mkX2_hasSounder, mm 695 (by decide +kernel) (by decide +kernel), mm 696 (by decide +kernel) (by decide +kernel), ⟨_, rfl, rfl⟩, Or.inl (mm 694 (by decide +kernel) (by decide +kernel))⟩
set_option maxRecDepth 100000 in
theorem lkX11_156 : mLV RX11 156 kX2_listen 2 3 := ⟨mkX2_listen, mm 699 (by decide +kernel) (by decide +kernel), mm 700 (by decide +kernel) (by decide +kernel), ⟨_, rfl, rfl⟩, Or.inl (mm 698 (by decide +kernel) (by decide +kernel))⟩
set_option maxRecDepth 100000 in
theorem lkX11_160 : mLV RX11 160 kX2_loudnessAt 2 3 := ⟨mkX2_loudnessAt, mm 704 (by decide +kernel) (by decide +kernel), mm 705 (by decide +kernel) (by decide +kernel), ⟨_, rfl, rfl⟩, Or.inl (mm 703 (by decide +kernel) (by decide +kernel))⟩
set_option maxRecDepth 100000 in
theorem flX11_164 : mFL RX11 164 6 1 := ⟨_, rfl, by decide, mm 151 (by decide +kernel) (by decide +kernel)⟩
set_option maxRecDepth 100000 in
theorem lkX11_165 : mLV RX11 165 kX6_add 6 5 := ⟨mkX6_add, mm 738 (by decide +kernel) (by decide +kernel), mm 739 (by decide +kernel) (by decide +kernel), ⟨_, rfl, rfl⟩, Or.inl (mm 737 (by decide +kernel) (by decide +kernel))⟩
set_option maxRecDepth 100000 in
theorem lkX11_169 : mLV RX11 169 kX11_addNote 11 4 := ⟨mkX11_addNote, mm 782 (by decide +kernel) (by decide +kernel), mp 15 (by decide +kernel) (by decide +kernel), ⟨_, rfl, rfl⟩, Or.inl (mm 780 (by decide +kernel) (by decide +kernel))⟩
set_option maxRecDepth 100000 in
theorem lkX11_173 : mLV RX11 173 kX0_dropBeyond 0 1 := ⟨mkX0_dropBeyond, mm 837 (by decide +kernel) (by decide +kernel), mm 838 (by decide +kernel) (by decide +kernel), ⟨_, rfl, rfl⟩, Or.inl (mm 836 (by decide +kernel) (by decide +kernel))⟩
set_option maxRecDepth 100000 in
theorem flX11_177 : mFL RX11 177 6 2 := ⟨_, rfl, by decide, mm 154 (by decide +kernel) (by decide +kernel)⟩
set_option maxRecDepth 100000 in
theorem flX11_180 : mFL RX11 180 6 3 := ⟨_, rfl, by decide, mm 156 (by decide +kernel) (by decide +kernel)⟩
set_option maxRecDepth 100000 in
theorem flX11_183 : mFL RX11 183 6 4 := ⟨_, rfl, by decide, mm 158 (by decide +kernel) (by decide +kernel)⟩
set_option maxRecDepth 100000 in
theorem lkX11_186 : mLS RX11 186 kX11_span 2 := ⟨mkX11_span, mm 715 (by decide +kernel) (by decide +kernel), Or.inl (mm 849 (by decide +kernel) (by decide +kernel))⟩
set_option maxRecDepth 100000 in
theorem flX11_190 : mFL RX11 190 6 5 := ⟨_, rfl, by decide, mm 160 (by decide +kernel) (by decide +kernel)⟩
set_option maxRecDepth 100000 in
theorem lkX11_193 : mLV RX11 193 kX6_follow 6 1 := ⟨mkX6_follow, mm 855 (by decide +kernel) (by decide +kernel), mm 856 (by decide +kernel) (by decide +kernel), ⟨_, rfl, rfl⟩, Or.inl (mm 854 (by decide +kernel) (by decide +kernel))⟩
set_option maxRecDepth 100000 in
theorem lkX11_196 : mLV RX11 196 kX6_badLine 6 1 := ⟨mkX6_badLine, mm 899 (by decide +kernel) (by decide +kernel), mm 900 (by decide +kernel) (by decide +kernel), ⟨_, rfl, rfl⟩, Or.inl (mm 898 (by decide +kernel) (by decide +kernel))⟩
set_option maxRecDepth 100000 in
theorem lkX11_200 : mLV RX11 200 kX6_placesAt 6 3 := ⟨mkX6_placesAt, mm 914 (by decide +kernel) (by decide +kernel), mm 915 (by decide +kernel) (by decide +kernel), ⟨_, rfl, rfl⟩, Or.inl (mm 913 (by decide +kernel) (by decide +kernel))⟩
set_option maxRecDepth 100000 in
theorem lkX11_204 : mLS RX11 204 kX11_bitsIn 2 := ⟨mkX11_bitsIn, mm 903 (by decide +kernel) (by decide +kernel), Or.inl (mm 923 (by decide +kernel) (by decide +kernel))⟩
set_option maxRecDepth 100000 in
theorem lkX11_208 : mLV RX11 208 kX0_survey 0 2 := ⟨mkX0_survey, mm 933 (by decide +kernel) (by decide +kernel), mm 934 (by decide +kernel) (by decide +kernel), ⟨_, rfl, rfl⟩, Or.inl (mm 932 (by decide +kernel) (by decide +kernel))⟩
set_option maxRecDepth 100000 in
theorem flX11_212 : mFL RX11 212 0 2 := ⟨_, rfl, by decide, mm 211 (by decide +kernel) (by decide +kernel)⟩
set_option maxRecDepth 100000 in
theorem lkX11_215 : mLV RX11 215 kX0_lowestFitting 0 3 := ⟨mkX0_lowestFitting, mm 940 (by decide +kernel) (by decide +kernel), mm 941 (by decide +kernel) (by decide +kernel), ⟨_, rfl, rfl⟩, Or.inl (mm 939 (by decide +kernel) (by decide +kernel))⟩
set_option maxRecDepth 100000 in
theorem flX11_219 : mFL RX11 219 0 3 := ⟨_, rfl, by decide, mm 213 (by decide +kernel) (by decide +kernel)⟩
set_option maxRecDepth 100000 in
theorem lkX11_222 : mLV RX11 222 kX0_isSureWater 0 2 := ⟨mkX0_isSureWater, mm 945 (by decide +kernel) (by decide +kernel), mm 946 (by decide +kernel) (by decide +kernel), ⟨_, rfl, rfl⟩, Or.inl (mm 944 (by decide +kernel) (by decide +kernel))⟩
set_option maxRecDepth 100000 in
theorem lkX11_225 : mLV RX11 225 kX8_tell 8 4 := ⟨mkX8_tell, mm 953 (by decide +kernel) (by decide +kernel), mm 954 (by decide +kernel) (by decide +kernel), ⟨_, rfl, rfl⟩, Or.inl (mm 952 (by decide +kernel) (by decide +kernel))⟩
set_option maxRecDepth 100000 in
theorem flX11_228 : mFL RX11 228 8 3 := ⟨_, rfl, by decide, mm 279 (by decide +kernel) (by decide +kernel)⟩
set_option maxRecDepth 100000 in
theorem lkX11_231 : mLV RX11 231 kX8_weigh 8 3 := ⟨mkX8_weigh, mm 961 (by decide +kernel) (by decide +kernel), mm 962 (by decide +kernel) (by decide +kernel), ⟨_, rfl, rfl⟩, Or.inl (mm 960 (by decide +kernel) (by decide +kernel))⟩
set_option maxRecDepth 100000 in
theorem flX11_235 : mFL RX11 235 8 4 := ⟨_, rfl, by decide, mm 281 (by decide +kernel) (by decide +kernel)⟩
set_option maxRecDepth 100000 in
theorem flX11_238 : mFL RX11 238 8 5 := ⟨_, rfl, by decide, mm 283 (by decide +kernel) (by decide +kernel)⟩
set_option maxRecDepth 100000 in
theorem flX11_241 : mFL RX11 241 8 6 := ⟨_, rfl, by decide, mm 285 (by decide +kernel) (by decide +kernel)⟩
set_option maxRecDepth 100000 in
theorem flX11_244 : mFL RX11 244 8 7 := ⟨_, rfl, by decide, mm 287 (by decide +kernel) (by decide +kernel)⟩
set_option maxRecDepth 100000 in
theorem lkX11_247 : mLV RX11 247 kX8_weighTwo 8 3 := ⟨mkX8_weighTwo, mm 996 (by decide +kernel) (by decide +kernel), mm 997 (by decide +kernel) (by decide +kernel), ⟨_, rfl, rfl⟩, Or.inl (mm 995 (by decide +kernel) (by decide +kernel))⟩
set_option maxRecDepth 100000 in
theorem flX11_250 : mFL RX11 250 8 8 := ⟨_, rfl, by decide, mm 289 (by decide +kernel) (by decide +kernel)⟩
set_option maxRecDepth 100000 in
theorem flX11_253 : mFL RX11 253 8 9 := ⟨_, rfl, by decide, mm 291 (by decide +kernel) (by decide +kernel)⟩
set_option maxRecDepth 100000 in
theorem flX11_256 : mFL RX11 256 0 4 := ⟨_, rfl, by decide, mm 215 (by decide +kernel) (by decide +kernel)⟩
set_option maxRecDepth 100000 in
theorem lkX11_259 : mLV RX11 259 kX10_seek 10 4 := ⟨mkX10_seek, mm 1021 (by decide +kernel) (by decide +kernel), mm 1022 (by decide +kernel) (by decide +kernel), ⟨_, rfl, rfl⟩, Or.inl (mm 1020 (by decide +kernel) (by decide +kernel))⟩
set_option maxRecDepth 100000 in
theorem flX11_263 : mFL RX11 263 10 2 := ⟨_, rfl, by decide, mm 244 (by decide +kernel) (by decide +kernel)⟩
set_option maxRecDepth 100000 in
theorem flX11_267 : mFL RX11 267 10 3 := ⟨_, rfl, by decide, mm 246 (by decide +kernel) (by decide +kernel)⟩
set_option maxRecDepth 100000 in
theorem flX11_270 : mFL RX11 270 10 4 := ⟨_, rfl, by decide, mm 248 (by decide +kernel) (by decide +kernel)⟩
set_option maxRecDepth 100000 in
theorem flX11_273 : mFL RX11 273 10 1 := ⟨_, rfl, by decide, mm 242 (by decide +kernel) (by decide +kernel)⟩
set_option maxRecDepth 100000 in
theorem lkX11_276 : mLV RX11 276 kX0_fillPool 0 2 := ⟨mkX0_fillPool, mm 1057 (by decide +kernel) (by decide +kernel), mm 1058 (by decide +kernel) (by decide +kernel), ⟨_, rfl, rfl⟩, Or.inl (mm 1056 (by decide +kernel) (by decide +kernel))⟩
set_option maxRecDepth 100000 in
theorem flX11_279 : mFL RX11 279 0 5 := ⟨_, rfl, by decide, mm 217 (by decide +kernel) (by decide +kernel)⟩
set_option maxRecDepth 100000 in
theorem lkX11_282 : mLV RX11 282 kX0_wallCells 0 1 := ⟨mkX0_wallCells, mm 1069 (by decide +kernel) (by decide +kernel), mm 1070 (by decide +kernel) (by decide +kernel), ⟨_, rfl, rfl⟩, Or.inl (mm 1068 (by decide +kernel) (by decide +kernel))⟩
set_option maxRecDepth 100000 in
theorem lkX11_286 : mLV RX11 286 kX9_number 9 1 := ⟨mkX9_number, mm 1078 (by decide +kernel) (by decide +kernel), mm 1079 (by decide +kernel) (by decide +kernel), ⟨_, rfl, rfl⟩, Or.inl (mm 1077 (by decide +kernel) (by decide +kernel))⟩
set_option maxRecDepth 100000 in
theorem flX11_289 : mFL RX11 289 1 5 := ⟨_, rfl, by decide, mm 398 (by decide +kernel) (by decide +kernel)⟩
set_option maxRecDepth 100000 in
theorem flX11_292 : mFL RX11 292 2 5 := ⟨_, rfl, by decide, mm 126 (by decide +kernel) (by decide +kernel)⟩
set_option maxRecDepth 100000 in
theorem flX11_295 : mFL RX11 295 3 5 := ⟨_, rfl, by decide, mm 97 (by decide +kernel) (by decide +kernel)⟩
set_option maxRecDepth 100000 in
theorem lkX11_300 : mLV RX11 300 kX6_last 6 0 := ⟨mkX6_last, mm 785 (by decide +kernel) (by decide +kernel), mm 786 (by decide +kernel) (by decide +kernel), ⟨_, rfl, rfl⟩, Or.inl (mm 784 (by decide +kernel) (by decide +kernel))⟩
set_option maxRecDepth 100000 in
theorem flX11_304 : mFL RX11 304 5 5 := ⟨_, rfl, by decide, mm 758 (by decide +kernel) (by decide +kernel)⟩
set_option maxRecDepth 100000 in
theorem lkX11_309 : mLV RX11 309 kX1_drawLand 1 0 := ⟨mkX1_drawLand, mm 444 (by decide +kernel) (by decide +kernel), mm 445 (by decide +kernel) (by decide +kernel), ⟨_, rfl, rfl⟩, Or.inl (mm 443 (by decide +kernel) (by decide +kernel))⟩
set_option maxRecDepth 100000 in
theorem flX11_312 : mFL RX11 312 0 0 := ⟨_, rfl, by decide, mm 206 (by decide +kernel) (by decide +kernel)⟩
set_option maxRecDepth 100000 in
theorem lkX11_316 : mLV RX11 316 kX5_addNote 5 4 := ⟨mkX5_addNote, mm 789 (by decide +kernel) (by decide +kernel), mm 790 (by decide +kernel) (by decide +kernel), ⟨_, rfl, rfl⟩, Or.inl (mm 788 (by decide +kernel) (by decide +kernel))⟩
set_option maxRecDepth 100000 in
theorem lkX11_319 : mLS RX11 319 kJ6_bitCount_0f7a4 1 := ⟨mkJ6_bitCount_0f7a4, mm 718 (by decide +kernel) (by decide +kernel), Or.inl (mm 888 (by decide +kernel) (by decide +kernel))⟩
set_option maxRecDepth 100000 in
theorem lkX12_1 : Cond.methodLink RX12 1 objectInit ∈ mTs ∧ Cond.instanceMethod objectInit ∈ mTs ∧ Cond.code objectInit ⟨#[0xb1]⟩ 1 none ∈ mTs := ⟨mm 1090 (by decide +kernel) (by decide +kernel), mm 28 (by decide +kernel) (by decide +kernel), mm 29 (by decide +kernel) (by decide +kernel)⟩
set_option maxRecDepth 100000 in
theorem flX12_7 : mFL RX12 7 12 1 := ⟨_, rfl, by decide, mm 1092 (by decide +kernel) (by decide +kernel)⟩
set_option maxRecDepth 100000 in
theorem flX12_13 : mFL RX12 13 12 2 := ⟨_, rfl, by decide, mm 1093 (by decide +kernel) (by decide +kernel)⟩
set_option maxRecDepth 100000 in
theorem flX12_16 : mFL RX12 16 12 3 := ⟨_, rfl, by decide, mm 1094 (by decide +kernel) (by decide +kernel)⟩
set_option maxRecDepth 100000 in
theorem flX12_19 : mFL RX12 19 12 4 := ⟨_, rfl, by decide, mm 1095 (by decide +kernel) (by decide +kernel)⟩
set_option maxRecDepth 100000 in
theorem flX12_22 : mFL RX12 22 12 5 := ⟨_, rfl, by decide, mm 1096 (by decide +kernel) (by decide +kernel)⟩
set_option maxRecDepth 100000 in
theorem flX12_26 : mFL RX12 26 12 7 := ⟨_, rfl, by decide, mm 1098 (by decide +kernel) (by decide +kernel)⟩
set_option maxRecDepth 100000 in
theorem flX12_29 : mFL RX12 29 12 8 := ⟨_, rfl, by decide, mm 1099 (by decide +kernel) (by decide +kernel)⟩
set_option maxRecDepth 100000 in
theorem flX12_32 : mFL RX12 32 12 9 := ⟨_, rfl, by decide, mm 1100 (by decide +kernel) (by decide +kernel)⟩
set_option maxRecDepth 100000 in
theorem flX12_35 : mFL RX12 35 12 10 := ⟨_, rfl, by decide, mm 1101 (by decide +kernel) (by decide +kernel)⟩
set_option maxRecDepth 100000 in
theorem flX12_38 : mFL RX12 38 12 11 := ⟨_, rfl, by decide, mm 1102 (by decide +kernel) (by decide +kernel)⟩
set_option maxRecDepth 100000 in
theorem flX12_42 : mFL RX12 42 12 22 := ⟨_, rfl, by decide, mm 1113 (by decide +kernel) (by decide +kernel)⟩
set_option maxRecDepth 100000 in
theorem flX12_45 : mFL RX12 45 12 23 := ⟨_, rfl, by decide, mm 1114 (by decide +kernel) (by decide +kernel)⟩
set_option maxRecDepth 100000 in
theorem flX12_48 : mFL RX12 48 12 24 := ⟨_, rfl, by decide, mm 1115 (by decide +kernel) (by decide +kernel)⟩
set_option maxRecDepth 100000 in
theorem flX12_51 : mFL RX12 51 12 25 := ⟨_, rfl, by decide, mm 1116 (by decide +kernel) (by decide +kernel)⟩
set_option maxRecDepth 100000 in
theorem flX12_54 : mFL RX12 54 12 26 := ⟨_, rfl, by decide, mm 1117 (by decide +kernel) (by decide +kernel)⟩
set_option maxRecDepth 100000 in
theorem flX12_57 : mFL RX12 57 12 27 := ⟨_, rfl, by decide, mm 1118 (by decide +kernel) (by decide +kernel)⟩
set_option maxRecDepth 100000 in
theorem flX12_60 : mFL RX12 60 12 28 := ⟨_, rfl, by decide, mm 1119 (by decide +kernel) (by decide +kernel)⟩
set_option maxRecDepth 100000 in
theorem flX12_63 : mFL RX12 63 12 29 := ⟨_, rfl, by decide, mm 1120 (by decide +kernel) (by decide +kernel)⟩
set_option maxRecDepth 100000 in
theorem flX12_66 : mFL RX12 66 12 30 := ⟨_, rfl, by decide, mm 1121 (by decide +kernel) (by decide +kernel)⟩
set_option maxRecDepth 100000 in
theorem flX12_69 : mFL RX12 69 12 31 := ⟨_, rfl, by decide, mm 1122 (by decide +kernel) (by decide +kernel)⟩
set_option maxRecDepth 100000 in
theorem flX12_72 : mFL RX12 72 12 32 := ⟨_, rfl, by decide, mm 1123 (by decide +kernel) (by decide +kernel)⟩
set_option maxRecDepth 100000 in
theorem flX12_75 : mFL RX12 75 12 39 := ⟨_, rfl, by decide, mm 1130 (by decide +kernel) (by decide +kernel)⟩
set_option maxRecDepth 100000 in
theorem flX12_78 : mFL RX12 78 12 40 := ⟨_, rfl, by decide, mm 1131 (by decide +kernel) (by decide +kernel)⟩
set_option maxRecDepth 100000 in
theorem flX12_81 : mFL RX12 81 12 41 := ⟨_, rfl, by decide, mm 1132 (by decide +kernel) (by decide +kernel)⟩
set_option maxRecDepth 100000 in
theorem flX12_84 : mFL RX12 84 12 42 := ⟨_, rfl, by decide, mm 1133 (by decide +kernel) (by decide +kernel)⟩
set_option maxRecDepth 100000 in
theorem flX12_87 : mFL RX12 87 12 43 := ⟨_, rfl, by decide, mm 1134 (by decide +kernel) (by decide +kernel)⟩
set_option maxRecDepth 100000 in
theorem flX12_90 : mFL RX12 90 12 44 := ⟨_, rfl, by decide, mm 1135 (by decide +kernel) (by decide +kernel)⟩
set_option maxRecDepth 100000 in
theorem flX12_93 : mFL RX12 93 12 45 := ⟨_, rfl, by decide, mm 1136 (by decide +kernel) (by decide +kernel)⟩
set_option maxRecDepth 100000 in
theorem flX12_96 : mFL RX12 96 12 46 := ⟨_, rfl, by decide, mm 1137 (by decide +kernel) (by decide +kernel)⟩
set_option maxRecDepth 100000 in
theorem flX12_99 : mFL RX12 99 12 47 := ⟨_, rfl, by decide, mm 1138 (by decide +kernel) (by decide +kernel)⟩
set_option maxRecDepth 100000 in
theorem flX12_102 : mFL RX12 102 12 48 := ⟨_, rfl, by decide, mm 1139 (by decide +kernel) (by decide +kernel)⟩
set_option maxRecDepth 100000 in
theorem flX12_105 : mFL RX12 105 12 49 := ⟨_, rfl, by decide, mm 1140 (by decide +kernel) (by decide +kernel)⟩
set_option maxRecDepth 100000 in
theorem flX12_108 : mFL RX12 108 12 50 := ⟨_, rfl, by decide, mm 1141 (by decide +kernel) (by decide +kernel)⟩
set_option maxRecDepth 100000 in
theorem flX12_111 : mFL RX12 111 12 54 := ⟨_, rfl, by decide, mm 1145 (by decide +kernel) (by decide +kernel)⟩
set_option maxRecDepth 100000 in
theorem flX12_114 : mFL RX12 114 12 55 := ⟨_, rfl, by decide, mm 1146 (by decide +kernel) (by decide +kernel)⟩
set_option maxRecDepth 100000 in
theorem flX12_117 : mFL RX12 117 12 56 := ⟨_, rfl, by decide, mm 1147 (by decide +kernel) (by decide +kernel)⟩
set_option maxRecDepth 100000 in
theorem flX12_120 : mFL RX12 120 12 57 := ⟨_, rfl, by decide, mm 1148 (by decide +kernel) (by decide +kernel)⟩
set_option maxRecDepth 100000 in
theorem flX12_123 : mFL RX12 123 12 58 := ⟨_, rfl, by decide, mm 1149 (by decide +kernel) (by decide +kernel)⟩
set_option maxRecDepth 100000 in
theorem flX12_126 : mFL RX12 126 12 59 := ⟨_, rfl, by decide, mm 1150 (by decide +kernel) (by decide +kernel)⟩
set_option maxRecDepth 100000 in
theorem flX12_129 : mFL RX12 129 12 60 := ⟨_, rfl, by decide, mm 1151 (by decide +kernel) (by decide +kernel)⟩
set_option maxRecDepth 100000 in
theorem flX12_132 : mFL RX12 132 12 61 := ⟨_, rfl, by decide, mm 1152 (by decide +kernel) (by decide +kernel)⟩
set_option maxRecDepth 100000 in
theorem flX12_135 : mFL RX12 135 12 62 := ⟨_, rfl, by decide, mm 1153 (by decide +kernel) (by decide +kernel)⟩
set_option maxRecDepth 100000 in
theorem flX12_138 : mFL RX12 138 12 63 := ⟨_, rfl, by decide, mm 1154 (by decide +kernel) (by decide +kernel)⟩
set_option maxRecDepth 100000 in
theorem flX12_141 : mFL RX12 141 12 64 := ⟨_, rfl, by decide, mm 1155 (by decide +kernel) (by decide +kernel)⟩
set_option maxRecDepth 100000 in
theorem flX12_144 : mFL RX12 144 12 65 := ⟨_, rfl, by decide, mm 1156 (by decide +kernel) (by decide +kernel)⟩
set_option maxRecDepth 100000 in
theorem flX12_147 : mFL RX12 147 12 37 := ⟨_, rfl, by decide, mm 1128 (by decide +kernel) (by decide +kernel)⟩
set_option maxRecDepth 100000 in
theorem flX12_151 : mFL RX12 151 12 38 := ⟨_, rfl, by decide, mm 1129 (by decide +kernel) (by decide +kernel)⟩
set_option maxRecDepth 100000 in
theorem flX12_154 : mFL RX12 154 12 0 := ⟨_, rfl, by decide, mm 1091 (by decide +kernel) (by decide +kernel)⟩
set_option maxRecDepth 100000 in
theorem lkX12_157 : mLV RX12 157 kX12_next0 12 2 := ⟨mkX12_next0, mm 1310 (by decide +kernel) (by decide +kernel), mp 37 (by decide +kernel) (by decide +kernel), ⟨_, rfl, rfl⟩, Or.inl (mm 1308 (by decide +kernel) (by decide +kernel))⟩
set_option maxRecDepth 100000 in
theorem lkX12_161 : mLS RX12 161 kX12_isBetween 3 := ⟨mkX12_isBetween, mm 1317 (by decide +kernel) (by decide +kernel), Or.inl (mm 1316 (by decide +kernel) (by decide +kernel))⟩
set_option maxRecDepth 100000 in
theorem lkX12_165 : mLS RX12 165 kX12_isCorner 1 := ⟨mkX12_isCorner, mm 1302 (by decide +kernel) (by decide +kernel), Or.inl (mm 1301 (by decide +kernel) (by decide +kernel))⟩
set_option maxRecDepth 100000 in
theorem lkX12_169 : mLV RX12 169 kX12_isSide 12 2 := ⟨mkX12_isSide, mm 1306 (by decide +kernel) (by decide +kernel), mp 36 (by decide +kernel) (by decide +kernel), ⟨_, rfl, rfl⟩, Or.inl (mm 1304 (by decide +kernel) (by decide +kernel))⟩
set_option maxRecDepth 100000 in
theorem lkX12_173 : mLS RX12 173 kX12_in 3 := ⟨mkX12_in, mm 1295 (by decide +kernel) (by decide +kernel), Or.inl (mm 1294 (by decide +kernel) (by decide +kernel))⟩
set_option maxRecDepth 100000 in
theorem flX12_176 : mFL RX12 176 12 12 := ⟨_, rfl, by decide, mm 1103 (by decide +kernel) (by decide +kernel)⟩
set_option maxRecDepth 100000 in
theorem lkX12_179 : mLV RX12 179 kX12_firstWrong 12 1 := ⟨mkX12_firstWrong, mm 1299 (by decide +kernel) (by decide +kernel), mp 35 (by decide +kernel) (by decide +kernel), ⟨_, rfl, rfl⟩, Or.inl (mm 1297 (by decide +kernel) (by decide +kernel))⟩
set_option maxRecDepth 100000 in
theorem lkX12_183 : mLV RX12 183 kX12_laysLand 12 1 := ⟨mkX12_laysLand, mm 1314 (by decide +kernel) (by decide +kernel), mp 38 (by decide +kernel) (by decide +kernel), ⟨_, rfl, rfl⟩, Or.inl (mm 1312 (by decide +kernel) (by decide +kernel))⟩
set_option maxRecDepth 100000 in
theorem lkX12_187 : mLV RX12 187 kX12_isCoast 12 1 := ⟨mkX12_isCoast, mm 1325 (by decide +kernel) (by decide +kernel), mp 39 (by decide +kernel) (by decide +kernel), ⟨_, rfl, rfl⟩, Or.inl (mm 1323 (by decide +kernel) (by decide +kernel))⟩
set_option maxRecDepth 100000 in
theorem lkX12_190 : mLS RX12 190 kX12_isCell 2 := ⟨mkX12_isCell, mm 1332 (by decide +kernel) (by decide +kernel), Or.inl (mm 1331 (by decide +kernel) (by decide +kernel))⟩
set_option maxRecDepth 100000 in
theorem lkX12_193 : mLV RX12 193 kX12_isLandAt 12 3 := ⟨mkX12_isLandAt, mm 1336 (by decide +kernel) (by decide +kernel), mp 40 (by decide +kernel) (by decide +kernel), ⟨_, rfl, rfl⟩, Or.inl (mm 1334 (by decide +kernel) (by decide +kernel))⟩
set_option maxRecDepth 100000 in
theorem lkX12_196 : mLS RX12 196 kX12_stepX 1 := ⟨mkX12_stepX, mm 1350 (by decide +kernel) (by decide +kernel), Or.inl (mm 1349 (by decide +kernel) (by decide +kernel))⟩
set_option maxRecDepth 100000 in
theorem lkX12_199 : mLS RX12 199 kX12_stepY 1 := ⟨mkX12_stepY, mm 1353 (by decide +kernel) (by decide +kernel), Or.inl (mm 1352 (by decide +kernel) (by decide +kernel))⟩
set_option maxRecDepth 100000 in
theorem lkX12_202 : mLV RX12 202 kX12_stepsTo 12 4 := ⟨mkX12_stepsTo, mm 1347 (by decide +kernel) (by decide +kernel), mp 41 (by decide +kernel) (by decide +kernel), ⟨_, rfl, rfl⟩, Or.inl (mm 1345 (by decide +kernel) (by decide +kernel))⟩
set_option maxRecDepth 100000 in
theorem lkX12_206 : mLV RX12 206 kX12_sortAt 12 4 := ⟨mkX12_sortAt, mm 1361 (by decide +kernel) (by decide +kernel), mp 43 (by decide +kernel) (by decide +kernel), ⟨_, rfl, rfl⟩, Or.inl (mm 1359 (by decide +kernel) (by decide +kernel))⟩
set_option maxRecDepth 100000 in
theorem lkX12_209 : mLV RX12 209 kX12_sortTo 12 4 := ⟨mkX12_sortTo, mm 1357 (by decide +kernel) (by decide +kernel), mp 42 (by decide +kernel) (by decide +kernel), ⟨_, rfl, rfl⟩, Or.inl (mm 1355 (by decide +kernel) (by decide +kernel))⟩
set_option maxRecDepth 100000 in
theorem lkX12_212 : mLS RX12 212 kX12_isDirection 1 := ⟨mkX12_isDirection, mm 1343 (by decide +kernel) (by decide +kernel), Or.inl (mm 1342 (by decide +kernel) (by decide +kernel))⟩
set_option maxRecDepth 100000 in
theorem lkX12_215 : mLV RX12 215 kX12_echoOf 12 4 := ⟨mkX12_echoOf, mm 1365 (by decide +kernel) (by decide +kernel), mp 44 (by decide +kernel) (by decide +kernel), ⟨_, rfl, rfl⟩, Or.inl (mm 1363 (by decide +kernel) (by decide +kernel))⟩
set_option maxRecDepth 100000 in
theorem flX12_218 : mFL RX12 218 12 6 := ⟨_, rfl, by decide, mm 1097 (by decide +kernel) (by decide +kernel)⟩
set_option maxRecDepth 100000 in
theorem lkX12_221 : mLV RX12 221 kX12_types 12 1 := ⟨mkX12_types, mm 1377 (by decide +kernel) (by decide +kernel), mp 45 (by decide +kernel) (by decide +kernel), ⟨_, rfl, rfl⟩, Or.inl (mm 1375 (by decide +kernel) (by decide +kernel))⟩
set_option maxRecDepth 100000 in
theorem flX12_224 : mFL RX12 224 12 13 := ⟨_, rfl, by decide, mm 1104 (by decide +kernel) (by decide +kernel)⟩
set_option maxRecDepth 100000 in
theorem flX12_227 : mFL RX12 227 12 14 := ⟨_, rfl, by decide, mm 1105 (by decide +kernel) (by decide +kernel)⟩
set_option maxRecDepth 100000 in
theorem lkX12_230 : mLV RX12 230 kX12_here 12 0 := ⟨mkX12_here, mm 1389 (by decide +kernel) (by decide +kernel), mp 47 (by decide +kernel) (by decide +kernel), ⟨_, rfl, rfl⟩, Or.inl (mm 1387 (by decide +kernel) (by decide +kernel))⟩
set_option maxRecDepth 100000 in
theorem flX12_234 : mFL RX12 234 12 15 := ⟨_, rfl, by decide, mm 1106 (by decide +kernel) (by decide +kernel)⟩
set_option maxRecDepth 100000 in
theorem lkX12_237 : mLV RX12 237 kX12_wrongAt 12 2 := ⟨mkX12_wrongAt, mm 1393 (by decide +kernel) (by decide +kernel), mp 48 (by decide +kernel) (by decide +kernel), ⟨_, rfl, rfl⟩, Or.inl (mm 1391 (by decide +kernel) (by decide +kernel))⟩
set_option maxRecDepth 100000 in
theorem flX12_240 : mFL RX12 240 12 20 := ⟨_, rfl, by decide, mm 1111 (by decide +kernel) (by decide +kernel)⟩
set_option maxRecDepth 100000 in
theorem lkX12_243 : mLV RX12 243 kX12_isDigit 12 0 := ⟨mkX12_isDigit, mm 1410 (by decide +kernel) (by decide +kernel), mp 52 (by decide +kernel) (by decide +kernel), ⟨_, rfl, rfl⟩, Or.inl (mm 1408 (by decide +kernel) (by decide +kernel))⟩
set_option maxRecDepth 100000 in
theorem flX12_247 : mFL RX12 247 12 17 := ⟨_, rfl, by decide, mm 1108 (by decide +kernel) (by decide +kernel)⟩
set_option maxRecDepth 100000 in
theorem cnX12_250 : Cond.constant RX12 250 (1048576) ∈ mTs := mm 1407 (by decide +kernel) (by decide +kernel)
set_option maxRecDepth 100000 in
theorem flX12_251 : mFL RX12 251 12 16 := ⟨_, rfl, by decide, mm 1107 (by decide +kernel) (by decide +kernel)⟩
set_option maxRecDepth 100000 in
theorem flX12_254 : mFL RX12 254 12 18 := ⟨_, rfl, by decide, mm 1109 (by decide +kernel) (by decide +kernel)⟩
set_option maxRecDepth 100000 in
theorem lkX12_257 : mLV RX12 257 kX12_top 12 0 := ⟨mkX12_top, mm 1432 (by decide +kernel) (by decide +kernel), mp 56 (by decide +kernel) (by decide +kernel), ⟨_, rfl, rfl⟩, Or.inl (mm 1430 (by decide +kernel) (by decide +kernel))⟩
set_option maxRecDepth 100000 in
theorem lkX12_260 : mLV RX12 260 kX12_notes 12 2 := ⟨mkX12_notes, mm 1418 (by decide +kernel) (by decide +kernel), mp 54 (by decide +kernel) (by decide +kernel), ⟨_, rfl, rfl⟩, Or.inl (mm 1416 (by decide +kernel) (by decide +kernel))⟩
set_option maxRecDepth 100000 in
theorem lkX12_264 : mLV RX12 264 kX12_opens 12 1 := ⟨mkX12_opens, mm 1405 (by decide +kernel) (by decide +kernel), mp 51 (by decide +kernel) (by decide +kernel), ⟨_, rfl, rfl⟩, Or.inl (mm 1403 (by decide +kernel) (by decide +kernel))⟩
set_option maxRecDepth 100000 in
theorem lkX12_267 : mLV RX12 267 kX12_readsNumber 12 0 := ⟨mkX12_readsNumber, mm 1414 (by decide +kernel) (by decide +kernel), mp 53 (by decide +kernel) (by decide +kernel), ⟨_, rfl, rfl⟩, Or.inl (mm 1412 (by decide +kernel) (by decide +kernel))⟩
set_option maxRecDepth 100000 in
theorem lkX12_270 : mLS RX12 270 kX12_factOf 1 := ⟨mkX12_factOf, mm 1421 (by decide +kernel) (by decide +kernel), Or.inl (mm 1420 (by decide +kernel) (by decide +kernel))⟩
set_option maxRecDepth 100000 in
theorem lkX12_273 : mLV RX12 273 kX12_readsFactor 12 0 := ⟨mkX12_readsFactor, mm 1401 (by decide +kernel) (by decide +kernel), mp 50 (by decide +kernel) (by decide +kernel), ⟨_, rfl, rfl⟩, Or.inl (mm 1399 (by decide +kernel) (by decide +kernel))⟩
set_option maxRecDepth 100000 in
theorem lkX12_276 : mLS RX12 276 kX12_sumSign 1 := ⟨mkX12_sumSign, mm 1424 (by decide +kernel) (by decide +kernel), Or.inl (mm 1423 (by decide +kernel) (by decide +kernel))⟩
set_option maxRecDepth 100000 in
theorem lkX12_279 : mLV RX12 279 kX12_closesSums 12 1 := ⟨mkX12_closesSums, mm 1428 (by decide +kernel) (by decide +kernel), mp 55 (by decide +kernel) (by decide +kernel), ⟨_, rfl, rfl⟩, Or.inl (mm 1426 (by decide +kernel) (by decide +kernel))⟩
set_option maxRecDepth 100000 in
theorem lkX12_283 : mLV RX12 283 kX12_hasOpenSum 12 1 := ⟨mkX12_hasOpenSum, mm 1436 (by decide +kernel) (by decide +kernel), mp 57 (by decide +kernel) (by decide +kernel), ⟨_, rfl, rfl⟩, Or.inl (mm 1434 (by decide +kernel) (by decide +kernel))⟩
set_option maxRecDepth 100000 in
theorem lkX12_286 : mLV RX12 286 kX12_readsSum 12 0 := ⟨mkX12_readsSum, mm 1397 (by decide +kernel) (by decide +kernel), mp 49 (by decide +kernel) (by decide +kernel), ⟨_, rfl, rfl⟩, Or.inl (mm 1395 (by decide +kernel) (by decide +kernel))⟩
set_option maxRecDepth 100000 in
theorem lkX12_289 : mLV RX12 289 kX12_endsPiece 12 0 := ⟨mkX12_endsPiece, mm 1448 (by decide +kernel) (by decide +kernel), mp 60 (by decide +kernel) (by decide +kernel), ⟨_, rfl, rfl⟩, Or.inl (mm 1446 (by decide +kernel) (by decide +kernel))⟩
set_option maxRecDepth 100000 in
theorem lkX12_292 : mLV RX12 292 kX12_readsCompared 12 0 := ⟨mkX12_readsCompared, mm 1444 (by decide +kernel) (by decide +kernel), mp 59 (by decide +kernel) (by decide +kernel), ⟨_, rfl, rfl⟩, Or.inl (mm 1442 (by decide +kernel) (by decide +kernel))⟩
set_option maxRecDepth 100000 in
theorem lkX12_295 : mLV RX12 295 kX12_lands 12 1 := ⟨mkX12_lands, mm 1452 (by decide +kernel) (by decide +kernel), mp 61 (by decide +kernel) (by decide +kernel), ⟨_, rfl, rfl⟩, Or.inl (mm 1450 (by decide +kernel) (by decide +kernel))⟩
set_option maxRecDepth 100000 in
theorem lkX12_298 : mLV RX12 298 kX12_jumps 12 1 := ⟨mkX12_jumps, mm 1456 (by decide +kernel) (by decide +kernel), mp 62 (by decide +kernel) (by decide +kernel), ⟨_, rfl, rfl⟩, Or.inl (mm 1454 (by decide +kernel) (by decide +kernel))⟩
set_option maxRecDepth 100000 in
theorem flX12_301 : mFL RX12 301 12 19 := ⟨_, rfl, by decide, mm 1110 (by decide +kernel) (by decide +kernel)⟩
set_option maxRecDepth 100000 in
theorem lkX12_304 : mLV RX12 304 kX12_readsCondition 12 0 := ⟨mkX12_readsCondition, mm 1440 (by decide +kernel) (by decide +kernel), mp 58 (by decide +kernel) (by decide +kernel), ⟨_, rfl, rfl⟩, Or.inl (mm 1438 (by decide +kernel) (by decide +kernel))⟩
set_option maxRecDepth 100000 in
theorem lkX12_307 : mLV RX12 307 kX12_readsClause 12 0 := ⟨mkX12_readsClause, mm 1385 (by decide +kernel) (by decide +kernel), mp 46 (by decide +kernel) (by decide +kernel), ⟨_, rfl, rfl⟩, Or.inl (mm 1383 (by decide +kernel) (by decide +kernel))⟩
set_option maxRecDepth 100000 in
theorem lkX12_310 : mLV RX12 310 kX12_takes 12 1 := ⟨mkX12_takes, mm 1460 (by decide +kernel) (by decide +kernel), mp 63 (by decide +kernel) (by decide +kernel), ⟨_, rfl, rfl⟩, Or.inl (mm 1458 (by decide +kernel) (by decide +kernel))⟩
set_option maxRecDepth 100000 in
theorem flX12_313 : mFL RX12 313 12 21 := ⟨_, rfl, by decide, mm 1112 (by decide +kernel) (by decide +kernel)⟩
set_option maxRecDepth 100000 in
theorem lkX12_316 : mLS RX12 316 kX12_reckon 3 := ⟨mkX12_reckon, mm 1489 (by decide +kernel) (by decide +kernel), Or.inl (mm 1488 (by decide +kernel) (by decide +kernel))⟩
set_option maxRecDepth 100000 in
theorem lkX12_320 : mLS RX12 320 kX12_size 1 := ⟨mkX12_size, mm 1478 (by decide +kernel) (by decide +kernel), Or.inl (mm 1477 (by decide +kernel) (by decide +kernel))⟩
set_option maxRecDepth 100000 in
theorem lkX12_323 : mLV RX12 323 kX12_landOnWay 12 5 := ⟨mkX12_landOnWay, mm 1482 (by decide +kernel) (by decide +kernel), mp 66 (by decide +kernel) (by decide +kernel), ⟨_, rfl, rfl⟩, Or.inl (mm 1480 (by decide +kernel) (by decide +kernel))⟩
set_option maxRecDepth 100000 in
theorem lkX12_327 : mLV RX12 327 kX12_comesTo 12 2 := ⟨mkX12_comesTo, mm 1486 (by decide +kernel) (by decide +kernel), mp 67 (by decide +kernel) (by decide +kernel), ⟨_, rfl, rfl⟩, Or.inl (mm 1484 (by decide +kernel) (by decide +kernel))⟩
set_option maxRecDepth 100000 in
theorem lkX12_330 : mLV RX12 330 kX12_isSounder 12 1 := ⟨mkX12_isSounder, mm 1468 (by decide +kernel) (by decide +kernel), mp 64 (by decide +kernel) (by decide +kernel), ⟨_, rfl, rfl⟩, Or.inl (mm 1466 (by decide +kernel) (by decide +kernel))⟩
set_option maxRecDepth 100000 in
theorem lkX12_333 : mLS RX12 333 kX12_isAir 2 := ⟨mkX12_isAir, mm 1471 (by decide +kernel) (by decide +kernel), Or.inl (mm 1470 (by decide +kernel) (by decide +kernel))⟩
set_option maxRecDepth 100000 in
theorem lkX12_336 : mLV RX12 336 kX12_levelOf 12 6 := ⟨mkX12_levelOf, mm 1475 (by decide +kernel) (by decide +kernel), mp 65 (by decide +kernel) (by decide +kernel), ⟨_, rfl, rfl⟩, Or.inl (mm 1473 (by decide +kernel) (by decide +kernel))⟩
set_option maxRecDepth 100000 in
theorem flX12_340 : mFL RX12 340 12 33 := ⟨_, rfl, by decide, mm 1124 (by decide +kernel) (by decide +kernel)⟩
set_option maxRecDepth 100000 in
theorem lkX12_343 : mLV RX12 343 kX12_note 12 3 := ⟨mkX12_note, mm 1501 (by decide +kernel) (by decide +kernel), mp 68 (by decide +kernel) (by decide +kernel), ⟨_, rfl, rfl⟩, Or.inl (mm 1499 (by decide +kernel) (by decide +kernel))⟩
set_option maxRecDepth 100000 in
theorem flX12_346 : mFL RX12 346 12 34 := ⟨_, rfl, by decide, mm 1125 (by decide +kernel) (by decide +kernel)⟩
set_option maxRecDepth 100000 in
theorem flX12_349 : mFL RX12 349 12 35 := ⟨_, rfl, by decide, mm 1126 (by decide +kernel) (by decide +kernel)⟩
set_option maxRecDepth 100000 in
theorem flX12_352 : mFL RX12 352 12 36 := ⟨_, rfl, by decide, mm 1127 (by decide +kernel) (by decide +kernel)⟩
set_option maxRecDepth 100000 in
theorem lkX12_355 : mLV RX12 355 kX12_mayBeNone 12 4 := ⟨mkX12_mayBeNone, mm 1538 (by decide +kernel) (by decide +kernel), mp 72 (by decide +kernel) (by decide +kernel), ⟨_, rfl, rfl⟩, Or.inl (mm 1536 (by decide +kernel) (by decide +kernel))⟩
set_option maxRecDepth 100000 in
theorem cnX12_359 : Cond.constant RX12 359 (1000000000) ∈ mTs := mm 1531 (by decide +kernel) (by decide +kernel)
set_option maxRecDepth 100000 in
theorem lkX12_360 : mLV RX12 360 kX12_holds 12 4 := ⟨mkX12_holds, mm 1534 (by decide +kernel) (by decide +kernel), mp 71 (by decide +kernel) (by decide +kernel), ⟨_, rfl, rfl⟩, Or.inl (mm 1532 (by decide +kernel) (by decide +kernel))⟩
set_option maxRecDepth 100000 in
theorem lkX12_363 : mLS RX12 363 kX12_least 2 := ⟨mkX12_least, mm 1553 (by decide +kernel) (by decide +kernel), Or.inl (mm 1552 (by decide +kernel) (by decide +kernel))⟩
set_option maxRecDepth 100000 in
theorem lkX12_366 : mLV RX12 366 kX12_isInBox 12 1 := ⟨mkX12_isInBox, mm 1546 (by decide +kernel) (by decide +kernel), mp 74 (by decide +kernel) (by decide +kernel), ⟨_, rfl, rfl⟩, Or.inl (mm 1544 (by decide +kernel) (by decide +kernel))⟩
set_option maxRecDepth 100000 in
theorem lkX12_369 : mLV RX12 369 kX12_leastAround 12 5 := ⟨mkX12_leastAround, mm 1550 (by decide +kernel) (by decide +kernel), mp 75 (by decide +kernel) (by decide +kernel), ⟨_, rfl, rfl⟩, Or.inl (mm 1548 (by decide +kernel) (by decide +kernel))⟩
set_option maxRecDepth 100000 in
theorem lkX12_373 : mLS RX12 373 kX12_sum 2 := ⟨mkX12_sum, mm 1556 (by decide +kernel) (by decide +kernel), Or.inl (mm 1555 (by decide +kernel) (by decide +kernel))⟩
set_option maxRecDepth 100000 in
theorem lkX12_376 : mLV RX12 376 kX12_laysOwn 12 1 := ⟨mkX12_laysOwn, mm 1529 (by decide +kernel) (by decide +kernel), mp 70 (by decide +kernel) (by decide +kernel), ⟨_, rfl, rfl⟩, Or.inl (mm 1527 (by decide +kernel) (by decide +kernel))⟩
set_option maxRecDepth 100000 in
theorem lkX12_379 : mLV RX12 379 kX12_laysForth 12 0 := ⟨mkX12_laysForth, mm 1542 (by decide +kernel) (by decide +kernel), mp 73 (by decide +kernel) (by decide +kernel), ⟨_, rfl, rfl⟩, Or.inl (mm 1540 (by decide +kernel) (by decide +kernel))⟩
set_option maxRecDepth 100000 in
theorem lkX12_382 : mLV RX12 382 kX12_leastAt 12 1 := ⟨mkX12_leastAt, mm 1560 (by decide +kernel) (by decide +kernel), mp 76 (by decide +kernel) (by decide +kernel), ⟨_, rfl, rfl⟩, Or.inl (mm 1558 (by decide +kernel) (by decide +kernel))⟩
set_option maxRecDepth 100000 in
theorem lkX12_385 : mLV RX12 385 kX12_isFitting 12 1 := ⟨mkX12_isFitting, mm 1525 (by decide +kernel) (by decide +kernel), mp 69 (by decide +kernel) (by decide +kernel), ⟨_, rfl, rfl⟩, Or.inl (mm 1523 (by decide +kernel) (by decide +kernel))⟩
set_option maxRecDepth 100000 in
theorem lkX12_388 : mLV RX12 388 kX12_laysBehind 12 0 := ⟨mkX12_laysBehind, mm 1584 (by decide +kernel) (by decide +kernel), mp 80 (by decide +kernel) (by decide +kernel), ⟨_, rfl, rfl⟩, Or.inl (mm 1582 (by decide +kernel) (by decide +kernel))⟩
set_option maxRecDepth 100000 in
theorem lkX12_391 : mLV RX12 391 kX12_laysPossible 12 1 := ⟨mkX12_laysPossible, mm 1580 (by decide +kernel) (by decide +kernel), mp 79 (by decide +kernel) (by decide +kernel), ⟨_, rfl, rfl⟩, Or.inl (mm 1578 (by decide +kernel) (by decide +kernel))⟩
set_option maxRecDepth 100000 in
theorem lkX12_394 : mLV RX12 394 kX12_isThere 12 2 := ⟨mkX12_isThere, mm 1588 (by decide +kernel) (by decide +kernel), mp 81 (by decide +kernel) (by decide +kernel), ⟨_, rfl, rfl⟩, Or.inl (mm 1586 (by decide +kernel) (by decide +kernel))⟩
set_option maxRecDepth 100000 in
theorem lkX12_397 : mLV RX12 397 kX12_isLine 12 1 := ⟨mkX12_isLine, mm 1572 (by decide +kernel) (by decide +kernel), mp 77 (by decide +kernel) (by decide +kernel), ⟨_, rfl, rfl⟩, Or.inl (mm 1570 (by decide +kernel) (by decide +kernel))⟩
set_option maxRecDepth 100000 in
theorem lkX12_400 : mLV RX12 400 kX12_possibleIn 12 2 := ⟨mkX12_possibleIn, mm 1576 (by decide +kernel) (by decide +kernel), mp 78 (by decide +kernel) (by decide +kernel), ⟨_, rfl, rfl⟩, Or.inl (mm 1574 (by decide +kernel) (by decide +kernel))⟩
set_option maxRecDepth 100000 in
theorem flX12_403 : mFL RX12 403 12 51 := ⟨_, rfl, by decide, mm 1142 (by decide +kernel) (by decide +kernel)⟩
set_option maxRecDepth 100000 in
theorem lkX12_406 : mLV RX12 406 kX12_lowest 12 2 := ⟨mkX12_lowest, mm 1604 (by decide +kernel) (by decide +kernel), mp 83 (by decide +kernel) (by decide +kernel), ⟨_, rfl, rfl⟩, Or.inl (mm 1602 (by decide +kernel) (by decide +kernel))⟩
set_option maxRecDepth 100000 in
theorem lkX12_410 : mLV RX12 410 kX12_laysFitting 12 0 := ⟨mkX12_laysFitting, mm 1600 (by decide +kernel) (by decide +kernel), mp 82 (by decide +kernel) (by decide +kernel), ⟨_, rfl, rfl⟩, Or.inl (mm 1598 (by decide +kernel) (by decide +kernel))⟩
set_option maxRecDepth 100000 in
theorem flX12_413 : mFL RX12 413 12 52 := ⟨_, rfl, by decide, mm 1143 (by decide +kernel) (by decide +kernel)⟩
set_option maxRecDepth 100000 in
theorem flX12_416 : mFL RX12 416 12 53 := ⟨_, rfl, by decide, mm 1144 (by decide +kernel) (by decide +kernel)⟩
set_option maxRecDepth 100000 in
theorem lkX12_419 : mLV RX12 419 kX12_movedBy 12 3 := ⟨mkX12_movedBy, mm 1632 (by decide +kernel) (by decide +kernel), mp 88 (by decide +kernel) (by decide +kernel), ⟨_, rfl, rfl⟩, Or.inl (mm 1630 (by decide +kernel) (by decide +kernel))⟩
set_option maxRecDepth 100000 in
theorem lkX12_422 : mLV RX12 422 kX12_countAt 12 3 := ⟨mkX12_countAt, mm 1636 (by decide +kernel) (by decide +kernel), mp 89 (by decide +kernel) (by decide +kernel), ⟨_, rfl, rfl⟩, Or.inl (mm 1634 (by decide +kernel) (by decide +kernel))⟩
set_option maxRecDepth 100000 in
theorem lkX12_425 : mLV RX12 425 kX12_mayBeSilent 12 3 := ⟨mkX12_mayBeSilent, mm 1640 (by decide +kernel) (by decide +kernel), mp 90 (by decide +kernel) (by decide +kernel), ⟨_, rfl, rfl⟩, Or.inl (mm 1638 (by decide +kernel) (by decide +kernel))⟩
set_option maxRecDepth 100000 in
theorem lkX12_428 : mLV RX12 428 kX12_laysStates 12 0 := ⟨mkX12_laysStates, mm 1620 (by decide +kernel) (by decide +kernel), mp 85 (by decide +kernel) (by decide +kernel), ⟨_, rfl, rfl⟩, Or.inl (mm 1618 (by decide +kernel) (by decide +kernel))⟩
set_option maxRecDepth 100000 in
theorem lkX12_431 : mLV RX12 431 kX12_canChoose 12 0 := ⟨mkX12_canChoose, mm 1616 (by decide +kernel) (by decide +kernel), mp 84 (by decide +kernel) (by decide +kernel), ⟨_, rfl, rfl⟩, Or.inl (mm 1614 (by decide +kernel) (by decide +kernel))⟩
set_option maxRecDepth 100000 in
theorem lkX12_434 : mLV RX12 434 kX12_isChoice 12 1 := ⟨mkX12_isChoice, mm 1624 (by decide +kernel) (by decide +kernel), mp 86 (by decide +kernel) (by decide +kernel), ⟨_, rfl, rfl⟩, Or.inl (mm 1622 (by decide +kernel) (by decide +kernel))⟩
set_option maxRecDepth 100000 in
theorem lkX12_437 : mLV RX12 437 kX12_mostBy 12 1 := ⟨mkX12_mostBy, mm 1628 (by decide +kernel) (by decide +kernel), mp 87 (by decide +kernel) (by decide +kernel), ⟨_, rfl, rfl⟩, Or.inl (mm 1626 (by decide +kernel) (by decide +kernel))⟩
set_option maxRecDepth 100000 in
theorem lkX12_440 : mLV RX12 440 kX12_worstAnswer 12 1 := ⟨mkX12_worstAnswer, mm 1644 (by decide +kernel) (by decide +kernel), mp 91 (by decide +kernel) (by decide +kernel), ⟨_, rfl, rfl⟩, Or.inl (mm 1642 (by decide +kernel) (by decide +kernel))⟩
set_option maxRecDepth 100000 in
theorem lkX12_443 : mLV RX12 443 kX12_addsSecond 12 3 := ⟨mkX12_addsSecond, mm 1656 (by decide +kernel) (by decide +kernel), mp 93 (by decide +kernel) (by decide +kernel), ⟨_, rfl, rfl⟩, Or.inl (mm 1654 (by decide +kernel) (by decide +kernel))⟩
set_option maxRecDepth 100000 in
theorem lkX12_447 : mLV RX12 447 kX12_mostSecond 12 2 := ⟨mkX12_mostSecond, mm 1660 (by decide +kernel) (by decide +kernel), mp 94 (by decide +kernel) (by decide +kernel), ⟨_, rfl, rfl⟩, Or.inl (mm 1658 (by decide +kernel) (by decide +kernel))⟩
set_option maxRecDepth 100000 in
theorem lkX12_450 : mLV RX12 450 kX12_staysBy 12 1 := ⟨mkX12_staysBy, mm 1652 (by decide +kernel) (by decide +kernel), mp 92 (by decide +kernel) (by decide +kernel), ⟨_, rfl, rfl⟩, Or.inl (mm 1650 (by decide +kernel) (by decide +kernel))⟩
set_option maxRecDepth 100000 in
theorem lkX12_453 : mLV RX12 453 kX12_isSurelyWater 12 1 := ⟨mkX12_isSurelyWater, mm 1672 (by decide +kernel) (by decide +kernel), mp 96 (by decide +kernel) (by decide +kernel), ⟨_, rfl, rfl⟩, Or.inl (mm 1670 (by decide +kernel) (by decide +kernel))⟩
set_option maxRecDepth 100000 in
theorem lkX12_456 : mLV RX12 456 kX12_stepBy 12 3 := ⟨mkX12_stepBy, mm 1684 (by decide +kernel) (by decide +kernel), mp 99 (by decide +kernel) (by decide +kernel), ⟨_, rfl, rfl⟩, Or.inl (mm 1682 (by decide +kernel) (by decide +kernel))⟩
set_option maxRecDepth 100000 in
theorem lkX12_459 : mLV RX12 459 kX12_bestBy 12 2 := ⟨mkX12_bestBy, mm 1680 (by decide +kernel) (by decide +kernel), mp 98 (by decide +kernel) (by decide +kernel), ⟨_, rfl, rfl⟩, Or.inl (mm 1678 (by decide +kernel) (by decide +kernel))⟩
set_option maxRecDepth 100000 in
theorem lkX12_462 : mLV RX12 462 kX12_laysSure 12 0 := ⟨mkX12_laysSure, mm 1668 (by decide +kernel) (by decide +kernel), mp 95 (by decide +kernel) (by decide +kernel), ⟨_, rfl, rfl⟩, Or.inl (mm 1666 (by decide +kernel) (by decide +kernel))⟩
set_option maxRecDepth 100000 in
theorem lkX12_465 : mLV RX12 465 kX12_laysWays 12 1 := ⟨mkX12_laysWays, mm 1676 (by decide +kernel) (by decide +kernel), mp 97 (by decide +kernel) (by decide +kernel), ⟨_, rfl, rfl⟩, Or.inl (mm 1674 (by decide +kernel) (by decide +kernel))⟩
set_option maxRecDepth 100000 in
theorem lkX12_468 : mLV RX12 468 kX12_firstBy 12 2 := ⟨mkX12_firstBy, mm 1688 (by decide +kernel) (by decide +kernel), mp 100 (by decide +kernel) (by decide +kernel), ⟨_, rfl, rfl⟩, Or.inl (mm 1686 (by decide +kernel) (by decide +kernel))⟩
set_option maxRecDepth 100000 in
theorem lkX12_471 : mLV RX12 471 kX12_spreads 12 1 := ⟨mkX12_spreads, mm 1696 (by decide +kernel) (by decide +kernel), mp 101 (by decide +kernel) (by decide +kernel), ⟨_, rfl, rfl⟩, Or.inl (mm 1694 (by decide +kernel) (by decide +kernel))⟩
set_option maxRecDepth 100000 in
theorem lkX12_474 : mLV RX12 474 kX12_tapeNumber 12 1 := ⟨mkX12_tapeNumber, mm 1704 (by decide +kernel) (by decide +kernel), mp 102 (by decide +kernel) (by decide +kernel), ⟨_, rfl, rfl⟩, Or.inl (mm 1702 (by decide +kernel) (by decide +kernel))⟩
set_option maxRecDepth 100000 in
theorem lkX12_477 : mLV RX12 477 kX12_rowOf 12 2 := ⟨mkX12_rowOf, mm 1708 (by decide +kernel) (by decide +kernel), mp 103 (by decide +kernel) (by decide +kernel), ⟨_, rfl, rfl⟩, Or.inl (mm 1706 (by decide +kernel) (by decide +kernel))⟩
set_option maxRecDepth 100000 in
theorem nwL_7 : ∃ q : vw_C, vwCl[11]? = some q ∧ Cond.classLink RL 7 q.1 ∈ mTs ∧ Cond.instantiable q.1 8 ∈ mTs ∧ Cond.initialized q.1 ∈ mTs := ⟨_, rfl, mm 22 (by decide +kernel) (by decide +kernel), mm 23 (by decide +kernel) (by decide +kernel), mm 1 (by decide +kernel) (by decide +kernel)⟩
set_option maxRecDepth 100000 in
theorem lkL_9 : mLI RL 9 kX11_init 0 := ⟨mkX11_init, ⟨rfl, rfl⟩, mm 25 (by decide +kernel) (by decide +kernel), Or.inl (mm 24 (by decide +kernel) (by decide +kernel))⟩
set_option maxRecDepth 100000 in
theorem nwL_10 : ∃ q : vw_C, vwCl[12]? = some q ∧ Cond.classLink RL 10 q.1 ∈ mTs ∧ Cond.instantiable q.1 66 ∈ mTs ∧ Cond.initialized q.1 ∈ mTs := ⟨_, rfl, mm 1085 (by decide +kernel) (by decide +kernel), mm 1086 (by decide +kernel) (by decide +kernel), mm 10 (by decide +kernel) (by decide +kernel)⟩
set_option maxRecDepth 100000 in
theorem lkL_12 : mLI RL 12 kX12_init 0 := ⟨mkX12_init, ⟨rfl, rfl⟩, mm 1088 (by decide +kernel) (by decide +kernel), Or.inl (mm 1087 (by decide +kernel) (by decide +kernel))⟩
set_option maxRecDepth 100000 in
theorem lkL_13 : mLV RL 13 kX11_feed 11 5 := ⟨mkX11_feed, mm 351 (by decide +kernel) (by decide +kernel), mm 352 (by decide +kernel) (by decide +kernel), ⟨_, rfl, rfl⟩, Or.inl (mm 350 (by decide +kernel) (by decide +kernel))⟩
set_option maxRecDepth 100000 in
theorem lkL_17 : mLV RL 17 kX12_feed 12 5 := ⟨mkX12_feed, mm 1372 (by decide +kernel) (by decide +kernel), mm 1373 (by decide +kernel) (by decide +kernel), ⟨_, rfl, rfl⟩, Or.inl (mm 1371 (by decide +kernel) (by decide +kernel))⟩
set_option maxRecDepth 100000 in
theorem lkL_18 : mLV RL 18 kX11_coast 11 1 := ⟨mkX11_coast, mm 359 (by decide +kernel) (by decide +kernel), mm 360 (by decide +kernel) (by decide +kernel), ⟨_, rfl, rfl⟩, Or.inl (mm 358 (by decide +kernel) (by decide +kernel))⟩
set_option maxRecDepth 100000 in
theorem lkL_22 : mLV RL 22 kX12_coast 12 1 := ⟨mkX12_coast, mm 1291 (by decide +kernel) (by decide +kernel), mm 1292 (by decide +kernel) (by decide +kernel), ⟨_, rfl, rfl⟩, Or.inl (mm 1290 (by decide +kernel) (by decide +kernel))⟩
set_option maxRecDepth 100000 in
theorem lkL_23 : mLV RL 23 kX11_law 11 1 := ⟨mkX11_law, mm 457 (by decide +kernel) (by decide +kernel), mm 458 (by decide +kernel) (by decide +kernel), ⟨_, rfl, rfl⟩, Or.inl (mm 456 (by decide +kernel) (by decide +kernel))⟩
set_option maxRecDepth 100000 in
theorem lkL_26 : mLV RL 26 kX12_law 12 1 := ⟨mkX12_law, mm 1380 (by decide +kernel) (by decide +kernel), mm 1381 (by decide +kernel) (by decide +kernel), ⟨_, rfl, rfl⟩, Or.inl (mm 1379 (by decide +kernel) (by decide +kernel))⟩
set_option maxRecDepth 100000 in
theorem lkL_27 : mLV RL 27 kX11_push 11 3 := ⟨mkX11_push, mm 635 (by decide +kernel) (by decide +kernel), mm 636 (by decide +kernel) (by decide +kernel), ⟨_, rfl, rfl⟩, Or.inl (mm 634 (by decide +kernel) (by decide +kernel))⟩
set_option maxRecDepth 100000 in
theorem lkL_31 : mLV RL 31 kX12_push 12 3 := ⟨mkX12_push, mm 1320 (by decide +kernel) (by decide +kernel), mm 1321 (by decide +kernel) (by decide +kernel), ⟨_, rfl, rfl⟩, Or.inl (mm 1319 (by decide +kernel) (by decide +kernel))⟩
set_option maxRecDepth 100000 in
theorem lkL_32 : mLV RL 32 kX11_land 11 3 := ⟨mkX11_land, mm 652 (by decide +kernel) (by decide +kernel), mm 653 (by decide +kernel) (by decide +kernel), ⟨_, rfl, rfl⟩, Or.inl (mm 651 (by decide +kernel) (by decide +kernel))⟩
set_option maxRecDepth 100000 in
theorem lkL_35 : mLV RL 35 kX12_land 12 3 := ⟨mkX12_land, mm 1328 (by decide +kernel) (by decide +kernel), mm 1329 (by decide +kernel) (by decide +kernel), ⟨_, rfl, rfl⟩, Or.inl (mm 1327 (by decide +kernel) (by decide +kernel))⟩
set_option maxRecDepth 100000 in
theorem lkL_36 : mLV RL 36 kX11_facing 11 5 := ⟨mkX11_facing, mm 663 (by decide +kernel) (by decide +kernel), mm 664 (by decide +kernel) (by decide +kernel), ⟨_, rfl, rfl⟩, Or.inl (mm 662 (by decide +kernel) (by decide +kernel))⟩
set_option maxRecDepth 100000 in
theorem lkL_39 : mLV RL 39 kX12_facing 12 5 := ⟨mkX12_facing, mm 1339 (by decide +kernel) (by decide +kernel), mm 1340 (by decide +kernel) (by decide +kernel), ⟨_, rfl, rfl⟩, Or.inl (mm 1338 (by decide +kernel) (by decide +kernel))⟩
set_option maxRecDepth 100000 in
theorem lkL_40 : mLV RL 40 kX11_sounder 11 4 := ⟨mkX11_sounder, mm 683 (by decide +kernel) (by decide +kernel), mm 684 (by decide +kernel) (by decide +kernel), ⟨_, rfl, rfl⟩, Or.inl (mm 682 (by decide +kernel) (by decide +kernel))⟩
set_option maxRecDepth 100000 in
theorem lkL_44 : mLV RL 44 kX12_sounder 12 4 := ⟨mkX12_sounder, mm 1368 (by decide +kernel) (by decide +kernel), mm 1369 (by decide +kernel) (by decide +kernel), ⟨_, rfl, rfl⟩, Or.inl (mm 1367 (by decide +kernel) (by decide +kernel))⟩
set_option maxRecDepth 100000 in
theorem lkL_45 : mLV RL 45 kX11_level 11 6 := ⟨mkX11_level, mm 691 (by decide +kernel) (by decide +kernel), mm 692 (by decide +kernel) (by decide +kernel), ⟨_, rfl, rfl⟩, Or.inl (mm 690 (by decide +kernel) (by decide +kernel))⟩
set_option maxRecDepth 100000 in
theorem lkL_49 : mLV RL 49 kX12_level 12 6 := ⟨mkX12_level, mm 1463 (by decide +kernel) (by decide +kernel), mm 1464 (by decide +kernel) (by decide +kernel), ⟨_, rfl, rfl⟩, Or.inl (mm 1462 (by decide +kernel) (by decide +kernel))⟩
set_option maxRecDepth 100000 in
theorem lkL_50 : mLV RL 50 kX11_line 11 5 := ⟨mkX11_line, mm 734 (by decide +kernel) (by decide +kernel), mm 735 (by decide +kernel) (by decide +kernel), ⟨_, rfl, rfl⟩, Or.inl (mm 733 (by decide +kernel) (by decide +kernel))⟩
set_option maxRecDepth 100000 in
theorem lkL_53 : mLV RL 53 kX12_line 12 5 := ⟨mkX12_line, mm 1492 (by decide +kernel) (by decide +kernel), mm 1493 (by decide +kernel) (by decide +kernel), ⟨_, rfl, rfl⟩, Or.inl (mm 1491 (by decide +kernel) (by decide +kernel))⟩
set_option maxRecDepth 100000 in
theorem lkL_54 : mLV RL 54 kX11_hears 11 3 := ⟨mkX11_hears, mm 777 (by decide +kernel) (by decide +kernel), mm 778 (by decide +kernel) (by decide +kernel), ⟨_, rfl, rfl⟩, Or.inl (mm 776 (by decide +kernel) (by decide +kernel))⟩
set_option maxRecDepth 100000 in
theorem lkL_57 : mLV RL 57 kX12_hears 12 3 := ⟨mkX12_hears, mm 1496 (by decide +kernel) (by decide +kernel), mm 1497 (by decide +kernel) (by decide +kernel), ⟨_, rfl, rfl⟩, Or.inl (mm 1495 (by decide +kernel) (by decide +kernel))⟩
set_option maxRecDepth 100000 in
theorem lkL_58 : mLV RL 58 kX11_echo 11 2 := ⟨mkX11_echo, mm 829 (by decide +kernel) (by decide +kernel), mm 830 (by decide +kernel) (by decide +kernel), ⟨_, rfl, rfl⟩, Or.inl (mm 828 (by decide +kernel) (by decide +kernel))⟩
set_option maxRecDepth 100000 in
theorem lkL_62 : mLV RL 62 kX12_echo 12 2 := ⟨mkX12_echo, mm 1504 (by decide +kernel) (by decide +kernel), mm 1505 (by decide +kernel) (by decide +kernel), ⟨_, rfl, rfl⟩, Or.inl (mm 1503 (by decide +kernel) (by decide +kernel))⟩
set_option maxRecDepth 100000 in
theorem lkL_63 : mLV RL 63 kX11_back 11 0 := ⟨mkX11_back, mm 833 (by decide +kernel) (by decide +kernel), mm 834 (by decide +kernel) (by decide +kernel), ⟨_, rfl, rfl⟩, Or.inl (mm 832 (by decide +kernel) (by decide +kernel))⟩
set_option maxRecDepth 100000 in
theorem lkL_67 : mLV RL 67 kX12_back 12 0 := ⟨mkX12_back, mm 1508 (by decide +kernel) (by decide +kernel), mm 1509 (by decide +kernel) (by decide +kernel), ⟨_, rfl, rfl⟩, Or.inl (mm 1507 (by decide +kernel) (by decide +kernel))⟩
set_option maxRecDepth 100000 in
theorem lkL_68 : mLV RL 68 kX11_wrong 11 1 := ⟨mkX11_wrong, mm 842 (by decide +kernel) (by decide +kernel), mm 843 (by decide +kernel) (by decide +kernel), ⟨_, rfl, rfl⟩, Or.inl (mm 841 (by decide +kernel) (by decide +kernel))⟩
set_option maxRecDepth 100000 in
theorem lkL_72 : mLV RL 72 kX12_wrong 12 1 := ⟨mkX12_wrong, mm 1512 (by decide +kernel) (by decide +kernel), mm 1513 (by decide +kernel) (by decide +kernel), ⟨_, rfl, rfl⟩, Or.inl (mm 1511 (by decide +kernel) (by decide +kernel))⟩
set_option maxRecDepth 100000 in
theorem lkL_73 : mLV RL 73 kX11_box 11 4 := ⟨mkX11_box, mm 846 (by decide +kernel) (by decide +kernel), mm 847 (by decide +kernel) (by decide +kernel), ⟨_, rfl, rfl⟩, Or.inl (mm 845 (by decide +kernel) (by decide +kernel))⟩
set_option maxRecDepth 100000 in
theorem lkL_77 : mLV RL 77 kX12_box 12 4 := ⟨mkX12_box, mm 1516 (by decide +kernel) (by decide +kernel), mm 1517 (by decide +kernel) (by decide +kernel), ⟨_, rfl, rfl⟩, Or.inl (mm 1515 (by decide +kernel) (by decide +kernel))⟩
set_option maxRecDepth 100000 in
theorem lkL_78 : mLV RL 78 kX11_fits 11 1 := ⟨mkX11_fits, mm 851 (by decide +kernel) (by decide +kernel), mm 852 (by decide +kernel) (by decide +kernel), ⟨_, rfl, rfl⟩, Or.inl (mm 850 (by decide +kernel) (by decide +kernel))⟩
set_option maxRecDepth 100000 in
theorem lkL_81 : mLV RL 81 kX12_fits 12 1 := ⟨mkX12_fits, mm 1520 (by decide +kernel) (by decide +kernel), mm 1521 (by decide +kernel) (by decide +kernel), ⟨_, rfl, rfl⟩, Or.inl (mm 1519 (by decide +kernel) (by decide +kernel))⟩
set_option maxRecDepth 100000 in
theorem lkL_82 : mLV RL 82 kX11_firstBad 11 1 := ⟨mkX11_firstBad, mm 906 (by decide +kernel) (by decide +kernel), mm 907 (by decide +kernel) (by decide +kernel), ⟨_, rfl, rfl⟩, Or.inl (mm 905 (by decide +kernel) (by decide +kernel))⟩
set_option maxRecDepth 100000 in
theorem lkL_85 : mLV RL 85 kX12_firstBad 12 1 := ⟨mkX12_firstBad, mm 1563 (by decide +kernel) (by decide +kernel), mm 1564 (by decide +kernel) (by decide +kernel), ⟨_, rfl, rfl⟩, Or.inl (mm 1562 (by decide +kernel) (by decide +kernel))⟩
set_option maxRecDepth 100000 in
theorem lkL_86 : mLV RL 86 kX11_possible 11 2 := ⟨mkX11_possible, mm 910 (by decide +kernel) (by decide +kernel), mm 911 (by decide +kernel) (by decide +kernel), ⟨_, rfl, rfl⟩, Or.inl (mm 909 (by decide +kernel) (by decide +kernel))⟩
set_option maxRecDepth 100000 in
theorem lkL_89 : mLV RL 89 kX12_possible 12 2 := ⟨mkX12_possible, mm 1567 (by decide +kernel) (by decide +kernel), mm 1568 (by decide +kernel) (by decide +kernel), ⟨_, rfl, rfl⟩, Or.inl (mm 1566 (by decide +kernel) (by decide +kernel))⟩
set_option maxRecDepth 100000 in
theorem lkL_90 : mLV RL 90 kX11_isPossible 11 4 := ⟨mkX11_isPossible, mm 925 (by decide +kernel) (by decide +kernel), mm 926 (by decide +kernel) (by decide +kernel), ⟨_, rfl, rfl⟩, Or.inl (mm 924 (by decide +kernel) (by decide +kernel))⟩
set_option maxRecDepth 100000 in
theorem lkL_93 : mLV RL 93 kX12_isPossible 12 4 := ⟨mkX12_isPossible, mm 1591 (by decide +kernel) (by decide +kernel), mm 1592 (by decide +kernel) (by decide +kernel), ⟨_, rfl, rfl⟩, Or.inl (mm 1590 (by decide +kernel) (by decide +kernel))⟩
set_option maxRecDepth 100000 in
theorem lkL_94 : mLV RL 94 kX11_sure 11 3 := ⟨mkX11_sure, mm 929 (by decide +kernel) (by decide +kernel), mm 930 (by decide +kernel) (by decide +kernel), ⟨_, rfl, rfl⟩, Or.inl (mm 928 (by decide +kernel) (by decide +kernel))⟩
set_option maxRecDepth 100000 in
theorem lkL_97 : mLV RL 97 kX12_sure 12 3 := ⟨mkX12_sure, mm 1595 (by decide +kernel) (by decide +kernel), mm 1596 (by decide +kernel) (by decide +kernel), ⟨_, rfl, rfl⟩, Or.inl (mm 1594 (by decide +kernel) (by decide +kernel))⟩
set_option maxRecDepth 100000 in
theorem lkL_98 : mLV RL 98 kX11_choice 11 4 := ⟨mkX11_choice, mm 949 (by decide +kernel) (by decide +kernel), mm 950 (by decide +kernel) (by decide +kernel), ⟨_, rfl, rfl⟩, Or.inl (mm 948 (by decide +kernel) (by decide +kernel))⟩
set_option maxRecDepth 100000 in
theorem lkL_101 : mLV RL 101 kX12_choice 12 4 := ⟨mkX12_choice, mm 1607 (by decide +kernel) (by decide +kernel), mm 1608 (by decide +kernel) (by decide +kernel), ⟨_, rfl, rfl⟩, Or.inl (mm 1606 (by decide +kernel) (by decide +kernel))⟩
set_option maxRecDepth 100000 in
theorem lkL_102 : mLV RL 102 kX11_next 11 1 := ⟨mkX11_next, mm 957 (by decide +kernel) (by decide +kernel), mm 958 (by decide +kernel) (by decide +kernel), ⟨_, rfl, rfl⟩, Or.inl (mm 956 (by decide +kernel) (by decide +kernel))⟩
set_option maxRecDepth 100000 in
theorem lkL_105 : mLV RL 105 kX12_next 12 1 := ⟨mkX12_next, mm 1611 (by decide +kernel) (by decide +kernel), mm 1612 (by decide +kernel) (by decide +kernel), ⟨_, rfl, rfl⟩, Or.inl (mm 1610 (by decide +kernel) (by decide +kernel))⟩
set_option maxRecDepth 100000 in
theorem lkL_106 : mLV RL 106 kX11_ahead 11 1 := ⟨mkX11_ahead, mm 992 (by decide +kernel) (by decide +kernel), mm 993 (by decide +kernel) (by decide +kernel), ⟨_, rfl, rfl⟩, Or.inl (mm 991 (by decide +kernel) (by decide +kernel))⟩
set_option maxRecDepth 100000 in
theorem lkL_109 : mLV RL 109 kX12_ahead 12 1 := ⟨mkX12_ahead, mm 1647 (by decide +kernel) (by decide +kernel), mm 1648 (by decide +kernel) (by decide +kernel), ⟨_, rfl, rfl⟩, Or.inl (mm 1646 (by decide +kernel) (by decide +kernel))⟩
set_option maxRecDepth 100000 in
theorem lkL_110 : mLV RL 110 kX11_wayIn 11 5 := ⟨mkX11_wayIn, mm 1017 (by decide +kernel) (by decide +kernel), mm 1018 (by decide +kernel) (by decide +kernel), ⟨_, rfl, rfl⟩, Or.inl (mm 1016 (by decide +kernel) (by decide +kernel))⟩
set_option maxRecDepth 100000 in
theorem lkL_113 : mLV RL 113 kX12_wayIn 12 5 := ⟨mkX12_wayIn, mm 1663 (by decide +kernel) (by decide +kernel), mm 1664 (by decide +kernel) (by decide +kernel), ⟨_, rfl, rfl⟩, Or.inl (mm 1662 (by decide +kernel) (by decide +kernel))⟩
set_option maxRecDepth 100000 in
theorem lkL_114 : mLV RL 114 kX11_pool 11 3 := ⟨mkX11_pool, mm 1053 (by decide +kernel) (by decide +kernel), mm 1054 (by decide +kernel) (by decide +kernel), ⟨_, rfl, rfl⟩, Or.inl (mm 1052 (by decide +kernel) (by decide +kernel))⟩
set_option maxRecDepth 100000 in
theorem lkL_117 : mLV RL 117 kX12_pool 12 3 := ⟨mkX12_pool, mm 1691 (by decide +kernel) (by decide +kernel), mm 1692 (by decide +kernel) (by decide +kernel), ⟨_, rfl, rfl⟩, Or.inl (mm 1690 (by decide +kernel) (by decide +kernel))⟩
set_option maxRecDepth 100000 in
theorem lkL_118 : mLV RL 118 kX11_check 11 2 := ⟨mkX11_check, mm 1074 (by decide +kernel) (by decide +kernel), mm 1075 (by decide +kernel) (by decide +kernel), ⟨_, rfl, rfl⟩, Or.inl (mm 1073 (by decide +kernel) (by decide +kernel))⟩
set_option maxRecDepth 100000 in
theorem lkL_121 : mLV RL 121 kX12_check 12 2 := ⟨mkX12_check, mm 1699 (by decide +kernel) (by decide +kernel), mm 1700 (by decide +kernel) (by decide +kernel), ⟨_, rfl, rfl⟩, Or.inl (mm 1698 (by decide +kernel) (by decide +kernel))⟩
set_option maxRecDepth 100000 in
theorem lkL_122 : mLV RL 122 kX11_count 11 1 := ⟨mkX11_count, mm 1082 (by decide +kernel) (by decide +kernel), mm 1083 (by decide +kernel) (by decide +kernel), ⟨_, rfl, rfl⟩, Or.inl (mm 1081 (by decide +kernel) (by decide +kernel))⟩
set_option maxRecDepth 100000 in
theorem lkL_125 : mLV RL 125 kX12_count 12 1 := ⟨mkX12_count, mm 1711 (by decide +kernel) (by decide +kernel), mm 1712 (by decide +kernel) (by decide +kernel), ⟨_, rfl, rfl⟩, Or.inl (mm 1710 (by decide +kernel) (by decide +kernel))⟩
set_option maxRecDepth 100000 in
theorem cnJ6_265 : Cond.constant RJ6 265 (1431655765) ∈ mTs := mm 720 (by decide +kernel) (by decide +kernel)
set_option maxRecDepth 100000 in
theorem cnJ6_266 : Cond.constant RJ6 266 (858993459) ∈ mTs := mm 721 (by decide +kernel) (by decide +kernel)
set_option maxRecDepth 100000 in
theorem cnJ6_267 : Cond.constant RJ6 267 (252645135) ∈ mTs := mm 722 (by decide +kernel) (by decide +kernel)
set_option maxRecDepth 100000 in
theorem lkJ0_637 : mLS RJ0 637 kJ1_indexOf_4cfef 4 := ⟨mkJ1_indexOf_4cfef, mm 514 (by decide +kernel) (by decide +kernel), Or.inl (mm 513 (by decide +kernel) (by decide +kernel))⟩
set_option maxRecDepth 100000 in
theorem lkJ0_640 : mLS RJ0 640 kJ2_indexOf_4cfef 4 := ⟨mkJ2_indexOf_4cfef, mm 525 (by decide +kernel) (by decide +kernel), Or.inl (mm 524 (by decide +kernel) (by decide +kernel))⟩
set_option maxRecDepth 100000 in
theorem lkJ1_88 : mLS RJ1 88 kJ1_canEncode_9a6ad 1 := ⟨mkJ1_canEncode_9a6ad, mm 517 (by decide +kernel) (by decide +kernel), Or.inl (mm 516 (by decide +kernel) (by decide +kernel))⟩
set_option maxRecDepth 100000 in
theorem lkJ1_92 : mLS RJ1 92 kJ9_max_7cf53 2 := ⟨mkJ9_max_7cf53, mm 451 (by decide +kernel) (by decide +kernel), Or.inl (mm 519 (by decide +kernel) (by decide +kernel))⟩
set_option maxRecDepth 100000 in
theorem lkJ1_38 : mLS RJ1 38 kJ9_min_7cf53 2 := ⟨mkJ9_min_7cf53, mm 454 (by decide +kernel) (by decide +kernel), Or.inl (mm 520 (by decide +kernel) (by decide +kernel))⟩
set_option maxRecDepth 100000 in
theorem lkJ1_95 : mLS RJ1 95 kJ1_indexOfChar_4cfef 4 := ⟨mkJ1_indexOfChar_4cfef, mm 522 (by decide +kernel) (by decide +kernel), Or.inl (mm 521 (by decide +kernel) (by decide +kernel))⟩
