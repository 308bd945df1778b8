theorem ts_1 : ∀ w ∈ tables_1_1, w ∈ tables_1 := fun w h => List.mem_append_left _ h
theorem ts_2 : ∀ w ∈ tables_1_2, w ∈ tables_1 := fun w h => List.mem_append_right _ (List.mem_append_left _ h)
theorem ts_3 : ∀ w ∈ tables_1_3, w ∈ tables_1 := fun w h => List.mem_append_right _ (List.mem_append_right _ (List.mem_append_left _ h))
theorem ts_4 : ∀ w ∈ tables_1_4, w ∈ tables_1 := fun w h => List.mem_append_right _ (List.mem_append_right _ (List.mem_append_right _ (List.mem_append_left _ h)))
theorem ts_5 : ∀ w ∈ tables_1_5, w ∈ tables_1 := fun w h => List.mem_append_right _ (List.mem_append_right _ (List.mem_append_right _ (List.mem_append_right _ (List.mem_append_left _ h))))
theorem ts_6 : ∀ w ∈ tables_1_6, w ∈ tables_1 := fun w h => List.mem_append_right _ (List.mem_append_right _ (List.mem_append_right _ (List.mem_append_right _ (List.mem_append_right _ (h)))))
theorem tb_seg {w : Cond} (h : w ∈ tables_1) (hg : goodWord w = true) : w ∈ TBL := List.mem_filter.mpr ⟨List.mem_append_right _ h, hg⟩
set_option maxRecDepth 20000 in
theorem tb_0 : Cond.selects RX6 yX6_restart yX6_restart ∈ TBL := tb_in 0 (by decide +kernel) rfl
set_option maxRecDepth 20000 in
theorem tb_1 : Cond.selects RX5 yX5_add yX5_add ∈ TBL := tb_in 1 (by decide +kernel) rfl
set_option maxRecDepth 20000 in
theorem tb_2 : Cond.selects RX2 yX2_start yX2_start ∈ TBL := tb_in 2 (by decide +kernel) rfl
set_option maxRecDepth 20000 in
theorem tb_3 : Cond.selects RX2 yX2_readLine yX2_readLine ∈ TBL := tb_in 3 (by decide +kernel) rfl
set_option maxRecDepth 20000 in
theorem tb_4 : Cond.selects RX2 yX2_takeToken yX2_takeToken ∈ TBL := tb_in 4 (by decide +kernel) rfl
set_option maxRecDepth 20000 in
theorem tb_5 : Cond.selects RX5 yX5_readToken yX5_readToken ∈ TBL := tb_in 5 (by decide +kernel) rfl
set_option maxRecDepth 20000 in
theorem tb_6 : Cond.selects RX5 yX5_byteAt yX5_byteAt ∈ TBL := tb_in 6 (by decide +kernel) rfl
set_option maxRecDepth 20000 in
theorem tb_7 : Cond.selects RX2 yX2_refuse yX2_refuse ∈ TBL := tb_in 7 (by decide +kernel) rfl
set_option maxRecDepth 20000 in
theorem tb_8 : Cond.selects RX2 yX2_lineNamed yX2_lineNamed ∈ TBL := tb_in 8 (by decide +kernel) rfl
set_option maxRecDepth 20000 in
theorem tb_9 : Cond.selects RX5 yX5_isName yX5_isName ∈ TBL := tb_in 9 (by decide +kernel) rfl
set_option maxRecDepth 20000 in
theorem tb_10 : Cond.selects RX6 yX6_value yX6_value ∈ TBL := tb_in 10 (by decide +kernel) rfl
set_option maxRecDepth 20000 in
theorem tb_11 : Cond.selects RX2 yX2_readArm yX2_readArm ∈ TBL := tb_in 11 (by decide +kernel) rfl
set_option maxRecDepth 20000 in
theorem tb_12 : Cond.selects RX2 yX2_kindNamed yX2_kindNamed ∈ TBL := tb_in 12 (by decide +kernel) rfl
set_option maxRecDepth 20000 in
theorem tb_13 : Cond.selects RX2 yX2_takeNumber yX2_takeNumber ∈ TBL := tb_in 13 (by decide +kernel) rfl
set_option maxRecDepth 20000 in
theorem tb_14 : Cond.selects RX5 yX5_numberRead yX5_numberRead ∈ TBL := tb_in 14 (by decide +kernel) rfl
set_option maxRecDepth 20000 in
theorem tb_15 : Cond.selects RX6 yX6_armAt yX6_armAt ∈ TBL := tb_in 15 (by decide +kernel) rfl
set_option maxRecDepth 20000 in
theorem tb_16 : Cond.selects RX6 yX6_become yX6_become ∈ TBL := tb_in 16 (by decide +kernel) rfl
set_option maxRecDepth 20000 in
theorem tb_17 : Cond.selects RX2 yX2_takeSign yX2_takeSign ∈ TBL := tb_in 17 (by decide +kernel) rfl
set_option maxRecDepth 20000 in
theorem tb_18 : Cond.selects RX2 yX2_readMark yX2_readMark ∈ TBL := tb_in 18 (by decide +kernel) rfl
set_option maxRecDepth 20000 in
theorem tb_19 : Cond.selects RX6 yX6_markAt yX6_markAt ∈ TBL := tb_in 19 (by decide +kernel) rfl
set_option maxRecDepth 20000 in
theorem tb_20 : Cond.selects RX2 yX2_readTown yX2_readTown ∈ TBL := tb_in 20 (by decide +kernel) rfl
set_option maxRecDepth 20000 in
theorem tb_21 : Cond.selects RX2 yX2_readSignal yX2_readSignal ∈ TBL := tb_in 21 (by decide +kernel) rfl
set_option maxRecDepth 20000 in
theorem tb_22 : Cond.selects RX6 yX6_isSignalAt yX6_isSignalAt ∈ TBL := tb_in 22 (by decide +kernel) rfl
set_option maxRecDepth 20000 in
theorem tb_23 : Cond.selects RX2 yX2_readRule yX2_readRule ∈ TBL := tb_in 23 (by decide +kernel) rfl
set_option maxRecDepth 20000 in
theorem tb_24 : Cond.selects RX2 yX2_finish yX2_finish ∈ TBL := tb_in 24 (by decide +kernel) rfl
set_option maxRecDepth 20000 in
theorem tb_25 : Cond.selects RX2 yX2_isJointMissing yX2_isJointMissing ∈ TBL := tb_in 25 (by decide +kernel) rfl
set_option maxRecDepth 20000 in
theorem tb_26 : Cond.selects RX6 yX6_take yX6_take ∈ TBL := tb_in 26 (by decide +kernel) rfl
set_option maxRecDepth 20000 in
theorem tb_27 : Cond.selects RX7 yX7_isArm yX7_isArm ∈ TBL := tb_in 27 (by decide +kernel) rfl
set_option maxRecDepth 20000 in
theorem tb_28 : Cond.selects RX6 yX6_holdsOf yX6_holdsOf ∈ TBL := tb_in 28 (by decide +kernel) rfl
set_option maxRecDepth 20000 in
theorem tb_29 : Cond.selects RX7 yX7_isMark yX7_isMark ∈ TBL := tb_in 29 (by decide +kernel) rfl
set_option maxRecDepth 20000 in
theorem tb_30 : Cond.selects RX7 yX7_isTown yX7_isTown ∈ TBL := tb_in 30 (by decide +kernel) rfl
set_option maxRecDepth 20000 in
theorem tb_31 : Cond.selects RX7 yX7_isJoint yX7_isJoint ∈ TBL := tb_in 31 (by decide +kernel) rfl
set_option maxRecDepth 20000 in
theorem tb_32 : Cond.selects RX7 yX7_postedTo yX7_postedTo ∈ TBL := tb_in 32 (by decide +kernel) rfl
set_option maxRecDepth 20000 in
theorem tb_33 : Cond.selects RX7 yX7_areJoints yX7_areJoints ∈ TBL := tb_in 33 (by decide +kernel) rfl
set_option maxRecDepth 20000 in
theorem tb_34 : Cond.selects RX7 yX7_areMarks yX7_areMarks ∈ TBL := tb_in 34 (by decide +kernel) rfl
set_option maxRecDepth 20000 in
theorem tb_35 : Cond.selects RX1 yX1_go yX1_go ∈ TBL := tb_in 35 (by decide +kernel) rfl
set_option maxRecDepth 20000 in
theorem tb_36 : Cond.selects RX6 yX6_countBehind yX6_countBehind ∈ TBL := tb_in 36 (by decide +kernel) rfl
set_option maxRecDepth 20000 in
theorem tb_37 : Cond.selects RX1 yX1_meet yX1_meet ∈ TBL := tb_in 37 (by decide +kernel) rfl
set_option maxRecDepth 20000 in
theorem tb_38 : Cond.selects RX1 yX1_answer yX1_answer ∈ TBL := tb_in 38 (by decide +kernel) rfl
set_option maxRecDepth 20000 in
theorem tb_39 : Cond.selects RX0 yX0_weighByOdds yX0_weighByOdds ∈ TBL := tb_in 39 (by decide +kernel) rfl
set_option maxRecDepth 20000 in
theorem tb_40 : Cond.selects RX0 yX0_sumBehind yX0_sumBehind ∈ TBL := tb_in 40 (by decide +kernel) rfl
set_option maxRecDepth 20000 in
theorem tb_41 : Cond.selects RX0 yX0_passCounting yX0_passCounting ∈ TBL := tb_in 41 (by decide +kernel) rfl
set_option maxRecDepth 20000 in
theorem tb_42 : Cond.selects RX0 yX0_start yX0_start ∈ TBL := tb_in 42 (by decide +kernel) rfl
set_option maxRecDepth 20000 in
theorem tb_43 : Cond.selects RX0 yX0_passJoint yX0_passJoint ∈ TBL := tb_in 43 (by decide +kernel) rfl
set_option maxRecDepth 20000 in
theorem tb_44 : Cond.selects RX0 yX0_ofCount yX0_ofCount ∈ TBL := tb_in 44 (by decide +kernel) rfl
set_option maxRecDepth 20000 in
theorem tb_45 : Cond.selects RX0 yX0_whole yX0_whole ∈ TBL := tb_in 45 (by decide +kernel) rfl
set_option maxRecDepth 20000 in
theorem tb_46 : Cond.selects RX7 yX7_passByOdds yX7_passByOdds ∈ TBL := tb_in 46 (by decide +kernel) rfl
set_option maxRecDepth 20000 in
theorem tb_47 : Cond.selects RX0 yX0_passWithNet yX0_passWithNet ∈ TBL := tb_in 47 (by decide +kernel) rfl
set_option maxRecDepth 20000 in
theorem tb_48 : Cond.selects RX0 yX0_takeIn yX0_takeIn ∈ TBL := tb_in 48 (by decide +kernel) rfl
set_option maxRecDepth 20000 in
theorem tb_49 : Cond.selects RX0 yX0_putOut yX0_putOut ∈ TBL := tb_in 49 (by decide +kernel) rfl
set_option maxRecDepth 20000 in
theorem tb_50 : Cond.selects RX7 yX7_metBy yX7_metBy ∈ TBL := tb_in 50 (by decide +kernel) rfl
set_option maxRecDepth 20000 in
theorem tb_51 : Cond.selects RX7 yX7_hitByOdds yX7_hitByOdds ∈ TBL := tb_in 51 (by decide +kernel) rfl
set_option maxRecDepth 20000 in
theorem tb_52 : Cond.selects RX7 yX7_tornByOdds yX7_tornByOdds ∈ TBL := tb_in 52 (by decide +kernel) rfl
set_option maxRecDepth 20000 in
theorem tb_53 : Cond.selects RX7 yX7_worthByOdds yX7_worthByOdds ∈ TBL := tb_in 53 (by decide +kernel) rfl
set_option maxRecDepth 20000 in
theorem tb_54 : Cond.selects RX7 yX7_isHadBy yX7_isHadBy ∈ TBL := tb_in 54 (by decide +kernel) rfl
set_option maxRecDepth 20000 in
theorem tb_55 : Cond.selects RX6 yX6_lettersWorth yX6_lettersWorth ∈ TBL := tb_in 55 (by decide +kernel) rfl
set_option maxRecDepth 20000 in
theorem tb_56 : Cond.selects RX6 yX6_minutesOf yX6_minutesOf ∈ TBL := tb_in 56 (by decide +kernel) rfl
set_option maxRecDepth 20000 in
theorem tb_57 : Cond.selects RX7 yX7_areTowns yX7_areTowns ∈ TBL := tb_in 57 (by decide +kernel) rfl
set_option maxRecDepth 20000 in
theorem tb_58 : Cond.selects RX3 yX3_add yX3_add ∈ TBL := tb_in 58 (by decide +kernel) rfl
set_option maxRecDepth 20000 in
theorem tb_59 : Cond.selects RX0 yX0_weighAlike yX0_weighAlike ∈ TBL := tb_in 59 (by decide +kernel) rfl
set_option maxRecDepth 20000 in
theorem tb_60 : Cond.selects RX0 yX0_passAsSeen yX0_passAsSeen ∈ TBL := tb_in 60 (by decide +kernel) rfl
set_option maxRecDepth 20000 in
theorem tb_61 : Cond.selects RX3 yX3_leaveIn yX3_leaveIn ∈ TBL := tb_in 61 (by decide +kernel) rfl
set_option maxRecDepth 20000 in
theorem tb_62 : Cond.selects RX7 yX7_jointsMissed yX7_jointsMissed ∈ TBL := tb_in 62 (by decide +kernel) rfl
set_option maxRecDepth 20000 in
theorem tb_63 : Cond.selects RX0 yX0_forceMiss yX0_forceMiss ∈ TBL := tb_in 63 (by decide +kernel) rfl
set_option maxRecDepth 20000 in
theorem tb_64 : Cond.selects RX7 yX7_marksNoticed yX7_marksNoticed ∈ TBL := tb_in 64 (by decide +kernel) rfl
set_option maxRecDepth 20000 in
theorem tb_65 : Cond.selects RX0 yX0_forceNotice yX0_forceNotice ∈ TBL := tb_in 65 (by decide +kernel) rfl
set_option maxRecDepth 20000 in
theorem tb_66 : Cond.selects RX7 yX7_imageOf yX7_imageOf ∈ TBL := tb_in 66 (by decide +kernel) rfl
set_option maxRecDepth 20000 in
theorem tb_67 : Cond.selects RX4 yX4_renew yX4_renew ∈ TBL := tb_in 67 (by decide +kernel) rfl
set_option maxRecDepth 20000 in
theorem tb_68 : Cond.selects RX4 yX4_faultOfCell yX4_faultOfCell ∈ TBL := tb_in 68 (by decide +kernel) rfl
set_option maxRecDepth 20000 in
theorem tb_69 : Cond.selects RX4 yX4_write yX4_write ∈ TBL := tb_in 69 (by decide +kernel) rfl
set_option maxRecDepth 20000 in
theorem tb_70 : Cond.selects RX4 yX4_faultOfLane yX4_faultOfLane ∈ TBL := tb_in 70 (by decide +kernel) rfl
set_option maxRecDepth 20000 in
theorem tb_71 : Cond.selects RX4 yX4_faultOfPair yX4_faultOfPair ∈ TBL := tb_in 71 (by decide +kernel) rfl
set_option maxRecDepth 20000 in
theorem tb_72 : Cond.selects RX4 yX4_cell yX4_cell ∈ TBL := tb_in 72 (by decide +kernel) rfl
set_option maxRecDepth 20000 in
theorem tb_73 : Cond.selects RX4 yX4_cellsOf yX4_cellsOf ∈ TBL := tb_in 73 (by decide +kernel) rfl
set_option maxRecDepth 20000 in
theorem tb_74 : Cond.selects RX6 yX6_allLetters yX6_allLetters ∈ TBL := tb_in 74 (by decide +kernel) rfl
set_option maxRecDepth 20000 in
theorem tb_75 : Cond.selects RX8 yX8_begins yX8_begins ∈ TBL := tb_in 75 (by decide +kernel) rfl
set_option maxRecDepth 20000 in
theorem tb_76 : Cond.selects RX8 yX8_step yX8_step ∈ TBL := tb_in 76 (by decide +kernel) rfl
set_option maxRecDepth 20000 in
theorem tb_77 : Cond.selects RX8 yX8_byteAt yX8_byteAt ∈ TBL := tb_in 77 (by decide +kernel) rfl
set_option maxRecDepth 20000 in
theorem tb_78 : Cond.selects RX8 yX8_fails yX8_fails ∈ TBL := tb_in 78 (by decide +kernel) rfl
set_option maxRecDepth 20000 in
theorem tb_79 : Cond.selects RX8 yX8_readLine yX8_readLine ∈ TBL := tb_in 79 (by decide +kernel) rfl
set_option maxRecDepth 20000 in
theorem tb_80 : Cond.selects RX8 yX8_nameHere yX8_nameHere ∈ TBL := tb_in 80 (by decide +kernel) rfl
set_option maxRecDepth 20000 in
theorem tb_81 : Cond.selects RX8 yX8_readOnce yX8_readOnce ∈ TBL := tb_in 81 (by decide +kernel) rfl
set_option maxRecDepth 20000 in
theorem tb_82 : Cond.selects RX8 yX8_number yX8_number ∈ TBL := tb_in 82 (by decide +kernel) rfl
set_option maxRecDepth 20000 in
theorem tb_83 : Cond.selects RX8 yX8_jointHere yX8_jointHere ∈ TBL := tb_in 83 (by decide +kernel) rfl
set_option maxRecDepth 20000 in
theorem tb_84 : Cond.selects RX8 yX8_readMore yX8_readMore ∈ TBL := tb_in 84 (by decide +kernel) rfl
set_option maxRecDepth 20000 in
theorem tb_85 : Cond.selects RX8 yX8_slip yX8_slip ∈ TBL := tb_in 85 (by decide +kernel) rfl
set_option maxRecDepth 20000 in
theorem tb_86 : Cond.selects RX8 yX8_pace yX8_pace ∈ TBL := tb_in 86 (by decide +kernel) rfl
set_option maxRecDepth 20000 in
theorem tb_87 : Cond.selects RX8 yX8_handMany yX8_handMany ∈ TBL := tb_in 87 (by decide +kernel) rfl
set_option maxRecDepth 20000 in
theorem tb_88 : Cond.selects RX8 yX8_isArm yX8_isArm ∈ TBL := tb_in 88 (by decide +kernel) rfl
set_option maxRecDepth 20000 in
theorem tb_89 : Cond.selects RX8 yX8_holdsOf yX8_holdsOf ∈ TBL := tb_in 89 (by decide +kernel) rfl
set_option maxRecDepth 20000 in
theorem tb_90 : Cond.selects RX8 yX8_lays yX8_lays ∈ TBL := tb_in 90 (by decide +kernel) rfl
set_option maxRecDepth 20000 in
theorem tb_91 : Cond.selects RX8 yX8_isJoint yX8_isJoint ∈ TBL := tb_in 91 (by decide +kernel) rfl
set_option maxRecDepth 20000 in
theorem tb_92 : Cond.selects RX8 yX8_posts yX8_posts ∈ TBL := tb_in 92 (by decide +kernel) rfl
set_option maxRecDepth 20000 in
theorem tb_93 : Cond.selects RX8 yX8_areSets yX8_areSets ∈ TBL := tb_in 93 (by decide +kernel) rfl
set_option maxRecDepth 20000 in
theorem tb_94 : Cond.selects RX8 yX8_nights yX8_nights ∈ TBL := tb_in 94 (by decide +kernel) rfl
set_option maxRecDepth 20000 in
theorem tb_95 : Cond.selects RX8 yX8_counted yX8_counted ∈ TBL := tb_in 95 (by decide +kernel) rfl
set_option maxRecDepth 20000 in
theorem tb_96 : Cond.selects RX8 yX8_nightTold yX8_nightTold ∈ TBL := tb_in 96 (by decide +kernel) rfl
set_option maxRecDepth 20000 in
theorem tb_97 : Cond.selects RX8 yX8_countAt yX8_countAt ∈ TBL := tb_in 97 (by decide +kernel) rfl
set_option maxRecDepth 20000 in
theorem tb_98 : Cond.selects RX8 yX8_meanOf yX8_meanOf ∈ TBL := tb_in 98 (by decide +kernel) rfl
set_option maxRecDepth 20000 in
theorem tb_99 : Cond.selects RX8 yX8_sumOf yX8_sumOf ∈ TBL := tb_in 99 (by decide +kernel) rfl
set_option maxRecDepth 20000 in
theorem tb_100 : Cond.selects RX8 yX8_weightOf yX8_weightOf ∈ TBL := tb_in 100 (by decide +kernel) rfl
set_option maxRecDepth 20000 in
theorem tb_101 : Cond.selects RX8 yX8_valueOf yX8_valueOf ∈ TBL := tb_in 101 (by decide +kernel) rfl
set_option maxRecDepth 20000 in
theorem tb_102 : Cond.selects RX8 yX8_worthNow yX8_worthNow ∈ TBL := tb_in 102 (by decide +kernel) rfl
set_option maxRecDepth 20000 in
theorem tb_103 : Cond.selects RX8 yX8_isAsSeen yX8_isAsSeen ∈ TBL := tb_in 103 (by decide +kernel) rfl
set_option maxRecDepth 20000 in
theorem tb_104 : Cond.selects RX8 yX8_allWeight yX8_allWeight ∈ TBL := tb_in 104 (by decide +kernel) rfl
set_option maxRecDepth 20000 in
theorem tb_105 : Cond.selects RX8 yX8_copies yX8_copies ∈ TBL := tb_in 105 (by decide +kernel) rfl
set_option maxRecDepth 20000 in
theorem tb_106 : Cond.selects RX8 yX8_isHad yX8_isHad ∈ TBL := tb_in 106 (by decide +kernel) rfl
set_option maxRecDepth 20000 in
theorem tb_107 : Cond.selects RX8 yX8_minutesBy yX8_minutesBy ∈ TBL := tb_in 107 (by decide +kernel) rfl
set_option maxRecDepth 20000 in
theorem tb_109 : Cond.initialized RX7 ∈ TBL := tb_seg (ts_1 _ (List.mem_of_getElem? (i := 1) rfl)) rfl
set_option maxRecDepth 20000 in
theorem tb_110 : Cond.initialized RX6 ∈ TBL := tb_seg (ts_1 _ (List.mem_of_getElem? (i := 2) rfl)) rfl
set_option maxRecDepth 20000 in
theorem tb_111 : Cond.initialized "java/lang/System" ∈ TBL := tb_seg (ts_1 _ (List.mem_of_getElem? (i := 3) rfl)) rfl
set_option maxRecDepth 20000 in
theorem tb_112 : Cond.initialized RX2 ∈ TBL := tb_seg (ts_1 _ (List.mem_of_getElem? (i := 4) rfl)) rfl
set_option maxRecDepth 20000 in
theorem tb_113 : Cond.initialized RX5 ∈ TBL := tb_seg (ts_1 _ (List.mem_of_getElem? (i := 5) rfl)) rfl
set_option maxRecDepth 20000 in
theorem tb_114 : Cond.initialized RX1 ∈ TBL := tb_seg (ts_1 _ (List.mem_of_getElem? (i := 6) rfl)) rfl
set_option maxRecDepth 20000 in
theorem tb_115 : Cond.initialized RX0 ∈ TBL := tb_seg (ts_1 _ (List.mem_of_getElem? (i := 7) rfl)) rfl
set_option maxRecDepth 20000 in
theorem tb_116 : Cond.initialized RX3 ∈ TBL := tb_seg (ts_1 _ (List.mem_of_getElem? (i := 8) rfl)) rfl
set_option maxRecDepth 20000 in
theorem tb_117 : Cond.initialized RX4 ∈ TBL := tb_seg (ts_1 _ (List.mem_of_getElem? (i := 9) rfl)) rfl
set_option maxRecDepth 20000 in
theorem tb_118 : Cond.initialized RX8 ∈ TBL := tb_seg (ts_1 _ (List.mem_of_getElem? (i := 10) rfl)) rfl
set_option maxRecDepth 20000 in
theorem tb_119 : Cond.initialized RJ0 ∈ TBL := tb_seg (ts_1 _ (List.mem_of_getElem? (i := 11) rfl)) rfl
set_option maxRecDepth 20000 in
theorem tb_120 : Cond.initialized RJ1 ∈ TBL := tb_seg (ts_1 _ (List.mem_of_getElem? (i := 12) rfl)) rfl
set_option maxRecDepth 20000 in
theorem tb_121 : Cond.initialized RJ3 ∈ TBL := tb_seg (ts_1 _ (List.mem_of_getElem? (i := 13) rfl)) rfl
set_option maxRecDepth 20000 in
theorem tb_123 : Cond.initialized "java/lang/Math" ∈ TBL := tb_seg (ts_1 _ (List.mem_of_getElem? (i := 15) rfl)) rfl
set_option maxRecDepth 20000 in
theorem tb_124 : Cond.initialized RJ7 ∈ TBL := tb_seg (ts_1 _ (List.mem_of_getElem? (i := 16) rfl)) rfl
set_option maxRecDepth 20000 in
theorem tb_125 : Cond.initialized RJ6 ∈ TBL := tb_seg (ts_1 _ (List.mem_of_getElem? (i := 17) rfl)) rfl
set_option maxRecDepth 20000 in
theorem tb_142 : Cond.instanceMethod yX6_restart ∈ TBL := tb_seg (ts_1 _ (List.mem_of_getElem? (i := 34) rfl)) rfl
set_option maxRecDepth 20000 in
theorem tb_143 : Cond.code yX6_restart cX6_restart 1 none ∈ TBL := tb_seg (ts_1 _ (List.mem_of_getElem? (i := 35) rfl)) rfl
set_option maxRecDepth 20000 in
theorem tb_146 : Cond.methodLink RX6 42 arraycopyName ∈ TBL := tb_seg (ts_1 _ (List.mem_of_getElem? (i := 38) rfl)) rfl
set_option maxRecDepth 20000 in
theorem tb_147 : Cond.static arraycopyName ∈ TBL := tb_seg (ts_1 _ (List.mem_of_getElem? (i := 39) rfl)) rfl
set_option maxRecDepth 20000 in
theorem tb_148 : Cond.native arraycopyName ∈ TBL := tb_seg (ts_1 _ (List.mem_of_getElem? (i := 40) rfl)) rfl
set_option maxRecDepth 20000 in
theorem tb_149 : Cond.fieldLink RX6 9 RX6 "rules" "[I" ∈ TBL := tb_seg (ts_1 _ (List.mem_of_getElem? (i := 41) rfl)) rfl
set_option maxRecDepth 20000 in
theorem tb_150 : Cond.fieldLink RX6 15 RX6 "armKind" "[I" ∈ TBL := tb_seg (ts_1 _ (List.mem_of_getElem? (i := 42) rfl)) rfl
set_option maxRecDepth 20000 in
theorem tb_153 : Cond.fieldLink RX6 18 RX6 "armJoint" "[I" ∈ TBL := tb_seg (ts_1 _ (List.mem_of_getElem? (i := 45) rfl)) rfl
set_option maxRecDepth 20000 in
theorem tb_156 : Cond.fieldLink RX6 21 RX6 "armWorth" "[I" ∈ TBL := tb_seg (ts_1 _ (List.mem_of_getElem? (i := 48) rfl)) rfl
set_option maxRecDepth 20000 in
theorem tb_159 : Cond.fieldLink RX6 24 RX6 "markJoint" "[I" ∈ TBL := tb_seg (ts_1 _ (List.mem_of_getElem? (i := 51) rfl)) rfl
set_option maxRecDepth 20000 in
theorem tb_162 : Cond.fieldLink RX6 27 RX6 "markClear" "[I" ∈ TBL := tb_seg (ts_1 _ (List.mem_of_getElem? (i := 54) rfl)) rfl
set_option maxRecDepth 20000 in
theorem tb_166 : Cond.fieldLink RX6 30 RX6 "townLetters" "[I" ∈ TBL := tb_seg (ts_1 _ (List.mem_of_getElem? (i := 58) rfl)) rfl
set_option maxRecDepth 20000 in
theorem tb_169 : Cond.fieldLink RX6 33 RX6 "townWorth" "[I" ∈ TBL := tb_seg (ts_1 _ (List.mem_of_getElem? (i := 61) rfl)) rfl
set_option maxRecDepth 20000 in
theorem tb_202 : Cond.fieldLink RX5 9 RX5 "bytes" "[B" ∈ TBL := tb_seg (ts_1 _ (List.mem_of_getElem? (i := 94) rfl)) rfl
set_option maxRecDepth 20000 in
theorem tb_203 : Cond.fieldLink RX5 15 RX5 "length" "I" ∈ TBL := tb_seg (ts_1 _ (List.mem_of_getElem? (i := 95) rfl)) rfl
set_option maxRecDepth 20000 in
theorem tb_207 : Cond.fieldLink RX5 19 RX5 "next" "I" ∈ TBL := tb_seg (ts_1 _ (List.mem_of_getElem? (i := 99) rfl)) rfl
set_option maxRecDepth 20000 in
theorem tb_209 : Cond.fieldLink RX5 32 RX5 "kind" "I" ∈ TBL := tb_seg (ts_1 _ (List.mem_of_getElem? (i := 101) rfl)) rfl
set_option maxRecDepth 20000 in
theorem tb_210 : Cond.fieldLink RX5 26 RX5 "place" "I" ∈ TBL := tb_seg (ts_1 _ (List.mem_of_getElem? (i := 102) rfl)) rfl
set_option maxRecDepth 20000 in
theorem tb_226 : Cond.fieldLink RX2 12 RX2 "from" "LMailCatch$Tape;" ∈ TBL := tb_seg (ts_1 _ (List.mem_of_getElem? (i := 118) rfl)) rfl
set_option maxRecDepth 20000 in
theorem tb_228 : Cond.fieldLink RX2 21 RX2 "draft" "LMailCatch$Told;" ∈ TBL := tb_seg (ts_1 _ (List.mem_of_getElem? (i := 120) rfl)) rfl
set_option maxRecDepth 20000 in
theorem tb_230 : Cond.fieldLink RX2 32 RX2 "toldLines" "I" ∈ TBL := tb_seg (ts_1 _ (List.mem_of_getElem? (i := 122) rfl)) rfl
set_option maxRecDepth 20000 in
theorem tb_231 : Cond.fieldLink RX2 35 RX2 "fault" "I" ∈ TBL := tb_seg (ts_1 _ (List.mem_of_getElem? (i := 123) rfl)) rfl
set_option maxRecDepth 20000 in
theorem tb_233 : Cond.fieldLink RX2 45 RX2 "faultPlace" "I" ∈ TBL := tb_seg (ts_1 _ (List.mem_of_getElem? (i := 125) rfl)) rfl
set_option maxRecDepth 20000 in
theorem tb_252 : Cond.fieldLink RX1 9 RX1 "wentOut" "I" ∈ TBL := tb_seg (ts_1 _ (List.mem_of_getElem? (i := 144) rfl)) rfl
set_option maxRecDepth 20000 in
theorem tb_253 : Cond.fieldLink RX1 15 RX1 "wentIn" "I" ∈ TBL := tb_seg (ts_1 _ (List.mem_of_getElem? (i := 145) rfl)) rfl
set_option maxRecDepth 20000 in
theorem tb_254 : Cond.fieldLink RX1 18 RX1 "met" "I" ∈ TBL := tb_seg (ts_1 _ (List.mem_of_getElem? (i := 146) rfl)) rfl
set_option maxRecDepth 20000 in
theorem tb_255 : Cond.fieldLink RX1 21 RX1 "hit" "I" ∈ TBL := tb_seg (ts_1 _ (List.mem_of_getElem? (i := 147) rfl)) rfl
set_option maxRecDepth 20000 in
theorem tb_256 : Cond.fieldLink RX1 24 RX1 "torn" "I" ∈ TBL := tb_seg (ts_1 _ (List.mem_of_getElem? (i := 148) rfl)) rfl
set_option maxRecDepth 20000 in
theorem tb_257 : Cond.fieldLink RX1 27 RX1 "counted" "I" ∈ TBL := tb_seg (ts_1 _ (List.mem_of_getElem? (i := 149) rfl)) rfl
set_option maxRecDepth 20000 in
theorem tb_277 : Cond.fieldLink RX0 51 RX0 "joints" "I" ∈ TBL := tb_seg (ts_1 _ (List.mem_of_getElem? (i := 169) rfl)) rfl
set_option maxRecDepth 20000 in
theorem tb_278 : Cond.fieldLink RX0 11 RX0 "missing" "[J" ∈ TBL := tb_seg (ts_1 _ (List.mem_of_getElem? (i := 170) rfl)) rfl
set_option maxRecDepth 20000 in
theorem tb_279 : Cond.fieldLink RX0 15 RX0 "hearing" "[J" ∈ TBL := tb_seg (ts_1 _ (List.mem_of_getElem? (i := 171) rfl)) rfl
set_option maxRecDepth 20000 in
theorem tb_280 : Cond.fieldLink RX0 18 RX0 "noticing" "[J" ∈ TBL := tb_seg (ts_1 _ (List.mem_of_getElem? (i := 172) rfl)) rfl
set_option maxRecDepth 20000 in
theorem tb_281 : Cond.fieldLink RX0 21 RX0 "overlooking" "[J" ∈ TBL := tb_seg (ts_1 _ (List.mem_of_getElem? (i := 173) rfl)) rfl
set_option maxRecDepth 20000 in
theorem tb_282 : Cond.fieldLink RX0 24 RX0 "behind" "[J" ∈ TBL := tb_seg (ts_1 _ (List.mem_of_getElem? (i := 174) rfl)) rfl
set_option maxRecDepth 20000 in
theorem tb_283 : Cond.fieldLink RX0 27 RX0 "waiting" "[J" ∈ TBL := tb_seg (ts_1 _ (List.mem_of_getElem? (i := 175) rfl)) rfl
set_option maxRecDepth 20000 in
theorem tb_284 : Cond.fieldLink RX0 30 RX0 "hanging" "[J" ∈ TBL := tb_seg (ts_1 _ (List.mem_of_getElem? (i := 176) rfl)) rfl
set_option maxRecDepth 20000 in
theorem tb_285 : Cond.fieldLink RX0 33 RX0 "goesAt" "[J" ∈ TBL := tb_seg (ts_1 _ (List.mem_of_getElem? (i := 177) rfl)) rfl
set_option maxRecDepth 20000 in
theorem tb_287 : Cond.fieldLink RX0 36 RX0 "outAt" "[J" ∈ TBL := tb_seg (ts_1 _ (List.mem_of_getElem? (i := 179) rfl)) rfl
set_option maxRecDepth 20000 in
theorem tb_317 : Cond.fieldLink RX3 9 RX3 "joint" "[I" ∈ TBL := tb_seg (ts_1 _ (List.mem_of_getElem? (i := 209) rfl)) rfl
set_option maxRecDepth 20000 in
theorem tb_318 : Cond.fieldLink RX3 15 RX3 "counted" "[I" ∈ TBL := tb_seg (ts_1 _ (List.mem_of_getElem? (i := 210) rfl)) rfl
set_option maxRecDepth 20000 in
theorem tb_319 : Cond.fieldLink RX3 18 RX3 "has" "I" ∈ TBL := tb_seg (ts_1 _ (List.mem_of_getElem? (i := 211) rfl)) rfl
set_option maxRecDepth 20000 in
theorem tb_334 : Cond.fieldLink RX4 9 RX4 "made" "[I" ∈ TBL := tb_seg (ts_1 _ (List.mem_of_getElem? (i := 226) rfl)) rfl
set_option maxRecDepth 20000 in
theorem tb_335 : Cond.fieldLink RX4 15 RX4 "lanes" "[I" ∈ TBL := tb_seg (ts_1 _ (List.mem_of_getElem? (i := 227) rfl)) rfl
set_option maxRecDepth 20000 in
theorem tb_336 : Cond.fieldLink RX4 18 RX4 "sizes" "[I" ∈ TBL := tb_seg (ts_1 _ (List.mem_of_getElem? (i := 228) rfl)) rfl
set_option maxRecDepth 20000 in
theorem tb_337 : Cond.fieldLink RX4 21 RX4 "cells" "[I" ∈ TBL := tb_seg (ts_1 _ (List.mem_of_getElem? (i := 229) rfl)) rfl
set_option maxRecDepth 20000 in
theorem tb_347 : Cond.fieldLink RX7 10 RX7 "now" "LMailCatch$Told;" ∈ TBL := tb_seg (ts_1 _ (List.mem_of_getElem? (i := 239) rfl)) rfl
set_option maxRecDepth 20000 in
theorem tb_348 : Cond.fieldLink RX7 16 RX7 "firstImage" "LMailCatch$Told;" ∈ TBL := tb_seg (ts_2 _ (List.mem_of_getElem? (i := 0) rfl)) rfl
set_option maxRecDepth 20000 in
theorem tb_349 : Cond.fieldLink RX7 19 RX7 "secondImage" "LMailCatch$Told;" ∈ TBL := tb_seg (ts_2 _ (List.mem_of_getElem? (i := 1) rfl)) rfl
set_option maxRecDepth 20000 in
theorem tb_350 : Cond.fieldLink RX7 107 RX7 "images" "I" ∈ TBL := tb_seg (ts_2 _ (List.mem_of_getElem? (i := 2) rfl)) rfl
set_option maxRecDepth 20000 in
theorem tb_351 : Cond.fieldLink RX7 25 RX7 "reader" "LMailCatch$Reader;" ∈ TBL := tb_seg (ts_2 _ (List.mem_of_getElem? (i := 3) rfl)) rfl
set_option maxRecDepth 20000 in
theorem tb_352 : Cond.fieldLink RX7 33 RX7 "tape" "LMailCatch$Tape;" ∈ TBL := tb_seg (ts_2 _ (List.mem_of_getElem? (i := 4) rfl)) rfl
set_option maxRecDepth 20000 in
theorem tb_353 : Cond.fieldLink RX7 91 RX7 "textFault" "I" ∈ TBL := tb_seg (ts_2 _ (List.mem_of_getElem? (i := 5) rfl)) rfl
set_option maxRecDepth 20000 in
theorem tb_354 : Cond.fieldLink RX7 39 RX7 "passage" "LMailCatch$Passage;" ∈ TBL := tb_seg (ts_2 _ (List.mem_of_getElem? (i := 6) rfl)) rfl
set_option maxRecDepth 20000 in
theorem tb_355 : Cond.fieldLink RX7 46 RX7 "odds" "LMailCatch$Odds;" ∈ TBL := tb_seg (ts_2 _ (List.mem_of_getElem? (i := 7) rfl)) rfl
set_option maxRecDepth 20000 in
theorem tb_356 : Cond.fieldLink RX7 53 RX7 "seen" "LMailCatch$Seen;" ∈ TBL := tb_seg (ts_2 _ (List.mem_of_getElem? (i := 8) rfl)) rfl
set_option maxRecDepth 20000 in
theorem tb_357 : Cond.fieldLink RX7 60 RX7 "sheets" "LMailCatch$Sheets;" ∈ TBL := tb_seg (ts_2 _ (List.mem_of_getElem? (i := 9) rfl)) rfl
set_option maxRecDepth 20000 in
theorem tb_358 : Cond.fieldLink RX7 64 RX7 "lettersAhead" "[I" ∈ TBL := tb_seg (ts_2 _ (List.mem_of_getElem? (i := 10) rfl)) rfl
set_option maxRecDepth 20000 in
theorem tb_359 : Cond.fieldLink RX7 325 RX7 "readFault" "I" ∈ TBL := tb_seg (ts_2 _ (List.mem_of_getElem? (i := 11) rfl)) rfl
set_option maxRecDepth 20000 in
theorem tb_393 : Cond.instanceMethod yX5_add ∈ TBL := tb_seg (ts_2 _ (List.mem_of_getElem? (i := 45) rfl)) rfl
set_option maxRecDepth 20000 in
theorem tb_394 : Cond.code yX5_add cX5_add 2 (some .boolean) ∈ TBL := tb_seg (ts_2 _ (List.mem_of_getElem? (i := 46) rfl)) rfl
set_option maxRecDepth 20000 in
theorem tb_405 : Cond.instanceMethod yX2_start ∈ TBL := tb_seg (ts_2 _ (List.mem_of_getElem? (i := 57) rfl)) rfl
set_option maxRecDepth 20000 in
theorem tb_406 : Cond.code yX2_start cX2_start 1 none ∈ TBL := tb_seg (ts_2 _ (List.mem_of_getElem? (i := 58) rfl)) rfl
set_option maxRecDepth 20000 in
theorem tb_410 : Cond.instanceMethod yX2_readLine ∈ TBL := tb_seg (ts_2 _ (List.mem_of_getElem? (i := 62) rfl)) rfl
set_option maxRecDepth 20000 in
theorem tb_411 : Cond.code yX2_readLine cX2_readLine 2 (some .boolean) ∈ TBL := tb_seg (ts_2 _ (List.mem_of_getElem? (i := 63) rfl)) rfl
set_option maxRecDepth 20000 in
theorem tb_412 : Cond.methodLink RX2 48 yX2_takeToken ∈ TBL := tb_seg (ts_2 _ (List.mem_of_getElem? (i := 64) rfl)) rfl
set_option maxRecDepth 20000 in
theorem tb_414 : Cond.instanceMethod yX2_takeToken ∈ TBL := tb_seg (ts_2 _ (List.mem_of_getElem? (i := 66) rfl)) rfl
set_option maxRecDepth 20000 in
theorem tb_415 : Cond.code yX2_takeToken cX2_takeToken 1 (some .boolean) ∈ TBL := tb_seg (ts_2 _ (List.mem_of_getElem? (i := 67) rfl)) rfl
set_option maxRecDepth 20000 in
theorem tb_418 : Cond.instanceMethod yX5_readToken ∈ TBL := tb_seg (ts_2 _ (List.mem_of_getElem? (i := 70) rfl)) rfl
set_option maxRecDepth 20000 in
theorem tb_419 : Cond.code yX5_readToken cX5_readToken 1 none ∈ TBL := tb_seg (ts_2 _ (List.mem_of_getElem? (i := 71) rfl)) rfl
set_option maxRecDepth 20000 in
theorem tb_420 : Cond.methodLink RX5 22 yX5_byteAt ∈ TBL := tb_seg (ts_2 _ (List.mem_of_getElem? (i := 72) rfl)) rfl
set_option maxRecDepth 20000 in
theorem tb_422 : Cond.instanceMethod yX5_byteAt ∈ TBL := tb_seg (ts_2 _ (List.mem_of_getElem? (i := 74) rfl)) rfl
set_option maxRecDepth 20000 in
theorem tb_423 : Cond.code yX5_byteAt cX5_byteAt 2 (some .int) ∈ TBL := tb_seg (ts_2 _ (List.mem_of_getElem? (i := 75) rfl)) rfl
set_option maxRecDepth 20000 in
theorem tb_424 : Cond.methodLink RX5 29 yX5_kindOf ∈ TBL := tb_seg (ts_2 _ (List.mem_of_getElem? (i := 76) rfl)) rfl
set_option maxRecDepth 20000 in
theorem tb_425 : Cond.static yX5_kindOf ∈ TBL := tb_seg (ts_2 _ (List.mem_of_getElem? (i := 77) rfl)) rfl
set_option maxRecDepth 20000 in
theorem tb_426 : Cond.code yX5_kindOf cX5_kindOf 1 (some .int) ∈ TBL := tb_seg (ts_2 _ (List.mem_of_getElem? (i := 78) rfl)) rfl
set_option maxRecDepth 20000 in
theorem tb_427 : Cond.methodLink RX2 58 yX2_refuse ∈ TBL := tb_seg (ts_2 _ (List.mem_of_getElem? (i := 79) rfl)) rfl
set_option maxRecDepth 20000 in
theorem tb_429 : Cond.instanceMethod yX2_refuse ∈ TBL := tb_seg (ts_2 _ (List.mem_of_getElem? (i := 81) rfl)) rfl
set_option maxRecDepth 20000 in
theorem tb_430 : Cond.code yX2_refuse cX2_refuse 2 (some .boolean) ∈ TBL := tb_seg (ts_2 _ (List.mem_of_getElem? (i := 82) rfl)) rfl
set_option maxRecDepth 20000 in
theorem tb_431 : Cond.methodLink RX2 54 yX2_lineNamed ∈ TBL := tb_seg (ts_2 _ (List.mem_of_getElem? (i := 83) rfl)) rfl
set_option maxRecDepth 20000 in
theorem tb_433 : Cond.instanceMethod yX2_lineNamed ∈ TBL := tb_seg (ts_2 _ (List.mem_of_getElem? (i := 85) rfl)) rfl
set_option maxRecDepth 20000 in
theorem tb_434 : Cond.code yX2_lineNamed cX2_lineNamed 1 (some .int) ∈ TBL := tb_seg (ts_2 _ (List.mem_of_getElem? (i := 86) rfl)) rfl
set_option maxRecDepth 20000 in
theorem tb_438 : Cond.instanceMethod yX5_isName ∈ TBL := tb_seg (ts_2 _ (List.mem_of_getElem? (i := 90) rfl)) rfl
set_option maxRecDepth 20000 in
theorem tb_439 : Cond.code yX5_isName cX5_isName 3 (some .boolean) ∈ TBL := tb_seg (ts_2 _ (List.mem_of_getElem? (i := 91) rfl)) rfl
set_option maxRecDepth 20000 in
theorem tb_440 : Cond.methodLink RX5 35 yJ0_length_8abf5 ∈ TBL := tb_seg (ts_2 _ (List.mem_of_getElem? (i := 92) rfl)) rfl
set_option maxRecDepth 20000 in
theorem tb_441 : Cond.instanceMethod yJ0_length_8abf5 ∈ TBL := tb_seg (ts_2 _ (List.mem_of_getElem? (i := 93) rfl)) rfl
set_option maxRecDepth 20000 in
theorem tb_442 : Cond.selects RJ0 yJ0_length_8abf5 yJ0_length_8abf5 ∈ TBL := tb_seg (ts_2 _ (List.mem_of_getElem? (i := 94) rfl)) rfl
set_option maxRecDepth 20000 in
theorem tb_443 : Cond.code yJ0_length_8abf5 cJ0_length_8abf5 1 (some .int) ∈ TBL := tb_seg (ts_2 _ (List.mem_of_getElem? (i := 95) rfl)) rfl
set_option maxRecDepth 20000 in
theorem tb_444 : Cond.methodLink RJ0 335 yJ0_coder_7d493 ∈ TBL := tb_seg (ts_2 _ (List.mem_of_getElem? (i := 96) rfl)) rfl
set_option maxRecDepth 20000 in
theorem tb_445 : Cond.instanceMethod yJ0_coder_7d493 ∈ TBL := tb_seg (ts_2 _ (List.mem_of_getElem? (i := 97) rfl)) rfl
set_option maxRecDepth 20000 in
theorem tb_446 : Cond.selects RJ0 yJ0_coder_7d493 yJ0_coder_7d493 ∈ TBL := tb_seg (ts_2 _ (List.mem_of_getElem? (i := 98) rfl)) rfl
set_option maxRecDepth 20000 in
theorem tb_447 : Cond.code yJ0_coder_7d493 cJ0_coder_7d493 1 (some .byte) ∈ TBL := tb_seg (ts_2 _ (List.mem_of_getElem? (i := 99) rfl)) rfl
set_option maxRecDepth 20000 in
theorem tb_448 : Cond.fieldLink RJ0 38 "java/lang/String" "COMPACT_STRINGS" "Z" ∈ TBL := tb_seg (ts_2 _ (List.mem_of_getElem? (i := 100) rfl)) rfl
set_option maxRecDepth 20000 in
theorem tb_450 : Cond.methodLink RX5 40 yJ0_charAt_5068e ∈ TBL := tb_seg (ts_2 _ (List.mem_of_getElem? (i := 102) rfl)) rfl
set_option maxRecDepth 20000 in
theorem tb_451 : Cond.instanceMethod yJ0_charAt_5068e ∈ TBL := tb_seg (ts_2 _ (List.mem_of_getElem? (i := 103) rfl)) rfl
set_option maxRecDepth 20000 in
theorem tb_452 : Cond.selects RJ0 yJ0_charAt_5068e yJ0_charAt_5068e ∈ TBL := tb_seg (ts_2 _ (List.mem_of_getElem? (i := 104) rfl)) rfl
set_option maxRecDepth 20000 in
theorem tb_453 : Cond.code yJ0_charAt_5068e cJ0_charAt_5068e 2 (some .char) ∈ TBL := tb_seg (ts_2 _ (List.mem_of_getElem? (i := 105) rfl)) rfl
set_option maxRecDepth 20000 in
theorem tb_454 : Cond.methodLink RJ0 492 yJ0_isLatin1_aae02 ∈ TBL := tb_seg (ts_2 _ (List.mem_of_getElem? (i := 106) rfl)) rfl
set_option maxRecDepth 20000 in
theorem tb_455 : Cond.instanceMethod yJ0_isLatin1_aae02 ∈ TBL := tb_seg (ts_2 _ (List.mem_of_getElem? (i := 107) rfl)) rfl
set_option maxRecDepth 20000 in
theorem tb_456 : Cond.selects RJ0 yJ0_isLatin1_aae02 yJ0_isLatin1_aae02 ∈ TBL := tb_seg (ts_2 _ (List.mem_of_getElem? (i := 108) rfl)) rfl
set_option maxRecDepth 20000 in
theorem tb_457 : Cond.code yJ0_isLatin1_aae02 cJ0_isLatin1_aae02 1 (some .boolean) ∈ TBL := tb_seg (ts_2 _ (List.mem_of_getElem? (i := 109) rfl)) rfl
set_option maxRecDepth 20000 in
theorem tb_458 : Cond.methodLink RJ0 495 yJ1_charAt_3b067 ∈ TBL := tb_seg (ts_2 _ (List.mem_of_getElem? (i := 110) rfl)) rfl
set_option maxRecDepth 20000 in
theorem tb_459 : Cond.static yJ1_charAt_3b067 ∈ TBL := tb_seg (ts_2 _ (List.mem_of_getElem? (i := 111) rfl)) rfl
set_option maxRecDepth 20000 in
theorem tb_460 : Cond.code yJ1_charAt_3b067 cJ1_charAt_3b067 2 (some .char) ∈ TBL := tb_seg (ts_2 _ (List.mem_of_getElem? (i := 112) rfl)) rfl
set_option maxRecDepth 20000 in
theorem tb_461 : Cond.methodLink RJ1 9 yJ0_checkIndex_df160 ∈ TBL := tb_seg (ts_2 _ (List.mem_of_getElem? (i := 113) rfl)) rfl
set_option maxRecDepth 20000 in
theorem tb_462 : Cond.static yJ0_checkIndex_df160 ∈ TBL := tb_seg (ts_2 _ (List.mem_of_getElem? (i := 114) rfl)) rfl
set_option maxRecDepth 20000 in
theorem tb_463 : Cond.code yJ0_checkIndex_df160 cJ0_checkIndex_df160 2 none ∈ TBL := tb_seg (ts_2 _ (List.mem_of_getElem? (i := 115) rfl)) rfl
set_option maxRecDepth 20000 in
theorem tb_464 : Cond.fieldLink RJ0 1053 "jdk/internal/util/Preconditions" "SIOOBE_FORMATTER" "Ljava/util/function/BiFunction;" ∈ TBL := tb_seg (ts_2 _ (List.mem_of_getElem? (i := 116) rfl)) rfl
set_option maxRecDepth 20000 in
theorem tb_466 : Cond.methodLink RJ0 1059 yJ3_checkIndex_8e157 ∈ TBL := tb_seg (ts_2 _ (List.mem_of_getElem? (i := 118) rfl)) rfl
set_option maxRecDepth 20000 in
theorem tb_467 : Cond.static yJ3_checkIndex_8e157 ∈ TBL := tb_seg (ts_2 _ (List.mem_of_getElem? (i := 119) rfl)) rfl
set_option maxRecDepth 20000 in
theorem tb_468 : Cond.code yJ3_checkIndex_8e157 cJ3_checkIndex_8e157 3 (some .int) ∈ TBL := tb_seg (ts_2 _ (List.mem_of_getElem? (i := 120) rfl)) rfl
set_option maxRecDepth 20000 in
theorem tb_498 : Cond.methodLink RX2 62 yX2_isRowOf ∈ TBL := tb_seg (ts_2 _ (List.mem_of_getElem? (i := 150) rfl)) rfl
set_option maxRecDepth 20000 in
theorem tb_499 : Cond.static yX2_isRowOf ∈ TBL := tb_seg (ts_2 _ (List.mem_of_getElem? (i := 151) rfl)) rfl
set_option maxRecDepth 20000 in
theorem tb_500 : Cond.code yX2_isRowOf cX2_isRowOf 1 (some .boolean) ∈ TBL := tb_seg (ts_2 _ (List.mem_of_getElem? (i := 152) rfl)) rfl
set_option maxRecDepth 20000 in
theorem tb_503 : Cond.instanceMethod yX6_value ∈ TBL := tb_seg (ts_2 _ (List.mem_of_getElem? (i := 155) rfl)) rfl
set_option maxRecDepth 20000 in
theorem tb_504 : Cond.code yX6_value cX6_value 2 (some .int) ∈ TBL := tb_seg (ts_2 _ (List.mem_of_getElem? (i := 156) rfl)) rfl
set_option maxRecDepth 20000 in
theorem tb_506 : Cond.static yX7_at ∈ TBL := tb_seg (ts_2 _ (List.mem_of_getElem? (i := 158) rfl)) rfl
set_option maxRecDepth 20000 in
theorem tb_507 : Cond.code yX7_at cX7_at 2 (some .int) ∈ TBL := tb_seg (ts_2 _ (List.mem_of_getElem? (i := 159) rfl)) rfl
set_option maxRecDepth 20000 in
theorem tb_511 : Cond.methodLink RX2 77 yX2_readArm ∈ TBL := tb_seg (ts_2 _ (List.mem_of_getElem? (i := 163) rfl)) rfl
set_option maxRecDepth 20000 in
theorem tb_513 : Cond.instanceMethod yX2_readArm ∈ TBL := tb_seg (ts_2 _ (List.mem_of_getElem? (i := 165) rfl)) rfl
set_option maxRecDepth 20000 in
theorem tb_514 : Cond.code yX2_readArm cX2_readArm 5 (some .boolean) ∈ TBL := tb_seg (ts_2 _ (List.mem_of_getElem? (i := 166) rfl)) rfl
set_option maxRecDepth 20000 in
theorem tb_515 : Cond.methodLink RX2 106 yX2_kindNamed ∈ TBL := tb_seg (ts_2 _ (List.mem_of_getElem? (i := 167) rfl)) rfl
set_option maxRecDepth 20000 in
theorem tb_517 : Cond.instanceMethod yX2_kindNamed ∈ TBL := tb_seg (ts_2 _ (List.mem_of_getElem? (i := 169) rfl)) rfl
set_option maxRecDepth 20000 in
theorem tb_518 : Cond.code yX2_kindNamed cX2_kindNamed 1 (some .int) ∈ TBL := tb_seg (ts_2 _ (List.mem_of_getElem? (i := 170) rfl)) rfl
set_option maxRecDepth 20000 in
theorem tb_524 : Cond.methodLink RX2 98 yX2_takeNumber ∈ TBL := tb_seg (ts_2 _ (List.mem_of_getElem? (i := 176) rfl)) rfl
set_option maxRecDepth 20000 in
theorem tb_526 : Cond.instanceMethod yX2_takeNumber ∈ TBL := tb_seg (ts_2 _ (List.mem_of_getElem? (i := 178) rfl)) rfl
set_option maxRecDepth 20000 in
theorem tb_527 : Cond.code yX2_takeNumber cX2_takeNumber 4 (some .int) ∈ TBL := tb_seg (ts_2 _ (List.mem_of_getElem? (i := 179) rfl)) rfl
set_option maxRecDepth 20000 in
theorem tb_530 : Cond.instanceMethod yX5_numberRead ∈ TBL := tb_seg (ts_2 _ (List.mem_of_getElem? (i := 182) rfl)) rfl
set_option maxRecDepth 20000 in
theorem tb_531 : Cond.code yX5_numberRead cX5_numberRead 2 (some .int) ∈ TBL := tb_seg (ts_2 _ (List.mem_of_getElem? (i := 183) rfl)) rfl
set_option maxRecDepth 20000 in
theorem tb_534 : Cond.instanceMethod yX6_armAt ∈ TBL := tb_seg (ts_2 _ (List.mem_of_getElem? (i := 186) rfl)) rfl
set_option maxRecDepth 20000 in
theorem tb_535 : Cond.code yX6_armAt cX6_armAt 3 (some .int) ∈ TBL := tb_seg (ts_2 _ (List.mem_of_getElem? (i := 187) rfl)) rfl
set_option maxRecDepth 20000 in
theorem tb_536 : Cond.methodLink RX6 62 yX6_value ∈ TBL := tb_seg (ts_2 _ (List.mem_of_getElem? (i := 188) rfl)) rfl
set_option maxRecDepth 20000 in
theorem tb_538 : Cond.static yX7_put ∈ TBL := tb_seg (ts_2 _ (List.mem_of_getElem? (i := 190) rfl)) rfl
set_option maxRecDepth 20000 in
theorem tb_539 : Cond.code yX7_put cX7_put 3 none ∈ TBL := tb_seg (ts_2 _ (List.mem_of_getElem? (i := 191) rfl)) rfl
set_option maxRecDepth 20000 in
theorem tb_542 : Cond.instanceMethod yX6_become ∈ TBL := tb_seg (ts_2 _ (List.mem_of_getElem? (i := 194) rfl)) rfl
set_option maxRecDepth 20000 in
theorem tb_543 : Cond.code yX6_become cX6_become 3 none ∈ TBL := tb_seg (ts_2 _ (List.mem_of_getElem? (i := 195) rfl)) rfl
set_option maxRecDepth 20000 in
theorem tb_545 : Cond.methodLink RX2 80 yX2_takeSign ∈ TBL := tb_seg (ts_2 _ (List.mem_of_getElem? (i := 197) rfl)) rfl
set_option maxRecDepth 20000 in
theorem tb_547 : Cond.instanceMethod yX2_takeSign ∈ TBL := tb_seg (ts_2 _ (List.mem_of_getElem? (i := 199) rfl)) rfl
set_option maxRecDepth 20000 in
theorem tb_548 : Cond.code yX2_takeSign cX2_takeSign 1 (some .boolean) ∈ TBL := tb_seg (ts_2 _ (List.mem_of_getElem? (i := 200) rfl)) rfl
set_option maxRecDepth 20000 in
theorem tb_549 : Cond.methodLink RX2 83 yX2_readMark ∈ TBL := tb_seg (ts_2 _ (List.mem_of_getElem? (i := 201) rfl)) rfl
set_option maxRecDepth 20000 in
theorem tb_551 : Cond.instanceMethod yX2_readMark ∈ TBL := tb_seg (ts_2 _ (List.mem_of_getElem? (i := 203) rfl)) rfl
set_option maxRecDepth 20000 in
theorem tb_552 : Cond.code yX2_readMark cX2_readMark 4 (some .boolean) ∈ TBL := tb_seg (ts_2 _ (List.mem_of_getElem? (i := 204) rfl)) rfl
set_option maxRecDepth 20000 in
theorem tb_555 : Cond.instanceMethod yX6_markAt ∈ TBL := tb_seg (ts_2 _ (List.mem_of_getElem? (i := 207) rfl)) rfl
set_option maxRecDepth 20000 in
theorem tb_556 : Cond.code yX6_markAt cX6_markAt 3 (some .int) ∈ TBL := tb_seg (ts_2 _ (List.mem_of_getElem? (i := 208) rfl)) rfl
set_option maxRecDepth 20000 in
theorem tb_557 : Cond.methodLink RX2 86 yX2_readTown ∈ TBL := tb_seg (ts_2 _ (List.mem_of_getElem? (i := 209) rfl)) rfl
set_option maxRecDepth 20000 in
theorem tb_559 : Cond.instanceMethod yX2_readTown ∈ TBL := tb_seg (ts_2 _ (List.mem_of_getElem? (i := 211) rfl)) rfl
set_option maxRecDepth 20000 in
theorem tb_560 : Cond.code yX2_readTown cX2_readTown 4 (some .boolean) ∈ TBL := tb_seg (ts_2 _ (List.mem_of_getElem? (i := 212) rfl)) rfl
set_option maxRecDepth 20000 in
theorem tb_561 : Cond.methodLink RX2 89 yX2_readSignal ∈ TBL := tb_seg (ts_2 _ (List.mem_of_getElem? (i := 213) rfl)) rfl
set_option maxRecDepth 20000 in
theorem tb_563 : Cond.instanceMethod yX2_readSignal ∈ TBL := tb_seg (ts_2 _ (List.mem_of_getElem? (i := 215) rfl)) rfl
set_option maxRecDepth 20000 in
theorem tb_564 : Cond.code yX2_readSignal cX2_readSignal 2 (some .boolean) ∈ TBL := tb_seg (ts_2 _ (List.mem_of_getElem? (i := 216) rfl)) rfl
set_option maxRecDepth 20000 in
theorem tb_567 : Cond.instanceMethod yX6_isSignalAt ∈ TBL := tb_seg (ts_2 _ (List.mem_of_getElem? (i := 219) rfl)) rfl
set_option maxRecDepth 20000 in
theorem tb_568 : Cond.code yX6_isSignalAt cX6_isSignalAt 2 (some .boolean) ∈ TBL := tb_seg (ts_2 _ (List.mem_of_getElem? (i := 220) rfl)) rfl
set_option maxRecDepth 20000 in
theorem tb_569 : Cond.methodLink RX2 92 yX2_readRule ∈ TBL := tb_seg (ts_2 _ (List.mem_of_getElem? (i := 221) rfl)) rfl
set_option maxRecDepth 20000 in
theorem tb_571 : Cond.instanceMethod yX2_readRule ∈ TBL := tb_seg (ts_2 _ (List.mem_of_getElem? (i := 223) rfl)) rfl
set_option maxRecDepth 20000 in
theorem tb_572 : Cond.code yX2_readRule cX2_readRule 4 (some .boolean) ∈ TBL := tb_seg (ts_2 _ (List.mem_of_getElem? (i := 224) rfl)) rfl
set_option maxRecDepth 20000 in
theorem tb_577 : Cond.instanceMethod yX2_finish ∈ TBL := tb_seg (ts_2 _ (List.mem_of_getElem? (i := 229) rfl)) rfl
set_option maxRecDepth 20000 in
theorem tb_578 : Cond.code yX2_finish cX2_finish 1 none ∈ TBL := tb_seg (ts_2 _ (List.mem_of_getElem? (i := 230) rfl)) rfl
set_option maxRecDepth 20000 in
theorem tb_579 : Cond.methodLink RX2 38 yX2_isJointMissing ∈ TBL := tb_seg (ts_2 _ (List.mem_of_getElem? (i := 231) rfl)) rfl
set_option maxRecDepth 20000 in
theorem tb_581 : Cond.instanceMethod yX2_isJointMissing ∈ TBL := tb_seg (ts_2 _ (List.mem_of_getElem? (i := 233) rfl)) rfl
set_option maxRecDepth 20000 in
theorem tb_582 : Cond.code yX2_isJointMissing cX2_isJointMissing 3 (some .boolean) ∈ TBL := tb_seg (ts_2 _ (List.mem_of_getElem? (i := 234) rfl)) rfl
set_option maxRecDepth 20000 in
theorem tb_585 : Cond.instanceMethod yX6_take ∈ TBL := tb_seg (ts_2 _ (List.mem_of_getElem? (i := 237) rfl)) rfl
set_option maxRecDepth 20000 in
theorem tb_586 : Cond.code yX6_take cX6_take 2 none ∈ TBL := tb_seg (ts_2 _ (List.mem_of_getElem? (i := 238) rfl)) rfl
set_option maxRecDepth 20000 in
theorem tb_600 : Cond.methodLink RX7 114 yX7_isArm ∈ TBL := tb_seg (ts_3 _ (List.mem_of_getElem? (i := 12) rfl)) rfl
set_option maxRecDepth 20000 in
theorem tb_602 : Cond.instanceMethod yX7_isArm ∈ TBL := tb_seg (ts_3 _ (List.mem_of_getElem? (i := 14) rfl)) rfl
set_option maxRecDepth 20000 in
theorem tb_603 : Cond.code yX7_isArm cX7_isArm 2 (some .boolean) ∈ TBL := tb_seg (ts_3 _ (List.mem_of_getElem? (i := 15) rfl)) rfl
set_option maxRecDepth 20000 in
theorem tb_604 : Cond.methodLink RX7 120 yX7_at ∈ TBL := tb_seg (ts_3 _ (List.mem_of_getElem? (i := 16) rfl)) rfl
set_option maxRecDepth 20000 in
theorem tb_607 : Cond.instanceMethod yX6_holdsOf ∈ TBL := tb_seg (ts_3 _ (List.mem_of_getElem? (i := 19) rfl)) rfl
set_option maxRecDepth 20000 in
theorem tb_608 : Cond.code yX6_holdsOf cX6_holdsOf 5 (some .int) ∈ TBL := tb_seg (ts_3 _ (List.mem_of_getElem? (i := 20) rfl)) rfl
set_option maxRecDepth 20000 in
theorem tb_609 : Cond.methodLink RX6 56 Lib.Math.max.name ∈ TBL := tb_seg (ts_3 _ (List.mem_of_getElem? (i := 21) rfl)) rfl
set_option maxRecDepth 20000 in
theorem tb_610 : Cond.static Lib.Math.max.name ∈ TBL := tb_seg (ts_3 _ (List.mem_of_getElem? (i := 22) rfl)) rfl
set_option maxRecDepth 20000 in
theorem tb_611 : Cond.code Lib.Math.max.name Lib.Math.max.code 2 (some .int) ∈ TBL := tb_seg (ts_3 _ (List.mem_of_getElem? (i := 23) rfl)) rfl
set_option maxRecDepth 20000 in
theorem tb_616 : Cond.methodLink RX7 134 yX7_isMark ∈ TBL := tb_seg (ts_3 _ (List.mem_of_getElem? (i := 28) rfl)) rfl
set_option maxRecDepth 20000 in
theorem tb_618 : Cond.instanceMethod yX7_isMark ∈ TBL := tb_seg (ts_3 _ (List.mem_of_getElem? (i := 30) rfl)) rfl
set_option maxRecDepth 20000 in
theorem tb_619 : Cond.code yX7_isMark cX7_isMark 2 (some .boolean) ∈ TBL := tb_seg (ts_3 _ (List.mem_of_getElem? (i := 31) rfl)) rfl
set_option maxRecDepth 20000 in
theorem tb_620 : Cond.methodLink RX7 137 yX7_isPart ∈ TBL := tb_seg (ts_3 _ (List.mem_of_getElem? (i := 32) rfl)) rfl
set_option maxRecDepth 20000 in
theorem tb_621 : Cond.static yX7_isPart ∈ TBL := tb_seg (ts_3 _ (List.mem_of_getElem? (i := 33) rfl)) rfl
set_option maxRecDepth 20000 in
theorem tb_622 : Cond.code yX7_isPart cX7_isPart 1 (some .boolean) ∈ TBL := tb_seg (ts_3 _ (List.mem_of_getElem? (i := 34) rfl)) rfl
set_option maxRecDepth 20000 in
theorem tb_627 : Cond.methodLink RX7 146 yX7_isTown ∈ TBL := tb_seg (ts_3 _ (List.mem_of_getElem? (i := 39) rfl)) rfl
set_option maxRecDepth 20000 in
theorem tb_629 : Cond.instanceMethod yX7_isTown ∈ TBL := tb_seg (ts_3 _ (List.mem_of_getElem? (i := 41) rfl)) rfl
set_option maxRecDepth 20000 in
theorem tb_630 : Cond.code yX7_isTown cX7_isTown 2 (some .boolean) ∈ TBL := tb_seg (ts_3 _ (List.mem_of_getElem? (i := 42) rfl)) rfl
set_option maxRecDepth 20000 in
theorem tb_635 : Cond.methodLink RX7 155 yX7_isWithin ∈ TBL := tb_seg (ts_3 _ (List.mem_of_getElem? (i := 47) rfl)) rfl
set_option maxRecDepth 20000 in
theorem tb_636 : Cond.static yX7_isWithin ∈ TBL := tb_seg (ts_3 _ (List.mem_of_getElem? (i := 48) rfl)) rfl
set_option maxRecDepth 20000 in
theorem tb_637 : Cond.code yX7_isWithin cX7_isWithin 2 (some .boolean) ∈ TBL := tb_seg (ts_3 _ (List.mem_of_getElem? (i := 49) rfl)) rfl
set_option maxRecDepth 20000 in
theorem tb_638 : Cond.fieldLink RX7 243 "MailCatch" "LEAST" "[I" ∈ TBL := tb_seg (ts_3 _ (List.mem_of_getElem? (i := 50) rfl)) rfl
set_option maxRecDepth 20000 in
theorem tb_639 : Cond.fieldLink RX7 246 "MailCatch" "MOST" "[I" ∈ TBL := tb_seg (ts_3 _ (List.mem_of_getElem? (i := 51) rfl)) rfl
set_option maxRecDepth 20000 in
theorem tb_649 : Cond.methodLink RX7 163 yX7_isJoint ∈ TBL := tb_seg (ts_3 _ (List.mem_of_getElem? (i := 61) rfl)) rfl
set_option maxRecDepth 20000 in
theorem tb_651 : Cond.instanceMethod yX7_isJoint ∈ TBL := tb_seg (ts_3 _ (List.mem_of_getElem? (i := 63) rfl)) rfl
set_option maxRecDepth 20000 in
theorem tb_652 : Cond.code yX7_isJoint cX7_isJoint 2 (some .boolean) ∈ TBL := tb_seg (ts_3 _ (List.mem_of_getElem? (i := 64) rfl)) rfl
set_option maxRecDepth 20000 in
theorem tb_661 : Cond.methodLink RX7 166 yX7_put ∈ TBL := tb_seg (ts_3 _ (List.mem_of_getElem? (i := 73) rfl)) rfl
set_option maxRecDepth 20000 in
theorem tb_670 : Cond.methodLink RX7 170 yX7_postedTo ∈ TBL := tb_seg (ts_3 _ (List.mem_of_getElem? (i := 82) rfl)) rfl
set_option maxRecDepth 20000 in
theorem tb_672 : Cond.instanceMethod yX7_postedTo ∈ TBL := tb_seg (ts_3 _ (List.mem_of_getElem? (i := 84) rfl)) rfl
set_option maxRecDepth 20000 in
theorem tb_673 : Cond.code yX7_postedTo cX7_postedTo 5 (some .int) ∈ TBL := tb_seg (ts_3 _ (List.mem_of_getElem? (i := 85) rfl)) rfl
set_option maxRecDepth 20000 in
theorem tb_678 : Cond.methodLink RX7 174 yX7_areJoints ∈ TBL := tb_seg (ts_3 _ (List.mem_of_getElem? (i := 90) rfl)) rfl
set_option maxRecDepth 20000 in
theorem tb_680 : Cond.instanceMethod yX7_areJoints ∈ TBL := tb_seg (ts_3 _ (List.mem_of_getElem? (i := 92) rfl)) rfl
set_option maxRecDepth 20000 in
theorem tb_681 : Cond.code yX7_areJoints cX7_areJoints 2 (some .boolean) ∈ TBL := tb_seg (ts_3 _ (List.mem_of_getElem? (i := 93) rfl)) rfl
set_option maxRecDepth 20000 in
theorem tb_682 : Cond.methodLink RX7 177 yX7_areMarks ∈ TBL := tb_seg (ts_3 _ (List.mem_of_getElem? (i := 94) rfl)) rfl
set_option maxRecDepth 20000 in
theorem tb_684 : Cond.instanceMethod yX7_areMarks ∈ TBL := tb_seg (ts_3 _ (List.mem_of_getElem? (i := 96) rfl)) rfl
set_option maxRecDepth 20000 in
theorem tb_685 : Cond.code yX7_areMarks cX7_areMarks 2 (some .boolean) ∈ TBL := tb_seg (ts_3 _ (List.mem_of_getElem? (i := 97) rfl)) rfl
set_option maxRecDepth 20000 in
theorem tb_686 : Cond.methodLink RX7 180 yX7_isNightPart ∈ TBL := tb_seg (ts_3 _ (List.mem_of_getElem? (i := 98) rfl)) rfl
set_option maxRecDepth 20000 in
theorem tb_687 : Cond.static yX7_isNightPart ∈ TBL := tb_seg (ts_3 _ (List.mem_of_getElem? (i := 99) rfl)) rfl
set_option maxRecDepth 20000 in
theorem tb_688 : Cond.code yX7_isNightPart cX7_isNightPart 1 (some .boolean) ∈ TBL := tb_seg (ts_3 _ (List.mem_of_getElem? (i := 100) rfl)) rfl
set_option maxRecDepth 20000 in
theorem tb_691 : Cond.instanceMethod yX1_go ∈ TBL := tb_seg (ts_3 _ (List.mem_of_getElem? (i := 103) rfl)) rfl
set_option maxRecDepth 20000 in
theorem tb_692 : Cond.code yX1_go cX1_go 6 none ∈ TBL := tb_seg (ts_3 _ (List.mem_of_getElem? (i := 104) rfl)) rfl
set_option maxRecDepth 20000 in
theorem tb_696 : Cond.instanceMethod yX6_countBehind ∈ TBL := tb_seg (ts_3 _ (List.mem_of_getElem? (i := 108) rfl)) rfl
set_option maxRecDepth 20000 in
theorem tb_697 : Cond.code yX6_countBehind cX6_countBehind 6 (some .int) ∈ TBL := tb_seg (ts_3 _ (List.mem_of_getElem? (i := 109) rfl)) rfl
set_option maxRecDepth 20000 in
theorem tb_698 : Cond.methodLink RX6 66 yX6_markAt ∈ TBL := tb_seg (ts_3 _ (List.mem_of_getElem? (i := 110) rfl)) rfl
set_option maxRecDepth 20000 in
theorem tb_699 : Cond.methodLink RX1 40 yX1_meet ∈ TBL := tb_seg (ts_3 _ (List.mem_of_getElem? (i := 111) rfl)) rfl
set_option maxRecDepth 20000 in
theorem tb_701 : Cond.instanceMethod yX1_meet ∈ TBL := tb_seg (ts_3 _ (List.mem_of_getElem? (i := 113) rfl)) rfl
set_option maxRecDepth 20000 in
theorem tb_702 : Cond.code yX1_meet cX1_meet 4 none ∈ TBL := tb_seg (ts_3 _ (List.mem_of_getElem? (i := 114) rfl)) rfl
set_option maxRecDepth 20000 in
theorem tb_707 : Cond.instanceMethod yX1_answer ∈ TBL := tb_seg (ts_3 _ (List.mem_of_getElem? (i := 119) rfl)) rfl
set_option maxRecDepth 20000 in
theorem tb_708 : Cond.code yX1_answer cX1_answer 2 (some .int) ∈ TBL := tb_seg (ts_3 _ (List.mem_of_getElem? (i := 120) rfl)) rfl
set_option maxRecDepth 20000 in
theorem tb_718 : Cond.constantLong RX7 194 (-1 : Int64) ∈ TBL := tb_seg (ts_3 _ (List.mem_of_getElem? (i := 130) rfl)) rfl
set_option maxRecDepth 20000 in
theorem tb_721 : Cond.instanceMethod yX0_weighByOdds ∈ TBL := tb_seg (ts_3 _ (List.mem_of_getElem? (i := 133) rfl)) rfl
set_option maxRecDepth 20000 in
theorem tb_722 : Cond.code yX0_weighByOdds cX0_weighByOdds 7 none ∈ TBL := tb_seg (ts_3 _ (List.mem_of_getElem? (i := 134) rfl)) rfl
set_option maxRecDepth 20000 in
theorem tb_724 : Cond.methodLink RX0 45 Lib.Math.min.name ∈ TBL := tb_seg (ts_3 _ (List.mem_of_getElem? (i := 136) rfl)) rfl
set_option maxRecDepth 20000 in
theorem tb_725 : Cond.static Lib.Math.min.name ∈ TBL := tb_seg (ts_3 _ (List.mem_of_getElem? (i := 137) rfl)) rfl
set_option maxRecDepth 20000 in
theorem tb_726 : Cond.code Lib.Math.min.name Lib.Math.min.code 2 (some .int) ∈ TBL := tb_seg (ts_3 _ (List.mem_of_getElem? (i := 138) rfl)) rfl
set_option maxRecDepth 20000 in
theorem tb_729 : Cond.methodLink RX0 66 yX0_sumBehind ∈ TBL := tb_seg (ts_3 _ (List.mem_of_getElem? (i := 141) rfl)) rfl
set_option maxRecDepth 20000 in
theorem tb_731 : Cond.instanceMethod yX0_sumBehind ∈ TBL := tb_seg (ts_3 _ (List.mem_of_getElem? (i := 143) rfl)) rfl
set_option maxRecDepth 20000 in
theorem tb_732 : Cond.code yX0_sumBehind cX0_sumBehind 4 none ∈ TBL := tb_seg (ts_3 _ (List.mem_of_getElem? (i := 144) rfl)) rfl
set_option maxRecDepth 20000 in
theorem tb_734 : Cond.static yX7_put_ ∈ TBL := tb_seg (ts_3 _ (List.mem_of_getElem? (i := 146) rfl)) rfl
set_option maxRecDepth 20000 in
theorem tb_735 : Cond.code yX7_put_ cX7_put_ 4 none ∈ TBL := tb_seg (ts_3 _ (List.mem_of_getElem? (i := 147) rfl)) rfl
set_option maxRecDepth 20000 in
theorem tb_738 : Cond.instanceMethod yX0_passCounting ∈ TBL := tb_seg (ts_3 _ (List.mem_of_getElem? (i := 150) rfl)) rfl
set_option maxRecDepth 20000 in
theorem tb_739 : Cond.code yX0_passCounting cX0_passCounting 3 none ∈ TBL := tb_seg (ts_3 _ (List.mem_of_getElem? (i := 151) rfl)) rfl
set_option maxRecDepth 20000 in
theorem tb_740 : Cond.methodLink RX0 79 yX0_start ∈ TBL := tb_seg (ts_3 _ (List.mem_of_getElem? (i := 152) rfl)) rfl
set_option maxRecDepth 20000 in
theorem tb_742 : Cond.instanceMethod yX0_start ∈ TBL := tb_seg (ts_3 _ (List.mem_of_getElem? (i := 154) rfl)) rfl
set_option maxRecDepth 20000 in
theorem tb_743 : Cond.code yX0_start cX0_start 1 none ∈ TBL := tb_seg (ts_3 _ (List.mem_of_getElem? (i := 155) rfl)) rfl
set_option maxRecDepth 20000 in
theorem tb_744 : Cond.methodLink RX0 73 yJ7_fill_d0a16 ∈ TBL := tb_seg (ts_3 _ (List.mem_of_getElem? (i := 156) rfl)) rfl
set_option maxRecDepth 20000 in
theorem tb_745 : Cond.static yJ7_fill_d0a16 ∈ TBL := tb_seg (ts_3 _ (List.mem_of_getElem? (i := 157) rfl)) rfl
set_option maxRecDepth 20000 in
theorem tb_746 : Cond.code yJ7_fill_d0a16 cJ7_fill_d0a16 5 none ∈ TBL := tb_seg (ts_3 _ (List.mem_of_getElem? (i := 158) rfl)) rfl
set_option maxRecDepth 20000 in
theorem tb_747 : Cond.methodLink RX0 82 yX0_passJoint ∈ TBL := tb_seg (ts_3 _ (List.mem_of_getElem? (i := 159) rfl)) rfl
set_option maxRecDepth 20000 in
theorem tb_749 : Cond.instanceMethod yX0_passJoint ∈ TBL := tb_seg (ts_3 _ (List.mem_of_getElem? (i := 161) rfl)) rfl
set_option maxRecDepth 20000 in
theorem tb_750 : Cond.code yX0_passJoint cX0_passJoint 8 none ∈ TBL := tb_seg (ts_3 _ (List.mem_of_getElem? (i := 162) rfl)) rfl
set_option maxRecDepth 20000 in
theorem tb_753 : Cond.instanceMethod yX0_ofCount ∈ TBL := tb_seg (ts_3 _ (List.mem_of_getElem? (i := 165) rfl)) rfl
set_option maxRecDepth 20000 in
theorem tb_754 : Cond.code yX0_ofCount cX0_ofCount 3 (some .long) ∈ TBL := tb_seg (ts_3 _ (List.mem_of_getElem? (i := 166) rfl)) rfl
set_option maxRecDepth 20000 in
theorem tb_756 : Cond.static yX7_at_ ∈ TBL := tb_seg (ts_3 _ (List.mem_of_getElem? (i := 168) rfl)) rfl
set_option maxRecDepth 20000 in
theorem tb_757 : Cond.code yX7_at_ cX7_at_ 2 (some .long) ∈ TBL := tb_seg (ts_3 _ (List.mem_of_getElem? (i := 169) rfl)) rfl
set_option maxRecDepth 20000 in
theorem tb_760 : Cond.instanceMethod yX0_whole ∈ TBL := tb_seg (ts_3 _ (List.mem_of_getElem? (i := 172) rfl)) rfl
set_option maxRecDepth 20000 in
theorem tb_761 : Cond.code yX0_whole cX0_whole 1 (some .long) ∈ TBL := tb_seg (ts_3 _ (List.mem_of_getElem? (i := 173) rfl)) rfl
set_option maxRecDepth 20000 in
theorem tb_762 : Cond.methodLink RX7 211 yX7_part ∈ TBL := tb_seg (ts_3 _ (List.mem_of_getElem? (i := 174) rfl)) rfl
set_option maxRecDepth 20000 in
theorem tb_763 : Cond.static yX7_part ∈ TBL := tb_seg (ts_3 _ (List.mem_of_getElem? (i := 175) rfl)) rfl
set_option maxRecDepth 20000 in
theorem tb_764 : Cond.code yX7_part cX7_part 7 (some .long) ∈ TBL := tb_seg (ts_3 _ (List.mem_of_getElem? (i := 176) rfl)) rfl
set_option maxRecDepth 20000 in
theorem tb_765 : Cond.methodLink RX7 351 Lib.MathLoose.abs_long.x ∈ TBL := tb_seg (ts_3 _ (List.mem_of_getElem? (i := 177) rfl)) rfl
set_option maxRecDepth 20000 in
theorem tb_766 : Cond.static Lib.MathLoose.abs_long.x ∈ TBL := tb_seg (ts_3 _ (List.mem_of_getElem? (i := 178) rfl)) rfl
set_option maxRecDepth 20000 in
theorem tb_767 : Cond.code Lib.MathLoose.abs_long.x Lib.MathLoose.abs_long.code 2 (some .long) ∈ TBL := tb_seg (ts_3 _ (List.mem_of_getElem? (i := 179) rfl)) rfl
set_option maxRecDepth 20000 in
theorem tb_768 : Cond.methodLink RX7 357 yX7_greatestShared ∈ TBL := tb_seg (ts_3 _ (List.mem_of_getElem? (i := 180) rfl)) rfl
set_option maxRecDepth 20000 in
theorem tb_769 : Cond.static yX7_greatestShared ∈ TBL := tb_seg (ts_3 _ (List.mem_of_getElem? (i := 181) rfl)) rfl
set_option maxRecDepth 20000 in
theorem tb_770 : Cond.code yX7_greatestShared cX7_greatestShared 11 (some .long) ∈ TBL := tb_seg (ts_3 _ (List.mem_of_getElem? (i := 182) rfl)) rfl
set_option maxRecDepth 20000 in
theorem tb_771 : Cond.methodLink RX7 361 Lib.MathLoose.max_long.x ∈ TBL := tb_seg (ts_3 _ (List.mem_of_getElem? (i := 183) rfl)) rfl
set_option maxRecDepth 20000 in
theorem tb_772 : Cond.static Lib.MathLoose.max_long.x ∈ TBL := tb_seg (ts_3 _ (List.mem_of_getElem? (i := 184) rfl)) rfl
set_option maxRecDepth 20000 in
theorem tb_773 : Cond.code Lib.MathLoose.max_long.x Lib.MathLoose.max_long.code 4 (some .long) ∈ TBL := tb_seg (ts_3 _ (List.mem_of_getElem? (i := 185) rfl)) rfl
set_option maxRecDepth 20000 in
theorem tb_778 : Cond.methodLink RX7 215 yX7_passByOdds ∈ TBL := tb_seg (ts_3 _ (List.mem_of_getElem? (i := 190) rfl)) rfl
set_option maxRecDepth 20000 in
theorem tb_780 : Cond.instanceMethod yX7_passByOdds ∈ TBL := tb_seg (ts_3 _ (List.mem_of_getElem? (i := 192) rfl)) rfl
set_option maxRecDepth 20000 in
theorem tb_781 : Cond.code yX7_passByOdds cX7_passByOdds 1 none ∈ TBL := tb_seg (ts_3 _ (List.mem_of_getElem? (i := 193) rfl)) rfl
set_option maxRecDepth 20000 in
theorem tb_784 : Cond.instanceMethod yX0_passWithNet ∈ TBL := tb_seg (ts_3 _ (List.mem_of_getElem? (i := 196) rfl)) rfl
set_option maxRecDepth 20000 in
theorem tb_785 : Cond.code yX0_passWithNet cX0_passWithNet 5 none ∈ TBL := tb_seg (ts_3 _ (List.mem_of_getElem? (i := 197) rfl)) rfl
set_option maxRecDepth 20000 in
theorem tb_786 : Cond.methodLink RX0 98 yX0_takeIn ∈ TBL := tb_seg (ts_3 _ (List.mem_of_getElem? (i := 198) rfl)) rfl
set_option maxRecDepth 20000 in
theorem tb_788 : Cond.instanceMethod yX0_takeIn ∈ TBL := tb_seg (ts_3 _ (List.mem_of_getElem? (i := 200) rfl)) rfl
set_option maxRecDepth 20000 in
theorem tb_789 : Cond.code yX0_takeIn cX0_takeIn 3 none ∈ TBL := tb_seg (ts_3 _ (List.mem_of_getElem? (i := 201) rfl)) rfl
set_option maxRecDepth 20000 in
theorem tb_790 : Cond.methodLink RX0 106 Lib.Math.max.name ∈ TBL := tb_seg (ts_3 _ (List.mem_of_getElem? (i := 202) rfl)) rfl
set_option maxRecDepth 20000 in
theorem tb_791 : Cond.methodLink RX0 102 yX0_putOut ∈ TBL := tb_seg (ts_3 _ (List.mem_of_getElem? (i := 203) rfl)) rfl
set_option maxRecDepth 20000 in
theorem tb_793 : Cond.instanceMethod yX0_putOut ∈ TBL := tb_seg (ts_3 _ (List.mem_of_getElem? (i := 205) rfl)) rfl
set_option maxRecDepth 20000 in
theorem tb_794 : Cond.code yX0_putOut cX0_putOut 5 (some .long) ∈ TBL := tb_seg (ts_3 _ (List.mem_of_getElem? (i := 206) rfl)) rfl
set_option maxRecDepth 20000 in
theorem tb_795 : Cond.methodLink RX0 94 yX0_sumOf ∈ TBL := tb_seg (ts_3 _ (List.mem_of_getElem? (i := 207) rfl)) rfl
set_option maxRecDepth 20000 in
theorem tb_796 : Cond.static yX0_sumOf ∈ TBL := tb_seg (ts_3 _ (List.mem_of_getElem? (i := 208) rfl)) rfl
set_option maxRecDepth 20000 in
theorem tb_797 : Cond.code yX0_sumOf cX0_sumOf 4 (some .long) ∈ TBL := tb_seg (ts_3 _ (List.mem_of_getElem? (i := 209) rfl)) rfl
set_option maxRecDepth 20000 in
theorem tb_798 : Cond.methodLink RX7 222 yX7_at_ ∈ TBL := tb_seg (ts_3 _ (List.mem_of_getElem? (i := 210) rfl)) rfl
set_option maxRecDepth 20000 in
theorem tb_807 : Cond.methodLink RX7 228 yX7_metBy ∈ TBL := tb_seg (ts_3 _ (List.mem_of_getElem? (i := 219) rfl)) rfl
set_option maxRecDepth 20000 in
theorem tb_809 : Cond.instanceMethod yX7_metBy ∈ TBL := tb_seg (ts_3 _ (List.mem_of_getElem? (i := 221) rfl)) rfl
set_option maxRecDepth 20000 in
theorem tb_810 : Cond.code yX7_metBy cX7_metBy 2 (some .long) ∈ TBL := tb_seg (ts_3 _ (List.mem_of_getElem? (i := 222) rfl)) rfl
set_option maxRecDepth 20000 in
theorem tb_811 : Cond.constantLong RX7 232 (10 : Int64) ∈ TBL := tb_seg (ts_3 _ (List.mem_of_getElem? (i := 223) rfl)) rfl
set_option maxRecDepth 20000 in
theorem tb_816 : Cond.methodLink RX7 234 yX7_hitByOdds ∈ TBL := tb_seg (ts_3 _ (List.mem_of_getElem? (i := 228) rfl)) rfl
set_option maxRecDepth 20000 in
theorem tb_818 : Cond.instanceMethod yX7_hitByOdds ∈ TBL := tb_seg (ts_3 _ (List.mem_of_getElem? (i := 230) rfl)) rfl
set_option maxRecDepth 20000 in
theorem tb_819 : Cond.code yX7_hitByOdds cX7_hitByOdds 4 (some .long) ∈ TBL := tb_seg (ts_3 _ (List.mem_of_getElem? (i := 231) rfl)) rfl
set_option maxRecDepth 20000 in
theorem tb_825 : Cond.methodLink RX7 237 yX7_tornByOdds ∈ TBL := tb_seg (ts_3 _ (List.mem_of_getElem? (i := 237) rfl)) rfl
set_option maxRecDepth 20000 in
theorem tb_827 : Cond.instanceMethod yX7_tornByOdds ∈ TBL := tb_seg (ts_3 _ (List.mem_of_getElem? (i := 239) rfl)) rfl
set_option maxRecDepth 20000 in
theorem tb_828 : Cond.code yX7_tornByOdds cX7_tornByOdds 1 (some .long) ∈ TBL := tb_seg (ts_4 _ (List.mem_of_getElem? (i := 0) rfl)) rfl
set_option maxRecDepth 20000 in
theorem tb_833 : Cond.methodLink RX7 240 yX7_worthByOdds ∈ TBL := tb_seg (ts_4 _ (List.mem_of_getElem? (i := 5) rfl)) rfl
set_option maxRecDepth 20000 in
theorem tb_835 : Cond.instanceMethod yX7_worthByOdds ∈ TBL := tb_seg (ts_4 _ (List.mem_of_getElem? (i := 7) rfl)) rfl
set_option maxRecDepth 20000 in
theorem tb_836 : Cond.code yX7_worthByOdds cX7_worthByOdds 5 (some .long) ∈ TBL := tb_seg (ts_4 _ (List.mem_of_getElem? (i := 8) rfl)) rfl
set_option maxRecDepth 20000 in
theorem tb_845 : Cond.methodLink RX7 253 yX7_isHadBy ∈ TBL := tb_seg (ts_4 _ (List.mem_of_getElem? (i := 17) rfl)) rfl
set_option maxRecDepth 20000 in
theorem tb_847 : Cond.instanceMethod yX7_isHadBy ∈ TBL := tb_seg (ts_4 _ (List.mem_of_getElem? (i := 19) rfl)) rfl
set_option maxRecDepth 20000 in
theorem tb_848 : Cond.code yX7_isHadBy cX7_isHadBy 5 (some .boolean) ∈ TBL := tb_seg (ts_4 _ (List.mem_of_getElem? (i := 20) rfl)) rfl
set_option maxRecDepth 20000 in
theorem tb_863 : Cond.instanceMethod yX6_lettersWorth ∈ TBL := tb_seg (ts_4 _ (List.mem_of_getElem? (i := 35) rfl)) rfl
set_option maxRecDepth 20000 in
theorem tb_864 : Cond.code yX6_lettersWorth cX6_lettersWorth 4 (some .int) ∈ TBL := tb_seg (ts_4 _ (List.mem_of_getElem? (i := 36) rfl)) rfl
set_option maxRecDepth 20000 in
theorem tb_867 : Cond.instanceMethod yX6_minutesOf ∈ TBL := tb_seg (ts_4 _ (List.mem_of_getElem? (i := 39) rfl)) rfl
set_option maxRecDepth 20000 in
theorem tb_868 : Cond.code yX6_minutesOf cX6_minutesOf 5 (some .int) ∈ TBL := tb_seg (ts_4 _ (List.mem_of_getElem? (i := 40) rfl)) rfl
set_option maxRecDepth 20000 in
theorem tb_873 : Cond.methodLink RX7 263 yX7_areTowns ∈ TBL := tb_seg (ts_4 _ (List.mem_of_getElem? (i := 45) rfl)) rfl
set_option maxRecDepth 20000 in
theorem tb_875 : Cond.instanceMethod yX7_areTowns ∈ TBL := tb_seg (ts_4 _ (List.mem_of_getElem? (i := 47) rfl)) rfl
set_option maxRecDepth 20000 in
theorem tb_876 : Cond.code yX7_areTowns cX7_areTowns 2 (some .boolean) ∈ TBL := tb_seg (ts_4 _ (List.mem_of_getElem? (i := 48) rfl)) rfl
set_option maxRecDepth 20000 in
theorem tb_887 : Cond.instanceMethod yX3_add ∈ TBL := tb_seg (ts_4 _ (List.mem_of_getElem? (i := 59) rfl)) rfl
set_option maxRecDepth 20000 in
theorem tb_888 : Cond.code yX3_add cX3_add 3 (some .boolean) ∈ TBL := tb_seg (ts_4 _ (List.mem_of_getElem? (i := 60) rfl)) rfl
set_option maxRecDepth 20000 in
theorem tb_900 : Cond.instanceMethod yX0_weighAlike ∈ TBL := tb_seg (ts_4 _ (List.mem_of_getElem? (i := 72) rfl)) rfl
set_option maxRecDepth 20000 in
theorem tb_901 : Cond.code yX0_weighAlike cX0_weighAlike 3 none ∈ TBL := tb_seg (ts_4 _ (List.mem_of_getElem? (i := 73) rfl)) rfl
set_option maxRecDepth 20000 in
theorem tb_904 : Cond.instanceMethod yX0_passAsSeen ∈ TBL := tb_seg (ts_4 _ (List.mem_of_getElem? (i := 76) rfl)) rfl
set_option maxRecDepth 20000 in
theorem tb_905 : Cond.code yX0_passAsSeen cX0_passAsSeen 3 (some .long) ∈ TBL := tb_seg (ts_4 _ (List.mem_of_getElem? (i := 77) rfl)) rfl
set_option maxRecDepth 20000 in
theorem tb_908 : Cond.instanceMethod yX3_leaveIn ∈ TBL := tb_seg (ts_4 _ (List.mem_of_getElem? (i := 80) rfl)) rfl
set_option maxRecDepth 20000 in
theorem tb_909 : Cond.code yX3_leaveIn cX3_leaveIn 4 none ∈ TBL := tb_seg (ts_4 _ (List.mem_of_getElem? (i := 81) rfl)) rfl
set_option maxRecDepth 20000 in
theorem tb_911 : Cond.methodLink RX3 30 yX3_leaveOnly ∈ TBL := tb_seg (ts_4 _ (List.mem_of_getElem? (i := 83) rfl)) rfl
set_option maxRecDepth 20000 in
theorem tb_912 : Cond.static yX3_leaveOnly ∈ TBL := tb_seg (ts_4 _ (List.mem_of_getElem? (i := 84) rfl)) rfl
set_option maxRecDepth 20000 in
theorem tb_913 : Cond.code yX3_leaveOnly cX3_leaveOnly 3 none ∈ TBL := tb_seg (ts_4 _ (List.mem_of_getElem? (i := 85) rfl)) rfl
set_option maxRecDepth 20000 in
theorem tb_914 : Cond.methodLink RX7 275 yX7_jointsMissed ∈ TBL := tb_seg (ts_4 _ (List.mem_of_getElem? (i := 86) rfl)) rfl
set_option maxRecDepth 20000 in
theorem tb_916 : Cond.instanceMethod yX7_jointsMissed ∈ TBL := tb_seg (ts_4 _ (List.mem_of_getElem? (i := 88) rfl)) rfl
set_option maxRecDepth 20000 in
theorem tb_917 : Cond.code yX7_jointsMissed cX7_jointsMissed 4 (some .int) ∈ TBL := tb_seg (ts_4 _ (List.mem_of_getElem? (i := 89) rfl)) rfl
set_option maxRecDepth 20000 in
theorem tb_920 : Cond.instanceMethod yX0_forceMiss ∈ TBL := tb_seg (ts_4 _ (List.mem_of_getElem? (i := 92) rfl)) rfl
set_option maxRecDepth 20000 in
theorem tb_921 : Cond.code yX0_forceMiss cX0_forceMiss 3 none ∈ TBL := tb_seg (ts_4 _ (List.mem_of_getElem? (i := 93) rfl)) rfl
set_option maxRecDepth 20000 in
theorem tb_922 : Cond.methodLink RX7 279 yX7_marksNoticed ∈ TBL := tb_seg (ts_4 _ (List.mem_of_getElem? (i := 94) rfl)) rfl
set_option maxRecDepth 20000 in
theorem tb_924 : Cond.instanceMethod yX7_marksNoticed ∈ TBL := tb_seg (ts_4 _ (List.mem_of_getElem? (i := 96) rfl)) rfl
set_option maxRecDepth 20000 in
theorem tb_925 : Cond.code yX7_marksNoticed cX7_marksNoticed 4 (some .int) ∈ TBL := tb_seg (ts_4 _ (List.mem_of_getElem? (i := 97) rfl)) rfl
set_option maxRecDepth 20000 in
theorem tb_928 : Cond.instanceMethod yX0_forceNotice ∈ TBL := tb_seg (ts_4 _ (List.mem_of_getElem? (i := 100) rfl)) rfl
set_option maxRecDepth 20000 in
theorem tb_929 : Cond.code yX0_forceNotice cX0_forceNotice 3 none ∈ TBL := tb_seg (ts_4 _ (List.mem_of_getElem? (i := 101) rfl)) rfl
set_option maxRecDepth 20000 in
theorem tb_938 : Cond.methodLink RX7 282 yX7_nextSeed ∈ TBL := tb_seg (ts_4 _ (List.mem_of_getElem? (i := 110) rfl)) rfl
set_option maxRecDepth 20000 in
theorem tb_939 : Cond.static yX7_nextSeed ∈ TBL := tb_seg (ts_4 _ (List.mem_of_getElem? (i := 111) rfl)) rfl
set_option maxRecDepth 20000 in
theorem tb_940 : Cond.code yX7_nextSeed cX7_nextSeed 1 (some .int) ∈ TBL := tb_seg (ts_4 _ (List.mem_of_getElem? (i := 112) rfl)) rfl
set_option maxRecDepth 20000 in
theorem tb_941 : Cond.constant RX7 350 (1103515245 : Int32) ∈ TBL := tb_seg (ts_4 _ (List.mem_of_getElem? (i := 113) rfl)) rfl
set_option maxRecDepth 20000 in
theorem tb_942 : Cond.methodLink RX7 285 yX7_figureOf ∈ TBL := tb_seg (ts_4 _ (List.mem_of_getElem? (i := 114) rfl)) rfl
set_option maxRecDepth 20000 in
theorem tb_943 : Cond.static yX7_figureOf ∈ TBL := tb_seg (ts_4 _ (List.mem_of_getElem? (i := 115) rfl)) rfl
set_option maxRecDepth 20000 in
theorem tb_944 : Cond.code yX7_figureOf cX7_figureOf 1 (some .int) ∈ TBL := tb_seg (ts_4 _ (List.mem_of_getElem? (i := 116) rfl)) rfl
set_option maxRecDepth 20000 in
theorem tb_949 : Cond.methodLink RX7 288 yX7_isImage ∈ TBL := tb_seg (ts_4 _ (List.mem_of_getElem? (i := 121) rfl)) rfl
set_option maxRecDepth 20000 in
theorem tb_950 : Cond.static yX7_isImage ∈ TBL := tb_seg (ts_4 _ (List.mem_of_getElem? (i := 122) rfl)) rfl
set_option maxRecDepth 20000 in
theorem tb_951 : Cond.code yX7_isImage cX7_isImage 1 (some .boolean) ∈ TBL := tb_seg (ts_4 _ (List.mem_of_getElem? (i := 123) rfl)) rfl
set_option maxRecDepth 20000 in
theorem tb_952 : Cond.methodLink RX7 291 yX7_imageOf ∈ TBL := tb_seg (ts_4 _ (List.mem_of_getElem? (i := 124) rfl)) rfl
set_option maxRecDepth 20000 in
theorem tb_954 : Cond.instanceMethod yX7_imageOf ∈ TBL := tb_seg (ts_4 _ (List.mem_of_getElem? (i := 126) rfl)) rfl
set_option maxRecDepth 20000 in
theorem tb_955 : Cond.code yX7_imageOf cX7_imageOf 2 (some (.object "MailCatch$Told")) ∈ TBL := tb_seg (ts_4 _ (List.mem_of_getElem? (i := 127) rfl)) rfl
set_option maxRecDepth 20000 in
theorem tb_964 : Cond.methodLink RX7 295 yX7_isSheet ∈ TBL := tb_seg (ts_4 _ (List.mem_of_getElem? (i := 136) rfl)) rfl
set_option maxRecDepth 20000 in
theorem tb_965 : Cond.static yX7_isSheet ∈ TBL := tb_seg (ts_4 _ (List.mem_of_getElem? (i := 137) rfl)) rfl
set_option maxRecDepth 20000 in
theorem tb_966 : Cond.code yX7_isSheet cX7_isSheet 1 (some .boolean) ∈ TBL := tb_seg (ts_4 _ (List.mem_of_getElem? (i := 138) rfl)) rfl
set_option maxRecDepth 20000 in
theorem tb_967 : Cond.methodLink RX7 298 yX7_isLane ∈ TBL := tb_seg (ts_4 _ (List.mem_of_getElem? (i := 139) rfl)) rfl
set_option maxRecDepth 20000 in
theorem tb_968 : Cond.static yX7_isLane ∈ TBL := tb_seg (ts_4 _ (List.mem_of_getElem? (i := 140) rfl)) rfl
set_option maxRecDepth 20000 in
theorem tb_969 : Cond.code yX7_isLane cX7_isLane 1 (some .boolean) ∈ TBL := tb_seg (ts_4 _ (List.mem_of_getElem? (i := 141) rfl)) rfl
set_option maxRecDepth 20000 in
theorem tb_972 : Cond.instanceMethod yX4_renew ∈ TBL := tb_seg (ts_4 _ (List.mem_of_getElem? (i := 144) rfl)) rfl
set_option maxRecDepth 20000 in
theorem tb_973 : Cond.code yX4_renew cX4_renew 5 none ∈ TBL := tb_seg (ts_4 _ (List.mem_of_getElem? (i := 145) rfl)) rfl
set_option maxRecDepth 20000 in
theorem tb_981 : Cond.instanceMethod yX4_faultOfCell ∈ TBL := tb_seg (ts_4 _ (List.mem_of_getElem? (i := 153) rfl)) rfl
set_option maxRecDepth 20000 in
theorem tb_982 : Cond.code yX4_faultOfCell cX4_faultOfCell 3 (some .int) ∈ TBL := tb_seg (ts_4 _ (List.mem_of_getElem? (i := 154) rfl)) rfl
set_option maxRecDepth 20000 in
theorem tb_986 : Cond.instanceMethod yX4_write ∈ TBL := tb_seg (ts_4 _ (List.mem_of_getElem? (i := 158) rfl)) rfl
set_option maxRecDepth 20000 in
theorem tb_987 : Cond.code yX4_write cX4_write 5 none ∈ TBL := tb_seg (ts_4 _ (List.mem_of_getElem? (i := 159) rfl)) rfl
set_option maxRecDepth 20000 in
theorem tb_994 : Cond.instanceMethod yX4_faultOfLane ∈ TBL := tb_seg (ts_4 _ (List.mem_of_getElem? (i := 166) rfl)) rfl
set_option maxRecDepth 20000 in
theorem tb_995 : Cond.code yX4_faultOfLane cX4_faultOfLane 3 (some .int) ∈ TBL := tb_seg (ts_4 _ (List.mem_of_getElem? (i := 167) rfl)) rfl
set_option maxRecDepth 20000 in
theorem tb_996 : Cond.methodLink RX7 313 arraycopyName ∈ TBL := tb_seg (ts_4 _ (List.mem_of_getElem? (i := 168) rfl)) rfl
set_option maxRecDepth 20000 in
theorem tb_999 : Cond.instanceMethod yX4_faultOfPair ∈ TBL := tb_seg (ts_4 _ (List.mem_of_getElem? (i := 171) rfl)) rfl
set_option maxRecDepth 20000 in
theorem tb_1000 : Cond.code yX4_faultOfPair cX4_faultOfPair 4 (some .int) ∈ TBL := tb_seg (ts_4 _ (List.mem_of_getElem? (i := 172) rfl)) rfl
set_option maxRecDepth 20000 in
theorem tb_1001 : Cond.methodLink RX4 32 yX4_faultOfCell ∈ TBL := tb_seg (ts_4 _ (List.mem_of_getElem? (i := 173) rfl)) rfl
set_option maxRecDepth 20000 in
theorem tb_1004 : Cond.instanceMethod yX4_cell ∈ TBL := tb_seg (ts_4 _ (List.mem_of_getElem? (i := 176) rfl)) rfl
set_option maxRecDepth 20000 in
theorem tb_1005 : Cond.code yX4_cell cX4_cell 3 (some .int) ∈ TBL := tb_seg (ts_4 _ (List.mem_of_getElem? (i := 177) rfl)) rfl
set_option maxRecDepth 20000 in
theorem tb_1014 : Cond.methodLink RX7 328 yJ6_bitCount_0f7a4 ∈ TBL := tb_seg (ts_4 _ (List.mem_of_getElem? (i := 186) rfl)) rfl
set_option maxRecDepth 20000 in
theorem tb_1015 : Cond.static yJ6_bitCount_0f7a4 ∈ TBL := tb_seg (ts_4 _ (List.mem_of_getElem? (i := 187) rfl)) rfl
set_option maxRecDepth 20000 in
theorem tb_1016 : Cond.code yJ6_bitCount_0f7a4 cJ6_bitCount_0f7a4 1 (some .int) ∈ TBL := tb_seg (ts_4 _ (List.mem_of_getElem? (i := 188) rfl)) rfl
set_option maxRecDepth 20000 in
theorem tb_1017 : Cond.constant RJ6 265 (1431655765 : Int32) ∈ TBL := tb_seg (ts_4 _ (List.mem_of_getElem? (i := 189) rfl)) rfl
set_option maxRecDepth 20000 in
theorem tb_1018 : Cond.constant RJ6 266 (858993459 : Int32) ∈ TBL := tb_seg (ts_4 _ (List.mem_of_getElem? (i := 190) rfl)) rfl
set_option maxRecDepth 20000 in
theorem tb_1019 : Cond.constant RJ6 267 (252645135 : Int32) ∈ TBL := tb_seg (ts_4 _ (List.mem_of_getElem? (i := 191) rfl)) rfl
set_option maxRecDepth 20000 in
theorem tb_1022 : Cond.instanceMethod yX4_cellsOf ∈ TBL := tb_seg (ts_4 _ (List.mem_of_getElem? (i := 194) rfl)) rfl
set_option maxRecDepth 20000 in
theorem tb_1023 : Cond.code yX4_cellsOf cX4_cellsOf 2 (some .int) ∈ TBL := tb_seg (ts_4 _ (List.mem_of_getElem? (i := 195) rfl)) rfl
set_option maxRecDepth 20000 in
theorem tb_1026 : Cond.instanceMethod yX6_allLetters ∈ TBL := tb_seg (ts_4 _ (List.mem_of_getElem? (i := 198) rfl)) rfl
set_option maxRecDepth 20000 in
theorem tb_1027 : Cond.code yX6_allLetters cX6_allLetters 3 (some .int) ∈ TBL := tb_seg (ts_4 _ (List.mem_of_getElem? (i := 199) rfl)) rfl
set_option maxRecDepth 20000 in
theorem tb_1034 : Cond.fieldLink RX8 7 RX8 "state" "[I" ∈ TBL := tb_seg (ts_4 _ (List.mem_of_getElem? (i := 206) rfl)) rfl
set_option maxRecDepth 20000 in
theorem tb_1035 : Cond.fieldLink RX8 13 RX8 "joints" "I" ∈ TBL := tb_seg (ts_4 _ (List.mem_of_getElem? (i := 207) rfl)) rfl
set_option maxRecDepth 20000 in
theorem tb_1036 : Cond.fieldLink RX8 17 RX8 "arms" "[I" ∈ TBL := tb_seg (ts_4 _ (List.mem_of_getElem? (i := 208) rfl)) rfl
set_option maxRecDepth 20000 in
theorem tb_1037 : Cond.fieldLink RX8 167 RX8 "armMany" "I" ∈ TBL := tb_seg (ts_4 _ (List.mem_of_getElem? (i := 209) rfl)) rfl
set_option maxRecDepth 20000 in
theorem tb_1038 : Cond.fieldLink RX8 20 RX8 "marks" "[I" ∈ TBL := tb_seg (ts_4 _ (List.mem_of_getElem? (i := 210) rfl)) rfl
set_option maxRecDepth 20000 in
theorem tb_1039 : Cond.fieldLink RX8 170 RX8 "markMany" "I" ∈ TBL := tb_seg (ts_4 _ (List.mem_of_getElem? (i := 211) rfl)) rfl
set_option maxRecDepth 20000 in
theorem tb_1040 : Cond.fieldLink RX8 23 RX8 "towns" "[I" ∈ TBL := tb_seg (ts_4 _ (List.mem_of_getElem? (i := 212) rfl)) rfl
set_option maxRecDepth 20000 in
theorem tb_1041 : Cond.fieldLink RX8 173 RX8 "townMany" "I" ∈ TBL := tb_seg (ts_4 _ (List.mem_of_getElem? (i := 213) rfl)) rfl
set_option maxRecDepth 20000 in
theorem tb_1042 : Cond.fieldLink RX8 26 RX8 "costs" "[I" ∈ TBL := tb_seg (ts_4 _ (List.mem_of_getElem? (i := 214) rfl)) rfl
set_option maxRecDepth 20000 in
theorem tb_1043 : Cond.fieldLink RX8 29 RX8 "readPage" "[I" ∈ TBL := tb_seg (ts_4 _ (List.mem_of_getElem? (i := 215) rfl)) rfl
set_option maxRecDepth 20000 in
theorem tb_1044 : Cond.fieldLink RX8 32 RX8 "readArms" "[I" ∈ TBL := tb_seg (ts_4 _ (List.mem_of_getElem? (i := 216) rfl)) rfl
set_option maxRecDepth 20000 in
theorem tb_1045 : Cond.fieldLink RX8 35 RX8 "readMarks" "[I" ∈ TBL := tb_seg (ts_4 _ (List.mem_of_getElem? (i := 217) rfl)) rfl
set_option maxRecDepth 20000 in
theorem tb_1046 : Cond.fieldLink RX8 38 RX8 "readTowns" "[I" ∈ TBL := tb_seg (ts_4 _ (List.mem_of_getElem? (i := 218) rfl)) rfl
set_option maxRecDepth 20000 in
theorem tb_1047 : Cond.fieldLink RX8 41 RX8 "readCosts" "[I" ∈ TBL := tb_seg (ts_4 _ (List.mem_of_getElem? (i := 219) rfl)) rfl
set_option maxRecDepth 20000 in
theorem tb_1048 : Cond.fieldLink RX8 124 RX8 "readJoints" "I" ∈ TBL := tb_seg (ts_4 _ (List.mem_of_getElem? (i := 220) rfl)) rfl
set_option maxRecDepth 20000 in
theorem tb_1049 : Cond.fieldLink RX8 134 RX8 "readArmMany" "I" ∈ TBL := tb_seg (ts_4 _ (List.mem_of_getElem? (i := 221) rfl)) rfl
set_option maxRecDepth 20000 in
theorem tb_1050 : Cond.fieldLink RX8 143 RX8 "readMarkMany" "I" ∈ TBL := tb_seg (ts_4 _ (List.mem_of_getElem? (i := 222) rfl)) rfl
set_option maxRecDepth 20000 in
theorem tb_1051 : Cond.fieldLink RX8 146 RX8 "readTownMany" "I" ∈ TBL := tb_seg (ts_4 _ (List.mem_of_getElem? (i := 223) rfl)) rfl
set_option maxRecDepth 20000 in
theorem tb_1052 : Cond.fieldLink RX8 149 RX8 "toldOnce" "I" ∈ TBL := tb_seg (ts_4 _ (List.mem_of_getElem? (i := 224) rfl)) rfl
set_option maxRecDepth 20000 in
theorem tb_1053 : Cond.fieldLink RX8 137 RX8 "armsTold" "I" ∈ TBL := tb_seg (ts_4 _ (List.mem_of_getElem? (i := 225) rfl)) rfl
set_option maxRecDepth 20000 in
theorem tb_1054 : Cond.fieldLink RX8 140 RX8 "marksTold" "I" ∈ TBL := tb_seg (ts_4 _ (List.mem_of_getElem? (i := 226) rfl)) rfl
set_option maxRecDepth 20000 in
theorem tb_1055 : Cond.fieldLink RX8 121 RX8 "highJoint" "I" ∈ TBL := tb_seg (ts_4 _ (List.mem_of_getElem? (i := 227) rfl)) rfl
set_option maxRecDepth 20000 in
theorem tb_1056 : Cond.fieldLink RX8 44 RX8 "tape" "[I" ∈ TBL := tb_seg (ts_4 _ (List.mem_of_getElem? (i := 228) rfl)) rfl
set_option maxRecDepth 20000 in
theorem tb_1057 : Cond.fieldLink RX8 75 RX8 "taped" "I" ∈ TBL := tb_seg (ts_4 _ (List.mem_of_getElem? (i := 229) rfl)) rfl
set_option maxRecDepth 20000 in
theorem tb_1058 : Cond.fieldLink RX8 164 RX8 "fault" "I" ∈ TBL := tb_seg (ts_4 _ (List.mem_of_getElem? (i := 230) rfl)) rfl
set_option maxRecDepth 20000 in
theorem tb_1059 : Cond.fieldLink RX8 78 RX8 "broken" "I" ∈ TBL := tb_seg (ts_4 _ (List.mem_of_getElem? (i := 231) rfl)) rfl
set_option maxRecDepth 20000 in
theorem tb_1060 : Cond.fieldLink RX8 84 RX8 "brokenAt" "I" ∈ TBL := tb_seg (ts_4 _ (List.mem_of_getElem? (i := 232) rfl)) rfl
set_option maxRecDepth 20000 in
theorem tb_1061 : Cond.fieldLink RX8 90 RX8 "spot" "I" ∈ TBL := tb_seg (ts_4 _ (List.mem_of_getElem? (i := 233) rfl)) rfl
set_option maxRecDepth 20000 in
theorem tb_1062 : Cond.fieldLink RX8 81 RX8 "here" "I" ∈ TBL := tb_seg (ts_4 _ (List.mem_of_getElem? (i := 234) rfl)) rfl
set_option maxRecDepth 20000 in
theorem tb_1063 : Cond.fieldLink RX8 87 RX8 "token" "I" ∈ TBL := tb_seg (ts_4 _ (List.mem_of_getElem? (i := 235) rfl)) rfl
set_option maxRecDepth 20000 in
theorem tb_1064 : Cond.fieldLink RX8 97 RX8 "value" "I" ∈ TBL := tb_seg (ts_4 _ (List.mem_of_getElem? (i := 236) rfl)) rfl
set_option maxRecDepth 20000 in
theorem tb_1065 : Cond.fieldLink RX8 47 RX8 "cuts" "[I" ∈ TBL := tb_seg (ts_4 _ (List.mem_of_getElem? (i := 237) rfl)) rfl
set_option maxRecDepth 20000 in
theorem tb_1066 : Cond.fieldLink RX8 50 RX8 "letters" "[I" ∈ TBL := tb_seg (ts_4 _ (List.mem_of_getElem? (i := 238) rfl)) rfl
set_option maxRecDepth 20000 in
theorem tb_1067 : Cond.fieldLink RX8 213 RX8 "count" "I" ∈ TBL := tb_seg (ts_4 _ (List.mem_of_getElem? (i := 239) rfl)) rfl
set_option maxRecDepth 20000 in
theorem tb_1068 : Cond.fieldLink RX8 216 RX8 "outAt" "I" ∈ TBL := tb_seg (ts_5 _ (List.mem_of_getElem? (i := 0) rfl)) rfl
set_option maxRecDepth 20000 in
theorem tb_1069 : Cond.fieldLink RX8 219 RX8 "inAt" "I" ∈ TBL := tb_seg (ts_5 _ (List.mem_of_getElem? (i := 1) rfl)) rfl
set_option maxRecDepth 20000 in
theorem tb_1070 : Cond.fieldLink RX8 222 RX8 "met" "I" ∈ TBL := tb_seg (ts_5 _ (List.mem_of_getElem? (i := 2) rfl)) rfl
set_option maxRecDepth 20000 in
theorem tb_1071 : Cond.fieldLink RX8 225 RX8 "hit" "I" ∈ TBL := tb_seg (ts_5 _ (List.mem_of_getElem? (i := 3) rfl)) rfl
set_option maxRecDepth 20000 in
theorem tb_1072 : Cond.fieldLink RX8 228 RX8 "isTorn" "I" ∈ TBL := tb_seg (ts_5 _ (List.mem_of_getElem? (i := 4) rfl)) rfl
set_option maxRecDepth 20000 in
theorem tb_1073 : Cond.fieldLink RX8 231 RX8 "passed" "I" ∈ TBL := tb_seg (ts_5 _ (List.mem_of_getElem? (i := 5) rfl)) rfl
set_option maxRecDepth 20000 in
theorem tb_1074 : Cond.fieldLink RX8 53 RX8 "seen" "[I" ∈ TBL := tb_seg (ts_5 _ (List.mem_of_getElem? (i := 6) rfl)) rfl
set_option maxRecDepth 20000 in
theorem tb_1075 : Cond.fieldLink RX8 176 RX8 "seenMany" "I" ∈ TBL := tb_seg (ts_5 _ (List.mem_of_getElem? (i := 7) rfl)) rfl
set_option maxRecDepth 20000 in
theorem tb_1076 : Cond.fieldLink RX8 56 RX8 "isKept" "[Z" ∈ TBL := tb_seg (ts_5 _ (List.mem_of_getElem? (i := 8) rfl)) rfl
set_option maxRecDepth 20000 in
theorem tb_1077 : Cond.fieldLink RX8 60 RX8 "lanes" "[I" ∈ TBL := tb_seg (ts_5 _ (List.mem_of_getElem? (i := 9) rfl)) rfl
set_option maxRecDepth 20000 in
theorem tb_1078 : Cond.fieldLink RX8 63 RX8 "lengths" "[I" ∈ TBL := tb_seg (ts_5 _ (List.mem_of_getElem? (i := 10) rfl)) rfl
set_option maxRecDepth 20000 in
theorem tb_1079 : Cond.fieldLink RX8 66 RX8 "cells" "[I" ∈ TBL := tb_seg (ts_5 _ (List.mem_of_getElem? (i := 11) rfl)) rfl
set_option maxRecDepth 20000 in
theorem tb_1080 : Cond.fieldLink RX8 309 RX8 "splits" "I" ∈ TBL := tb_seg (ts_5 _ (List.mem_of_getElem? (i := 12) rfl)) rfl
set_option maxRecDepth 20000 in
theorem tb_1181 : Cond.constantLong RX8 69 (127 : Int64) ∈ TBL := tb_seg (ts_5 _ (List.mem_of_getElem? (i := 113) rfl)) rfl
set_option maxRecDepth 20000 in
theorem tb_1182 : Cond.methodLink RX8 71 yX8_in ∈ TBL := tb_seg (ts_5 _ (List.mem_of_getElem? (i := 114) rfl)) rfl
set_option maxRecDepth 20000 in
theorem tb_1183 : Cond.static yX8_in ∈ TBL := tb_seg (ts_5 _ (List.mem_of_getElem? (i := 115) rfl)) rfl
set_option maxRecDepth 20000 in
theorem tb_1184 : Cond.code yX8_in cX8_in 6 (some .boolean) ∈ TBL := tb_seg (ts_5 _ (List.mem_of_getElem? (i := 116) rfl)) rfl
set_option maxRecDepth 20000 in
theorem tb_1193 : Cond.methodLink RX8 158 yX8_begins ∈ TBL := tb_seg (ts_5 _ (List.mem_of_getElem? (i := 125) rfl)) rfl
set_option maxRecDepth 20000 in
theorem tb_1195 : Cond.instanceMethod yX8_begins ∈ TBL := tb_seg (ts_5 _ (List.mem_of_getElem? (i := 127) rfl)) rfl
set_option maxRecDepth 20000 in
theorem tb_1196 : Cond.code yX8_begins cX8_begins 2 none ∈ TBL := tb_seg (ts_5 _ (List.mem_of_getElem? (i := 128) rfl)) rfl
set_option maxRecDepth 20000 in
theorem tb_1197 : Cond.methodLink RX8 112 yX8_step ∈ TBL := tb_seg (ts_5 _ (List.mem_of_getElem? (i := 129) rfl)) rfl
set_option maxRecDepth 20000 in
theorem tb_1199 : Cond.instanceMethod yX8_step ∈ TBL := tb_seg (ts_5 _ (List.mem_of_getElem? (i := 131) rfl)) rfl
set_option maxRecDepth 20000 in
theorem tb_1200 : Cond.code yX8_step cX8_step 2 none ∈ TBL := tb_seg (ts_5 _ (List.mem_of_getElem? (i := 132) rfl)) rfl
set_option maxRecDepth 20000 in
theorem tb_1201 : Cond.methodLink RX8 93 yX8_byteAt ∈ TBL := tb_seg (ts_5 _ (List.mem_of_getElem? (i := 133) rfl)) rfl
set_option maxRecDepth 20000 in
theorem tb_1203 : Cond.instanceMethod yX8_byteAt ∈ TBL := tb_seg (ts_5 _ (List.mem_of_getElem? (i := 135) rfl)) rfl
set_option maxRecDepth 20000 in
theorem tb_1204 : Cond.code yX8_byteAt cX8_byteAt 2 (some .int) ∈ TBL := tb_seg (ts_5 _ (List.mem_of_getElem? (i := 136) rfl)) rfl
set_option maxRecDepth 20000 in
theorem tb_1205 : Cond.constantLong RX8 100 (97 : Int64) ∈ TBL := tb_seg (ts_5 _ (List.mem_of_getElem? (i := 137) rfl)) rfl
set_option maxRecDepth 20000 in
theorem tb_1206 : Cond.constantLong RX8 102 (122 : Int64) ∈ TBL := tb_seg (ts_5 _ (List.mem_of_getElem? (i := 138) rfl)) rfl
set_option maxRecDepth 20000 in
theorem tb_1207 : Cond.constantLong RX8 104 (48 : Int64) ∈ TBL := tb_seg (ts_5 _ (List.mem_of_getElem? (i := 139) rfl)) rfl
set_option maxRecDepth 20000 in
theorem tb_1208 : Cond.constantLong RX8 106 (57 : Int64) ∈ TBL := tb_seg (ts_5 _ (List.mem_of_getElem? (i := 140) rfl)) rfl
set_option maxRecDepth 20000 in
theorem tb_1209 : Cond.methodLink RX8 108 yX8_fails ∈ TBL := tb_seg (ts_5 _ (List.mem_of_getElem? (i := 141) rfl)) rfl
set_option maxRecDepth 20000 in
theorem tb_1211 : Cond.instanceMethod yX8_fails ∈ TBL := tb_seg (ts_5 _ (List.mem_of_getElem? (i := 143) rfl)) rfl
set_option maxRecDepth 20000 in
theorem tb_1212 : Cond.code yX8_fails cX8_fails 2 none ∈ TBL := tb_seg (ts_5 _ (List.mem_of_getElem? (i := 144) rfl)) rfl
set_option maxRecDepth 20000 in
theorem tb_1213 : Cond.methodLink RX8 161 yX8_readLine ∈ TBL := tb_seg (ts_5 _ (List.mem_of_getElem? (i := 145) rfl)) rfl
set_option maxRecDepth 20000 in
theorem tb_1215 : Cond.instanceMethod yX8_readLine ∈ TBL := tb_seg (ts_5 _ (List.mem_of_getElem? (i := 147) rfl)) rfl
set_option maxRecDepth 20000 in
theorem tb_1216 : Cond.code yX8_readLine cX8_readLine 2 none ∈ TBL := tb_seg (ts_5 _ (List.mem_of_getElem? (i := 148) rfl)) rfl
set_option maxRecDepth 20000 in
theorem tb_1217 : Cond.methodLink RX8 130 yX8_nameHere ∈ TBL := tb_seg (ts_5 _ (List.mem_of_getElem? (i := 149) rfl)) rfl
set_option maxRecDepth 20000 in
theorem tb_1219 : Cond.instanceMethod yX8_nameHere ∈ TBL := tb_seg (ts_5 _ (List.mem_of_getElem? (i := 151) rfl)) rfl
set_option maxRecDepth 20000 in
theorem tb_1220 : Cond.code yX8_nameHere cX8_nameHere 4 (some .int) ∈ TBL := tb_seg (ts_5 _ (List.mem_of_getElem? (i := 152) rfl)) rfl
set_option maxRecDepth 20000 in
theorem tb_1221 : Cond.constantLong RX8 115 (10 : Int64) ∈ TBL := tb_seg (ts_5 _ (List.mem_of_getElem? (i := 153) rfl)) rfl
set_option maxRecDepth 20000 in
theorem tb_1222 : Cond.methodLink RX8 152 yX8_readOnce ∈ TBL := tb_seg (ts_5 _ (List.mem_of_getElem? (i := 154) rfl)) rfl
set_option maxRecDepth 20000 in
theorem tb_1224 : Cond.instanceMethod yX8_readOnce ∈ TBL := tb_seg (ts_5 _ (List.mem_of_getElem? (i := 156) rfl)) rfl
set_option maxRecDepth 20000 in
theorem tb_1225 : Cond.code yX8_readOnce cX8_readOnce 2 none ∈ TBL := tb_seg (ts_5 _ (List.mem_of_getElem? (i := 157) rfl)) rfl
set_option maxRecDepth 20000 in
theorem tb_1226 : Cond.methodLink RX8 117 yX8_number ∈ TBL := tb_seg (ts_5 _ (List.mem_of_getElem? (i := 158) rfl)) rfl
set_option maxRecDepth 20000 in
theorem tb_1228 : Cond.instanceMethod yX8_number ∈ TBL := tb_seg (ts_5 _ (List.mem_of_getElem? (i := 160) rfl)) rfl
set_option maxRecDepth 20000 in
theorem tb_1229 : Cond.code yX8_number cX8_number 4 (some .int) ∈ TBL := tb_seg (ts_5 _ (List.mem_of_getElem? (i := 161) rfl)) rfl
set_option maxRecDepth 20000 in
theorem tb_1230 : Cond.methodLink RX8 127 yX8_jointHere ∈ TBL := tb_seg (ts_5 _ (List.mem_of_getElem? (i := 162) rfl)) rfl
set_option maxRecDepth 20000 in
theorem tb_1232 : Cond.instanceMethod yX8_jointHere ∈ TBL := tb_seg (ts_5 _ (List.mem_of_getElem? (i := 164) rfl)) rfl
set_option maxRecDepth 20000 in
theorem tb_1233 : Cond.code yX8_jointHere cX8_jointHere 3 (some .int) ∈ TBL := tb_seg (ts_5 _ (List.mem_of_getElem? (i := 165) rfl)) rfl
set_option maxRecDepth 20000 in
theorem tb_1234 : Cond.methodLink RX8 155 yX8_readMore ∈ TBL := tb_seg (ts_5 _ (List.mem_of_getElem? (i := 166) rfl)) rfl
set_option maxRecDepth 20000 in
theorem tb_1236 : Cond.instanceMethod yX8_readMore ∈ TBL := tb_seg (ts_5 _ (List.mem_of_getElem? (i := 168) rfl)) rfl
set_option maxRecDepth 20000 in
theorem tb_1237 : Cond.code yX8_readMore cX8_readMore 4 none ∈ TBL := tb_seg (ts_5 _ (List.mem_of_getElem? (i := 169) rfl)) rfl
set_option maxRecDepth 20000 in
theorem tb_1246 : Cond.methodLink RX8 179 yX8_slip ∈ TBL := tb_seg (ts_5 _ (List.mem_of_getElem? (i := 178) rfl)) rfl
set_option maxRecDepth 20000 in
theorem tb_1248 : Cond.instanceMethod yX8_slip ∈ TBL := tb_seg (ts_5 _ (List.mem_of_getElem? (i := 180) rfl)) rfl
set_option maxRecDepth 20000 in
theorem tb_1249 : Cond.code yX8_slip cX8_slip 1 (some .int) ∈ TBL := tb_seg (ts_5 _ (List.mem_of_getElem? (i := 181) rfl)) rfl
set_option maxRecDepth 20000 in
theorem tb_1250 : Cond.methodLink RX8 182 yX8_pace ∈ TBL := tb_seg (ts_5 _ (List.mem_of_getElem? (i := 182) rfl)) rfl
set_option maxRecDepth 20000 in
theorem tb_1252 : Cond.instanceMethod yX8_pace ∈ TBL := tb_seg (ts_5 _ (List.mem_of_getElem? (i := 184) rfl)) rfl
set_option maxRecDepth 20000 in
theorem tb_1253 : Cond.code yX8_pace cX8_pace 1 (some .int) ∈ TBL := tb_seg (ts_5 _ (List.mem_of_getElem? (i := 185) rfl)) rfl
set_option maxRecDepth 20000 in
theorem tb_1254 : Cond.methodLink RX8 185 yX8_handMany ∈ TBL := tb_seg (ts_5 _ (List.mem_of_getElem? (i := 186) rfl)) rfl
set_option maxRecDepth 20000 in
theorem tb_1256 : Cond.instanceMethod yX8_handMany ∈ TBL := tb_seg (ts_5 _ (List.mem_of_getElem? (i := 188) rfl)) rfl
set_option maxRecDepth 20000 in
theorem tb_1257 : Cond.code yX8_handMany cX8_handMany 1 (some .int) ∈ TBL := tb_seg (ts_5 _ (List.mem_of_getElem? (i := 189) rfl)) rfl
set_option maxRecDepth 20000 in
theorem tb_1262 : Cond.methodLink RX8 188 yX8_isArm ∈ TBL := tb_seg (ts_5 _ (List.mem_of_getElem? (i := 194) rfl)) rfl
set_option maxRecDepth 20000 in
theorem tb_1264 : Cond.instanceMethod yX8_isArm ∈ TBL := tb_seg (ts_5 _ (List.mem_of_getElem? (i := 196) rfl)) rfl
set_option maxRecDepth 20000 in
theorem tb_1265 : Cond.code yX8_isArm cX8_isArm 2 (some .boolean) ∈ TBL := tb_seg (ts_5 _ (List.mem_of_getElem? (i := 197) rfl)) rfl
set_option maxRecDepth 20000 in
theorem tb_1266 : Cond.methodLink RX8 192 yX8_holdsOf ∈ TBL := tb_seg (ts_5 _ (List.mem_of_getElem? (i := 198) rfl)) rfl
set_option maxRecDepth 20000 in
theorem tb_1268 : Cond.instanceMethod yX8_holdsOf ∈ TBL := tb_seg (ts_5 _ (List.mem_of_getElem? (i := 200) rfl)) rfl
set_option maxRecDepth 20000 in
theorem tb_1269 : Cond.code yX8_holdsOf cX8_holdsOf 4 (some .int) ∈ TBL := tb_seg (ts_5 _ (List.mem_of_getElem? (i := 201) rfl)) rfl
set_option maxRecDepth 20000 in
theorem tb_1282 : Cond.methodLink RX8 195 yX8_lays ∈ TBL := tb_seg (ts_5 _ (List.mem_of_getElem? (i := 214) rfl)) rfl
set_option maxRecDepth 20000 in
theorem tb_1284 : Cond.instanceMethod yX8_lays ∈ TBL := tb_seg (ts_5 _ (List.mem_of_getElem? (i := 216) rfl)) rfl
set_option maxRecDepth 20000 in
theorem tb_1285 : Cond.code yX8_lays cX8_lays 6 (some .int) ∈ TBL := tb_seg (ts_5 _ (List.mem_of_getElem? (i := 217) rfl)) rfl
set_option maxRecDepth 20000 in
theorem tb_1286 : Cond.constantLong RX8 199 (9 : Int64) ∈ TBL := tb_seg (ts_5 _ (List.mem_of_getElem? (i := 218) rfl)) rfl
set_option maxRecDepth 20000 in
theorem tb_1291 : Cond.constantLong RX8 201 (11 : Int64) ∈ TBL := tb_seg (ts_5 _ (List.mem_of_getElem? (i := 223) rfl)) rfl
set_option maxRecDepth 20000 in
theorem tb_1296 : Cond.methodLink RX8 203 yX8_isJoint ∈ TBL := tb_seg (ts_5 _ (List.mem_of_getElem? (i := 228) rfl)) rfl
set_option maxRecDepth 20000 in
theorem tb_1298 : Cond.instanceMethod yX8_isJoint ∈ TBL := tb_seg (ts_5 _ (List.mem_of_getElem? (i := 230) rfl)) rfl
set_option maxRecDepth 20000 in
theorem tb_1299 : Cond.code yX8_isJoint cX8_isJoint 2 (some .boolean) ∈ TBL := tb_seg (ts_5 _ (List.mem_of_getElem? (i := 231) rfl)) rfl
set_option maxRecDepth 20000 in
theorem tb_1312 : Cond.constantLong RX8 206 (4 : Int64) ∈ TBL := tb_seg (ts_6 _ (List.mem_of_getElem? (i := 4) rfl)) rfl
set_option maxRecDepth 20000 in
theorem tb_1317 : Cond.methodLink RX8 210 yX8_posts ∈ TBL := tb_seg (ts_6 _ (List.mem_of_getElem? (i := 9) rfl)) rfl
set_option maxRecDepth 20000 in
theorem tb_1319 : Cond.instanceMethod yX8_posts ∈ TBL := tb_seg (ts_6 _ (List.mem_of_getElem? (i := 11) rfl)) rfl
set_option maxRecDepth 20000 in
theorem tb_1320 : Cond.code yX8_posts cX8_posts 3 (some .int) ∈ TBL := tb_seg (ts_6 _ (List.mem_of_getElem? (i := 12) rfl)) rfl
set_option maxRecDepth 20000 in
theorem tb_1321 : Cond.constantLong RX8 208 (99 : Int64) ∈ TBL := tb_seg (ts_6 _ (List.mem_of_getElem? (i := 13) rfl)) rfl
set_option maxRecDepth 20000 in
theorem tb_1326 : Cond.methodLink RX8 238 yX8_areSets ∈ TBL := tb_seg (ts_6 _ (List.mem_of_getElem? (i := 18) rfl)) rfl
set_option maxRecDepth 20000 in
theorem tb_1328 : Cond.instanceMethod yX8_areSets ∈ TBL := tb_seg (ts_6 _ (List.mem_of_getElem? (i := 20) rfl)) rfl
set_option maxRecDepth 20000 in
theorem tb_1329 : Cond.code yX8_areSets cX8_areSets 3 (some .boolean) ∈ TBL := tb_seg (ts_6 _ (List.mem_of_getElem? (i := 21) rfl)) rfl
set_option maxRecDepth 20000 in
theorem tb_1330 : Cond.constantLong RX8 242 (5 : Int64) ∈ TBL := tb_seg (ts_6 _ (List.mem_of_getElem? (i := 22) rfl)) rfl
set_option maxRecDepth 20000 in
theorem tb_1331 : Cond.methodLink RX8 244 yX8_nights ∈ TBL := tb_seg (ts_6 _ (List.mem_of_getElem? (i := 23) rfl)) rfl
set_option maxRecDepth 20000 in
theorem tb_1333 : Cond.instanceMethod yX8_nights ∈ TBL := tb_seg (ts_6 _ (List.mem_of_getElem? (i := 25) rfl)) rfl
set_option maxRecDepth 20000 in
theorem tb_1334 : Cond.code yX8_nights cX8_nights 6 none ∈ TBL := tb_seg (ts_6 _ (List.mem_of_getElem? (i := 26) rfl)) rfl
set_option maxRecDepth 20000 in
theorem tb_1335 : Cond.methodLink RX8 234 yX8_counted ∈ TBL := tb_seg (ts_6 _ (List.mem_of_getElem? (i := 27) rfl)) rfl
set_option maxRecDepth 20000 in
theorem tb_1337 : Cond.instanceMethod yX8_counted ∈ TBL := tb_seg (ts_6 _ (List.mem_of_getElem? (i := 29) rfl)) rfl
set_option maxRecDepth 20000 in
theorem tb_1338 : Cond.code yX8_counted cX8_counted 5 none ∈ TBL := tb_seg (ts_6 _ (List.mem_of_getElem? (i := 30) rfl)) rfl
set_option maxRecDepth 20000 in
theorem tb_1339 : Cond.methodLink RX8 248 yX8_nightTold ∈ TBL := tb_seg (ts_6 _ (List.mem_of_getElem? (i := 31) rfl)) rfl
set_option maxRecDepth 20000 in
theorem tb_1341 : Cond.instanceMethod yX8_nightTold ∈ TBL := tb_seg (ts_6 _ (List.mem_of_getElem? (i := 33) rfl)) rfl
set_option maxRecDepth 20000 in
theorem tb_1342 : Cond.code yX8_nightTold cX8_nightTold 2 (some .int) ∈ TBL := tb_seg (ts_6 _ (List.mem_of_getElem? (i := 34) rfl)) rfl
set_option maxRecDepth 20000 in
theorem tb_1347 : Cond.methodLink RX8 251 yX8_countAt ∈ TBL := tb_seg (ts_6 _ (List.mem_of_getElem? (i := 39) rfl)) rfl
set_option maxRecDepth 20000 in
theorem tb_1349 : Cond.instanceMethod yX8_countAt ∈ TBL := tb_seg (ts_6 _ (List.mem_of_getElem? (i := 41) rfl)) rfl
set_option maxRecDepth 20000 in
theorem tb_1350 : Cond.code yX8_countAt cX8_countAt 5 (some .int) ∈ TBL := tb_seg (ts_6 _ (List.mem_of_getElem? (i := 42) rfl)) rfl
set_option maxRecDepth 20000 in
theorem tb_1355 : Cond.methodLink RX8 284 yX8_meanOf ∈ TBL := tb_seg (ts_6 _ (List.mem_of_getElem? (i := 47) rfl)) rfl
set_option maxRecDepth 20000 in
theorem tb_1357 : Cond.instanceMethod yX8_meanOf ∈ TBL := tb_seg (ts_6 _ (List.mem_of_getElem? (i := 49) rfl)) rfl
set_option maxRecDepth 20000 in
theorem tb_1358 : Cond.code yX8_meanOf cX8_meanOf 5 (some .long) ∈ TBL := tb_seg (ts_6 _ (List.mem_of_getElem? (i := 50) rfl)) rfl
set_option maxRecDepth 20000 in
theorem tb_1359 : Cond.methodLink RX8 272 yX8_sumOf ∈ TBL := tb_seg (ts_6 _ (List.mem_of_getElem? (i := 51) rfl)) rfl
set_option maxRecDepth 20000 in
theorem tb_1361 : Cond.instanceMethod yX8_sumOf ∈ TBL := tb_seg (ts_6 _ (List.mem_of_getElem? (i := 53) rfl)) rfl
set_option maxRecDepth 20000 in
theorem tb_1362 : Cond.code yX8_sumOf cX8_sumOf 10 (some .long) ∈ TBL := tb_seg (ts_6 _ (List.mem_of_getElem? (i := 54) rfl)) rfl
set_option maxRecDepth 20000 in
theorem tb_1363 : Cond.methodLink RX8 264 yX8_weightOf ∈ TBL := tb_seg (ts_6 _ (List.mem_of_getElem? (i := 55) rfl)) rfl
set_option maxRecDepth 20000 in
theorem tb_1365 : Cond.instanceMethod yX8_weightOf ∈ TBL := tb_seg (ts_6 _ (List.mem_of_getElem? (i := 57) rfl)) rfl
set_option maxRecDepth 20000 in
theorem tb_1366 : Cond.code yX8_weightOf cX8_weightOf 6 (some .long) ∈ TBL := tb_seg (ts_6 _ (List.mem_of_getElem? (i := 58) rfl)) rfl
set_option maxRecDepth 20000 in
theorem tb_1367 : Cond.methodLink RX8 268 yX8_valueOf ∈ TBL := tb_seg (ts_6 _ (List.mem_of_getElem? (i := 59) rfl)) rfl
set_option maxRecDepth 20000 in
theorem tb_1369 : Cond.instanceMethod yX8_valueOf ∈ TBL := tb_seg (ts_6 _ (List.mem_of_getElem? (i := 61) rfl)) rfl
set_option maxRecDepth 20000 in
theorem tb_1370 : Cond.code yX8_valueOf cX8_valueOf 6 (some .int) ∈ TBL := tb_seg (ts_6 _ (List.mem_of_getElem? (i := 62) rfl)) rfl
set_option maxRecDepth 20000 in
theorem tb_1371 : Cond.methodLink RX8 255 yX8_bitsOf ∈ TBL := tb_seg (ts_6 _ (List.mem_of_getElem? (i := 63) rfl)) rfl
set_option maxRecDepth 20000 in
theorem tb_1372 : Cond.static yX8_bitsOf ∈ TBL := tb_seg (ts_6 _ (List.mem_of_getElem? (i := 64) rfl)) rfl
set_option maxRecDepth 20000 in
theorem tb_1373 : Cond.code yX8_bitsOf cX8_bitsOf 3 (some .int) ∈ TBL := tb_seg (ts_6 _ (List.mem_of_getElem? (i := 65) rfl)) rfl
set_option maxRecDepth 20000 in
theorem tb_1374 : Cond.methodLink RX8 258 yX8_worthNow ∈ TBL := tb_seg (ts_6 _ (List.mem_of_getElem? (i := 66) rfl)) rfl
set_option maxRecDepth 20000 in
theorem tb_1376 : Cond.instanceMethod yX8_worthNow ∈ TBL := tb_seg (ts_6 _ (List.mem_of_getElem? (i := 68) rfl)) rfl
set_option maxRecDepth 20000 in
theorem tb_1377 : Cond.code yX8_worthNow cX8_worthNow 3 (some .int) ∈ TBL := tb_seg (ts_6 _ (List.mem_of_getElem? (i := 69) rfl)) rfl
set_option maxRecDepth 20000 in
theorem tb_1378 : Cond.methodLink RX8 261 yX8_isAsSeen ∈ TBL := tb_seg (ts_6 _ (List.mem_of_getElem? (i := 70) rfl)) rfl
set_option maxRecDepth 20000 in
theorem tb_1380 : Cond.instanceMethod yX8_isAsSeen ∈ TBL := tb_seg (ts_6 _ (List.mem_of_getElem? (i := 72) rfl)) rfl
set_option maxRecDepth 20000 in
theorem tb_1381 : Cond.code yX8_isAsSeen cX8_isAsSeen 5 (some .boolean) ∈ TBL := tb_seg (ts_6 _ (List.mem_of_getElem? (i := 73) rfl)) rfl
set_option maxRecDepth 20000 in
theorem tb_1382 : Cond.methodLink RX8 276 yX8_allWeight ∈ TBL := tb_seg (ts_6 _ (List.mem_of_getElem? (i := 74) rfl)) rfl
set_option maxRecDepth 20000 in
theorem tb_1384 : Cond.instanceMethod yX8_allWeight ∈ TBL := tb_seg (ts_6 _ (List.mem_of_getElem? (i := 76) rfl)) rfl
set_option maxRecDepth 20000 in
theorem tb_1385 : Cond.code yX8_allWeight cX8_allWeight 5 (some .long) ∈ TBL := tb_seg (ts_6 _ (List.mem_of_getElem? (i := 77) rfl)) rfl
set_option maxRecDepth 20000 in
theorem tb_1386 : Cond.methodLink RX8 280 yX8_lowest ∈ TBL := tb_seg (ts_6 _ (List.mem_of_getElem? (i := 78) rfl)) rfl
set_option maxRecDepth 20000 in
theorem tb_1387 : Cond.static yX8_lowest ∈ TBL := tb_seg (ts_6 _ (List.mem_of_getElem? (i := 79) rfl)) rfl
set_option maxRecDepth 20000 in
theorem tb_1388 : Cond.code yX8_lowest cX8_lowest 11 (some .long) ∈ TBL := tb_seg (ts_6 _ (List.mem_of_getElem? (i := 80) rfl)) rfl
set_option maxRecDepth 20000 in
theorem tb_1389 : Cond.constantLong RX8 288 (-1 : Int64) ∈ TBL := tb_seg (ts_6 _ (List.mem_of_getElem? (i := 81) rfl)) rfl
set_option maxRecDepth 20000 in
theorem tb_1418 : Cond.constantLong RX8 290 (2 : Int64) ∈ TBL := tb_seg (ts_6 _ (List.mem_of_getElem? (i := 110) rfl)) rfl
set_option maxRecDepth 20000 in
theorem tb_1419 : Cond.methodLink RX8 292 yX8_copies ∈ TBL := tb_seg (ts_6 _ (List.mem_of_getElem? (i := 111) rfl)) rfl
set_option maxRecDepth 20000 in
theorem tb_1421 : Cond.instanceMethod yX8_copies ∈ TBL := tb_seg (ts_6 _ (List.mem_of_getElem? (i := 113) rfl)) rfl
set_option maxRecDepth 20000 in
theorem tb_1422 : Cond.code yX8_copies cX8_copies 4 none ∈ TBL := tb_seg (ts_6 _ (List.mem_of_getElem? (i := 114) rfl)) rfl
set_option maxRecDepth 20000 in
theorem tb_1427 : Cond.methodLink RX8 295 yX8_areTenths ∈ TBL := tb_seg (ts_6 _ (List.mem_of_getElem? (i := 119) rfl)) rfl
set_option maxRecDepth 20000 in
theorem tb_1428 : Cond.static yX8_areTenths ∈ TBL := tb_seg (ts_6 _ (List.mem_of_getElem? (i := 120) rfl)) rfl
set_option maxRecDepth 20000 in
theorem tb_1429 : Cond.code yX8_areTenths cX8_areTenths 1 (some .boolean) ∈ TBL := tb_seg (ts_6 _ (List.mem_of_getElem? (i := 121) rfl)) rfl
set_option maxRecDepth 20000 in
theorem tb_1430 : Cond.methodLink RX8 298 yX8_isHad ∈ TBL := tb_seg (ts_6 _ (List.mem_of_getElem? (i := 122) rfl)) rfl
set_option maxRecDepth 20000 in
theorem tb_1432 : Cond.instanceMethod yX8_isHad ∈ TBL := tb_seg (ts_6 _ (List.mem_of_getElem? (i := 124) rfl)) rfl
set_option maxRecDepth 20000 in
theorem tb_1433 : Cond.code yX8_isHad cX8_isHad 3 (some .boolean) ∈ TBL := tb_seg (ts_6 _ (List.mem_of_getElem? (i := 125) rfl)) rfl
set_option maxRecDepth 20000 in
theorem tb_1446 : Cond.methodLink RX8 301 yX8_minutesBy ∈ TBL := tb_seg (ts_6 _ (List.mem_of_getElem? (i := 138) rfl)) rfl
set_option maxRecDepth 20000 in
theorem tb_1448 : Cond.instanceMethod yX8_minutesBy ∈ TBL := tb_seg (ts_6 _ (List.mem_of_getElem? (i := 140) rfl)) rfl
set_option maxRecDepth 20000 in
theorem tb_1449 : Cond.code yX8_minutesBy cX8_minutesBy 5 (some .int) ∈ TBL := tb_seg (ts_6 _ (List.mem_of_getElem? (i := 141) rfl)) rfl
set_option maxRecDepth 20000 in
theorem tb_1478 : Cond.constant RX8 304 (1103515245 : Int32) ∈ TBL := tb_seg (ts_6 _ (List.mem_of_getElem? (i := 170) rfl)) rfl
set_option maxRecDepth 20000 in
theorem tb_1491 : Cond.constantLong RX8 305 (3 : Int64) ∈ TBL := tb_seg (ts_6 _ (List.mem_of_getElem? (i := 183) rfl)) rfl
set_option maxRecDepth 20000 in
theorem tb_1500 : Cond.constantLong RX8 307 (20 : Int64) ∈ TBL := tb_seg (ts_6 _ (List.mem_of_getElem? (i := 192) rfl)) rfl
set_option maxRecDepth 20000 in
theorem tb_1509 : Cond.fieldLink RJ0 9 "java/lang/String" "value" "[B" ∈ TBL := tb_seg (ts_6 _ (List.mem_of_getElem? (i := 201) rfl)) rfl
set_option maxRecDepth 20000 in
theorem tb_1510 : Cond.fieldLink RJ0 15 "java/lang/String" "coder" "B" ∈ TBL := tb_seg (ts_6 _ (List.mem_of_getElem? (i := 202) rfl)) rfl
