set_option maxRecDepth 20000 in
theorem lk_J0_335 : lkV RJ0 335 yJ0_coder_7d493 cJ0_coder_7d493 1 (some .byte) 0 := ⟨tb_443, tb_444, tb_445, tb_119, tb_446, ⟨by decide, by decide, by decide +kernel⟩⟩
set_option maxRecDepth 20000 in
theorem lk_J0_492 : lkV RJ0 492 yJ0_isLatin1_aae02 cJ0_isLatin1_aae02 1 (some .boolean) 0 := ⟨tb_453, tb_454, tb_455, tb_119, tb_456, ⟨by decide, by decide, by decide +kernel⟩⟩
set_option maxRecDepth 20000 in
theorem lk_J0_495 : lkS RJ0 495 yJ1_charAt_3b067 cJ1_charAt_3b067 2 (some .char) 2 := ⟨tb_457, tb_458, tb_120, tb_459, ⟨by decide, by decide, by decide +kernel⟩⟩
set_option maxRecDepth 20000 in
theorem lk_J0_1059 : lkS RJ0 1059 yJ3_checkIndex_8e157 cJ3_checkIndex_8e157 3 (some .int) 3 := ⟨tb_465, tb_466, tb_121, tb_467, ⟨by decide, by decide, by decide +kernel⟩⟩
set_option maxRecDepth 20000 in
theorem lk_J1_9 : lkS RJ1 9 yJ0_checkIndex_df160 cJ0_checkIndex_df160 2 none 2 := ⟨tb_460, tb_461, tb_119, tb_462, ⟨by decide, by decide, by decide +kernel⟩⟩
set_option maxRecDepth 20000 in
theorem lk_X0_39 : lkVN RX0 39 yX6_value "MailCatch" cX6_value 2 (some .int) 1 := ⟨(ts_3 _ (List.mem_of_getElem? (i := 134) rfl)), tb_502, tb_10, tb_110, tb_503, ⟨by decide, by decide, by decide +kernel⟩⟩
set_option maxRecDepth 20000 in
theorem lk_X0_55 : lkVN RX0 55 yX6_markAt "MailCatch" cX6_markAt 3 (some .int) 1 := ⟨(ts_3 _ (List.mem_of_getElem? (i := 138) rfl)), tb_554, tb_19, tb_110, tb_555, ⟨by decide, by decide, by decide +kernel⟩⟩
set_option maxRecDepth 20000 in
theorem lk_X0_62 : lkSN RX0 62 yX7_at "MailCatch" cX7_at 2 (some .int) 2 := ⟨(ts_3 _ (List.mem_of_getElem? (i := 139) rfl)), tb_505, tb_109, tb_506, ⟨by decide, by decide, by decide +kernel⟩⟩
set_option maxRecDepth 20000 in
theorem lk_X0_66 : lkV RX0 66 yX0_sumBehind cX0_sumBehind 4 none 0 := ⟨tb_728, tb_730, tb_40, tb_115, tb_731, ⟨by decide, by decide, by decide +kernel⟩⟩
set_option maxRecDepth 20000 in
theorem lk_X0_69 : lkSN RX0 69 yX7_put_ "MailCatch" cX7_put_ 4 none 3 := ⟨(ts_3 _ (List.mem_of_getElem? (i := 144) rfl)), tb_733, tb_109, tb_734, ⟨by decide, by decide, by decide +kernel⟩⟩
set_option maxRecDepth 20000 in
theorem lk_X0_73 : lkS RX0 73 yJ7_fill_d0a16 cJ7_fill_d0a16 5 none 2 := ⟨tb_743, tb_744, tb_124, tb_745, ⟨by decide, by decide, by decide +kernel⟩⟩
set_option maxRecDepth 20000 in
theorem lk_X0_79 : lkV RX0 79 yX0_start cX0_start 1 none 0 := ⟨tb_739, tb_741, tb_42, tb_115, tb_742, ⟨by decide, by decide, by decide +kernel⟩⟩
set_option maxRecDepth 20000 in
theorem lk_X0_82 : lkV RX0 82 yX0_passJoint cX0_passJoint 8 none 2 := ⟨tb_746, tb_748, tb_43, tb_115, tb_749, ⟨by decide, by decide, by decide +kernel⟩⟩
set_option maxRecDepth 20000 in
theorem lk_X0_86 : lkSN RX0 86 yX7_at_ "MailCatch" cX7_at_ 2 (some .long) 2 := ⟨(ts_3 _ (List.mem_of_getElem? (i := 166) rfl)), tb_755, tb_109, tb_756, ⟨by decide, by decide, by decide +kernel⟩⟩
set_option maxRecDepth 20000 in
theorem lk_X0_89 : lkVN RX0 89 yX3_leaveIn "MailCatch" cX3_leaveIn 4 none 2 := ⟨(ts_4 _ (List.mem_of_getElem? (i := 77) rfl)), tb_907, tb_61, tb_116, tb_908, ⟨by decide, by decide, by decide +kernel⟩⟩
set_option maxRecDepth 20000 in
theorem lk_X0_94 : lkS RX0 94 yX0_sumOf cX0_sumOf 4 (some .long) 1 := ⟨tb_794, tb_795, tb_115, tb_796, ⟨by decide, by decide, by decide +kernel⟩⟩
set_option maxRecDepth 20000 in
theorem lk_X0_98 : lkV RX0 98 yX0_takeIn cX0_takeIn 3 none 1 := ⟨tb_785, tb_787, tb_48, tb_115, tb_788, ⟨by decide, by decide, by decide +kernel⟩⟩
set_option maxRecDepth 20000 in
theorem lk_X0_102 : lkV RX0 102 yX0_putOut cX0_putOut 5 (some .long) 1 := ⟨tb_790, tb_792, tb_49, tb_115, tb_793, ⟨by decide, by decide, by decide +kernel⟩⟩
set_option maxRecDepth 20000 in
theorem lk_X1_30 : lkVN RX1 30 yX6_value "MailCatch" cX6_value 2 (some .int) 1 := ⟨(ts_3 _ (List.mem_of_getElem? (i := 104) rfl)), tb_502, tb_10, tb_110, tb_503, ⟨by decide, by decide, by decide +kernel⟩⟩
set_option maxRecDepth 20000 in
theorem lk_X1_36 : lkVN RX1 36 yX6_countBehind "MailCatch" cX6_countBehind 6 (some .int) 4 := ⟨(ts_3 _ (List.mem_of_getElem? (i := 105) rfl)), tb_695, tb_36, tb_110, tb_696, ⟨by decide, by decide, by decide +kernel⟩⟩
set_option maxRecDepth 20000 in
theorem lk_X1_40 : lkV RX1 40 yX1_meet cX1_meet 4 none 2 := ⟨tb_698, tb_700, tb_37, tb_114, tb_701, ⟨by decide, by decide, by decide +kernel⟩⟩
set_option maxRecDepth 20000 in
theorem lk_X1_44 : lkVN RX1 44 yX6_armAt "MailCatch" cX6_armAt 3 (some .int) 1 := ⟨(ts_3 _ (List.mem_of_getElem? (i := 114) rfl)), tb_533, tb_15, tb_110, tb_534, ⟨by decide, by decide, by decide +kernel⟩⟩
set_option maxRecDepth 20000 in
theorem lk_X1_47 : lkVN RX1 47 yX6_isSignalAt "MailCatch" cX6_isSignalAt 2 (some .boolean) 1 := ⟨(ts_3 _ (List.mem_of_getElem? (i := 115) rfl)), tb_566, tb_22, tb_110, tb_567, ⟨by decide, by decide, by decide +kernel⟩⟩
set_option maxRecDepth 20000 in
theorem lk_X2_28 : lkVN RX2 28 yX6_restart "MailCatch" cX6_restart 1 none 0 := ⟨(ts_2 _ (List.mem_of_getElem? (i := 58) rfl)), tb_142, tb_0, tb_110, tb_143, ⟨by decide, by decide, by decide +kernel⟩⟩
set_option maxRecDepth 20000 in
theorem lk_X2_37 : lkV RX2 37 yX2_isJointMissing cX2_isJointMissing 3 (some .boolean) 0 := ⟨tb_578, tb_580, tb_25, tb_113, tb_581, ⟨by decide, by decide, by decide +kernel⟩⟩
set_option maxRecDepth 20000 in
theorem lk_X2_47 : lkV RX2 47 yX2_takeToken cX2_takeToken 1 (some .boolean) 0 := ⟨tb_411, tb_413, tb_4, tb_113, tb_414, ⟨by decide, by decide, by decide +kernel⟩⟩
set_option maxRecDepth 20000 in
theorem lk_X2_53 : lkV RX2 53 yX2_lineNamed cX2_lineNamed 1 (some .int) 0 := ⟨tb_430, tb_432, tb_8, tb_113, tb_433, ⟨by decide, by decide, by decide +kernel⟩⟩
set_option maxRecDepth 20000 in
theorem lk_X2_57 : lkV RX2 57 yX2_refuse cX2_refuse 2 (some .boolean) 1 := ⟨tb_426, tb_428, tb_7, tb_113, tb_429, ⟨by decide, by decide, by decide +kernel⟩⟩
set_option maxRecDepth 20000 in
theorem lk_X2_61 : lkS RX2 61 yX2_isRowOf cX2_isRowOf 1 (some .boolean) 1 := ⟨tb_497, tb_498, tb_113, tb_499, ⟨by decide, by decide, by decide +kernel⟩⟩
set_option maxRecDepth 20000 in
theorem lk_X2_64 : lkVN RX2 64 yX6_value "MailCatch" cX6_value 2 (some .int) 1 := ⟨(ts_2 _ (List.mem_of_getElem? (i := 152) rfl)), tb_502, tb_10, tb_110, tb_503, ⟨by decide, by decide, by decide +kernel⟩⟩
set_option maxRecDepth 20000 in
theorem lk_X2_72 : lkSN RX2 72 yX7_at "MailCatch" cX7_at 2 (some .int) 2 := ⟨(ts_2 _ (List.mem_of_getElem? (i := 161) rfl)), tb_505, tb_109, tb_506, ⟨by decide, by decide, by decide +kernel⟩⟩
set_option maxRecDepth 20000 in
theorem lk_X2_76 : lkV RX2 76 yX2_readArm cX2_readArm 5 (some .boolean) 0 := ⟨tb_510, tb_512, tb_11, tb_113, tb_513, ⟨by decide, by decide, by decide +kernel⟩⟩
set_option maxRecDepth 20000 in
theorem lk_X2_79 : lkV RX2 79 yX2_takeSign cX2_takeSign 1 (some .boolean) 0 := ⟨tb_544, tb_546, tb_17, tb_113, tb_547, ⟨by decide, by decide, by decide +kernel⟩⟩
set_option maxRecDepth 20000 in
theorem lk_X2_82 : lkV RX2 82 yX2_readMark cX2_readMark 4 (some .boolean) 0 := ⟨tb_548, tb_550, tb_18, tb_113, tb_551, ⟨by decide, by decide, by decide +kernel⟩⟩
set_option maxRecDepth 20000 in
theorem lk_X2_85 : lkV RX2 85 yX2_readTown cX2_readTown 4 (some .boolean) 0 := ⟨tb_556, tb_558, tb_20, tb_113, tb_559, ⟨by decide, by decide, by decide +kernel⟩⟩
set_option maxRecDepth 20000 in
theorem lk_X2_88 : lkV RX2 88 yX2_readSignal cX2_readSignal 2 (some .boolean) 0 := ⟨tb_560, tb_562, tb_21, tb_113, tb_563, ⟨by decide, by decide, by decide +kernel⟩⟩
set_option maxRecDepth 20000 in
theorem lk_X2_91 : lkV RX2 91 yX2_readRule cX2_readRule 4 (some .boolean) 1 := ⟨tb_568, tb_570, tb_23, tb_113, tb_571, ⟨by decide, by decide, by decide +kernel⟩⟩
set_option maxRecDepth 20000 in
theorem lk_X2_97 : lkV RX2 97 yX2_takeNumber cX2_takeNumber 4 (some .int) 2 := ⟨tb_523, tb_525, tb_13, tb_113, tb_526, ⟨by decide, by decide, by decide +kernel⟩⟩
set_option maxRecDepth 20000 in
theorem lk_X2_101 : lkVN RX2 101 yX6_become "MailCatch" cX6_become 3 none 2 := ⟨(ts_2 _ (List.mem_of_getElem? (i := 191) rfl)), tb_541, tb_16, tb_110, tb_542, ⟨by decide, by decide, by decide +kernel⟩⟩
set_option maxRecDepth 20000 in
theorem lk_X2_105 : lkV RX2 105 yX2_kindNamed cX2_kindNamed 1 (some .int) 0 := ⟨tb_514, tb_516, tb_12, tb_113, tb_517, ⟨by decide, by decide, by decide +kernel⟩⟩
set_option maxRecDepth 20000 in
theorem lk_X2_108 : lkVN RX2 108 yX6_armAt "MailCatch" cX6_armAt 3 (some .int) 1 := ⟨(ts_2 _ (List.mem_of_getElem? (i := 183) rfl)), tb_533, tb_15, tb_110, tb_534, ⟨by decide, by decide, by decide +kernel⟩⟩
set_option maxRecDepth 20000 in
theorem lk_X2_114 : lkSN RX2 114 yX7_put "MailCatch" cX7_put 3 none 3 := ⟨(ts_2 _ (List.mem_of_getElem? (i := 188) rfl)), tb_537, tb_109, tb_538, ⟨by decide, by decide, by decide +kernel⟩⟩
set_option maxRecDepth 20000 in
theorem lk_X2_124 : lkVN RX2 124 yX6_markAt "MailCatch" cX6_markAt 3 (some .int) 1 := ⟨(ts_2 _ (List.mem_of_getElem? (i := 204) rfl)), tb_554, tb_19, tb_110, tb_555, ⟨by decide, by decide, by decide +kernel⟩⟩
set_option maxRecDepth 20000 in
theorem lk_X2_139 : lkVN RX2 139 yX6_isSignalAt "MailCatch" cX6_isSignalAt 2 (some .boolean) 1 := ⟨(ts_2 _ (List.mem_of_getElem? (i := 216) rfl)), tb_566, tb_22, tb_110, tb_567, ⟨by decide, by decide, by decide +kernel⟩⟩
set_option maxRecDepth 20000 in
theorem lk_X2_142 : lkVN RX2 142 yX5_readToken "MailCatch" cX5_readToken 1 none 0 := ⟨(ts_2 _ (List.mem_of_getElem? (i := 67) rfl)), tb_417, tb_5, tb_112, tb_418, ⟨by decide, by decide, by decide +kernel⟩⟩
set_option maxRecDepth 20000 in
theorem lk_X2_145 : lkVN RX2 145 yX5_numberRead "MailCatch" cX5_numberRead 2 (some .int) 0 := ⟨(ts_2 _ (List.mem_of_getElem? (i := 179) rfl)), tb_529, tb_14, tb_112, tb_530, ⟨by decide, by decide, by decide +kernel⟩⟩
set_option maxRecDepth 20000 in
theorem lk_X2_153 : lkVN RX2 153 yX5_isName "MailCatch" cX5_isName 3 (some .boolean) 1 := ⟨(ts_2 _ (List.mem_of_getElem? (i := 87) rfl)), tb_437, tb_9, tb_112, tb_438, ⟨by decide, by decide, by decide +kernel⟩⟩
set_option maxRecDepth 20000 in
theorem lk_X3_22 : lkSN RX3 22 yX7_put "MailCatch" cX7_put 3 none 3 := ⟨(ts_4 _ (List.mem_of_getElem? (i := 60) rfl)), tb_537, tb_109, tb_538, ⟨by decide, by decide, by decide +kernel⟩⟩
set_option maxRecDepth 20000 in
theorem lk_X3_26 : lkSN RX3 26 yX7_at "MailCatch" cX7_at 2 (some .int) 2 := ⟨(ts_4 _ (List.mem_of_getElem? (i := 81) rfl)), tb_505, tb_109, tb_506, ⟨by decide, by decide, by decide +kernel⟩⟩
set_option maxRecDepth 20000 in
theorem lk_X3_30 : lkS RX3 30 yX3_leaveOnly cX3_leaveOnly 3 none 2 := ⟨tb_910, tb_911, tb_116, tb_912, ⟨by decide, by decide, by decide +kernel⟩⟩
set_option maxRecDepth 20000 in
theorem lk_X4_24 : lkSN RX4 24 yX7_put "MailCatch" cX7_put 3 none 3 := ⟨(ts_4 _ (List.mem_of_getElem? (i := 145) rfl)), tb_537, tb_109, tb_538, ⟨by decide, by decide, by decide +kernel⟩⟩
set_option maxRecDepth 20000 in
theorem lk_X4_28 : lkSN RX4 28 yX7_at "MailCatch" cX7_at 2 (some .int) 2 := ⟨(ts_4 _ (List.mem_of_getElem? (i := 154) rfl)), tb_505, tb_109, tb_506, ⟨by decide, by decide, by decide +kernel⟩⟩
set_option maxRecDepth 20000 in
theorem lk_X4_32 : lkV RX4 32 yX4_faultOfCell cX4_faultOfCell 3 (some .int) 2 := ⟨tb_1000, tb_980, tb_68, tb_117, tb_981, ⟨by decide, by decide, by decide +kernel⟩⟩
set_option maxRecDepth 20000 in
theorem lk_X5_22 : lkV RX5 22 yX5_byteAt cX5_byteAt 2 (some .int) 1 := ⟨tb_419, tb_421, tb_6, tb_112, tb_422, ⟨by decide, by decide, by decide +kernel⟩⟩
set_option maxRecDepth 20000 in
theorem lk_X5_29 : lkS RX5 29 yX5_kindOf cX5_kindOf 1 (some .int) 1 := ⟨tb_423, tb_424, tb_112, tb_425, ⟨by decide, by decide, by decide +kernel⟩⟩
set_option maxRecDepth 20000 in
theorem lk_X5_35 : lkV RX5 35 yJ0_length_8abf5 cJ0_length_8abf5 1 (some .int) 0 := ⟨tb_439, tb_440, tb_441, tb_119, tb_442, ⟨by decide, by decide, by decide +kernel⟩⟩
set_option maxRecDepth 20000 in
theorem lk_X5_40 : lkV RX5 40 yJ0_charAt_5068e cJ0_charAt_5068e 2 (some .char) 1 := ⟨tb_449, tb_450, tb_451, tb_119, tb_452, ⟨by decide, by decide, by decide +kernel⟩⟩
set_option maxRecDepth 20000 in
theorem lk_X6_48 : lkSN RX6 48 yX7_at "MailCatch" cX7_at 2 (some .int) 2 := ⟨(ts_2 _ (List.mem_of_getElem? (i := 156) rfl)), tb_505, tb_109, tb_506, ⟨by decide, by decide, by decide +kernel⟩⟩
set_option maxRecDepth 20000 in
theorem lk_X6_52 : lkSN RX6 52 yX7_put "MailCatch" cX7_put 3 none 3 := ⟨(ts_2 _ (List.mem_of_getElem? (i := 195) rfl)), tb_537, tb_109, tb_538, ⟨by decide, by decide, by decide +kernel⟩⟩
set_option maxRecDepth 20000 in
theorem lk_X6_62 : lkV RX6 62 yX6_value cX6_value 2 (some .int) 1 := ⟨tb_535, tb_502, tb_10, tb_110, tb_503, ⟨by decide, by decide, by decide +kernel⟩⟩
set_option maxRecDepth 20000 in
theorem lk_X6_66 : lkV RX6 66 yX6_markAt cX6_markAt 3 (some .int) 1 := ⟨tb_697, tb_554, tb_19, tb_110, tb_555, ⟨by decide, by decide, by decide +kernel⟩⟩
set_option maxRecDepth 20000 in
theorem lk_X7_70 : lkVN RX7 70 yX5_add "MailCatch" cX5_add 2 (some .boolean) 1 := ⟨(ts_2 _ (List.mem_of_getElem? (i := 42) rfl)), tb_392, tb_1, tb_112, tb_393, ⟨by decide, by decide, by decide +kernel⟩⟩
set_option maxRecDepth 20000 in
theorem lk_X7_78 : lkVN RX7 78 yX2_start "MailCatch" cX2_start 1 none 0 := ⟨(ts_2 _ (List.mem_of_getElem? (i := 54) rfl)), tb_404, tb_2, tb_113, tb_405, ⟨by decide, by decide, by decide +kernel⟩⟩
set_option maxRecDepth 20000 in
theorem lk_X7_81 : lkVN RX7 81 yX2_readLine "MailCatch" cX2_readLine 2 (some .boolean) 0 := ⟨(ts_2 _ (List.mem_of_getElem? (i := 59) rfl)), tb_409, tb_3, tb_113, tb_410, ⟨by decide, by decide, by decide +kernel⟩⟩
set_option maxRecDepth 20000 in
theorem lk_X7_85 : lkVN RX7 85 yX2_finish "MailCatch" cX2_finish 1 none 0 := ⟨(ts_2 _ (List.mem_of_getElem? (i := 226) rfl)), tb_576, tb_24, tb_113, tb_577, ⟨by decide, by decide, by decide +kernel⟩⟩
set_option maxRecDepth 20000 in
theorem lk_X7_100 : lkVN RX7 100 yX6_take "MailCatch" cX6_take 2 none 1 := ⟨(ts_2 _ (List.mem_of_getElem? (i := 234) rfl)), tb_584, tb_26, tb_110, tb_585, ⟨by decide, by decide, by decide +kernel⟩⟩
set_option maxRecDepth 20000 in
theorem lk_X7_110 : lkVN RX7 110 yX6_value "MailCatch" cX6_value 2 (some .int) 1 := ⟨(ts_3 _ (List.mem_of_getElem? (i := 6) rfl)), tb_502, tb_10, tb_110, tb_503, ⟨by decide, by decide, by decide +kernel⟩⟩
set_option maxRecDepth 20000 in
theorem lk_X7_114 : lkV RX7 114 yX7_isArm cX7_isArm 2 (some .boolean) 1 := ⟨tb_599, tb_601, tb_27, tb_109, tb_602, ⟨by decide, by decide, by decide +kernel⟩⟩
set_option maxRecDepth 20000 in
theorem lk_X7_120 : lkS RX7 120 yX7_at cX7_at 2 (some .int) 2 := ⟨tb_603, tb_505, tb_109, tb_506, ⟨by decide, by decide, by decide +kernel⟩⟩
set_option maxRecDepth 20000 in
theorem lk_X7_130 : lkVN RX7 130 yX6_holdsOf "MailCatch" cX6_holdsOf 5 (some .int) 2 := ⟨(ts_3 _ (List.mem_of_getElem? (i := 16) rfl)), tb_606, tb_28, tb_110, tb_607, ⟨by decide, by decide, by decide +kernel⟩⟩
set_option maxRecDepth 20000 in
theorem lk_X7_134 : lkV RX7 134 yX7_isMark cX7_isMark 2 (some .boolean) 1 := ⟨tb_615, tb_617, tb_29, tb_109, tb_618, ⟨by decide, by decide, by decide +kernel⟩⟩
set_option maxRecDepth 20000 in
theorem lk_X7_137 : lkS RX7 137 yX7_isPart cX7_isPart 1 (some .boolean) 1 := ⟨tb_619, tb_620, tb_109, tb_621, ⟨by decide, by decide, by decide +kernel⟩⟩
set_option maxRecDepth 20000 in
theorem lk_X7_146 : lkV RX7 146 yX7_isTown cX7_isTown 2 (some .boolean) 1 := ⟨tb_626, tb_628, tb_30, tb_109, tb_629, ⟨by decide, by decide, by decide +kernel⟩⟩
set_option maxRecDepth 20000 in
theorem lk_X7_155 : lkS RX7 155 yX7_isWithin cX7_isWithin 2 (some .boolean) 2 := ⟨tb_634, tb_635, tb_109, tb_636, ⟨by decide, by decide, by decide +kernel⟩⟩
set_option maxRecDepth 20000 in
theorem lk_X7_159 : lkVN RX7 159 yX6_become "MailCatch" cX6_become 3 none 2 := ⟨(ts_3 _ (List.mem_of_getElem? (i := 51) rfl)), tb_541, tb_16, tb_110, tb_542, ⟨by decide, by decide, by decide +kernel⟩⟩
set_option maxRecDepth 20000 in
theorem lk_X7_163 : lkV RX7 163 yX7_isJoint cX7_isJoint 2 (some .boolean) 1 := ⟨tb_648, tb_650, tb_31, tb_109, tb_651, ⟨by decide, by decide, by decide +kernel⟩⟩
set_option maxRecDepth 20000 in
theorem lk_X7_166 : lkS RX7 166 yX7_put cX7_put 3 none 3 := ⟨tb_660, tb_537, tb_109, tb_538, ⟨by decide, by decide, by decide +kernel⟩⟩
set_option maxRecDepth 20000 in
theorem lk_X7_170 : lkV RX7 170 yX7_postedTo cX7_postedTo 5 (some .int) 3 := ⟨tb_669, tb_671, tb_32, tb_109, tb_672, ⟨by decide, by decide, by decide +kernel⟩⟩
set_option maxRecDepth 20000 in
theorem lk_X7_174 : lkV RX7 174 yX7_areJoints cX7_areJoints 2 (some .boolean) 1 := ⟨tb_677, tb_679, tb_33, tb_109, tb_680, ⟨by decide, by decide, by decide +kernel⟩⟩
set_option maxRecDepth 20000 in
theorem lk_X7_177 : lkV RX7 177 yX7_areMarks cX7_areMarks 2 (some .boolean) 1 := ⟨tb_681, tb_683, tb_34, tb_109, tb_684, ⟨by decide, by decide, by decide +kernel⟩⟩
set_option maxRecDepth 20000 in
theorem lk_X7_180 : lkS RX7 180 yX7_isNightPart cX7_isNightPart 1 (some .boolean) 1 := ⟨tb_685, tb_686, tb_109, tb_687, ⟨by decide, by decide, by decide +kernel⟩⟩
set_option maxRecDepth 20000 in
theorem lk_X7_183 : lkVN RX7 183 yX1_go "MailCatch" cX1_go 6 none 3 := ⟨(ts_3 _ (List.mem_of_getElem? (i := 100) rfl)), tb_690, tb_35, tb_114, tb_691, ⟨by decide, by decide, by decide +kernel⟩⟩
set_option maxRecDepth 20000 in
theorem lk_X7_187 : lkVN RX7 187 yX1_answer "MailCatch" cX1_answer 2 (some .int) 1 := ⟨(ts_3 _ (List.mem_of_getElem? (i := 116) rfl)), tb_706, tb_38, tb_114, tb_707, ⟨by decide, by decide, by decide +kernel⟩⟩
set_option maxRecDepth 20000 in
theorem lk_X7_190 : lkVN RX7 190 yX6_countBehind "MailCatch" cX6_countBehind 6 (some .int) 4 := ⟨(ts_3 _ (List.mem_of_getElem? (i := 124) rfl)), tb_695, tb_36, tb_110, tb_696, ⟨by decide, by decide, by decide +kernel⟩⟩
set_option maxRecDepth 20000 in
theorem lk_X7_196 : lkVN RX7 196 yX0_weighByOdds "MailCatch" cX0_weighByOdds 7 none 3 := ⟨(ts_3 _ (List.mem_of_getElem? (i := 130) rfl)), tb_720, tb_39, tb_115, tb_721, ⟨by decide, by decide, by decide +kernel⟩⟩
set_option maxRecDepth 20000 in
theorem lk_X7_199 : lkVN RX7 199 yX0_passCounting "MailCatch" cX0_passCounting 3 none 1 := ⟨(ts_3 _ (List.mem_of_getElem? (i := 147) rfl)), tb_737, tb_41, tb_115, tb_738, ⟨by decide, by decide, by decide +kernel⟩⟩
set_option maxRecDepth 20000 in
theorem lk_X7_203 : lkVN RX7 203 yX0_ofCount "MailCatch" cX0_ofCount 3 (some .long) 2 := ⟨(ts_3 _ (List.mem_of_getElem? (i := 162) rfl)), tb_752, tb_44, tb_115, tb_753, ⟨by decide, by decide, by decide +kernel⟩⟩
set_option maxRecDepth 20000 in
theorem lk_X7_207 : lkVN RX7 207 yX0_whole "MailCatch" cX0_whole 1 (some .long) 0 := ⟨(ts_3 _ (List.mem_of_getElem? (i := 169) rfl)), tb_759, tb_45, tb_115, tb_760, ⟨by decide, by decide, by decide +kernel⟩⟩
set_option maxRecDepth 20000 in
theorem lk_X7_211 : lkS RX7 211 yX7_part cX7_part 7 (some .long) 3 := ⟨tb_761, tb_762, tb_109, tb_763, ⟨by decide, by decide, by decide +kernel⟩⟩
set_option maxRecDepth 20000 in
theorem lk_X7_215 : lkV RX7 215 yX7_passByOdds cX7_passByOdds 1 none 0 := ⟨tb_777, tb_779, tb_46, tb_109, tb_780, ⟨by decide, by decide, by decide +kernel⟩⟩
set_option maxRecDepth 20000 in
theorem lk_X7_222 : lkS RX7 222 yX7_at_ cX7_at_ 2 (some .long) 2 := ⟨tb_797, tb_755, tb_109, tb_756, ⟨by decide, by decide, by decide +kernel⟩⟩
set_option maxRecDepth 20000 in
theorem lk_X7_228 : lkV RX7 228 yX7_metBy cX7_metBy 2 (some .long) 1 := ⟨tb_806, tb_808, tb_50, tb_109, tb_809, ⟨by decide, by decide, by decide +kernel⟩⟩
set_option maxRecDepth 20000 in
theorem lk_X7_234 : lkV RX7 234 yX7_hitByOdds cX7_hitByOdds 4 (some .long) 0 := ⟨tb_815, tb_817, tb_51, tb_109, tb_818, ⟨by decide, by decide, by decide +kernel⟩⟩
set_option maxRecDepth 20000 in
theorem lk_X7_237 : lkV RX7 237 yX7_tornByOdds cX7_tornByOdds 1 (some .long) 0 := ⟨tb_824, tb_826, tb_52, tb_109, tb_827, ⟨by decide, by decide, by decide +kernel⟩⟩
set_option maxRecDepth 20000 in
theorem lk_X7_240 : lkV RX7 240 yX7_worthByOdds cX7_worthByOdds 5 (some .long) 0 := ⟨tb_832, tb_834, tb_53, tb_109, tb_835, ⟨by decide, by decide, by decide +kernel⟩⟩
set_option maxRecDepth 20000 in
theorem lk_X7_249 : lkVN RX7 249 yX0_passWithNet "MailCatch" cX0_passWithNet 5 none 3 := ⟨(ts_3 _ (List.mem_of_getElem? (i := 193) rfl)), tb_783, tb_47, tb_115, tb_784, ⟨by decide, by decide, by decide +kernel⟩⟩
set_option maxRecDepth 20000 in
theorem lk_X7_253 : lkV RX7 253 yX7_isHadBy cX7_isHadBy 5 (some .boolean) 4 := ⟨tb_844, tb_846, tb_54, tb_109, tb_847, ⟨by decide, by decide, by decide +kernel⟩⟩
set_option maxRecDepth 20000 in
theorem lk_X7_257 : lkVN RX7 257 yX6_lettersWorth "MailCatch" cX6_lettersWorth 4 (some .int) 1 := ⟨(ts_4 _ (List.mem_of_getElem? (i := 32) rfl)), tb_862, tb_55, tb_110, tb_863, ⟨by decide, by decide, by decide +kernel⟩⟩
set_option maxRecDepth 20000 in
theorem lk_X7_260 : lkVN RX7 260 yX6_minutesOf "MailCatch" cX6_minutesOf 5 (some .int) 2 := ⟨(ts_4 _ (List.mem_of_getElem? (i := 36) rfl)), tb_866, tb_56, tb_110, tb_867, ⟨by decide, by decide, by decide +kernel⟩⟩
set_option maxRecDepth 20000 in
theorem lk_X7_263 : lkV RX7 263 yX7_areTowns cX7_areTowns 2 (some .boolean) 1 := ⟨tb_872, tb_874, tb_57, tb_109, tb_875, ⟨by decide, by decide, by decide +kernel⟩⟩
set_option maxRecDepth 20000 in
theorem lk_X7_266 : lkVN RX7 266 yX3_add "MailCatch" cX3_add 3 (some .boolean) 2 := ⟨(ts_4 _ (List.mem_of_getElem? (i := 56) rfl)), tb_886, tb_58, tb_116, tb_887, ⟨by decide, by decide, by decide +kernel⟩⟩
set_option maxRecDepth 20000 in
theorem lk_X7_268 : lkVN RX7 268 yX0_weighAlike "MailCatch" cX0_weighAlike 3 none 1 := ⟨(ts_4 _ (List.mem_of_getElem? (i := 69) rfl)), tb_899, tb_59, tb_115, tb_900, ⟨by decide, by decide, by decide +kernel⟩⟩
set_option maxRecDepth 20000 in
theorem lk_X7_271 : lkVN RX7 271 yX0_passAsSeen "MailCatch" cX0_passAsSeen 3 (some .long) 1 := ⟨(ts_4 _ (List.mem_of_getElem? (i := 73) rfl)), tb_903, tb_60, tb_115, tb_904, ⟨by decide, by decide, by decide +kernel⟩⟩
set_option maxRecDepth 20000 in
theorem lk_X7_275 : lkV RX7 275 yX7_jointsMissed cX7_jointsMissed 4 (some .int) 1 := ⟨tb_913, tb_915, tb_62, tb_109, tb_916, ⟨by decide, by decide, by decide +kernel⟩⟩
set_option maxRecDepth 20000 in
theorem lk_X7_279 : lkV RX7 279 yX7_marksNoticed cX7_marksNoticed 4 (some .int) 1 := ⟨tb_921, tb_923, tb_64, tb_109, tb_924, ⟨by decide, by decide, by decide +kernel⟩⟩
set_option maxRecDepth 20000 in
theorem lk_X7_282 : lkS RX7 282 yX7_nextSeed cX7_nextSeed 1 (some .int) 1 := ⟨tb_937, tb_938, tb_109, tb_939, ⟨by decide, by decide, by decide +kernel⟩⟩
set_option maxRecDepth 20000 in
theorem lk_X7_285 : lkS RX7 285 yX7_figureOf cX7_figureOf 1 (some .int) 1 := ⟨tb_941, tb_942, tb_109, tb_943, ⟨by decide, by decide, by decide +kernel⟩⟩
set_option maxRecDepth 20000 in
theorem lk_X7_288 : lkS RX7 288 yX7_isImage cX7_isImage 1 (some .boolean) 1 := ⟨tb_948, tb_949, tb_109, tb_950, ⟨by decide, by decide, by decide +kernel⟩⟩
set_option maxRecDepth 20000 in
theorem lk_X7_291 : lkV RX7 291 yX7_imageOf cX7_imageOf 2 (some (.object "MailCatch$Told")) 1 := ⟨tb_951, tb_953, tb_66, tb_109, tb_954, ⟨by decide, by decide, by decide +kernel⟩⟩
set_option maxRecDepth 20000 in
theorem lk_X7_295 : lkS RX7 295 yX7_isSheet cX7_isSheet 1 (some .boolean) 1 := ⟨tb_963, tb_964, tb_109, tb_965, ⟨by decide, by decide, by decide +kernel⟩⟩
set_option maxRecDepth 20000 in
theorem lk_X7_298 : lkS RX7 298 yX7_isLane cX7_isLane 1 (some .boolean) 1 := ⟨tb_966, tb_967, tb_109, tb_968, ⟨by decide, by decide, by decide +kernel⟩⟩
set_option maxRecDepth 20000 in
theorem lk_X7_301 : lkVN RX7 301 yX4_renew "MailCatch" cX4_renew 5 none 3 := ⟨(ts_4 _ (List.mem_of_getElem? (i := 141) rfl)), tb_971, tb_67, tb_117, tb_972, ⟨by decide, by decide, by decide +kernel⟩⟩
set_option maxRecDepth 20000 in
theorem lk_X7_304 : lkVN RX7 304 yX4_faultOfCell "MailCatch" cX4_faultOfCell 3 (some .int) 2 := ⟨(ts_4 _ (List.mem_of_getElem? (i := 150) rfl)), tb_980, tb_68, tb_117, tb_981, ⟨by decide, by decide, by decide +kernel⟩⟩
set_option maxRecDepth 20000 in
theorem lk_X7_307 : lkVN RX7 307 yX4_write "MailCatch" cX4_write 5 none 3 := ⟨(ts_4 _ (List.mem_of_getElem? (i := 155) rfl)), tb_985, tb_69, tb_117, tb_986, ⟨by decide, by decide, by decide +kernel⟩⟩
set_option maxRecDepth 20000 in
theorem lk_X7_310 : lkVN RX7 310 yX4_faultOfLane "MailCatch" cX4_faultOfLane 3 (some .int) 2 := ⟨(ts_4 _ (List.mem_of_getElem? (i := 163) rfl)), tb_993, tb_70, tb_117, tb_994, ⟨by decide, by decide, by decide +kernel⟩⟩
set_option maxRecDepth 20000 in
theorem lk_X7_319 : lkVN RX7 319 yX4_faultOfPair "MailCatch" cX4_faultOfPair 4 (some .int) 2 := ⟨(ts_4 _ (List.mem_of_getElem? (i := 168) rfl)), tb_998, tb_71, tb_117, tb_999, ⟨by decide, by decide, by decide +kernel⟩⟩
set_option maxRecDepth 20000 in
theorem lk_X7_322 : lkVN RX7 322 yX4_cell "MailCatch" cX4_cell 3 (some .int) 2 := ⟨(ts_4 _ (List.mem_of_getElem? (i := 173) rfl)), tb_1003, tb_72, tb_117, tb_1004, ⟨by decide, by decide, by decide +kernel⟩⟩
set_option maxRecDepth 20000 in
theorem lk_X7_328 : lkS RX7 328 yJ6_bitCount_0f7a4 cJ6_bitCount_0f7a4 1 (some .int) 1 := ⟨tb_1013, tb_1014, tb_125, tb_1015, ⟨by decide, by decide, by decide +kernel⟩⟩
set_option maxRecDepth 20000 in
theorem lk_X7_333 : lkVN RX7 333 yX4_cellsOf "MailCatch" cX4_cellsOf 2 (some .int) 1 := ⟨(ts_4 _ (List.mem_of_getElem? (i := 191) rfl)), tb_1021, tb_73, tb_117, tb_1022, ⟨by decide, by decide, by decide +kernel⟩⟩
set_option maxRecDepth 20000 in
theorem lk_X7_336 : lkVN RX7 336 yX6_allLetters "MailCatch" cX6_allLetters 3 (some .int) 0 := ⟨(ts_4 _ (List.mem_of_getElem? (i := 195) rfl)), tb_1025, tb_74, tb_110, tb_1026, ⟨by decide, by decide, by decide +kernel⟩⟩
set_option maxRecDepth 20000 in
theorem lk_X7_340 : lkVN RX7 340 yX6_isSignalAt "MailCatch" cX6_isSignalAt 2 (some .boolean) 1 := ⟨(ts_3 _ (List.mem_of_getElem? (i := 231) rfl)), tb_566, tb_22, tb_110, tb_567, ⟨by decide, by decide, by decide +kernel⟩⟩
set_option maxRecDepth 20000 in
theorem lk_X7_343 : lkVN RX7 343 yX0_forceMiss "MailCatch" cX0_forceMiss 3 none 2 := ⟨(ts_4 _ (List.mem_of_getElem? (i := 89) rfl)), tb_919, tb_63, tb_115, tb_920, ⟨by decide, by decide, by decide +kernel⟩⟩
set_option maxRecDepth 20000 in
theorem lk_X7_347 : lkVN RX7 347 yX0_forceNotice "MailCatch" cX0_forceNotice 3 none 2 := ⟨(ts_4 _ (List.mem_of_getElem? (i := 97) rfl)), tb_927, tb_65, tb_115, tb_928, ⟨by decide, by decide, by decide +kernel⟩⟩
set_option maxRecDepth 20000 in
theorem lk_X7_357 : lkS RX7 357 yX7_greatestShared cX7_greatestShared 11 (some .long) 2 := ⟨tb_767, tb_768, tb_109, tb_769, ⟨by decide, by decide, by decide +kernel⟩⟩
set_option maxRecDepth 20000 in
theorem lk_X8_71 : lkS RX8 71 yX8_in cX8_in 6 (some .boolean) 3 := ⟨tb_1181, tb_1182, tb_118, tb_1183, ⟨by decide, by decide, by decide +kernel⟩⟩
set_option maxRecDepth 20000 in
theorem lk_X8_93 : lkV RX8 93 yX8_byteAt cX8_byteAt 2 (some .int) 1 := ⟨tb_1200, tb_1202, tb_77, tb_118, tb_1203, ⟨by decide, by decide, by decide +kernel⟩⟩
set_option maxRecDepth 20000 in
theorem lk_X8_108 : lkV RX8 108 yX8_fails cX8_fails 2 none 1 := ⟨tb_1208, tb_1210, tb_78, tb_118, tb_1211, ⟨by decide, by decide, by decide +kernel⟩⟩
set_option maxRecDepth 20000 in
theorem lk_X8_112 : lkV RX8 112 yX8_step cX8_step 2 none 0 := ⟨tb_1196, tb_1198, tb_76, tb_118, tb_1199, ⟨by decide, by decide, by decide +kernel⟩⟩
set_option maxRecDepth 20000 in
theorem lk_X8_117 : lkV RX8 117 yX8_number cX8_number 4 (some .int) 2 := ⟨tb_1225, tb_1227, tb_82, tb_118, tb_1228, ⟨by decide, by decide, by decide +kernel⟩⟩
set_option maxRecDepth 20000 in
theorem lk_X8_127 : lkV RX8 127 yX8_jointHere cX8_jointHere 3 (some .int) 1 := ⟨tb_1229, tb_1231, tb_83, tb_118, tb_1232, ⟨by decide, by decide, by decide +kernel⟩⟩
set_option maxRecDepth 20000 in
theorem lk_X8_130 : lkV RX8 130 yX8_nameHere cX8_nameHere 4 (some .int) 0 := ⟨tb_1216, tb_1218, tb_80, tb_118, tb_1219, ⟨by decide, by decide, by decide +kernel⟩⟩
set_option maxRecDepth 20000 in
theorem lk_X8_152 : lkV RX8 152 yX8_readOnce cX8_readOnce 2 none 1 := ⟨tb_1221, tb_1223, tb_81, tb_118, tb_1224, ⟨by decide, by decide, by decide +kernel⟩⟩
set_option maxRecDepth 20000 in
theorem lk_X8_155 : lkV RX8 155 yX8_readMore cX8_readMore 4 none 1 := ⟨tb_1233, tb_1235, tb_84, tb_118, tb_1236, ⟨by decide, by decide, by decide +kernel⟩⟩
set_option maxRecDepth 20000 in
theorem lk_X8_158 : lkV RX8 158 yX8_begins cX8_begins 2 none 0 := ⟨tb_1192, tb_1194, tb_75, tb_118, tb_1195, ⟨by decide, by decide, by decide +kernel⟩⟩
set_option maxRecDepth 20000 in
theorem lk_X8_161 : lkV RX8 161 yX8_readLine cX8_readLine 2 none 0 := ⟨tb_1212, tb_1214, tb_79, tb_118, tb_1215, ⟨by decide, by decide, by decide +kernel⟩⟩
set_option maxRecDepth 20000 in
theorem lk_X8_179 : lkV RX8 179 yX8_slip cX8_slip 1 (some .int) 0 := ⟨tb_1245, tb_1247, tb_85, tb_118, tb_1248, ⟨by decide, by decide, by decide +kernel⟩⟩
set_option maxRecDepth 20000 in
theorem lk_X8_182 : lkV RX8 182 yX8_pace cX8_pace 1 (some .int) 0 := ⟨tb_1249, tb_1251, tb_86, tb_118, tb_1252, ⟨by decide, by decide, by decide +kernel⟩⟩
set_option maxRecDepth 20000 in
theorem lk_X8_185 : lkV RX8 185 yX8_handMany cX8_handMany 1 (some .int) 0 := ⟨tb_1253, tb_1255, tb_87, tb_118, tb_1256, ⟨by decide, by decide, by decide +kernel⟩⟩
set_option maxRecDepth 20000 in
theorem lk_X8_188 : lkV RX8 188 yX8_isArm cX8_isArm 2 (some .boolean) 1 := ⟨tb_1261, tb_1263, tb_88, tb_118, tb_1264, ⟨by decide, by decide, by decide +kernel⟩⟩
set_option maxRecDepth 20000 in
theorem lk_X8_192 : lkV RX8 192 yX8_holdsOf cX8_holdsOf 4 (some .int) 1 := ⟨tb_1265, tb_1267, tb_89, tb_118, tb_1268, ⟨by decide, by decide, by decide +kernel⟩⟩
set_option maxRecDepth 20000 in
theorem lk_X8_195 : lkV RX8 195 yX8_lays cX8_lays 6 (some .int) 4 := ⟨tb_1281, tb_1283, tb_90, tb_118, tb_1284, ⟨by decide, by decide, by decide +kernel⟩⟩
set_option maxRecDepth 20000 in
theorem lk_X8_203 : lkV RX8 203 yX8_isJoint cX8_isJoint 2 (some .boolean) 1 := ⟨tb_1295, tb_1297, tb_91, tb_118, tb_1298, ⟨by decide, by decide, by decide +kernel⟩⟩
set_option maxRecDepth 20000 in
theorem lk_X8_210 : lkV RX8 210 yX8_posts cX8_posts 3 (some .int) 2 := ⟨tb_1316, tb_1318, tb_92, tb_118, tb_1319, ⟨by decide, by decide, by decide +kernel⟩⟩
set_option maxRecDepth 20000 in
theorem lk_X8_234 : lkV RX8 234 yX8_counted cX8_counted 5 none 3 := ⟨tb_1334, tb_1336, tb_95, tb_118, tb_1337, ⟨by decide, by decide, by decide +kernel⟩⟩
set_option maxRecDepth 20000 in
theorem lk_X8_238 : lkV RX8 238 yX8_areSets cX8_areSets 3 (some .boolean) 2 := ⟨tb_1325, tb_1327, tb_93, tb_118, tb_1328, ⟨by decide, by decide, by decide +kernel⟩⟩
set_option maxRecDepth 20000 in
theorem lk_X8_244 : lkV RX8 244 yX8_nights cX8_nights 6 none 2 := ⟨tb_1330, tb_1332, tb_94, tb_118, tb_1333, ⟨by decide, by decide, by decide +kernel⟩⟩
set_option maxRecDepth 20000 in
theorem lk_X8_248 : lkV RX8 248 yX8_nightTold cX8_nightTold 2 (some .int) 1 := ⟨tb_1338, tb_1340, tb_96, tb_118, tb_1341, ⟨by decide, by decide, by decide +kernel⟩⟩
set_option maxRecDepth 20000 in
theorem lk_X8_251 : lkV RX8 251 yX8_countAt cX8_countAt 5 (some .int) 3 := ⟨tb_1346, tb_1348, tb_97, tb_118, tb_1349, ⟨by decide, by decide, by decide +kernel⟩⟩
set_option maxRecDepth 20000 in
theorem lk_X8_255 : lkS RX8 255 yX8_bitsOf cX8_bitsOf 3 (some .int) 1 := ⟨tb_1370, tb_1371, tb_118, tb_1372, ⟨by decide, by decide, by decide +kernel⟩⟩
set_option maxRecDepth 20000 in
theorem lk_X8_258 : lkV RX8 258 yX8_worthNow cX8_worthNow 3 (some .int) 0 := ⟨tb_1373, tb_1375, tb_102, tb_118, tb_1376, ⟨by decide, by decide, by decide +kernel⟩⟩
set_option maxRecDepth 20000 in
theorem lk_X8_261 : lkV RX8 261 yX8_isAsSeen cX8_isAsSeen 5 (some .boolean) 2 := ⟨tb_1377, tb_1379, tb_103, tb_118, tb_1380, ⟨by decide, by decide, by decide +kernel⟩⟩
set_option maxRecDepth 20000 in
theorem lk_X8_264 : lkV RX8 264 yX8_weightOf cX8_weightOf 6 (some .long) 2 := ⟨tb_1362, tb_1364, tb_100, tb_118, tb_1365, ⟨by decide, by decide, by decide +kernel⟩⟩
set_option maxRecDepth 20000 in
theorem lk_X8_268 : lkV RX8 268 yX8_valueOf cX8_valueOf 6 (some .int) 5 := ⟨tb_1366, tb_1368, tb_101, tb_118, tb_1369, ⟨by decide, by decide, by decide +kernel⟩⟩
set_option maxRecDepth 20000 in
theorem lk_X8_272 : lkV RX8 272 yX8_sumOf cX8_sumOf 10 (some .long) 3 := ⟨tb_1358, tb_1360, tb_99, tb_118, tb_1361, ⟨by decide, by decide, by decide +kernel⟩⟩
set_option maxRecDepth 20000 in
theorem lk_X8_276 : lkV RX8 276 yX8_allWeight cX8_allWeight 5 (some .long) 1 := ⟨tb_1381, tb_1383, tb_104, tb_118, tb_1384, ⟨by decide, by decide, by decide +kernel⟩⟩
set_option maxRecDepth 20000 in
theorem lk_X8_280 : lkS RX8 280 yX8_lowest cX8_lowest 11 (some .long) 3 := ⟨tb_1385, tb_1386, tb_118, tb_1387, ⟨by decide, by decide, by decide +kernel⟩⟩
set_option maxRecDepth 20000 in
theorem lk_X8_284 : lkV RX8 284 yX8_meanOf cX8_meanOf 5 (some .long) 4 := ⟨tb_1354, tb_1356, tb_98, tb_118, tb_1357, ⟨by decide, by decide, by decide +kernel⟩⟩
set_option maxRecDepth 20000 in
theorem lk_X8_292 : lkV RX8 292 yX8_copies cX8_copies 4 none 2 := ⟨tb_1418, tb_1420, tb_105, tb_118, tb_1421, ⟨by decide, by decide, by decide +kernel⟩⟩
set_option maxRecDepth 20000 in
theorem lk_X8_295 : lkS RX8 295 yX8_areTenths cX8_areTenths 1 (some .boolean) 1 := ⟨tb_1426, tb_1427, tb_118, tb_1428, ⟨by decide, by decide, by decide +kernel⟩⟩
set_option maxRecDepth 20000 in
theorem lk_X8_298 : lkV RX8 298 yX8_isHad cX8_isHad 3 (some .boolean) 2 := ⟨tb_1429, tb_1431, tb_106, tb_118, tb_1432, ⟨by decide, by decide, by decide +kernel⟩⟩
set_option maxRecDepth 20000 in
theorem lk_X8_301 : lkV RX8 301 yX8_minutesBy cX8_minutesBy 5 (some .int) 2 := ⟨tb_1445, tb_1447, tb_107, tb_118, tb_1448, ⟨by decide, by decide, by decide +kernel⟩⟩
section FR
variable {p : Program} {l : Launch} {e : Env} {R : Room} {s : State} {m : MethodId} {args : Array Value} {below : List Frame} {meth : Method} {c : Code} {H : Heap} {locs : List Loc} {cells slots : Nat} {Q : State → Prop}
variable {cc : ByteArray} {pc nL : Nat} {ls : Array Slot} {rest : List Value} {g : GG} {σ : ZI} {τ : ZL}
theorem eo_X7 (g : GG) (f : Nat → Int32) (t : Nat → Int64) : eF g 0 f t = .inr (7, [.ref (gA g 1), .ref (gA g 10), .ref (gA g 19), .int (f 3), .ref (gA g 37), .ref (gA g 39), .int (f 6), .ref (gA g 40), .ref (gA g 41), .ref (gA g 51), .ref (gA g 54), .ref (gA g 59), .int (f 12)]) := rfl
theorem inX7 : ∀ w ∈ u_ws RX7 TX7 13, w ∈ TBL := tb_ws (by decide +kernel)
theorem rc_X7 (G : AK g s) (hS : WS g σ τ s H locs) : ∃ cell : Cell, H[gA g 0]? = some cell ∧ cell.vm.isStatics = false ∧ s.vm.findClass RX7 = some cell.cls := x_recv G hS (by decide) (eo_X7 g _ _) rfl
theorem eo_X5 (g : GG) (f : Nat → Int32) (t : Nat → Int64) : eF g 37 f t = .inr (5, [.ref (gA g 38), .int (f 1), .int (f 2), .int (f 3), .int (f 4)]) := rfl
theorem inX5 : ∀ w ∈ u_ws RX5 TX5 5, w ∈ TBL := tb_ws (by decide +kernel)
theorem rc_X5 (G : AK g s) (hS : WS g σ τ s H locs) : ∃ cell : Cell, H[gA g 37]? = some cell ∧ cell.vm.isStatics = false ∧ s.vm.findClass RX5 = some cell.cls := x_recv G hS (by decide) (eo_X5 g _ _) rfl
theorem eo_X2 (g : GG) (f : Nat → Int32) (t : Nat → Int64) : eF g 39 f t = .inr (2, [.ref (gA g 37), .ref (gA g 28), .int (f 2), .int (f 3), .int (f 4)]) := rfl
theorem inX2 : ∀ w ∈ u_ws RX2 TX2 5, w ∈ TBL := tb_ws (by decide +kernel)
theorem rc_X2 (G : AK g s) (hS : WS g σ τ s H locs) : ∃ cell : Cell, H[gA g 39]? = some cell ∧ cell.vm.isStatics = false ∧ s.vm.findClass RX2 = some cell.cls := x_recv G hS (by decide) (eo_X2 g _ _) rfl
theorem eo_X1 (g : GG) (f : Nat → Int32) (t : Nat → Int64) : eF g 40 f t = .inr (1, [.int (f 0), .int (f 1), .int (f 2), .int (f 3), .int (f 4), .int (f 5)]) := rfl
theorem inX1 : ∀ w ∈ u_ws RX1 TX1 6, w ∈ TBL := tb_ws (by decide +kernel)
theorem rc_X1 (G : AK g s) (hS : WS g σ τ s H locs) : ∃ cell : Cell, H[gA g 40]? = some cell ∧ cell.vm.isStatics = false ∧ s.vm.findClass RX1 = some cell.cls := x_recv G hS (by decide) (eo_X1 g _ _) rfl
theorem eo_X0 (g : GG) (f : Nat → Int32) (t : Nat → Int64) : eF g 41 f t = .inr (0, [.int (f 0), .ref (gA g 42), .ref (gA g 43), .ref (gA g 44), .ref (gA g 45), .ref (gA g 46), .ref (gA g 47), .ref (gA g 48), .ref (gA g 49), .ref (gA g 50)]) := rfl
theorem inX0 : ∀ w ∈ u_ws RX0 TX0 10, w ∈ TBL := tb_ws (by decide +kernel)
theorem rc_X0 (G : AK g s) (hS : WS g σ τ s H locs) : ∃ cell : Cell, H[gA g 41]? = some cell ∧ cell.vm.isStatics = false ∧ s.vm.findClass RX0 = some cell.cls := x_recv G hS (by decide) (eo_X0 g _ _) rfl
theorem eo_X3 (g : GG) (f : Nat → Int32) (t : Nat → Int64) : eF g 51 f t = .inr (3, [.ref (gA g 52), .ref (gA g 53), .int (f 2)]) := rfl
theorem inX3 : ∀ w ∈ u_ws RX3 TX3 3, w ∈ TBL := tb_ws (by decide +kernel)
theorem rc_X3 (G : AK g s) (hS : WS g σ τ s H locs) : ∃ cell : Cell, H[gA g 51]? = some cell ∧ cell.vm.isStatics = false ∧ s.vm.findClass RX3 = some cell.cls := x_recv G hS (by decide) (eo_X3 g _ _) rfl
theorem eo_X4 (g : GG) (f : Nat → Int32) (t : Nat → Int64) : eF g 54 f t = .inr (4, [.ref (gA g 55), .ref (gA g 56), .ref (gA g 57), .ref (gA g 58)]) := rfl
theorem inX4 : ∀ w ∈ u_ws RX4 TX4 4, w ∈ TBL := tb_ws (by decide +kernel)
theorem rc_X4 (G : AK g s) (hS : WS g σ τ s H locs) : ∃ cell : Cell, H[gA g 54]? = some cell ∧ cell.vm.isStatics = false ∧ s.vm.findClass RX4 = some cell.cls := x_recv G hS (by decide) (eo_X4 g _ _) rfl
theorem eo_X8 (g : GG) (f : Nat → Int32) (t : Nat → Int64) : eF g 60 f t = .inr (8, [.ref (gA g 61), .int (f 1), .ref (gA g 62), .int (f 3), .ref (gA g 63), .int (f 5), .ref (gA g 64), .int (f 7), .ref (gA g 65), .ref (gA g 66), .ref (gA g 67), .ref (gA g 68), .ref (gA g 69), .ref (gA g 70), .int (f 14), .int (f 15), .int (f 16), .int (f 17), .int (f 18), .int (f 19), .int (f 20), .int (f 21), .ref (gA g 71), .int (f 23), .int (f 24), .int (f 25), .int (f 26), .int (f 27), .int (f 28), .int (f 29), .int (f 30), .ref (gA g 72), .ref (gA g 73), .int (f 33), .int (f 34), .int (f 35), .int (f 36), .int (f 37), .int (f 38), .int (f 39), .ref (gA g 74), .int (f 41), .ref (gA g 75), .ref (gA g 76), .ref (gA g 77), .ref (gA g 78), .int (f 46)]) := rfl
theorem inX8 : ∀ w ∈ u_ws RX8 TX8 47, w ∈ TBL := tb_ws (by decide +kernel)
theorem rc_X8 (G : AK g s) (hS : WS g σ τ s H locs) : ∃ cell : Cell, H[gA g 60]? = some cell ∧ cell.vm.isStatics = false ∧ s.vm.findClass RX8 = some cell.cls := x_recv G hS (by decide) (eo_X8 g _ _) rfl
theorem inX6 : ∀ w ∈ u_ws RX6 TX6 8, w ∈ TBL := tb_ws (by decide +kernel)
theorem rc_X6 {b : Nat} (G : AK g s) (hS : WS g σ τ s H locs) (hb : (ar b).1 = 11) : ∃ cell : Cell, H[gA g b]? = some cell ∧ cell.vm.isStatics = false ∧ s.vm.findClass RX6 = some cell.cls := x_recv G hS (ar_l11 hb) (ar_T hb g _ _) rfl
set_option maxRecDepth 20000 in
theorem gf_X0_11 (F : CallFix p m c cc nL s args TBL RX0) (G : AK g s) (hS : WS g σ τ s H locs) (hdg : decode cc pc = .ok (.getfield 11, 3)) (kk : W p l e R s m args below meth c H locs cells slots Q (F0 m (pc + 3) ls (.ref (gA g 42) :: rest))) : W p l e R s m args below meth c H locs cells slots Q (F0 m pc ls (.ref (gA g 41) :: rest)) := x_get F G hS (i := 41) (k := 1) (N := 10) (T := TX0) (C := RX0) (ci := 0) (eo_X0 g _ _) (by decide) rfl inX0 (by decide) tb_277 rfl rfl hdg kk
set_option maxRecDepth 20000 in
theorem gf_X0_15 (F : CallFix p m c cc nL s args TBL RX0) (G : AK g s) (hS : WS g σ τ s H locs) (hdg : decode cc pc = .ok (.getfield 15, 3)) (kk : W p l e R s m args below meth c H locs cells slots Q (F0 m (pc + 3) ls (.ref (gA g 43) :: rest))) : W p l e R s m args below meth c H locs cells slots Q (F0 m pc ls (.ref (gA g 41) :: rest)) := x_get F G hS (i := 41) (k := 2) (N := 10) (T := TX0) (C := RX0) (ci := 0) (eo_X0 g _ _) (by decide) rfl inX0 (by decide) tb_278 rfl rfl hdg kk
set_option maxRecDepth 20000 in
theorem gf_X0_18 (F : CallFix p m c cc nL s args TBL RX0) (G : AK g s) (hS : WS g σ τ s H locs) (hdg : decode cc pc = .ok (.getfield 18, 3)) (kk : W p l e R s m args below meth c H locs cells slots Q (F0 m (pc + 3) ls (.ref (gA g 44) :: rest))) : W p l e R s m args below meth c H locs cells slots Q (F0 m pc ls (.ref (gA g 41) :: rest)) := x_get F G hS (i := 41) (k := 3) (N := 10) (T := TX0) (C := RX0) (ci := 0) (eo_X0 g _ _) (by decide) rfl inX0 (by decide) tb_279 rfl rfl hdg kk
set_option maxRecDepth 20000 in
theorem gf_X0_21 (F : CallFix p m c cc nL s args TBL RX0) (G : AK g s) (hS : WS g σ τ s H locs) (hdg : decode cc pc = .ok (.getfield 21, 3)) (kk : W p l e R s m args below meth c H locs cells slots Q (F0 m (pc + 3) ls (.ref (gA g 45) :: rest))) : W p l e R s m args below meth c H locs cells slots Q (F0 m pc ls (.ref (gA g 41) :: rest)) := x_get F G hS (i := 41) (k := 4) (N := 10) (T := TX0) (C := RX0) (ci := 0) (eo_X0 g _ _) (by decide) rfl inX0 (by decide) tb_280 rfl rfl hdg kk
set_option maxRecDepth 20000 in
theorem gf_X0_24 (F : CallFix p m c cc nL s args TBL RX0) (G : AK g s) (hS : WS g σ τ s H locs) (hdg : decode cc pc = .ok (.getfield 24, 3)) (kk : W p l e R s m args below meth c H locs cells slots Q (F0 m (pc + 3) ls (.ref (gA g 46) :: rest))) : W p l e R s m args below meth c H locs cells slots Q (F0 m pc ls (.ref (gA g 41) :: rest)) := x_get F G hS (i := 41) (k := 5) (N := 10) (T := TX0) (C := RX0) (ci := 0) (eo_X0 g _ _) (by decide) rfl inX0 (by decide) tb_281 rfl rfl hdg kk
set_option maxRecDepth 20000 in
theorem gf_X0_27 (F : CallFix p m c cc nL s args TBL RX0) (G : AK g s) (hS : WS g σ τ s H locs) (hdg : decode cc pc = .ok (.getfield 27, 3)) (kk : W p l e R s m args below meth c H locs cells slots Q (F0 m (pc + 3) ls (.ref (gA g 47) :: rest))) : W p l e R s m args below meth c H locs cells slots Q (F0 m pc ls (.ref (gA g 41) :: rest)) := x_get F G hS (i := 41) (k := 6) (N := 10) (T := TX0) (C := RX0) (ci := 0) (eo_X0 g _ _) (by decide) rfl inX0 (by decide) tb_282 rfl rfl hdg kk
set_option maxRecDepth 20000 in
theorem gf_X0_30 (F : CallFix p m c cc nL s args TBL RX0) (G : AK g s) (hS : WS g σ τ s H locs) (hdg : decode cc pc = .ok (.getfield 30, 3)) (kk : W p l e R s m args below meth c H locs cells slots Q (F0 m (pc + 3) ls (.ref (gA g 48) :: rest))) : W p l e R s m args below meth c H locs cells slots Q (F0 m pc ls (.ref (gA g 41) :: rest)) := x_get F G hS (i := 41) (k := 7) (N := 10) (T := TX0) (C := RX0) (ci := 0) (eo_X0 g _ _) (by decide) rfl inX0 (by decide) tb_283 rfl rfl hdg kk
set_option maxRecDepth 20000 in
theorem gf_X0_33 (F : CallFix p m c cc nL s args TBL RX0) (G : AK g s) (hS : WS g σ τ s H locs) (hdg : decode cc pc = .ok (.getfield 33, 3)) (kk : W p l e R s m args below meth c H locs cells slots Q (F0 m (pc + 3) ls (.ref (gA g 49) :: rest))) : W p l e R s m args below meth c H locs cells slots Q (F0 m pc ls (.ref (gA g 41) :: rest)) := x_get F G hS (i := 41) (k := 8) (N := 10) (T := TX0) (C := RX0) (ci := 0) (eo_X0 g _ _) (by decide) rfl inX0 (by decide) tb_284 rfl rfl hdg kk
set_option maxRecDepth 20000 in
theorem gf_X0_36 (F : CallFix p m c cc nL s args TBL RX0) (G : AK g s) (hS : WS g σ τ s H locs) (hdg : decode cc pc = .ok (.getfield 36, 3)) (kk : W p l e R s m args below meth c H locs cells slots Q (F0 m (pc + 3) ls (.ref (gA g 50) :: rest))) : W p l e R s m args below meth c H locs cells slots Q (F0 m pc ls (.ref (gA g 41) :: rest)) := x_get F G hS (i := 41) (k := 9) (N := 10) (T := TX0) (C := RX0) (ci := 0) (eo_X0 g _ _) (by decide) rfl inX0 (by decide) tb_286 rfl rfl hdg kk
set_option maxRecDepth 20000 in
theorem gf_X0_51 (F : CallFix p m c cc nL s args TBL RX0) (G : AK g s) (hS : WS g σ τ s H locs) (hdg : decode cc pc = .ok (.getfield 51, 3)) (kk : W p l e R s m args below meth c H locs cells slots Q (F0 m (pc + 3) ls (.int (σ 41 0) :: rest))) : W p l e R s m args below meth c H locs cells slots Q (F0 m pc ls (.ref (gA g 41) :: rest)) := x_get F G hS (i := 41) (k := 0) (N := 10) (T := TX0) (C := RX0) (ci := 0) (eo_X0 g _ _) (by decide) rfl inX0 (by decide) tb_276 rfl rfl hdg kk
set_option maxRecDepth 20000 in
theorem pf_X0_51 (F : CallFix p m c cc nL s args TBL RX0) (G : AK g s) (hS : WS g σ τ s H locs) {x : Int32} (hdg : decode cc pc = .ok (.putfield 51, 3)) (kk : ∀ (H : Heap) (locs : List Loc), WS g (va_up σ 41 (upd (σ 41) 0 x)) τ s H locs → W p l e R s m args below meth c H locs cells slots Q (F0 m (pc + 3) ls rest)) : W p l e R s m args below meth c H locs cells slots Q (F0 m pc ls (.int x :: .ref (gA g 41) :: rest)) := x_put F G hS (i := 41) (k := 0) (N := 10) (T := TX0) (C := RX0) (ci := 0) (eo_X0 g _ _) (by decide) rfl inX0 tyX0 tyX0_ok nmX0 (by decide) tb_276 rfl rfl rfl (Nat.le_of_ble_eq_true rfl) rfl hdg kk
set_option maxRecDepth 20000 in
theorem gf_X0_58 {b : Nat} (F : CallFix p m c cc nL s args TBL RX0) (G : AK g s) (hS : WS g σ τ s H locs) (hb : (ar b).1 = 11) (hdg : decode cc pc = .ok (.getfield 58, 3)) (kk : W p l e R s m args below meth c H locs cells slots Q (F0 m (pc + 3) ls (.ref (gA g (b + 6)) :: rest))) : W p l e R s m args below meth c H locs cells slots Q (F0 m pc ls (.ref (gA g b) :: rest)) := x_getN F G hS (i := b) (k := 5) (N := 8) (T := TX6) (C := RX6) (ci := 6) (ar_T hb g _ _) (ar_l11 hb) rfl inX6 (by decide) (host := "MailCatch") (ts_1 _ (List.mem_of_getElem? (i := 55) rfl)) rfl rfl hdg kk
set_option maxRecDepth 20000 in
theorem gf_X1_9 (F : CallFix p m c cc nL s args TBL RX1) (G : AK g s) (hS : WS g σ τ s H locs) (hdg : decode cc pc = .ok (.getfield 9, 3)) (kk : W p l e R s m args below meth c H locs cells slots Q (F0 m (pc + 3) ls (.int (σ 40 0) :: rest))) : W p l e R s m args below meth c H locs cells slots Q (F0 m pc ls (.ref (gA g 40) :: rest)) := x_get F G hS (i := 40) (k := 0) (N := 6) (T := TX1) (C := RX1) (ci := 1) (eo_X1 g _ _) (by decide) rfl inX1 (by decide) tb_251 rfl rfl hdg kk
set_option maxRecDepth 20000 in
theorem pf_X1_9 (F : CallFix p m c cc nL s args TBL RX1) (G : AK g s) (hS : WS g σ τ s H locs) {x : Int32} (hdg : decode cc pc = .ok (.putfield 9, 3)) (kk : ∀ (H : Heap) (locs : List Loc), WS g (va_up σ 40 (upd (σ 40) 0 x)) τ s H locs → W p l e R s m args below meth c H locs cells slots Q (F0 m (pc + 3) ls rest)) : W p l e R s m args below meth c H locs cells slots Q (F0 m pc ls (.int x :: .ref (gA g 40) :: rest)) := x_put F G hS (i := 40) (k := 0) (N := 6) (T := TX1) (C := RX1) (ci := 1) (eo_X1 g _ _) (by decide) rfl inX1 tyX1 tyX1_ok nmX1 (by decide) tb_251 rfl rfl rfl (Nat.le_of_ble_eq_true rfl) rfl hdg kk
set_option maxRecDepth 20000 in
theorem gf_X1_15 (F : CallFix p m c cc nL s args TBL RX1) (G : AK g s) (hS : WS g σ τ s H locs) (hdg : decode cc pc = .ok (.getfield 15, 3)) (kk : W p l e R s m args below meth c H locs cells slots Q (F0 m (pc + 3) ls (.int (σ 40 1) :: rest))) : W p l e R s m args below meth c H locs cells slots Q (F0 m pc ls (.ref (gA g 40) :: rest)) := x_get F G hS (i := 40) (k := 1) (N := 6) (T := TX1) (C := RX1) (ci := 1) (eo_X1 g _ _) (by decide) rfl inX1 (by decide) tb_252 rfl rfl hdg kk
set_option maxRecDepth 20000 in
theorem pf_X1_15 (F : CallFix p m c cc nL s args TBL RX1) (G : AK g s) (hS : WS g σ τ s H locs) {x : Int32} (hdg : decode cc pc = .ok (.putfield 15, 3)) (kk : ∀ (H : Heap) (locs : List Loc), WS g (va_up σ 40 (upd (σ 40) 1 x)) τ s H locs → W p l e R s m args below meth c H locs cells slots Q (F0 m (pc + 3) ls rest)) : W p l e R s m args below meth c H locs cells slots Q (F0 m pc ls (.int x :: .ref (gA g 40) :: rest)) := x_put F G hS (i := 40) (k := 1) (N := 6) (T := TX1) (C := RX1) (ci := 1) (eo_X1 g _ _) (by decide) rfl inX1 tyX1 tyX1_ok nmX1 (by decide) tb_252 rfl rfl rfl (Nat.le_of_ble_eq_true rfl) rfl hdg kk
set_option maxRecDepth 20000 in
theorem gf_X1_18 (F : CallFix p m c cc nL s args TBL RX1) (G : AK g s) (hS : WS g σ τ s H locs) (hdg : decode cc pc = .ok (.getfield 18, 3)) (kk : W p l e R s m args below meth c H locs cells slots Q (F0 m (pc + 3) ls (.int (σ 40 2) :: rest))) : W p l e R s m args below meth c H locs cells slots Q (F0 m pc ls (.ref (gA g 40) :: rest)) := x_get F G hS (i := 40) (k := 2) (N := 6) (T := TX1) (C := RX1) (ci := 1) (eo_X1 g _ _) (by decide) rfl inX1 (by decide) tb_253 rfl rfl hdg kk
set_option maxRecDepth 20000 in
theorem pf_X1_18 (F : CallFix p m c cc nL s args TBL RX1) (G : AK g s) (hS : WS g σ τ s H locs) {x : Int32} (hdg : decode cc pc = .ok (.putfield 18, 3)) (kk : ∀ (H : Heap) (locs : List Loc), WS g (va_up σ 40 (upd (σ 40) 2 x)) τ s H locs → W p l e R s m args below meth c H locs cells slots Q (F0 m (pc + 3) ls rest)) : W p l e R s m args below meth c H locs cells slots Q (F0 m pc ls (.int x :: .ref (gA g 40) :: rest)) := x_put F G hS (i := 40) (k := 2) (N := 6) (T := TX1) (C := RX1) (ci := 1) (eo_X1 g _ _) (by decide) rfl inX1 tyX1 tyX1_ok nmX1 (by decide) tb_253 rfl rfl rfl (Nat.le_of_ble_eq_true rfl) rfl hdg kk
set_option maxRecDepth 20000 in
theorem gf_X1_21 (F : CallFix p m c cc nL s args TBL RX1) (G : AK g s) (hS : WS g σ τ s H locs) (hdg : decode cc pc = .ok (.getfield 21, 3)) (kk : W p l e R s m args below meth c H locs cells slots Q (F0 m (pc + 3) ls (.int (σ 40 3) :: rest))) : W p l e R s m args below meth c H locs cells slots Q (F0 m pc ls (.ref (gA g 40) :: rest)) := x_get F G hS (i := 40) (k := 3) (N := 6) (T := TX1) (C := RX1) (ci := 1) (eo_X1 g _ _) (by decide) rfl inX1 (by decide) tb_254 rfl rfl hdg kk
set_option maxRecDepth 20000 in
theorem pf_X1_21 (F : CallFix p m c cc nL s args TBL RX1) (G : AK g s) (hS : WS g σ τ s H locs) {x : Int32} (hdg : decode cc pc = .ok (.putfield 21, 3)) (kk : ∀ (H : Heap) (locs : List Loc), WS g (va_up σ 40 (upd (σ 40) 3 x)) τ s H locs → W p l e R s m args below meth c H locs cells slots Q (F0 m (pc + 3) ls rest)) : W p l e R s m args below meth c H locs cells slots Q (F0 m pc ls (.int x :: .ref (gA g 40) :: rest)) := x_put F G hS (i := 40) (k := 3) (N := 6) (T := TX1) (C := RX1) (ci := 1) (eo_X1 g _ _) (by decide) rfl inX1 tyX1 tyX1_ok nmX1 (by decide) tb_254 rfl rfl rfl (Nat.le_of_ble_eq_true rfl) rfl hdg kk
set_option maxRecDepth 20000 in
theorem gf_X1_24 (F : CallFix p m c cc nL s args TBL RX1) (G : AK g s) (hS : WS g σ τ s H locs) (hdg : decode cc pc = .ok (.getfield 24, 3)) (kk : W p l e R s m args below meth c H locs cells slots Q (F0 m (pc + 3) ls (.int (σ 40 4) :: rest))) : W p l e R s m args below meth c H locs cells slots Q (F0 m pc ls (.ref (gA g 40) :: rest)) := x_get F G hS (i := 40) (k := 4) (N := 6) (T := TX1) (C := RX1) (ci := 1) (eo_X1 g _ _) (by decide) rfl inX1 (by decide) tb_255 rfl rfl hdg kk
set_option maxRecDepth 20000 in
theorem pf_X1_24 (F : CallFix p m c cc nL s args TBL RX1) (G : AK g s) (hS : WS g σ τ s H locs) {x : Int32} (hdg : decode cc pc = .ok (.putfield 24, 3)) (kk : ∀ (H : Heap) (locs : List Loc), WS g (va_up σ 40 (upd (σ 40) 4 x)) τ s H locs → W p l e R s m args below meth c H locs cells slots Q (F0 m (pc + 3) ls rest)) : W p l e R s m args below meth c H locs cells slots Q (F0 m pc ls (.int x :: .ref (gA g 40) :: rest)) := x_put F G hS (i := 40) (k := 4) (N := 6) (T := TX1) (C := RX1) (ci := 1) (eo_X1 g _ _) (by decide) rfl inX1 tyX1 tyX1_ok nmX1 (by decide) tb_255 rfl rfl rfl (Nat.le_of_ble_eq_true rfl) rfl hdg kk
set_option maxRecDepth 20000 in
theorem gf_X1_27 (F : CallFix p m c cc nL s args TBL RX1) (G : AK g s) (hS : WS g σ τ s H locs) (hdg : decode cc pc = .ok (.getfield 27, 3)) (kk : W p l e R s m args below meth c H locs cells slots Q (F0 m (pc + 3) ls (.int (σ 40 5) :: rest))) : W p l e R s m args below meth c H locs cells slots Q (F0 m pc ls (.ref (gA g 40) :: rest)) := x_get F G hS (i := 40) (k := 5) (N := 6) (T := TX1) (C := RX1) (ci := 1) (eo_X1 g _ _) (by decide) rfl inX1 (by decide) tb_256 rfl rfl hdg kk
set_option maxRecDepth 20000 in
theorem pf_X1_27 (F : CallFix p m c cc nL s args TBL RX1) (G : AK g s) (hS : WS g σ τ s H locs) {x : Int32} (hdg : decode cc pc = .ok (.putfield 27, 3)) (kk : ∀ (H : Heap) (locs : List Loc), WS g (va_up σ 40 (upd (σ 40) 5 x)) τ s H locs → W p l e R s m args below meth c H locs cells slots Q (F0 m (pc + 3) ls rest)) : W p l e R s m args below meth c H locs cells slots Q (F0 m pc ls (.int x :: .ref (gA g 40) :: rest)) := x_put F G hS (i := 40) (k := 5) (N := 6) (T := TX1) (C := RX1) (ci := 1) (eo_X1 g _ _) (by decide) rfl inX1 tyX1 tyX1_ok nmX1 (by decide) tb_256 rfl rfl rfl (Nat.le_of_ble_eq_true rfl) rfl hdg kk
set_option maxRecDepth 20000 in
theorem gf_X2_12 (F : CallFix p m c cc nL s args TBL RX2) (G : AK g s) (hS : WS g σ τ s H locs) (hdg : decode cc pc = .ok (.getfield 12, 3)) (kk : W p l e R s m args below meth c H locs cells slots Q (F0 m (pc + 3) ls (.ref (gA g 28) :: rest))) : W p l e R s m args below meth c H locs cells slots Q (F0 m pc ls (.ref (gA g 39) :: rest)) := x_get F G hS (i := 39) (k := 1) (N := 5) (T := TX2) (C := RX2) (ci := 2) (eo_X2 g _ _) (by decide) rfl inX2 (by decide) tb_227 rfl rfl hdg kk
set_option maxRecDepth 20000 in
theorem gf_X2_18 (F : CallFix p m c cc nL s args TBL RX2) (G : AK g s) (hS : WS g σ τ s H locs) (hdg : decode cc pc = .ok (.getfield 18, 3)) (kk : W p l e R s m args below meth c H locs cells slots Q (F0 m (pc + 3) ls (.ref (gA g 37) :: rest))) : W p l e R s m args below meth c H locs cells slots Q (F0 m pc ls (.ref (gA g 39) :: rest)) := x_get F G hS (i := 39) (k := 0) (N := 5) (T := TX2) (C := RX2) (ci := 2) (eo_X2 g _ _) (by decide) rfl inX2 (by decide) tb_226 rfl rfl hdg kk
set_option maxRecDepth 20000 in
theorem pf_X2_22 (F : CallFix p m c cc nL s args TBL RX2) (G : AK g s) (hS : WS g σ τ s H locs) {x : Int32} (hdg : decode cc pc = .ok (.putfield 22, 3)) (kk : ∀ (H : Heap) (locs : List Loc), WS g (va_up σ 37 (upd (σ 37) 2 x)) τ s H locs → W p l e R s m args below meth c H locs cells slots Q (F0 m (pc + 3) ls rest)) : W p l e R s m args below meth c H locs cells slots Q (F0 m pc ls (.int x :: .ref (gA g 37) :: rest)) := x_putN F G hS (i := 37) (k := 2) (N := 5) (T := TX5) (C := RX5) (ci := 5) (eo_X5 g _ _) (by decide) rfl inX5 tyX5 tyX5_ok nmX5 (by decide) (host := "MailCatch") (ts_1 _ (List.mem_of_getElem? (i := 92) rfl)) rfl rfl rfl (Nat.le_of_ble_eq_true rfl) rfl hdg kk
set_option maxRecDepth 20000 in
theorem gf_X2_31 (F : CallFix p m c cc nL s args TBL RX2) (G : AK g s) (hS : WS g σ τ s H locs) (hdg : decode cc pc = .ok (.getfield 31, 3)) (kk : W p l e R s m args below meth c H locs cells slots Q (F0 m (pc + 3) ls (.int (σ 39 2) :: rest))) : W p l e R s m args below meth c H locs cells slots Q (F0 m pc ls (.ref (gA g 39) :: rest)) := x_get F G hS (i := 39) (k := 2) (N := 5) (T := TX2) (C := RX2) (ci := 2) (eo_X2 g _ _) (by decide) rfl inX2 (by decide) tb_229 rfl rfl hdg kk
set_option maxRecDepth 20000 in
theorem pf_X2_31 (F : CallFix p m c cc nL s args TBL RX2) (G : AK g s) (hS : WS g σ τ s H locs) {x : Int32} (hdg : decode cc pc = .ok (.putfield 31, 3)) (kk : ∀ (H : Heap) (locs : List Loc), WS g (va_up σ 39 (upd (σ 39) 2 x)) τ s H locs → W p l e R s m args below meth c H locs cells slots Q (F0 m (pc + 3) ls rest)) : W p l e R s m args below meth c H locs cells slots Q (F0 m pc ls (.int x :: .ref (gA g 39) :: rest)) := x_put F G hS (i := 39) (k := 2) (N := 5) (T := TX2) (C := RX2) (ci := 2) (eo_X2 g _ _) (by decide) rfl inX2 tyX2 tyX2_ok nmX2 (by decide) tb_229 rfl rfl rfl (Nat.le_of_ble_eq_true rfl) rfl hdg kk
set_option maxRecDepth 20000 in
theorem gf_X2_34 (F : CallFix p m c cc nL s args TBL RX2) (G : AK g s) (hS : WS g σ τ s H locs) (hdg : decode cc pc = .ok (.getfield 34, 3)) (kk : W p l e R s m args below meth c H locs cells slots Q (F0 m (pc + 3) ls (.int (σ 39 3) :: rest))) : W p l e R s m args below meth c H locs cells slots Q (F0 m pc ls (.ref (gA g 39) :: rest)) := x_get F G hS (i := 39) (k := 3) (N := 5) (T := TX2) (C := RX2) (ci := 2) (eo_X2 g _ _) (by decide) rfl inX2 (by decide) tb_230 rfl rfl hdg kk
set_option maxRecDepth 20000 in
theorem pf_X2_34 (F : CallFix p m c cc nL s args TBL RX2) (G : AK g s) (hS : WS g σ τ s H locs) {x : Int32} (hdg : decode cc pc = .ok (.putfield 34, 3)) (kk : ∀ (H : Heap) (locs : List Loc), WS g (va_up σ 39 (upd (σ 39) 3 x)) τ s H locs → W p l e R s m args below meth c H locs cells slots Q (F0 m (pc + 3) ls rest)) : W p l e R s m args below meth c H locs cells slots Q (F0 m pc ls (.int x :: .ref (gA g 39) :: rest)) := x_put F G hS (i := 39) (k := 3) (N := 5) (T := TX2) (C := RX2) (ci := 2) (eo_X2 g _ _) (by decide) rfl inX2 tyX2 tyX2_ok nmX2 (by decide) tb_230 rfl rfl rfl (Nat.le_of_ble_eq_true rfl) rfl hdg kk
set_option maxRecDepth 20000 in
theorem gf_X2_41 (F : CallFix p m c cc nL s args TBL RX2) (G : AK g s) (hS : WS g σ τ s H locs) (hdg : decode cc pc = .ok (.getfield 41, 3)) (kk : W p l e R s m args below meth c H locs cells slots Q (F0 m (pc + 3) ls (.int (σ 37 1) :: rest))) : W p l e R s m args below meth c H locs cells slots Q (F0 m pc ls (.ref (gA g 37) :: rest)) := x_getN F G hS (i := 37) (k := 1) (N := 5) (T := TX5) (C := RX5) (ci := 5) (eo_X5 g _ _) (by decide) rfl inX5 (by decide) (host := "MailCatch") (ts_1 _ (List.mem_of_getElem? (i := 91) rfl)) rfl rfl hdg kk
set_option maxRecDepth 20000 in
theorem pf_X2_44 (F : CallFix p m c cc nL s args TBL RX2) (G : AK g s) (hS : WS g σ τ s H locs) {x : Int32} (hdg : decode cc pc = .ok (.putfield 44, 3)) (kk : ∀ (H : Heap) (locs : List Loc), WS g (va_up σ 39 (upd (σ 39) 4 x)) τ s H locs → W p l e R s m args below meth c H locs cells slots Q (F0 m (pc + 3) ls rest)) : W p l e R s m args below meth c H locs cells slots Q (F0 m pc ls (.int x :: .ref (gA g 39) :: rest)) := x_put F G hS (i := 39) (k := 4) (N := 5) (T := TX2) (C := RX2) (ci := 2) (eo_X2 g _ _) (by decide) rfl inX2 tyX2 tyX2_ok nmX2 (by decide) tb_232 rfl rfl rfl (Nat.le_of_ble_eq_true rfl) rfl hdg kk
set_option maxRecDepth 20000 in
theorem gf_X2_50 (F : CallFix p m c cc nL s args TBL RX2) (G : AK g s) (hS : WS g σ τ s H locs) (hdg : decode cc pc = .ok (.getfield 50, 3)) (kk : W p l e R s m args below meth c H locs cells slots Q (F0 m (pc + 3) ls (.int (σ 37 3) :: rest))) : W p l e R s m args below meth c H locs cells slots Q (F0 m pc ls (.ref (gA g 37) :: rest)) := x_getN F G hS (i := 37) (k := 3) (N := 5) (T := TX5) (C := RX5) (ci := 5) (eo_X5 g _ _) (by decide) rfl inX5 (by decide) (host := "MailCatch") (ts_1 _ (List.mem_of_getElem? (i := 94) rfl)) rfl rfl hdg kk
set_option maxRecDepth 20000 in
theorem gs_X2_68 (F : CallFix p m c cc nL s args TBL RX2) (G : AK g s) (hS : WS g σ τ s H locs) (hdg : decode cc pc = .ok (.getstatic 68, 3)) (kk : W p l e R s m args below meth c H locs cells slots Q (F0 m (pc + 3) ls (.ref (gA g 102) :: rest))) : W p l e R s m args below meth c H locs cells slots Q (F0 m pc ls rest) := x_getsN F G hS 102 (by decide) (host := "MailCatch") (ts_2 _ (List.mem_of_getElem? (i := 159) rfl)) hdg kk
set_option maxRecDepth 20000 in
theorem gs_X2_94 (F : CallFix p m c cc nL s args TBL RX2) (G : AK g s) (hS : WS g σ τ s H locs) (hdg : decode cc pc = .ok (.getstatic 94, 3)) (kk : W p l e R s m args below meth c H locs cells slots Q (F0 m (pc + 3) ls (.ref (gA g 101) :: rest))) : W p l e R s m args below meth c H locs cells slots Q (F0 m pc ls rest) := x_getsN F G hS 101 (by decide) (host := "MailCatch") (ts_2 _ (List.mem_of_getElem? (i := 224) rfl)) hdg kk
set_option maxRecDepth 20000 in
theorem gf_X2_111 {b : Nat} (F : CallFix p m c cc nL s args TBL RX2) (G : AK g s) (hS : WS g σ τ s H locs) (hb : (ar b).1 = 11) (hdg : decode cc pc = .ok (.getfield 111, 3)) (kk : W p l e R s m args below meth c H locs cells slots Q (F0 m (pc + 3) ls (.ref (gA g (b + 2)) :: rest))) : W p l e R s m args below meth c H locs cells slots Q (F0 m pc ls (.ref (gA g b) :: rest)) := x_getN F G hS (i := b) (k := 1) (N := 8) (T := TX6) (C := RX6) (ci := 6) (ar_T hb g _ _) (ar_l11 hb) rfl inX6 (by decide) (host := "MailCatch") (ts_1 _ (List.mem_of_getElem? (i := 43) rfl)) rfl rfl hdg kk
set_option maxRecDepth 20000 in
theorem gf_X2_118 {b : Nat} (F : CallFix p m c cc nL s args TBL RX2) (G : AK g s) (hS : WS g σ τ s H locs) (hb : (ar b).1 = 11) (hdg : decode cc pc = .ok (.getfield 118, 3)) (kk : W p l e R s m args below meth c H locs cells slots Q (F0 m (pc + 3) ls (.ref (gA g (b + 3)) :: rest))) : W p l e R s m args below meth c H locs cells slots Q (F0 m pc ls (.ref (gA g b) :: rest)) := x_getN F G hS (i := b) (k := 2) (N := 8) (T := TX6) (C := RX6) (ci := 6) (ar_T hb g _ _) (ar_l11 hb) rfl inX6 (by decide) (host := "MailCatch") (ts_1 _ (List.mem_of_getElem? (i := 46) rfl)) rfl rfl hdg kk
set_option maxRecDepth 20000 in
theorem gf_X2_121 {b : Nat} (F : CallFix p m c cc nL s args TBL RX2) (G : AK g s) (hS : WS g σ τ s H locs) (hb : (ar b).1 = 11) (hdg : decode cc pc = .ok (.getfield 121, 3)) (kk : W p l e R s m args below meth c H locs cells slots Q (F0 m (pc + 3) ls (.ref (gA g (b + 4)) :: rest))) : W p l e R s m args below meth c H locs cells slots Q (F0 m pc ls (.ref (gA g b) :: rest)) := x_getN F G hS (i := b) (k := 3) (N := 8) (T := TX6) (C := RX6) (ci := 6) (ar_T hb g _ _) (ar_l11 hb) rfl inX6 (by decide) (host := "MailCatch") (ts_1 _ (List.mem_of_getElem? (i := 49) rfl)) rfl rfl hdg kk
set_option maxRecDepth 20000 in
theorem gf_X2_127 {b : Nat} (F : CallFix p m c cc nL s args TBL RX2) (G : AK g s) (hS : WS g σ τ s H locs) (hb : (ar b).1 = 11) (hdg : decode cc pc = .ok (.getfield 127, 3)) (kk : W p l e R s m args below meth c H locs cells slots Q (F0 m (pc + 3) ls (.ref (gA g (b + 5)) :: rest))) : W p l e R s m args below meth c H locs cells slots Q (F0 m pc ls (.ref (gA g b) :: rest)) := x_getN F G hS (i := b) (k := 4) (N := 8) (T := TX6) (C := RX6) (ci := 6) (ar_T hb g _ _) (ar_l11 hb) rfl inX6 (by decide) (host := "MailCatch") (ts_1 _ (List.mem_of_getElem? (i := 52) rfl)) rfl rfl hdg kk
set_option maxRecDepth 20000 in
theorem gf_X2_130 {b : Nat} (F : CallFix p m c cc nL s args TBL RX2) (G : AK g s) (hS : WS g σ τ s H locs) (hb : (ar b).1 = 11) (hdg : decode cc pc = .ok (.getfield 130, 3)) (kk : W p l e R s m args below meth c H locs cells slots Q (F0 m (pc + 3) ls (.ref (gA g (b + 6)) :: rest))) : W p l e R s m args below meth c H locs cells slots Q (F0 m pc ls (.ref (gA g b) :: rest)) := x_getN F G hS (i := b) (k := 5) (N := 8) (T := TX6) (C := RX6) (ci := 6) (ar_T hb g _ _) (ar_l11 hb) rfl inX6 (by decide) (host := "MailCatch") (ts_1 _ (List.mem_of_getElem? (i := 56) rfl)) rfl rfl hdg kk
set_option maxRecDepth 20000 in
theorem gf_X2_133 {b : Nat} (F : CallFix p m c cc nL s args TBL RX2) (G : AK g s) (hS : WS g σ τ s H locs) (hb : (ar b).1 = 11) (hdg : decode cc pc = .ok (.getfield 133, 3)) (kk : W p l e R s m args below meth c H locs cells slots Q (F0 m (pc + 3) ls (.ref (gA g (b + 7)) :: rest))) : W p l e R s m args below meth c H locs cells slots Q (F0 m pc ls (.ref (gA g b) :: rest)) := x_getN F G hS (i := b) (k := 6) (N := 8) (T := TX6) (C := RX6) (ci := 6) (ar_T hb g _ _) (ar_l11 hb) rfl inX6 (by decide) (host := "MailCatch") (ts_1 _ (List.mem_of_getElem? (i := 59) rfl)) rfl rfl hdg kk
set_option maxRecDepth 20000 in
theorem gf_X2_136 {b : Nat} (F : CallFix p m c cc nL s args TBL RX2) (G : AK g s) (hS : WS g σ τ s H locs) (hb : (ar b).1 = 11) (hdg : decode cc pc = .ok (.getfield 136, 3)) (kk : W p l e R s m args below meth c H locs cells slots Q (F0 m (pc + 3) ls (.ref (gA g (b + 8)) :: rest))) : W p l e R s m args below meth c H locs cells slots Q (F0 m pc ls (.ref (gA g b) :: rest)) := x_getN F G hS (i := b) (k := 7) (N := 8) (T := TX6) (C := RX6) (ci := 6) (ar_T hb g _ _) (ar_l11 hb) rfl inX6 (by decide) (host := "MailCatch") (ts_1 _ (List.mem_of_getElem? (i := 62) rfl)) rfl rfl hdg kk
set_option maxRecDepth 20000 in
theorem gf_X2_148 (F : CallFix p m c cc nL s args TBL RX2) (G : AK g s) (hS : WS g σ τ s H locs) (hdg : decode cc pc = .ok (.getfield 148, 3)) (kk : W p l e R s m args below meth c H locs cells slots Q (F0 m (pc + 3) ls (.int (σ 37 4) :: rest))) : W p l e R s m args below meth c H locs cells slots Q (F0 m pc ls (.ref (gA g 37) :: rest)) := x_getN F G hS (i := 37) (k := 4) (N := 5) (T := TX5) (C := RX5) (ci := 5) (eo_X5 g _ _) (by decide) rfl inX5 (by decide) (host := "MailCatch") (ts_1 _ (List.mem_of_getElem? (i := 97) rfl)) rfl rfl hdg kk
set_option maxRecDepth 20000 in
theorem gf_X3_9 (F : CallFix p m c cc nL s args TBL RX3) (G : AK g s) (hS : WS g σ τ s H locs) (hdg : decode cc pc = .ok (.getfield 9, 3)) (kk : W p l e R s m args below meth c H locs cells slots Q (F0 m (pc + 3) ls (.ref (gA g 52) :: rest))) : W p l e R s m args below meth c H locs cells slots Q (F0 m pc ls (.ref (gA g 51) :: rest)) := x_get F G hS (i := 51) (k := 0) (N := 3) (T := TX3) (C := RX3) (ci := 3) (eo_X3 g _ _) (by decide) rfl inX3 (by decide) tb_316 rfl rfl hdg kk
set_option maxRecDepth 20000 in
theorem gf_X3_15 (F : CallFix p m c cc nL s args TBL RX3) (G : AK g s) (hS : WS g σ τ s H locs) (hdg : decode cc pc = .ok (.getfield 15, 3)) (kk : W p l e R s m args below meth c H locs cells slots Q (F0 m (pc + 3) ls (.ref (gA g 53) :: rest))) : W p l e R s m args below meth c H locs cells slots Q (F0 m pc ls (.ref (gA g 51) :: rest)) := x_get F G hS (i := 51) (k := 1) (N := 3) (T := TX3) (C := RX3) (ci := 3) (eo_X3 g _ _) (by decide) rfl inX3 (by decide) tb_317 rfl rfl hdg kk
set_option maxRecDepth 20000 in
theorem gf_X3_18 (F : CallFix p m c cc nL s args TBL RX3) (G : AK g s) (hS : WS g σ τ s H locs) (hdg : decode cc pc = .ok (.getfield 18, 3)) (kk : W p l e R s m args below meth c H locs cells slots Q (F0 m (pc + 3) ls (.int (σ 51 2) :: rest))) : W p l e R s m args below meth c H locs cells slots Q (F0 m pc ls (.ref (gA g 51) :: rest)) := x_get F G hS (i := 51) (k := 2) (N := 3) (T := TX3) (C := RX3) (ci := 3) (eo_X3 g _ _) (by decide) rfl inX3 (by decide) tb_318 rfl rfl hdg kk
set_option maxRecDepth 20000 in
theorem pf_X3_18 (F : CallFix p m c cc nL s args TBL RX3) (G : AK g s) (hS : WS g σ τ s H locs) {x : Int32} (hdg : decode cc pc = .ok (.putfield 18, 3)) (kk : ∀ (H : Heap) (locs : List Loc), WS g (va_up σ 51 (upd (σ 51) 2 x)) τ s H locs → W p l e R s m args below meth c H locs cells slots Q (F0 m (pc + 3) ls rest)) : W p l e R s m args below meth c H locs cells slots Q (F0 m pc ls (.int x :: .ref (gA g 51) :: rest)) := x_put F G hS (i := 51) (k := 2) (N := 3) (T := TX3) (C := RX3) (ci := 3) (eo_X3 g _ _) (by decide) rfl inX3 tyX3 tyX3_ok nmX3 (by decide) tb_318 rfl rfl rfl (Nat.le_of_ble_eq_true rfl) rfl hdg kk
set_option maxRecDepth 20000 in
theorem gf_X4_9 (F : CallFix p m c cc nL s args TBL RX4) (G : AK g s) (hS : WS g σ τ s H locs) (hdg : decode cc pc = .ok (.getfield 9, 3)) (kk : W p l e R s m args below meth c H locs cells slots Q (F0 m (pc + 3) ls (.ref (gA g 55) :: rest))) : W p l e R s m args below meth c H locs cells slots Q (F0 m pc ls (.ref (gA g 54) :: rest)) := x_get F G hS (i := 54) (k := 0) (N := 4) (T := TX4) (C := RX4) (ci := 4) (eo_X4 g _ _) (by decide) rfl inX4 (by decide) tb_333 rfl rfl hdg kk
set_option maxRecDepth 20000 in
theorem gf_X4_15 (F : CallFix p m c cc nL s args TBL RX4) (G : AK g s) (hS : WS g σ τ s H locs) (hdg : decode cc pc = .ok (.getfield 15, 3)) (kk : W p l e R s m args below meth c H locs cells slots Q (F0 m (pc + 3) ls (.ref (gA g 56) :: rest))) : W p l e R s m args below meth c H locs cells slots Q (F0 m pc ls (.ref (gA g 54) :: rest)) := x_get F G hS (i := 54) (k := 1) (N := 4) (T := TX4) (C := RX4) (ci := 4) (eo_X4 g _ _) (by decide) rfl inX4 (by decide) tb_334 rfl rfl hdg kk
set_option maxRecDepth 20000 in
theorem gf_X4_18 (F : CallFix p m c cc nL s args TBL RX4) (G : AK g s) (hS : WS g σ τ s H locs) (hdg : decode cc pc = .ok (.getfield 18, 3)) (kk : W p l e R s m args below meth c H locs cells slots Q (F0 m (pc + 3) ls (.ref (gA g 57) :: rest))) : W p l e R s m args below meth c H locs cells slots Q (F0 m pc ls (.ref (gA g 54) :: rest)) := x_get F G hS (i := 54) (k := 2) (N := 4) (T := TX4) (C := RX4) (ci := 4) (eo_X4 g _ _) (by decide) rfl inX4 (by decide) tb_335 rfl rfl hdg kk
set_option maxRecDepth 20000 in
theorem gf_X4_21 (F : CallFix p m c cc nL s args TBL RX4) (G : AK g s) (hS : WS g σ τ s H locs) (hdg : decode cc pc = .ok (.getfield 21, 3)) (kk : W p l e R s m args below meth c H locs cells slots Q (F0 m (pc + 3) ls (.ref (gA g 58) :: rest))) : W p l e R s m args below meth c H locs cells slots Q (F0 m pc ls (.ref (gA g 54) :: rest)) := x_get F G hS (i := 54) (k := 3) (N := 4) (T := TX4) (C := RX4) (ci := 4) (eo_X4 g _ _) (by decide) rfl inX4 (by decide) tb_336 rfl rfl hdg kk
set_option maxRecDepth 20000 in
theorem gf_X5_9 (F : CallFix p m c cc nL s args TBL RX5) (G : AK g s) (hS : WS g σ τ s H locs) (hdg : decode cc pc = .ok (.getfield 9, 3)) (kk : W p l e R s m args below meth c H locs cells slots Q (F0 m (pc + 3) ls (.ref (gA g 38) :: rest))) : W p l e R s m args below meth c H locs cells slots Q (F0 m pc ls (.ref (gA g 37) :: rest)) := x_get F G hS (i := 37) (k := 0) (N := 5) (T := TX5) (C := RX5) (ci := 5) (eo_X5 g _ _) (by decide) rfl inX5 (by decide) tb_196 rfl rfl hdg kk
set_option maxRecDepth 20000 in
theorem gf_X5_15 (F : CallFix p m c cc nL s args TBL RX5) (G : AK g s) (hS : WS g σ τ s H locs) (hdg : decode cc pc = .ok (.getfield 15, 3)) (kk : W p l e R s m args below meth c H locs cells slots Q (F0 m (pc + 3) ls (.int (σ 37 1) :: rest))) : W p l e R s m args below meth c H locs cells slots Q (F0 m pc ls (.ref (gA g 37) :: rest)) := x_get F G hS (i := 37) (k := 1) (N := 5) (T := TX5) (C := RX5) (ci := 5) (eo_X5 g _ _) (by decide) rfl inX5 (by decide) tb_197 rfl rfl hdg kk
set_option maxRecDepth 20000 in
theorem pf_X5_15 (F : CallFix p m c cc nL s args TBL RX5) (G : AK g s) (hS : WS g σ τ s H locs) {x : Int32} (hdg : decode cc pc = .ok (.putfield 15, 3)) (kk : ∀ (H : Heap) (locs : List Loc), WS g (va_up σ 37 (upd (σ 37) 1 x)) τ s H locs → W p l e R s m args below meth c H locs cells slots Q (F0 m (pc + 3) ls rest)) : W p l e R s m args below meth c H locs cells slots Q (F0 m pc ls (.int x :: .ref (gA g 37) :: rest)) := x_put F G hS (i := 37) (k := 1) (N := 5) (T := TX5) (C := RX5) (ci := 5) (eo_X5 g _ _) (by decide) rfl inX5 tyX5 tyX5_ok nmX5 (by decide) tb_197 rfl rfl rfl (Nat.le_of_ble_eq_true rfl) rfl hdg kk
set_option maxRecDepth 20000 in
theorem gf_X5_19 (F : CallFix p m c cc nL s args TBL RX5) (G : AK g s) (hS : WS g σ τ s H locs) (hdg : decode cc pc = .ok (.getfield 19, 3)) (kk : W p l e R s m args below meth c H locs cells slots Q (F0 m (pc + 3) ls (.int (σ 37 2) :: rest))) : W p l e R s m args below meth c H locs cells slots Q (F0 m pc ls (.ref (gA g 37) :: rest)) := x_get F G hS (i := 37) (k := 2) (N := 5) (T := TX5) (C := RX5) (ci := 5) (eo_X5 g _ _) (by decide) rfl inX5 (by decide) tb_201 rfl rfl hdg kk
set_option maxRecDepth 20000 in
theorem pf_X5_19 (F : CallFix p m c cc nL s args TBL RX5) (G : AK g s) (hS : WS g σ τ s H locs) {x : Int32} (hdg : decode cc pc = .ok (.putfield 19, 3)) (kk : ∀ (H : Heap) (locs : List Loc), WS g (va_up σ 37 (upd (σ 37) 2 x)) τ s H locs → W p l e R s m args below meth c H locs cells slots Q (F0 m (pc + 3) ls rest)) : W p l e R s m args below meth c H locs cells slots Q (F0 m pc ls (.int x :: .ref (gA g 37) :: rest)) := x_put F G hS (i := 37) (k := 2) (N := 5) (T := TX5) (C := RX5) (ci := 5) (eo_X5 g _ _) (by decide) rfl inX5 tyX5 tyX5_ok nmX5 (by decide) tb_201 rfl rfl rfl (Nat.le_of_ble_eq_true rfl) rfl hdg kk
set_option maxRecDepth 20000 in
theorem gf_X5_26 (F : CallFix p m c cc nL s args TBL RX5) (G : AK g s) (hS : WS g σ τ s H locs) (hdg : decode cc pc = .ok (.getfield 26, 3)) (kk : W p l e R s m args below meth c H locs cells slots Q (F0 m (pc + 3) ls (.int (σ 37 4) :: rest))) : W p l e R s m args below meth c H locs cells slots Q (F0 m pc ls (.ref (gA g 37) :: rest)) := x_get F G hS (i := 37) (k := 4) (N := 5) (T := TX5) (C := RX5) (ci := 5) (eo_X5 g _ _) (by decide) rfl inX5 (by decide) tb_204 rfl rfl hdg kk
set_option maxRecDepth 20000 in
theorem pf_X5_26 (F : CallFix p m c cc nL s args TBL RX5) (G : AK g s) (hS : WS g σ τ s H locs) {x : Int32} (hdg : decode cc pc = .ok (.putfield 26, 3)) (kk : ∀ (H : Heap) (locs : List Loc), WS g (va_up σ 37 (upd (σ 37) 4 x)) τ s H locs → W p l e R s m args below meth c H locs cells slots Q (F0 m (pc + 3) ls rest)) : W p l e R s m args below meth c H locs cells slots Q (F0 m pc ls (.int x :: .ref (gA g 37) :: rest)) := x_put F G hS (i := 37) (k := 4) (N := 5) (T := TX5) (C := RX5) (ci := 5) (eo_X5 g _ _) (by decide) rfl inX5 tyX5 tyX5_ok nmX5 (by decide) tb_204 rfl rfl rfl (Nat.le_of_ble_eq_true rfl) rfl hdg kk
set_option maxRecDepth 20000 in
theorem gf_X5_32 (F : CallFix p m c cc nL s args TBL RX5) (G : AK g s) (hS : WS g σ τ s H locs) (hdg : decode cc pc = .ok (.getfield 32, 3)) (kk : W p l e R s m args below meth c H locs cells slots Q (F0 m (pc + 3) ls (.int (σ 37 3) :: rest))) : W p l e R s m args below meth c H locs cells slots Q (F0 m pc ls (.ref (gA g 37) :: rest)) := x_get F G hS (i := 37) (k := 3) (N := 5) (T := TX5) (C := RX5) (ci := 5) (eo_X5 g _ _) (by decide) rfl inX5 (by decide) tb_203 rfl rfl hdg kk
set_option maxRecDepth 20000 in
theorem pf_X5_32 (F : CallFix p m c cc nL s args TBL RX5) (G : AK g s) (hS : WS g σ τ s H locs) {x : Int32} (hdg : decode cc pc = .ok (.putfield 32, 3)) (kk : ∀ (H : Heap) (locs : List Loc), WS g (va_up σ 37 (upd (σ 37) 3 x)) τ s H locs → W p l e R s m args below meth c H locs cells slots Q (F0 m (pc + 3) ls rest)) : W p l e R s m args below meth c H locs cells slots Q (F0 m pc ls (.int x :: .ref (gA g 37) :: rest)) := x_put F G hS (i := 37) (k := 3) (N := 5) (T := TX5) (C := RX5) (ci := 5) (eo_X5 g _ _) (by decide) rfl inX5 tyX5 tyX5_ok nmX5 (by decide) tb_203 rfl rfl rfl (Nat.le_of_ble_eq_true rfl) rfl hdg kk
set_option maxRecDepth 20000 in
theorem gf_X6_9 {b : Nat} (F : CallFix p m c cc nL s args TBL RX6) (G : AK g s) (hS : WS g σ τ s H locs) (hb : (ar b).1 = 11) (hdg : decode cc pc = .ok (.getfield 9, 3)) (kk : W p l e R s m args below meth c H locs cells slots Q (F0 m (pc + 3) ls (.ref (gA g (b + 1)) :: rest))) : W p l e R s m args below meth c H locs cells slots Q (F0 m pc ls (.ref (gA g b) :: rest)) := x_get F G hS (i := b) (k := 0) (N := 8) (T := TX6) (C := RX6) (ci := 6) (ar_T hb g _ _) (ar_l11 hb) rfl inX6 (by decide) tb_149 rfl rfl hdg kk
set_option maxRecDepth 20000 in
theorem gf_X6_15 {b : Nat} (F : CallFix p m c cc nL s args TBL RX6) (G : AK g s) (hS : WS g σ τ s H locs) (hb : (ar b).1 = 11) (hdg : decode cc pc = .ok (.getfield 15, 3)) (kk : W p l e R s m args below meth c H locs cells slots Q (F0 m (pc + 3) ls (.ref (gA g (b + 2)) :: rest))) : W p l e R s m args below meth c H locs cells slots Q (F0 m pc ls (.ref (gA g b) :: rest)) := x_get F G hS (i := b) (k := 1) (N := 8) (T := TX6) (C := RX6) (ci := 6) (ar_T hb g _ _) (ar_l11 hb) rfl inX6 (by decide) tb_150 rfl rfl hdg kk
set_option maxRecDepth 20000 in
theorem gf_X6_18 {b : Nat} (F : CallFix p m c cc nL s args TBL RX6) (G : AK g s) (hS : WS g σ τ s H locs) (hb : (ar b).1 = 11) (hdg : decode cc pc = .ok (.getfield 18, 3)) (kk : W p l e R s m args below meth c H locs cells slots Q (F0 m (pc + 3) ls (.ref (gA g (b + 3)) :: rest))) : W p l e R s m args below meth c H locs cells slots Q (F0 m pc ls (.ref (gA g b) :: rest)) := x_get F G hS (i := b) (k := 2) (N := 8) (T := TX6) (C := RX6) (ci := 6) (ar_T hb g _ _) (ar_l11 hb) rfl inX6 (by decide) tb_153 rfl rfl hdg kk
set_option maxRecDepth 20000 in
theorem gf_X6_21 {b : Nat} (F : CallFix p m c cc nL s args TBL RX6) (G : AK g s) (hS : WS g σ τ s H locs) (hb : (ar b).1 = 11) (hdg : decode cc pc = .ok (.getfield 21, 3)) (kk : W p l e R s m args below meth c H locs cells slots Q (F0 m (pc + 3) ls (.ref (gA g (b + 4)) :: rest))) : W p l e R s m args below meth c H locs cells slots Q (F0 m pc ls (.ref (gA g b) :: rest)) := x_get F G hS (i := b) (k := 3) (N := 8) (T := TX6) (C := RX6) (ci := 6) (ar_T hb g _ _) (ar_l11 hb) rfl inX6 (by decide) tb_156 rfl rfl hdg kk
set_option maxRecDepth 20000 in
theorem gf_X6_24 {b : Nat} (F : CallFix p m c cc nL s args TBL RX6) (G : AK g s) (hS : WS g σ τ s H locs) (hb : (ar b).1 = 11) (hdg : decode cc pc = .ok (.getfield 24, 3)) (kk : W p l e R s m args below meth c H locs cells slots Q (F0 m (pc + 3) ls (.ref (gA g (b + 5)) :: rest))) : W p l e R s m args below meth c H locs cells slots Q (F0 m pc ls (.ref (gA g b) :: rest)) := x_get F G hS (i := b) (k := 4) (N := 8) (T := TX6) (C := RX6) (ci := 6) (ar_T hb g _ _) (ar_l11 hb) rfl inX6 (by decide) tb_159 rfl rfl hdg kk
set_option maxRecDepth 20000 in
theorem gf_X6_27 {b : Nat} (F : CallFix p m c cc nL s args TBL RX6) (G : AK g s) (hS : WS g σ τ s H locs) (hb : (ar b).1 = 11) (hdg : decode cc pc = .ok (.getfield 27, 3)) (kk : W p l e R s m args below meth c H locs cells slots Q (F0 m (pc + 3) ls (.ref (gA g (b + 6)) :: rest))) : W p l e R s m args below meth c H locs cells slots Q (F0 m pc ls (.ref (gA g b) :: rest)) := x_get F G hS (i := b) (k := 5) (N := 8) (T := TX6) (C := RX6) (ci := 6) (ar_T hb g _ _) (ar_l11 hb) rfl inX6 (by decide) tb_162 rfl rfl hdg kk
set_option maxRecDepth 20000 in
theorem gf_X6_30 {b : Nat} (F : CallFix p m c cc nL s args TBL RX6) (G : AK g s) (hS : WS g σ τ s H locs) (hb : (ar b).1 = 11) (hdg : decode cc pc = .ok (.getfield 30, 3)) (kk : W p l e R s m args below meth c H locs cells slots Q (F0 m (pc + 3) ls (.ref (gA g (b + 7)) :: rest))) : W p l e R s m args below meth c H locs cells slots Q (F0 m pc ls (.ref (gA g b) :: rest)) := x_get F G hS (i := b) (k := 6) (N := 8) (T := TX6) (C := RX6) (ci := 6) (ar_T hb g _ _) (ar_l11 hb) rfl inX6 (by decide) tb_166 rfl rfl hdg kk
set_option maxRecDepth 20000 in
theorem gf_X6_33 {b : Nat} (F : CallFix p m c cc nL s args TBL RX6) (G : AK g s) (hS : WS g σ τ s H locs) (hb : (ar b).1 = 11) (hdg : decode cc pc = .ok (.getfield 33, 3)) (kk : W p l e R s m args below meth c H locs cells slots Q (F0 m (pc + 3) ls (.ref (gA g (b + 8)) :: rest))) : W p l e R s m args below meth c H locs cells slots Q (F0 m pc ls (.ref (gA g b) :: rest)) := x_get F G hS (i := b) (k := 7) (N := 8) (T := TX6) (C := RX6) (ci := 6) (ar_T hb g _ _) (ar_l11 hb) rfl inX6 (by decide) tb_169 rfl rfl hdg kk
set_option maxRecDepth 20000 in
theorem gs_X6_39 (F : CallFix p m c cc nL s args TBL RX6) (G : AK g s) (hS : WS g σ τ s H locs) (hdg : decode cc pc = .ok (.getstatic 39, 3)) (kk : W p l e R s m args below meth c H locs cells slots Q (F0 m (pc + 3) ls (.ref (gA g 100) :: rest))) : W p l e R s m args below meth c H locs cells slots Q (F0 m pc ls rest) := x_getsN F G hS 100 (by decide) (host := "MailCatch") (ts_1 _ (List.mem_of_getElem? (i := 36) rfl)) hdg kk
set_option maxRecDepth 20000 in
theorem gf_X7_10 (F : CallFix p m c cc nL s args TBL RX7) (G : AK g s) (hS : WS g σ τ s H locs) (hdg : decode cc pc = .ok (.getfield 10, 3)) (kk : W p l e R s m args below meth c H locs cells slots Q (F0 m (pc + 3) ls (.ref (gA g 1) :: rest))) : W p l e R s m args below meth c H locs cells slots Q (F0 m pc ls (.ref (gA g 0) :: rest)) := x_get F G hS (i := 0) (k := 0) (N := 13) (T := TX7) (C := RX7) (ci := 7) (eo_X7 g _ _) (by decide) rfl inX7 (by decide) tb_346 rfl rfl hdg kk
set_option maxRecDepth 20000 in
theorem gf_X7_16 (F : CallFix p m c cc nL s args TBL RX7) (G : AK g s) (hS : WS g σ τ s H locs) (hdg : decode cc pc = .ok (.getfield 16, 3)) (kk : W p l e R s m args below meth c H locs cells slots Q (F0 m (pc + 3) ls (.ref (gA g 10) :: rest))) : W p l e R s m args below meth c H locs cells slots Q (F0 m pc ls (.ref (gA g 0) :: rest)) := x_get F G hS (i := 0) (k := 1) (N := 13) (T := TX7) (C := RX7) (ci := 7) (eo_X7 g _ _) (by decide) rfl inX7 (by decide) tb_347 rfl rfl hdg kk
set_option maxRecDepth 20000 in
theorem gf_X7_19 (F : CallFix p m c cc nL s args TBL RX7) (G : AK g s) (hS : WS g σ τ s H locs) (hdg : decode cc pc = .ok (.getfield 19, 3)) (kk : W p l e R s m args below meth c H locs cells slots Q (F0 m (pc + 3) ls (.ref (gA g 19) :: rest))) : W p l e R s m args below meth c H locs cells slots Q (F0 m pc ls (.ref (gA g 0) :: rest)) := x_get F G hS (i := 0) (k := 2) (N := 13) (T := TX7) (C := RX7) (ci := 7) (eo_X7 g _ _) (by decide) rfl inX7 (by decide) tb_348 rfl rfl hdg kk
set_option maxRecDepth 20000 in
theorem gf_X7_25 (F : CallFix p m c cc nL s args TBL RX7) (G : AK g s) (hS : WS g σ τ s H locs) (hdg : decode cc pc = .ok (.getfield 25, 3)) (kk : W p l e R s m args below meth c H locs cells slots Q (F0 m (pc + 3) ls (.ref (gA g 37) :: rest))) : W p l e R s m args below meth c H locs cells slots Q (F0 m pc ls (.ref (gA g 0) :: rest)) := x_get F G hS (i := 0) (k := 4) (N := 13) (T := TX7) (C := RX7) (ci := 7) (eo_X7 g _ _) (by decide) rfl inX7 (by decide) tb_350 rfl rfl hdg kk
set_option maxRecDepth 20000 in
theorem gf_X7_34 (F : CallFix p m c cc nL s args TBL RX7) (G : AK g s) (hS : WS g σ τ s H locs) (hdg : decode cc pc = .ok (.getfield 34, 3)) (kk : W p l e R s m args below meth c H locs cells slots Q (F0 m (pc + 3) ls (.ref (gA g 39) :: rest))) : W p l e R s m args below meth c H locs cells slots Q (F0 m pc ls (.ref (gA g 0) :: rest)) := x_get F G hS (i := 0) (k := 5) (N := 13) (T := TX7) (C := RX7) (ci := 7) (eo_X7 g _ _) (by decide) rfl inX7 (by decide) tb_351 rfl rfl hdg kk
set_option maxRecDepth 20000 in
theorem gf_X7_41 (F : CallFix p m c cc nL s args TBL RX7) (G : AK g s) (hS : WS g σ τ s H locs) (hdg : decode cc pc = .ok (.getfield 41, 3)) (kk : W p l e R s m args below meth c H locs cells slots Q (F0 m (pc + 3) ls (.ref (gA g 40) :: rest))) : W p l e R s m args below meth c H locs cells slots Q (F0 m pc ls (.ref (gA g 0) :: rest)) := x_get F G hS (i := 0) (k := 7) (N := 13) (T := TX7) (C := RX7) (ci := 7) (eo_X7 g _ _) (by decide) rfl inX7 (by decide) tb_353 rfl rfl hdg kk
set_option maxRecDepth 20000 in
theorem gf_X7_48 (F : CallFix p m c cc nL s args TBL RX7) (G : AK g s) (hS : WS g σ τ s H locs) (hdg : decode cc pc = .ok (.getfield 48, 3)) (kk : W p l e R s m args below meth c H locs cells slots Q (F0 m (pc + 3) ls (.ref (gA g 41) :: rest))) : W p l e R s m args below meth c H locs cells slots Q (F0 m pc ls (.ref (gA g 0) :: rest)) := x_get F G hS (i := 0) (k := 8) (N := 13) (T := TX7) (C := RX7) (ci := 7) (eo_X7 g _ _) (by decide) rfl inX7 (by decide) tb_354 rfl rfl hdg kk
set_option maxRecDepth 20000 in
theorem gf_X7_55 (F : CallFix p m c cc nL s args TBL RX7) (G : AK g s) (hS : WS g σ τ s H locs) (hdg : decode cc pc = .ok (.getfield 55, 3)) (kk : W p l e R s m args below meth c H locs cells slots Q (F0 m (pc + 3) ls (.ref (gA g 51) :: rest))) : W p l e R s m args below meth c H locs cells slots Q (F0 m pc ls (.ref (gA g 0) :: rest)) := x_get F G hS (i := 0) (k := 9) (N := 13) (T := TX7) (C := RX7) (ci := 7) (eo_X7 g _ _) (by decide) rfl inX7 (by decide) tb_355 rfl rfl hdg kk
set_option maxRecDepth 20000 in
theorem gf_X7_62 (F : CallFix p m c cc nL s args TBL RX7) (G : AK g s) (hS : WS g σ τ s H locs) (hdg : decode cc pc = .ok (.getfield 62, 3)) (kk : W p l e R s m args below meth c H locs cells slots Q (F0 m (pc + 3) ls (.ref (gA g 54) :: rest))) : W p l e R s m args below meth c H locs cells slots Q (F0 m pc ls (.ref (gA g 0) :: rest)) := x_get F G hS (i := 0) (k := 10) (N := 13) (T := TX7) (C := RX7) (ci := 7) (eo_X7 g _ _) (by decide) rfl inX7 (by decide) tb_356 rfl rfl hdg kk
set_option maxRecDepth 20000 in
theorem gf_X7_66 (F : CallFix p m c cc nL s args TBL RX7) (G : AK g s) (hS : WS g σ τ s H locs) (hdg : decode cc pc = .ok (.getfield 66, 3)) (kk : W p l e R s m args below meth c H locs cells slots Q (F0 m (pc + 3) ls (.ref (gA g 59) :: rest))) : W p l e R s m args below meth c H locs cells slots Q (F0 m pc ls (.ref (gA g 0) :: rest)) := x_get F G hS (i := 0) (k := 11) (N := 13) (T := TX7) (C := RX7) (ci := 7) (eo_X7 g _ _) (by decide) rfl inX7 (by decide) tb_357 rfl rfl hdg kk
set_option maxRecDepth 20000 in
theorem gf_X7_74 (F : CallFix p m c cc nL s args TBL RX7) (G : AK g s) (hS : WS g σ τ s H locs) (hdg : decode cc pc = .ok (.getfield 74, 3)) (kk : W p l e R s m args below meth c H locs cells slots Q (F0 m (pc + 3) ls (.int (σ 37 1) :: rest))) : W p l e R s m args below meth c H locs cells slots Q (F0 m pc ls (.ref (gA g 37) :: rest)) := x_getN F G hS (i := 37) (k := 1) (N := 5) (T := TX5) (C := RX5) (ci := 5) (eo_X5 g _ _) (by decide) rfl inX5 (by decide) (host := "MailCatch") (ts_1 _ (List.mem_of_getElem? (i := 90) rfl)) rfl rfl hdg kk
set_option maxRecDepth 20000 in
theorem pf_X7_74 (F : CallFix p m c cc nL s args TBL RX7) (G : AK g s) (hS : WS g σ τ s H locs) {x : Int32} (hdg : decode cc pc = .ok (.putfield 74, 3)) (kk : ∀ (H : Heap) (locs : List Loc), WS g (va_up σ 37 (upd (σ 37) 1 x)) τ s H locs → W p l e R s m args below meth c H locs cells slots Q (F0 m (pc + 3) ls rest)) : W p l e R s m args below meth c H locs cells slots Q (F0 m pc ls (.int x :: .ref (gA g 37) :: rest)) := x_putN F G hS (i := 37) (k := 1) (N := 5) (T := TX5) (C := RX5) (ci := 5) (eo_X5 g _ _) (by decide) rfl inX5 tyX5 tyX5_ok nmX5 (by decide) (host := "MailCatch") (ts_1 _ (List.mem_of_getElem? (i := 90) rfl)) rfl rfl rfl (Nat.le_of_ble_eq_true rfl) rfl hdg kk
set_option maxRecDepth 20000 in
theorem gf_X7_88 (F : CallFix p m c cc nL s args TBL RX7) (G : AK g s) (hS : WS g σ τ s H locs) (hdg : decode cc pc = .ok (.getfield 88, 3)) (kk : W p l e R s m args below meth c H locs cells slots Q (F0 m (pc + 3) ls (.int (σ 39 3) :: rest))) : W p l e R s m args below meth c H locs cells slots Q (F0 m pc ls (.ref (gA g 39) :: rest)) := x_getN F G hS (i := 39) (k := 3) (N := 5) (T := TX2) (C := RX2) (ci := 2) (eo_X2 g _ _) (by decide) rfl inX2 (by decide) (host := "MailCatch") (ts_1 _ (List.mem_of_getElem? (i := 123) rfl)) rfl rfl hdg kk
set_option maxRecDepth 20000 in
theorem gf_X7_91 (F : CallFix p m c cc nL s args TBL RX7) (G : AK g s) (hS : WS g σ τ s H locs) (hdg : decode cc pc = .ok (.getfield 91, 3)) (kk : W p l e R s m args below meth c H locs cells slots Q (F0 m (pc + 3) ls (.int (σ 0 6) :: rest))) : W p l e R s m args below meth c H locs cells slots Q (F0 m pc ls (.ref (gA g 0) :: rest)) := x_get F G hS (i := 0) (k := 6) (N := 13) (T := TX7) (C := RX7) (ci := 7) (eo_X7 g _ _) (by decide) rfl inX7 (by decide) tb_352 rfl rfl hdg kk
set_option maxRecDepth 20000 in
theorem pf_X7_91 (F : CallFix p m c cc nL s args TBL RX7) (G : AK g s) (hS : WS g σ τ s H locs) {x : Int32} (hdg : decode cc pc = .ok (.putfield 91, 3)) (kk : ∀ (H : Heap) (locs : List Loc), WS g (va_up σ 0 (upd (σ 0) 6 x)) τ s H locs → W p l e R s m args below meth c H locs cells slots Q (F0 m (pc + 3) ls rest)) : W p l e R s m args below meth c H locs cells slots Q (F0 m pc ls (.int x :: .ref (gA g 0) :: rest)) := x_put F G hS (i := 0) (k := 6) (N := 13) (T := TX7) (C := RX7) (ci := 7) (eo_X7 g _ _) (by decide) rfl inX7 tyX7 tyX7_ok nmX7 (by decide) tb_352 rfl rfl rfl (Nat.le_of_ble_eq_true rfl) rfl hdg kk
set_option maxRecDepth 20000 in
theorem gf_X7_94 (F : CallFix p m c cc nL s args TBL RX7) (G : AK g s) (hS : WS g σ τ s H locs) (hdg : decode cc pc = .ok (.getfield 94, 3)) (kk : W p l e R s m args below meth c H locs cells slots Q (F0 m (pc + 3) ls (.int (σ 39 4) :: rest))) : W p l e R s m args below meth c H locs cells slots Q (F0 m pc ls (.ref (gA g 39) :: rest)) := x_getN F G hS (i := 39) (k := 4) (N := 5) (T := TX2) (C := RX2) (ci := 2) (eo_X2 g _ _) (by decide) rfl inX2 (by decide) (host := "MailCatch") (ts_1 _ (List.mem_of_getElem? (i := 125) rfl)) rfl rfl hdg kk
set_option maxRecDepth 20000 in
theorem gf_X7_97 (F : CallFix p m c cc nL s args TBL RX7) (G : AK g s) (hS : WS g σ τ s H locs) (hdg : decode cc pc = .ok (.getfield 97, 3)) (kk : W p l e R s m args below meth c H locs cells slots Q (F0 m (pc + 3) ls (.ref (gA g 28) :: rest))) : W p l e R s m args below meth c H locs cells slots Q (F0 m pc ls (.ref (gA g 39) :: rest)) := x_getN F G hS (i := 39) (k := 1) (N := 5) (T := TX2) (C := RX2) (ci := 2) (eo_X2 g _ _) (by decide) rfl inX2 (by decide) (host := "MailCatch") (ts_1 _ (List.mem_of_getElem? (i := 120) rfl)) rfl rfl hdg kk
set_option maxRecDepth 20000 in
theorem gf_X7_104 (F : CallFix p m c cc nL s args TBL RX7) (G : AK g s) (hS : WS g σ τ s H locs) (hdg : decode cc pc = .ok (.getfield 104, 3)) (kk : W p l e R s m args below meth c H locs cells slots Q (F0 m (pc + 3) ls (.int (σ 51 2) :: rest))) : W p l e R s m args below meth c H locs cells slots Q (F0 m pc ls (.ref (gA g 51) :: rest)) := x_getN F G hS (i := 51) (k := 2) (N := 3) (T := TX3) (C := RX3) (ci := 3) (eo_X3 g _ _) (by decide) rfl inX3 (by decide) (host := "MailCatch") (ts_1 _ (List.mem_of_getElem? (i := 211) rfl)) rfl rfl hdg kk
set_option maxRecDepth 20000 in
theorem pf_X7_104 (F : CallFix p m c cc nL s args TBL RX7) (G : AK g s) (hS : WS g σ τ s H locs) {x : Int32} (hdg : decode cc pc = .ok (.putfield 104, 3)) (kk : ∀ (H : Heap) (locs : List Loc), WS g (va_up σ 51 (upd (σ 51) 2 x)) τ s H locs → W p l e R s m args below meth c H locs cells slots Q (F0 m (pc + 3) ls rest)) : W p l e R s m args below meth c H locs cells slots Q (F0 m pc ls (.int x :: .ref (gA g 51) :: rest)) := x_putN F G hS (i := 51) (k := 2) (N := 3) (T := TX3) (C := RX3) (ci := 3) (eo_X3 g _ _) (by decide) rfl inX3 tyX3 tyX3_ok nmX3 (by decide) (host := "MailCatch") (ts_1 _ (List.mem_of_getElem? (i := 211) rfl)) rfl rfl rfl (Nat.le_of_ble_eq_true rfl) rfl hdg kk
set_option maxRecDepth 20000 in
theorem gf_X7_107 (F : CallFix p m c cc nL s args TBL RX7) (G : AK g s) (hS : WS g σ τ s H locs) (hdg : decode cc pc = .ok (.getfield 107, 3)) (kk : W p l e R s m args below meth c H locs cells slots Q (F0 m (pc + 3) ls (.int (σ 0 3) :: rest))) : W p l e R s m args below meth c H locs cells slots Q (F0 m pc ls (.ref (gA g 0) :: rest)) := x_get F G hS (i := 0) (k := 3) (N := 13) (T := TX7) (C := RX7) (ci := 7) (eo_X7 g _ _) (by decide) rfl inX7 (by decide) tb_349 rfl rfl hdg kk
set_option maxRecDepth 20000 in
theorem pf_X7_107 (F : CallFix p m c cc nL s args TBL RX7) (G : AK g s) (hS : WS g σ τ s H locs) {x : Int32} (hdg : decode cc pc = .ok (.putfield 107, 3)) (kk : ∀ (H : Heap) (locs : List Loc), WS g (va_up σ 0 (upd (σ 0) 3 x)) τ s H locs → W p l e R s m args below meth c H locs cells slots Q (F0 m (pc + 3) ls rest)) : W p l e R s m args below meth c H locs cells slots Q (F0 m pc ls (.int x :: .ref (gA g 0) :: rest)) := x_put F G hS (i := 0) (k := 3) (N := 13) (T := TX7) (C := RX7) (ci := 7) (eo_X7 g _ _) (by decide) rfl inX7 tyX7 tyX7_ok nmX7 (by decide) tb_349 rfl rfl rfl (Nat.le_of_ble_eq_true rfl) rfl hdg kk
set_option maxRecDepth 20000 in
theorem gf_X7_117 {b : Nat} (F : CallFix p m c cc nL s args TBL RX7) (G : AK g s) (hS : WS g σ τ s H locs) (hb : (ar b).1 = 11) (hdg : decode cc pc = .ok (.getfield 117, 3)) (kk : W p l e R s m args below meth c H locs cells slots Q (F0 m (pc + 3) ls (.ref (gA g (b + 2)) :: rest))) : W p l e R s m args below meth c H locs cells slots Q (F0 m pc ls (.ref (gA g b) :: rest)) := x_getN F G hS (i := b) (k := 1) (N := 8) (T := TX6) (C := RX6) (ci := 6) (ar_T hb g _ _) (ar_l11 hb) rfl inX6 (by decide) (host := "MailCatch") (ts_1 _ (List.mem_of_getElem? (i := 44) rfl)) rfl rfl hdg kk
set_option maxRecDepth 20000 in
theorem gf_X7_124 {b : Nat} (F : CallFix p m c cc nL s args TBL RX7) (G : AK g s) (hS : WS g σ τ s H locs) (hb : (ar b).1 = 11) (hdg : decode cc pc = .ok (.getfield 124, 3)) (kk : W p l e R s m args below meth c H locs cells slots Q (F0 m (pc + 3) ls (.ref (gA g (b + 3)) :: rest))) : W p l e R s m args below meth c H locs cells slots Q (F0 m pc ls (.ref (gA g b) :: rest)) := x_getN F G hS (i := b) (k := 2) (N := 8) (T := TX6) (C := RX6) (ci := 6) (ar_T hb g _ _) (ar_l11 hb) rfl inX6 (by decide) (host := "MailCatch") (ts_1 _ (List.mem_of_getElem? (i := 47) rfl)) rfl rfl hdg kk
set_option maxRecDepth 20000 in
theorem gf_X7_127 {b : Nat} (F : CallFix p m c cc nL s args TBL RX7) (G : AK g s) (hS : WS g σ τ s H locs) (hb : (ar b).1 = 11) (hdg : decode cc pc = .ok (.getfield 127, 3)) (kk : W p l e R s m args below meth c H locs cells slots Q (F0 m (pc + 3) ls (.ref (gA g (b + 4)) :: rest))) : W p l e R s m args below meth c H locs cells slots Q (F0 m pc ls (.ref (gA g b) :: rest)) := x_getN F G hS (i := b) (k := 3) (N := 8) (T := TX6) (C := RX6) (ci := 6) (ar_T hb g _ _) (ar_l11 hb) rfl inX6 (by decide) (host := "MailCatch") (ts_1 _ (List.mem_of_getElem? (i := 50) rfl)) rfl rfl hdg kk
set_option maxRecDepth 20000 in
theorem gf_X7_140 {b : Nat} (F : CallFix p m c cc nL s args TBL RX7) (G : AK g s) (hS : WS g σ τ s H locs) (hb : (ar b).1 = 11) (hdg : decode cc pc = .ok (.getfield 140, 3)) (kk : W p l e R s m args below meth c H locs cells slots Q (F0 m (pc + 3) ls (.ref (gA g (b + 5)) :: rest))) : W p l e R s m args below meth c H locs cells slots Q (F0 m pc ls (.ref (gA g b) :: rest)) := x_getN F G hS (i := b) (k := 4) (N := 8) (T := TX6) (C := RX6) (ci := 6) (ar_T hb g _ _) (ar_l11 hb) rfl inX6 (by decide) (host := "MailCatch") (ts_1 _ (List.mem_of_getElem? (i := 53) rfl)) rfl rfl hdg kk
set_option maxRecDepth 20000 in
theorem gf_X7_143 {b : Nat} (F : CallFix p m c cc nL s args TBL RX7) (G : AK g s) (hS : WS g σ τ s H locs) (hb : (ar b).1 = 11) (hdg : decode cc pc = .ok (.getfield 143, 3)) (kk : W p l e R s m args below meth c H locs cells slots Q (F0 m (pc + 3) ls (.ref (gA g (b + 6)) :: rest))) : W p l e R s m args below meth c H locs cells slots Q (F0 m pc ls (.ref (gA g b) :: rest)) := x_getN F G hS (i := b) (k := 5) (N := 8) (T := TX6) (C := RX6) (ci := 6) (ar_T hb g _ _) (ar_l11 hb) rfl inX6 (by decide) (host := "MailCatch") (ts_1 _ (List.mem_of_getElem? (i := 57) rfl)) rfl rfl hdg kk
set_option maxRecDepth 20000 in
theorem gf_X7_149 {b : Nat} (F : CallFix p m c cc nL s args TBL RX7) (G : AK g s) (hS : WS g σ τ s H locs) (hb : (ar b).1 = 11) (hdg : decode cc pc = .ok (.getfield 149, 3)) (kk : W p l e R s m args below meth c H locs cells slots Q (F0 m (pc + 3) ls (.ref (gA g (b + 7)) :: rest))) : W p l e R s m args below meth c H locs cells slots Q (F0 m pc ls (.ref (gA g b) :: rest)) := x_getN F G hS (i := b) (k := 6) (N := 8) (T := TX6) (C := RX6) (ci := 6) (ar_T hb g _ _) (ar_l11 hb) rfl inX6 (by decide) (host := "MailCatch") (ts_1 _ (List.mem_of_getElem? (i := 60) rfl)) rfl rfl hdg kk
set_option maxRecDepth 20000 in
theorem gf_X7_152 {b : Nat} (F : CallFix p m c cc nL s args TBL RX7) (G : AK g s) (hS : WS g σ τ s H locs) (hb : (ar b).1 = 11) (hdg : decode cc pc = .ok (.getfield 152, 3)) (kk : W p l e R s m args below meth c H locs cells slots Q (F0 m (pc + 3) ls (.ref (gA g (b + 8)) :: rest))) : W p l e R s m args below meth c H locs cells slots Q (F0 m pc ls (.ref (gA g b) :: rest)) := x_getN F G hS (i := b) (k := 7) (N := 8) (T := TX6) (C := RX6) (ci := 6) (ar_T hb g _ _) (ar_l11 hb) rfl inX6 (by decide) (host := "MailCatch") (ts_1 _ (List.mem_of_getElem? (i := 63) rfl)) rfl rfl hdg kk
set_option maxRecDepth 20000 in
theorem gf_X7_218 (F : CallFix p m c cc nL s args TBL RX7) (G : AK g s) (hS : WS g σ τ s H locs) (hdg : decode cc pc = .ok (.getfield 218, 3)) (kk : W p l e R s m args below meth c H locs cells slots Q (F0 m (pc + 3) ls (.ref (gA g 49) :: rest))) : W p l e R s m args below meth c H locs cells slots Q (F0 m pc ls (.ref (gA g 41) :: rest)) := x_getN F G hS (i := 41) (k := 8) (N := 10) (T := TX0) (C := RX0) (ci := 0) (eo_X0 g _ _) (by decide) rfl inX0 (by decide) (host := "MailCatch") (ts_1 _ (List.mem_of_getElem? (i := 177) rfl)) rfl rfl hdg kk
set_option maxRecDepth 20000 in
theorem gf_X7_225 (F : CallFix p m c cc nL s args TBL RX7) (G : AK g s) (hS : WS g σ τ s H locs) (hdg : decode cc pc = .ok (.getfield 225, 3)) (kk : W p l e R s m args below meth c H locs cells slots Q (F0 m (pc + 3) ls (.ref (gA g 50) :: rest))) : W p l e R s m args below meth c H locs cells slots Q (F0 m pc ls (.ref (gA g 41) :: rest)) := x_getN F G hS (i := 41) (k := 9) (N := 10) (T := TX0) (C := RX0) (ci := 0) (eo_X0 g _ _) (by decide) rfl inX0 (by decide) (host := "MailCatch") (ts_1 _ (List.mem_of_getElem? (i := 179) rfl)) rfl rfl hdg kk
set_option maxRecDepth 20000 in
theorem gs_X7_243 (F : CallFix p m c cc nL s args TBL RX7) (G : AK g s) (hS : WS g σ τ s H locs) (hdg : decode cc pc = .ok (.getstatic 243, 3)) (kk : W p l e R s m args below meth c H locs cells slots Q (F0 m (pc + 3) ls (.ref (gA g 101) :: rest))) : W p l e R s m args below meth c H locs cells slots Q (F0 m pc ls rest) := x_gets F G hS 101 (by decide) tb_637 hdg kk
set_option maxRecDepth 20000 in
theorem gs_X7_246 (F : CallFix p m c cc nL s args TBL RX7) (G : AK g s) (hS : WS g σ τ s H locs) (hdg : decode cc pc = .ok (.getstatic 246, 3)) (kk : W p l e R s m args below meth c H locs cells slots Q (F0 m (pc + 3) ls (.ref (gA g 102) :: rest))) : W p l e R s m args below meth c H locs cells slots Q (F0 m pc ls rest) := x_gets F G hS 102 (by decide) tb_638 hdg kk
set_option maxRecDepth 20000 in
theorem gf_X7_325 (F : CallFix p m c cc nL s args TBL RX7) (G : AK g s) (hS : WS g σ τ s H locs) (hdg : decode cc pc = .ok (.getfield 325, 3)) (kk : W p l e R s m args below meth c H locs cells slots Q (F0 m (pc + 3) ls (.int (σ 0 12) :: rest))) : W p l e R s m args below meth c H locs cells slots Q (F0 m pc ls (.ref (gA g 0) :: rest)) := x_get F G hS (i := 0) (k := 12) (N := 13) (T := TX7) (C := RX7) (ci := 7) (eo_X7 g _ _) (by decide) rfl inX7 (by decide) tb_358 rfl rfl hdg kk
set_option maxRecDepth 20000 in
theorem pf_X7_325 (F : CallFix p m c cc nL s args TBL RX7) (G : AK g s) (hS : WS g σ τ s H locs) {x : Int32} (hdg : decode cc pc = .ok (.putfield 325, 3)) (kk : ∀ (H : Heap) (locs : List Loc), WS g (va_up σ 0 (upd (σ 0) 12 x)) τ s H locs → W p l e R s m args below meth c H locs cells slots Q (F0 m (pc + 3) ls rest)) : W p l e R s m args below meth c H locs cells slots Q (F0 m pc ls (.int x :: .ref (gA g 0) :: rest)) := x_put F G hS (i := 0) (k := 12) (N := 13) (T := TX7) (C := RX7) (ci := 7) (eo_X7 g _ _) (by decide) rfl inX7 tyX7 tyX7_ok nmX7 (by decide) tb_358 rfl rfl rfl (Nat.le_of_ble_eq_true rfl) rfl hdg kk
set_option maxRecDepth 20000 in
theorem gf_X8_7 (F : CallFix p m c cc nL s args TBL RX8) (G : AK g s) (hS : WS g σ τ s H locs) (hdg : decode cc pc = .ok (.getfield 7, 3)) (kk : W p l e R s m args below meth c H locs cells slots Q (F0 m (pc + 3) ls (.ref (gA g 61) :: rest))) : W p l e R s m args below meth c H locs cells slots Q (F0 m pc ls (.ref (gA g 60) :: rest)) := x_get F G hS (i := 60) (k := 0) (N := 47) (T := TX8) (C := RX8) (ci := 8) (eo_X8 g _ _) (by decide) rfl inX8 (by decide) tb_1033 rfl rfl hdg kk
set_option maxRecDepth 20000 in
theorem gf_X8_13 (F : CallFix p m c cc nL s args TBL RX8) (G : AK g s) (hS : WS g σ τ s H locs) (hdg : decode cc pc = .ok (.getfield 13, 3)) (kk : W p l e R s m args below meth c H locs cells slots Q (F0 m (pc + 3) ls (.int (σ 60 1) :: rest))) : W p l e R s m args below meth c H locs cells slots Q (F0 m pc ls (.ref (gA g 60) :: rest)) := x_get F G hS (i := 60) (k := 1) (N := 47) (T := TX8) (C := RX8) (ci := 8) (eo_X8 g _ _) (by decide) rfl inX8 (by decide) tb_1034 rfl rfl hdg kk
set_option maxRecDepth 20000 in
theorem pf_X8_13 (F : CallFix p m c cc nL s args TBL RX8) (G : AK g s) (hS : WS g σ τ s H locs) {x : Int32} (hdg : decode cc pc = .ok (.putfield 13, 3)) (kk : ∀ (H : Heap) (locs : List Loc), WS g (va_up σ 60 (upd (σ 60) 1 x)) τ s H locs → W p l e R s m args below meth c H locs cells slots Q (F0 m (pc + 3) ls rest)) : W p l e R s m args below meth c H locs cells slots Q (F0 m pc ls (.int x :: .ref (gA g 60) :: rest)) := x_put F G hS (i := 60) (k := 1) (N := 47) (T := TX8) (C := RX8) (ci := 8) (eo_X8 g _ _) (by decide) rfl inX8 tyX8 tyX8_ok nmX8 (by decide) tb_1034 rfl rfl rfl (Nat.le_of_ble_eq_true rfl) rfl hdg kk
set_option maxRecDepth 20000 in
theorem gf_X8_17 (F : CallFix p m c cc nL s args TBL RX8) (G : AK g s) (hS : WS g σ τ s H locs) (hdg : decode cc pc = .ok (.getfield 17, 3)) (kk : W p l e R s m args below meth c H locs cells slots Q (F0 m (pc + 3) ls (.ref (gA g 62) :: rest))) : W p l e R s m args below meth c H locs cells slots Q (F0 m pc ls (.ref (gA g 60) :: rest)) := x_get F G hS (i := 60) (k := 2) (N := 47) (T := TX8) (C := RX8) (ci := 8) (eo_X8 g _ _) (by decide) rfl inX8 (by decide) tb_1035 rfl rfl hdg kk
set_option maxRecDepth 20000 in
theorem gf_X8_20 (F : CallFix p m c cc nL s args TBL RX8) (G : AK g s) (hS : WS g σ τ s H locs) (hdg : decode cc pc = .ok (.getfield 20, 3)) (kk : W p l e R s m args below meth c H locs cells slots Q (F0 m (pc + 3) ls (.ref (gA g 63) :: rest))) : W p l e R s m args below meth c H locs cells slots Q (F0 m pc ls (.ref (gA g 60) :: rest)) := x_get F G hS (i := 60) (k := 4) (N := 47) (T := TX8) (C := RX8) (ci := 8) (eo_X8 g _ _) (by decide) rfl inX8 (by decide) tb_1037 rfl rfl hdg kk
set_option maxRecDepth 20000 in
theorem gf_X8_23 (F : CallFix p m c cc nL s args TBL RX8) (G : AK g s) (hS : WS g σ τ s H locs) (hdg : decode cc pc = .ok (.getfield 23, 3)) (kk : W p l e R s m args below meth c H locs cells slots Q (F0 m (pc + 3) ls (.ref (gA g 64) :: rest))) : W p l e R s m args below meth c H locs cells slots Q (F0 m pc ls (.ref (gA g 60) :: rest)) := x_get F G hS (i := 60) (k := 6) (N := 47) (T := TX8) (C := RX8) (ci := 8) (eo_X8 g _ _) (by decide) rfl inX8 (by decide) tb_1039 rfl rfl hdg kk
set_option maxRecDepth 20000 in
theorem gf_X8_26 (F : CallFix p m c cc nL s args TBL RX8) (G : AK g s) (hS : WS g σ τ s H locs) (hdg : decode cc pc = .ok (.getfield 26, 3)) (kk : W p l e R s m args below meth c H locs cells slots Q (F0 m (pc + 3) ls (.ref (gA g 65) :: rest))) : W p l e R s m args below meth c H locs cells slots Q (F0 m pc ls (.ref (gA g 60) :: rest)) := x_get F G hS (i := 60) (k := 8) (N := 47) (T := TX8) (C := RX8) (ci := 8) (eo_X8 g _ _) (by decide) rfl inX8 (by decide) tb_1041 rfl rfl hdg kk
set_option maxRecDepth 20000 in
theorem gf_X8_29 (F : CallFix p m c cc nL s args TBL RX8) (G : AK g s) (hS : WS g σ τ s H locs) (hdg : decode cc pc = .ok (.getfield 29, 3)) (kk : W p l e R s m args below meth c H locs cells slots Q (F0 m (pc + 3) ls (.ref (gA g 66) :: rest))) : W p l e R s m args below meth c H locs cells slots Q (F0 m pc ls (.ref (gA g 60) :: rest)) := x_get F G hS (i := 60) (k := 9) (N := 47) (T := TX8) (C := RX8) (ci := 8) (eo_X8 g _ _) (by decide) rfl inX8 (by decide) tb_1042 rfl rfl hdg kk
set_option maxRecDepth 20000 in
theorem gf_X8_32 (F : CallFix p m c cc nL s args TBL RX8) (G : AK g s) (hS : WS g σ τ s H locs) (hdg : decode cc pc = .ok (.getfield 32, 3)) (kk : W p l e R s m args below meth c H locs cells slots Q (F0 m (pc + 3) ls (.ref (gA g 67) :: rest))) : W p l e R s m args below meth c H locs cells slots Q (F0 m pc ls (.ref (gA g 60) :: rest)) := x_get F G hS (i := 60) (k := 10) (N := 47) (T := TX8) (C := RX8) (ci := 8) (eo_X8 g _ _) (by decide) rfl inX8 (by decide) tb_1043 rfl rfl hdg kk
set_option maxRecDepth 20000 in
theorem gf_X8_35 (F : CallFix p m c cc nL s args TBL RX8) (G : AK g s) (hS : WS g σ τ s H locs) (hdg : decode cc pc = .ok (.getfield 35, 3)) (kk : W p l e R s m args below meth c H locs cells slots Q (F0 m (pc + 3) ls (.ref (gA g 68) :: rest))) : W p l e R s m args below meth c H locs cells slots Q (F0 m pc ls (.ref (gA g 60) :: rest)) := x_get F G hS (i := 60) (k := 11) (N := 47) (T := TX8) (C := RX8) (ci := 8) (eo_X8 g _ _) (by decide) rfl inX8 (by decide) tb_1044 rfl rfl hdg kk
set_option maxRecDepth 20000 in
theorem gf_X8_38 (F : CallFix p m c cc nL s args TBL RX8) (G : AK g s) (hS : WS g σ τ s H locs) (hdg : decode cc pc = .ok (.getfield 38, 3)) (kk : W p l e R s m args below meth c H locs cells slots Q (F0 m (pc + 3) ls (.ref (gA g 69) :: rest))) : W p l e R s m args below meth c H locs cells slots Q (F0 m pc ls (.ref (gA g 60) :: rest)) := x_get F G hS (i := 60) (k := 12) (N := 47) (T := TX8) (C := RX8) (ci := 8) (eo_X8 g _ _) (by decide) rfl inX8 (by decide) tb_1045 rfl rfl hdg kk
set_option maxRecDepth 20000 in
theorem gf_X8_41 (F : CallFix p m c cc nL s args TBL RX8) (G : AK g s) (hS : WS g σ τ s H locs) (hdg : decode cc pc = .ok (.getfield 41, 3)) (kk : W p l e R s m args below meth c H locs cells slots Q (F0 m (pc + 3) ls (.ref (gA g 70) :: rest))) : W p l e R s m args below meth c H locs cells slots Q (F0 m pc ls (.ref (gA g 60) :: rest)) := x_get F G hS (i := 60) (k := 13) (N := 47) (T := TX8) (C := RX8) (ci := 8) (eo_X8 g _ _) (by decide) rfl inX8 (by decide) tb_1046 rfl rfl hdg kk
set_option maxRecDepth 20000 in
theorem gf_X8_44 (F : CallFix p m c cc nL s args TBL RX8) (G : AK g s) (hS : WS g σ τ s H locs) (hdg : decode cc pc = .ok (.getfield 44, 3)) (kk : W p l e R s m args below meth c H locs cells slots Q (F0 m (pc + 3) ls (.ref (gA g 71) :: rest))) : W p l e R s m args below meth c H locs cells slots Q (F0 m pc ls (.ref (gA g 60) :: rest)) := x_get F G hS (i := 60) (k := 22) (N := 47) (T := TX8) (C := RX8) (ci := 8) (eo_X8 g _ _) (by decide) rfl inX8 (by decide) tb_1055 rfl rfl hdg kk
set_option maxRecDepth 20000 in
theorem gf_X8_47 (F : CallFix p m c cc nL s args TBL RX8) (G : AK g s) (hS : WS g σ τ s H locs) (hdg : decode cc pc = .ok (.getfield 47, 3)) (kk : W p l e R s m args below meth c H locs cells slots Q (F0 m (pc + 3) ls (.ref (gA g 72) :: rest))) : W p l e R s m args below meth c H locs cells slots Q (F0 m pc ls (.ref (gA g 60) :: rest)) := x_get F G hS (i := 60) (k := 31) (N := 47) (T := TX8) (C := RX8) (ci := 8) (eo_X8 g _ _) (by decide) rfl inX8 (by decide) tb_1064 rfl rfl hdg kk
set_option maxRecDepth 20000 in
theorem gf_X8_50 (F : CallFix p m c cc nL s args TBL RX8) (G : AK g s) (hS : WS g σ τ s H locs) (hdg : decode cc pc = .ok (.getfield 50, 3)) (kk : W p l e R s m args below meth c H locs cells slots Q (F0 m (pc + 3) ls (.ref (gA g 73) :: rest))) : W p l e R s m args below meth c H locs cells slots Q (F0 m pc ls (.ref (gA g 60) :: rest)) := x_get F G hS (i := 60) (k := 32) (N := 47) (T := TX8) (C := RX8) (ci := 8) (eo_X8 g _ _) (by decide) rfl inX8 (by decide) tb_1065 rfl rfl hdg kk
set_option maxRecDepth 20000 in
theorem gf_X8_53 (F : CallFix p m c cc nL s args TBL RX8) (G : AK g s) (hS : WS g σ τ s H locs) (hdg : decode cc pc = .ok (.getfield 53, 3)) (kk : W p l e R s m args below meth c H locs cells slots Q (F0 m (pc + 3) ls (.ref (gA g 74) :: rest))) : W p l e R s m args below meth c H locs cells slots Q (F0 m pc ls (.ref (gA g 60) :: rest)) := x_get F G hS (i := 60) (k := 40) (N := 47) (T := TX8) (C := RX8) (ci := 8) (eo_X8 g _ _) (by decide) rfl inX8 (by decide) tb_1073 rfl rfl hdg kk
set_option maxRecDepth 20000 in
theorem gf_X8_56 (F : CallFix p m c cc nL s args TBL RX8) (G : AK g s) (hS : WS g σ τ s H locs) (hdg : decode cc pc = .ok (.getfield 56, 3)) (kk : W p l e R s m args below meth c H locs cells slots Q (F0 m (pc + 3) ls (.ref (gA g 75) :: rest))) : W p l e R s m args below meth c H locs cells slots Q (F0 m pc ls (.ref (gA g 60) :: rest)) := x_get F G hS (i := 60) (k := 42) (N := 47) (T := TX8) (C := RX8) (ci := 8) (eo_X8 g _ _) (by decide) rfl inX8 (by decide) tb_1075 rfl rfl hdg kk
set_option maxRecDepth 20000 in
theorem gf_X8_60 (F : CallFix p m c cc nL s args TBL RX8) (G : AK g s) (hS : WS g σ τ s H locs) (hdg : decode cc pc = .ok (.getfield 60, 3)) (kk : W p l e R s m args below meth c H locs cells slots Q (F0 m (pc + 3) ls (.ref (gA g 76) :: rest))) : W p l e R s m args below meth c H locs cells slots Q (F0 m pc ls (.ref (gA g 60) :: rest)) := x_get F G hS (i := 60) (k := 43) (N := 47) (T := TX8) (C := RX8) (ci := 8) (eo_X8 g _ _) (by decide) rfl inX8 (by decide) tb_1076 rfl rfl hdg kk
set_option maxRecDepth 20000 in
theorem gf_X8_63 (F : CallFix p m c cc nL s args TBL RX8) (G : AK g s) (hS : WS g σ τ s H locs) (hdg : decode cc pc = .ok (.getfield 63, 3)) (kk : W p l e R s m args below meth c H locs cells slots Q (F0 m (pc + 3) ls (.ref (gA g 77) :: rest))) : W p l e R s m args below meth c H locs cells slots Q (F0 m pc ls (.ref (gA g 60) :: rest)) := x_get F G hS (i := 60) (k := 44) (N := 47) (T := TX8) (C := RX8) (ci := 8) (eo_X8 g _ _) (by decide) rfl inX8 (by decide) tb_1077 rfl rfl hdg kk
set_option maxRecDepth 20000 in
theorem gf_X8_66 (F : CallFix p m c cc nL s args TBL RX8) (G : AK g s) (hS : WS g σ τ s H locs) (hdg : decode cc pc = .ok (.getfield 66, 3)) (kk : W p l e R s m args below meth c H locs cells slots Q (F0 m (pc + 3) ls (.ref (gA g 78) :: rest))) : W p l e R s m args below meth c H locs cells slots Q (F0 m pc ls (.ref (gA g 60) :: rest)) := x_get F G hS (i := 60) (k := 45) (N := 47) (T := TX8) (C := RX8) (ci := 8) (eo_X8 g _ _) (by decide) rfl inX8 (by decide) tb_1078 rfl rfl hdg kk
set_option maxRecDepth 20000 in
theorem gf_X8_75 (F : CallFix p m c cc nL s args TBL RX8) (G : AK g s) (hS : WS g σ τ s H locs) (hdg : decode cc pc = .ok (.getfield 75, 3)) (kk : W p l e R s m args below meth c H locs cells slots Q (F0 m (pc + 3) ls (.int (σ 60 23) :: rest))) : W p l e R s m args below meth c H locs cells slots Q (F0 m pc ls (.ref (gA g 60) :: rest)) := x_get F G hS (i := 60) (k := 23) (N := 47) (T := TX8) (C := RX8) (ci := 8) (eo_X8 g _ _) (by decide) rfl inX8 (by decide) tb_1056 rfl rfl hdg kk
set_option maxRecDepth 20000 in
theorem pf_X8_75 (F : CallFix p m c cc nL s args TBL RX8) (G : AK g s) (hS : WS g σ τ s H locs) {x : Int32} (hdg : decode cc pc = .ok (.putfield 75, 3)) (kk : ∀ (H : Heap) (locs : List Loc), WS g (va_up σ 60 (upd (σ 60) 23 x)) τ s H locs → W p l e R s m args below meth c H locs cells slots Q (F0 m (pc + 3) ls rest)) : W p l e R s m args below meth c H locs cells slots Q (F0 m pc ls (.int x :: .ref (gA g 60) :: rest)) := x_put F G hS (i := 60) (k := 23) (N := 47) (T := TX8) (C := RX8) (ci := 8) (eo_X8 g _ _) (by decide) rfl inX8 tyX8 tyX8_ok nmX8 (by decide) tb_1056 rfl rfl rfl (Nat.le_of_ble_eq_true rfl) rfl hdg kk
set_option maxRecDepth 20000 in
theorem gf_X8_78 (F : CallFix p m c cc nL s args TBL RX8) (G : AK g s) (hS : WS g σ τ s H locs) (hdg : decode cc pc = .ok (.getfield 78, 3)) (kk : W p l e R s m args below meth c H locs cells slots Q (F0 m (pc + 3) ls (.int (σ 60 25) :: rest))) : W p l e R s m args below meth c H locs cells slots Q (F0 m pc ls (.ref (gA g 60) :: rest)) := x_get F G hS (i := 60) (k := 25) (N := 47) (T := TX8) (C := RX8) (ci := 8) (eo_X8 g _ _) (by decide) rfl inX8 (by decide) tb_1058 rfl rfl hdg kk
set_option maxRecDepth 20000 in
theorem pf_X8_78 (F : CallFix p m c cc nL s args TBL RX8) (G : AK g s) (hS : WS g σ τ s H locs) {x : Int32} (hdg : decode cc pc = .ok (.putfield 78, 3)) (kk : ∀ (H : Heap) (locs : List Loc), WS g (va_up σ 60 (upd (σ 60) 25 x)) τ s H locs → W p l e R s m args below meth c H locs cells slots Q (F0 m (pc + 3) ls rest)) : W p l e R s m args below meth c H locs cells slots Q (F0 m pc ls (.int x :: .ref (gA g 60) :: rest)) := x_put F G hS (i := 60) (k := 25) (N := 47) (T := TX8) (C := RX8) (ci := 8) (eo_X8 g _ _) (by decide) rfl inX8 tyX8 tyX8_ok nmX8 (by decide) tb_1058 rfl rfl rfl (Nat.le_of_ble_eq_true rfl) rfl hdg kk
set_option maxRecDepth 20000 in
theorem gf_X8_81 (F : CallFix p m c cc nL s args TBL RX8) (G : AK g s) (hS : WS g σ τ s H locs) (hdg : decode cc pc = .ok (.getfield 81, 3)) (kk : W p l e R s m args below meth c H locs cells slots Q (F0 m (pc + 3) ls (.int (σ 60 28) :: rest))) : W p l e R s m args below meth c H locs cells slots Q (F0 m pc ls (.ref (gA g 60) :: rest)) := x_get F G hS (i := 60) (k := 28) (N := 47) (T := TX8) (C := RX8) (ci := 8) (eo_X8 g _ _) (by decide) rfl inX8 (by decide) tb_1061 rfl rfl hdg kk
set_option maxRecDepth 20000 in
theorem pf_X8_81 (F : CallFix p m c cc nL s args TBL RX8) (G : AK g s) (hS : WS g σ τ s H locs) {x : Int32} (hdg : decode cc pc = .ok (.putfield 81, 3)) (kk : ∀ (H : Heap) (locs : List Loc), WS g (va_up σ 60 (upd (σ 60) 28 x)) τ s H locs → W p l e R s m args below meth c H locs cells slots Q (F0 m (pc + 3) ls rest)) : W p l e R s m args below meth c H locs cells slots Q (F0 m pc ls (.int x :: .ref (gA g 60) :: rest)) := x_put F G hS (i := 60) (k := 28) (N := 47) (T := TX8) (C := RX8) (ci := 8) (eo_X8 g _ _) (by decide) rfl inX8 tyX8 tyX8_ok nmX8 (by decide) tb_1061 rfl rfl rfl (Nat.le_of_ble_eq_true rfl) rfl hdg kk
set_option maxRecDepth 20000 in
theorem gf_X8_84 (F : CallFix p m c cc nL s args TBL RX8) (G : AK g s) (hS : WS g σ τ s H locs) (hdg : decode cc pc = .ok (.getfield 84, 3)) (kk : W p l e R s m args below meth c H locs cells slots Q (F0 m (pc + 3) ls (.int (σ 60 26) :: rest))) : W p l e R s m args below meth c H locs cells slots Q (F0 m pc ls (.ref (gA g 60) :: rest)) := x_get F G hS (i := 60) (k := 26) (N := 47) (T := TX8) (C := RX8) (ci := 8) (eo_X8 g _ _) (by decide) rfl inX8 (by decide) tb_1059 rfl rfl hdg kk
set_option maxRecDepth 20000 in
theorem pf_X8_84 (F : CallFix p m c cc nL s args TBL RX8) (G : AK g s) (hS : WS g σ τ s H locs) {x : Int32} (hdg : decode cc pc = .ok (.putfield 84, 3)) (kk : ∀ (H : Heap) (locs : List Loc), WS g (va_up σ 60 (upd (σ 60) 26 x)) τ s H locs → W p l e R s m args below meth c H locs cells slots Q (F0 m (pc + 3) ls rest)) : W p l e R s m args below meth c H locs cells slots Q (F0 m pc ls (.int x :: .ref (gA g 60) :: rest)) := x_put F G hS (i := 60) (k := 26) (N := 47) (T := TX8) (C := RX8) (ci := 8) (eo_X8 g _ _) (by decide) rfl inX8 tyX8 tyX8_ok nmX8 (by decide) tb_1059 rfl rfl rfl (Nat.le_of_ble_eq_true rfl) rfl hdg kk
set_option maxRecDepth 20000 in
theorem gf_X8_87 (F : CallFix p m c cc nL s args TBL RX8) (G : AK g s) (hS : WS g σ τ s H locs) (hdg : decode cc pc = .ok (.getfield 87, 3)) (kk : W p l e R s m args below meth c H locs cells slots Q (F0 m (pc + 3) ls (.int (σ 60 29) :: rest))) : W p l e R s m args below meth c H locs cells slots Q (F0 m pc ls (.ref (gA g 60) :: rest)) := x_get F G hS (i := 60) (k := 29) (N := 47) (T := TX8) (C := RX8) (ci := 8) (eo_X8 g _ _) (by decide) rfl inX8 (by decide) tb_1062 rfl rfl hdg kk
set_option maxRecDepth 20000 in
theorem pf_X8_87 (F : CallFix p m c cc nL s args TBL RX8) (G : AK g s) (hS : WS g σ τ s H locs) {x : Int32} (hdg : decode cc pc = .ok (.putfield 87, 3)) (kk : ∀ (H : Heap) (locs : List Loc), WS g (va_up σ 60 (upd (σ 60) 29 x)) τ s H locs → W p l e R s m args below meth c H locs cells slots Q (F0 m (pc + 3) ls rest)) : W p l e R s m args below meth c H locs cells slots Q (F0 m pc ls (.int x :: .ref (gA g 60) :: rest)) := x_put F G hS (i := 60) (k := 29) (N := 47) (T := TX8) (C := RX8) (ci := 8) (eo_X8 g _ _) (by decide) rfl inX8 tyX8 tyX8_ok nmX8 (by decide) tb_1062 rfl rfl rfl (Nat.le_of_ble_eq_true rfl) rfl hdg kk
set_option maxRecDepth 20000 in
theorem gf_X8_90 (F : CallFix p m c cc nL s args TBL RX8) (G : AK g s) (hS : WS g σ τ s H locs) (hdg : decode cc pc = .ok (.getfield 90, 3)) (kk : W p l e R s m args below meth c H locs cells slots Q (F0 m (pc + 3) ls (.int (σ 60 27) :: rest))) : W p l e R s m args below meth c H locs cells slots Q (F0 m pc ls (.ref (gA g 60) :: rest)) := x_get F G hS (i := 60) (k := 27) (N := 47) (T := TX8) (C := RX8) (ci := 8) (eo_X8 g _ _) (by decide) rfl inX8 (by decide) tb_1060 rfl rfl hdg kk
set_option maxRecDepth 20000 in
theorem pf_X8_90 (F : CallFix p m c cc nL s args TBL RX8) (G : AK g s) (hS : WS g σ τ s H locs) {x : Int32} (hdg : decode cc pc = .ok (.putfield 90, 3)) (kk : ∀ (H : Heap) (locs : List Loc), WS g (va_up σ 60 (upd (σ 60) 27 x)) τ s H locs → W p l e R s m args below meth c H locs cells slots Q (F0 m (pc + 3) ls rest)) : W p l e R s m args below meth c H locs cells slots Q (F0 m pc ls (.int x :: .ref (gA g 60) :: rest)) := x_put F G hS (i := 60) (k := 27) (N := 47) (T := TX8) (C := RX8) (ci := 8) (eo_X8 g _ _) (by decide) rfl inX8 tyX8 tyX8_ok nmX8 (by decide) tb_1060 rfl rfl rfl (Nat.le_of_ble_eq_true rfl) rfl hdg kk
set_option maxRecDepth 20000 in
theorem gf_X8_97 (F : CallFix p m c cc nL s args TBL RX8) (G : AK g s) (hS : WS g σ τ s H locs) (hdg : decode cc pc = .ok (.getfield 97, 3)) (kk : W p l e R s m args below meth c H locs cells slots Q (F0 m (pc + 3) ls (.int (σ 60 30) :: rest))) : W p l e R s m args below meth c H locs cells slots Q (F0 m pc ls (.ref (gA g 60) :: rest)) := x_get F G hS (i := 60) (k := 30) (N := 47) (T := TX8) (C := RX8) (ci := 8) (eo_X8 g _ _) (by decide) rfl inX8 (by decide) tb_1063 rfl rfl hdg kk
set_option maxRecDepth 20000 in
theorem pf_X8_97 (F : CallFix p m c cc nL s args TBL RX8) (G : AK g s) (hS : WS g σ τ s H locs) {x : Int32} (hdg : decode cc pc = .ok (.putfield 97, 3)) (kk : ∀ (H : Heap) (locs : List Loc), WS g (va_up σ 60 (upd (σ 60) 30 x)) τ s H locs → W p l e R s m args below meth c H locs cells slots Q (F0 m (pc + 3) ls rest)) : W p l e R s m args below meth c H locs cells slots Q (F0 m pc ls (.int x :: .ref (gA g 60) :: rest)) := x_put F G hS (i := 60) (k := 30) (N := 47) (T := TX8) (C := RX8) (ci := 8) (eo_X8 g _ _) (by decide) rfl inX8 tyX8 tyX8_ok nmX8 (by decide) tb_1063 rfl rfl rfl (Nat.le_of_ble_eq_true rfl) rfl hdg kk
set_option maxRecDepth 20000 in
theorem gf_X8_121 (F : CallFix p m c cc nL s args TBL RX8) (G : AK g s) (hS : WS g σ τ s H locs) (hdg : decode cc pc = .ok (.getfield 121, 3)) (kk : W p l e R s m args below meth c H locs cells slots Q (F0 m (pc + 3) ls (.int (σ 60 21) :: rest))) : W p l e R s m args below meth c H locs cells slots Q (F0 m pc ls (.ref (gA g 60) :: rest)) := x_get F G hS (i := 60) (k := 21) (N := 47) (T := TX8) (C := RX8) (ci := 8) (eo_X8 g _ _) (by decide) rfl inX8 (by decide) tb_1054 rfl rfl hdg kk
set_option maxRecDepth 20000 in
theorem pf_X8_121 (F : CallFix p m c cc nL s args TBL RX8) (G : AK g s) (hS : WS g σ τ s H locs) {x : Int32} (hdg : decode cc pc = .ok (.putfield 121, 3)) (kk : ∀ (H : Heap) (locs : List Loc), WS g (va_up σ 60 (upd (σ 60) 21 x)) τ s H locs → W p l e R s m args below meth c H locs cells slots Q (F0 m (pc + 3) ls rest)) : W p l e R s m args below meth c H locs cells slots Q (F0 m pc ls (.int x :: .ref (gA g 60) :: rest)) := x_put F G hS (i := 60) (k := 21) (N := 47) (T := TX8) (C := RX8) (ci := 8) (eo_X8 g _ _) (by decide) rfl inX8 tyX8 tyX8_ok nmX8 (by decide) tb_1054 rfl rfl rfl (Nat.le_of_ble_eq_true rfl) rfl hdg kk
set_option maxRecDepth 20000 in
theorem gf_X8_124 (F : CallFix p m c cc nL s args TBL RX8) (G : AK g s) (hS : WS g σ τ s H locs) (hdg : decode cc pc = .ok (.getfield 124, 3)) (kk : W p l e R s m args below meth c H locs cells slots Q (F0 m (pc + 3) ls (.int (σ 60 14) :: rest))) : W p l e R s m args below meth c H locs cells slots Q (F0 m pc ls (.ref (gA g 60) :: rest)) := x_get F G hS (i := 60) (k := 14) (N := 47) (T := TX8) (C := RX8) (ci := 8) (eo_X8 g _ _) (by decide) rfl inX8 (by decide) tb_1047 rfl rfl hdg kk
set_option maxRecDepth 20000 in
theorem pf_X8_124 (F : CallFix p m c cc nL s args TBL RX8) (G : AK g s) (hS : WS g σ τ s H locs) {x : Int32} (hdg : decode cc pc = .ok (.putfield 124, 3)) (kk : ∀ (H : Heap) (locs : List Loc), WS g (va_up σ 60 (upd (σ 60) 14 x)) τ s H locs → W p l e R s m args below meth c H locs cells slots Q (F0 m (pc + 3) ls rest)) : W p l e R s m args below meth c H locs cells slots Q (F0 m pc ls (.int x :: .ref (gA g 60) :: rest)) := x_put F G hS (i := 60) (k := 14) (N := 47) (T := TX8) (C := RX8) (ci := 8) (eo_X8 g _ _) (by decide) rfl inX8 tyX8 tyX8_ok nmX8 (by decide) tb_1047 rfl rfl rfl (Nat.le_of_ble_eq_true rfl) rfl hdg kk
set_option maxRecDepth 20000 in
theorem gf_X8_134 (F : CallFix p m c cc nL s args TBL RX8) (G : AK g s) (hS : WS g σ τ s H locs) (hdg : decode cc pc = .ok (.getfield 134, 3)) (kk : W p l e R s m args below meth c H locs cells slots Q (F0 m (pc + 3) ls (.int (σ 60 15) :: rest))) : W p l e R s m args below meth c H locs cells slots Q (F0 m pc ls (.ref (gA g 60) :: rest)) := x_get F G hS (i := 60) (k := 15) (N := 47) (T := TX8) (C := RX8) (ci := 8) (eo_X8 g _ _) (by decide) rfl inX8 (by decide) tb_1048 rfl rfl hdg kk
set_option maxRecDepth 20000 in
theorem pf_X8_134 (F : CallFix p m c cc nL s args TBL RX8) (G : AK g s) (hS : WS g σ τ s H locs) {x : Int32} (hdg : decode cc pc = .ok (.putfield 134, 3)) (kk : ∀ (H : Heap) (locs : List Loc), WS g (va_up σ 60 (upd (σ 60) 15 x)) τ s H locs → W p l e R s m args below meth c H locs cells slots Q (F0 m (pc + 3) ls rest)) : W p l e R s m args below meth c H locs cells slots Q (F0 m pc ls (.int x :: .ref (gA g 60) :: rest)) := x_put F G hS (i := 60) (k := 15) (N := 47) (T := TX8) (C := RX8) (ci := 8) (eo_X8 g _ _) (by decide) rfl inX8 tyX8 tyX8_ok nmX8 (by decide) tb_1048 rfl rfl rfl (Nat.le_of_ble_eq_true rfl) rfl hdg kk
set_option maxRecDepth 20000 in
theorem gf_X8_137 (F : CallFix p m c cc nL s args TBL RX8) (G : AK g s) (hS : WS g σ τ s H locs) (hdg : decode cc pc = .ok (.getfield 137, 3)) (kk : W p l e R s m args below meth c H locs cells slots Q (F0 m (pc + 3) ls (.int (σ 60 19) :: rest))) : W p l e R s m args below meth c H locs cells slots Q (F0 m pc ls (.ref (gA g 60) :: rest)) := x_get F G hS (i := 60) (k := 19) (N := 47) (T := TX8) (C := RX8) (ci := 8) (eo_X8 g _ _) (by decide) rfl inX8 (by decide) tb_1052 rfl rfl hdg kk
set_option maxRecDepth 20000 in
theorem pf_X8_137 (F : CallFix p m c cc nL s args TBL RX8) (G : AK g s) (hS : WS g σ τ s H locs) {x : Int32} (hdg : decode cc pc = .ok (.putfield 137, 3)) (kk : ∀ (H : Heap) (locs : List Loc), WS g (va_up σ 60 (upd (σ 60) 19 x)) τ s H locs → W p l e R s m args below meth c H locs cells slots Q (F0 m (pc + 3) ls rest)) : W p l e R s m args below meth c H locs cells slots Q (F0 m pc ls (.int x :: .ref (gA g 60) :: rest)) := x_put F G hS (i := 60) (k := 19) (N := 47) (T := TX8) (C := RX8) (ci := 8) (eo_X8 g _ _) (by decide) rfl inX8 tyX8 tyX8_ok nmX8 (by decide) tb_1052 rfl rfl rfl (Nat.le_of_ble_eq_true rfl) rfl hdg kk
set_option maxRecDepth 20000 in
theorem gf_X8_140 (F : CallFix p m c cc nL s args TBL RX8) (G : AK g s) (hS : WS g σ τ s H locs) (hdg : decode cc pc = .ok (.getfield 140, 3)) (kk : W p l e R s m args below meth c H locs cells slots Q (F0 m (pc + 3) ls (.int (σ 60 20) :: rest))) : W p l e R s m args below meth c H locs cells slots Q (F0 m pc ls (.ref (gA g 60) :: rest)) := x_get F G hS (i := 60) (k := 20) (N := 47) (T := TX8) (C := RX8) (ci := 8) (eo_X8 g _ _) (by decide) rfl inX8 (by decide) tb_1053 rfl rfl hdg kk
set_option maxRecDepth 20000 in
theorem pf_X8_140 (F : CallFix p m c cc nL s args TBL RX8) (G : AK g s) (hS : WS g σ τ s H locs) {x : Int32} (hdg : decode cc pc = .ok (.putfield 140, 3)) (kk : ∀ (H : Heap) (locs : List Loc), WS g (va_up σ 60 (upd (σ 60) 20 x)) τ s H locs → W p l e R s m args below meth c H locs cells slots Q (F0 m (pc + 3) ls rest)) : W p l e R s m args below meth c H locs cells slots Q (F0 m pc ls (.int x :: .ref (gA g 60) :: rest)) := x_put F G hS (i := 60) (k := 20) (N := 47) (T := TX8) (C := RX8) (ci := 8) (eo_X8 g _ _) (by decide) rfl inX8 tyX8 tyX8_ok nmX8 (by decide) tb_1053 rfl rfl rfl (Nat.le_of_ble_eq_true rfl) rfl hdg kk
set_option maxRecDepth 20000 in
theorem gf_X8_143 (F : CallFix p m c cc nL s args TBL RX8) (G : AK g s) (hS : WS g σ τ s H locs) (hdg : decode cc pc = .ok (.getfield 143, 3)) (kk : W p l e R s m args below meth c H locs cells slots Q (F0 m (pc + 3) ls (.int (σ 60 16) :: rest))) : W p l e R s m args below meth c H locs cells slots Q (F0 m pc ls (.ref (gA g 60) :: rest)) := x_get F G hS (i := 60) (k := 16) (N := 47) (T := TX8) (C := RX8) (ci := 8) (eo_X8 g _ _) (by decide) rfl inX8 (by decide) tb_1049 rfl rfl hdg kk
set_option maxRecDepth 20000 in
theorem pf_X8_143 (F : CallFix p m c cc nL s args TBL RX8) (G : AK g s) (hS : WS g σ τ s H locs) {x : Int32} (hdg : decode cc pc = .ok (.putfield 143, 3)) (kk : ∀ (H : Heap) (locs : List Loc), WS g (va_up σ 60 (upd (σ 60) 16 x)) τ s H locs → W p l e R s m args below meth c H locs cells slots Q (F0 m (pc + 3) ls rest)) : W p l e R s m args below meth c H locs cells slots Q (F0 m pc ls (.int x :: .ref (gA g 60) :: rest)) := x_put F G hS (i := 60) (k := 16) (N := 47) (T := TX8) (C := RX8) (ci := 8) (eo_X8 g _ _) (by decide) rfl inX8 tyX8 tyX8_ok nmX8 (by decide) tb_1049 rfl rfl rfl (Nat.le_of_ble_eq_true rfl) rfl hdg kk
set_option maxRecDepth 20000 in
theorem gf_X8_146 (F : CallFix p m c cc nL s args TBL RX8) (G : AK g s) (hS : WS g σ τ s H locs) (hdg : decode cc pc = .ok (.getfield 146, 3)) (kk : W p l e R s m args below meth c H locs cells slots Q (F0 m (pc + 3) ls (.int (σ 60 17) :: rest))) : W p l e R s m args below meth c H locs cells slots Q (F0 m pc ls (.ref (gA g 60) :: rest)) := x_get F G hS (i := 60) (k := 17) (N := 47) (T := TX8) (C := RX8) (ci := 8) (eo_X8 g _ _) (by decide) rfl inX8 (by decide) tb_1050 rfl rfl hdg kk
set_option maxRecDepth 20000 in
theorem pf_X8_146 (F : CallFix p m c cc nL s args TBL RX8) (G : AK g s) (hS : WS g σ τ s H locs) {x : Int32} (hdg : decode cc pc = .ok (.putfield 146, 3)) (kk : ∀ (H : Heap) (locs : List Loc), WS g (va_up σ 60 (upd (σ 60) 17 x)) τ s H locs → W p l e R s m args below meth c H locs cells slots Q (F0 m (pc + 3) ls rest)) : W p l e R s m args below meth c H locs cells slots Q (F0 m pc ls (.int x :: .ref (gA g 60) :: rest)) := x_put F G hS (i := 60) (k := 17) (N := 47) (T := TX8) (C := RX8) (ci := 8) (eo_X8 g _ _) (by decide) rfl inX8 tyX8 tyX8_ok nmX8 (by decide) tb_1050 rfl rfl rfl (Nat.le_of_ble_eq_true rfl) rfl hdg kk
set_option maxRecDepth 20000 in
theorem gf_X8_149 (F : CallFix p m c cc nL s args TBL RX8) (G : AK g s) (hS : WS g σ τ s H locs) (hdg : decode cc pc = .ok (.getfield 149, 3)) (kk : W p l e R s m args below meth c H locs cells slots Q (F0 m (pc + 3) ls (.int (σ 60 18) :: rest))) : W p l e R s m args below meth c H locs cells slots Q (F0 m pc ls (.ref (gA g 60) :: rest)) := x_get F G hS (i := 60) (k := 18) (N := 47) (T := TX8) (C := RX8) (ci := 8) (eo_X8 g _ _) (by decide) rfl inX8 (by decide) tb_1051 rfl rfl hdg kk
set_option maxRecDepth 20000 in
theorem pf_X8_149 (F : CallFix p m c cc nL s args TBL RX8) (G : AK g s) (hS : WS g σ τ s H locs) {x : Int32} (hdg : decode cc pc = .ok (.putfield 149, 3)) (kk : ∀ (H : Heap) (locs : List Loc), WS g (va_up σ 60 (upd (σ 60) 18 x)) τ s H locs → W p l e R s m args below meth c H locs cells slots Q (F0 m (pc + 3) ls rest)) : W p l e R s m args below meth c H locs cells slots Q (F0 m pc ls (.int x :: .ref (gA g 60) :: rest)) := x_put F G hS (i := 60) (k := 18) (N := 47) (T := TX8) (C := RX8) (ci := 8) (eo_X8 g _ _) (by decide) rfl inX8 tyX8 tyX8_ok nmX8 (by decide) tb_1051 rfl rfl rfl (Nat.le_of_ble_eq_true rfl) rfl hdg kk
set_option maxRecDepth 20000 in
theorem gf_X8_164 (F : CallFix p m c cc nL s args TBL RX8) (G : AK g s) (hS : WS g σ τ s H locs) (hdg : decode cc pc = .ok (.getfield 164, 3)) (kk : W p l e R s m args below meth c H locs cells slots Q (F0 m (pc + 3) ls (.int (σ 60 24) :: rest))) : W p l e R s m args below meth c H locs cells slots Q (F0 m pc ls (.ref (gA g 60) :: rest)) := x_get F G hS (i := 60) (k := 24) (N := 47) (T := TX8) (C := RX8) (ci := 8) (eo_X8 g _ _) (by decide) rfl inX8 (by decide) tb_1057 rfl rfl hdg kk
set_option maxRecDepth 20000 in
theorem pf_X8_164 (F : CallFix p m c cc nL s args TBL RX8) (G : AK g s) (hS : WS g σ τ s H locs) {x : Int32} (hdg : decode cc pc = .ok (.putfield 164, 3)) (kk : ∀ (H : Heap) (locs : List Loc), WS g (va_up σ 60 (upd (σ 60) 24 x)) τ s H locs → W p l e R s m args below meth c H locs cells slots Q (F0 m (pc + 3) ls rest)) : W p l e R s m args below meth c H locs cells slots Q (F0 m pc ls (.int x :: .ref (gA g 60) :: rest)) := x_put F G hS (i := 60) (k := 24) (N := 47) (T := TX8) (C := RX8) (ci := 8) (eo_X8 g _ _) (by decide) rfl inX8 tyX8 tyX8_ok nmX8 (by decide) tb_1057 rfl rfl rfl (Nat.le_of_ble_eq_true rfl) rfl hdg kk
set_option maxRecDepth 20000 in
theorem gf_X8_167 (F : CallFix p m c cc nL s args TBL RX8) (G : AK g s) (hS : WS g σ τ s H locs) (hdg : decode cc pc = .ok (.getfield 167, 3)) (kk : W p l e R s m args below meth c H locs cells slots Q (F0 m (pc + 3) ls (.int (σ 60 3) :: rest))) : W p l e R s m args below meth c H locs cells slots Q (F0 m pc ls (.ref (gA g 60) :: rest)) := x_get F G hS (i := 60) (k := 3) (N := 47) (T := TX8) (C := RX8) (ci := 8) (eo_X8 g _ _) (by decide) rfl inX8 (by decide) tb_1036 rfl rfl hdg kk
set_option maxRecDepth 20000 in
theorem pf_X8_167 (F : CallFix p m c cc nL s args TBL RX8) (G : AK g s) (hS : WS g σ τ s H locs) {x : Int32} (hdg : decode cc pc = .ok (.putfield 167, 3)) (kk : ∀ (H : Heap) (locs : List Loc), WS g (va_up σ 60 (upd (σ 60) 3 x)) τ s H locs → W p l e R s m args below meth c H locs cells slots Q (F0 m (pc + 3) ls rest)) : W p l e R s m args below meth c H locs cells slots Q (F0 m pc ls (.int x :: .ref (gA g 60) :: rest)) := x_put F G hS (i := 60) (k := 3) (N := 47) (T := TX8) (C := RX8) (ci := 8) (eo_X8 g _ _) (by decide) rfl inX8 tyX8 tyX8_ok nmX8 (by decide) tb_1036 rfl rfl rfl (Nat.le_of_ble_eq_true rfl) rfl hdg kk
set_option maxRecDepth 20000 in
theorem gf_X8_170 (F : CallFix p m c cc nL s args TBL RX8) (G : AK g s) (hS : WS g σ τ s H locs) (hdg : decode cc pc = .ok (.getfield 170, 3)) (kk : W p l e R s m args below meth c H locs cells slots Q (F0 m (pc + 3) ls (.int (σ 60 5) :: rest))) : W p l e R s m args below meth c H locs cells slots Q (F0 m pc ls (.ref (gA g 60) :: rest)) := x_get F G hS (i := 60) (k := 5) (N := 47) (T := TX8) (C := RX8) (ci := 8) (eo_X8 g _ _) (by decide) rfl inX8 (by decide) tb_1038 rfl rfl hdg kk
set_option maxRecDepth 20000 in
theorem pf_X8_170 (F : CallFix p m c cc nL s args TBL RX8) (G : AK g s) (hS : WS g σ τ s H locs) {x : Int32} (hdg : decode cc pc = .ok (.putfield 170, 3)) (kk : ∀ (H : Heap) (locs : List Loc), WS g (va_up σ 60 (upd (σ 60) 5 x)) τ s H locs → W p l e R s m args below meth c H locs cells slots Q (F0 m (pc + 3) ls rest)) : W p l e R s m args below meth c H locs cells slots Q (F0 m pc ls (.int x :: .ref (gA g 60) :: rest)) := x_put F G hS (i := 60) (k := 5) (N := 47) (T := TX8) (C := RX8) (ci := 8) (eo_X8 g _ _) (by decide) rfl inX8 tyX8 tyX8_ok nmX8 (by decide) tb_1038 rfl rfl rfl (Nat.le_of_ble_eq_true rfl) rfl hdg kk
set_option maxRecDepth 20000 in
theorem gf_X8_173 (F : CallFix p m c cc nL s args TBL RX8) (G : AK g s) (hS : WS g σ τ s H locs) (hdg : decode cc pc = .ok (.getfield 173, 3)) (kk : W p l e R s m args below meth c H locs cells slots Q (F0 m (pc + 3) ls (.int (σ 60 7) :: rest))) : W p l e R s m args below meth c H locs cells slots Q (F0 m pc ls (.ref (gA g 60) :: rest)) := x_get F G hS (i := 60) (k := 7) (N := 47) (T := TX8) (C := RX8) (ci := 8) (eo_X8 g _ _) (by decide) rfl inX8 (by decide) tb_1040 rfl rfl hdg kk
set_option maxRecDepth 20000 in
theorem pf_X8_173 (F : CallFix p m c cc nL s args TBL RX8) (G : AK g s) (hS : WS g σ τ s H locs) {x : Int32} (hdg : decode cc pc = .ok (.putfield 173, 3)) (kk : ∀ (H : Heap) (locs : List Loc), WS g (va_up σ 60 (upd (σ 60) 7 x)) τ s H locs → W p l e R s m args below meth c H locs cells slots Q (F0 m (pc + 3) ls rest)) : W p l e R s m args below meth c H locs cells slots Q (F0 m pc ls (.int x :: .ref (gA g 60) :: rest)) := x_put F G hS (i := 60) (k := 7) (N := 47) (T := TX8) (C := RX8) (ci := 8) (eo_X8 g _ _) (by decide) rfl inX8 tyX8 tyX8_ok nmX8 (by decide) tb_1040 rfl rfl rfl (Nat.le_of_ble_eq_true rfl) rfl hdg kk
set_option maxRecDepth 20000 in
theorem gf_X8_176 (F : CallFix p m c cc nL s args TBL RX8) (G : AK g s) (hS : WS g σ τ s H locs) (hdg : decode cc pc = .ok (.getfield 176, 3)) (kk : W p l e R s m args below meth c H locs cells slots Q (F0 m (pc + 3) ls (.int (σ 60 41) :: rest))) : W p l e R s m args below meth c H locs cells slots Q (F0 m pc ls (.ref (gA g 60) :: rest)) := x_get F G hS (i := 60) (k := 41) (N := 47) (T := TX8) (C := RX8) (ci := 8) (eo_X8 g _ _) (by decide) rfl inX8 (by decide) tb_1074 rfl rfl hdg kk
set_option maxRecDepth 20000 in
theorem pf_X8_176 (F : CallFix p m c cc nL s args TBL RX8) (G : AK g s) (hS : WS g σ τ s H locs) {x : Int32} (hdg : decode cc pc = .ok (.putfield 176, 3)) (kk : ∀ (H : Heap) (locs : List Loc), WS g (va_up σ 60 (upd (σ 60) 41 x)) τ s H locs → W p l e R s m args below meth c H locs cells slots Q (F0 m (pc + 3) ls rest)) : W p l e R s m args below meth c H locs cells slots Q (F0 m pc ls (.int x :: .ref (gA g 60) :: rest)) := x_put F G hS (i := 60) (k := 41) (N := 47) (T := TX8) (C := RX8) (ci := 8) (eo_X8 g _ _) (by decide) rfl inX8 tyX8 tyX8_ok nmX8 (by decide) tb_1074 rfl rfl rfl (Nat.le_of_ble_eq_true rfl) rfl hdg kk
set_option maxRecDepth 20000 in
theorem gf_X8_213 (F : CallFix p m c cc nL s args TBL RX8) (G : AK g s) (hS : WS g σ τ s H locs) (hdg : decode cc pc = .ok (.getfield 213, 3)) (kk : W p l e R s m args below meth c H locs cells slots Q (F0 m (pc + 3) ls (.int (σ 60 33) :: rest))) : W p l e R s m args below meth c H locs cells slots Q (F0 m pc ls (.ref (gA g 60) :: rest)) := x_get F G hS (i := 60) (k := 33) (N := 47) (T := TX8) (C := RX8) (ci := 8) (eo_X8 g _ _) (by decide) rfl inX8 (by decide) tb_1066 rfl rfl hdg kk
set_option maxRecDepth 20000 in
theorem pf_X8_213 (F : CallFix p m c cc nL s args TBL RX8) (G : AK g s) (hS : WS g σ τ s H locs) {x : Int32} (hdg : decode cc pc = .ok (.putfield 213, 3)) (kk : ∀ (H : Heap) (locs : List Loc), WS g (va_up σ 60 (upd (σ 60) 33 x)) τ s H locs → W p l e R s m args below meth c H locs cells slots Q (F0 m (pc + 3) ls rest)) : W p l e R s m args below meth c H locs cells slots Q (F0 m pc ls (.int x :: .ref (gA g 60) :: rest)) := x_put F G hS (i := 60) (k := 33) (N := 47) (T := TX8) (C := RX8) (ci := 8) (eo_X8 g _ _) (by decide) rfl inX8 tyX8 tyX8_ok nmX8 (by decide) tb_1066 rfl rfl rfl (Nat.le_of_ble_eq_true rfl) rfl hdg kk
set_option maxRecDepth 20000 in
theorem gf_X8_216 (F : CallFix p m c cc nL s args TBL RX8) (G : AK g s) (hS : WS g σ τ s H locs) (hdg : decode cc pc = .ok (.getfield 216, 3)) (kk : W p l e R s m args below meth c H locs cells slots Q (F0 m (pc + 3) ls (.int (σ 60 34) :: rest))) : W p l e R s m args below meth c H locs cells slots Q (F0 m pc ls (.ref (gA g 60) :: rest)) := x_get F G hS (i := 60) (k := 34) (N := 47) (T := TX8) (C := RX8) (ci := 8) (eo_X8 g _ _) (by decide) rfl inX8 (by decide) tb_1067 rfl rfl hdg kk
set_option maxRecDepth 20000 in
theorem pf_X8_216 (F : CallFix p m c cc nL s args TBL RX8) (G : AK g s) (hS : WS g σ τ s H locs) {x : Int32} (hdg : decode cc pc = .ok (.putfield 216, 3)) (kk : ∀ (H : Heap) (locs : List Loc), WS g (va_up σ 60 (upd (σ 60) 34 x)) τ s H locs → W p l e R s m args below meth c H locs cells slots Q (F0 m (pc + 3) ls rest)) : W p l e R s m args below meth c H locs cells slots Q (F0 m pc ls (.int x :: .ref (gA g 60) :: rest)) := x_put F G hS (i := 60) (k := 34) (N := 47) (T := TX8) (C := RX8) (ci := 8) (eo_X8 g _ _) (by decide) rfl inX8 tyX8 tyX8_ok nmX8 (by decide) tb_1067 rfl rfl rfl (Nat.le_of_ble_eq_true rfl) rfl hdg kk
set_option maxRecDepth 20000 in
theorem gf_X8_219 (F : CallFix p m c cc nL s args TBL RX8) (G : AK g s) (hS : WS g σ τ s H locs) (hdg : decode cc pc = .ok (.getfield 219, 3)) (kk : W p l e R s m args below meth c H locs cells slots Q (F0 m (pc + 3) ls (.int (σ 60 35) :: rest))) : W p l e R s m args below meth c H locs cells slots Q (F0 m pc ls (.ref (gA g 60) :: rest)) := x_get F G hS (i := 60) (k := 35) (N := 47) (T := TX8) (C := RX8) (ci := 8) (eo_X8 g _ _) (by decide) rfl inX8 (by decide) tb_1068 rfl rfl hdg kk
set_option maxRecDepth 20000 in
theorem pf_X8_219 (F : CallFix p m c cc nL s args TBL RX8) (G : AK g s) (hS : WS g σ τ s H locs) {x : Int32} (hdg : decode cc pc = .ok (.putfield 219, 3)) (kk : ∀ (H : Heap) (locs : List Loc), WS g (va_up σ 60 (upd (σ 60) 35 x)) τ s H locs → W p l e R s m args below meth c H locs cells slots Q (F0 m (pc + 3) ls rest)) : W p l e R s m args below meth c H locs cells slots Q (F0 m pc ls (.int x :: .ref (gA g 60) :: rest)) := x_put F G hS (i := 60) (k := 35) (N := 47) (T := TX8) (C := RX8) (ci := 8) (eo_X8 g _ _) (by decide) rfl inX8 tyX8 tyX8_ok nmX8 (by decide) tb_1068 rfl rfl rfl (Nat.le_of_ble_eq_true rfl) rfl hdg kk
set_option maxRecDepth 20000 in
theorem gf_X8_222 (F : CallFix p m c cc nL s args TBL RX8) (G : AK g s) (hS : WS g σ τ s H locs) (hdg : decode cc pc = .ok (.getfield 222, 3)) (kk : W p l e R s m args below meth c H locs cells slots Q (F0 m (pc + 3) ls (.int (σ 60 36) :: rest))) : W p l e R s m args below meth c H locs cells slots Q (F0 m pc ls (.ref (gA g 60) :: rest)) := x_get F G hS (i := 60) (k := 36) (N := 47) (T := TX8) (C := RX8) (ci := 8) (eo_X8 g _ _) (by decide) rfl inX8 (by decide) tb_1069 rfl rfl hdg kk
set_option maxRecDepth 20000 in
theorem pf_X8_222 (F : CallFix p m c cc nL s args TBL RX8) (G : AK g s) (hS : WS g σ τ s H locs) {x : Int32} (hdg : decode cc pc = .ok (.putfield 222, 3)) (kk : ∀ (H : Heap) (locs : List Loc), WS g (va_up σ 60 (upd (σ 60) 36 x)) τ s H locs → W p l e R s m args below meth c H locs cells slots Q (F0 m (pc + 3) ls rest)) : W p l e R s m args below meth c H locs cells slots Q (F0 m pc ls (.int x :: .ref (gA g 60) :: rest)) := x_put F G hS (i := 60) (k := 36) (N := 47) (T := TX8) (C := RX8) (ci := 8) (eo_X8 g _ _) (by decide) rfl inX8 tyX8 tyX8_ok nmX8 (by decide) tb_1069 rfl rfl rfl (Nat.le_of_ble_eq_true rfl) rfl hdg kk
set_option maxRecDepth 20000 in
theorem gf_X8_225 (F : CallFix p m c cc nL s args TBL RX8) (G : AK g s) (hS : WS g σ τ s H locs) (hdg : decode cc pc = .ok (.getfield 225, 3)) (kk : W p l e R s m args below meth c H locs cells slots Q (F0 m (pc + 3) ls (.int (σ 60 37) :: rest))) : W p l e R s m args below meth c H locs cells slots Q (F0 m pc ls (.ref (gA g 60) :: rest)) := x_get F G hS (i := 60) (k := 37) (N := 47) (T := TX8) (C := RX8) (ci := 8) (eo_X8 g _ _) (by decide) rfl inX8 (by decide) tb_1070 rfl rfl hdg kk
set_option maxRecDepth 20000 in
theorem pf_X8_225 (F : CallFix p m c cc nL s args TBL RX8) (G : AK g s) (hS : WS g σ τ s H locs) {x : Int32} (hdg : decode cc pc = .ok (.putfield 225, 3)) (kk : ∀ (H : Heap) (locs : List Loc), WS g (va_up σ 60 (upd (σ 60) 37 x)) τ s H locs → W p l e R s m args below meth c H locs cells slots Q (F0 m (pc + 3) ls rest)) : W p l e R s m args below meth c H locs cells slots Q (F0 m pc ls (.int x :: .ref (gA g 60) :: rest)) := x_put F G hS (i := 60) (k := 37) (N := 47) (T := TX8) (C := RX8) (ci := 8) (eo_X8 g _ _) (by decide) rfl inX8 tyX8 tyX8_ok nmX8 (by decide) tb_1070 rfl rfl rfl (Nat.le_of_ble_eq_true rfl) rfl hdg kk
set_option maxRecDepth 20000 in
theorem gf_X8_228 (F : CallFix p m c cc nL s args TBL RX8) (G : AK g s) (hS : WS g σ τ s H locs) (hdg : decode cc pc = .ok (.getfield 228, 3)) (kk : W p l e R s m args below meth c H locs cells slots Q (F0 m (pc + 3) ls (.int (σ 60 38) :: rest))) : W p l e R s m args below meth c H locs cells slots Q (F0 m pc ls (.ref (gA g 60) :: rest)) := x_get F G hS (i := 60) (k := 38) (N := 47) (T := TX8) (C := RX8) (ci := 8) (eo_X8 g _ _) (by decide) rfl inX8 (by decide) tb_1071 rfl rfl hdg kk
set_option maxRecDepth 20000 in
theorem pf_X8_228 (F : CallFix p m c cc nL s args TBL RX8) (G : AK g s) (hS : WS g σ τ s H locs) {x : Int32} (hdg : decode cc pc = .ok (.putfield 228, 3)) (kk : ∀ (H : Heap) (locs : List Loc), WS g (va_up σ 60 (upd (σ 60) 38 x)) τ s H locs → W p l e R s m args below meth c H locs cells slots Q (F0 m (pc + 3) ls rest)) : W p l e R s m args below meth c H locs cells slots Q (F0 m pc ls (.int x :: .ref (gA g 60) :: rest)) := x_put F G hS (i := 60) (k := 38) (N := 47) (T := TX8) (C := RX8) (ci := 8) (eo_X8 g _ _) (by decide) rfl inX8 tyX8 tyX8_ok nmX8 (by decide) tb_1071 rfl rfl rfl (Nat.le_of_ble_eq_true rfl) rfl hdg kk
set_option maxRecDepth 20000 in
theorem gf_X8_231 (F : CallFix p m c cc nL s args TBL RX8) (G : AK g s) (hS : WS g σ τ s H locs) (hdg : decode cc pc = .ok (.getfield 231, 3)) (kk : W p l e R s m args below meth c H locs cells slots Q (F0 m (pc + 3) ls (.int (σ 60 39) :: rest))) : W p l e R s m args below meth c H locs cells slots Q (F0 m pc ls (.ref (gA g 60) :: rest)) := x_get F G hS (i := 60) (k := 39) (N := 47) (T := TX8) (C := RX8) (ci := 8) (eo_X8 g _ _) (by decide) rfl inX8 (by decide) tb_1072 rfl rfl hdg kk
set_option maxRecDepth 20000 in
theorem pf_X8_231 (F : CallFix p m c cc nL s args TBL RX8) (G : AK g s) (hS : WS g σ τ s H locs) {x : Int32} (hdg : decode cc pc = .ok (.putfield 231, 3)) (kk : ∀ (H : Heap) (locs : List Loc), WS g (va_up σ 60 (upd (σ 60) 39 x)) τ s H locs → W p l e R s m args below meth c H locs cells slots Q (F0 m (pc + 3) ls rest)) : W p l e R s m args below meth c H locs cells slots Q (F0 m pc ls (.int x :: .ref (gA g 60) :: rest)) := x_put F G hS (i := 60) (k := 39) (N := 47) (T := TX8) (C := RX8) (ci := 8) (eo_X8 g _ _) (by decide) rfl inX8 tyX8 tyX8_ok nmX8 (by decide) tb_1072 rfl rfl rfl (Nat.le_of_ble_eq_true rfl) rfl hdg kk
set_option maxRecDepth 20000 in
theorem gf_X8_309 (F : CallFix p m c cc nL s args TBL RX8) (G : AK g s) (hS : WS g σ τ s H locs) (hdg : decode cc pc = .ok (.getfield 309, 3)) (kk : W p l e R s m args below meth c H locs cells slots Q (F0 m (pc + 3) ls (.int (σ 60 46) :: rest))) : W p l e R s m args below meth c H locs cells slots Q (F0 m pc ls (.ref (gA g 60) :: rest)) := x_get F G hS (i := 60) (k := 46) (N := 47) (T := TX8) (C := RX8) (ci := 8) (eo_X8 g _ _) (by decide) rfl inX8 (by decide) tb_1079 rfl rfl hdg kk
set_option maxRecDepth 20000 in
theorem pf_X8_309 (F : CallFix p m c cc nL s args TBL RX8) (G : AK g s) (hS : WS g σ τ s H locs) {x : Int32} (hdg : decode cc pc = .ok (.putfield 309, 3)) (kk : ∀ (H : Heap) (locs : List Loc), WS g (va_up σ 60 (upd (σ 60) 46 x)) τ s H locs → W p l e R s m args below meth c H locs cells slots Q (F0 m (pc + 3) ls rest)) : W p l e R s m args below meth c H locs cells slots Q (F0 m pc ls (.int x :: .ref (gA g 60) :: rest)) := x_put F G hS (i := 60) (k := 46) (N := 47) (T := TX8) (C := RX8) (ci := 8) (eo_X8 g _ _) (by decide) rfl inX8 tyX8 tyX8_ok nmX8 (by decide) tb_1079 rfl rfl rfl (Nat.le_of_ble_eq_true rfl) rfl hdg kk
end FR
