set_option maxRecDepth 20000 in
theorem lk_J0_335 : lkV RJ0 335 yJ0_coder_7d493 cJ0_coder_7d493 1 (some .byte) 0 := ⟨tb_444, tb_445, tb_446, tb_119, tb_447, ⟨by decide, by decide, by decide +kernel⟩⟩
set_option maxRecDepth 20000 in
theorem lk_J0_492 : lkV RJ0 492 yJ0_isLatin1_aae02 cJ0_isLatin1_aae02 1 (some .boolean) 0 := ⟨tb_454, tb_455, tb_456, tb_119, tb_457, ⟨by decide, by decide, by decide +kernel⟩⟩
set_option maxRecDepth 20000 in
theorem lk_J0_495 : lkS RJ0 495 yJ1_charAt_3b067 cJ1_charAt_3b067 2 (some .char) 2 := ⟨tb_458, tb_459, tb_120, tb_460, ⟨by decide, by decide, by decide +kernel⟩⟩
set_option maxRecDepth 20000 in
theorem lk_J0_1059 : lkS RJ0 1059 yJ3_checkIndex_8e157 cJ3_checkIndex_8e157 3 (some .int) 3 := ⟨tb_466, tb_467, tb_121, tb_468, ⟨by decide, by decide, by decide +kernel⟩⟩
set_option maxRecDepth 20000 in
theorem lk_J1_9 : lkS RJ1 9 yJ0_checkIndex_df160 cJ0_checkIndex_df160 2 none 2 := ⟨tb_461, tb_462, tb_119, tb_463, ⟨by decide, by decide, by decide +kernel⟩⟩
set_option maxRecDepth 20000 in
theorem lk_X0_39 : lkVN RX0 39 yX6_value "MailCatch" cX6_value 2 (some .int) 1 := ⟨(ts_3 _ (List.mem_of_getElem? (i := 135) rfl)), tb_503, tb_10, tb_110, tb_504, ⟨by decide, by decide, by decide +kernel⟩⟩
set_option maxRecDepth 20000 in
theorem lk_X0_55 : lkVN RX0 55 yX6_markAt "MailCatch" cX6_markAt 3 (some .int) 1 := ⟨(ts_3 _ (List.mem_of_getElem? (i := 139) rfl)), tb_555, tb_19, tb_110, tb_556, ⟨by decide, by decide, by decide +kernel⟩⟩
set_option maxRecDepth 20000 in
theorem lk_X0_62 : lkSN RX0 62 yX7_at "MailCatch" cX7_at 2 (some .int) 2 := ⟨(ts_3 _ (List.mem_of_getElem? (i := 140) rfl)), tb_506, tb_109, tb_507, ⟨by decide, by decide, by decide +kernel⟩⟩
set_option maxRecDepth 20000 in
theorem lk_X0_66 : lkV RX0 66 yX0_sumBehind cX0_sumBehind 4 none 0 := ⟨tb_729, tb_731, tb_40, tb_115, tb_732, ⟨by decide, by decide, by decide +kernel⟩⟩
set_option maxRecDepth 20000 in
theorem lk_X0_69 : lkSN RX0 69 yX7_put_ "MailCatch" cX7_put_ 4 none 3 := ⟨(ts_3 _ (List.mem_of_getElem? (i := 145) rfl)), tb_734, tb_109, tb_735, ⟨by decide, by decide, by decide +kernel⟩⟩
set_option maxRecDepth 20000 in
theorem lk_X0_73 : lkS RX0 73 yJ7_fill_d0a16 cJ7_fill_d0a16 5 none 2 := ⟨tb_744, tb_745, tb_124, tb_746, ⟨by decide, by decide, by decide +kernel⟩⟩
set_option maxRecDepth 20000 in
theorem lk_X0_79 : lkV RX0 79 yX0_start cX0_start 1 none 0 := ⟨tb_740, tb_742, tb_42, tb_115, tb_743, ⟨by decide, by decide, by decide +kernel⟩⟩
set_option maxRecDepth 20000 in
theorem lk_X0_82 : lkV RX0 82 yX0_passJoint cX0_passJoint 8 none 2 := ⟨tb_747, tb_749, tb_43, tb_115, tb_750, ⟨by decide, by decide, by decide +kernel⟩⟩
set_option maxRecDepth 20000 in
theorem lk_X0_86 : lkSN RX0 86 yX7_at_ "MailCatch" cX7_at_ 2 (some .long) 2 := ⟨(ts_3 _ (List.mem_of_getElem? (i := 167) rfl)), tb_756, tb_109, tb_757, ⟨by decide, by decide, by decide +kernel⟩⟩
set_option maxRecDepth 20000 in
theorem lk_X0_89 : lkVN RX0 89 yX3_leaveIn "MailCatch" cX3_leaveIn 4 none 2 := ⟨(ts_4 _ (List.mem_of_getElem? (i := 78) rfl)), tb_908, tb_61, tb_116, tb_909, ⟨by decide, by decide, by decide +kernel⟩⟩
set_option maxRecDepth 20000 in
theorem lk_X0_94 : lkS RX0 94 yX0_sumOf cX0_sumOf 4 (some .long) 1 := ⟨tb_795, tb_796, tb_115, tb_797, ⟨by decide, by decide, by decide +kernel⟩⟩
set_option maxRecDepth 20000 in
theorem lk_X0_98 : lkV RX0 98 yX0_takeIn cX0_takeIn 3 none 1 := ⟨tb_786, tb_788, tb_48, tb_115, tb_789, ⟨by decide, by decide, by decide +kernel⟩⟩
set_option maxRecDepth 20000 in
theorem lk_X0_102 : lkV RX0 102 yX0_putOut cX0_putOut 5 (some .long) 1 := ⟨tb_791, tb_793, tb_49, tb_115, tb_794, ⟨by decide, by decide, by decide +kernel⟩⟩
set_option maxRecDepth 20000 in
theorem lk_X1_30 : lkVN RX1 30 yX6_value "MailCatch" cX6_value 2 (some .int) 1 := ⟨(ts_3 _ (List.mem_of_getElem? (i := 105) rfl)), tb_503, tb_10, tb_110, tb_504, ⟨by decide, by decide, by decide +kernel⟩⟩
set_option maxRecDepth 20000 in
theorem lk_X1_36 : lkVN RX1 36 yX6_countBehind "MailCatch" cX6_countBehind 6 (some .int) 4 := ⟨(ts_3 _ (List.mem_of_getElem? (i := 106) rfl)), tb_696, tb_36, tb_110, tb_697, ⟨by decide, by decide, by decide +kernel⟩⟩
set_option maxRecDepth 20000 in
theorem lk_X1_40 : lkV RX1 40 yX1_meet cX1_meet 4 none 2 := ⟨tb_699, tb_701, tb_37, tb_114, tb_702, ⟨by decide, by decide, by decide +kernel⟩⟩
set_option maxRecDepth 20000 in
theorem lk_X1_44 : lkVN RX1 44 yX6_armAt "MailCatch" cX6_armAt 3 (some .int) 1 := ⟨(ts_3 _ (List.mem_of_getElem? (i := 115) rfl)), tb_534, tb_15, tb_110, tb_535, ⟨by decide, by decide, by decide +kernel⟩⟩
set_option maxRecDepth 20000 in
theorem lk_X1_47 : lkVN RX1 47 yX6_isSignalAt "MailCatch" cX6_isSignalAt 2 (some .boolean) 1 := ⟨(ts_3 _ (List.mem_of_getElem? (i := 116) rfl)), tb_567, tb_22, tb_110, tb_568, ⟨by decide, by decide, by decide +kernel⟩⟩
set_option maxRecDepth 20000 in
theorem lk_X2_29 : lkVN RX2 29 yX6_restart "MailCatch" cX6_restart 1 none 0 := ⟨(ts_2 _ (List.mem_of_getElem? (i := 59) rfl)), tb_142, tb_0, tb_110, tb_143, ⟨by decide, by decide, by decide +kernel⟩⟩
set_option maxRecDepth 20000 in
theorem lk_X2_38 : lkV RX2 38 yX2_isJointMissing cX2_isJointMissing 3 (some .boolean) 0 := ⟨tb_579, tb_581, tb_25, tb_112, tb_582, ⟨by decide, by decide, by decide +kernel⟩⟩
set_option maxRecDepth 20000 in
theorem lk_X2_48 : lkV RX2 48 yX2_takeToken cX2_takeToken 1 (some .boolean) 0 := ⟨tb_412, tb_414, tb_4, tb_112, tb_415, ⟨by decide, by decide, by decide +kernel⟩⟩
set_option maxRecDepth 20000 in
theorem lk_X2_54 : lkV RX2 54 yX2_lineNamed cX2_lineNamed 1 (some .int) 0 := ⟨tb_431, tb_433, tb_8, tb_112, tb_434, ⟨by decide, by decide, by decide +kernel⟩⟩
set_option maxRecDepth 20000 in
theorem lk_X2_58 : lkV RX2 58 yX2_refuse cX2_refuse 2 (some .boolean) 1 := ⟨tb_427, tb_429, tb_7, tb_112, tb_430, ⟨by decide, by decide, by decide +kernel⟩⟩
set_option maxRecDepth 20000 in
theorem lk_X2_62 : lkS RX2 62 yX2_isRowOf cX2_isRowOf 1 (some .boolean) 1 := ⟨tb_498, tb_499, tb_112, tb_500, ⟨by decide, by decide, by decide +kernel⟩⟩
set_option maxRecDepth 20000 in
theorem lk_X2_65 : lkVN RX2 65 yX6_value "MailCatch" cX6_value 2 (some .int) 1 := ⟨(ts_2 _ (List.mem_of_getElem? (i := 153) rfl)), tb_503, tb_10, tb_110, tb_504, ⟨by decide, by decide, by decide +kernel⟩⟩
set_option maxRecDepth 20000 in
theorem lk_X2_73 : lkSN RX2 73 yX7_at "MailCatch" cX7_at 2 (some .int) 2 := ⟨(ts_2 _ (List.mem_of_getElem? (i := 162) rfl)), tb_506, tb_109, tb_507, ⟨by decide, by decide, by decide +kernel⟩⟩
set_option maxRecDepth 20000 in
theorem lk_X2_77 : lkV RX2 77 yX2_readArm cX2_readArm 5 (some .boolean) 0 := ⟨tb_511, tb_513, tb_11, tb_112, tb_514, ⟨by decide, by decide, by decide +kernel⟩⟩
set_option maxRecDepth 20000 in
theorem lk_X2_80 : lkV RX2 80 yX2_takeSign cX2_takeSign 1 (some .boolean) 0 := ⟨tb_545, tb_547, tb_17, tb_112, tb_548, ⟨by decide, by decide, by decide +kernel⟩⟩
set_option maxRecDepth 20000 in
theorem lk_X2_83 : lkV RX2 83 yX2_readMark cX2_readMark 4 (some .boolean) 0 := ⟨tb_549, tb_551, tb_18, tb_112, tb_552, ⟨by decide, by decide, by decide +kernel⟩⟩
set_option maxRecDepth 20000 in
theorem lk_X2_86 : lkV RX2 86 yX2_readTown cX2_readTown 4 (some .boolean) 0 := ⟨tb_557, tb_559, tb_20, tb_112, tb_560, ⟨by decide, by decide, by decide +kernel⟩⟩
set_option maxRecDepth 20000 in
theorem lk_X2_89 : lkV RX2 89 yX2_readSignal cX2_readSignal 2 (some .boolean) 0 := ⟨tb_561, tb_563, tb_21, tb_112, tb_564, ⟨by decide, by decide, by decide +kernel⟩⟩
set_option maxRecDepth 20000 in
theorem lk_X2_92 : lkV RX2 92 yX2_readRule cX2_readRule 4 (some .boolean) 1 := ⟨tb_569, tb_571, tb_23, tb_112, tb_572, ⟨by decide, by decide, by decide +kernel⟩⟩
set_option maxRecDepth 20000 in
theorem lk_X2_98 : lkV RX2 98 yX2_takeNumber cX2_takeNumber 4 (some .int) 2 := ⟨tb_524, tb_526, tb_13, tb_112, tb_527, ⟨by decide, by decide, by decide +kernel⟩⟩
set_option maxRecDepth 20000 in
theorem lk_X2_102 : lkVN RX2 102 yX6_become "MailCatch" cX6_become 3 none 2 := ⟨(ts_2 _ (List.mem_of_getElem? (i := 192) rfl)), tb_542, tb_16, tb_110, tb_543, ⟨by decide, by decide, by decide +kernel⟩⟩
set_option maxRecDepth 20000 in
theorem lk_X2_106 : lkV RX2 106 yX2_kindNamed cX2_kindNamed 1 (some .int) 0 := ⟨tb_515, tb_517, tb_12, tb_112, tb_518, ⟨by decide, by decide, by decide +kernel⟩⟩
set_option maxRecDepth 20000 in
theorem lk_X2_109 : lkVN RX2 109 yX6_armAt "MailCatch" cX6_armAt 3 (some .int) 1 := ⟨(ts_2 _ (List.mem_of_getElem? (i := 184) rfl)), tb_534, tb_15, tb_110, tb_535, ⟨by decide, by decide, by decide +kernel⟩⟩
set_option maxRecDepth 20000 in
theorem lk_X2_115 : lkSN RX2 115 yX7_put "MailCatch" cX7_put 3 none 3 := ⟨(ts_2 _ (List.mem_of_getElem? (i := 189) rfl)), tb_538, tb_109, tb_539, ⟨by decide, by decide, by decide +kernel⟩⟩
set_option maxRecDepth 20000 in
theorem lk_X2_125 : lkVN RX2 125 yX6_markAt "MailCatch" cX6_markAt 3 (some .int) 1 := ⟨(ts_2 _ (List.mem_of_getElem? (i := 205) rfl)), tb_555, tb_19, tb_110, tb_556, ⟨by decide, by decide, by decide +kernel⟩⟩
set_option maxRecDepth 20000 in
theorem lk_X2_140 : lkVN RX2 140 yX6_isSignalAt "MailCatch" cX6_isSignalAt 2 (some .boolean) 1 := ⟨(ts_2 _ (List.mem_of_getElem? (i := 217) rfl)), tb_567, tb_22, tb_110, tb_568, ⟨by decide, by decide, by decide +kernel⟩⟩
set_option maxRecDepth 20000 in
theorem lk_X2_143 : lkVN RX2 143 yX5_readToken "MailCatch" cX5_readToken 1 none 0 := ⟨(ts_2 _ (List.mem_of_getElem? (i := 68) rfl)), tb_418, tb_5, tb_113, tb_419, ⟨by decide, by decide, by decide +kernel⟩⟩
set_option maxRecDepth 20000 in
theorem lk_X2_146 : lkVN RX2 146 yX5_numberRead "MailCatch" cX5_numberRead 2 (some .int) 0 := ⟨(ts_2 _ (List.mem_of_getElem? (i := 180) rfl)), tb_530, tb_14, tb_113, tb_531, ⟨by decide, by decide, by decide +kernel⟩⟩
set_option maxRecDepth 20000 in
theorem lk_X2_154 : lkVN RX2 154 yX5_isName "MailCatch" cX5_isName 3 (some .boolean) 1 := ⟨(ts_2 _ (List.mem_of_getElem? (i := 88) rfl)), tb_438, tb_9, tb_113, tb_439, ⟨by decide, by decide, by decide +kernel⟩⟩
set_option maxRecDepth 20000 in
theorem lk_X3_22 : lkSN RX3 22 yX7_put "MailCatch" cX7_put 3 none 3 := ⟨(ts_4 _ (List.mem_of_getElem? (i := 61) rfl)), tb_538, tb_109, tb_539, ⟨by decide, by decide, by decide +kernel⟩⟩
set_option maxRecDepth 20000 in
theorem lk_X3_26 : lkSN RX3 26 yX7_at "MailCatch" cX7_at 2 (some .int) 2 := ⟨(ts_4 _ (List.mem_of_getElem? (i := 82) rfl)), tb_506, tb_109, tb_507, ⟨by decide, by decide, by decide +kernel⟩⟩
set_option maxRecDepth 20000 in
theorem lk_X3_30 : lkS RX3 30 yX3_leaveOnly cX3_leaveOnly 3 none 2 := ⟨tb_911, tb_912, tb_116, tb_913, ⟨by decide, by decide, by decide +kernel⟩⟩
set_option maxRecDepth 20000 in
theorem lk_X4_24 : lkSN RX4 24 yX7_put "MailCatch" cX7_put 3 none 3 := ⟨(ts_4 _ (List.mem_of_getElem? (i := 146) rfl)), tb_538, tb_109, tb_539, ⟨by decide, by decide, by decide +kernel⟩⟩
set_option maxRecDepth 20000 in
theorem lk_X4_28 : lkSN RX4 28 yX7_at "MailCatch" cX7_at 2 (some .int) 2 := ⟨(ts_4 _ (List.mem_of_getElem? (i := 155) rfl)), tb_506, tb_109, tb_507, ⟨by decide, by decide, by decide +kernel⟩⟩
set_option maxRecDepth 20000 in
theorem lk_X4_32 : lkV RX4 32 yX4_faultOfCell cX4_faultOfCell 3 (some .int) 2 := ⟨tb_1001, tb_981, tb_68, tb_117, tb_982, ⟨by decide, by decide, by decide +kernel⟩⟩
set_option maxRecDepth 20000 in
theorem lk_X5_22 : lkV RX5 22 yX5_byteAt cX5_byteAt 2 (some .int) 1 := ⟨tb_420, tb_422, tb_6, tb_113, tb_423, ⟨by decide, by decide, by decide +kernel⟩⟩
set_option maxRecDepth 20000 in
theorem lk_X5_29 : lkS RX5 29 yX5_kindOf cX5_kindOf 1 (some .int) 1 := ⟨tb_424, tb_425, tb_113, tb_426, ⟨by decide, by decide, by decide +kernel⟩⟩
set_option maxRecDepth 20000 in
theorem lk_X5_35 : lkV RX5 35 yJ0_length_8abf5 cJ0_length_8abf5 1 (some .int) 0 := ⟨tb_440, tb_441, tb_442, tb_119, tb_443, ⟨by decide, by decide, by decide +kernel⟩⟩
set_option maxRecDepth 20000 in
theorem lk_X5_40 : lkV RX5 40 yJ0_charAt_5068e cJ0_charAt_5068e 2 (some .char) 1 := ⟨tb_450, tb_451, tb_452, tb_119, tb_453, ⟨by decide, by decide, by decide +kernel⟩⟩
set_option maxRecDepth 20000 in
theorem lk_X6_48 : lkSN RX6 48 yX7_at "MailCatch" cX7_at 2 (some .int) 2 := ⟨(ts_2 _ (List.mem_of_getElem? (i := 157) rfl)), tb_506, tb_109, tb_507, ⟨by decide, by decide, by decide +kernel⟩⟩
set_option maxRecDepth 20000 in
theorem lk_X6_52 : lkSN RX6 52 yX7_put "MailCatch" cX7_put 3 none 3 := ⟨(ts_2 _ (List.mem_of_getElem? (i := 196) rfl)), tb_538, tb_109, tb_539, ⟨by decide, by decide, by decide +kernel⟩⟩
set_option maxRecDepth 20000 in
theorem lk_X6_62 : lkV RX6 62 yX6_value cX6_value 2 (some .int) 1 := ⟨tb_536, tb_503, tb_10, tb_110, tb_504, ⟨by decide, by decide, by decide +kernel⟩⟩
set_option maxRecDepth 20000 in
theorem lk_X6_66 : lkV RX6 66 yX6_markAt cX6_markAt 3 (some .int) 1 := ⟨tb_698, tb_555, tb_19, tb_110, tb_556, ⟨by decide, by decide, by decide +kernel⟩⟩
set_option maxRecDepth 20000 in
theorem lk_X7_68 : lkVN RX7 68 yX5_add "MailCatch" cX5_add 2 (some .boolean) 1 := ⟨(ts_2 _ (List.mem_of_getElem? (i := 43) rfl)), tb_393, tb_1, tb_113, tb_394, ⟨by decide, by decide, by decide +kernel⟩⟩
set_option maxRecDepth 20000 in
theorem lk_X7_78 : lkVN RX7 78 yX2_start "MailCatch" cX2_start 1 none 0 := ⟨(ts_2 _ (List.mem_of_getElem? (i := 55) rfl)), tb_405, tb_2, tb_112, tb_406, ⟨by decide, by decide, by decide +kernel⟩⟩
set_option maxRecDepth 20000 in
theorem lk_X7_81 : lkVN RX7 81 yX2_readLine "MailCatch" cX2_readLine 2 (some .boolean) 0 := ⟨(ts_2 _ (List.mem_of_getElem? (i := 60) rfl)), tb_410, tb_3, tb_112, tb_411, ⟨by decide, by decide, by decide +kernel⟩⟩
set_option maxRecDepth 20000 in
theorem lk_X7_85 : lkVN RX7 85 yX2_finish "MailCatch" cX2_finish 1 none 0 := ⟨(ts_2 _ (List.mem_of_getElem? (i := 227) rfl)), tb_577, tb_24, tb_112, tb_578, ⟨by decide, by decide, by decide +kernel⟩⟩
set_option maxRecDepth 20000 in
theorem lk_X7_100 : lkVN RX7 100 yX6_take "MailCatch" cX6_take 2 none 1 := ⟨(ts_2 _ (List.mem_of_getElem? (i := 235) rfl)), tb_585, tb_26, tb_110, tb_586, ⟨by decide, by decide, by decide +kernel⟩⟩
set_option maxRecDepth 20000 in
theorem lk_X7_110 : lkVN RX7 110 yX6_value "MailCatch" cX6_value 2 (some .int) 1 := ⟨(ts_3 _ (List.mem_of_getElem? (i := 7) rfl)), tb_503, tb_10, tb_110, tb_504, ⟨by decide, by decide, by decide +kernel⟩⟩
set_option maxRecDepth 20000 in
theorem lk_X7_114 : lkV RX7 114 yX7_isArm cX7_isArm 2 (some .boolean) 1 := ⟨tb_600, tb_602, tb_27, tb_109, tb_603, ⟨by decide, by decide, by decide +kernel⟩⟩
set_option maxRecDepth 20000 in
theorem lk_X7_120 : lkS RX7 120 yX7_at cX7_at 2 (some .int) 2 := ⟨tb_604, tb_506, tb_109, tb_507, ⟨by decide, by decide, by decide +kernel⟩⟩
set_option maxRecDepth 20000 in
theorem lk_X7_130 : lkVN RX7 130 yX6_holdsOf "MailCatch" cX6_holdsOf 5 (some .int) 2 := ⟨(ts_3 _ (List.mem_of_getElem? (i := 17) rfl)), tb_607, tb_28, tb_110, tb_608, ⟨by decide, by decide, by decide +kernel⟩⟩
set_option maxRecDepth 20000 in
theorem lk_X7_134 : lkV RX7 134 yX7_isMark cX7_isMark 2 (some .boolean) 1 := ⟨tb_616, tb_618, tb_29, tb_109, tb_619, ⟨by decide, by decide, by decide +kernel⟩⟩
set_option maxRecDepth 20000 in
theorem lk_X7_137 : lkS RX7 137 yX7_isPart cX7_isPart 1 (some .boolean) 1 := ⟨tb_620, tb_621, tb_109, tb_622, ⟨by decide, by decide, by decide +kernel⟩⟩
set_option maxRecDepth 20000 in
theorem lk_X7_146 : lkV RX7 146 yX7_isTown cX7_isTown 2 (some .boolean) 1 := ⟨tb_627, tb_629, tb_30, tb_109, tb_630, ⟨by decide, by decide, by decide +kernel⟩⟩
set_option maxRecDepth 20000 in
theorem lk_X7_155 : lkS RX7 155 yX7_isWithin cX7_isWithin 2 (some .boolean) 2 := ⟨tb_635, tb_636, tb_109, tb_637, ⟨by decide, by decide, by decide +kernel⟩⟩
set_option maxRecDepth 20000 in
theorem lk_X7_159 : lkVN RX7 159 yX6_become "MailCatch" cX6_become 3 none 2 := ⟨(ts_3 _ (List.mem_of_getElem? (i := 52) rfl)), tb_542, tb_16, tb_110, tb_543, ⟨by decide, by decide, by decide +kernel⟩⟩
set_option maxRecDepth 20000 in
theorem lk_X7_163 : lkV RX7 163 yX7_isJoint cX7_isJoint 2 (some .boolean) 1 := ⟨tb_649, tb_651, tb_31, tb_109, tb_652, ⟨by decide, by decide, by decide +kernel⟩⟩
set_option maxRecDepth 20000 in
theorem lk_X7_166 : lkS RX7 166 yX7_put cX7_put 3 none 3 := ⟨tb_661, tb_538, tb_109, tb_539, ⟨by decide, by decide, by decide +kernel⟩⟩
set_option maxRecDepth 20000 in
theorem lk_X7_170 : lkV RX7 170 yX7_postedTo cX7_postedTo 5 (some .int) 3 := ⟨tb_670, tb_672, tb_32, tb_109, tb_673, ⟨by decide, by decide, by decide +kernel⟩⟩
set_option maxRecDepth 20000 in
theorem lk_X7_174 : lkV RX7 174 yX7_areJoints cX7_areJoints 2 (some .boolean) 1 := ⟨tb_678, tb_680, tb_33, tb_109, tb_681, ⟨by decide, by decide, by decide +kernel⟩⟩
set_option maxRecDepth 20000 in
theorem lk_X7_177 : lkV RX7 177 yX7_areMarks cX7_areMarks 2 (some .boolean) 1 := ⟨tb_682, tb_684, tb_34, tb_109, tb_685, ⟨by decide, by decide, by decide +kernel⟩⟩
set_option maxRecDepth 20000 in
theorem lk_X7_180 : lkS RX7 180 yX7_isNightPart cX7_isNightPart 1 (some .boolean) 1 := ⟨tb_686, tb_687, tb_109, tb_688, ⟨by decide, by decide, by decide +kernel⟩⟩
set_option maxRecDepth 20000 in
theorem lk_X7_183 : lkVN RX7 183 yX1_go "MailCatch" cX1_go 6 none 3 := ⟨(ts_3 _ (List.mem_of_getElem? (i := 101) rfl)), tb_691, tb_35, tb_114, tb_692, ⟨by decide, by decide, by decide +kernel⟩⟩
set_option maxRecDepth 20000 in
theorem lk_X7_187 : lkVN RX7 187 yX1_answer "MailCatch" cX1_answer 2 (some .int) 1 := ⟨(ts_3 _ (List.mem_of_getElem? (i := 117) rfl)), tb_707, tb_38, tb_114, tb_708, ⟨by decide, by decide, by decide +kernel⟩⟩
set_option maxRecDepth 20000 in
theorem lk_X7_190 : lkVN RX7 190 yX6_countBehind "MailCatch" cX6_countBehind 6 (some .int) 4 := ⟨(ts_3 _ (List.mem_of_getElem? (i := 125) rfl)), tb_696, tb_36, tb_110, tb_697, ⟨by decide, by decide, by decide +kernel⟩⟩
set_option maxRecDepth 20000 in
theorem lk_X7_196 : lkVN RX7 196 yX0_weighByOdds "MailCatch" cX0_weighByOdds 7 none 3 := ⟨(ts_3 _ (List.mem_of_getElem? (i := 131) rfl)), tb_721, tb_39, tb_115, tb_722, ⟨by decide, by decide, by decide +kernel⟩⟩
set_option maxRecDepth 20000 in
theorem lk_X7_199 : lkVN RX7 199 yX0_passCounting "MailCatch" cX0_passCounting 3 none 1 := ⟨(ts_3 _ (List.mem_of_getElem? (i := 148) rfl)), tb_738, tb_41, tb_115, tb_739, ⟨by decide, by decide, by decide +kernel⟩⟩
set_option maxRecDepth 20000 in
theorem lk_X7_203 : lkVN RX7 203 yX0_ofCount "MailCatch" cX0_ofCount 3 (some .long) 2 := ⟨(ts_3 _ (List.mem_of_getElem? (i := 163) rfl)), tb_753, tb_44, tb_115, tb_754, ⟨by decide, by decide, by decide +kernel⟩⟩
set_option maxRecDepth 20000 in
theorem lk_X7_207 : lkVN RX7 207 yX0_whole "MailCatch" cX0_whole 1 (some .long) 0 := ⟨(ts_3 _ (List.mem_of_getElem? (i := 170) rfl)), tb_760, tb_45, tb_115, tb_761, ⟨by decide, by decide, by decide +kernel⟩⟩
set_option maxRecDepth 20000 in
theorem lk_X7_211 : lkS RX7 211 yX7_part cX7_part 7 (some .long) 3 := ⟨tb_762, tb_763, tb_109, tb_764, ⟨by decide, by decide, by decide +kernel⟩⟩
set_option maxRecDepth 20000 in
theorem lk_X7_215 : lkV RX7 215 yX7_passByOdds cX7_passByOdds 1 none 0 := ⟨tb_778, tb_780, tb_46, tb_109, tb_781, ⟨by decide, by decide, by decide +kernel⟩⟩
set_option maxRecDepth 20000 in
theorem lk_X7_222 : lkS RX7 222 yX7_at_ cX7_at_ 2 (some .long) 2 := ⟨tb_798, tb_756, tb_109, tb_757, ⟨by decide, by decide, by decide +kernel⟩⟩
set_option maxRecDepth 20000 in
theorem lk_X7_228 : lkV RX7 228 yX7_metBy cX7_metBy 2 (some .long) 1 := ⟨tb_807, tb_809, tb_50, tb_109, tb_810, ⟨by decide, by decide, by decide +kernel⟩⟩
set_option maxRecDepth 20000 in
theorem lk_X7_234 : lkV RX7 234 yX7_hitByOdds cX7_hitByOdds 4 (some .long) 0 := ⟨tb_816, tb_818, tb_51, tb_109, tb_819, ⟨by decide, by decide, by decide +kernel⟩⟩
set_option maxRecDepth 20000 in
theorem lk_X7_237 : lkV RX7 237 yX7_tornByOdds cX7_tornByOdds 1 (some .long) 0 := ⟨tb_825, tb_827, tb_52, tb_109, tb_828, ⟨by decide, by decide, by decide +kernel⟩⟩
set_option maxRecDepth 20000 in
theorem lk_X7_240 : lkV RX7 240 yX7_worthByOdds cX7_worthByOdds 5 (some .long) 0 := ⟨tb_833, tb_835, tb_53, tb_109, tb_836, ⟨by decide, by decide, by decide +kernel⟩⟩
set_option maxRecDepth 20000 in
theorem lk_X7_249 : lkVN RX7 249 yX0_passWithNet "MailCatch" cX0_passWithNet 5 none 3 := ⟨(ts_3 _ (List.mem_of_getElem? (i := 194) rfl)), tb_784, tb_47, tb_115, tb_785, ⟨by decide, by decide, by decide +kernel⟩⟩
set_option maxRecDepth 20000 in
theorem lk_X7_253 : lkV RX7 253 yX7_isHadBy cX7_isHadBy 5 (some .boolean) 4 := ⟨tb_845, tb_847, tb_54, tb_109, tb_848, ⟨by decide, by decide, by decide +kernel⟩⟩
set_option maxRecDepth 20000 in
theorem lk_X7_257 : lkVN RX7 257 yX6_lettersWorth "MailCatch" cX6_lettersWorth 4 (some .int) 1 := ⟨(ts_4 _ (List.mem_of_getElem? (i := 33) rfl)), tb_863, tb_55, tb_110, tb_864, ⟨by decide, by decide, by decide +kernel⟩⟩
set_option maxRecDepth 20000 in
theorem lk_X7_260 : lkVN RX7 260 yX6_minutesOf "MailCatch" cX6_minutesOf 5 (some .int) 2 := ⟨(ts_4 _ (List.mem_of_getElem? (i := 37) rfl)), tb_867, tb_56, tb_110, tb_868, ⟨by decide, by decide, by decide +kernel⟩⟩
set_option maxRecDepth 20000 in
theorem lk_X7_263 : lkV RX7 263 yX7_areTowns cX7_areTowns 2 (some .boolean) 1 := ⟨tb_873, tb_875, tb_57, tb_109, tb_876, ⟨by decide, by decide, by decide +kernel⟩⟩
set_option maxRecDepth 20000 in
theorem lk_X7_266 : lkVN RX7 266 yX3_add "MailCatch" cX3_add 3 (some .boolean) 2 := ⟨(ts_4 _ (List.mem_of_getElem? (i := 57) rfl)), tb_887, tb_58, tb_116, tb_888, ⟨by decide, by decide, by decide +kernel⟩⟩
set_option maxRecDepth 20000 in
theorem lk_X7_268 : lkVN RX7 268 yX0_weighAlike "MailCatch" cX0_weighAlike 3 none 1 := ⟨(ts_4 _ (List.mem_of_getElem? (i := 70) rfl)), tb_900, tb_59, tb_115, tb_901, ⟨by decide, by decide, by decide +kernel⟩⟩
set_option maxRecDepth 20000 in
theorem lk_X7_271 : lkVN RX7 271 yX0_passAsSeen "MailCatch" cX0_passAsSeen 3 (some .long) 1 := ⟨(ts_4 _ (List.mem_of_getElem? (i := 74) rfl)), tb_904, tb_60, tb_115, tb_905, ⟨by decide, by decide, by decide +kernel⟩⟩
set_option maxRecDepth 20000 in
theorem lk_X7_275 : lkV RX7 275 yX7_jointsMissed cX7_jointsMissed 4 (some .int) 1 := ⟨tb_914, tb_916, tb_62, tb_109, tb_917, ⟨by decide, by decide, by decide +kernel⟩⟩
set_option maxRecDepth 20000 in
theorem lk_X7_279 : lkV RX7 279 yX7_marksNoticed cX7_marksNoticed 4 (some .int) 1 := ⟨tb_922, tb_924, tb_64, tb_109, tb_925, ⟨by decide, by decide, by decide +kernel⟩⟩
set_option maxRecDepth 20000 in
theorem lk_X7_282 : lkS RX7 282 yX7_nextSeed cX7_nextSeed 1 (some .int) 1 := ⟨tb_938, tb_939, tb_109, tb_940, ⟨by decide, by decide, by decide +kernel⟩⟩
set_option maxRecDepth 20000 in
theorem lk_X7_285 : lkS RX7 285 yX7_figureOf cX7_figureOf 1 (some .int) 1 := ⟨tb_942, tb_943, tb_109, tb_944, ⟨by decide, by decide, by decide +kernel⟩⟩
set_option maxRecDepth 20000 in
theorem lk_X7_288 : lkS RX7 288 yX7_isImage cX7_isImage 1 (some .boolean) 1 := ⟨tb_949, tb_950, tb_109, tb_951, ⟨by decide, by decide, by decide +kernel⟩⟩
set_option maxRecDepth 20000 in
theorem lk_X7_291 : lkV RX7 291 yX7_imageOf cX7_imageOf 2 (some (.object "MailCatch$Told")) 1 := ⟨tb_952, tb_954, tb_66, tb_109, tb_955, ⟨by decide, by decide, by decide +kernel⟩⟩
set_option maxRecDepth 20000 in
theorem lk_X7_295 : lkS RX7 295 yX7_isSheet cX7_isSheet 1 (some .boolean) 1 := ⟨tb_964, tb_965, tb_109, tb_966, ⟨by decide, by decide, by decide +kernel⟩⟩
set_option maxRecDepth 20000 in
theorem lk_X7_298 : lkS RX7 298 yX7_isLane cX7_isLane 1 (some .boolean) 1 := ⟨tb_967, tb_968, tb_109, tb_969, ⟨by decide, by decide, by decide +kernel⟩⟩
set_option maxRecDepth 20000 in
theorem lk_X7_301 : lkVN RX7 301 yX4_renew "MailCatch" cX4_renew 5 none 3 := ⟨(ts_4 _ (List.mem_of_getElem? (i := 142) rfl)), tb_972, tb_67, tb_117, tb_973, ⟨by decide, by decide, by decide +kernel⟩⟩
set_option maxRecDepth 20000 in
theorem lk_X7_304 : lkVN RX7 304 yX4_faultOfCell "MailCatch" cX4_faultOfCell 3 (some .int) 2 := ⟨(ts_4 _ (List.mem_of_getElem? (i := 151) rfl)), tb_981, tb_68, tb_117, tb_982, ⟨by decide, by decide, by decide +kernel⟩⟩
set_option maxRecDepth 20000 in
theorem lk_X7_307 : lkVN RX7 307 yX4_write "MailCatch" cX4_write 5 none 3 := ⟨(ts_4 _ (List.mem_of_getElem? (i := 156) rfl)), tb_986, tb_69, tb_117, tb_987, ⟨by decide, by decide, by decide +kernel⟩⟩
set_option maxRecDepth 20000 in
theorem lk_X7_310 : lkVN RX7 310 yX4_faultOfLane "MailCatch" cX4_faultOfLane 3 (some .int) 2 := ⟨(ts_4 _ (List.mem_of_getElem? (i := 164) rfl)), tb_994, tb_70, tb_117, tb_995, ⟨by decide, by decide, by decide +kernel⟩⟩
set_option maxRecDepth 20000 in
theorem lk_X7_319 : lkVN RX7 319 yX4_faultOfPair "MailCatch" cX4_faultOfPair 4 (some .int) 2 := ⟨(ts_4 _ (List.mem_of_getElem? (i := 169) rfl)), tb_999, tb_71, tb_117, tb_1000, ⟨by decide, by decide, by decide +kernel⟩⟩
set_option maxRecDepth 20000 in
theorem lk_X7_322 : lkVN RX7 322 yX4_cell "MailCatch" cX4_cell 3 (some .int) 2 := ⟨(ts_4 _ (List.mem_of_getElem? (i := 174) rfl)), tb_1004, tb_72, tb_117, tb_1005, ⟨by decide, by decide, by decide +kernel⟩⟩
set_option maxRecDepth 20000 in
theorem lk_X7_328 : lkS RX7 328 yJ6_bitCount_0f7a4 cJ6_bitCount_0f7a4 1 (some .int) 1 := ⟨tb_1014, tb_1015, tb_125, tb_1016, ⟨by decide, by decide, by decide +kernel⟩⟩
set_option maxRecDepth 20000 in
theorem lk_X7_333 : lkVN RX7 333 yX4_cellsOf "MailCatch" cX4_cellsOf 2 (some .int) 1 := ⟨(ts_4 _ (List.mem_of_getElem? (i := 192) rfl)), tb_1022, tb_73, tb_117, tb_1023, ⟨by decide, by decide, by decide +kernel⟩⟩
set_option maxRecDepth 20000 in
theorem lk_X7_336 : lkVN RX7 336 yX6_allLetters "MailCatch" cX6_allLetters 3 (some .int) 0 := ⟨(ts_4 _ (List.mem_of_getElem? (i := 196) rfl)), tb_1026, tb_74, tb_110, tb_1027, ⟨by decide, by decide, by decide +kernel⟩⟩
set_option maxRecDepth 20000 in
theorem lk_X7_340 : lkVN RX7 340 yX6_isSignalAt "MailCatch" cX6_isSignalAt 2 (some .boolean) 1 := ⟨(ts_3 _ (List.mem_of_getElem? (i := 232) rfl)), tb_567, tb_22, tb_110, tb_568, ⟨by decide, by decide, by decide +kernel⟩⟩
set_option maxRecDepth 20000 in
theorem lk_X7_343 : lkVN RX7 343 yX0_forceMiss "MailCatch" cX0_forceMiss 3 none 2 := ⟨(ts_4 _ (List.mem_of_getElem? (i := 90) rfl)), tb_920, tb_63, tb_115, tb_921, ⟨by decide, by decide, by decide +kernel⟩⟩
set_option maxRecDepth 20000 in
theorem lk_X7_347 : lkVN RX7 347 yX0_forceNotice "MailCatch" cX0_forceNotice 3 none 2 := ⟨(ts_4 _ (List.mem_of_getElem? (i := 98) rfl)), tb_928, tb_65, tb_115, tb_929, ⟨by decide, by decide, by decide +kernel⟩⟩
set_option maxRecDepth 20000 in
theorem lk_X7_357 : lkS RX7 357 yX7_greatestShared cX7_greatestShared 11 (some .long) 2 := ⟨tb_768, tb_769, tb_109, tb_770, ⟨by decide, by decide, by decide +kernel⟩⟩
set_option maxRecDepth 20000 in
theorem lk_X8_71 : lkS RX8 71 yX8_in cX8_in 6 (some .boolean) 3 := ⟨tb_1182, tb_1183, tb_118, tb_1184, ⟨by decide, by decide, by decide +kernel⟩⟩
set_option maxRecDepth 20000 in
theorem lk_X8_93 : lkV RX8 93 yX8_byteAt cX8_byteAt 2 (some .int) 1 := ⟨tb_1201, tb_1203, tb_77, tb_118, tb_1204, ⟨by decide, by decide, by decide +kernel⟩⟩
set_option maxRecDepth 20000 in
theorem lk_X8_108 : lkV RX8 108 yX8_fails cX8_fails 2 none 1 := ⟨tb_1209, tb_1211, tb_78, tb_118, tb_1212, ⟨by decide, by decide, by decide +kernel⟩⟩
set_option maxRecDepth 20000 in
theorem lk_X8_112 : lkV RX8 112 yX8_step cX8_step 2 none 0 := ⟨tb_1197, tb_1199, tb_76, tb_118, tb_1200, ⟨by decide, by decide, by decide +kernel⟩⟩
set_option maxRecDepth 20000 in
theorem lk_X8_117 : lkV RX8 117 yX8_number cX8_number 4 (some .int) 2 := ⟨tb_1226, tb_1228, tb_82, tb_118, tb_1229, ⟨by decide, by decide, by decide +kernel⟩⟩
set_option maxRecDepth 20000 in
theorem lk_X8_127 : lkV RX8 127 yX8_jointHere cX8_jointHere 3 (some .int) 1 := ⟨tb_1230, tb_1232, tb_83, tb_118, tb_1233, ⟨by decide, by decide, by decide +kernel⟩⟩
set_option maxRecDepth 20000 in
theorem lk_X8_130 : lkV RX8 130 yX8_nameHere cX8_nameHere 4 (some .int) 0 := ⟨tb_1217, tb_1219, tb_80, tb_118, tb_1220, ⟨by decide, by decide, by decide +kernel⟩⟩
set_option maxRecDepth 20000 in
theorem lk_X8_152 : lkV RX8 152 yX8_readOnce cX8_readOnce 2 none 1 := ⟨tb_1222, tb_1224, tb_81, tb_118, tb_1225, ⟨by decide, by decide, by decide +kernel⟩⟩
set_option maxRecDepth 20000 in
theorem lk_X8_155 : lkV RX8 155 yX8_readMore cX8_readMore 4 none 1 := ⟨tb_1234, tb_1236, tb_84, tb_118, tb_1237, ⟨by decide, by decide, by decide +kernel⟩⟩
set_option maxRecDepth 20000 in
theorem lk_X8_158 : lkV RX8 158 yX8_begins cX8_begins 2 none 0 := ⟨tb_1193, tb_1195, tb_75, tb_118, tb_1196, ⟨by decide, by decide, by decide +kernel⟩⟩
set_option maxRecDepth 20000 in
theorem lk_X8_161 : lkV RX8 161 yX8_readLine cX8_readLine 2 none 0 := ⟨tb_1213, tb_1215, tb_79, tb_118, tb_1216, ⟨by decide, by decide, by decide +kernel⟩⟩
set_option maxRecDepth 20000 in
theorem lk_X8_179 : lkV RX8 179 yX8_slip cX8_slip 1 (some .int) 0 := ⟨tb_1246, tb_1248, tb_85, tb_118, tb_1249, ⟨by decide, by decide, by decide +kernel⟩⟩
set_option maxRecDepth 20000 in
theorem lk_X8_182 : lkV RX8 182 yX8_pace cX8_pace 1 (some .int) 0 := ⟨tb_1250, tb_1252, tb_86, tb_118, tb_1253, ⟨by decide, by decide, by decide +kernel⟩⟩
set_option maxRecDepth 20000 in
theorem lk_X8_185 : lkV RX8 185 yX8_handMany cX8_handMany 1 (some .int) 0 := ⟨tb_1254, tb_1256, tb_87, tb_118, tb_1257, ⟨by decide, by decide, by decide +kernel⟩⟩
set_option maxRecDepth 20000 in
theorem lk_X8_188 : lkV RX8 188 yX8_isArm cX8_isArm 2 (some .boolean) 1 := ⟨tb_1262, tb_1264, tb_88, tb_118, tb_1265, ⟨by decide, by decide, by decide +kernel⟩⟩
set_option maxRecDepth 20000 in
theorem lk_X8_192 : lkV RX8 192 yX8_holdsOf cX8_holdsOf 4 (some .int) 1 := ⟨tb_1266, tb_1268, tb_89, tb_118, tb_1269, ⟨by decide, by decide, by decide +kernel⟩⟩
set_option maxRecDepth 20000 in
theorem lk_X8_195 : lkV RX8 195 yX8_lays cX8_lays 6 (some .int) 4 := ⟨tb_1282, tb_1284, tb_90, tb_118, tb_1285, ⟨by decide, by decide, by decide +kernel⟩⟩
set_option maxRecDepth 20000 in
theorem lk_X8_203 : lkV RX8 203 yX8_isJoint cX8_isJoint 2 (some .boolean) 1 := ⟨tb_1296, tb_1298, tb_91, tb_118, tb_1299, ⟨by decide, by decide, by decide +kernel⟩⟩
set_option maxRecDepth 20000 in
theorem lk_X8_210 : lkV RX8 210 yX8_posts cX8_posts 3 (some .int) 2 := ⟨tb_1317, tb_1319, tb_92, tb_118, tb_1320, ⟨by decide, by decide, by decide +kernel⟩⟩
set_option maxRecDepth 20000 in
theorem lk_X8_234 : lkV RX8 234 yX8_counted cX8_counted 5 none 3 := ⟨tb_1335, tb_1337, tb_95, tb_118, tb_1338, ⟨by decide, by decide, by decide +kernel⟩⟩
set_option maxRecDepth 20000 in
theorem lk_X8_238 : lkV RX8 238 yX8_areSets cX8_areSets 3 (some .boolean) 2 := ⟨tb_1326, tb_1328, tb_93, tb_118, tb_1329, ⟨by decide, by decide, by decide +kernel⟩⟩
set_option maxRecDepth 20000 in
theorem lk_X8_244 : lkV RX8 244 yX8_nights cX8_nights 6 none 2 := ⟨tb_1331, tb_1333, tb_94, tb_118, tb_1334, ⟨by decide, by decide, by decide +kernel⟩⟩
set_option maxRecDepth 20000 in
theorem lk_X8_248 : lkV RX8 248 yX8_nightTold cX8_nightTold 2 (some .int) 1 := ⟨tb_1339, tb_1341, tb_96, tb_118, tb_1342, ⟨by decide, by decide, by decide +kernel⟩⟩
set_option maxRecDepth 20000 in
theorem lk_X8_251 : lkV RX8 251 yX8_countAt cX8_countAt 5 (some .int) 3 := ⟨tb_1347, tb_1349, tb_97, tb_118, tb_1350, ⟨by decide, by decide, by decide +kernel⟩⟩
set_option maxRecDepth 20000 in
theorem lk_X8_255 : lkS RX8 255 yX8_bitsOf cX8_bitsOf 3 (some .int) 1 := ⟨tb_1371, tb_1372, tb_118, tb_1373, ⟨by decide, by decide, by decide +kernel⟩⟩
set_option maxRecDepth 20000 in
theorem lk_X8_258 : lkV RX8 258 yX8_worthNow cX8_worthNow 3 (some .int) 0 := ⟨tb_1374, tb_1376, tb_102, tb_118, tb_1377, ⟨by decide, by decide, by decide +kernel⟩⟩
set_option maxRecDepth 20000 in
theorem lk_X8_261 : lkV RX8 261 yX8_isAsSeen cX8_isAsSeen 5 (some .boolean) 2 := ⟨tb_1378, tb_1380, tb_103, tb_118, tb_1381, ⟨by decide, by decide, by decide +kernel⟩⟩
set_option maxRecDepth 20000 in
theorem lk_X8_264 : lkV RX8 264 yX8_weightOf cX8_weightOf 6 (some .long) 2 := ⟨tb_1363, tb_1365, tb_100, tb_118, tb_1366, ⟨by decide, by decide, by decide +kernel⟩⟩
set_option maxRecDepth 20000 in
theorem lk_X8_268 : lkV RX8 268 yX8_valueOf cX8_valueOf 6 (some .int) 5 := ⟨tb_1367, tb_1369, tb_101, tb_118, tb_1370, ⟨by decide, by decide, by decide +kernel⟩⟩
set_option maxRecDepth 20000 in
theorem lk_X8_272 : lkV RX8 272 yX8_sumOf cX8_sumOf 10 (some .long) 3 := ⟨tb_1359, tb_1361, tb_99, tb_118, tb_1362, ⟨by decide, by decide, by decide +kernel⟩⟩
set_option maxRecDepth 20000 in
theorem lk_X8_276 : lkV RX8 276 yX8_allWeight cX8_allWeight 5 (some .long) 1 := ⟨tb_1382, tb_1384, tb_104, tb_118, tb_1385, ⟨by decide, by decide, by decide +kernel⟩⟩
set_option maxRecDepth 20000 in
theorem lk_X8_280 : lkS RX8 280 yX8_lowest cX8_lowest 11 (some .long) 3 := ⟨tb_1386, tb_1387, tb_118, tb_1388, ⟨by decide, by decide, by decide +kernel⟩⟩
set_option maxRecDepth 20000 in
theorem lk_X8_284 : lkV RX8 284 yX8_meanOf cX8_meanOf 5 (some .long) 4 := ⟨tb_1355, tb_1357, tb_98, tb_118, tb_1358, ⟨by decide, by decide, by decide +kernel⟩⟩
set_option maxRecDepth 20000 in
theorem lk_X8_292 : lkV RX8 292 yX8_copies cX8_copies 4 none 2 := ⟨tb_1419, tb_1421, tb_105, tb_118, tb_1422, ⟨by decide, by decide, by decide +kernel⟩⟩
set_option maxRecDepth 20000 in
theorem lk_X8_295 : lkS RX8 295 yX8_areTenths cX8_areTenths 1 (some .boolean) 1 := ⟨tb_1427, tb_1428, tb_118, tb_1429, ⟨by decide, by decide, by decide +kernel⟩⟩
set_option maxRecDepth 20000 in
theorem lk_X8_298 : lkV RX8 298 yX8_isHad cX8_isHad 3 (some .boolean) 2 := ⟨tb_1430, tb_1432, tb_106, tb_118, tb_1433, ⟨by decide, by decide, by decide +kernel⟩⟩
set_option maxRecDepth 20000 in
theorem lk_X8_301 : lkV RX8 301 yX8_minutesBy cX8_minutesBy 5 (some .int) 2 := ⟨tb_1446, tb_1448, tb_107, tb_118, tb_1449, ⟨by decide, by decide, by decide +kernel⟩⟩
section FR
variable {p : Program} {l : Launch} {e : Env} {R : Room} {s : State} {m : MethodId} {args : Array Value} {below : List Frame} {meth : Method} {c : Code} {H : Heap} {locs : List Loc} {cells slots : Nat} {Q : State → Prop}
variable {cc : ByteArray} {pc nL : Nat} {ls : Array Slot} {rest : List Value} {g : GG} {σ : ZI} {τ : ZL}
theorem eo_X7 (g : GG) (f : Nat → Int32) (t : Nat → Int64) : eF g 0 f t = .inr (7, [.ref (gA g 1), .ref (gA g 10), .ref (gA g 19), .int (f 3), .ref (gA g 39), .ref (gA g 37), .int (f 6), .ref (gA g 40), .ref (gA g 41), .ref (gA g 51), .ref (gA g 54), .ref (gA g 59), .int (f 12)]) := rfl
theorem inX7 : ∀ w ∈ u_ws RX7 TX7 13, w ∈ TBL := tb_ws (by decide +kernel)
theorem rc_X7 (G : AK g s) (hS : WS g σ τ s H locs) : ∃ cell : Cell, H[gA g 0]? = some cell ∧ cell.vm.isStatics = false ∧ s.vm.findClass RX7 = some cell.cls := x_recv G hS (by decide) (eo_X7 g _ _) rfl
theorem eo_X5 (g : GG) (f : Nat → Int32) (t : Nat → Int64) : eF g 37 f t = .inr (5, [.ref (gA g 38), .int (f 1), .int (f 2), .int (f 3), .int (f 4)]) := rfl
theorem inX5 : ∀ w ∈ u_ws RX5 TX5 5, w ∈ TBL := tb_ws (by decide +kernel)
theorem rc_X5 (G : AK g s) (hS : WS g σ τ s H locs) : ∃ cell : Cell, H[gA g 37]? = some cell ∧ cell.vm.isStatics = false ∧ s.vm.findClass RX5 = some cell.cls := x_recv G hS (by decide) (eo_X5 g _ _) rfl
theorem eo_X2 (g : GG) (f : Nat → Int32) (t : Nat → Int64) : eF g 39 f t = .inr (2, [.ref (gA g 37), .ref (gA g 28), .int (f 2), .int (f 3), .int (f 4)]) := rfl
theorem inX2 : ∀ w ∈ u_ws RX2 TX2 5, w ∈ TBL := tb_ws (by decide +kernel)
theorem rc_X2 (G : AK g s) (hS : WS g σ τ s H locs) : ∃ cell : Cell, H[gA g 39]? = some cell ∧ cell.vm.isStatics = false ∧ s.vm.findClass RX2 = some cell.cls := x_recv G hS (by decide) (eo_X2 g _ _) rfl
theorem eo_X1 (g : GG) (f : Nat → Int32) (t : Nat → Int64) : eF g 40 f t = .inr (1, [.int (f 0), .int (f 1), .int (f 2), .int (f 3), .int (f 4), .int (f 5)]) := rfl
theorem inX1 : ∀ w ∈ u_ws RX1 TX1 6, w ∈ TBL := tb_ws (by decide +kernel)
theorem rc_X1 (G : AK g s) (hS : WS g σ τ s H locs) : ∃ cell : Cell, H[gA g 40]? = some cell ∧ cell.vm.isStatics = false ∧ s.vm.findClass RX1 = some cell.cls := x_recv G hS (by decide) (eo_X1 g _ _) rfl
theorem eo_X0 (g : GG) (f : Nat → Int32) (t : Nat → Int64) : eF g 41 f t = .inr (0, [.int (f 0), .ref (gA g 42), .ref (gA g 43), .ref (gA g 44), .ref (gA g 45), .ref (gA g 46), .ref (gA g 47), .ref (gA g 48), .ref (gA g 49), .ref (gA g 50)]) := rfl
theorem inX0 : ∀ w ∈ u_ws RX0 TX0 10, w ∈ TBL := tb_ws (by decide +kernel)
theorem rc_X0 (G : AK g s) (hS : WS g σ τ s H locs) : ∃ cell : Cell, H[gA g 41]? = some cell ∧ cell.vm.isStatics = false ∧ s.vm.findClass RX0 = some cell.cls := x_recv G hS (by decide) (eo_X0 g _ _) rfl
theorem eo_X3 (g : GG) (f : Nat → Int32) (t : Nat → Int64) : eF g 51 f t = .inr (3, [.ref (gA g 52), .ref (gA g 53), .int (f 2)]) := rfl
theorem inX3 : ∀ w ∈ u_ws RX3 TX3 3, w ∈ TBL := tb_ws (by decide +kernel)
theorem rc_X3 (G : AK g s) (hS : WS g σ τ s H locs) : ∃ cell : Cell, H[gA g 51]? = some cell ∧ cell.vm.isStatics = false ∧ s.vm.findClass RX3 = some cell.cls := x_recv G hS (by decide) (eo_X3 g _ _) rfl
theorem eo_X4 (g : GG) (f : Nat → Int32) (t : Nat → Int64) : eF g 54 f t = .inr (4, [.ref (gA g 55), .ref (gA g 56), .ref (gA g 57), .ref (gA g 58)]) := rfl
theorem inX4 : ∀ w ∈ u_ws RX4 TX4 4, w ∈ TBL := tb_ws (by decide +kernel)
theorem rc_X4 (G : AK g s) (hS : WS g σ τ s H locs) : ∃ cell : Cell, H[gA g 54]? = some cell ∧ cell.vm.isStatics = false ∧ s.vm.findClass RX4 = some cell.cls := x_recv G hS (by decide) (eo_X4 g _ _) rfl
theorem eo_X8 (g : GG) (f : Nat → Int32) (t : Nat → Int64) : eF g 60 f t = .inr (8, [.ref (gA g 61), .int (f 1), .ref (gA g 62), .int (f 3), .ref (gA g 63), .int (f 5), .ref (gA g 64), .int (f 7), .ref (gA g 65), .ref (gA g 66), .ref (gA g 67), .ref (gA g 68), .ref (gA g 69), .ref (gA g 70), .int (f 14), .int (f 15), .int (f 16), .int (f 17), .int (f 18), .int (f 19), .int (f 20), .int (f 21), .ref (gA g 71), .int (f 23), .int (f 24), .int (f 25), .int (f 26), .int (f 27), .int (f 28), .int (f 29), .int (f 30), .ref (gA g 72), .ref (gA g 73), .int (f 33), .int (f 34), .int (f 35), .int (f 36), .int (f 37), .int (f 38), .int (f 39), .ref (gA g 74), .int (f 41), .ref (gA g 75), .ref (gA g 76), .ref (gA g 77), .ref (gA g 78), .int (f 46)]) := rfl
theorem inX8 : ∀ w ∈ u_ws RX8 TX8 47, w ∈ TBL := tb_ws (by decide +kernel)
theorem rc_X8 (G : AK g s) (hS : WS g σ τ s H locs) : ∃ cell : Cell, H[gA g 60]? = some cell ∧ cell.vm.isStatics = false ∧ s.vm.findClass RX8 = some cell.cls := x_recv G hS (by decide) (eo_X8 g _ _) rfl
theorem inX6 : ∀ w ∈ u_ws RX6 TX6 8, w ∈ TBL := tb_ws (by decide +kernel)
theorem rc_X6 {b : Nat} (G : AK g s) (hS : WS g σ τ s H locs) (hb : (ar b).1 = 11) : ∃ cell : Cell, H[gA g b]? = some cell ∧ cell.vm.isStatics = false ∧ s.vm.findClass RX6 = some cell.cls := x_recv G hS (ar_l11 hb) (ar_T hb g _ _) rfl
set_option maxRecDepth 20000 in
theorem gf_X0_11 (F : CallFix p m c cc nL s args TBL RX0) (G : AK g s) (hS : WS g σ τ s H locs) (hdg : decode cc pc = .ok (.getfield 11, 3)) (kk : W p l e R s m args below meth c H locs cells slots Q (F0 m (pc + 3) ls (.ref (gA g 42) :: rest))) : W p l e R s m args below meth c H locs cells slots Q (F0 m pc ls (.ref (gA g 41) :: rest)) := x_get F G hS (i := 41) (k := 1) (N := 10) (T := TX0) (C := RX0) (ci := 0) (eo_X0 g _ _) (by decide) rfl inX0 (by decide) tb_278 rfl rfl hdg kk
set_option maxRecDepth 20000 in
theorem gf_X0_15 (F : CallFix p m c cc nL s args TBL RX0) (G : AK g s) (hS : WS g σ τ s H locs) (hdg : decode cc pc = .ok (.getfield 15, 3)) (kk : W p l e R s m args below meth c H locs cells slots Q (F0 m (pc + 3) ls (.ref (gA g 43) :: rest))) : W p l e R s m args below meth c H locs cells slots Q (F0 m pc ls (.ref (gA g 41) :: rest)) := x_get F G hS (i := 41) (k := 2) (N := 10) (T := TX0) (C := RX0) (ci := 0) (eo_X0 g _ _) (by decide) rfl inX0 (by decide) tb_279 rfl rfl hdg kk
set_option maxRecDepth 20000 in
theorem gf_X0_18 (F : CallFix p m c cc nL s args TBL RX0) (G : AK g s) (hS : WS g σ τ s H locs) (hdg : decode cc pc = .ok (.getfield 18, 3)) (kk : W p l e R s m args below meth c H locs cells slots Q (F0 m (pc + 3) ls (.ref (gA g 44) :: rest))) : W p l e R s m args below meth c H locs cells slots Q (F0 m pc ls (.ref (gA g 41) :: rest)) := x_get F G hS (i := 41) (k := 3) (N := 10) (T := TX0) (C := RX0) (ci := 0) (eo_X0 g _ _) (by decide) rfl inX0 (by decide) tb_280 rfl rfl hdg kk
set_option maxRecDepth 20000 in
theorem gf_X0_21 (F : CallFix p m c cc nL s args TBL RX0) (G : AK g s) (hS : WS g σ τ s H locs) (hdg : decode cc pc = .ok (.getfield 21, 3)) (kk : W p l e R s m args below meth c H locs cells slots Q (F0 m (pc + 3) ls (.ref (gA g 45) :: rest))) : W p l e R s m args below meth c H locs cells slots Q (F0 m pc ls (.ref (gA g 41) :: rest)) := x_get F G hS (i := 41) (k := 4) (N := 10) (T := TX0) (C := RX0) (ci := 0) (eo_X0 g _ _) (by decide) rfl inX0 (by decide) tb_281 rfl rfl hdg kk
set_option maxRecDepth 20000 in
theorem gf_X0_24 (F : CallFix p m c cc nL s args TBL RX0) (G : AK g s) (hS : WS g σ τ s H locs) (hdg : decode cc pc = .ok (.getfield 24, 3)) (kk : W p l e R s m args below meth c H locs cells slots Q (F0 m (pc + 3) ls (.ref (gA g 46) :: rest))) : W p l e R s m args below meth c H locs cells slots Q (F0 m pc ls (.ref (gA g 41) :: rest)) := x_get F G hS (i := 41) (k := 5) (N := 10) (T := TX0) (C := RX0) (ci := 0) (eo_X0 g _ _) (by decide) rfl inX0 (by decide) tb_282 rfl rfl hdg kk
set_option maxRecDepth 20000 in
theorem gf_X0_27 (F : CallFix p m c cc nL s args TBL RX0) (G : AK g s) (hS : WS g σ τ s H locs) (hdg : decode cc pc = .ok (.getfield 27, 3)) (kk : W p l e R s m args below meth c H locs cells slots Q (F0 m (pc + 3) ls (.ref (gA g 47) :: rest))) : W p l e R s m args below meth c H locs cells slots Q (F0 m pc ls (.ref (gA g 41) :: rest)) := x_get F G hS (i := 41) (k := 6) (N := 10) (T := TX0) (C := RX0) (ci := 0) (eo_X0 g _ _) (by decide) rfl inX0 (by decide) tb_283 rfl rfl hdg kk
set_option maxRecDepth 20000 in
theorem gf_X0_30 (F : CallFix p m c cc nL s args TBL RX0) (G : AK g s) (hS : WS g σ τ s H locs) (hdg : decode cc pc = .ok (.getfield 30, 3)) (kk : W p l e R s m args below meth c H locs cells slots Q (F0 m (pc + 3) ls (.ref (gA g 48) :: rest))) : W p l e R s m args below meth c H locs cells slots Q (F0 m pc ls (.ref (gA g 41) :: rest)) := x_get F G hS (i := 41) (k := 7) (N := 10) (T := TX0) (C := RX0) (ci := 0) (eo_X0 g _ _) (by decide) rfl inX0 (by decide) tb_284 rfl rfl hdg kk
set_option maxRecDepth 20000 in
theorem gf_X0_33 (F : CallFix p m c cc nL s args TBL RX0) (G : AK g s) (hS : WS g σ τ s H locs) (hdg : decode cc pc = .ok (.getfield 33, 3)) (kk : W p l e R s m args below meth c H locs cells slots Q (F0 m (pc + 3) ls (.ref (gA g 49) :: rest))) : W p l e R s m args below meth c H locs cells slots Q (F0 m pc ls (.ref (gA g 41) :: rest)) := x_get F G hS (i := 41) (k := 8) (N := 10) (T := TX0) (C := RX0) (ci := 0) (eo_X0 g _ _) (by decide) rfl inX0 (by decide) tb_285 rfl rfl hdg kk
set_option maxRecDepth 20000 in
theorem gf_X0_36 (F : CallFix p m c cc nL s args TBL RX0) (G : AK g s) (hS : WS g σ τ s H locs) (hdg : decode cc pc = .ok (.getfield 36, 3)) (kk : W p l e R s m args below meth c H locs cells slots Q (F0 m (pc + 3) ls (.ref (gA g 50) :: rest))) : W p l e R s m args below meth c H locs cells slots Q (F0 m pc ls (.ref (gA g 41) :: rest)) := x_get F G hS (i := 41) (k := 9) (N := 10) (T := TX0) (C := RX0) (ci := 0) (eo_X0 g _ _) (by decide) rfl inX0 (by decide) tb_287 rfl rfl hdg kk
set_option maxRecDepth 20000 in
theorem gf_X0_51 (F : CallFix p m c cc nL s args TBL RX0) (G : AK g s) (hS : WS g σ τ s H locs) (hdg : decode cc pc = .ok (.getfield 51, 3)) (kk : W p l e R s m args below meth c H locs cells slots Q (F0 m (pc + 3) ls (.int (σ 41 0) :: rest))) : W p l e R s m args below meth c H locs cells slots Q (F0 m pc ls (.ref (gA g 41) :: rest)) := x_get F G hS (i := 41) (k := 0) (N := 10) (T := TX0) (C := RX0) (ci := 0) (eo_X0 g _ _) (by decide) rfl inX0 (by decide) tb_277 rfl rfl hdg kk
set_option maxRecDepth 20000 in
theorem pf_X0_51 (F : CallFix p m c cc nL s args TBL RX0) (G : AK g s) (hS : WS g σ τ s H locs) {x : Int32} (hdg : decode cc pc = .ok (.putfield 51, 3)) (kk : ∀ (H : Heap) (locs : List Loc), WS g (va_up σ 41 (upd (σ 41) 0 x)) τ s H locs → W p l e R s m args below meth c H locs cells slots Q (F0 m (pc + 3) ls rest)) : W p l e R s m args below meth c H locs cells slots Q (F0 m pc ls (.int x :: .ref (gA g 41) :: rest)) := x_put F G hS (i := 41) (k := 0) (N := 10) (T := TX0) (C := RX0) (ci := 0) (eo_X0 g _ _) (by decide) rfl inX0 tyX0 tyX0_ok nmX0 (by decide) tb_277 rfl rfl rfl (Nat.le_of_ble_eq_true rfl) rfl hdg kk
set_option maxRecDepth 20000 in
theorem gf_X0_58 {b : Nat} (F : CallFix p m c cc nL s args TBL RX0) (G : AK g s) (hS : WS g σ τ s H locs) (hb : (ar b).1 = 11) (hdg : decode cc pc = .ok (.getfield 58, 3)) (kk : W p l e R s m args below meth c H locs cells slots Q (F0 m (pc + 3) ls (.ref (gA g (b + 6)) :: rest))) : W p l e R s m args below meth c H locs cells slots Q (F0 m pc ls (.ref (gA g b) :: rest)) := x_getN F G hS (i := b) (k := 5) (N := 8) (T := TX6) (C := RX6) (ci := 6) (ar_T hb g _ _) (ar_l11 hb) rfl inX6 (by decide) (host := "MailCatch") (ts_1 _ (List.mem_of_getElem? (i := 55) rfl)) rfl rfl hdg kk
set_option maxRecDepth 20000 in
theorem gf_X1_9 (F : CallFix p m c cc nL s args TBL RX1) (G : AK g s) (hS : WS g σ τ s H locs) (hdg : decode cc pc = .ok (.getfield 9, 3)) (kk : W p l e R s m args below meth c H locs cells slots Q (F0 m (pc + 3) ls (.int (σ 40 0) :: rest))) : W p l e R s m args below meth c H locs cells slots Q (F0 m pc ls (.ref (gA g 40) :: rest)) := x_get F G hS (i := 40) (k := 0) (N := 6) (T := TX1) (C := RX1) (ci := 1) (eo_X1 g _ _) (by decide) rfl inX1 (by decide) tb_252 rfl rfl hdg kk
set_option maxRecDepth 20000 in
theorem pf_X1_9 (F : CallFix p m c cc nL s args TBL RX1) (G : AK g s) (hS : WS g σ τ s H locs) {x : Int32} (hdg : decode cc pc = .ok (.putfield 9, 3)) (kk : ∀ (H : Heap) (locs : List Loc), WS g (va_up σ 40 (upd (σ 40) 0 x)) τ s H locs → W p l e R s m args below meth c H locs cells slots Q (F0 m (pc + 3) ls rest)) : W p l e R s m args below meth c H locs cells slots Q (F0 m pc ls (.int x :: .ref (gA g 40) :: rest)) := x_put F G hS (i := 40) (k := 0) (N := 6) (T := TX1) (C := RX1) (ci := 1) (eo_X1 g _ _) (by decide) rfl inX1 tyX1 tyX1_ok nmX1 (by decide) tb_252 rfl rfl rfl (Nat.le_of_ble_eq_true rfl) rfl hdg kk
set_option maxRecDepth 20000 in
theorem gf_X1_15 (F : CallFix p m c cc nL s args TBL RX1) (G : AK g s) (hS : WS g σ τ s H locs) (hdg : decode cc pc = .ok (.getfield 15, 3)) (kk : W p l e R s m args below meth c H locs cells slots Q (F0 m (pc + 3) ls (.int (σ 40 1) :: rest))) : W p l e R s m args below meth c H locs cells slots Q (F0 m pc ls (.ref (gA g 40) :: rest)) := x_get F G hS (i := 40) (k := 1) (N := 6) (T := TX1) (C := RX1) (ci := 1) (eo_X1 g _ _) (by decide) rfl inX1 (by decide) tb_253 rfl rfl hdg kk
set_option maxRecDepth 20000 in
theorem pf_X1_15 (F : CallFix p m c cc nL s args TBL RX1) (G : AK g s) (hS : WS g σ τ s H locs) {x : Int32} (hdg : decode cc pc = .ok (.putfield 15, 3)) (kk : ∀ (H : Heap) (locs : List Loc), WS g (va_up σ 40 (upd (σ 40) 1 x)) τ s H locs → W p l e R s m args below meth c H locs cells slots Q (F0 m (pc + 3) ls rest)) : W p l e R s m args below meth c H locs cells slots Q (F0 m pc ls (.int x :: .ref (gA g 40) :: rest)) := x_put F G hS (i := 40) (k := 1) (N := 6) (T := TX1) (C := RX1) (ci := 1) (eo_X1 g _ _) (by decide) rfl inX1 tyX1 tyX1_ok nmX1 (by decide) tb_253 rfl rfl rfl (Nat.le_of_ble_eq_true rfl) rfl hdg kk
set_option maxRecDepth 20000 in
theorem gf_X1_18 (F : CallFix p m c cc nL s args TBL RX1) (G : AK g s) (hS : WS g σ τ s H locs) (hdg : decode cc pc = .ok (.getfield 18, 3)) (kk : W p l e R s m args below meth c H locs cells slots Q (F0 m (pc + 3) ls (.int (σ 40 2) :: rest))) : W p l e R s m args below meth c H locs cells slots Q (F0 m pc ls (.ref (gA g 40) :: rest)) := x_get F G hS (i := 40) (k := 2) (N := 6) (T := TX1) (C := RX1) (ci := 1) (eo_X1 g _ _) (by decide) rfl inX1 (by decide) tb_254 rfl rfl hdg kk
set_option maxRecDepth 20000 in
theorem pf_X1_18 (F : CallFix p m c cc nL s args TBL RX1) (G : AK g s) (hS : WS g σ τ s H locs) {x : Int32} (hdg : decode cc pc = .ok (.putfield 18, 3)) (kk : ∀ (H : Heap) (locs : List Loc), WS g (va_up σ 40 (upd (σ 40) 2 x)) τ s H locs → W p l e R s m args below meth c H locs cells slots Q (F0 m (pc + 3) ls rest)) : W p l e R s m args below meth c H locs cells slots Q (F0 m pc ls (.int x :: .ref (gA g 40) :: rest)) := x_put F G hS (i := 40) (k := 2) (N := 6) (T := TX1) (C := RX1) (ci := 1) (eo_X1 g _ _) (by decide) rfl inX1 tyX1 tyX1_ok nmX1 (by decide) tb_254 rfl rfl rfl (Nat.le_of_ble_eq_true rfl) rfl hdg kk
set_option maxRecDepth 20000 in
theorem gf_X1_21 (F : CallFix p m c cc nL s args TBL RX1) (G : AK g s) (hS : WS g σ τ s H locs) (hdg : decode cc pc = .ok (.getfield 21, 3)) (kk : W p l e R s m args below meth c H locs cells slots Q (F0 m (pc + 3) ls (.int (σ 40 3) :: rest))) : W p l e R s m args below meth c H locs cells slots Q (F0 m pc ls (.ref (gA g 40) :: rest)) := x_get F G hS (i := 40) (k := 3) (N := 6) (T := TX1) (C := RX1) (ci := 1) (eo_X1 g _ _) (by decide) rfl inX1 (by decide) tb_255 rfl rfl hdg kk
set_option maxRecDepth 20000 in
theorem pf_X1_21 (F : CallFix p m c cc nL s args TBL RX1) (G : AK g s) (hS : WS g σ τ s H locs) {x : Int32} (hdg : decode cc pc = .ok (.putfield 21, 3)) (kk : ∀ (H : Heap) (locs : List Loc), WS g (va_up σ 40 (upd (σ 40) 3 x)) τ s H locs → W p l e R s m args below meth c H locs cells slots Q (F0 m (pc + 3) ls rest)) : W p l e R s m args below meth c H locs cells slots Q (F0 m pc ls (.int x :: .ref (gA g 40) :: rest)) := x_put F G hS (i := 40) (k := 3) (N := 6) (T := TX1) (C := RX1) (ci := 1) (eo_X1 g _ _) (by decide) rfl inX1 tyX1 tyX1_ok nmX1 (by decide) tb_255 rfl rfl rfl (Nat.le_of_ble_eq_true rfl) rfl hdg kk
set_option maxRecDepth 20000 in
theorem gf_X1_24 (F : CallFix p m c cc nL s args TBL RX1) (G : AK g s) (hS : WS g σ τ s H locs) (hdg : decode cc pc = .ok (.getfield 24, 3)) (kk : W p l e R s m args below meth c H locs cells slots Q (F0 m (pc + 3) ls (.int (σ 40 4) :: rest))) : W p l e R s m args below meth c H locs cells slots Q (F0 m pc ls (.ref (gA g 40) :: rest)) := x_get F G hS (i := 40) (k := 4) (N := 6) (T := TX1) (C := RX1) (ci := 1) (eo_X1 g _ _) (by decide) rfl inX1 (by decide) tb_256 rfl rfl hdg kk
set_option maxRecDepth 20000 in
theorem pf_X1_24 (F : CallFix p m c cc nL s args TBL RX1) (G : AK g s) (hS : WS g σ τ s H locs) {x : Int32} (hdg : decode cc pc = .ok (.putfield 24, 3)) (kk : ∀ (H : Heap) (locs : List Loc), WS g (va_up σ 40 (upd (σ 40) 4 x)) τ s H locs → W p l e R s m args below meth c H locs cells slots Q (F0 m (pc + 3) ls rest)) : W p l e R s m args below meth c H locs cells slots Q (F0 m pc ls (.int x :: .ref (gA g 40) :: rest)) := x_put F G hS (i := 40) (k := 4) (N := 6) (T := TX1) (C := RX1) (ci := 1) (eo_X1 g _ _) (by decide) rfl inX1 tyX1 tyX1_ok nmX1 (by decide) tb_256 rfl rfl rfl (Nat.le_of_ble_eq_true rfl) rfl hdg kk
set_option maxRecDepth 20000 in
theorem gf_X1_27 (F : CallFix p m c cc nL s args TBL RX1) (G : AK g s) (hS : WS g σ τ s H locs) (hdg : decode cc pc = .ok (.getfield 27, 3)) (kk : W p l e R s m args below meth c H locs cells slots Q (F0 m (pc + 3) ls (.int (σ 40 5) :: rest))) : W p l e R s m args below meth c H locs cells slots Q (F0 m pc ls (.ref (gA g 40) :: rest)) := x_get F G hS (i := 40) (k := 5) (N := 6) (T := TX1) (C := RX1) (ci := 1) (eo_X1 g _ _) (by decide) rfl inX1 (by decide) tb_257 rfl rfl hdg kk
set_option maxRecDepth 20000 in
theorem pf_X1_27 (F : CallFix p m c cc nL s args TBL RX1) (G : AK g s) (hS : WS g σ τ s H locs) {x : Int32} (hdg : decode cc pc = .ok (.putfield 27, 3)) (kk : ∀ (H : Heap) (locs : List Loc), WS g (va_up σ 40 (upd (σ 40) 5 x)) τ s H locs → W p l e R s m args below meth c H locs cells slots Q (F0 m (pc + 3) ls rest)) : W p l e R s m args below meth c H locs cells slots Q (F0 m pc ls (.int x :: .ref (gA g 40) :: rest)) := x_put F G hS (i := 40) (k := 5) (N := 6) (T := TX1) (C := RX1) (ci := 1) (eo_X1 g _ _) (by decide) rfl inX1 tyX1 tyX1_ok nmX1 (by decide) tb_257 rfl rfl rfl (Nat.le_of_ble_eq_true rfl) rfl hdg kk
set_option maxRecDepth 20000 in
theorem gf_X2_12 (F : CallFix p m c cc nL s args TBL RX2) (G : AK g s) (hS : WS g σ τ s H locs) (hdg : decode cc pc = .ok (.getfield 12, 3)) (kk : W p l e R s m args below meth c H locs cells slots Q (F0 m (pc + 3) ls (.ref (gA g 37) :: rest))) : W p l e R s m args below meth c H locs cells slots Q (F0 m pc ls (.ref (gA g 39) :: rest)) := x_get F G hS (i := 39) (k := 0) (N := 5) (T := TX2) (C := RX2) (ci := 2) (eo_X2 g _ _) (by decide) rfl inX2 (by decide) tb_226 rfl rfl hdg kk
set_option maxRecDepth 20000 in
theorem gf_X2_21 (F : CallFix p m c cc nL s args TBL RX2) (G : AK g s) (hS : WS g σ τ s H locs) (hdg : decode cc pc = .ok (.getfield 21, 3)) (kk : W p l e R s m args below meth c H locs cells slots Q (F0 m (pc + 3) ls (.ref (gA g 28) :: rest))) : W p l e R s m args below meth c H locs cells slots Q (F0 m pc ls (.ref (gA g 39) :: rest)) := x_get F G hS (i := 39) (k := 1) (N := 5) (T := TX2) (C := RX2) (ci := 2) (eo_X2 g _ _) (by decide) rfl inX2 (by decide) tb_228 rfl rfl hdg kk
set_option maxRecDepth 20000 in
theorem pf_X2_25 (F : CallFix p m c cc nL s args TBL RX2) (G : AK g s) (hS : WS g σ τ s H locs) {x : Int32} (hdg : decode cc pc = .ok (.putfield 25, 3)) (kk : ∀ (H : Heap) (locs : List Loc), WS g (va_up σ 37 (upd (σ 37) 2 x)) τ s H locs → W p l e R s m args below meth c H locs cells slots Q (F0 m (pc + 3) ls rest)) : W p l e R s m args below meth c H locs cells slots Q (F0 m pc ls (.int x :: .ref (gA g 37) :: rest)) := x_putN F G hS (i := 37) (k := 2) (N := 5) (T := TX5) (C := RX5) (ci := 5) (eo_X5 g _ _) (by decide) rfl inX5 tyX5 tyX5_ok nmX5 (by decide) (host := "MailCatch") (ts_1 _ (List.mem_of_getElem? (i := 98) rfl)) rfl rfl rfl (Nat.le_of_ble_eq_true rfl) rfl hdg kk
set_option maxRecDepth 20000 in
theorem gf_X2_32 (F : CallFix p m c cc nL s args TBL RX2) (G : AK g s) (hS : WS g σ τ s H locs) (hdg : decode cc pc = .ok (.getfield 32, 3)) (kk : W p l e R s m args below meth c H locs cells slots Q (F0 m (pc + 3) ls (.int (σ 39 2) :: rest))) : W p l e R s m args below meth c H locs cells slots Q (F0 m pc ls (.ref (gA g 39) :: rest)) := x_get F G hS (i := 39) (k := 2) (N := 5) (T := TX2) (C := RX2) (ci := 2) (eo_X2 g _ _) (by decide) rfl inX2 (by decide) tb_230 rfl rfl hdg kk
set_option maxRecDepth 20000 in
theorem pf_X2_32 (F : CallFix p m c cc nL s args TBL RX2) (G : AK g s) (hS : WS g σ τ s H locs) {x : Int32} (hdg : decode cc pc = .ok (.putfield 32, 3)) (kk : ∀ (H : Heap) (locs : List Loc), WS g (va_up σ 39 (upd (σ 39) 2 x)) τ s H locs → W p l e R s m args below meth c H locs cells slots Q (F0 m (pc + 3) ls rest)) : W p l e R s m args below meth c H locs cells slots Q (F0 m pc ls (.int x :: .ref (gA g 39) :: rest)) := x_put F G hS (i := 39) (k := 2) (N := 5) (T := TX2) (C := RX2) (ci := 2) (eo_X2 g _ _) (by decide) rfl inX2 tyX2 tyX2_ok nmX2 (by decide) tb_230 rfl rfl rfl (Nat.le_of_ble_eq_true rfl) rfl hdg kk
set_option maxRecDepth 20000 in
theorem gf_X2_35 (F : CallFix p m c cc nL s args TBL RX2) (G : AK g s) (hS : WS g σ τ s H locs) (hdg : decode cc pc = .ok (.getfield 35, 3)) (kk : W p l e R s m args below meth c H locs cells slots Q (F0 m (pc + 3) ls (.int (σ 39 3) :: rest))) : W p l e R s m args below meth c H locs cells slots Q (F0 m pc ls (.ref (gA g 39) :: rest)) := x_get F G hS (i := 39) (k := 3) (N := 5) (T := TX2) (C := RX2) (ci := 2) (eo_X2 g _ _) (by decide) rfl inX2 (by decide) tb_231 rfl rfl hdg kk
set_option maxRecDepth 20000 in
theorem pf_X2_35 (F : CallFix p m c cc nL s args TBL RX2) (G : AK g s) (hS : WS g σ τ s H locs) {x : Int32} (hdg : decode cc pc = .ok (.putfield 35, 3)) (kk : ∀ (H : Heap) (locs : List Loc), WS g (va_up σ 39 (upd (σ 39) 3 x)) τ s H locs → W p l e R s m args below meth c H locs cells slots Q (F0 m (pc + 3) ls rest)) : W p l e R s m args below meth c H locs cells slots Q (F0 m pc ls (.int x :: .ref (gA g 39) :: rest)) := x_put F G hS (i := 39) (k := 3) (N := 5) (T := TX2) (C := RX2) (ci := 2) (eo_X2 g _ _) (by decide) rfl inX2 tyX2 tyX2_ok nmX2 (by decide) tb_231 rfl rfl rfl (Nat.le_of_ble_eq_true rfl) rfl hdg kk
set_option maxRecDepth 20000 in
theorem gf_X2_42 (F : CallFix p m c cc nL s args TBL RX2) (G : AK g s) (hS : WS g σ τ s H locs) (hdg : decode cc pc = .ok (.getfield 42, 3)) (kk : W p l e R s m args below meth c H locs cells slots Q (F0 m (pc + 3) ls (.int (σ 37 1) :: rest))) : W p l e R s m args below meth c H locs cells slots Q (F0 m pc ls (.ref (gA g 37) :: rest)) := x_getN F G hS (i := 37) (k := 1) (N := 5) (T := TX5) (C := RX5) (ci := 5) (eo_X5 g _ _) (by decide) rfl inX5 (by decide) (host := "MailCatch") (ts_1 _ (List.mem_of_getElem? (i := 97) rfl)) rfl rfl hdg kk
set_option maxRecDepth 20000 in
theorem pf_X2_45 (F : CallFix p m c cc nL s args TBL RX2) (G : AK g s) (hS : WS g σ τ s H locs) {x : Int32} (hdg : decode cc pc = .ok (.putfield 45, 3)) (kk : ∀ (H : Heap) (locs : List Loc), WS g (va_up σ 39 (upd (σ 39) 4 x)) τ s H locs → W p l e R s m args below meth c H locs cells slots Q (F0 m (pc + 3) ls rest)) : W p l e R s m args below meth c H locs cells slots Q (F0 m pc ls (.int x :: .ref (gA g 39) :: rest)) := x_put F G hS (i := 39) (k := 4) (N := 5) (T := TX2) (C := RX2) (ci := 2) (eo_X2 g _ _) (by decide) rfl inX2 tyX2 tyX2_ok nmX2 (by decide) tb_233 rfl rfl rfl (Nat.le_of_ble_eq_true rfl) rfl hdg kk
set_option maxRecDepth 20000 in
theorem gf_X2_51 (F : CallFix p m c cc nL s args TBL RX2) (G : AK g s) (hS : WS g σ τ s H locs) (hdg : decode cc pc = .ok (.getfield 51, 3)) (kk : W p l e R s m args below meth c H locs cells slots Q (F0 m (pc + 3) ls (.int (σ 37 3) :: rest))) : W p l e R s m args below meth c H locs cells slots Q (F0 m pc ls (.ref (gA g 37) :: rest)) := x_getN F G hS (i := 37) (k := 3) (N := 5) (T := TX5) (C := RX5) (ci := 5) (eo_X5 g _ _) (by decide) rfl inX5 (by decide) (host := "MailCatch") (ts_1 _ (List.mem_of_getElem? (i := 100) rfl)) rfl rfl hdg kk
set_option maxRecDepth 20000 in
theorem gs_X2_69 (F : CallFix p m c cc nL s args TBL RX2) (G : AK g s) (hS : WS g σ τ s H locs) (hdg : decode cc pc = .ok (.getstatic 69, 3)) (kk : W p l e R s m args below meth c H locs cells slots Q (F0 m (pc + 3) ls (.ref (gA g 102) :: rest))) : W p l e R s m args below meth c H locs cells slots Q (F0 m pc ls rest) := x_getsN F G hS 102 (by decide) (host := "MailCatch") (ts_2 _ (List.mem_of_getElem? (i := 160) rfl)) hdg kk
set_option maxRecDepth 20000 in
theorem gs_X2_95 (F : CallFix p m c cc nL s args TBL RX2) (G : AK g s) (hS : WS g σ τ s H locs) (hdg : decode cc pc = .ok (.getstatic 95, 3)) (kk : W p l e R s m args below meth c H locs cells slots Q (F0 m (pc + 3) ls (.ref (gA g 101) :: rest))) : W p l e R s m args below meth c H locs cells slots Q (F0 m pc ls rest) := x_getsN F G hS 101 (by decide) (host := "MailCatch") (ts_2 _ (List.mem_of_getElem? (i := 225) rfl)) hdg kk
set_option maxRecDepth 20000 in
theorem gf_X2_112 {b : Nat} (F : CallFix p m c cc nL s args TBL RX2) (G : AK g s) (hS : WS g σ τ s H locs) (hb : (ar b).1 = 11) (hdg : decode cc pc = .ok (.getfield 112, 3)) (kk : W p l e R s m args below meth c H locs cells slots Q (F0 m (pc + 3) ls (.ref (gA g (b + 2)) :: rest))) : W p l e R s m args below meth c H locs cells slots Q (F0 m pc ls (.ref (gA g b) :: rest)) := x_getN F G hS (i := b) (k := 1) (N := 8) (T := TX6) (C := RX6) (ci := 6) (ar_T hb g _ _) (ar_l11 hb) rfl inX6 (by decide) (host := "MailCatch") (ts_1 _ (List.mem_of_getElem? (i := 43) rfl)) rfl rfl hdg kk
set_option maxRecDepth 20000 in
theorem gf_X2_119 {b : Nat} (F : CallFix p m c cc nL s args TBL RX2) (G : AK g s) (hS : WS g σ τ s H locs) (hb : (ar b).1 = 11) (hdg : decode cc pc = .ok (.getfield 119, 3)) (kk : W p l e R s m args below meth c H locs cells slots Q (F0 m (pc + 3) ls (.ref (gA g (b + 3)) :: rest))) : W p l e R s m args below meth c H locs cells slots Q (F0 m pc ls (.ref (gA g b) :: rest)) := x_getN F G hS (i := b) (k := 2) (N := 8) (T := TX6) (C := RX6) (ci := 6) (ar_T hb g _ _) (ar_l11 hb) rfl inX6 (by decide) (host := "MailCatch") (ts_1 _ (List.mem_of_getElem? (i := 46) rfl)) rfl rfl hdg kk
set_option maxRecDepth 20000 in
theorem gf_X2_122 {b : Nat} (F : CallFix p m c cc nL s args TBL RX2) (G : AK g s) (hS : WS g σ τ s H locs) (hb : (ar b).1 = 11) (hdg : decode cc pc = .ok (.getfield 122, 3)) (kk : W p l e R s m args below meth c H locs cells slots Q (F0 m (pc + 3) ls (.ref (gA g (b + 4)) :: rest))) : W p l e R s m args below meth c H locs cells slots Q (F0 m pc ls (.ref (gA g b) :: rest)) := x_getN F G hS (i := b) (k := 3) (N := 8) (T := TX6) (C := RX6) (ci := 6) (ar_T hb g _ _) (ar_l11 hb) rfl inX6 (by decide) (host := "MailCatch") (ts_1 _ (List.mem_of_getElem? (i := 49) rfl)) rfl rfl hdg kk
set_option maxRecDepth 20000 in
theorem gf_X2_128 {b : Nat} (F : CallFix p m c cc nL s args TBL RX2) (G : AK g s) (hS : WS g σ τ s H locs) (hb : (ar b).1 = 11) (hdg : decode cc pc = .ok (.getfield 128, 3)) (kk : W p l e R s m args below meth c H locs cells slots Q (F0 m (pc + 3) ls (.ref (gA g (b + 5)) :: rest))) : W p l e R s m args below meth c H locs cells slots Q (F0 m pc ls (.ref (gA g b) :: rest)) := x_getN F G hS (i := b) (k := 4) (N := 8) (T := TX6) (C := RX6) (ci := 6) (ar_T hb g _ _) (ar_l11 hb) rfl inX6 (by decide) (host := "MailCatch") (ts_1 _ (List.mem_of_getElem? (i := 52) rfl)) rfl rfl hdg kk
set_option maxRecDepth 20000 in
theorem gf_X2_131 {b : Nat} (F : CallFix p m c cc nL s args TBL RX2) (G : AK g s) (hS : WS g σ τ s H locs) (hb : (ar b).1 = 11) (hdg : decode cc pc = .ok (.getfield 131, 3)) (kk : W p l e R s m args below meth c H locs cells slots Q (F0 m (pc + 3) ls (.ref (gA g (b + 6)) :: rest))) : W p l e R s m args below meth c H locs cells slots Q (F0 m pc ls (.ref (gA g b) :: rest)) := x_getN F G hS (i := b) (k := 5) (N := 8) (T := TX6) (C := RX6) (ci := 6) (ar_T hb g _ _) (ar_l11 hb) rfl inX6 (by decide) (host := "MailCatch") (ts_1 _ (List.mem_of_getElem? (i := 56) rfl)) rfl rfl hdg kk
set_option maxRecDepth 20000 in
theorem gf_X2_134 {b : Nat} (F : CallFix p m c cc nL s args TBL RX2) (G : AK g s) (hS : WS g σ τ s H locs) (hb : (ar b).1 = 11) (hdg : decode cc pc = .ok (.getfield 134, 3)) (kk : W p l e R s m args below meth c H locs cells slots Q (F0 m (pc + 3) ls (.ref (gA g (b + 7)) :: rest))) : W p l e R s m args below meth c H locs cells slots Q (F0 m pc ls (.ref (gA g b) :: rest)) := x_getN F G hS (i := b) (k := 6) (N := 8) (T := TX6) (C := RX6) (ci := 6) (ar_T hb g _ _) (ar_l11 hb) rfl inX6 (by decide) (host := "MailCatch") (ts_1 _ (List.mem_of_getElem? (i := 59) rfl)) rfl rfl hdg kk
set_option maxRecDepth 20000 in
theorem gf_X2_137 {b : Nat} (F : CallFix p m c cc nL s args TBL RX2) (G : AK g s) (hS : WS g σ τ s H locs) (hb : (ar b).1 = 11) (hdg : decode cc pc = .ok (.getfield 137, 3)) (kk : W p l e R s m args below meth c H locs cells slots Q (F0 m (pc + 3) ls (.ref (gA g (b + 8)) :: rest))) : W p l e R s m args below meth c H locs cells slots Q (F0 m pc ls (.ref (gA g b) :: rest)) := x_getN F G hS (i := b) (k := 7) (N := 8) (T := TX6) (C := RX6) (ci := 6) (ar_T hb g _ _) (ar_l11 hb) rfl inX6 (by decide) (host := "MailCatch") (ts_1 _ (List.mem_of_getElem? (i := 62) rfl)) rfl rfl hdg kk
set_option maxRecDepth 20000 in
theorem gf_X2_149 (F : CallFix p m c cc nL s args TBL RX2) (G : AK g s) (hS : WS g σ τ s H locs) (hdg : decode cc pc = .ok (.getfield 149, 3)) (kk : W p l e R s m args below meth c H locs cells slots Q (F0 m (pc + 3) ls (.int (σ 37 4) :: rest))) : W p l e R s m args below meth c H locs cells slots Q (F0 m pc ls (.ref (gA g 37) :: rest)) := x_getN F G hS (i := 37) (k := 4) (N := 5) (T := TX5) (C := RX5) (ci := 5) (eo_X5 g _ _) (by decide) rfl inX5 (by decide) (host := "MailCatch") (ts_1 _ (List.mem_of_getElem? (i := 103) rfl)) rfl rfl hdg kk
set_option maxRecDepth 20000 in
theorem gf_X3_9 (F : CallFix p m c cc nL s args TBL RX3) (G : AK g s) (hS : WS g σ τ s H locs) (hdg : decode cc pc = .ok (.getfield 9, 3)) (kk : W p l e R s m args below meth c H locs cells slots Q (F0 m (pc + 3) ls (.ref (gA g 52) :: rest))) : W p l e R s m args below meth c H locs cells slots Q (F0 m pc ls (.ref (gA g 51) :: rest)) := x_get F G hS (i := 51) (k := 0) (N := 3) (T := TX3) (C := RX3) (ci := 3) (eo_X3 g _ _) (by decide) rfl inX3 (by decide) tb_317 rfl rfl hdg kk
set_option maxRecDepth 20000 in
theorem gf_X3_15 (F : CallFix p m c cc nL s args TBL RX3) (G : AK g s) (hS : WS g σ τ s H locs) (hdg : decode cc pc = .ok (.getfield 15, 3)) (kk : W p l e R s m args below meth c H locs cells slots Q (F0 m (pc + 3) ls (.ref (gA g 53) :: rest))) : W p l e R s m args below meth c H locs cells slots Q (F0 m pc ls (.ref (gA g 51) :: rest)) := x_get F G hS (i := 51) (k := 1) (N := 3) (T := TX3) (C := RX3) (ci := 3) (eo_X3 g _ _) (by decide) rfl inX3 (by decide) tb_318 rfl rfl hdg kk
set_option maxRecDepth 20000 in
theorem gf_X3_18 (F : CallFix p m c cc nL s args TBL RX3) (G : AK g s) (hS : WS g σ τ s H locs) (hdg : decode cc pc = .ok (.getfield 18, 3)) (kk : W p l e R s m args below meth c H locs cells slots Q (F0 m (pc + 3) ls (.int (σ 51 2) :: rest))) : W p l e R s m args below meth c H locs cells slots Q (F0 m pc ls (.ref (gA g 51) :: rest)) := x_get F G hS (i := 51) (k := 2) (N := 3) (T := TX3) (C := RX3) (ci := 3) (eo_X3 g _ _) (by decide) rfl inX3 (by decide) tb_319 rfl rfl hdg kk
set_option maxRecDepth 20000 in
theorem pf_X3_18 (F : CallFix p m c cc nL s args TBL RX3) (G : AK g s) (hS : WS g σ τ s H locs) {x : Int32} (hdg : decode cc pc = .ok (.putfield 18, 3)) (kk : ∀ (H : Heap) (locs : List Loc), WS g (va_up σ 51 (upd (σ 51) 2 x)) τ s H locs → W p l e R s m args below meth c H locs cells slots Q (F0 m (pc + 3) ls rest)) : W p l e R s m args below meth c H locs cells slots Q (F0 m pc ls (.int x :: .ref (gA g 51) :: rest)) := x_put F G hS (i := 51) (k := 2) (N := 3) (T := TX3) (C := RX3) (ci := 3) (eo_X3 g _ _) (by decide) rfl inX3 tyX3 tyX3_ok nmX3 (by decide) tb_319 rfl rfl rfl (Nat.le_of_ble_eq_true rfl) rfl hdg kk
set_option maxRecDepth 20000 in
theorem gf_X4_9 (F : CallFix p m c cc nL s args TBL RX4) (G : AK g s) (hS : WS g σ τ s H locs) (hdg : decode cc pc = .ok (.getfield 9, 3)) (kk : W p l e R s m args below meth c H locs cells slots Q (F0 m (pc + 3) ls (.ref (gA g 55) :: rest))) : W p l e R s m args below meth c H locs cells slots Q (F0 m pc ls (.ref (gA g 54) :: rest)) := x_get F G hS (i := 54) (k := 0) (N := 4) (T := TX4) (C := RX4) (ci := 4) (eo_X4 g _ _) (by decide) rfl inX4 (by decide) tb_334 rfl rfl hdg kk
set_option maxRecDepth 20000 in
theorem gf_X4_15 (F : CallFix p m c cc nL s args TBL RX4) (G : AK g s) (hS : WS g σ τ s H locs) (hdg : decode cc pc = .ok (.getfield 15, 3)) (kk : W p l e R s m args below meth c H locs cells slots Q (F0 m (pc + 3) ls (.ref (gA g 56) :: rest))) : W p l e R s m args below meth c H locs cells slots Q (F0 m pc ls (.ref (gA g 54) :: rest)) := x_get F G hS (i := 54) (k := 1) (N := 4) (T := TX4) (C := RX4) (ci := 4) (eo_X4 g _ _) (by decide) rfl inX4 (by decide) tb_335 rfl rfl hdg kk
set_option maxRecDepth 20000 in
theorem gf_X4_18 (F : CallFix p m c cc nL s args TBL RX4) (G : AK g s) (hS : WS g σ τ s H locs) (hdg : decode cc pc = .ok (.getfield 18, 3)) (kk : W p l e R s m args below meth c H locs cells slots Q (F0 m (pc + 3) ls (.ref (gA g 57) :: rest))) : W p l e R s m args below meth c H locs cells slots Q (F0 m pc ls (.ref (gA g 54) :: rest)) := x_get F G hS (i := 54) (k := 2) (N := 4) (T := TX4) (C := RX4) (ci := 4) (eo_X4 g _ _) (by decide) rfl inX4 (by decide) tb_336 rfl rfl hdg kk
set_option maxRecDepth 20000 in
theorem gf_X4_21 (F : CallFix p m c cc nL s args TBL RX4) (G : AK g s) (hS : WS g σ τ s H locs) (hdg : decode cc pc = .ok (.getfield 21, 3)) (kk : W p l e R s m args below meth c H locs cells slots Q (F0 m (pc + 3) ls (.ref (gA g 58) :: rest))) : W p l e R s m args below meth c H locs cells slots Q (F0 m pc ls (.ref (gA g 54) :: rest)) := x_get F G hS (i := 54) (k := 3) (N := 4) (T := TX4) (C := RX4) (ci := 4) (eo_X4 g _ _) (by decide) rfl inX4 (by decide) tb_337 rfl rfl hdg kk
set_option maxRecDepth 20000 in
theorem gf_X5_9 (F : CallFix p m c cc nL s args TBL RX5) (G : AK g s) (hS : WS g σ τ s H locs) (hdg : decode cc pc = .ok (.getfield 9, 3)) (kk : W p l e R s m args below meth c H locs cells slots Q (F0 m (pc + 3) ls (.ref (gA g 38) :: rest))) : W p l e R s m args below meth c H locs cells slots Q (F0 m pc ls (.ref (gA g 37) :: rest)) := x_get F G hS (i := 37) (k := 0) (N := 5) (T := TX5) (C := RX5) (ci := 5) (eo_X5 g _ _) (by decide) rfl inX5 (by decide) tb_202 rfl rfl hdg kk
set_option maxRecDepth 20000 in
theorem gf_X5_15 (F : CallFix p m c cc nL s args TBL RX5) (G : AK g s) (hS : WS g σ τ s H locs) (hdg : decode cc pc = .ok (.getfield 15, 3)) (kk : W p l e R s m args below meth c H locs cells slots Q (F0 m (pc + 3) ls (.int (σ 37 1) :: rest))) : W p l e R s m args below meth c H locs cells slots Q (F0 m pc ls (.ref (gA g 37) :: rest)) := x_get F G hS (i := 37) (k := 1) (N := 5) (T := TX5) (C := RX5) (ci := 5) (eo_X5 g _ _) (by decide) rfl inX5 (by decide) tb_203 rfl rfl hdg kk
set_option maxRecDepth 20000 in
theorem pf_X5_15 (F : CallFix p m c cc nL s args TBL RX5) (G : AK g s) (hS : WS g σ τ s H locs) {x : Int32} (hdg : decode cc pc = .ok (.putfield 15, 3)) (kk : ∀ (H : Heap) (locs : List Loc), WS g (va_up σ 37 (upd (σ 37) 1 x)) τ s H locs → W p l e R s m args below meth c H locs cells slots Q (F0 m (pc + 3) ls rest)) : W p l e R s m args below meth c H locs cells slots Q (F0 m pc ls (.int x :: .ref (gA g 37) :: rest)) := x_put F G hS (i := 37) (k := 1) (N := 5) (T := TX5) (C := RX5) (ci := 5) (eo_X5 g _ _) (by decide) rfl inX5 tyX5 tyX5_ok nmX5 (by decide) tb_203 rfl rfl rfl (Nat.le_of_ble_eq_true rfl) rfl hdg kk
set_option maxRecDepth 20000 in
theorem gf_X5_19 (F : CallFix p m c cc nL s args TBL RX5) (G : AK g s) (hS : WS g σ τ s H locs) (hdg : decode cc pc = .ok (.getfield 19, 3)) (kk : W p l e R s m args below meth c H locs cells slots Q (F0 m (pc + 3) ls (.int (σ 37 2) :: rest))) : W p l e R s m args below meth c H locs cells slots Q (F0 m pc ls (.ref (gA g 37) :: rest)) := x_get F G hS (i := 37) (k := 2) (N := 5) (T := TX5) (C := RX5) (ci := 5) (eo_X5 g _ _) (by decide) rfl inX5 (by decide) tb_207 rfl rfl hdg kk
set_option maxRecDepth 20000 in
theorem pf_X5_19 (F : CallFix p m c cc nL s args TBL RX5) (G : AK g s) (hS : WS g σ τ s H locs) {x : Int32} (hdg : decode cc pc = .ok (.putfield 19, 3)) (kk : ∀ (H : Heap) (locs : List Loc), WS g (va_up σ 37 (upd (σ 37) 2 x)) τ s H locs → W p l e R s m args below meth c H locs cells slots Q (F0 m (pc + 3) ls rest)) : W p l e R s m args below meth c H locs cells slots Q (F0 m pc ls (.int x :: .ref (gA g 37) :: rest)) := x_put F G hS (i := 37) (k := 2) (N := 5) (T := TX5) (C := RX5) (ci := 5) (eo_X5 g _ _) (by decide) rfl inX5 tyX5 tyX5_ok nmX5 (by decide) tb_207 rfl rfl rfl (Nat.le_of_ble_eq_true rfl) rfl hdg kk
set_option maxRecDepth 20000 in
theorem gf_X5_26 (F : CallFix p m c cc nL s args TBL RX5) (G : AK g s) (hS : WS g σ τ s H locs) (hdg : decode cc pc = .ok (.getfield 26, 3)) (kk : W p l e R s m args below meth c H locs cells slots Q (F0 m (pc + 3) ls (.int (σ 37 4) :: rest))) : W p l e R s m args below meth c H locs cells slots Q (F0 m pc ls (.ref (gA g 37) :: rest)) := x_get F G hS (i := 37) (k := 4) (N := 5) (T := TX5) (C := RX5) (ci := 5) (eo_X5 g _ _) (by decide) rfl inX5 (by decide) tb_210 rfl rfl hdg kk
set_option maxRecDepth 20000 in
theorem pf_X5_26 (F : CallFix p m c cc nL s args TBL RX5) (G : AK g s) (hS : WS g σ τ s H locs) {x : Int32} (hdg : decode cc pc = .ok (.putfield 26, 3)) (kk : ∀ (H : Heap) (locs : List Loc), WS g (va_up σ 37 (upd (σ 37) 4 x)) τ s H locs → W p l e R s m args below meth c H locs cells slots Q (F0 m (pc + 3) ls rest)) : W p l e R s m args below meth c H locs cells slots Q (F0 m pc ls (.int x :: .ref (gA g 37) :: rest)) := x_put F G hS (i := 37) (k := 4) (N := 5) (T := TX5) (C := RX5) (ci := 5) (eo_X5 g _ _) (by decide) rfl inX5 tyX5 tyX5_ok nmX5 (by decide) tb_210 rfl rfl rfl (Nat.le_of_ble_eq_true rfl) rfl hdg kk
set_option maxRecDepth 20000 in
theorem gf_X5_32 (F : CallFix p m c cc nL s args TBL RX5) (G : AK g s) (hS : WS g σ τ s H locs) (hdg : decode cc pc = .ok (.getfield 32, 3)) (kk : W p l e R s m args below meth c H locs cells slots Q (F0 m (pc + 3) ls (.int (σ 37 3) :: rest))) : W p l e R s m args below meth c H locs cells slots Q (F0 m pc ls (.ref (gA g 37) :: rest)) := x_get F G hS (i := 37) (k := 3) (N := 5) (T := TX5) (C := RX5) (ci := 5) (eo_X5 g _ _) (by decide) rfl inX5 (by decide) tb_209 rfl rfl hdg kk
set_option maxRecDepth 20000 in
theorem pf_X5_32 (F : CallFix p m c cc nL s args TBL RX5) (G : AK g s) (hS : WS g σ τ s H locs) {x : Int32} (hdg : decode cc pc = .ok (.putfield 32, 3)) (kk : ∀ (H : Heap) (locs : List Loc), WS g (va_up σ 37 (upd (σ 37) 3 x)) τ s H locs → W p l e R s m args below meth c H locs cells slots Q (F0 m (pc + 3) ls rest)) : W p l e R s m args below meth c H locs cells slots Q (F0 m pc ls (.int x :: .ref (gA g 37) :: rest)) := x_put F G hS (i := 37) (k := 3) (N := 5) (T := TX5) (C := RX5) (ci := 5) (eo_X5 g _ _) (by decide) rfl inX5 tyX5 tyX5_ok nmX5 (by decide) tb_209 rfl rfl rfl (Nat.le_of_ble_eq_true rfl) rfl hdg kk
set_option maxRecDepth 20000 in
theorem gf_X6_9 {b : Nat} (F : CallFix p m c cc nL s args TBL RX6) (G : AK g s) (hS : WS g σ τ s H locs) (hb : (ar b).1 = 11) (hdg : decode cc pc = .ok (.getfield 9, 3)) (kk : W p l e R s m args below meth c H locs cells slots Q (F0 m (pc + 3) ls (.ref (gA g (b + 1)) :: rest))) : W p l e R s m args below meth c H locs cells slots Q (F0 m pc ls (.ref (gA g b) :: rest)) := x_get F G hS (i := b) (k := 0) (N := 8) (T := TX6) (C := RX6) (ci := 6) (ar_T hb g _ _) (ar_l11 hb) rfl inX6 (by decide) tb_149 rfl rfl hdg kk
set_option maxRecDepth 20000 in
theorem gf_X6_15 {b : Nat} (F : CallFix p m c cc nL s args TBL RX6) (G : AK g s) (hS : WS g σ τ s H locs) (hb : (ar b).1 = 11) (hdg : decode cc pc = .ok (.getfield 15, 3)) (kk : W p l e R s m args below meth c H locs cells slots Q (F0 m (pc + 3) ls (.ref (gA g (b + 2)) :: rest))) : W p l e R s m args below meth c H locs cells slots Q (F0 m pc ls (.ref (gA g b) :: rest)) := x_get F G hS (i := b) (k := 1) (N := 8) (T := TX6) (C := RX6) (ci := 6) (ar_T hb g _ _) (ar_l11 hb) rfl inX6 (by decide) tb_150 rfl rfl hdg kk
set_option maxRecDepth 20000 in
theorem gf_X6_18 {b : Nat} (F : CallFix p m c cc nL s args TBL RX6) (G : AK g s) (hS : WS g σ τ s H locs) (hb : (ar b).1 = 11) (hdg : decode cc pc = .ok (.getfield 18, 3)) (kk : W p l e R s m args below meth c H locs cells slots Q (F0 m (pc + 3) ls (.ref (gA g (b + 3)) :: rest))) : W p l e R s m args below meth c H locs cells slots Q (F0 m pc ls (.ref (gA g b) :: rest)) := x_get F G hS (i := b) (k := 2) (N := 8) (T := TX6) (C := RX6) (ci := 6) (ar_T hb g _ _) (ar_l11 hb) rfl inX6 (by decide) tb_153 rfl rfl hdg kk
set_option maxRecDepth 20000 in
theorem gf_X6_21 {b : Nat} (F : CallFix p m c cc nL s args TBL RX6) (G : AK g s) (hS : WS g σ τ s H locs) (hb : (ar b).1 = 11) (hdg : decode cc pc = .ok (.getfield 21, 3)) (kk : W p l e R s m args below meth c H locs cells slots Q (F0 m (pc + 3) ls (.ref (gA g (b + 4)) :: rest))) : W p l e R s m args below meth c H locs cells slots Q (F0 m pc ls (.ref (gA g b) :: rest)) := x_get F G hS (i := b) (k := 3) (N := 8) (T := TX6) (C := RX6) (ci := 6) (ar_T hb g _ _) (ar_l11 hb) rfl inX6 (by decide) tb_156 rfl rfl hdg kk
set_option maxRecDepth 20000 in
theorem gf_X6_24 {b : Nat} (F : CallFix p m c cc nL s args TBL RX6) (G : AK g s) (hS : WS g σ τ s H locs) (hb : (ar b).1 = 11) (hdg : decode cc pc = .ok (.getfield 24, 3)) (kk : W p l e R s m args below meth c H locs cells slots Q (F0 m (pc + 3) ls (.ref (gA g (b + 5)) :: rest))) : W p l e R s m args below meth c H locs cells slots Q (F0 m pc ls (.ref (gA g b) :: rest)) := x_get F G hS (i := b) (k := 4) (N := 8) (T := TX6) (C := RX6) (ci := 6) (ar_T hb g _ _) (ar_l11 hb) rfl inX6 (by decide) tb_159 rfl rfl hdg kk
set_option maxRecDepth 20000 in
theorem gf_X6_27 {b : Nat} (F : CallFix p m c cc nL s args TBL RX6) (G : AK g s) (hS : WS g σ τ s H locs) (hb : (ar b).1 = 11) (hdg : decode cc pc = .ok (.getfield 27, 3)) (kk : W p l e R s m args below meth c H locs cells slots Q (F0 m (pc + 3) ls (.ref (gA g (b + 6)) :: rest))) : W p l e R s m args below meth c H locs cells slots Q (F0 m pc ls (.ref (gA g b) :: rest)) := x_get F G hS (i := b) (k := 5) (N := 8) (T := TX6) (C := RX6) (ci := 6) (ar_T hb g _ _) (ar_l11 hb) rfl inX6 (by decide) tb_162 rfl rfl hdg kk
set_option maxRecDepth 20000 in
theorem gf_X6_30 {b : Nat} (F : CallFix p m c cc nL s args TBL RX6) (G : AK g s) (hS : WS g σ τ s H locs) (hb : (ar b).1 = 11) (hdg : decode cc pc = .ok (.getfield 30, 3)) (kk : W p l e R s m args below meth c H locs cells slots Q (F0 m (pc + 3) ls (.ref (gA g (b + 7)) :: rest))) : W p l e R s m args below meth c H locs cells slots Q (F0 m pc ls (.ref (gA g b) :: rest)) := x_get F G hS (i := b) (k := 6) (N := 8) (T := TX6) (C := RX6) (ci := 6) (ar_T hb g _ _) (ar_l11 hb) rfl inX6 (by decide) tb_166 rfl rfl hdg kk
set_option maxRecDepth 20000 in
theorem gf_X6_33 {b : Nat} (F : CallFix p m c cc nL s args TBL RX6) (G : AK g s) (hS : WS g σ τ s H locs) (hb : (ar b).1 = 11) (hdg : decode cc pc = .ok (.getfield 33, 3)) (kk : W p l e R s m args below meth c H locs cells slots Q (F0 m (pc + 3) ls (.ref (gA g (b + 8)) :: rest))) : W p l e R s m args below meth c H locs cells slots Q (F0 m pc ls (.ref (gA g b) :: rest)) := x_get F G hS (i := b) (k := 7) (N := 8) (T := TX6) (C := RX6) (ci := 6) (ar_T hb g _ _) (ar_l11 hb) rfl inX6 (by decide) tb_169 rfl rfl hdg kk
set_option maxRecDepth 20000 in
theorem gs_X6_39 (F : CallFix p m c cc nL s args TBL RX6) (G : AK g s) (hS : WS g σ τ s H locs) (hdg : decode cc pc = .ok (.getstatic 39, 3)) (kk : W p l e R s m args below meth c H locs cells slots Q (F0 m (pc + 3) ls (.ref (gA g 100) :: rest))) : W p l e R s m args below meth c H locs cells slots Q (F0 m pc ls rest) := x_getsN F G hS 100 (by decide) (host := "MailCatch") (ts_1 _ (List.mem_of_getElem? (i := 36) rfl)) hdg kk
set_option maxRecDepth 20000 in
theorem gf_X7_10 (F : CallFix p m c cc nL s args TBL RX7) (G : AK g s) (hS : WS g σ τ s H locs) (hdg : decode cc pc = .ok (.getfield 10, 3)) (kk : W p l e R s m args below meth c H locs cells slots Q (F0 m (pc + 3) ls (.ref (gA g 1) :: rest))) : W p l e R s m args below meth c H locs cells slots Q (F0 m pc ls (.ref (gA g 0) :: rest)) := x_get F G hS (i := 0) (k := 0) (N := 13) (T := TX7) (C := RX7) (ci := 7) (eo_X7 g _ _) (by decide) rfl inX7 (by decide) tb_347 rfl rfl hdg kk
set_option maxRecDepth 20000 in
theorem gf_X7_16 (F : CallFix p m c cc nL s args TBL RX7) (G : AK g s) (hS : WS g σ τ s H locs) (hdg : decode cc pc = .ok (.getfield 16, 3)) (kk : W p l e R s m args below meth c H locs cells slots Q (F0 m (pc + 3) ls (.ref (gA g 10) :: rest))) : W p l e R s m args below meth c H locs cells slots Q (F0 m pc ls (.ref (gA g 0) :: rest)) := x_get F G hS (i := 0) (k := 1) (N := 13) (T := TX7) (C := RX7) (ci := 7) (eo_X7 g _ _) (by decide) rfl inX7 (by decide) tb_348 rfl rfl hdg kk
set_option maxRecDepth 20000 in
theorem gf_X7_19 (F : CallFix p m c cc nL s args TBL RX7) (G : AK g s) (hS : WS g σ τ s H locs) (hdg : decode cc pc = .ok (.getfield 19, 3)) (kk : W p l e R s m args below meth c H locs cells slots Q (F0 m (pc + 3) ls (.ref (gA g 19) :: rest))) : W p l e R s m args below meth c H locs cells slots Q (F0 m pc ls (.ref (gA g 0) :: rest)) := x_get F G hS (i := 0) (k := 2) (N := 13) (T := TX7) (C := RX7) (ci := 7) (eo_X7 g _ _) (by decide) rfl inX7 (by decide) tb_349 rfl rfl hdg kk
set_option maxRecDepth 20000 in
theorem gf_X7_25 (F : CallFix p m c cc nL s args TBL RX7) (G : AK g s) (hS : WS g σ τ s H locs) (hdg : decode cc pc = .ok (.getfield 25, 3)) (kk : W p l e R s m args below meth c H locs cells slots Q (F0 m (pc + 3) ls (.ref (gA g 39) :: rest))) : W p l e R s m args below meth c H locs cells slots Q (F0 m pc ls (.ref (gA g 0) :: rest)) := x_get F G hS (i := 0) (k := 4) (N := 13) (T := TX7) (C := RX7) (ci := 7) (eo_X7 g _ _) (by decide) rfl inX7 (by decide) tb_351 rfl rfl hdg kk
set_option maxRecDepth 20000 in
theorem gf_X7_33 (F : CallFix p m c cc nL s args TBL RX7) (G : AK g s) (hS : WS g σ τ s H locs) (hdg : decode cc pc = .ok (.getfield 33, 3)) (kk : W p l e R s m args below meth c H locs cells slots Q (F0 m (pc + 3) ls (.ref (gA g 37) :: rest))) : W p l e R s m args below meth c H locs cells slots Q (F0 m pc ls (.ref (gA g 0) :: rest)) := x_get F G hS (i := 0) (k := 5) (N := 13) (T := TX7) (C := RX7) (ci := 7) (eo_X7 g _ _) (by decide) rfl inX7 (by decide) tb_352 rfl rfl hdg kk
set_option maxRecDepth 20000 in
theorem gf_X7_39 (F : CallFix p m c cc nL s args TBL RX7) (G : AK g s) (hS : WS g σ τ s H locs) (hdg : decode cc pc = .ok (.getfield 39, 3)) (kk : W p l e R s m args below meth c H locs cells slots Q (F0 m (pc + 3) ls (.ref (gA g 40) :: rest))) : W p l e R s m args below meth c H locs cells slots Q (F0 m pc ls (.ref (gA g 0) :: rest)) := x_get F G hS (i := 0) (k := 7) (N := 13) (T := TX7) (C := RX7) (ci := 7) (eo_X7 g _ _) (by decide) rfl inX7 (by decide) tb_354 rfl rfl hdg kk
set_option maxRecDepth 20000 in
theorem gf_X7_46 (F : CallFix p m c cc nL s args TBL RX7) (G : AK g s) (hS : WS g σ τ s H locs) (hdg : decode cc pc = .ok (.getfield 46, 3)) (kk : W p l e R s m args below meth c H locs cells slots Q (F0 m (pc + 3) ls (.ref (gA g 41) :: rest))) : W p l e R s m args below meth c H locs cells slots Q (F0 m pc ls (.ref (gA g 0) :: rest)) := x_get F G hS (i := 0) (k := 8) (N := 13) (T := TX7) (C := RX7) (ci := 7) (eo_X7 g _ _) (by decide) rfl inX7 (by decide) tb_355 rfl rfl hdg kk
set_option maxRecDepth 20000 in
theorem gf_X7_53 (F : CallFix p m c cc nL s args TBL RX7) (G : AK g s) (hS : WS g σ τ s H locs) (hdg : decode cc pc = .ok (.getfield 53, 3)) (kk : W p l e R s m args below meth c H locs cells slots Q (F0 m (pc + 3) ls (.ref (gA g 51) :: rest))) : W p l e R s m args below meth c H locs cells slots Q (F0 m pc ls (.ref (gA g 0) :: rest)) := x_get F G hS (i := 0) (k := 9) (N := 13) (T := TX7) (C := RX7) (ci := 7) (eo_X7 g _ _) (by decide) rfl inX7 (by decide) tb_356 rfl rfl hdg kk
set_option maxRecDepth 20000 in
theorem gf_X7_60 (F : CallFix p m c cc nL s args TBL RX7) (G : AK g s) (hS : WS g σ τ s H locs) (hdg : decode cc pc = .ok (.getfield 60, 3)) (kk : W p l e R s m args below meth c H locs cells slots Q (F0 m (pc + 3) ls (.ref (gA g 54) :: rest))) : W p l e R s m args below meth c H locs cells slots Q (F0 m pc ls (.ref (gA g 0) :: rest)) := x_get F G hS (i := 0) (k := 10) (N := 13) (T := TX7) (C := RX7) (ci := 7) (eo_X7 g _ _) (by decide) rfl inX7 (by decide) tb_357 rfl rfl hdg kk
set_option maxRecDepth 20000 in
theorem gf_X7_64 (F : CallFix p m c cc nL s args TBL RX7) (G : AK g s) (hS : WS g σ τ s H locs) (hdg : decode cc pc = .ok (.getfield 64, 3)) (kk : W p l e R s m args below meth c H locs cells slots Q (F0 m (pc + 3) ls (.ref (gA g 59) :: rest))) : W p l e R s m args below meth c H locs cells slots Q (F0 m pc ls (.ref (gA g 0) :: rest)) := x_get F G hS (i := 0) (k := 11) (N := 13) (T := TX7) (C := RX7) (ci := 7) (eo_X7 g _ _) (by decide) rfl inX7 (by decide) tb_358 rfl rfl hdg kk
set_option maxRecDepth 20000 in
theorem gf_X7_74 (F : CallFix p m c cc nL s args TBL RX7) (G : AK g s) (hS : WS g σ τ s H locs) (hdg : decode cc pc = .ok (.getfield 74, 3)) (kk : W p l e R s m args below meth c H locs cells slots Q (F0 m (pc + 3) ls (.int (σ 37 1) :: rest))) : W p l e R s m args below meth c H locs cells slots Q (F0 m pc ls (.ref (gA g 37) :: rest)) := x_getN F G hS (i := 37) (k := 1) (N := 5) (T := TX5) (C := RX5) (ci := 5) (eo_X5 g _ _) (by decide) rfl inX5 (by decide) (host := "MailCatch") (ts_1 _ (List.mem_of_getElem? (i := 96) rfl)) rfl rfl hdg kk
set_option maxRecDepth 20000 in
theorem pf_X7_74 (F : CallFix p m c cc nL s args TBL RX7) (G : AK g s) (hS : WS g σ τ s H locs) {x : Int32} (hdg : decode cc pc = .ok (.putfield 74, 3)) (kk : ∀ (H : Heap) (locs : List Loc), WS g (va_up σ 37 (upd (σ 37) 1 x)) τ s H locs → W p l e R s m args below meth c H locs cells slots Q (F0 m (pc + 3) ls rest)) : W p l e R s m args below meth c H locs cells slots Q (F0 m pc ls (.int x :: .ref (gA g 37) :: rest)) := x_putN F G hS (i := 37) (k := 1) (N := 5) (T := TX5) (C := RX5) (ci := 5) (eo_X5 g _ _) (by decide) rfl inX5 tyX5 tyX5_ok nmX5 (by decide) (host := "MailCatch") (ts_1 _ (List.mem_of_getElem? (i := 96) rfl)) rfl rfl rfl (Nat.le_of_ble_eq_true rfl) rfl hdg kk
set_option maxRecDepth 20000 in
theorem gf_X7_88 (F : CallFix p m c cc nL s args TBL RX7) (G : AK g s) (hS : WS g σ τ s H locs) (hdg : decode cc pc = .ok (.getfield 88, 3)) (kk : W p l e R s m args below meth c H locs cells slots Q (F0 m (pc + 3) ls (.int (σ 39 3) :: rest))) : W p l e R s m args below meth c H locs cells slots Q (F0 m pc ls (.ref (gA g 39) :: rest)) := x_getN F G hS (i := 39) (k := 3) (N := 5) (T := TX2) (C := RX2) (ci := 2) (eo_X2 g _ _) (by decide) rfl inX2 (by decide) (host := "MailCatch") (ts_1 _ (List.mem_of_getElem? (i := 124) rfl)) rfl rfl hdg kk
set_option maxRecDepth 20000 in
theorem gf_X7_91 (F : CallFix p m c cc nL s args TBL RX7) (G : AK g s) (hS : WS g σ τ s H locs) (hdg : decode cc pc = .ok (.getfield 91, 3)) (kk : W p l e R s m args below meth c H locs cells slots Q (F0 m (pc + 3) ls (.int (σ 0 6) :: rest))) : W p l e R s m args below meth c H locs cells slots Q (F0 m pc ls (.ref (gA g 0) :: rest)) := x_get F G hS (i := 0) (k := 6) (N := 13) (T := TX7) (C := RX7) (ci := 7) (eo_X7 g _ _) (by decide) rfl inX7 (by decide) tb_353 rfl rfl hdg kk
set_option maxRecDepth 20000 in
theorem pf_X7_91 (F : CallFix p m c cc nL s args TBL RX7) (G : AK g s) (hS : WS g σ τ s H locs) {x : Int32} (hdg : decode cc pc = .ok (.putfield 91, 3)) (kk : ∀ (H : Heap) (locs : List Loc), WS g (va_up σ 0 (upd (σ 0) 6 x)) τ s H locs → W p l e R s m args below meth c H locs cells slots Q (F0 m (pc + 3) ls rest)) : W p l e R s m args below meth c H locs cells slots Q (F0 m pc ls (.int x :: .ref (gA g 0) :: rest)) := x_put F G hS (i := 0) (k := 6) (N := 13) (T := TX7) (C := RX7) (ci := 7) (eo_X7 g _ _) (by decide) rfl inX7 tyX7 tyX7_ok nmX7 (by decide) tb_353 rfl rfl rfl (Nat.le_of_ble_eq_true rfl) rfl hdg kk
set_option maxRecDepth 20000 in
theorem gf_X7_94 (F : CallFix p m c cc nL s args TBL RX7) (G : AK g s) (hS : WS g σ τ s H locs) (hdg : decode cc pc = .ok (.getfield 94, 3)) (kk : W p l e R s m args below meth c H locs cells slots Q (F0 m (pc + 3) ls (.int (σ 39 4) :: rest))) : W p l e R s m args below meth c H locs cells slots Q (F0 m pc ls (.ref (gA g 39) :: rest)) := x_getN F G hS (i := 39) (k := 4) (N := 5) (T := TX2) (C := RX2) (ci := 2) (eo_X2 g _ _) (by decide) rfl inX2 (by decide) (host := "MailCatch") (ts_1 _ (List.mem_of_getElem? (i := 126) rfl)) rfl rfl hdg kk
set_option maxRecDepth 20000 in
theorem gf_X7_97 (F : CallFix p m c cc nL s args TBL RX7) (G : AK g s) (hS : WS g σ τ s H locs) (hdg : decode cc pc = .ok (.getfield 97, 3)) (kk : W p l e R s m args below meth c H locs cells slots Q (F0 m (pc + 3) ls (.ref (gA g 28) :: rest))) : W p l e R s m args below meth c H locs cells slots Q (F0 m pc ls (.ref (gA g 39) :: rest)) := x_getN F G hS (i := 39) (k := 1) (N := 5) (T := TX2) (C := RX2) (ci := 2) (eo_X2 g _ _) (by decide) rfl inX2 (by decide) (host := "MailCatch") (ts_1 _ (List.mem_of_getElem? (i := 121) rfl)) rfl rfl hdg kk
set_option maxRecDepth 20000 in
theorem gf_X7_104 (F : CallFix p m c cc nL s args TBL RX7) (G : AK g s) (hS : WS g σ τ s H locs) (hdg : decode cc pc = .ok (.getfield 104, 3)) (kk : W p l e R s m args below meth c H locs cells slots Q (F0 m (pc + 3) ls (.int (σ 51 2) :: rest))) : W p l e R s m args below meth c H locs cells slots Q (F0 m pc ls (.ref (gA g 51) :: rest)) := x_getN F G hS (i := 51) (k := 2) (N := 3) (T := TX3) (C := RX3) (ci := 3) (eo_X3 g _ _) (by decide) rfl inX3 (by decide) (host := "MailCatch") (ts_1 _ (List.mem_of_getElem? (i := 212) rfl)) rfl rfl hdg kk
set_option maxRecDepth 20000 in
theorem pf_X7_104 (F : CallFix p m c cc nL s args TBL RX7) (G : AK g s) (hS : WS g σ τ s H locs) {x : Int32} (hdg : decode cc pc = .ok (.putfield 104, 3)) (kk : ∀ (H : Heap) (locs : List Loc), WS g (va_up σ 51 (upd (σ 51) 2 x)) τ s H locs → W p l e R s m args below meth c H locs cells slots Q (F0 m (pc + 3) ls rest)) : W p l e R s m args below meth c H locs cells slots Q (F0 m pc ls (.int x :: .ref (gA g 51) :: rest)) := x_putN F G hS (i := 51) (k := 2) (N := 3) (T := TX3) (C := RX3) (ci := 3) (eo_X3 g _ _) (by decide) rfl inX3 tyX3 tyX3_ok nmX3 (by decide) (host := "MailCatch") (ts_1 _ (List.mem_of_getElem? (i := 212) rfl)) rfl rfl rfl (Nat.le_of_ble_eq_true rfl) rfl hdg kk
set_option maxRecDepth 20000 in
theorem gf_X7_107 (F : CallFix p m c cc nL s args TBL RX7) (G : AK g s) (hS : WS g σ τ s H locs) (hdg : decode cc pc = .ok (.getfield 107, 3)) (kk : W p l e R s m args below meth c H locs cells slots Q (F0 m (pc + 3) ls (.int (σ 0 3) :: rest))) : W p l e R s m args below meth c H locs cells slots Q (F0 m pc ls (.ref (gA g 0) :: rest)) := x_get F G hS (i := 0) (k := 3) (N := 13) (T := TX7) (C := RX7) (ci := 7) (eo_X7 g _ _) (by decide) rfl inX7 (by decide) tb_350 rfl rfl hdg kk
set_option maxRecDepth 20000 in
theorem pf_X7_107 (F : CallFix p m c cc nL s args TBL RX7) (G : AK g s) (hS : WS g σ τ s H locs) {x : Int32} (hdg : decode cc pc = .ok (.putfield 107, 3)) (kk : ∀ (H : Heap) (locs : List Loc), WS g (va_up σ 0 (upd (σ 0) 3 x)) τ s H locs → W p l e R s m args below meth c H locs cells slots Q (F0 m (pc + 3) ls rest)) : W p l e R s m args below meth c H locs cells slots Q (F0 m pc ls (.int x :: .ref (gA g 0) :: rest)) := x_put F G hS (i := 0) (k := 3) (N := 13) (T := TX7) (C := RX7) (ci := 7) (eo_X7 g _ _) (by decide) rfl inX7 tyX7 tyX7_ok nmX7 (by decide) tb_350 rfl rfl rfl (Nat.le_of_ble_eq_true rfl) rfl hdg kk
set_option maxRecDepth 20000 in
theorem gf_X7_117 {b : Nat} (F : CallFix p m c cc nL s args TBL RX7) (G : AK g s) (hS : WS g σ τ s H locs) (hb : (ar b).1 = 11) (hdg : decode cc pc = .ok (.getfield 117, 3)) (kk : W p l e R s m args below meth c H locs cells slots Q (F0 m (pc + 3) ls (.ref (gA g (b + 2)) :: rest))) : W p l e R s m args below meth c H locs cells slots Q (F0 m pc ls (.ref (gA g b) :: rest)) := x_getN F G hS (i := b) (k := 1) (N := 8) (T := TX6) (C := RX6) (ci := 6) (ar_T hb g _ _) (ar_l11 hb) rfl inX6 (by decide) (host := "MailCatch") (ts_1 _ (List.mem_of_getElem? (i := 44) rfl)) rfl rfl hdg kk
set_option maxRecDepth 20000 in
theorem gf_X7_124 {b : Nat} (F : CallFix p m c cc nL s args TBL RX7) (G : AK g s) (hS : WS g σ τ s H locs) (hb : (ar b).1 = 11) (hdg : decode cc pc = .ok (.getfield 124, 3)) (kk : W p l e R s m args below meth c H locs cells slots Q (F0 m (pc + 3) ls (.ref (gA g (b + 3)) :: rest))) : W p l e R s m args below meth c H locs cells slots Q (F0 m pc ls (.ref (gA g b) :: rest)) := x_getN F G hS (i := b) (k := 2) (N := 8) (T := TX6) (C := RX6) (ci := 6) (ar_T hb g _ _) (ar_l11 hb) rfl inX6 (by decide) (host := "MailCatch") (ts_1 _ (List.mem_of_getElem? (i := 47) rfl)) rfl rfl hdg kk
set_option maxRecDepth 20000 in
theorem gf_X7_127 {b : Nat} (F : CallFix p m c cc nL s args TBL RX7) (G : AK g s) (hS : WS g σ τ s H locs) (hb : (ar b).1 = 11) (hdg : decode cc pc = .ok (.getfield 127, 3)) (kk : W p l e R s m args below meth c H locs cells slots Q (F0 m (pc + 3) ls (.ref (gA g (b + 4)) :: rest))) : W p l e R s m args below meth c H locs cells slots Q (F0 m pc ls (.ref (gA g b) :: rest)) := x_getN F G hS (i := b) (k := 3) (N := 8) (T := TX6) (C := RX6) (ci := 6) (ar_T hb g _ _) (ar_l11 hb) rfl inX6 (by decide) (host := "MailCatch") (ts_1 _ (List.mem_of_getElem? (i := 50) rfl)) rfl rfl hdg kk
set_option maxRecDepth 20000 in
theorem gf_X7_140 {b : Nat} (F : CallFix p m c cc nL s args TBL RX7) (G : AK g s) (hS : WS g σ τ s H locs) (hb : (ar b).1 = 11) (hdg : decode cc pc = .ok (.getfield 140, 3)) (kk : W p l e R s m args below meth c H locs cells slots Q (F0 m (pc + 3) ls (.ref (gA g (b + 5)) :: rest))) : W p l e R s m args below meth c H locs cells slots Q (F0 m pc ls (.ref (gA g b) :: rest)) := x_getN F G hS (i := b) (k := 4) (N := 8) (T := TX6) (C := RX6) (ci := 6) (ar_T hb g _ _) (ar_l11 hb) rfl inX6 (by decide) (host := "MailCatch") (ts_1 _ (List.mem_of_getElem? (i := 53) rfl)) rfl rfl hdg kk
set_option maxRecDepth 20000 in
theorem gf_X7_143 {b : Nat} (F : CallFix p m c cc nL s args TBL RX7) (G : AK g s) (hS : WS g σ τ s H locs) (hb : (ar b).1 = 11) (hdg : decode cc pc = .ok (.getfield 143, 3)) (kk : W p l e R s m args below meth c H locs cells slots Q (F0 m (pc + 3) ls (.ref (gA g (b + 6)) :: rest))) : W p l e R s m args below meth c H locs cells slots Q (F0 m pc ls (.ref (gA g b) :: rest)) := x_getN F G hS (i := b) (k := 5) (N := 8) (T := TX6) (C := RX6) (ci := 6) (ar_T hb g _ _) (ar_l11 hb) rfl inX6 (by decide) (host := "MailCatch") (ts_1 _ (List.mem_of_getElem? (i := 57) rfl)) rfl rfl hdg kk
set_option maxRecDepth 20000 in
theorem gf_X7_149 {b : Nat} (F : CallFix p m c cc nL s args TBL RX7) (G : AK g s) (hS : WS g σ τ s H locs) (hb : (ar b).1 = 11) (hdg : decode cc pc = .ok (.getfield 149, 3)) (kk : W p l e R s m args below meth c H locs cells slots Q (F0 m (pc + 3) ls (.ref (gA g (b + 7)) :: rest))) : W p l e R s m args below meth c H locs cells slots Q (F0 m pc ls (.ref (gA g b) :: rest)) := x_getN F G hS (i := b) (k := 6) (N := 8) (T := TX6) (C := RX6) (ci := 6) (ar_T hb g _ _) (ar_l11 hb) rfl inX6 (by decide) (host := "MailCatch") (ts_1 _ (List.mem_of_getElem? (i := 60) rfl)) rfl rfl hdg kk
set_option maxRecDepth 20000 in
theorem gf_X7_152 {b : Nat} (F : CallFix p m c cc nL s args TBL RX7) (G : AK g s) (hS : WS g σ τ s H locs) (hb : (ar b).1 = 11) (hdg : decode cc pc = .ok (.getfield 152, 3)) (kk : W p l e R s m args below meth c H locs cells slots Q (F0 m (pc + 3) ls (.ref (gA g (b + 8)) :: rest))) : W p l e R s m args below meth c H locs cells slots Q (F0 m pc ls (.ref (gA g b) :: rest)) := x_getN F G hS (i := b) (k := 7) (N := 8) (T := TX6) (C := RX6) (ci := 6) (ar_T hb g _ _) (ar_l11 hb) rfl inX6 (by decide) (host := "MailCatch") (ts_1 _ (List.mem_of_getElem? (i := 63) rfl)) rfl rfl hdg kk
set_option maxRecDepth 20000 in
theorem gf_X7_218 (F : CallFix p m c cc nL s args TBL RX7) (G : AK g s) (hS : WS g σ τ s H locs) (hdg : decode cc pc = .ok (.getfield 218, 3)) (kk : W p l e R s m args below meth c H locs cells slots Q (F0 m (pc + 3) ls (.ref (gA g 49) :: rest))) : W p l e R s m args below meth c H locs cells slots Q (F0 m pc ls (.ref (gA g 41) :: rest)) := x_getN F G hS (i := 41) (k := 8) (N := 10) (T := TX0) (C := RX0) (ci := 0) (eo_X0 g _ _) (by decide) rfl inX0 (by decide) (host := "MailCatch") (ts_1 _ (List.mem_of_getElem? (i := 178) rfl)) rfl rfl hdg kk
set_option maxRecDepth 20000 in
theorem gf_X7_225 (F : CallFix p m c cc nL s args TBL RX7) (G : AK g s) (hS : WS g σ τ s H locs) (hdg : decode cc pc = .ok (.getfield 225, 3)) (kk : W p l e R s m args below meth c H locs cells slots Q (F0 m (pc + 3) ls (.ref (gA g 50) :: rest))) : W p l e R s m args below meth c H locs cells slots Q (F0 m pc ls (.ref (gA g 41) :: rest)) := x_getN F G hS (i := 41) (k := 9) (N := 10) (T := TX0) (C := RX0) (ci := 0) (eo_X0 g _ _) (by decide) rfl inX0 (by decide) (host := "MailCatch") (ts_1 _ (List.mem_of_getElem? (i := 180) rfl)) rfl rfl hdg kk
set_option maxRecDepth 20000 in
theorem gs_X7_243 (F : CallFix p m c cc nL s args TBL RX7) (G : AK g s) (hS : WS g σ τ s H locs) (hdg : decode cc pc = .ok (.getstatic 243, 3)) (kk : W p l e R s m args below meth c H locs cells slots Q (F0 m (pc + 3) ls (.ref (gA g 101) :: rest))) : W p l e R s m args below meth c H locs cells slots Q (F0 m pc ls rest) := x_gets F G hS 101 (by decide) tb_638 hdg kk
set_option maxRecDepth 20000 in
theorem gs_X7_246 (F : CallFix p m c cc nL s args TBL RX7) (G : AK g s) (hS : WS g σ τ s H locs) (hdg : decode cc pc = .ok (.getstatic 246, 3)) (kk : W p l e R s m args below meth c H locs cells slots Q (F0 m (pc + 3) ls (.ref (gA g 102) :: rest))) : W p l e R s m args below meth c H locs cells slots Q (F0 m pc ls rest) := x_gets F G hS 102 (by decide) tb_639 hdg kk
set_option maxRecDepth 20000 in
theorem gf_X7_325 (F : CallFix p m c cc nL s args TBL RX7) (G : AK g s) (hS : WS g σ τ s H locs) (hdg : decode cc pc = .ok (.getfield 325, 3)) (kk : W p l e R s m args below meth c H locs cells slots Q (F0 m (pc + 3) ls (.int (σ 0 12) :: rest))) : W p l e R s m args below meth c H locs cells slots Q (F0 m pc ls (.ref (gA g 0) :: rest)) := x_get F G hS (i := 0) (k := 12) (N := 13) (T := TX7) (C := RX7) (ci := 7) (eo_X7 g _ _) (by decide) rfl inX7 (by decide) tb_359 rfl rfl hdg kk
set_option maxRecDepth 20000 in
theorem pf_X7_325 (F : CallFix p m c cc nL s args TBL RX7) (G : AK g s) (hS : WS g σ τ s H locs) {x : Int32} (hdg : decode cc pc = .ok (.putfield 325, 3)) (kk : ∀ (H : Heap) (locs : List Loc), WS g (va_up σ 0 (upd (σ 0) 12 x)) τ s H locs → W p l e R s m args below meth c H locs cells slots Q (F0 m (pc + 3) ls rest)) : W p l e R s m args below meth c H locs cells slots Q (F0 m pc ls (.int x :: .ref (gA g 0) :: rest)) := x_put F G hS (i := 0) (k := 12) (N := 13) (T := TX7) (C := RX7) (ci := 7) (eo_X7 g _ _) (by decide) rfl inX7 tyX7 tyX7_ok nmX7 (by decide) tb_359 rfl rfl rfl (Nat.le_of_ble_eq_true rfl) rfl hdg kk
set_option maxRecDepth 20000 in
theorem gf_X8_7 (F : CallFix p m c cc nL s args TBL RX8) (G : AK g s) (hS : WS g σ τ s H locs) (hdg : decode cc pc = .ok (.getfield 7, 3)) (kk : W p l e R s m args below meth c H locs cells slots Q (F0 m (pc + 3) ls (.ref (gA g 61) :: rest))) : W p l e R s m args below meth c H locs cells slots Q (F0 m pc ls (.ref (gA g 60) :: rest)) := x_get F G hS (i := 60) (k := 0) (N := 47) (T := TX8) (C := RX8) (ci := 8) (eo_X8 g _ _) (by decide) rfl inX8 (by decide) tb_1034 rfl rfl hdg kk
set_option maxRecDepth 20000 in
theorem gf_X8_13 (F : CallFix p m c cc nL s args TBL RX8) (G : AK g s) (hS : WS g σ τ s H locs) (hdg : decode cc pc = .ok (.getfield 13, 3)) (kk : W p l e R s m args below meth c H locs cells slots Q (F0 m (pc + 3) ls (.int (σ 60 1) :: rest))) : W p l e R s m args below meth c H locs cells slots Q (F0 m pc ls (.ref (gA g 60) :: rest)) := x_get F G hS (i := 60) (k := 1) (N := 47) (T := TX8) (C := RX8) (ci := 8) (eo_X8 g _ _) (by decide) rfl inX8 (by decide) tb_1035 rfl rfl hdg kk
set_option maxRecDepth 20000 in
theorem pf_X8_13 (F : CallFix p m c cc nL s args TBL RX8) (G : AK g s) (hS : WS g σ τ s H locs) {x : Int32} (hdg : decode cc pc = .ok (.putfield 13, 3)) (kk : ∀ (H : Heap) (locs : List Loc), WS g (va_up σ 60 (upd (σ 60) 1 x)) τ s H locs → W p l e R s m args below meth c H locs cells slots Q (F0 m (pc + 3) ls rest)) : W p l e R s m args below meth c H locs cells slots Q (F0 m pc ls (.int x :: .ref (gA g 60) :: rest)) := x_put F G hS (i := 60) (k := 1) (N := 47) (T := TX8) (C := RX8) (ci := 8) (eo_X8 g _ _) (by decide) rfl inX8 tyX8 tyX8_ok nmX8 (by decide) tb_1035 rfl rfl rfl (Nat.le_of_ble_eq_true rfl) rfl hdg kk
set_option maxRecDepth 20000 in
theorem gf_X8_17 (F : CallFix p m c cc nL s args TBL RX8) (G : AK g s) (hS : WS g σ τ s H locs) (hdg : decode cc pc = .ok (.getfield 17, 3)) (kk : W p l e R s m args below meth c H locs cells slots Q (F0 m (pc + 3) ls (.ref (gA g 62) :: rest))) : W p l e R s m args below meth c H locs cells slots Q (F0 m pc ls (.ref (gA g 60) :: rest)) := x_get F G hS (i := 60) (k := 2) (N := 47) (T := TX8) (C := RX8) (ci := 8) (eo_X8 g _ _) (by decide) rfl inX8 (by decide) tb_1036 rfl rfl hdg kk
set_option maxRecDepth 20000 in
theorem gf_X8_20 (F : CallFix p m c cc nL s args TBL RX8) (G : AK g s) (hS : WS g σ τ s H locs) (hdg : decode cc pc = .ok (.getfield 20, 3)) (kk : W p l e R s m args below meth c H locs cells slots Q (F0 m (pc + 3) ls (.ref (gA g 63) :: rest))) : W p l e R s m args below meth c H locs cells slots Q (F0 m pc ls (.ref (gA g 60) :: rest)) := x_get F G hS (i := 60) (k := 4) (N := 47) (T := TX8) (C := RX8) (ci := 8) (eo_X8 g _ _) (by decide) rfl inX8 (by decide) tb_1038 rfl rfl hdg kk
set_option maxRecDepth 20000 in
theorem gf_X8_23 (F : CallFix p m c cc nL s args TBL RX8) (G : AK g s) (hS : WS g σ τ s H locs) (hdg : decode cc pc = .ok (.getfield 23, 3)) (kk : W p l e R s m args below meth c H locs cells slots Q (F0 m (pc + 3) ls (.ref (gA g 64) :: rest))) : W p l e R s m args below meth c H locs cells slots Q (F0 m pc ls (.ref (gA g 60) :: rest)) := x_get F G hS (i := 60) (k := 6) (N := 47) (T := TX8) (C := RX8) (ci := 8) (eo_X8 g _ _) (by decide) rfl inX8 (by decide) tb_1040 rfl rfl hdg kk
set_option maxRecDepth 20000 in
theorem gf_X8_26 (F : CallFix p m c cc nL s args TBL RX8) (G : AK g s) (hS : WS g σ τ s H locs) (hdg : decode cc pc = .ok (.getfield 26, 3)) (kk : W p l e R s m args below meth c H locs cells slots Q (F0 m (pc + 3) ls (.ref (gA g 65) :: rest))) : W p l e R s m args below meth c H locs cells slots Q (F0 m pc ls (.ref (gA g 60) :: rest)) := x_get F G hS (i := 60) (k := 8) (N := 47) (T := TX8) (C := RX8) (ci := 8) (eo_X8 g _ _) (by decide) rfl inX8 (by decide) tb_1042 rfl rfl hdg kk
set_option maxRecDepth 20000 in
theorem gf_X8_29 (F : CallFix p m c cc nL s args TBL RX8) (G : AK g s) (hS : WS g σ τ s H locs) (hdg : decode cc pc = .ok (.getfield 29, 3)) (kk : W p l e R s m args below meth c H locs cells slots Q (F0 m (pc + 3) ls (.ref (gA g 66) :: rest))) : W p l e R s m args below meth c H locs cells slots Q (F0 m pc ls (.ref (gA g 60) :: rest)) := x_get F G hS (i := 60) (k := 9) (N := 47) (T := TX8) (C := RX8) (ci := 8) (eo_X8 g _ _) (by decide) rfl inX8 (by decide) tb_1043 rfl rfl hdg kk
set_option maxRecDepth 20000 in
theorem gf_X8_32 (F : CallFix p m c cc nL s args TBL RX8) (G : AK g s) (hS : WS g σ τ s H locs) (hdg : decode cc pc = .ok (.getfield 32, 3)) (kk : W p l e R s m args below meth c H locs cells slots Q (F0 m (pc + 3) ls (.ref (gA g 67) :: rest))) : W p l e R s m args below meth c H locs cells slots Q (F0 m pc ls (.ref (gA g 60) :: rest)) := x_get F G hS (i := 60) (k := 10) (N := 47) (T := TX8) (C := RX8) (ci := 8) (eo_X8 g _ _) (by decide) rfl inX8 (by decide) tb_1044 rfl rfl hdg kk
set_option maxRecDepth 20000 in
theorem gf_X8_35 (F : CallFix p m c cc nL s args TBL RX8) (G : AK g s) (hS : WS g σ τ s H locs) (hdg : decode cc pc = .ok (.getfield 35, 3)) (kk : W p l e R s m args below meth c H locs cells slots Q (F0 m (pc + 3) ls (.ref (gA g 68) :: rest))) : W p l e R s m args below meth c H locs cells slots Q (F0 m pc ls (.ref (gA g 60) :: rest)) := x_get F G hS (i := 60) (k := 11) (N := 47) (T := TX8) (C := RX8) (ci := 8) (eo_X8 g _ _) (by decide) rfl inX8 (by decide) tb_1045 rfl rfl hdg kk
set_option maxRecDepth 20000 in
theorem gf_X8_38 (F : CallFix p m c cc nL s args TBL RX8) (G : AK g s) (hS : WS g σ τ s H locs) (hdg : decode cc pc = .ok (.getfield 38, 3)) (kk : W p l e R s m args below meth c H locs cells slots Q (F0 m (pc + 3) ls (.ref (gA g 69) :: rest))) : W p l e R s m args below meth c H locs cells slots Q (F0 m pc ls (.ref (gA g 60) :: rest)) := x_get F G hS (i := 60) (k := 12) (N := 47) (T := TX8) (C := RX8) (ci := 8) (eo_X8 g _ _) (by decide) rfl inX8 (by decide) tb_1046 rfl rfl hdg kk
set_option maxRecDepth 20000 in
theorem gf_X8_41 (F : CallFix p m c cc nL s args TBL RX8) (G : AK g s) (hS : WS g σ τ s H locs) (hdg : decode cc pc = .ok (.getfield 41, 3)) (kk : W p l e R s m args below meth c H locs cells slots Q (F0 m (pc + 3) ls (.ref (gA g 70) :: rest))) : W p l e R s m args below meth c H locs cells slots Q (F0 m pc ls (.ref (gA g 60) :: rest)) := x_get F G hS (i := 60) (k := 13) (N := 47) (T := TX8) (C := RX8) (ci := 8) (eo_X8 g _ _) (by decide) rfl inX8 (by decide) tb_1047 rfl rfl hdg kk
set_option maxRecDepth 20000 in
theorem gf_X8_44 (F : CallFix p m c cc nL s args TBL RX8) (G : AK g s) (hS : WS g σ τ s H locs) (hdg : decode cc pc = .ok (.getfield 44, 3)) (kk : W p l e R s m args below meth c H locs cells slots Q (F0 m (pc + 3) ls (.ref (gA g 71) :: rest))) : W p l e R s m args below meth c H locs cells slots Q (F0 m pc ls (.ref (gA g 60) :: rest)) := x_get F G hS (i := 60) (k := 22) (N := 47) (T := TX8) (C := RX8) (ci := 8) (eo_X8 g _ _) (by decide) rfl inX8 (by decide) tb_1056 rfl rfl hdg kk
set_option maxRecDepth 20000 in
theorem gf_X8_47 (F : CallFix p m c cc nL s args TBL RX8) (G : AK g s) (hS : WS g σ τ s H locs) (hdg : decode cc pc = .ok (.getfield 47, 3)) (kk : W p l e R s m args below meth c H locs cells slots Q (F0 m (pc + 3) ls (.ref (gA g 72) :: rest))) : W p l e R s m args below meth c H locs cells slots Q (F0 m pc ls (.ref (gA g 60) :: rest)) := x_get F G hS (i := 60) (k := 31) (N := 47) (T := TX8) (C := RX8) (ci := 8) (eo_X8 g _ _) (by decide) rfl inX8 (by decide) tb_1065 rfl rfl hdg kk
set_option maxRecDepth 20000 in
theorem gf_X8_50 (F : CallFix p m c cc nL s args TBL RX8) (G : AK g s) (hS : WS g σ τ s H locs) (hdg : decode cc pc = .ok (.getfield 50, 3)) (kk : W p l e R s m args below meth c H locs cells slots Q (F0 m (pc + 3) ls (.ref (gA g 73) :: rest))) : W p l e R s m args below meth c H locs cells slots Q (F0 m pc ls (.ref (gA g 60) :: rest)) := x_get F G hS (i := 60) (k := 32) (N := 47) (T := TX8) (C := RX8) (ci := 8) (eo_X8 g _ _) (by decide) rfl inX8 (by decide) tb_1066 rfl rfl hdg kk
set_option maxRecDepth 20000 in
theorem gf_X8_53 (F : CallFix p m c cc nL s args TBL RX8) (G : AK g s) (hS : WS g σ τ s H locs) (hdg : decode cc pc = .ok (.getfield 53, 3)) (kk : W p l e R s m args below meth c H locs cells slots Q (F0 m (pc + 3) ls (.ref (gA g 74) :: rest))) : W p l e R s m args below meth c H locs cells slots Q (F0 m pc ls (.ref (gA g 60) :: rest)) := x_get F G hS (i := 60) (k := 40) (N := 47) (T := TX8) (C := RX8) (ci := 8) (eo_X8 g _ _) (by decide) rfl inX8 (by decide) tb_1074 rfl rfl hdg kk
set_option maxRecDepth 20000 in
theorem gf_X8_56 (F : CallFix p m c cc nL s args TBL RX8) (G : AK g s) (hS : WS g σ τ s H locs) (hdg : decode cc pc = .ok (.getfield 56, 3)) (kk : W p l e R s m args below meth c H locs cells slots Q (F0 m (pc + 3) ls (.ref (gA g 75) :: rest))) : W p l e R s m args below meth c H locs cells slots Q (F0 m pc ls (.ref (gA g 60) :: rest)) := x_get F G hS (i := 60) (k := 42) (N := 47) (T := TX8) (C := RX8) (ci := 8) (eo_X8 g _ _) (by decide) rfl inX8 (by decide) tb_1076 rfl rfl hdg kk
set_option maxRecDepth 20000 in
theorem gf_X8_60 (F : CallFix p m c cc nL s args TBL RX8) (G : AK g s) (hS : WS g σ τ s H locs) (hdg : decode cc pc = .ok (.getfield 60, 3)) (kk : W p l e R s m args below meth c H locs cells slots Q (F0 m (pc + 3) ls (.ref (gA g 76) :: rest))) : W p l e R s m args below meth c H locs cells slots Q (F0 m pc ls (.ref (gA g 60) :: rest)) := x_get F G hS (i := 60) (k := 43) (N := 47) (T := TX8) (C := RX8) (ci := 8) (eo_X8 g _ _) (by decide) rfl inX8 (by decide) tb_1077 rfl rfl hdg kk
set_option maxRecDepth 20000 in
theorem gf_X8_63 (F : CallFix p m c cc nL s args TBL RX8) (G : AK g s) (hS : WS g σ τ s H locs) (hdg : decode cc pc = .ok (.getfield 63, 3)) (kk : W p l e R s m args below meth c H locs cells slots Q (F0 m (pc + 3) ls (.ref (gA g 77) :: rest))) : W p l e R s m args below meth c H locs cells slots Q (F0 m pc ls (.ref (gA g 60) :: rest)) := x_get F G hS (i := 60) (k := 44) (N := 47) (T := TX8) (C := RX8) (ci := 8) (eo_X8 g _ _) (by decide) rfl inX8 (by decide) tb_1078 rfl rfl hdg kk
set_option maxRecDepth 20000 in
theorem gf_X8_66 (F : CallFix p m c cc nL s args TBL RX8) (G : AK g s) (hS : WS g σ τ s H locs) (hdg : decode cc pc = .ok (.getfield 66, 3)) (kk : W p l e R s m args below meth c H locs cells slots Q (F0 m (pc + 3) ls (.ref (gA g 78) :: rest))) : W p l e R s m args below meth c H locs cells slots Q (F0 m pc ls (.ref (gA g 60) :: rest)) := x_get F G hS (i := 60) (k := 45) (N := 47) (T := TX8) (C := RX8) (ci := 8) (eo_X8 g _ _) (by decide) rfl inX8 (by decide) tb_1079 rfl rfl hdg kk
set_option maxRecDepth 20000 in
theorem gf_X8_75 (F : CallFix p m c cc nL s args TBL RX8) (G : AK g s) (hS : WS g σ τ s H locs) (hdg : decode cc pc = .ok (.getfield 75, 3)) (kk : W p l e R s m args below meth c H locs cells slots Q (F0 m (pc + 3) ls (.int (σ 60 23) :: rest))) : W p l e R s m args below meth c H locs cells slots Q (F0 m pc ls (.ref (gA g 60) :: rest)) := x_get F G hS (i := 60) (k := 23) (N := 47) (T := TX8) (C := RX8) (ci := 8) (eo_X8 g _ _) (by decide) rfl inX8 (by decide) tb_1057 rfl rfl hdg kk
set_option maxRecDepth 20000 in
theorem pf_X8_75 (F : CallFix p m c cc nL s args TBL RX8) (G : AK g s) (hS : WS g σ τ s H locs) {x : Int32} (hdg : decode cc pc = .ok (.putfield 75, 3)) (kk : ∀ (H : Heap) (locs : List Loc), WS g (va_up σ 60 (upd (σ 60) 23 x)) τ s H locs → W p l e R s m args below meth c H locs cells slots Q (F0 m (pc + 3) ls rest)) : W p l e R s m args below meth c H locs cells slots Q (F0 m pc ls (.int x :: .ref (gA g 60) :: rest)) := x_put F G hS (i := 60) (k := 23) (N := 47) (T := TX8) (C := RX8) (ci := 8) (eo_X8 g _ _) (by decide) rfl inX8 tyX8 tyX8_ok nmX8 (by decide) tb_1057 rfl rfl rfl (Nat.le_of_ble_eq_true rfl) rfl hdg kk
set_option maxRecDepth 20000 in
theorem gf_X8_78 (F : CallFix p m c cc nL s args TBL RX8) (G : AK g s) (hS : WS g σ τ s H locs) (hdg : decode cc pc = .ok (.getfield 78, 3)) (kk : W p l e R s m args below meth c H locs cells slots Q (F0 m (pc + 3) ls (.int (σ 60 25) :: rest))) : W p l e R s m args below meth c H locs cells slots Q (F0 m pc ls (.ref (gA g 60) :: rest)) := x_get F G hS (i := 60) (k := 25) (N := 47) (T := TX8) (C := RX8) (ci := 8) (eo_X8 g _ _) (by decide) rfl inX8 (by decide) tb_1059 rfl rfl hdg kk
set_option maxRecDepth 20000 in
theorem pf_X8_78 (F : CallFix p m c cc nL s args TBL RX8) (G : AK g s) (hS : WS g σ τ s H locs) {x : Int32} (hdg : decode cc pc = .ok (.putfield 78, 3)) (kk : ∀ (H : Heap) (locs : List Loc), WS g (va_up σ 60 (upd (σ 60) 25 x)) τ s H locs → W p l e R s m args below meth c H locs cells slots Q (F0 m (pc + 3) ls rest)) : W p l e R s m args below meth c H locs cells slots Q (F0 m pc ls (.int x :: .ref (gA g 60) :: rest)) := x_put F G hS (i := 60) (k := 25) (N := 47) (T := TX8) (C := RX8) (ci := 8) (eo_X8 g _ _) (by decide) rfl inX8 tyX8 tyX8_ok nmX8 (by decide) tb_1059 rfl rfl rfl (Nat.le_of_ble_eq_true rfl) rfl hdg kk
set_option maxRecDepth 20000 in
theorem gf_X8_81 (F : CallFix p m c cc nL s args TBL RX8) (G : AK g s) (hS : WS g σ τ s H locs) (hdg : decode cc pc = .ok (.getfield 81, 3)) (kk : W p l e R s m args below meth c H locs cells slots Q (F0 m (pc + 3) ls (.int (σ 60 28) :: rest))) : W p l e R s m args below meth c H locs cells slots Q (F0 m pc ls (.ref (gA g 60) :: rest)) := x_get F G hS (i := 60) (k := 28) (N := 47) (T := TX8) (C := RX8) (ci := 8) (eo_X8 g _ _) (by decide) rfl inX8 (by decide) tb_1062 rfl rfl hdg kk
set_option maxRecDepth 20000 in
theorem pf_X8_81 (F : CallFix p m c cc nL s args TBL RX8) (G : AK g s) (hS : WS g σ τ s H locs) {x : Int32} (hdg : decode cc pc = .ok (.putfield 81, 3)) (kk : ∀ (H : Heap) (locs : List Loc), WS g (va_up σ 60 (upd (σ 60) 28 x)) τ s H locs → W p l e R s m args below meth c H locs cells slots Q (F0 m (pc + 3) ls rest)) : W p l e R s m args below meth c H locs cells slots Q (F0 m pc ls (.int x :: .ref (gA g 60) :: rest)) := x_put F G hS (i := 60) (k := 28) (N := 47) (T := TX8) (C := RX8) (ci := 8) (eo_X8 g _ _) (by decide) rfl inX8 tyX8 tyX8_ok nmX8 (by decide) tb_1062 rfl rfl rfl (Nat.le_of_ble_eq_true rfl) rfl hdg kk
set_option maxRecDepth 20000 in
theorem gf_X8_84 (F : CallFix p m c cc nL s args TBL RX8) (G : AK g s) (hS : WS g σ τ s H locs) (hdg : decode cc pc = .ok (.getfield 84, 3)) (kk : W p l e R s m args below meth c H locs cells slots Q (F0 m (pc + 3) ls (.int (σ 60 26) :: rest))) : W p l e R s m args below meth c H locs cells slots Q (F0 m pc ls (.ref (gA g 60) :: rest)) := x_get F G hS (i := 60) (k := 26) (N := 47) (T := TX8) (C := RX8) (ci := 8) (eo_X8 g _ _) (by decide) rfl inX8 (by decide) tb_1060 rfl rfl hdg kk
set_option maxRecDepth 20000 in
theorem pf_X8_84 (F : CallFix p m c cc nL s args TBL RX8) (G : AK g s) (hS : WS g σ τ s H locs) {x : Int32} (hdg : decode cc pc = .ok (.putfield 84, 3)) (kk : ∀ (H : Heap) (locs : List Loc), WS g (va_up σ 60 (upd (σ 60) 26 x)) τ s H locs → W p l e R s m args below meth c H locs cells slots Q (F0 m (pc + 3) ls rest)) : W p l e R s m args below meth c H locs cells slots Q (F0 m pc ls (.int x :: .ref (gA g 60) :: rest)) := x_put F G hS (i := 60) (k := 26) (N := 47) (T := TX8) (C := RX8) (ci := 8) (eo_X8 g _ _) (by decide) rfl inX8 tyX8 tyX8_ok nmX8 (by decide) tb_1060 rfl rfl rfl (Nat.le_of_ble_eq_true rfl) rfl hdg kk
set_option maxRecDepth 20000 in
theorem gf_X8_87 (F : CallFix p m c cc nL s args TBL RX8) (G : AK g s) (hS : WS g σ τ s H locs) (hdg : decode cc pc = .ok (.getfield 87, 3)) (kk : W p l e R s m args below meth c H locs cells slots Q (F0 m (pc + 3) ls (.int (σ 60 29) :: rest))) : W p l e R s m args below meth c H locs cells slots Q (F0 m pc ls (.ref (gA g 60) :: rest)) := x_get F G hS (i := 60) (k := 29) (N := 47) (T := TX8) (C := RX8) (ci := 8) (eo_X8 g _ _) (by decide) rfl inX8 (by decide) tb_1063 rfl rfl hdg kk
set_option maxRecDepth 20000 in
theorem pf_X8_87 (F : CallFix p m c cc nL s args TBL RX8) (G : AK g s) (hS : WS g σ τ s H locs) {x : Int32} (hdg : decode cc pc = .ok (.putfield 87, 3)) (kk : ∀ (H : Heap) (locs : List Loc), WS g (va_up σ 60 (upd (σ 60) 29 x)) τ s H locs → W p l e R s m args below meth c H locs cells slots Q (F0 m (pc + 3) ls rest)) : W p l e R s m args below meth c H locs cells slots Q (F0 m pc ls (.int x :: .ref (gA g 60) :: rest)) := x_put F G hS (i := 60) (k := 29) (N := 47) (T := TX8) (C := RX8) (ci := 8) (eo_X8 g _ _) (by decide) rfl inX8 tyX8 tyX8_ok nmX8 (by decide) tb_1063 rfl rfl rfl (Nat.le_of_ble_eq_true rfl) rfl hdg kk
set_option maxRecDepth 20000 in
theorem gf_X8_90 (F : CallFix p m c cc nL s args TBL RX8) (G : AK g s) (hS : WS g σ τ s H locs) (hdg : decode cc pc = .ok (.getfield 90, 3)) (kk : W p l e R s m args below meth c H locs cells slots Q (F0 m (pc + 3) ls (.int (σ 60 27) :: rest))) : W p l e R s m args below meth c H locs cells slots Q (F0 m pc ls (.ref (gA g 60) :: rest)) := x_get F G hS (i := 60) (k := 27) (N := 47) (T := TX8) (C := RX8) (ci := 8) (eo_X8 g _ _) (by decide) rfl inX8 (by decide) tb_1061 rfl rfl hdg kk
set_option maxRecDepth 20000 in
theorem pf_X8_90 (F : CallFix p m c cc nL s args TBL RX8) (G : AK g s) (hS : WS g σ τ s H locs) {x : Int32} (hdg : decode cc pc = .ok (.putfield 90, 3)) (kk : ∀ (H : Heap) (locs : List Loc), WS g (va_up σ 60 (upd (σ 60) 27 x)) τ s H locs → W p l e R s m args below meth c H locs cells slots Q (F0 m (pc + 3) ls rest)) : W p l e R s m args below meth c H locs cells slots Q (F0 m pc ls (.int x :: .ref (gA g 60) :: rest)) := x_put F G hS (i := 60) (k := 27) (N := 47) (T := TX8) (C := RX8) (ci := 8) (eo_X8 g _ _) (by decide) rfl inX8 tyX8 tyX8_ok nmX8 (by decide) tb_1061 rfl rfl rfl (Nat.le_of_ble_eq_true rfl) rfl hdg kk
set_option maxRecDepth 20000 in
theorem gf_X8_97 (F : CallFix p m c cc nL s args TBL RX8) (G : AK g s) (hS : WS g σ τ s H locs) (hdg : decode cc pc = .ok (.getfield 97, 3)) (kk : W p l e R s m args below meth c H locs cells slots Q (F0 m (pc + 3) ls (.int (σ 60 30) :: rest))) : W p l e R s m args below meth c H locs cells slots Q (F0 m pc ls (.ref (gA g 60) :: rest)) := x_get F G hS (i := 60) (k := 30) (N := 47) (T := TX8) (C := RX8) (ci := 8) (eo_X8 g _ _) (by decide) rfl inX8 (by decide) tb_1064 rfl rfl hdg kk
set_option maxRecDepth 20000 in
theorem pf_X8_97 (F : CallFix p m c cc nL s args TBL RX8) (G : AK g s) (hS : WS g σ τ s H locs) {x : Int32} (hdg : decode cc pc = .ok (.putfield 97, 3)) (kk : ∀ (H : Heap) (locs : List Loc), WS g (va_up σ 60 (upd (σ 60) 30 x)) τ s H locs → W p l e R s m args below meth c H locs cells slots Q (F0 m (pc + 3) ls rest)) : W p l e R s m args below meth c H locs cells slots Q (F0 m pc ls (.int x :: .ref (gA g 60) :: rest)) := x_put F G hS (i := 60) (k := 30) (N := 47) (T := TX8) (C := RX8) (ci := 8) (eo_X8 g _ _) (by decide) rfl inX8 tyX8 tyX8_ok nmX8 (by decide) tb_1064 rfl rfl rfl (Nat.le_of_ble_eq_true rfl) rfl hdg kk
set_option maxRecDepth 20000 in
theorem gf_X8_121 (F : CallFix p m c cc nL s args TBL RX8) (G : AK g s) (hS : WS g σ τ s H locs) (hdg : decode cc pc = .ok (.getfield 121, 3)) (kk : W p l e R s m args below meth c H locs cells slots Q (F0 m (pc + 3) ls (.int (σ 60 21) :: rest))) : W p l e R s m args below meth c H locs cells slots Q (F0 m pc ls (.ref (gA g 60) :: rest)) := x_get F G hS (i := 60) (k := 21) (N := 47) (T := TX8) (C := RX8) (ci := 8) (eo_X8 g _ _) (by decide) rfl inX8 (by decide) tb_1055 rfl rfl hdg kk
set_option maxRecDepth 20000 in
theorem pf_X8_121 (F : CallFix p m c cc nL s args TBL RX8) (G : AK g s) (hS : WS g σ τ s H locs) {x : Int32} (hdg : decode cc pc = .ok (.putfield 121, 3)) (kk : ∀ (H : Heap) (locs : List Loc), WS g (va_up σ 60 (upd (σ 60) 21 x)) τ s H locs → W p l e R s m args below meth c H locs cells slots Q (F0 m (pc + 3) ls rest)) : W p l e R s m args below meth c H locs cells slots Q (F0 m pc ls (.int x :: .ref (gA g 60) :: rest)) := x_put F G hS (i := 60) (k := 21) (N := 47) (T := TX8) (C := RX8) (ci := 8) (eo_X8 g _ _) (by decide) rfl inX8 tyX8 tyX8_ok nmX8 (by decide) tb_1055 rfl rfl rfl (Nat.le_of_ble_eq_true rfl) rfl hdg kk
set_option maxRecDepth 20000 in
theorem gf_X8_124 (F : CallFix p m c cc nL s args TBL RX8) (G : AK g s) (hS : WS g σ τ s H locs) (hdg : decode cc pc = .ok (.getfield 124, 3)) (kk : W p l e R s m args below meth c H locs cells slots Q (F0 m (pc + 3) ls (.int (σ 60 14) :: rest))) : W p l e R s m args below meth c H locs cells slots Q (F0 m pc ls (.ref (gA g 60) :: rest)) := x_get F G hS (i := 60) (k := 14) (N := 47) (T := TX8) (C := RX8) (ci := 8) (eo_X8 g _ _) (by decide) rfl inX8 (by decide) tb_1048 rfl rfl hdg kk
set_option maxRecDepth 20000 in
theorem pf_X8_124 (F : CallFix p m c cc nL s args TBL RX8) (G : AK g s) (hS : WS g σ τ s H locs) {x : Int32} (hdg : decode cc pc = .ok (.putfield 124, 3)) (kk : ∀ (H : Heap) (locs : List Loc), WS g (va_up σ 60 (upd (σ 60) 14 x)) τ s H locs → W p l e R s m args below meth c H locs cells slots Q (F0 m (pc + 3) ls rest)) : W p l e R s m args below meth c H locs cells slots Q (F0 m pc ls (.int x :: .ref (gA g 60) :: rest)) := x_put F G hS (i := 60) (k := 14) (N := 47) (T := TX8) (C := RX8) (ci := 8) (eo_X8 g _ _) (by decide) rfl inX8 tyX8 tyX8_ok nmX8 (by decide) tb_1048 rfl rfl rfl (Nat.le_of_ble_eq_true rfl) rfl hdg kk
set_option maxRecDepth 20000 in
theorem gf_X8_134 (F : CallFix p m c cc nL s args TBL RX8) (G : AK g s) (hS : WS g σ τ s H locs) (hdg : decode cc pc = .ok (.getfield 134, 3)) (kk : W p l e R s m args below meth c H locs cells slots Q (F0 m (pc + 3) ls (.int (σ 60 15) :: rest))) : W p l e R s m args below meth c H locs cells slots Q (F0 m pc ls (.ref (gA g 60) :: rest)) := x_get F G hS (i := 60) (k := 15) (N := 47) (T := TX8) (C := RX8) (ci := 8) (eo_X8 g _ _) (by decide) rfl inX8 (by decide) tb_1049 rfl rfl hdg kk
set_option maxRecDepth 20000 in
theorem pf_X8_134 (F : CallFix p m c cc nL s args TBL RX8) (G : AK g s) (hS : WS g σ τ s H locs) {x : Int32} (hdg : decode cc pc = .ok (.putfield 134, 3)) (kk : ∀ (H : Heap) (locs : List Loc), WS g (va_up σ 60 (upd (σ 60) 15 x)) τ s H locs → W p l e R s m args below meth c H locs cells slots Q (F0 m (pc + 3) ls rest)) : W p l e R s m args below meth c H locs cells slots Q (F0 m pc ls (.int x :: .ref (gA g 60) :: rest)) := x_put F G hS (i := 60) (k := 15) (N := 47) (T := TX8) (C := RX8) (ci := 8) (eo_X8 g _ _) (by decide) rfl inX8 tyX8 tyX8_ok nmX8 (by decide) tb_1049 rfl rfl rfl (Nat.le_of_ble_eq_true rfl) rfl hdg kk
set_option maxRecDepth 20000 in
theorem gf_X8_137 (F : CallFix p m c cc nL s args TBL RX8) (G : AK g s) (hS : WS g σ τ s H locs) (hdg : decode cc pc = .ok (.getfield 137, 3)) (kk : W p l e R s m args below meth c H locs cells slots Q (F0 m (pc + 3) ls (.int (σ 60 19) :: rest))) : W p l e R s m args below meth c H locs cells slots Q (F0 m pc ls (.ref (gA g 60) :: rest)) := x_get F G hS (i := 60) (k := 19) (N := 47) (T := TX8) (C := RX8) (ci := 8) (eo_X8 g _ _) (by decide) rfl inX8 (by decide) tb_1053 rfl rfl hdg kk
set_option maxRecDepth 20000 in
theorem pf_X8_137 (F : CallFix p m c cc nL s args TBL RX8) (G : AK g s) (hS : WS g σ τ s H locs) {x : Int32} (hdg : decode cc pc = .ok (.putfield 137, 3)) (kk : ∀ (H : Heap) (locs : List Loc), WS g (va_up σ 60 (upd (σ 60) 19 x)) τ s H locs → W p l e R s m args below meth c H locs cells slots Q (F0 m (pc + 3) ls rest)) : W p l e R s m args below meth c H locs cells slots Q (F0 m pc ls (.int x :: .ref (gA g 60) :: rest)) := x_put F G hS (i := 60) (k := 19) (N := 47) (T := TX8) (C := RX8) (ci := 8) (eo_X8 g _ _) (by decide) rfl inX8 tyX8 tyX8_ok nmX8 (by decide) tb_1053 rfl rfl rfl (Nat.le_of_ble_eq_true rfl) rfl hdg kk
set_option maxRecDepth 20000 in
theorem gf_X8_140 (F : CallFix p m c cc nL s args TBL RX8) (G : AK g s) (hS : WS g σ τ s H locs) (hdg : decode cc pc = .ok (.getfield 140, 3)) (kk : W p l e R s m args below meth c H locs cells slots Q (F0 m (pc + 3) ls (.int (σ 60 20) :: rest))) : W p l e R s m args below meth c H locs cells slots Q (F0 m pc ls (.ref (gA g 60) :: rest)) := x_get F G hS (i := 60) (k := 20) (N := 47) (T := TX8) (C := RX8) (ci := 8) (eo_X8 g _ _) (by decide) rfl inX8 (by decide) tb_1054 rfl rfl hdg kk
set_option maxRecDepth 20000 in
theorem pf_X8_140 (F : CallFix p m c cc nL s args TBL RX8) (G : AK g s) (hS : WS g σ τ s H locs) {x : Int32} (hdg : decode cc pc = .ok (.putfield 140, 3)) (kk : ∀ (H : Heap) (locs : List Loc), WS g (va_up σ 60 (upd (σ 60) 20 x)) τ s H locs → W p l e R s m args below meth c H locs cells slots Q (F0 m (pc + 3) ls rest)) : W p l e R s m args below meth c H locs cells slots Q (F0 m pc ls (.int x :: .ref (gA g 60) :: rest)) := x_put F G hS (i := 60) (k := 20) (N := 47) (T := TX8) (C := RX8) (ci := 8) (eo_X8 g _ _) (by decide) rfl inX8 tyX8 tyX8_ok nmX8 (by decide) tb_1054 rfl rfl rfl (Nat.le_of_ble_eq_true rfl) rfl hdg kk
set_option maxRecDepth 20000 in
theorem gf_X8_143 (F : CallFix p m c cc nL s args TBL RX8) (G : AK g s) (hS : WS g σ τ s H locs) (hdg : decode cc pc = .ok (.getfield 143, 3)) (kk : W p l e R s m args below meth c H locs cells slots Q (F0 m (pc + 3) ls (.int (σ 60 16) :: rest))) : W p l e R s m args below meth c H locs cells slots Q (F0 m pc ls (.ref (gA g 60) :: rest)) := x_get F G hS (i := 60) (k := 16) (N := 47) (T := TX8) (C := RX8) (ci := 8) (eo_X8 g _ _) (by decide) rfl inX8 (by decide) tb_1050 rfl rfl hdg kk
set_option maxRecDepth 20000 in
theorem pf_X8_143 (F : CallFix p m c cc nL s args TBL RX8) (G : AK g s) (hS : WS g σ τ s H locs) {x : Int32} (hdg : decode cc pc = .ok (.putfield 143, 3)) (kk : ∀ (H : Heap) (locs : List Loc), WS g (va_up σ 60 (upd (σ 60) 16 x)) τ s H locs → W p l e R s m args below meth c H locs cells slots Q (F0 m (pc + 3) ls rest)) : W p l e R s m args below meth c H locs cells slots Q (F0 m pc ls (.int x :: .ref (gA g 60) :: rest)) := x_put F G hS (i := 60) (k := 16) (N := 47) (T := TX8) (C := RX8) (ci := 8) (eo_X8 g _ _) (by decide) rfl inX8 tyX8 tyX8_ok nmX8 (by decide) tb_1050 rfl rfl rfl (Nat.le_of_ble_eq_true rfl) rfl hdg kk
set_option maxRecDepth 20000 in
theorem gf_X8_146 (F : CallFix p m c cc nL s args TBL RX8) (G : AK g s) (hS : WS g σ τ s H locs) (hdg : decode cc pc = .ok (.getfield 146, 3)) (kk : W p l e R s m args below meth c H locs cells slots Q (F0 m (pc + 3) ls (.int (σ 60 17) :: rest))) : W p l e R s m args below meth c H locs cells slots Q (F0 m pc ls (.ref (gA g 60) :: rest)) := x_get F G hS (i := 60) (k := 17) (N := 47) (T := TX8) (C := RX8) (ci := 8) (eo_X8 g _ _) (by decide) rfl inX8 (by decide) tb_1051 rfl rfl hdg kk
set_option maxRecDepth 20000 in
theorem pf_X8_146 (F : CallFix p m c cc nL s args TBL RX8) (G : AK g s) (hS : WS g σ τ s H locs) {x : Int32} (hdg : decode cc pc = .ok (.putfield 146, 3)) (kk : ∀ (H : Heap) (locs : List Loc), WS g (va_up σ 60 (upd (σ 60) 17 x)) τ s H locs → W p l e R s m args below meth c H locs cells slots Q (F0 m (pc + 3) ls rest)) : W p l e R s m args below meth c H locs cells slots Q (F0 m pc ls (.int x :: .ref (gA g 60) :: rest)) := x_put F G hS (i := 60) (k := 17) (N := 47) (T := TX8) (C := RX8) (ci := 8) (eo_X8 g _ _) (by decide) rfl inX8 tyX8 tyX8_ok nmX8 (by decide) tb_1051 rfl rfl rfl (Nat.le_of_ble_eq_true rfl) rfl hdg kk
set_option maxRecDepth 20000 in
theorem gf_X8_149 (F : CallFix p m c cc nL s args TBL RX8) (G : AK g s) (hS : WS g σ τ s H locs) (hdg : decode cc pc = .ok (.getfield 149, 3)) (kk : W p l e R s m args below meth c H locs cells slots Q (F0 m (pc + 3) ls (.int (σ 60 18) :: rest))) : W p l e R s m args below meth c H locs cells slots Q (F0 m pc ls (.ref (gA g 60) :: rest)) := x_get F G hS (i := 60) (k := 18) (N := 47) (T := TX8) (C := RX8) (ci := 8) (eo_X8 g _ _) (by decide) rfl inX8 (by decide) tb_1052 rfl rfl hdg kk
set_option maxRecDepth 20000 in
theorem pf_X8_149 (F : CallFix p m c cc nL s args TBL RX8) (G : AK g s) (hS : WS g σ τ s H locs) {x : Int32} (hdg : decode cc pc = .ok (.putfield 149, 3)) (kk : ∀ (H : Heap) (locs : List Loc), WS g (va_up σ 60 (upd (σ 60) 18 x)) τ s H locs → W p l e R s m args below meth c H locs cells slots Q (F0 m (pc + 3) ls rest)) : W p l e R s m args below meth c H locs cells slots Q (F0 m pc ls (.int x :: .ref (gA g 60) :: rest)) := x_put F G hS (i := 60) (k := 18) (N := 47) (T := TX8) (C := RX8) (ci := 8) (eo_X8 g _ _) (by decide) rfl inX8 tyX8 tyX8_ok nmX8 (by decide) tb_1052 rfl rfl rfl (Nat.le_of_ble_eq_true rfl) rfl hdg kk
set_option maxRecDepth 20000 in
theorem gf_X8_164 (F : CallFix p m c cc nL s args TBL RX8) (G : AK g s) (hS : WS g σ τ s H locs) (hdg : decode cc pc = .ok (.getfield 164, 3)) (kk : W p l e R s m args below meth c H locs cells slots Q (F0 m (pc + 3) ls (.int (σ 60 24) :: rest))) : W p l e R s m args below meth c H locs cells slots Q (F0 m pc ls (.ref (gA g 60) :: rest)) := x_get F G hS (i := 60) (k := 24) (N := 47) (T := TX8) (C := RX8) (ci := 8) (eo_X8 g _ _) (by decide) rfl inX8 (by decide) tb_1058 rfl rfl hdg kk
set_option maxRecDepth 20000 in
theorem pf_X8_164 (F : CallFix p m c cc nL s args TBL RX8) (G : AK g s) (hS : WS g σ τ s H locs) {x : Int32} (hdg : decode cc pc = .ok (.putfield 164, 3)) (kk : ∀ (H : Heap) (locs : List Loc), WS g (va_up σ 60 (upd (σ 60) 24 x)) τ s H locs → W p l e R s m args below meth c H locs cells slots Q (F0 m (pc + 3) ls rest)) : W p l e R s m args below meth c H locs cells slots Q (F0 m pc ls (.int x :: .ref (gA g 60) :: rest)) := x_put F G hS (i := 60) (k := 24) (N := 47) (T := TX8) (C := RX8) (ci := 8) (eo_X8 g _ _) (by decide) rfl inX8 tyX8 tyX8_ok nmX8 (by decide) tb_1058 rfl rfl rfl (Nat.le_of_ble_eq_true rfl) rfl hdg kk
set_option maxRecDepth 20000 in
theorem gf_X8_167 (F : CallFix p m c cc nL s args TBL RX8) (G : AK g s) (hS : WS g σ τ s H locs) (hdg : decode cc pc = .ok (.getfield 167, 3)) (kk : W p l e R s m args below meth c H locs cells slots Q (F0 m (pc + 3) ls (.int (σ 60 3) :: rest))) : W p l e R s m args below meth c H locs cells slots Q (F0 m pc ls (.ref (gA g 60) :: rest)) := x_get F G hS (i := 60) (k := 3) (N := 47) (T := TX8) (C := RX8) (ci := 8) (eo_X8 g _ _) (by decide) rfl inX8 (by decide) tb_1037 rfl rfl hdg kk
set_option maxRecDepth 20000 in
theorem pf_X8_167 (F : CallFix p m c cc nL s args TBL RX8) (G : AK g s) (hS : WS g σ τ s H locs) {x : Int32} (hdg : decode cc pc = .ok (.putfield 167, 3)) (kk : ∀ (H : Heap) (locs : List Loc), WS g (va_up σ 60 (upd (σ 60) 3 x)) τ s H locs → W p l e R s m args below meth c H locs cells slots Q (F0 m (pc + 3) ls rest)) : W p l e R s m args below meth c H locs cells slots Q (F0 m pc ls (.int x :: .ref (gA g 60) :: rest)) := x_put F G hS (i := 60) (k := 3) (N := 47) (T := TX8) (C := RX8) (ci := 8) (eo_X8 g _ _) (by decide) rfl inX8 tyX8 tyX8_ok nmX8 (by decide) tb_1037 rfl rfl rfl (Nat.le_of_ble_eq_true rfl) rfl hdg kk
set_option maxRecDepth 20000 in
theorem gf_X8_170 (F : CallFix p m c cc nL s args TBL RX8) (G : AK g s) (hS : WS g σ τ s H locs) (hdg : decode cc pc = .ok (.getfield 170, 3)) (kk : W p l e R s m args below meth c H locs cells slots Q (F0 m (pc + 3) ls (.int (σ 60 5) :: rest))) : W p l e R s m args below meth c H locs cells slots Q (F0 m pc ls (.ref (gA g 60) :: rest)) := x_get F G hS (i := 60) (k := 5) (N := 47) (T := TX8) (C := RX8) (ci := 8) (eo_X8 g _ _) (by decide) rfl inX8 (by decide) tb_1039 rfl rfl hdg kk
set_option maxRecDepth 20000 in
theorem pf_X8_170 (F : CallFix p m c cc nL s args TBL RX8) (G : AK g s) (hS : WS g σ τ s H locs) {x : Int32} (hdg : decode cc pc = .ok (.putfield 170, 3)) (kk : ∀ (H : Heap) (locs : List Loc), WS g (va_up σ 60 (upd (σ 60) 5 x)) τ s H locs → W p l e R s m args below meth c H locs cells slots Q (F0 m (pc + 3) ls rest)) : W p l e R s m args below meth c H locs cells slots Q (F0 m pc ls (.int x :: .ref (gA g 60) :: rest)) := x_put F G hS (i := 60) (k := 5) (N := 47) (T := TX8) (C := RX8) (ci := 8) (eo_X8 g _ _) (by decide) rfl inX8 tyX8 tyX8_ok nmX8 (by decide) tb_1039 rfl rfl rfl (Nat.le_of_ble_eq_true rfl) rfl hdg kk
set_option maxRecDepth 20000 in
theorem gf_X8_173 (F : CallFix p m c cc nL s args TBL RX8) (G : AK g s) (hS : WS g σ τ s H locs) (hdg : decode cc pc = .ok (.getfield 173, 3)) (kk : W p l e R s m args below meth c H locs cells slots Q (F0 m (pc + 3) ls (.int (σ 60 7) :: rest))) : W p l e R s m args below meth c H locs cells slots Q (F0 m pc ls (.ref (gA g 60) :: rest)) := x_get F G hS (i := 60) (k := 7) (N := 47) (T := TX8) (C := RX8) (ci := 8) (eo_X8 g _ _) (by decide) rfl inX8 (by decide) tb_1041 rfl rfl hdg kk
set_option maxRecDepth 20000 in
theorem pf_X8_173 (F : CallFix p m c cc nL s args TBL RX8) (G : AK g s) (hS : WS g σ τ s H locs) {x : Int32} (hdg : decode cc pc = .ok (.putfield 173, 3)) (kk : ∀ (H : Heap) (locs : List Loc), WS g (va_up σ 60 (upd (σ 60) 7 x)) τ s H locs → W p l e R s m args below meth c H locs cells slots Q (F0 m (pc + 3) ls rest)) : W p l e R s m args below meth c H locs cells slots Q (F0 m pc ls (.int x :: .ref (gA g 60) :: rest)) := x_put F G hS (i := 60) (k := 7) (N := 47) (T := TX8) (C := RX8) (ci := 8) (eo_X8 g _ _) (by decide) rfl inX8 tyX8 tyX8_ok nmX8 (by decide) tb_1041 rfl rfl rfl (Nat.le_of_ble_eq_true rfl) rfl hdg kk
set_option maxRecDepth 20000 in
theorem gf_X8_176 (F : CallFix p m c cc nL s args TBL RX8) (G : AK g s) (hS : WS g σ τ s H locs) (hdg : decode cc pc = .ok (.getfield 176, 3)) (kk : W p l e R s m args below meth c H locs cells slots Q (F0 m (pc + 3) ls (.int (σ 60 41) :: rest))) : W p l e R s m args below meth c H locs cells slots Q (F0 m pc ls (.ref (gA g 60) :: rest)) := x_get F G hS (i := 60) (k := 41) (N := 47) (T := TX8) (C := RX8) (ci := 8) (eo_X8 g _ _) (by decide) rfl inX8 (by decide) tb_1075 rfl rfl hdg kk
set_option maxRecDepth 20000 in
theorem pf_X8_176 (F : CallFix p m c cc nL s args TBL RX8) (G : AK g s) (hS : WS g σ τ s H locs) {x : Int32} (hdg : decode cc pc = .ok (.putfield 176, 3)) (kk : ∀ (H : Heap) (locs : List Loc), WS g (va_up σ 60 (upd (σ 60) 41 x)) τ s H locs → W p l e R s m args below meth c H locs cells slots Q (F0 m (pc + 3) ls rest)) : W p l e R s m args below meth c H locs cells slots Q (F0 m pc ls (.int x :: .ref (gA g 60) :: rest)) := x_put F G hS (i := 60) (k := 41) (N := 47) (T := TX8) (C := RX8) (ci := 8) (eo_X8 g _ _) (by decide) rfl inX8 tyX8 tyX8_ok nmX8 (by decide) tb_1075 rfl rfl rfl (Nat.le_of_ble_eq_true rfl) rfl hdg kk
set_option maxRecDepth 20000 in
theorem gf_X8_213 (F : CallFix p m c cc nL s args TBL RX8) (G : AK g s) (hS : WS g σ τ s H locs) (hdg : decode cc pc = .ok (.getfield 213, 3)) (kk : W p l e R s m args below meth c H locs cells slots Q (F0 m (pc + 3) ls (.int (σ 60 33) :: rest))) : W p l e R s m args below meth c H locs cells slots Q (F0 m pc ls (.ref (gA g 60) :: rest)) := x_get F G hS (i := 60) (k := 33) (N := 47) (T := TX8) (C := RX8) (ci := 8) (eo_X8 g _ _) (by decide) rfl inX8 (by decide) tb_1067 rfl rfl hdg kk
set_option maxRecDepth 20000 in
theorem pf_X8_213 (F : CallFix p m c cc nL s args TBL RX8) (G : AK g s) (hS : WS g σ τ s H locs) {x : Int32} (hdg : decode cc pc = .ok (.putfield 213, 3)) (kk : ∀ (H : Heap) (locs : List Loc), WS g (va_up σ 60 (upd (σ 60) 33 x)) τ s H locs → W p l e R s m args below meth c H locs cells slots Q (F0 m (pc + 3) ls rest)) : W p l e R s m args below meth c H locs cells slots Q (F0 m pc ls (.int x :: .ref (gA g 60) :: rest)) := x_put F G hS (i := 60) (k := 33) (N := 47) (T := TX8) (C := RX8) (ci := 8) (eo_X8 g _ _) (by decide) rfl inX8 tyX8 tyX8_ok nmX8 (by decide) tb_1067 rfl rfl rfl (Nat.le_of_ble_eq_true rfl) rfl hdg kk
set_option maxRecDepth 20000 in
theorem gf_X8_216 (F : CallFix p m c cc nL s args TBL RX8) (G : AK g s) (hS : WS g σ τ s H locs) (hdg : decode cc pc = .ok (.getfield 216, 3)) (kk : W p l e R s m args below meth c H locs cells slots Q (F0 m (pc + 3) ls (.int (σ 60 34) :: rest))) : W p l e R s m args below meth c H locs cells slots Q (F0 m pc ls (.ref (gA g 60) :: rest)) := x_get F G hS (i := 60) (k := 34) (N := 47) (T := TX8) (C := RX8) (ci := 8) (eo_X8 g _ _) (by decide) rfl inX8 (by decide) tb_1068 rfl rfl hdg kk
set_option maxRecDepth 20000 in
theorem pf_X8_216 (F : CallFix p m c cc nL s args TBL RX8) (G : AK g s) (hS : WS g σ τ s H locs) {x : Int32} (hdg : decode cc pc = .ok (.putfield 216, 3)) (kk : ∀ (H : Heap) (locs : List Loc), WS g (va_up σ 60 (upd (σ 60) 34 x)) τ s H locs → W p l e R s m args below meth c H locs cells slots Q (F0 m (pc + 3) ls rest)) : W p l e R s m args below meth c H locs cells slots Q (F0 m pc ls (.int x :: .ref (gA g 60) :: rest)) := x_put F G hS (i := 60) (k := 34) (N := 47) (T := TX8) (C := RX8) (ci := 8) (eo_X8 g _ _) (by decide) rfl inX8 tyX8 tyX8_ok nmX8 (by decide) tb_1068 rfl rfl rfl (Nat.le_of_ble_eq_true rfl) rfl hdg kk
set_option maxRecDepth 20000 in
theorem gf_X8_219 (F : CallFix p m c cc nL s args TBL RX8) (G : AK g s) (hS : WS g σ τ s H locs) (hdg : decode cc pc = .ok (.getfield 219, 3)) (kk : W p l e R s m args below meth c H locs cells slots Q (F0 m (pc + 3) ls (.int (σ 60 35) :: rest))) : W p l e R s m args below meth c H locs cells slots Q (F0 m pc ls (.ref (gA g 60) :: rest)) := x_get F G hS (i := 60) (k := 35) (N := 47) (T := TX8) (C := RX8) (ci := 8) (eo_X8 g _ _) (by decide) rfl inX8 (by decide) tb_1069 rfl rfl hdg kk
set_option maxRecDepth 20000 in
theorem pf_X8_219 (F : CallFix p m c cc nL s args TBL RX8) (G : AK g s) (hS : WS g σ τ s H locs) {x : Int32} (hdg : decode cc pc = .ok (.putfield 219, 3)) (kk : ∀ (H : Heap) (locs : List Loc), WS g (va_up σ 60 (upd (σ 60) 35 x)) τ s H locs → W p l e R s m args below meth c H locs cells slots Q (F0 m (pc + 3) ls rest)) : W p l e R s m args below meth c H locs cells slots Q (F0 m pc ls (.int x :: .ref (gA g 60) :: rest)) := x_put F G hS (i := 60) (k := 35) (N := 47) (T := TX8) (C := RX8) (ci := 8) (eo_X8 g _ _) (by decide) rfl inX8 tyX8 tyX8_ok nmX8 (by decide) tb_1069 rfl rfl rfl (Nat.le_of_ble_eq_true rfl) rfl hdg kk
set_option maxRecDepth 20000 in
theorem gf_X8_222 (F : CallFix p m c cc nL s args TBL RX8) (G : AK g s) (hS : WS g σ τ s H locs) (hdg : decode cc pc = .ok (.getfield 222, 3)) (kk : W p l e R s m args below meth c H locs cells slots Q (F0 m (pc + 3) ls (.int (σ 60 36) :: rest))) : W p l e R s m args below meth c H locs cells slots Q (F0 m pc ls (.ref (gA g 60) :: rest)) := x_get F G hS (i := 60) (k := 36) (N := 47) (T := TX8) (C := RX8) (ci := 8) (eo_X8 g _ _) (by decide) rfl inX8 (by decide) tb_1070 rfl rfl hdg kk
set_option maxRecDepth 20000 in
theorem pf_X8_222 (F : CallFix p m c cc nL s args TBL RX8) (G : AK g s) (hS : WS g σ τ s H locs) {x : Int32} (hdg : decode cc pc = .ok (.putfield 222, 3)) (kk : ∀ (H : Heap) (locs : List Loc), WS g (va_up σ 60 (upd (σ 60) 36 x)) τ s H locs → W p l e R s m args below meth c H locs cells slots Q (F0 m (pc + 3) ls rest)) : W p l e R s m args below meth c H locs cells slots Q (F0 m pc ls (.int x :: .ref (gA g 60) :: rest)) := x_put F G hS (i := 60) (k := 36) (N := 47) (T := TX8) (C := RX8) (ci := 8) (eo_X8 g _ _) (by decide) rfl inX8 tyX8 tyX8_ok nmX8 (by decide) tb_1070 rfl rfl rfl (Nat.le_of_ble_eq_true rfl) rfl hdg kk
set_option maxRecDepth 20000 in
theorem gf_X8_225 (F : CallFix p m c cc nL s args TBL RX8) (G : AK g s) (hS : WS g σ τ s H locs) (hdg : decode cc pc = .ok (.getfield 225, 3)) (kk : W p l e R s m args below meth c H locs cells slots Q (F0 m (pc + 3) ls (.int (σ 60 37) :: rest))) : W p l e R s m args below meth c H locs cells slots Q (F0 m pc ls (.ref (gA g 60) :: rest)) := x_get F G hS (i := 60) (k := 37) (N := 47) (T := TX8) (C := RX8) (ci := 8) (eo_X8 g _ _) (by decide) rfl inX8 (by decide) tb_1071 rfl rfl hdg kk
set_option maxRecDepth 20000 in
theorem pf_X8_225 (F : CallFix p m c cc nL s args TBL RX8) (G : AK g s) (hS : WS g σ τ s H locs) {x : Int32} (hdg : decode cc pc = .ok (.putfield 225, 3)) (kk : ∀ (H : Heap) (locs : List Loc), WS g (va_up σ 60 (upd (σ 60) 37 x)) τ s H locs → W p l e R s m args below meth c H locs cells slots Q (F0 m (pc + 3) ls rest)) : W p l e R s m args below meth c H locs cells slots Q (F0 m pc ls (.int x :: .ref (gA g 60) :: rest)) := x_put F G hS (i := 60) (k := 37) (N := 47) (T := TX8) (C := RX8) (ci := 8) (eo_X8 g _ _) (by decide) rfl inX8 tyX8 tyX8_ok nmX8 (by decide) tb_1071 rfl rfl rfl (Nat.le_of_ble_eq_true rfl) rfl hdg kk
set_option maxRecDepth 20000 in
theorem gf_X8_228 (F : CallFix p m c cc nL s args TBL RX8) (G : AK g s) (hS : WS g σ τ s H locs) (hdg : decode cc pc = .ok (.getfield 228, 3)) (kk : W p l e R s m args below meth c H locs cells slots Q (F0 m (pc + 3) ls (.int (σ 60 38) :: rest))) : W p l e R s m args below meth c H locs cells slots Q (F0 m pc ls (.ref (gA g 60) :: rest)) := x_get F G hS (i := 60) (k := 38) (N := 47) (T := TX8) (C := RX8) (ci := 8) (eo_X8 g _ _) (by decide) rfl inX8 (by decide) tb_1072 rfl rfl hdg kk
set_option maxRecDepth 20000 in
theorem pf_X8_228 (F : CallFix p m c cc nL s args TBL RX8) (G : AK g s) (hS : WS g σ τ s H locs) {x : Int32} (hdg : decode cc pc = .ok (.putfield 228, 3)) (kk : ∀ (H : Heap) (locs : List Loc), WS g (va_up σ 60 (upd (σ 60) 38 x)) τ s H locs → W p l e R s m args below meth c H locs cells slots Q (F0 m (pc + 3) ls rest)) : W p l e R s m args below meth c H locs cells slots Q (F0 m pc ls (.int x :: .ref (gA g 60) :: rest)) := x_put F G hS (i := 60) (k := 38) (N := 47) (T := TX8) (C := RX8) (ci := 8) (eo_X8 g _ _) (by decide) rfl inX8 tyX8 tyX8_ok nmX8 (by decide) tb_1072 rfl rfl rfl (Nat.le_of_ble_eq_true rfl) rfl hdg kk
set_option maxRecDepth 20000 in
theorem gf_X8_231 (F : CallFix p m c cc nL s args TBL RX8) (G : AK g s) (hS : WS g σ τ s H locs) (hdg : decode cc pc = .ok (.getfield 231, 3)) (kk : W p l e R s m args below meth c H locs cells slots Q (F0 m (pc + 3) ls (.int (σ 60 39) :: rest))) : W p l e R s m args below meth c H locs cells slots Q (F0 m pc ls (.ref (gA g 60) :: rest)) := x_get F G hS (i := 60) (k := 39) (N := 47) (T := TX8) (C := RX8) (ci := 8) (eo_X8 g _ _) (by decide) rfl inX8 (by decide) tb_1073 rfl rfl hdg kk
set_option maxRecDepth 20000 in
theorem pf_X8_231 (F : CallFix p m c cc nL s args TBL RX8) (G : AK g s) (hS : WS g σ τ s H locs) {x : Int32} (hdg : decode cc pc = .ok (.putfield 231, 3)) (kk : ∀ (H : Heap) (locs : List Loc), WS g (va_up σ 60 (upd (σ 60) 39 x)) τ s H locs → W p l e R s m args below meth c H locs cells slots Q (F0 m (pc + 3) ls rest)) : W p l e R s m args below meth c H locs cells slots Q (F0 m pc ls (.int x :: .ref (gA g 60) :: rest)) := x_put F G hS (i := 60) (k := 39) (N := 47) (T := TX8) (C := RX8) (ci := 8) (eo_X8 g _ _) (by decide) rfl inX8 tyX8 tyX8_ok nmX8 (by decide) tb_1073 rfl rfl rfl (Nat.le_of_ble_eq_true rfl) rfl hdg kk
set_option maxRecDepth 20000 in
theorem gf_X8_309 (F : CallFix p m c cc nL s args TBL RX8) (G : AK g s) (hS : WS g σ τ s H locs) (hdg : decode cc pc = .ok (.getfield 309, 3)) (kk : W p l e R s m args below meth c H locs cells slots Q (F0 m (pc + 3) ls (.int (σ 60 46) :: rest))) : W p l e R s m args below meth c H locs cells slots Q (F0 m pc ls (.ref (gA g 60) :: rest)) := x_get F G hS (i := 60) (k := 46) (N := 47) (T := TX8) (C := RX8) (ci := 8) (eo_X8 g _ _) (by decide) rfl inX8 (by decide) tb_1080 rfl rfl hdg kk
set_option maxRecDepth 20000 in
theorem pf_X8_309 (F : CallFix p m c cc nL s args TBL RX8) (G : AK g s) (hS : WS g σ τ s H locs) {x : Int32} (hdg : decode cc pc = .ok (.putfield 309, 3)) (kk : ∀ (H : Heap) (locs : List Loc), WS g (va_up σ 60 (upd (σ 60) 46 x)) τ s H locs → W p l e R s m args below meth c H locs cells slots Q (F0 m (pc + 3) ls rest)) : W p l e R s m args below meth c H locs cells slots Q (F0 m pc ls (.int x :: .ref (gA g 60) :: rest)) := x_put F G hS (i := 60) (k := 46) (N := 47) (T := TX8) (C := RX8) (ci := 8) (eo_X8 g _ _) (by decide) rfl inX8 tyX8 tyX8_ok nmX8 (by decide) tb_1080 rfl rfl rfl (Nat.le_of_ble_eq_true rfl) rfl hdg kk
end FR
