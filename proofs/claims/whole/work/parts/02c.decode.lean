theorem dX8_end_15 : decode cX8_end 15 = .ok (.ireturn, 1) := by decide +kernel
theorem dX8_end_16 : decode cX8_end 16 = .ok (.aload_n 0, 1) := by decide +kernel
theorem dX8_end_17 : decode cX8_end 17 = .ok (.getfield 75, 3) := by decide +kernel
theorem dX8_end_20 : decode cX8_end 20 = .ok (.istore_n 2, 1) := by decide +kernel
theorem dX8_end_21 : decode cX8_end 21 = .ok (.aload_n 0, 1) := by decide +kernel
theorem dX8_end_22 : decode cX8_end 22 = .ok (.iload_n 1, 1) := by decide +kernel
theorem dX8_end_23 : decode cX8_end 23 = .ok (.putfield 75, 3) := by decide +kernel
theorem dX8_end_26 : decode cX8_end 26 = .ok (.iload_n 2, 1) := by decide +kernel
theorem dX8_end_27 : decode cX8_end 27 = .ok (.ireturn, 1) := by decide +kernel
theorem dX8_byteAt_0 : decode cX8_byteAt 0 = .ok (.iload_n 1, 1) := by decide +kernel
theorem dX8_byteAt_1 : decode cX8_byteAt 1 = .ok (.aload_n 0, 1) := by decide +kernel
theorem dX8_byteAt_2 : decode cX8_byteAt 2 = .ok (.getfield 75, 3) := by decide +kernel
theorem dX8_byteAt_5 : decode cX8_byteAt 5 = .ok (.if_icmp .ge 12, 3) := by decide +kernel
theorem dX8_byteAt_8 : decode cX8_byteAt 8 = .ok (.aload_n 0, 1) := by decide +kernel
theorem dX8_byteAt_9 : decode cX8_byteAt 9 = .ok (.getfield 44, 3) := by decide +kernel
theorem dX8_byteAt_12 : decode cX8_byteAt 12 = .ok (.iload_n 1, 1) := by decide +kernel
theorem dX8_byteAt_13 : decode cX8_byteAt 13 = .ok (.iaload, 1) := by decide +kernel
theorem dX8_byteAt_14 : decode cX8_byteAt 14 = .ok (.goto 5, 3) := by decide +kernel
theorem dX8_byteAt_17 : decode cX8_byteAt 17 = .ok (.bipush (-4), 2) := by decide +kernel
theorem dX8_byteAt_19 : decode cX8_byteAt 19 = .ok (.ireturn, 1) := by decide +kernel
theorem dX8_fails_0 : decode cX8_fails 0 = .ok (.aload_n 0, 1) := by decide +kernel
theorem dX8_fails_1 : decode cX8_fails 1 = .ok (.getfield 78, 3) := by decide +kernel
theorem dX8_fails_4 : decode cX8_fails 4 = .ok (.ifCond .ne 16, 3) := by decide +kernel
theorem dX8_fails_7 : decode cX8_fails 7 = .ok (.aload_n 0, 1) := by decide +kernel
theorem dX8_fails_8 : decode cX8_fails 8 = .ok (.iload_n 1, 1) := by decide +kernel
theorem dX8_fails_9 : decode cX8_fails 9 = .ok (.putfield 78, 3) := by decide +kernel
theorem dX8_fails_12 : decode cX8_fails 12 = .ok (.aload_n 0, 1) := by decide +kernel
theorem dX8_fails_13 : decode cX8_fails 13 = .ok (.aload_n 0, 1) := by decide +kernel
theorem dX8_fails_14 : decode cX8_fails 14 = .ok (.getfield 81, 3) := by decide +kernel
theorem dX8_fails_17 : decode cX8_fails 17 = .ok (.putfield 84, 3) := by decide +kernel
theorem dX8_fails_20 : decode cX8_fails 20 = .ok (.return_, 1) := by decide +kernel
theorem dX8_nameHere_0 : decode cX8_nameHere 0 = .ok (.iconst 0, 1) := by decide +kernel
theorem dX8_nameHere_1 : decode cX8_nameHere 1 = .ok (.istore_n 1, 1) := by decide +kernel
theorem dX8_nameHere_2 : decode cX8_nameHere 2 = .ok (.iload_n 1, 1) := by decide +kernel
theorem dX8_nameHere_3 : decode cX8_nameHere 3 = .ok (.bipush 16, 2) := by decide +kernel
theorem dX8_nameHere_5 : decode cX8_nameHere 5 = .ok (.if_icmp .ge 113, 3) := by decide +kernel
theorem dX8_nameHere_8 : decode cX8_nameHere 8 = .ok (.aload_n 0, 1) := by decide +kernel
theorem dX8_nameHere_9 : decode cX8_nameHere 9 = .ok (.getfield 87, 3) := by decide +kernel
theorem dX8_nameHere_12 : decode cX8_nameHere 12 = .ok (.iconst 1, 1) := by decide +kernel
theorem dX8_nameHere_13 : decode cX8_nameHere 13 = .ok (.if_icmp .ne 105, 3) := by decide +kernel
theorem dX8_nameHere_16 : decode cX8_nameHere 16 = .ok (.aload_n 0, 1) := by decide +kernel
theorem dX8_nameHere_17 : decode cX8_nameHere 17 = .ok (.getfield 90, 3) := by decide +kernel
theorem dX8_nameHere_20 : decode cX8_nameHere 20 = .ok (.aload_n 0, 1) := by decide +kernel
theorem dX8_nameHere_21 : decode cX8_nameHere 21 = .ok (.getfield 81, 3) := by decide +kernel
theorem dX8_nameHere_24 : decode cX8_nameHere 24 = .ok (.isub, 1) := by decide +kernel
theorem dX8_nameHere_25 : decode cX8_nameHere 25 = .ok (.aload_n 0, 1) := by decide +kernel
theorem dX8_nameHere_26 : decode cX8_nameHere 26 = .ok (.getfield 47, 3) := by decide +kernel
theorem dX8_nameHere_29 : decode cX8_nameHere 29 = .ok (.iload_n 1, 1) := by decide +kernel
theorem dX8_nameHere_30 : decode cX8_nameHere 30 = .ok (.iconst 1, 1) := by decide +kernel
theorem dX8_nameHere_31 : decode cX8_nameHere 31 = .ok (.iadd, 1) := by decide +kernel
theorem dX8_nameHere_32 : decode cX8_nameHere 32 = .ok (.iaload, 1) := by decide +kernel
theorem dX8_nameHere_33 : decode cX8_nameHere 33 = .ok (.aload_n 0, 1) := by decide +kernel
theorem dX8_nameHere_34 : decode cX8_nameHere 34 = .ok (.getfield 47, 3) := by decide +kernel
theorem dX8_nameHere_37 : decode cX8_nameHere 37 = .ok (.iload_n 1, 1) := by decide +kernel
theorem dX8_nameHere_38 : decode cX8_nameHere 38 = .ok (.iaload, 1) := by decide +kernel
theorem dX8_nameHere_39 : decode cX8_nameHere 39 = .ok (.isub, 1) := by decide +kernel
theorem dX8_nameHere_40 : decode cX8_nameHere 40 = .ok (.if_icmp .ne 7, 3) := by decide +kernel
theorem dX8_nameHere_43 : decode cX8_nameHere 43 = .ok (.iconst 1, 1) := by decide +kernel
theorem dX8_nameHere_44 : decode cX8_nameHere 44 = .ok (.goto 4, 3) := by decide +kernel
theorem dX8_nameHere_47 : decode cX8_nameHere 47 = .ok (.iconst 0, 1) := by decide +kernel
theorem dX8_nameHere_48 : decode cX8_nameHere 48 = .ok (.istore_n 2, 1) := by decide +kernel
theorem dX8_nameHere_49 : decode cX8_nameHere 49 = .ok (.iconst 0, 1) := by decide +kernel
theorem dX8_nameHere_50 : decode cX8_nameHere 50 = .ok (.istore_n 3, 1) := by decide +kernel
theorem dX8_nameHere_51 : decode cX8_nameHere 51 = .ok (.iload_n 2, 1) := by decide +kernel
theorem dX8_nameHere_52 : decode cX8_nameHere 52 = .ok (.ifCond .eq 54, 3) := by decide +kernel
theorem dX8_nameHere_55 : decode cX8_nameHere 55 = .ok (.iload_n 3, 1) := by decide +kernel
theorem dX8_nameHere_56 : decode cX8_nameHere 56 = .ok (.aload_n 0, 1) := by decide +kernel
theorem dX8_nameHere_57 : decode cX8_nameHere 57 = .ok (.getfield 90, 3) := by decide +kernel
theorem dX8_nameHere_60 : decode cX8_nameHere 60 = .ok (.aload_n 0, 1) := by decide +kernel
theorem dX8_nameHere_61 : decode cX8_nameHere 61 = .ok (.getfield 81, 3) := by decide +kernel
theorem dX8_nameHere_64 : decode cX8_nameHere 64 = .ok (.isub, 1) := by decide +kernel
theorem dX8_nameHere_65 : decode cX8_nameHere 65 = .ok (.if_icmp .ge 41, 3) := by decide +kernel
theorem dX8_nameHere_68 : decode cX8_nameHere 68 = .ok (.aload_n 0, 1) := by decide +kernel
theorem dX8_nameHere_69 : decode cX8_nameHere 69 = .ok (.aload_n 0, 1) := by decide +kernel
theorem dX8_nameHere_70 : decode cX8_nameHere 70 = .ok (.getfield 81, 3) := by decide +kernel
theorem dX8_nameHere_73 : decode cX8_nameHere 73 = .ok (.iload_n 3, 1) := by decide +kernel
theorem dX8_nameHere_74 : decode cX8_nameHere 74 = .ok (.iadd, 1) := by decide +kernel
theorem dX8_nameHere_75 : decode cX8_nameHere 75 = .ok (.invokevirtual 93, 3) := by decide +kernel
theorem dX8_nameHere_78 : decode cX8_nameHere 78 = .ok (.aload_n 0, 1) := by decide +kernel
theorem dX8_nameHere_79 : decode cX8_nameHere 79 = .ok (.getfield 50, 3) := by decide +kernel
theorem dX8_nameHere_82 : decode cX8_nameHere 82 = .ok (.aload_n 0, 1) := by decide +kernel
theorem dX8_nameHere_83 : decode cX8_nameHere 83 = .ok (.getfield 47, 3) := by decide +kernel
theorem dX8_nameHere_86 : decode cX8_nameHere 86 = .ok (.iload_n 1, 1) := by decide +kernel
theorem dX8_nameHere_87 : decode cX8_nameHere 87 = .ok (.iaload, 1) := by decide +kernel
theorem dX8_nameHere_88 : decode cX8_nameHere 88 = .ok (.iload_n 3, 1) := by decide +kernel
theorem dX8_nameHere_89 : decode cX8_nameHere 89 = .ok (.iadd, 1) := by decide +kernel
theorem dX8_nameHere_90 : decode cX8_nameHere 90 = .ok (.iaload, 1) := by decide +kernel
theorem dX8_nameHere_91 : decode cX8_nameHere 91 = .ok (.if_icmp .ne 7, 3) := by decide +kernel
theorem dX8_nameHere_94 : decode cX8_nameHere 94 = .ok (.iconst 1, 1) := by decide +kernel
theorem dX8_nameHere_95 : decode cX8_nameHere 95 = .ok (.goto 4, 3) := by decide +kernel
theorem dX8_nameHere_98 : decode cX8_nameHere 98 = .ok (.iconst 0, 1) := by decide +kernel
theorem dX8_nameHere_99 : decode cX8_nameHere 99 = .ok (.istore_n 2, 1) := by decide +kernel
theorem dX8_nameHere_100 : decode cX8_nameHere 100 = .ok (.iinc 3 1, 3) := by decide +kernel
theorem dX8_nameHere_103 : decode cX8_nameHere 103 = .ok (.goto (-52), 3) := by decide +kernel
theorem dX8_nameHere_106 : decode cX8_nameHere 106 = .ok (.iload_n 2, 1) := by decide +kernel
theorem dX8_nameHere_107 : decode cX8_nameHere 107 = .ok (.ifCond .eq 5, 3) := by decide +kernel
theorem dX8_nameHere_110 : decode cX8_nameHere 110 = .ok (.iload_n 1, 1) := by decide +kernel
theorem dX8_nameHere_111 : decode cX8_nameHere 111 = .ok (.ireturn, 1) := by decide +kernel
theorem dX8_nameHere_112 : decode cX8_nameHere 112 = .ok (.iinc 1 1, 3) := by decide +kernel
theorem dX8_nameHere_115 : decode cX8_nameHere 115 = .ok (.goto (-113), 3) := by decide +kernel
theorem dX8_nameHere_118 : decode cX8_nameHere 118 = .ok (.bipush (-4), 2) := by decide +kernel
theorem dX8_nameHere_120 : decode cX8_nameHere 120 = .ok (.ireturn, 1) := by decide +kernel
theorem dX8_step_0 : decode cX8_step 0 = .ok (.aload_n 0, 1) := by decide +kernel
theorem dX8_step_1 : decode cX8_step 1 = .ok (.getfield 78, 3) := by decide +kernel
theorem dX8_step_4 : decode cX8_step 4 = .ok (.ifCond .le 4, 3) := by decide +kernel
theorem dX8_step_7 : decode cX8_step 7 = .ok (.return_, 1) := by decide +kernel
theorem dX8_step_8 : decode cX8_step 8 = .ok (.aload_n 0, 1) := by decide +kernel
theorem dX8_step_9 : decode cX8_step 9 = .ok (.aload_n 0, 1) := by decide +kernel
theorem dX8_step_10 : decode cX8_step 10 = .ok (.getfield 90, 3) := by decide +kernel
theorem dX8_step_13 : decode cX8_step 13 = .ok (.invokevirtual 93, 3) := by decide +kernel
theorem dX8_step_16 : decode cX8_step 16 = .ok (.bipush 32, 2) := by decide +kernel
theorem dX8_step_18 : decode cX8_step 18 = .ok (.if_icmp .ne 16, 3) := by decide +kernel
theorem dX8_step_21 : decode cX8_step 21 = .ok (.aload_n 0, 1) := by decide +kernel
theorem dX8_step_22 : decode cX8_step 22 = .ok (.dup, 1) := by decide +kernel
theorem dX8_step_23 : decode cX8_step 23 = .ok (.getfield 90, 3) := by decide +kernel
theorem dX8_step_26 : decode cX8_step 26 = .ok (.iconst 1, 1) := by decide +kernel
theorem dX8_step_27 : decode cX8_step 27 = .ok (.iadd, 1) := by decide +kernel
theorem dX8_step_28 : decode cX8_step 28 = .ok (.putfield 90, 3) := by decide +kernel
theorem dX8_step_31 : decode cX8_step 31 = .ok (.goto (-23), 3) := by decide +kernel
theorem dX8_step_34 : decode cX8_step 34 = .ok (.aload_n 0, 1) := by decide +kernel
theorem dX8_step_35 : decode cX8_step 35 = .ok (.aload_n 0, 1) := by decide +kernel
theorem dX8_step_36 : decode cX8_step 36 = .ok (.getfield 90, 3) := by decide +kernel
theorem dX8_step_39 : decode cX8_step 39 = .ok (.putfield 81, 3) := by decide +kernel
theorem dX8_step_42 : decode cX8_step 42 = .ok (.aload_n 0, 1) := by decide +kernel
theorem dX8_step_43 : decode cX8_step 43 = .ok (.aload_n 0, 1) := by decide +kernel
theorem dX8_step_44 : decode cX8_step 44 = .ok (.getfield 90, 3) := by decide +kernel
theorem dX8_step_47 : decode cX8_step 47 = .ok (.invokevirtual 93, 3) := by decide +kernel
theorem dX8_step_50 : decode cX8_step 50 = .ok (.istore_n 1, 1) := by decide +kernel
theorem dX8_step_51 : decode cX8_step 51 = .ok (.aload_n 0, 1) := by decide +kernel
theorem dX8_step_52 : decode cX8_step 52 = .ok (.iconst 0, 1) := by decide +kernel
theorem dX8_step_53 : decode cX8_step 53 = .ok (.putfield 97, 3) := by decide +kernel
theorem dX8_step_56 : decode cX8_step 56 = .ok (.iload_n 1, 1) := by decide +kernel
theorem dX8_step_57 : decode cX8_step 57 = .ok (.bipush (-4), 2) := by decide +kernel
theorem dX8_step_59 : decode cX8_step 59 = .ok (.if_icmp .ne 11, 3) := by decide +kernel
theorem dX8_step_62 : decode cX8_step 62 = .ok (.aload_n 0, 1) := by decide +kernel
theorem dX8_step_63 : decode cX8_step 63 = .ok (.iconst 0, 1) := by decide +kernel
theorem dX8_step_64 : decode cX8_step 64 = .ok (.putfield 87, 3) := by decide +kernel
theorem dX8_step_67 : decode cX8_step 67 = .ok (.goto 202, 3) := by decide +kernel
theorem dX8_step_70 : decode cX8_step 70 = .ok (.iload_n 1, 1) := by decide +kernel
theorem dX8_step_71 : decode cX8_step 71 = .ok (.i2l, 1) := by decide +kernel
theorem dX8_step_72 : decode cX8_step 72 = .ok (.ldc2_w 100, 3) := by decide +kernel
theorem dX8_step_75 : decode cX8_step 75 = .ok (.ldc2_w 102, 3) := by decide +kernel
theorem dX8_step_78 : decode cX8_step 78 = .ok (.invokestatic 71, 3) := by decide +kernel
theorem dX8_step_81 : decode cX8_step 81 = .ok (.ifCond .eq 45, 3) := by decide +kernel
theorem dX8_step_84 : decode cX8_step 84 = .ok (.aload_n 0, 1) := by decide +kernel
theorem dX8_step_85 : decode cX8_step 85 = .ok (.aload_n 0, 1) := by decide +kernel
theorem dX8_step_86 : decode cX8_step 86 = .ok (.getfield 90, 3) := by decide +kernel
theorem dX8_step_89 : decode cX8_step 89 = .ok (.invokevirtual 93, 3) := by decide +kernel
theorem dX8_step_92 : decode cX8_step 92 = .ok (.i2l, 1) := by decide +kernel
theorem dX8_step_93 : decode cX8_step 93 = .ok (.ldc2_w 100, 3) := by decide +kernel
theorem dX8_step_96 : decode cX8_step 96 = .ok (.ldc2_w 102, 3) := by decide +kernel
theorem dX8_step_99 : decode cX8_step 99 = .ok (.invokestatic 71, 3) := by decide +kernel
theorem dX8_step_102 : decode cX8_step 102 = .ok (.ifCond .eq 16, 3) := by decide +kernel
theorem dX8_step_105 : decode cX8_step 105 = .ok (.aload_n 0, 1) := by decide +kernel
theorem dX8_step_106 : decode cX8_step 106 = .ok (.dup, 1) := by decide +kernel
theorem dX8_step_107 : decode cX8_step 107 = .ok (.getfield 90, 3) := by decide +kernel
theorem dX8_step_110 : decode cX8_step 110 = .ok (.iconst 1, 1) := by decide +kernel
theorem dX8_step_111 : decode cX8_step 111 = .ok (.iadd, 1) := by decide +kernel
theorem dX8_step_112 : decode cX8_step 112 = .ok (.putfield 90, 3) := by decide +kernel
theorem dX8_step_115 : decode cX8_step 115 = .ok (.goto (-31), 3) := by decide +kernel
theorem dX8_step_118 : decode cX8_step 118 = .ok (.aload_n 0, 1) := by decide +kernel
theorem dX8_step_119 : decode cX8_step 119 = .ok (.iconst 1, 1) := by decide +kernel
theorem dX8_step_120 : decode cX8_step 120 = .ok (.putfield 87, 3) := by decide +kernel
theorem dX8_step_123 : decode cX8_step 123 = .ok (.goto 146, 3) := by decide +kernel
theorem dX8_step_126 : decode cX8_step 126 = .ok (.iload_n 1, 1) := by decide +kernel
theorem dX8_step_127 : decode cX8_step 127 = .ok (.i2l, 1) := by decide +kernel
theorem dX8_step_128 : decode cX8_step 128 = .ok (.ldc2_w 104, 3) := by decide +kernel
theorem dX8_step_131 : decode cX8_step 131 = .ok (.ldc2_w 106, 3) := by decide +kernel
theorem dX8_step_134 : decode cX8_step 134 = .ok (.invokestatic 71, 3) := by decide +kernel
theorem dX8_step_137 : decode cX8_step 137 = .ok (.ifCond .eq 106, 3) := by decide +kernel
theorem dX8_step_140 : decode cX8_step 140 = .ok (.aload_n 0, 1) := by decide +kernel
theorem dX8_step_141 : decode cX8_step 141 = .ok (.aload_n 0, 1) := by decide +kernel
theorem dX8_step_142 : decode cX8_step 142 = .ok (.getfield 90, 3) := by decide +kernel
theorem dX8_step_145 : decode cX8_step 145 = .ok (.invokevirtual 93, 3) := by decide +kernel
theorem dX8_step_148 : decode cX8_step 148 = .ok (.i2l, 1) := by decide +kernel
theorem dX8_step_149 : decode cX8_step 149 = .ok (.ldc2_w 104, 3) := by decide +kernel
theorem dX8_step_152 : decode cX8_step 152 = .ok (.ldc2_w 106, 3) := by decide +kernel
theorem dX8_step_155 : decode cX8_step 155 = .ok (.invokestatic 71, 3) := by decide +kernel
theorem dX8_step_158 : decode cX8_step 158 = .ok (.ifCond .eq 59, 3) := by decide +kernel
theorem dX8_step_161 : decode cX8_step 161 = .ok (.aload_n 0, 1) := by decide +kernel
theorem dX8_step_162 : decode cX8_step 162 = .ok (.aload_n 0, 1) := by decide +kernel
theorem dX8_step_163 : decode cX8_step 163 = .ok (.getfield 90, 3) := by decide +kernel
theorem dX8_step_166 : decode cX8_step 166 = .ok (.aload_n 0, 1) := by decide +kernel
theorem dX8_step_167 : decode cX8_step 167 = .ok (.getfield 81, 3) := by decide +kernel
theorem dX8_step_170 : decode cX8_step 170 = .ok (.isub, 1) := by decide +kernel
theorem dX8_step_171 : decode cX8_step 171 = .ok (.iconst 2, 1) := by decide +kernel
theorem dX8_step_172 : decode cX8_step 172 = .ok (.if_icmp .ge 25, 3) := by decide +kernel
theorem dX8_step_175 : decode cX8_step 175 = .ok (.bipush 10, 2) := by decide +kernel
theorem dX8_step_177 : decode cX8_step 177 = .ok (.aload_n 0, 1) := by decide +kernel
theorem dX8_step_178 : decode cX8_step 178 = .ok (.getfield 97, 3) := by decide +kernel
theorem dX8_step_181 : decode cX8_step 181 = .ok (.imul, 1) := by decide +kernel
theorem dX8_step_182 : decode cX8_step 182 = .ok (.aload_n 0, 1) := by decide +kernel
theorem dX8_step_183 : decode cX8_step 183 = .ok (.aload_n 0, 1) := by decide +kernel
theorem dX8_step_184 : decode cX8_step 184 = .ok (.getfield 90, 3) := by decide +kernel
theorem dX8_step_187 : decode cX8_step 187 = .ok (.invokevirtual 93, 3) := by decide +kernel
theorem dX8_step_190 : decode cX8_step 190 = .ok (.iadd, 1) := by decide +kernel
theorem dX8_step_191 : decode cX8_step 191 = .ok (.bipush 48, 2) := by decide +kernel
theorem dX8_step_193 : decode cX8_step 193 = .ok (.isub, 1) := by decide +kernel
theorem dX8_step_194 : decode cX8_step 194 = .ok (.goto 7, 3) := by decide +kernel
theorem dX8_step_197 : decode cX8_step 197 = .ok (.aload_n 0, 1) := by decide +kernel
theorem dX8_step_198 : decode cX8_step 198 = .ok (.getfield 97, 3) := by decide +kernel
theorem dX8_step_201 : decode cX8_step 201 = .ok (.putfield 97, 3) := by decide +kernel
theorem dX8_step_204 : decode cX8_step 204 = .ok (.aload_n 0, 1) := by decide +kernel
theorem dX8_step_205 : decode cX8_step 205 = .ok (.dup, 1) := by decide +kernel
theorem dX8_step_206 : decode cX8_step 206 = .ok (.getfield 90, 3) := by decide +kernel
theorem dX8_step_209 : decode cX8_step 209 = .ok (.iconst 1, 1) := by decide +kernel
theorem dX8_step_210 : decode cX8_step 210 = .ok (.iadd, 1) := by decide +kernel
theorem dX8_step_211 : decode cX8_step 211 = .ok (.putfield 90, 3) := by decide +kernel
theorem dX8_step_214 : decode cX8_step 214 = .ok (.goto (-74), 3) := by decide +kernel
theorem dX8_step_217 : decode cX8_step 217 = .ok (.aload_n 0, 1) := by decide +kernel
theorem dX8_step_218 : decode cX8_step 218 = .ok (.iconst 2, 1) := by decide +kernel
theorem dX8_step_219 : decode cX8_step 219 = .ok (.putfield 87, 3) := by decide +kernel
theorem dX8_step_222 : decode cX8_step 222 = .ok (.aload_n 0, 1) := by decide +kernel
theorem dX8_step_223 : decode cX8_step 223 = .ok (.getfield 90, 3) := by decide +kernel
theorem dX8_step_226 : decode cX8_step 226 = .ok (.aload_n 0, 1) := by decide +kernel
theorem dX8_step_227 : decode cX8_step 227 = .ok (.getfield 81, 3) := by decide +kernel
theorem dX8_step_230 : decode cX8_step 230 = .ok (.isub, 1) := by decide +kernel
theorem dX8_step_231 : decode cX8_step 231 = .ok (.iconst 2, 1) := by decide +kernel
theorem dX8_step_232 : decode cX8_step 232 = .ok (.if_icmp .le 37, 3) := by decide +kernel
theorem dX8_step_235 : decode cX8_step 235 = .ok (.aload_n 0, 1) := by decide +kernel
theorem dX8_step_236 : decode cX8_step 236 = .ok (.iconst 1, 1) := by decide +kernel
theorem dX8_step_237 : decode cX8_step 237 = .ok (.invokevirtual 108, 3) := by decide +kernel
theorem dX8_step_240 : decode cX8_step 240 = .ok (.goto 29, 3) := by decide +kernel
theorem dX8_step_243 : decode cX8_step 243 = .ok (.aload_n 0, 1) := by decide +kernel
theorem dX8_step_244 : decode cX8_step 244 = .ok (.iconst 3, 1) := by decide +kernel
theorem dX8_step_245 : decode cX8_step 245 = .ok (.putfield 87, 3) := by decide +kernel
theorem dX8_step_248 : decode cX8_step 248 = .ok (.aload_n 0, 1) := by decide +kernel
theorem dX8_step_249 : decode cX8_step 249 = .ok (.dup, 1) := by decide +kernel
theorem dX8_step_250 : decode cX8_step 250 = .ok (.getfield 90, 3) := by decide +kernel
theorem dX8_step_253 : decode cX8_step 253 = .ok (.iconst 1, 1) := by decide +kernel
theorem dX8_step_254 : decode cX8_step 254 = .ok (.iadd, 1) := by decide +kernel
theorem dX8_step_255 : decode cX8_step 255 = .ok (.putfield 90, 3) := by decide +kernel
theorem dX8_step_258 : decode cX8_step 258 = .ok (.iload_n 1, 1) := by decide +kernel
theorem dX8_step_259 : decode cX8_step 259 = .ok (.bipush 59, 2) := by decide +kernel
theorem dX8_step_261 : decode cX8_step 261 = .ok (.if_icmp .eq 8, 3) := by decide +kernel
theorem dX8_step_264 : decode cX8_step 264 = .ok (.aload_n 0, 1) := by decide +kernel
theorem dX8_step_265 : decode cX8_step 265 = .ok (.iconst 1, 1) := by decide +kernel
theorem dX8_step_266 : decode cX8_step 266 = .ok (.invokevirtual 108, 3) := by decide +kernel
theorem dX8_step_269 : decode cX8_step 269 = .ok (.return_, 1) := by decide +kernel
theorem dX8_number_0 : decode cX8_number 0 = .ok (.aload_n 0, 1) := by decide +kernel
theorem dX8_number_1 : decode cX8_number 1 = .ok (.getfield 78, 3) := by decide +kernel
theorem dX8_number_4 : decode cX8_number 4 = .ok (.ifCond .ne 16, 3) := by decide +kernel
theorem dX8_number_7 : decode cX8_number 7 = .ok (.aload_n 0, 1) := by decide +kernel
theorem dX8_number_8 : decode cX8_number 8 = .ok (.getfield 87, 3) := by decide +kernel
theorem dX8_number_11 : decode cX8_number 11 = .ok (.iconst 2, 1) := by decide +kernel
theorem dX8_number_12 : decode cX8_number 12 = .ok (.if_icmp .eq 8, 3) := by decide +kernel
theorem dX8_number_15 : decode cX8_number 15 = .ok (.aload_n 0, 1) := by decide +kernel
theorem dX8_number_16 : decode cX8_number 16 = .ok (.iconst 2, 1) := by decide +kernel
theorem dX8_number_17 : decode cX8_number 17 = .ok (.invokevirtual 108, 3) := by decide +kernel
theorem dX8_number_20 : decode cX8_number 20 = .ok (.aload_n 0, 1) := by decide +kernel
theorem dX8_number_21 : decode cX8_number 21 = .ok (.getfield 78, 3) := by decide +kernel
theorem dX8_number_24 : decode cX8_number 24 = .ok (.ifCond .ne 23, 3) := by decide +kernel
theorem dX8_number_27 : decode cX8_number 27 = .ok (.aload_n 0, 1) := by decide +kernel
theorem dX8_number_28 : decode cX8_number 28 = .ok (.getfield 97, 3) := by decide +kernel
theorem dX8_number_31 : decode cX8_number 31 = .ok (.i2l, 1) := by decide +kernel
theorem dX8_number_32 : decode cX8_number 32 = .ok (.iload_n 1, 1) := by decide +kernel
theorem dX8_number_33 : decode cX8_number 33 = .ok (.i2l, 1) := by decide +kernel
theorem dX8_number_34 : decode cX8_number 34 = .ok (.iload_n 2, 1) := by decide +kernel
theorem dX8_number_35 : decode cX8_number 35 = .ok (.i2l, 1) := by decide +kernel
theorem dX8_number_36 : decode cX8_number 36 = .ok (.invokestatic 71, 3) := by decide +kernel
theorem dX8_number_39 : decode cX8_number 39 = .ok (.ifCond .ne 8, 3) := by decide +kernel
theorem dX8_number_42 : decode cX8_number 42 = .ok (.aload_n 0, 1) := by decide +kernel
theorem dX8_number_43 : decode cX8_number 43 = .ok (.iconst 3, 1) := by decide +kernel
theorem dX8_number_44 : decode cX8_number 44 = .ok (.invokevirtual 108, 3) := by decide +kernel
theorem dX8_number_47 : decode cX8_number 47 = .ok (.aload_n 0, 1) := by decide +kernel
theorem dX8_number_48 : decode cX8_number 48 = .ok (.getfield 78, 3) := by decide +kernel
theorem dX8_number_51 : decode cX8_number 51 = .ok (.ifCond .ne 10, 3) := by decide +kernel
theorem dX8_number_54 : decode cX8_number 54 = .ok (.aload_n 0, 1) := by decide +kernel
theorem dX8_number_55 : decode cX8_number 55 = .ok (.getfield 97, 3) := by decide +kernel
theorem dX8_number_58 : decode cX8_number 58 = .ok (.goto 4, 3) := by decide +kernel
theorem dX8_number_61 : decode cX8_number 61 = .ok (.iload_n 1, 1) := by decide +kernel
theorem dX8_number_62 : decode cX8_number 62 = .ok (.istore_n 3, 1) := by decide +kernel
theorem dX8_number_63 : decode cX8_number 63 = .ok (.aload_n 0, 1) := by decide +kernel
theorem dX8_number_64 : decode cX8_number 64 = .ok (.invokevirtual 112, 3) := by decide +kernel
theorem dX8_number_67 : decode cX8_number 67 = .ok (.iload_n 3, 1) := by decide +kernel
theorem dX8_number_68 : decode cX8_number 68 = .ok (.ireturn, 1) := by decide +kernel
theorem dX8_jointHere_0 : decode cX8_jointHere 0 = .ok (.aload_n 0, 1) := by decide +kernel
theorem dX8_jointHere_1 : decode cX8_jointHere 1 = .ok (.getfield 78, 3) := by decide +kernel
theorem dX8_jointHere_4 : decode cX8_jointHere 4 = .ok (.ifCond .ne 45, 3) := by decide +kernel
theorem dX8_jointHere_7 : decode cX8_jointHere 7 = .ok (.aload_n 0, 1) := by decide +kernel
theorem dX8_jointHere_8 : decode cX8_jointHere 8 = .ok (.getfield 87, 3) := by decide +kernel
theorem dX8_jointHere_11 : decode cX8_jointHere 11 = .ok (.iconst 2, 1) := by decide +kernel
theorem dX8_jointHere_12 : decode cX8_jointHere 12 = .ok (.if_icmp .ne 37, 3) := by decide +kernel
theorem dX8_jointHere_15 : decode cX8_jointHere 15 = .ok (.aload_n 0, 1) := by decide +kernel
theorem dX8_jointHere_16 : decode cX8_jointHere 16 = .ok (.getfield 97, 3) := by decide +kernel
theorem dX8_jointHere_19 : decode cX8_jointHere 19 = .ok (.i2l, 1) := by decide +kernel
theorem dX8_jointHere_20 : decode cX8_jointHere 20 = .ok (.lconst 1, 1) := by decide +kernel
theorem dX8_jointHere_21 : decode cX8_jointHere 21 = .ok (.ldc2_w 115, 3) := by decide +kernel
theorem dX8_jointHere_24 : decode cX8_jointHere 24 = .ok (.invokestatic 71, 3) := by decide +kernel
theorem dX8_jointHere_27 : decode cX8_jointHere 27 = .ok (.ifCond .eq 22, 3) := by decide +kernel
theorem dX8_jointHere_30 : decode cX8_jointHere 30 = .ok (.iload_n 1, 1) := by decide +kernel
theorem dX8_jointHere_31 : decode cX8_jointHere 31 = .ok (.aload_n 0, 1) := by decide +kernel
theorem dX8_jointHere_32 : decode cX8_jointHere 32 = .ok (.getfield 97, 3) := by decide +kernel
theorem dX8_jointHere_35 : decode cX8_jointHere 35 = .ok (.iconst 1, 1) := by decide +kernel
theorem dX8_jointHere_36 : decode cX8_jointHere 36 = .ok (.isub, 1) := by decide +kernel
theorem dX8_jointHere_37 : decode cX8_jointHere 37 = .ok (.ishr, 1) := by decide +kernel
theorem dX8_jointHere_38 : decode cX8_jointHere 38 = .ok (.iconst 1, 1) := by decide +kernel
theorem dX8_jointHere_39 : decode cX8_jointHere 39 = .ok (.iand, 1) := by decide +kernel
theorem dX8_jointHere_40 : decode cX8_jointHere 40 = .ok (.iconst 1, 1) := by decide +kernel
theorem dX8_jointHere_41 : decode cX8_jointHere 41 = .ok (.if_icmp .ne 8, 3) := by decide +kernel
theorem dX8_jointHere_44 : decode cX8_jointHere 44 = .ok (.aload_n 0, 1) := by decide +kernel
theorem dX8_jointHere_45 : decode cX8_jointHere 45 = .ok (.iconst 4, 1) := by decide +kernel
theorem dX8_jointHere_46 : decode cX8_jointHere 46 = .ok (.invokevirtual 108, 3) := by decide +kernel
theorem dX8_jointHere_49 : decode cX8_jointHere 49 = .ok (.aload_n 0, 1) := by decide +kernel
theorem dX8_jointHere_50 : decode cX8_jointHere 50 = .ok (.iconst 1, 1) := by decide +kernel
theorem dX8_jointHere_51 : decode cX8_jointHere 51 = .ok (.bipush 10, 2) := by decide +kernel
theorem dX8_jointHere_53 : decode cX8_jointHere 53 = .ok (.invokevirtual 117, 3) := by decide +kernel
theorem dX8_jointHere_56 : decode cX8_jointHere 56 = .ok (.istore_n 2, 1) := by decide +kernel
theorem dX8_jointHere_57 : decode cX8_jointHere 57 = .ok (.aload_n 0, 1) := by decide +kernel
theorem dX8_jointHere_58 : decode cX8_jointHere 58 = .ok (.iload_n 2, 1) := by decide +kernel
theorem dX8_jointHere_59 : decode cX8_jointHere 59 = .ok (.aload_n 0, 1) := by decide +kernel
theorem dX8_jointHere_60 : decode cX8_jointHere 60 = .ok (.getfield 121, 3) := by decide +kernel
theorem dX8_jointHere_63 : decode cX8_jointHere 63 = .ok (.if_icmp .le 7, 3) := by decide +kernel
theorem dX8_jointHere_66 : decode cX8_jointHere 66 = .ok (.iload_n 2, 1) := by decide +kernel
theorem dX8_jointHere_67 : decode cX8_jointHere 67 = .ok (.goto 7, 3) := by decide +kernel
theorem dX8_jointHere_70 : decode cX8_jointHere 70 = .ok (.aload_n 0, 1) := by decide +kernel
theorem dX8_jointHere_71 : decode cX8_jointHere 71 = .ok (.getfield 121, 3) := by decide +kernel
theorem dX8_jointHere_74 : decode cX8_jointHere 74 = .ok (.putfield 121, 3) := by decide +kernel
theorem dX8_jointHere_77 : decode cX8_jointHere 77 = .ok (.iload_n 2, 1) := by decide +kernel
theorem dX8_jointHere_78 : decode cX8_jointHere 78 = .ok (.ireturn, 1) := by decide +kernel
theorem dX8_readOnce_0 : decode cX8_readOnce 0 = .ok (.iload_n 1, 1) := by decide +kernel
theorem dX8_readOnce_1 : decode cX8_readOnce 1 = .ok (.tableswitch 178 0 5 #[39, 53, 68, 87, 106, 149], 39) := by decide +kernel
theorem dX8_readOnce_40 : decode cX8_readOnce 40 = .ok (.aload_n 0, 1) := by decide +kernel
theorem dX8_readOnce_41 : decode cX8_readOnce 41 = .ok (.aload_n 0, 1) := by decide +kernel
theorem dX8_readOnce_42 : decode cX8_readOnce 42 = .ok (.iconst 2, 1) := by decide +kernel
theorem dX8_readOnce_43 : decode cX8_readOnce 43 = .ok (.bipush 10, 2) := by decide +kernel
theorem dX8_readOnce_45 : decode cX8_readOnce 45 = .ok (.invokevirtual 117, 3) := by decide +kernel
theorem dX8_readOnce_48 : decode cX8_readOnce 48 = .ok (.putfield 124, 3) := by decide +kernel
theorem dX8_readOnce_51 : decode cX8_readOnce 51 = .ok (.goto 144, 3) := by decide +kernel
theorem dX8_readOnce_54 : decode cX8_readOnce 54 = .ok (.aload_n 0, 1) := by decide +kernel
theorem dX8_readOnce_55 : decode cX8_readOnce 55 = .ok (.getfield 29, 3) := by decide +kernel
theorem dX8_readOnce_58 : decode cX8_readOnce 58 = .ok (.bipush 12, 2) := by decide +kernel
theorem dX8_readOnce_60 : decode cX8_readOnce 60 = .ok (.aload_n 0, 1) := by decide +kernel
theorem dX8_readOnce_61 : decode cX8_readOnce 61 = .ok (.iconst 0, 1) := by decide +kernel
theorem dX8_readOnce_62 : decode cX8_readOnce 62 = .ok (.invokevirtual 127, 3) := by decide +kernel
theorem dX8_readOnce_65 : decode cX8_readOnce 65 = .ok (.iastore, 1) := by decide +kernel
theorem dX8_readOnce_66 : decode cX8_readOnce 66 = .ok (.goto 129, 3) := by decide +kernel
theorem dX8_readOnce_69 : decode cX8_readOnce 69 = .ok (.aload_n 0, 1) := by decide +kernel
theorem dX8_readOnce_70 : decode cX8_readOnce 70 = .ok (.getfield 29, 3) := by decide +kernel
theorem dX8_readOnce_73 : decode cX8_readOnce 73 = .ok (.bipush 13, 2) := by decide +kernel
theorem dX8_readOnce_75 : decode cX8_readOnce 75 = .ok (.aload_n 0, 1) := by decide +kernel
theorem dX8_readOnce_76 : decode cX8_readOnce 76 = .ok (.iconst 0, 1) := by decide +kernel
theorem dX8_readOnce_77 : decode cX8_readOnce 77 = .ok (.bipush 10, 2) := by decide +kernel
theorem dX8_readOnce_79 : decode cX8_readOnce 79 = .ok (.invokevirtual 117, 3) := by decide +kernel
theorem dX8_readOnce_82 : decode cX8_readOnce 82 = .ok (.iconst 1, 1) := by decide +kernel
theorem dX8_readOnce_83 : decode cX8_readOnce 83 = .ok (.isub, 1) := by decide +kernel
theorem dX8_readOnce_84 : decode cX8_readOnce 84 = .ok (.iastore, 1) := by decide +kernel
theorem dX8_readOnce_85 : decode cX8_readOnce 85 = .ok (.goto 110, 3) := by decide +kernel
theorem dX8_readOnce_88 : decode cX8_readOnce 88 = .ok (.aload_n 0, 1) := by decide +kernel
theorem dX8_readOnce_89 : decode cX8_readOnce 89 = .ok (.getfield 29, 3) := by decide +kernel
theorem dX8_readOnce_92 : decode cX8_readOnce 92 = .ok (.bipush 14, 2) := by decide +kernel
theorem dX8_readOnce_94 : decode cX8_readOnce 94 = .ok (.aload_n 0, 1) := by decide +kernel
theorem dX8_readOnce_95 : decode cX8_readOnce 95 = .ok (.iconst 1, 1) := by decide +kernel
theorem dX8_readOnce_96 : decode cX8_readOnce 96 = .ok (.bipush 9, 2) := by decide +kernel
theorem dX8_readOnce_98 : decode cX8_readOnce 98 = .ok (.invokevirtual 117, 3) := by decide +kernel
theorem dX8_readOnce_101 : decode cX8_readOnce 101 = .ok (.iconst 5, 1) := by decide +kernel
theorem dX8_readOnce_102 : decode cX8_readOnce 102 = .ok (.isub, 1) := by decide +kernel
theorem dX8_readOnce_103 : decode cX8_readOnce 103 = .ok (.iastore, 1) := by decide +kernel
theorem dX8_readOnce_104 : decode cX8_readOnce 104 = .ok (.goto 91, 3) := by decide +kernel
theorem dX8_readOnce_107 : decode cX8_readOnce 107 = .ok (.aload_n 0, 1) := by decide +kernel
theorem dX8_readOnce_108 : decode cX8_readOnce 108 = .ok (.getfield 29, 3) := by decide +kernel
theorem dX8_readOnce_111 : decode cX8_readOnce 111 = .ok (.bipush 15, 2) := by decide +kernel
theorem dX8_readOnce_113 : decode cX8_readOnce 113 = .ok (.aload_n 0, 1) := by decide +kernel
theorem dX8_readOnce_114 : decode cX8_readOnce 114 = .ok (.iconst 1, 1) := by decide +kernel
theorem dX8_readOnce_115 : decode cX8_readOnce 115 = .ok (.bipush 10, 2) := by decide +kernel
theorem dX8_readOnce_117 : decode cX8_readOnce 117 = .ok (.invokevirtual 117, 3) := by decide +kernel
theorem dX8_readOnce_120 : decode cX8_readOnce 120 = .ok (.iconst 2, 1) := by decide +kernel
theorem dX8_readOnce_121 : decode cX8_readOnce 121 = .ok (.isub, 1) := by decide +kernel
theorem dX8_readOnce_122 : decode cX8_readOnce 122 = .ok (.iastore, 1) := by decide +kernel
theorem dX8_readOnce_123 : decode cX8_readOnce 123 = .ok (.aload_n 0, 1) := by decide +kernel
theorem dX8_readOnce_124 : decode cX8_readOnce 124 = .ok (.getfield 29, 3) := by decide +kernel
theorem dX8_readOnce_127 : decode cX8_readOnce 127 = .ok (.bipush 16, 2) := by decide +kernel
theorem dX8_readOnce_129 : decode cX8_readOnce 129 = .ok (.aload_n 0, 1) := by decide +kernel
theorem dX8_readOnce_130 : decode cX8_readOnce 130 = .ok (.aload_n 0, 1) := by decide +kernel
theorem dX8_readOnce_131 : decode cX8_readOnce 131 = .ok (.getfield 29, 3) := by decide +kernel
theorem dX8_readOnce_134 : decode cX8_readOnce 134 = .ok (.bipush 15, 2) := by decide +kernel
theorem dX8_readOnce_136 : decode cX8_readOnce 136 = .ok (.iaload, 1) := by decide +kernel
theorem dX8_readOnce_137 : decode cX8_readOnce 137 = .ok (.iconst 3, 1) := by decide +kernel
theorem dX8_readOnce_138 : decode cX8_readOnce 138 = .ok (.iadd, 1) := by decide +kernel
theorem dX8_readOnce_139 : decode cX8_readOnce 139 = .ok (.bipush 11, 2) := by decide +kernel
theorem dX8_readOnce_141 : decode cX8_readOnce 141 = .ok (.invokevirtual 117, 3) := by decide +kernel
theorem dX8_readOnce_144 : decode cX8_readOnce 144 = .ok (.iconst 4, 1) := by decide +kernel
theorem dX8_readOnce_145 : decode cX8_readOnce 145 = .ok (.isub, 1) := by decide +kernel
theorem dX8_readOnce_146 : decode cX8_readOnce 146 = .ok (.iastore, 1) := by decide +kernel
theorem dX8_readOnce_147 : decode cX8_readOnce 147 = .ok (.goto 48, 3) := by decide +kernel
theorem dX8_readOnce_150 : decode cX8_readOnce 150 = .ok (.aload_n 0, 1) := by decide +kernel
theorem dX8_readOnce_151 : decode cX8_readOnce 151 = .ok (.getfield 41, 3) := by decide +kernel
theorem dX8_readOnce_154 : decode cX8_readOnce 154 = .ok (.iconst 0, 1) := by decide +kernel
theorem dX8_readOnce_155 : decode cX8_readOnce 155 = .ok (.aload_n 0, 1) := by decide +kernel
theorem dX8_readOnce_156 : decode cX8_readOnce 156 = .ok (.iconst 0, 1) := by decide +kernel
theorem dX8_readOnce_157 : decode cX8_readOnce 157 = .ok (.bipush 9, 2) := by decide +kernel
theorem dX8_readOnce_159 : decode cX8_readOnce 159 = .ok (.invokevirtual 117, 3) := by decide +kernel
theorem dX8_readOnce_162 : decode cX8_readOnce 162 = .ok (.iastore, 1) := by decide +kernel
theorem dX8_readOnce_163 : decode cX8_readOnce 163 = .ok (.aload_n 0, 1) := by decide +kernel
theorem dX8_readOnce_164 : decode cX8_readOnce 164 = .ok (.getfield 41, 3) := by decide +kernel
theorem dX8_readOnce_167 : decode cX8_readOnce 167 = .ok (.iconst 1, 1) := by decide +kernel
theorem dX8_readOnce_168 : decode cX8_readOnce 168 = .ok (.aload_n 0, 1) := by decide +kernel
theorem dX8_readOnce_169 : decode cX8_readOnce 169 = .ok (.iconst 0, 1) := by decide +kernel
theorem dX8_readOnce_170 : decode cX8_readOnce 170 = .ok (.bipush 9, 2) := by decide +kernel
theorem dX8_readOnce_172 : decode cX8_readOnce 172 = .ok (.invokevirtual 117, 3) := by decide +kernel
theorem dX8_readOnce_175 : decode cX8_readOnce 175 = .ok (.iastore, 1) := by decide +kernel
theorem dX8_readOnce_176 : decode cX8_readOnce 176 = .ok (.goto 19, 3) := by decide +kernel
theorem dX8_readOnce_179 : decode cX8_readOnce 179 = .ok (.aload_n 0, 1) := by decide +kernel
theorem dX8_readOnce_180 : decode cX8_readOnce 180 = .ok (.getfield 29, 3) := by decide +kernel
theorem dX8_readOnce_183 : decode cX8_readOnce 183 = .ok (.bipush 17, 2) := by decide +kernel
theorem dX8_readOnce_185 : decode cX8_readOnce 185 = .ok (.aload_n 0, 1) := by decide +kernel
theorem dX8_readOnce_186 : decode cX8_readOnce 186 = .ok (.iconst 1, 1) := by decide +kernel
theorem dX8_readOnce_187 : decode cX8_readOnce 187 = .ok (.bipush 9, 2) := by decide +kernel
theorem dX8_readOnce_189 : decode cX8_readOnce 189 = .ok (.invokevirtual 117, 3) := by decide +kernel
theorem dX8_readOnce_192 : decode cX8_readOnce 192 = .ok (.iconst 3, 1) := by decide +kernel
theorem dX8_readOnce_193 : decode cX8_readOnce 193 = .ok (.isub, 1) := by decide +kernel
theorem dX8_readOnce_194 : decode cX8_readOnce 194 = .ok (.iastore, 1) := by decide +kernel
theorem dX8_readOnce_195 : decode cX8_readOnce 195 = .ok (.return_, 1) := by decide +kernel
theorem dX8_readMore_0 : decode cX8_readMore 0 = .ok (.iload_n 1, 1) := by decide +kernel
theorem dX8_readMore_1 : decode cX8_readMore 1 = .ok (.bipush 7, 2) := by decide +kernel
theorem dX8_readMore_3 : decode cX8_readMore 3 = .ok (.if_icmp .ne 109, 3) := by decide +kernel
theorem dX8_readMore_6 : decode cX8_readMore 6 = .ok (.aload_n 0, 1) := by decide +kernel
theorem dX8_readMore_7 : decode cX8_readMore 7 = .ok (.invokevirtual 130, 3) := by decide +kernel
theorem dX8_readMore_10 : decode cX8_readMore 10 = .ok (.bipush 11, 2) := by decide +kernel
theorem dX8_readMore_12 : decode cX8_readMore 12 = .ok (.isub, 1) := by decide +kernel
theorem dX8_readMore_13 : decode cX8_readMore 13 = .ok (.istore_n 2, 1) := by decide +kernel
theorem dX8_readMore_14 : decode cX8_readMore 14 = .ok (.aload_n 0, 1) := by decide +kernel
theorem dX8_readMore_15 : decode cX8_readMore 15 = .ok (.getfield 78, 3) := by decide +kernel
theorem dX8_readMore_18 : decode cX8_readMore 18 = .ok (.ifCond .ne 12, 3) := by decide +kernel
theorem dX8_readMore_21 : decode cX8_readMore 21 = .ok (.iload_n 2, 1) := by decide +kernel
theorem dX8_readMore_22 : decode cX8_readMore 22 = .ok (.ifCond .ge 8, 3) := by decide +kernel
theorem dX8_readMore_25 : decode cX8_readMore 25 = .ok (.aload_n 0, 1) := by decide +kernel
theorem dX8_readMore_26 : decode cX8_readMore 26 = .ok (.iconst 2, 1) := by decide +kernel
theorem dX8_readMore_27 : decode cX8_readMore 27 = .ok (.invokevirtual 108, 3) := by decide +kernel
theorem dX8_readMore_30 : decode cX8_readMore 30 = .ok (.aload_n 0, 1) := by decide +kernel
theorem dX8_readMore_31 : decode cX8_readMore 31 = .ok (.getfield 29, 3) := by decide +kernel
theorem dX8_readMore_34 : decode cX8_readMore 34 = .ok (.aload_n 0, 1) := by decide +kernel
theorem dX8_readMore_35 : decode cX8_readMore 35 = .ok (.getfield 134, 3) := by decide +kernel
theorem dX8_readMore_38 : decode cX8_readMore 38 = .ok (.iload_n 2, 1) := by decide +kernel
theorem dX8_readMore_39 : decode cX8_readMore 39 = .ok (.iastore, 1) := by decide +kernel
theorem dX8_readMore_40 : decode cX8_readMore 40 = .ok (.aload_n 0, 1) := by decide +kernel
theorem dX8_readMore_41 : decode cX8_readMore 41 = .ok (.invokevirtual 112, 3) := by decide +kernel
theorem dX8_readMore_44 : decode cX8_readMore 44 = .ok (.aload_n 0, 1) := by decide +kernel
theorem dX8_readMore_45 : decode cX8_readMore 45 = .ok (.aload_n 0, 1) := by decide +kernel
theorem dX8_readMore_46 : decode cX8_readMore 46 = .ok (.getfield 137, 3) := by decide +kernel
theorem dX8_readMore_49 : decode cX8_readMore 49 = .ok (.invokevirtual 127, 3) := by decide +kernel
theorem dX8_readMore_52 : decode cX8_readMore 52 = .ok (.istore_n 3, 1) := by decide +kernel
theorem dX8_readMore_53 : decode cX8_readMore 53 = .ok (.aload_n 0, 1) := by decide +kernel
theorem dX8_readMore_54 : decode cX8_readMore 54 = .ok (.dup, 1) := by decide +kernel
theorem dX8_readMore_55 : decode cX8_readMore 55 = .ok (.getfield 137, 3) := by decide +kernel
theorem dX8_readMore_58 : decode cX8_readMore 58 = .ok (.iconst 1, 1) := by decide +kernel
theorem dX8_readMore_59 : decode cX8_readMore 59 = .ok (.iload_n 3, 1) := by decide +kernel
theorem dX8_readMore_60 : decode cX8_readMore 60 = .ok (.iconst 1, 1) := by decide +kernel
theorem dX8_readMore_61 : decode cX8_readMore 61 = .ok (.isub, 1) := by decide +kernel
theorem dX8_readMore_62 : decode cX8_readMore 62 = .ok (.ishl, 1) := by decide +kernel
theorem dX8_readMore_63 : decode cX8_readMore 63 = .ok (.ior, 1) := by decide +kernel
theorem dX8_readMore_64 : decode cX8_readMore 64 = .ok (.putfield 137, 3) := by decide +kernel
theorem dX8_readMore_67 : decode cX8_readMore 67 = .ok (.aload_n 0, 1) := by decide +kernel
theorem dX8_readMore_68 : decode cX8_readMore 68 = .ok (.getfield 32, 3) := by decide +kernel
theorem dX8_readMore_71 : decode cX8_readMore 71 = .ok (.iconst 2, 1) := by decide +kernel
theorem dX8_readMore_72 : decode cX8_readMore 72 = .ok (.aload_n 0, 1) := by decide +kernel
theorem dX8_readMore_73 : decode cX8_readMore 73 = .ok (.getfield 134, 3) := by decide +kernel
theorem dX8_readMore_76 : decode cX8_readMore 76 = .ok (.imul, 1) := by decide +kernel
theorem dX8_readMore_77 : decode cX8_readMore 77 = .ok (.iload_n 3, 1) := by decide +kernel
theorem dX8_readMore_78 : decode cX8_readMore 78 = .ok (.iastore, 1) := by decide +kernel
theorem dX8_readMore_79 : decode cX8_readMore 79 = .ok (.aload_n 0, 1) := by decide +kernel
theorem dX8_readMore_80 : decode cX8_readMore 80 = .ok (.getfield 32, 3) := by decide +kernel
theorem dX8_readMore_83 : decode cX8_readMore 83 = .ok (.iconst 2, 1) := by decide +kernel
theorem dX8_readMore_84 : decode cX8_readMore 84 = .ok (.aload_n 0, 1) := by decide +kernel
theorem dX8_readMore_85 : decode cX8_readMore 85 = .ok (.getfield 134, 3) := by decide +kernel
theorem dX8_readMore_88 : decode cX8_readMore 88 = .ok (.imul, 1) := by decide +kernel
theorem dX8_readMore_89 : decode cX8_readMore 89 = .ok (.iconst 1, 1) := by decide +kernel
theorem dX8_readMore_90 : decode cX8_readMore 90 = .ok (.iadd, 1) := by decide +kernel
theorem dX8_readMore_91 : decode cX8_readMore 91 = .ok (.aload_n 0, 1) := by decide +kernel
theorem dX8_readMore_92 : decode cX8_readMore 92 = .ok (.iconst 0, 1) := by decide +kernel
theorem dX8_readMore_93 : decode cX8_readMore 93 = .ok (.bipush 9, 2) := by decide +kernel
theorem dX8_readMore_95 : decode cX8_readMore 95 = .ok (.invokevirtual 117, 3) := by decide +kernel
theorem dX8_readMore_98 : decode cX8_readMore 98 = .ok (.iastore, 1) := by decide +kernel
theorem dX8_readMore_99 : decode cX8_readMore 99 = .ok (.aload_n 0, 1) := by decide +kernel
theorem dX8_readMore_100 : decode cX8_readMore 100 = .ok (.dup, 1) := by decide +kernel
theorem dX8_readMore_101 : decode cX8_readMore 101 = .ok (.getfield 134, 3) := by decide +kernel
theorem dX8_readMore_104 : decode cX8_readMore 104 = .ok (.iconst 1, 1) := by decide +kernel
theorem dX8_readMore_105 : decode cX8_readMore 105 = .ok (.iadd, 1) := by decide +kernel
theorem dX8_readMore_106 : decode cX8_readMore 106 = .ok (.putfield 134, 3) := by decide +kernel
theorem dX8_readMore_109 : decode cX8_readMore 109 = .ok (.goto 152, 3) := by decide +kernel
theorem dX8_readMore_112 : decode cX8_readMore 112 = .ok (.iload_n 1, 1) := by decide +kernel
theorem dX8_readMore_113 : decode cX8_readMore 113 = .ok (.bipush 8, 2) := by decide +kernel
theorem dX8_readMore_115 : decode cX8_readMore 115 = .ok (.if_icmp .ne 67, 3) := by decide +kernel
theorem dX8_readMore_118 : decode cX8_readMore 118 = .ok (.aload_n 0, 1) := by decide +kernel
theorem dX8_readMore_119 : decode cX8_readMore 119 = .ok (.aload_n 0, 1) := by decide +kernel
theorem dX8_readMore_120 : decode cX8_readMore 120 = .ok (.getfield 140, 3) := by decide +kernel
theorem dX8_readMore_123 : decode cX8_readMore 123 = .ok (.invokevirtual 127, 3) := by decide +kernel
theorem dX8_readMore_126 : decode cX8_readMore 126 = .ok (.istore_n 2, 1) := by decide +kernel
theorem dX8_readMore_127 : decode cX8_readMore 127 = .ok (.aload_n 0, 1) := by decide +kernel
theorem dX8_readMore_128 : decode cX8_readMore 128 = .ok (.dup, 1) := by decide +kernel
theorem dX8_readMore_129 : decode cX8_readMore 129 = .ok (.getfield 140, 3) := by decide +kernel
theorem dX8_readMore_132 : decode cX8_readMore 132 = .ok (.iconst 1, 1) := by decide +kernel
theorem dX8_readMore_133 : decode cX8_readMore 133 = .ok (.iload_n 2, 1) := by decide +kernel
theorem dX8_readMore_134 : decode cX8_readMore 134 = .ok (.iconst 1, 1) := by decide +kernel
theorem dX8_readMore_135 : decode cX8_readMore 135 = .ok (.isub, 1) := by decide +kernel
theorem dX8_readMore_136 : decode cX8_readMore 136 = .ok (.ishl, 1) := by decide +kernel
theorem dX8_readMore_137 : decode cX8_readMore 137 = .ok (.ior, 1) := by decide +kernel
theorem dX8_readMore_138 : decode cX8_readMore 138 = .ok (.putfield 140, 3) := by decide +kernel
theorem dX8_readMore_141 : decode cX8_readMore 141 = .ok (.aload_n 0, 1) := by decide +kernel
theorem dX8_readMore_142 : decode cX8_readMore 142 = .ok (.getfield 35, 3) := by decide +kernel
theorem dX8_readMore_145 : decode cX8_readMore 145 = .ok (.aload_n 0, 1) := by decide +kernel
theorem dX8_readMore_146 : decode cX8_readMore 146 = .ok (.getfield 143, 3) := by decide +kernel
theorem dX8_readMore_149 : decode cX8_readMore 149 = .ok (.iload_n 2, 1) := by decide +kernel
theorem dX8_readMore_150 : decode cX8_readMore 150 = .ok (.iastore, 1) := by decide +kernel
theorem dX8_readMore_151 : decode cX8_readMore 151 = .ok (.aload_n 0, 1) := by decide +kernel
theorem dX8_readMore_152 : decode cX8_readMore 152 = .ok (.getfield 29, 3) := by decide +kernel
theorem dX8_readMore_155 : decode cX8_readMore 155 = .ok (.iconst 3, 1) := by decide +kernel
theorem dX8_readMore_156 : decode cX8_readMore 156 = .ok (.aload_n 0, 1) := by decide +kernel
theorem dX8_readMore_157 : decode cX8_readMore 157 = .ok (.getfield 143, 3) := by decide +kernel
theorem dX8_readMore_160 : decode cX8_readMore 160 = .ok (.iadd, 1) := by decide +kernel
theorem dX8_readMore_161 : decode cX8_readMore 161 = .ok (.aload_n 0, 1) := by decide +kernel
theorem dX8_readMore_162 : decode cX8_readMore 162 = .ok (.iconst 0, 1) := by decide +kernel
theorem dX8_readMore_163 : decode cX8_readMore 163 = .ok (.bipush 10, 2) := by decide +kernel
theorem dX8_readMore_165 : decode cX8_readMore 165 = .ok (.invokevirtual 117, 3) := by decide +kernel
theorem dX8_readMore_168 : decode cX8_readMore 168 = .ok (.iastore, 1) := by decide +kernel
theorem dX8_readMore_169 : decode cX8_readMore 169 = .ok (.aload_n 0, 1) := by decide +kernel
theorem dX8_readMore_170 : decode cX8_readMore 170 = .ok (.dup, 1) := by decide +kernel
theorem dX8_readMore_171 : decode cX8_readMore 171 = .ok (.getfield 143, 3) := by decide +kernel
theorem dX8_readMore_174 : decode cX8_readMore 174 = .ok (.iconst 1, 1) := by decide +kernel
theorem dX8_readMore_175 : decode cX8_readMore 175 = .ok (.iadd, 1) := by decide +kernel
theorem dX8_readMore_176 : decode cX8_readMore 176 = .ok (.putfield 143, 3) := by decide +kernel
theorem dX8_readMore_179 : decode cX8_readMore 179 = .ok (.goto 82, 3) := by decide +kernel
theorem dX8_readMore_182 : decode cX8_readMore 182 = .ok (.iload_n 1, 1) := by decide +kernel
theorem dX8_readMore_183 : decode cX8_readMore 183 = .ok (.bipush 9, 2) := by decide +kernel
theorem dX8_readMore_185 : decode cX8_readMore 185 = .ok (.if_icmp .ne 51, 3) := by decide +kernel
theorem dX8_readMore_188 : decode cX8_readMore 188 = .ok (.aload_n 0, 1) := by decide +kernel
theorem dX8_readMore_189 : decode cX8_readMore 189 = .ok (.getfield 29, 3) := by decide +kernel
theorem dX8_readMore_192 : decode cX8_readMore 192 = .ok (.bipush 6, 2) := by decide +kernel
theorem dX8_readMore_194 : decode cX8_readMore 194 = .ok (.aload_n 0, 1) := by decide +kernel
theorem dX8_readMore_195 : decode cX8_readMore 195 = .ok (.getfield 146, 3) := by decide +kernel
theorem dX8_readMore_198 : decode cX8_readMore 198 = .ok (.iadd, 1) := by decide +kernel
theorem dX8_readMore_199 : decode cX8_readMore 199 = .ok (.aload_n 0, 1) := by decide +kernel
theorem dX8_readMore_200 : decode cX8_readMore 200 = .ok (.iconst 0, 1) := by decide +kernel
theorem dX8_readMore_201 : decode cX8_readMore 201 = .ok (.bipush 99, 2) := by decide +kernel
theorem dX8_readMore_203 : decode cX8_readMore 203 = .ok (.invokevirtual 117, 3) := by decide +kernel
theorem dX8_readMore_206 : decode cX8_readMore 206 = .ok (.iastore, 1) := by decide +kernel
theorem dX8_readMore_207 : decode cX8_readMore 207 = .ok (.aload_n 0, 1) := by decide +kernel
theorem dX8_readMore_208 : decode cX8_readMore 208 = .ok (.getfield 38, 3) := by decide +kernel
theorem dX8_readMore_211 : decode cX8_readMore 211 = .ok (.aload_n 0, 1) := by decide +kernel
theorem dX8_readMore_212 : decode cX8_readMore 212 = .ok (.getfield 146, 3) := by decide +kernel
theorem dX8_readMore_215 : decode cX8_readMore 215 = .ok (.aload_n 0, 1) := by decide +kernel
theorem dX8_readMore_216 : decode cX8_readMore 216 = .ok (.iconst 0, 1) := by decide +kernel
theorem dX8_readMore_217 : decode cX8_readMore 217 = .ok (.bipush 9, 2) := by decide +kernel
theorem dX8_readMore_219 : decode cX8_readMore 219 = .ok (.invokevirtual 117, 3) := by decide +kernel
theorem dX8_readMore_222 : decode cX8_readMore 222 = .ok (.iastore, 1) := by decide +kernel
theorem dX8_readMore_223 : decode cX8_readMore 223 = .ok (.aload_n 0, 1) := by decide +kernel
theorem dX8_readMore_224 : decode cX8_readMore 224 = .ok (.dup, 1) := by decide +kernel
theorem dX8_readMore_225 : decode cX8_readMore 225 = .ok (.getfield 146, 3) := by decide +kernel
theorem dX8_readMore_228 : decode cX8_readMore 228 = .ok (.iconst 1, 1) := by decide +kernel
theorem dX8_readMore_229 : decode cX8_readMore 229 = .ok (.iadd, 1) := by decide +kernel
theorem dX8_readMore_230 : decode cX8_readMore 230 = .ok (.putfield 146, 3) := by decide +kernel
theorem dX8_readMore_233 : decode cX8_readMore 233 = .ok (.goto 28, 3) := by decide +kernel
theorem dX8_readMore_236 : decode cX8_readMore 236 = .ok (.aload_n 0, 1) := by decide +kernel
theorem dX8_readMore_237 : decode cX8_readMore 237 = .ok (.getfield 29, 3) := by decide +kernel
theorem dX8_readMore_240 : decode cX8_readMore 240 = .ok (.bipush 11, 2) := by decide +kernel
theorem dX8_readMore_242 : decode cX8_readMore 242 = .ok (.dup2, 1) := by decide +kernel
theorem dX8_readMore_243 : decode cX8_readMore 243 = .ok (.iaload, 1) := by decide +kernel
theorem dX8_readMore_244 : decode cX8_readMore 244 = .ok (.iconst 1, 1) := by decide +kernel
theorem dX8_readMore_245 : decode cX8_readMore 245 = .ok (.aload_n 0, 1) := by decide +kernel
theorem dX8_readMore_246 : decode cX8_readMore 246 = .ok (.aload_n 0, 1) := by decide +kernel
theorem dX8_readMore_247 : decode cX8_readMore 247 = .ok (.getfield 29, 3) := by decide +kernel
theorem dX8_readMore_250 : decode cX8_readMore 250 = .ok (.bipush 11, 2) := by decide +kernel
theorem dX8_readMore_252 : decode cX8_readMore 252 = .ok (.iaload, 1) := by decide +kernel
theorem dX8_readMore_253 : decode cX8_readMore 253 = .ok (.invokevirtual 127, 3) := by decide +kernel
theorem dX8_readMore_256 : decode cX8_readMore 256 = .ok (.iconst 1, 1) := by decide +kernel
theorem dX8_readMore_257 : decode cX8_readMore 257 = .ok (.isub, 1) := by decide +kernel
theorem dX8_readMore_258 : decode cX8_readMore 258 = .ok (.ishl, 1) := by decide +kernel
theorem dX8_readMore_259 : decode cX8_readMore 259 = .ok (.ior, 1) := by decide +kernel
theorem dX8_readMore_260 : decode cX8_readMore 260 = .ok (.iastore, 1) := by decide +kernel
theorem dX8_readMore_261 : decode cX8_readMore 261 = .ok (.return_, 1) := by decide +kernel
theorem dX8_readLine_0 : decode cX8_readLine 0 = .ok (.aload_n 0, 1) := by decide +kernel
theorem dX8_readLine_1 : decode cX8_readLine 1 = .ok (.invokevirtual 130, 3) := by decide +kernel
theorem dX8_readLine_4 : decode cX8_readLine 4 = .ok (.istore_n 1, 1) := by decide +kernel
theorem dX8_readLine_5 : decode cX8_readLine 5 = .ok (.iload_n 1, 1) := by decide +kernel
theorem dX8_readLine_6 : decode cX8_readLine 6 = .ok (.i2l, 1) := by decide +kernel
theorem dX8_readLine_7 : decode cX8_readLine 7 = .ok (.lconst 0, 1) := by decide +kernel
theorem dX8_readLine_8 : decode cX8_readLine 8 = .ok (.ldc2_w 115, 3) := by decide +kernel
theorem dX8_readLine_11 : decode cX8_readLine 11 = .ok (.invokestatic 71, 3) := by decide +kernel
theorem dX8_readLine_14 : decode cX8_readLine 14 = .ok (.ifCond .ne 9, 3) := by decide +kernel
theorem dX8_readLine_17 : decode cX8_readLine 17 = .ok (.aload_n 0, 1) := by decide +kernel
theorem dX8_readLine_18 : decode cX8_readLine 18 = .ok (.iconst 2, 1) := by decide +kernel
theorem dX8_readLine_19 : decode cX8_readLine 19 = .ok (.invokevirtual 108, 3) := by decide +kernel
theorem dX8_readLine_22 : decode cX8_readLine 22 = .ok (.return_, 1) := by decide +kernel
theorem dX8_readLine_23 : decode cX8_readLine 23 = .ok (.iload_n 1, 1) := by decide +kernel
theorem dX8_readLine_24 : decode cX8_readLine 24 = .ok (.bipush 7, 2) := by decide +kernel
theorem dX8_readLine_26 : decode cX8_readLine 26 = .ok (.if_icmp .ne 11, 3) := by decide +kernel
theorem dX8_readLine_29 : decode cX8_readLine 29 = .ok (.aload_n 0, 1) := by decide +kernel
theorem dX8_readLine_30 : decode cX8_readLine 30 = .ok (.getfield 134, 3) := by decide +kernel
theorem dX8_readLine_33 : decode cX8_readLine 33 = .ok (.iconst 3, 1) := by decide +kernel
theorem dX8_readLine_34 : decode cX8_readLine 34 = .ok (.if_icmp .eq 31, 3) := by decide +kernel
theorem dX8_readLine_37 : decode cX8_readLine 37 = .ok (.iload_n 1, 1) := by decide +kernel
theorem dX8_readLine_38 : decode cX8_readLine 38 = .ok (.bipush 8, 2) := by decide +kernel
theorem dX8_readLine_40 : decode cX8_readLine 40 = .ok (.if_icmp .ne 11, 3) := by decide +kernel
theorem dX8_readLine_43 : decode cX8_readLine 43 = .ok (.aload_n 0, 1) := by decide +kernel
theorem dX8_readLine_44 : decode cX8_readLine 44 = .ok (.getfield 143, 3) := by decide +kernel
theorem dX8_readLine_47 : decode cX8_readLine 47 = .ok (.iconst 3, 1) := by decide +kernel
theorem dX8_readLine_48 : decode cX8_readLine 48 = .ok (.if_icmp .eq 17, 3) := by decide +kernel
theorem dX8_readLine_51 : decode cX8_readLine 51 = .ok (.iload_n 1, 1) := by decide +kernel
theorem dX8_readLine_52 : decode cX8_readLine 52 = .ok (.bipush 9, 2) := by decide +kernel
theorem dX8_readLine_54 : decode cX8_readLine 54 = .ok (.if_icmp .ne 16, 3) := by decide +kernel
theorem dX8_readLine_57 : decode cX8_readLine 57 = .ok (.aload_n 0, 1) := by decide +kernel
theorem dX8_readLine_58 : decode cX8_readLine 58 = .ok (.getfield 146, 3) := by decide +kernel
theorem dX8_readLine_61 : decode cX8_readLine 61 = .ok (.iconst 5, 1) := by decide +kernel
theorem dX8_readLine_62 : decode cX8_readLine 62 = .ok (.if_icmp .ne 8, 3) := by decide +kernel
theorem dX8_readLine_65 : decode cX8_readLine 65 = .ok (.aload_n 0, 1) := by decide +kernel
theorem dX8_readLine_66 : decode cX8_readLine 66 = .ok (.iconst 5, 1) := by decide +kernel
theorem dX8_readLine_67 : decode cX8_readLine 67 = .ok (.invokevirtual 108, 3) := by decide +kernel
theorem dX8_readLine_70 : decode cX8_readLine 70 = .ok (.iload_n 1, 1) := by decide +kernel
theorem dX8_readLine_71 : decode cX8_readLine 71 = .ok (.bipush 6, 2) := by decide +kernel
theorem dX8_readLine_73 : decode cX8_readLine 73 = .ok (.if_icmp .gt 20, 3) := by decide +kernel
theorem dX8_readLine_76 : decode cX8_readLine 76 = .ok (.aload_n 0, 1) := by decide +kernel
theorem dX8_readLine_77 : decode cX8_readLine 77 = .ok (.getfield 149, 3) := by decide +kernel
theorem dX8_readLine_80 : decode cX8_readLine 80 = .ok (.iload_n 1, 1) := by decide +kernel
theorem dX8_readLine_81 : decode cX8_readLine 81 = .ok (.ishr, 1) := by decide +kernel
theorem dX8_readLine_82 : decode cX8_readLine 82 = .ok (.iconst 1, 1) := by decide +kernel
theorem dX8_readLine_83 : decode cX8_readLine 83 = .ok (.iand, 1) := by decide +kernel
theorem dX8_readLine_84 : decode cX8_readLine 84 = .ok (.iconst 1, 1) := by decide +kernel
theorem dX8_readLine_85 : decode cX8_readLine 85 = .ok (.if_icmp .ne 8, 3) := by decide +kernel
theorem dX8_readLine_88 : decode cX8_readLine 88 = .ok (.aload_n 0, 1) := by decide +kernel
theorem dX8_readLine_89 : decode cX8_readLine 89 = .ok (.iconst 4, 1) := by decide +kernel
theorem dX8_readLine_90 : decode cX8_readLine 90 = .ok (.invokevirtual 108, 3) := by decide +kernel
theorem dX8_readLine_93 : decode cX8_readLine 93 = .ok (.aload_n 0, 1) := by decide +kernel
theorem dX8_readLine_94 : decode cX8_readLine 94 = .ok (.dup, 1) := by decide +kernel
theorem dX8_readLine_95 : decode cX8_readLine 95 = .ok (.getfield 149, 3) := by decide +kernel
theorem dX8_readLine_98 : decode cX8_readLine 98 = .ok (.iconst 1, 1) := by decide +kernel
theorem dX8_readLine_99 : decode cX8_readLine 99 = .ok (.iload_n 1, 1) := by decide +kernel
theorem dX8_readLine_100 : decode cX8_readLine 100 = .ok (.ishl, 1) := by decide +kernel
theorem dX8_readLine_101 : decode cX8_readLine 101 = .ok (.ior, 1) := by decide +kernel
theorem dX8_readLine_102 : decode cX8_readLine 102 = .ok (.putfield 149, 3) := by decide +kernel
theorem dX8_readLine_105 : decode cX8_readLine 105 = .ok (.aload_n 0, 1) := by decide +kernel
theorem dX8_readLine_106 : decode cX8_readLine 106 = .ok (.invokevirtual 112, 3) := by decide +kernel
theorem dX8_readLine_109 : decode cX8_readLine 109 = .ok (.aload_n 0, 1) := by decide +kernel
theorem dX8_readLine_110 : decode cX8_readLine 110 = .ok (.getfield 78, 3) := by decide +kernel
theorem dX8_readLine_113 : decode cX8_readLine 113 = .ok (.ifCond .le 4, 3) := by decide +kernel
theorem dX8_readLine_116 : decode cX8_readLine 116 = .ok (.return_, 1) := by decide +kernel
theorem dX8_readLine_117 : decode cX8_readLine 117 = .ok (.iload_n 1, 1) := by decide +kernel
theorem dX8_readLine_118 : decode cX8_readLine 118 = .ok (.bipush 6, 2) := by decide +kernel
theorem dX8_readLine_120 : decode cX8_readLine 120 = .ok (.if_icmp .gt 11, 3) := by decide +kernel
theorem dX8_readLine_123 : decode cX8_readLine 123 = .ok (.aload_n 0, 1) := by decide +kernel
theorem dX8_readLine_124 : decode cX8_readLine 124 = .ok (.iload_n 1, 1) := by decide +kernel
theorem dX8_readLine_125 : decode cX8_readLine 125 = .ok (.invokevirtual 152, 3) := by decide +kernel
theorem dX8_readLine_128 : decode cX8_readLine 128 = .ok (.goto 8, 3) := by decide +kernel
theorem dX8_readLine_131 : decode cX8_readLine 131 = .ok (.aload_n 0, 1) := by decide +kernel
theorem dX8_readLine_132 : decode cX8_readLine 132 = .ok (.iload_n 1, 1) := by decide +kernel
theorem dX8_readLine_133 : decode cX8_readLine 133 = .ok (.invokevirtual 155, 3) := by decide +kernel
theorem dX8_readLine_136 : decode cX8_readLine 136 = .ok (.aload_n 0, 1) := by decide +kernel
theorem dX8_readLine_137 : decode cX8_readLine 137 = .ok (.getfield 78, 3) := by decide +kernel
theorem dX8_readLine_140 : decode cX8_readLine 140 = .ok (.ifCond .ne 16, 3) := by decide +kernel
theorem dX8_readLine_143 : decode cX8_readLine 143 = .ok (.aload_n 0, 1) := by decide +kernel
theorem dX8_readLine_144 : decode cX8_readLine 144 = .ok (.getfield 87, 3) := by decide +kernel
theorem dX8_readLine_147 : decode cX8_readLine 147 = .ok (.iconst 3, 1) := by decide +kernel
theorem dX8_readLine_148 : decode cX8_readLine 148 = .ok (.if_icmp .eq 8, 3) := by decide +kernel
theorem dX8_readLine_151 : decode cX8_readLine 151 = .ok (.aload_n 0, 1) := by decide +kernel
theorem dX8_readLine_152 : decode cX8_readLine 152 = .ok (.iconst 2, 1) := by decide +kernel
theorem dX8_readLine_153 : decode cX8_readLine 153 = .ok (.invokevirtual 108, 3) := by decide +kernel
theorem dX8_readLine_156 : decode cX8_readLine 156 = .ok (.aload_n 0, 1) := by decide +kernel
theorem dX8_readLine_157 : decode cX8_readLine 157 = .ok (.invokevirtual 112, 3) := by decide +kernel
theorem dX8_readLine_160 : decode cX8_readLine 160 = .ok (.return_, 1) := by decide +kernel
theorem dX8_begins_0 : decode cX8_begins 0 = .ok (.aload_n 0, 1) := by decide +kernel
theorem dX8_begins_1 : decode cX8_begins 1 = .ok (.iconst 0, 1) := by decide +kernel
theorem dX8_begins_2 : decode cX8_begins 2 = .ok (.putfield 78, 3) := by decide +kernel
theorem dX8_begins_5 : decode cX8_begins 5 = .ok (.aload_n 0, 1) := by decide +kernel
theorem dX8_begins_6 : decode cX8_begins 6 = .ok (.iconst 0, 1) := by decide +kernel
theorem dX8_begins_7 : decode cX8_begins 7 = .ok (.putfield 90, 3) := by decide +kernel
theorem dX8_begins_10 : decode cX8_begins 10 = .ok (.aload_n 0, 1) := by decide +kernel
theorem dX8_begins_11 : decode cX8_begins 11 = .ok (.bipush 6, 2) := by decide +kernel
theorem dX8_begins_13 : decode cX8_begins 13 = .ok (.putfield 124, 3) := by decide +kernel
theorem dX8_begins_16 : decode cX8_begins 16 = .ok (.aload_n 0, 1) := by decide +kernel
theorem dX8_begins_17 : decode cX8_begins 17 = .ok (.iconst 0, 1) := by decide +kernel
theorem dX8_begins_18 : decode cX8_begins 18 = .ok (.putfield 134, 3) := by decide +kernel
theorem dX8_begins_21 : decode cX8_begins 21 = .ok (.aload_n 0, 1) := by decide +kernel
theorem dX8_begins_22 : decode cX8_begins 22 = .ok (.iconst 0, 1) := by decide +kernel
theorem dX8_begins_23 : decode cX8_begins 23 = .ok (.putfield 143, 3) := by decide +kernel
theorem dX8_begins_26 : decode cX8_begins 26 = .ok (.aload_n 0, 1) := by decide +kernel
theorem dX8_begins_27 : decode cX8_begins 27 = .ok (.iconst 0, 1) := by decide +kernel
theorem dX8_begins_28 : decode cX8_begins 28 = .ok (.putfield 146, 3) := by decide +kernel
theorem dX8_begins_31 : decode cX8_begins 31 = .ok (.aload_n 0, 1) := by decide +kernel
theorem dX8_begins_32 : decode cX8_begins 32 = .ok (.getfield 41, 3) := by decide +kernel
theorem dX8_begins_35 : decode cX8_begins 35 = .ok (.iconst 0, 1) := by decide +kernel
theorem dX8_begins_36 : decode cX8_begins 36 = .ok (.iconst 1, 1) := by decide +kernel
theorem dX8_begins_37 : decode cX8_begins 37 = .ok (.iastore, 1) := by decide +kernel
theorem dX8_begins_38 : decode cX8_begins 38 = .ok (.aload_n 0, 1) := by decide +kernel
theorem dX8_begins_39 : decode cX8_begins 39 = .ok (.getfield 41, 3) := by decide +kernel
theorem dX8_begins_42 : decode cX8_begins 42 = .ok (.iconst 1, 1) := by decide +kernel
theorem dX8_begins_43 : decode cX8_begins 43 = .ok (.iconst 5, 1) := by decide +kernel
theorem dX8_begins_44 : decode cX8_begins 44 = .ok (.iastore, 1) := by decide +kernel
theorem dX8_begins_45 : decode cX8_begins 45 = .ok (.aload_n 0, 1) := by decide +kernel
theorem dX8_begins_46 : decode cX8_begins 46 = .ok (.iconst 0, 1) := by decide +kernel
theorem dX8_begins_47 : decode cX8_begins 47 = .ok (.putfield 149, 3) := by decide +kernel
theorem dX8_begins_50 : decode cX8_begins 50 = .ok (.aload_n 0, 1) := by decide +kernel
theorem dX8_begins_51 : decode cX8_begins 51 = .ok (.iconst 0, 1) := by decide +kernel
theorem dX8_begins_52 : decode cX8_begins 52 = .ok (.putfield 137, 3) := by decide +kernel
theorem dX8_begins_55 : decode cX8_begins 55 = .ok (.aload_n 0, 1) := by decide +kernel
theorem dX8_begins_56 : decode cX8_begins 56 = .ok (.iconst 0, 1) := by decide +kernel
theorem dX8_begins_57 : decode cX8_begins 57 = .ok (.putfield 140, 3) := by decide +kernel
theorem dX8_begins_60 : decode cX8_begins 60 = .ok (.aload_n 0, 1) := by decide +kernel
theorem dX8_begins_61 : decode cX8_begins 61 = .ok (.iconst 0, 1) := by decide +kernel
theorem dX8_begins_62 : decode cX8_begins 62 = .ok (.putfield 121, 3) := by decide +kernel
theorem dX8_begins_65 : decode cX8_begins 65 = .ok (.iconst 0, 1) := by decide +kernel
theorem dX8_begins_66 : decode cX8_begins 66 = .ok (.istore_n 1, 1) := by decide +kernel
theorem dX8_begins_67 : decode cX8_begins 67 = .ok (.iload_n 1, 1) := by decide +kernel
theorem dX8_begins_68 : decode cX8_begins 68 = .ok (.bipush 18, 2) := by decide +kernel
theorem dX8_begins_70 : decode cX8_begins 70 = .ok (.if_icmp .ge 16, 3) := by decide +kernel
theorem dX8_begins_73 : decode cX8_begins 73 = .ok (.aload_n 0, 1) := by decide +kernel
theorem dX8_begins_74 : decode cX8_begins 74 = .ok (.getfield 29, 3) := by decide +kernel
theorem dX8_begins_77 : decode cX8_begins 77 = .ok (.iload_n 1, 1) := by decide +kernel
theorem dX8_begins_78 : decode cX8_begins 78 = .ok (.iconst 0, 1) := by decide +kernel
theorem dX8_begins_79 : decode cX8_begins 79 = .ok (.iastore, 1) := by decide +kernel
theorem dX8_begins_80 : decode cX8_begins 80 = .ok (.iinc 1 1, 3) := by decide +kernel
theorem dX8_begins_83 : decode cX8_begins 83 = .ok (.goto (-16), 3) := by decide +kernel
theorem dX8_begins_86 : decode cX8_begins 86 = .ok (.return_, 1) := by decide +kernel
theorem dX8_text_0 : decode cX8_text 0 = .ok (.iconst 0, 1) := by decide +kernel
theorem dX8_text_1 : decode cX8_text 1 = .ok (.istore_n 1, 1) := by decide +kernel
theorem dX8_text_2 : decode cX8_text 2 = .ok (.aload_n 0, 1) := by decide +kernel
theorem dX8_text_3 : decode cX8_text 3 = .ok (.invokevirtual 158, 3) := by decide +kernel
theorem dX8_text_6 : decode cX8_text 6 = .ok (.aload_n 0, 1) := by decide +kernel
theorem dX8_text_7 : decode cX8_text 7 = .ok (.invokevirtual 112, 3) := by decide +kernel
theorem dX8_text_10 : decode cX8_text 10 = .ok (.aload_n 0, 1) := by decide +kernel
theorem dX8_text_11 : decode cX8_text 11 = .ok (.getfield 78, 3) := by decide +kernel
theorem dX8_text_14 : decode cX8_text 14 = .ok (.ifCond .ne 20, 3) := by decide +kernel
theorem dX8_text_17 : decode cX8_text 17 = .ok (.aload_n 0, 1) := by decide +kernel
theorem dX8_text_18 : decode cX8_text 18 = .ok (.getfield 87, 3) := by decide +kernel
theorem dX8_text_21 : decode cX8_text 21 = .ok (.ifCond .eq 13, 3) := by decide +kernel
theorem dX8_text_24 : decode cX8_text 24 = .ok (.aload_n 0, 1) := by decide +kernel
theorem dX8_text_25 : decode cX8_text 25 = .ok (.invokevirtual 161, 3) := by decide +kernel
theorem dX8_text_28 : decode cX8_text 28 = .ok (.iinc 1 1, 3) := by decide +kernel
theorem dX8_text_31 : decode cX8_text 31 = .ok (.goto (-21), 3) := by decide +kernel
theorem dX8_text_34 : decode cX8_text 34 = .ok (.aload_n 0, 1) := by decide +kernel
theorem dX8_text_35 : decode cX8_text 35 = .ok (.getfield 78, 3) := by decide +kernel
theorem dX8_text_38 : decode cX8_text 38 = .ok (.ifCond .ne 20, 3) := by decide +kernel
theorem dX8_text_41 : decode cX8_text 41 = .ok (.aload_n 0, 1) := by decide +kernel
theorem dX8_text_42 : decode cX8_text 42 = .ok (.getfield 121, 3) := by decide +kernel
theorem dX8_text_45 : decode cX8_text 45 = .ok (.aload_n 0, 1) := by decide +kernel
theorem dX8_text_46 : decode cX8_text 46 = .ok (.getfield 124, 3) := by decide +kernel
theorem dX8_text_49 : decode cX8_text 49 = .ok (.if_icmp .le 9, 3) := by decide +kernel
theorem dX8_text_52 : decode cX8_text 52 = .ok (.aload_n 0, 1) := by decide +kernel
theorem dX8_text_53 : decode cX8_text 53 = .ok (.bipush 6, 2) := by decide +kernel
theorem dX8_text_55 : decode cX8_text 55 = .ok (.invokevirtual 108, 3) := by decide +kernel
theorem dX8_text_58 : decode cX8_text 58 = .ok (.aload_n 0, 1) := by decide +kernel
theorem dX8_text_59 : decode cX8_text 59 = .ok (.iconst 0, 1) := by decide +kernel
theorem dX8_text_60 : decode cX8_text 60 = .ok (.putfield 75, 3) := by decide +kernel
theorem dX8_text_63 : decode cX8_text 63 = .ok (.aload_n 0, 1) := by decide +kernel
theorem dX8_text_64 : decode cX8_text 64 = .ok (.aload_n 0, 1) := by decide +kernel
theorem dX8_text_65 : decode cX8_text 65 = .ok (.getfield 78, 3) := by decide +kernel
theorem dX8_text_68 : decode cX8_text 68 = .ok (.putfield 164, 3) := by decide +kernel
theorem dX8_text_71 : decode cX8_text 71 = .ok (.aload_n 0, 1) := by decide +kernel
theorem dX8_text_72 : decode cX8_text 72 = .ok (.getfield 78, 3) := by decide +kernel
theorem dX8_text_75 : decode cX8_text 75 = .ok (.ifCond .le 11, 3) := by decide +kernel
theorem dX8_text_78 : decode cX8_text 78 = .ok (.bipush (-10), 2) := by decide +kernel
theorem dX8_text_80 : decode cX8_text 80 = .ok (.aload_n 0, 1) := by decide +kernel
theorem dX8_text_81 : decode cX8_text 81 = .ok (.getfield 84, 3) := by decide +kernel
theorem dX8_text_84 : decode cX8_text 84 = .ok (.isub, 1) := by decide +kernel
theorem dX8_text_85 : decode cX8_text 85 = .ok (.ireturn, 1) := by decide +kernel
theorem dX8_text_86 : decode cX8_text 86 = .ok (.iconst 0, 1) := by decide +kernel
theorem dX8_text_87 : decode cX8_text 87 = .ok (.istore_n 2, 1) := by decide +kernel
theorem dX8_text_88 : decode cX8_text 88 = .ok (.iload_n 2, 1) := by decide +kernel
theorem dX8_text_89 : decode cX8_text 89 = .ok (.bipush 18, 2) := by decide +kernel
theorem dX8_text_91 : decode cX8_text 91 = .ok (.if_icmp .ge 87, 3) := by decide +kernel
theorem dX8_text_94 : decode cX8_text 94 = .ok (.aload_n 0, 1) := by decide +kernel
theorem dX8_text_95 : decode cX8_text 95 = .ok (.getfield 7, 3) := by decide +kernel
theorem dX8_text_98 : decode cX8_text 98 = .ok (.iload_n 2, 1) := by decide +kernel
theorem dX8_text_99 : decode cX8_text 99 = .ok (.aload_n 0, 1) := by decide +kernel
theorem dX8_text_100 : decode cX8_text 100 = .ok (.getfield 29, 3) := by decide +kernel
theorem dX8_text_103 : decode cX8_text 103 = .ok (.iload_n 2, 1) := by decide +kernel
theorem dX8_text_104 : decode cX8_text 104 = .ok (.iaload, 1) := by decide +kernel
theorem dX8_text_105 : decode cX8_text 105 = .ok (.iastore, 1) := by decide +kernel
theorem dX8_text_106 : decode cX8_text 106 = .ok (.aload_n 0, 1) := by decide +kernel
theorem dX8_text_107 : decode cX8_text 107 = .ok (.getfield 17, 3) := by decide +kernel
theorem dX8_text_110 : decode cX8_text 110 = .ok (.iload_n 2, 1) := by decide +kernel
theorem dX8_text_111 : decode cX8_text 111 = .ok (.bipush 6, 2) := by decide +kernel
theorem dX8_text_113 : decode cX8_text 113 = .ok (.irem, 1) := by decide +kernel
theorem dX8_text_114 : decode cX8_text 114 = .ok (.aload_n 0, 1) := by decide +kernel
theorem dX8_text_115 : decode cX8_text 115 = .ok (.getfield 32, 3) := by decide +kernel
theorem dX8_text_118 : decode cX8_text 118 = .ok (.iload_n 2, 1) := by decide +kernel
theorem dX8_text_119 : decode cX8_text 119 = .ok (.bipush 6, 2) := by decide +kernel
theorem dX8_text_121 : decode cX8_text 121 = .ok (.irem, 1) := by decide +kernel
theorem dX8_text_122 : decode cX8_text 122 = .ok (.iaload, 1) := by decide +kernel
theorem dX8_text_123 : decode cX8_text 123 = .ok (.iastore, 1) := by decide +kernel
theorem dX8_text_124 : decode cX8_text 124 = .ok (.aload_n 0, 1) := by decide +kernel
theorem dX8_text_125 : decode cX8_text 125 = .ok (.getfield 20, 3) := by decide +kernel
theorem dX8_text_128 : decode cX8_text 128 = .ok (.iload_n 2, 1) := by decide +kernel
theorem dX8_text_129 : decode cX8_text 129 = .ok (.iconst 3, 1) := by decide +kernel
theorem dX8_text_130 : decode cX8_text 130 = .ok (.irem, 1) := by decide +kernel
theorem dX8_text_131 : decode cX8_text 131 = .ok (.aload_n 0, 1) := by decide +kernel
theorem dX8_text_132 : decode cX8_text 132 = .ok (.getfield 35, 3) := by decide +kernel
theorem dX8_text_135 : decode cX8_text 135 = .ok (.iload_n 2, 1) := by decide +kernel
theorem dX8_text_136 : decode cX8_text 136 = .ok (.iconst 3, 1) := by decide +kernel
theorem dX8_text_137 : decode cX8_text 137 = .ok (.irem, 1) := by decide +kernel
theorem dX8_text_138 : decode cX8_text 138 = .ok (.iaload, 1) := by decide +kernel
theorem dX8_text_139 : decode cX8_text 139 = .ok (.iastore, 1) := by decide +kernel
theorem dX8_text_140 : decode cX8_text 140 = .ok (.aload_n 0, 1) := by decide +kernel
theorem dX8_text_141 : decode cX8_text 141 = .ok (.getfield 23, 3) := by decide +kernel
theorem dX8_text_144 : decode cX8_text 144 = .ok (.iload_n 2, 1) := by decide +kernel
theorem dX8_text_145 : decode cX8_text 145 = .ok (.iconst 5, 1) := by decide +kernel
theorem dX8_text_146 : decode cX8_text 146 = .ok (.irem, 1) := by decide +kernel
theorem dX8_text_147 : decode cX8_text 147 = .ok (.aload_n 0, 1) := by decide +kernel
theorem dX8_text_148 : decode cX8_text 148 = .ok (.getfield 38, 3) := by decide +kernel
theorem dX8_text_151 : decode cX8_text 151 = .ok (.iload_n 2, 1) := by decide +kernel
theorem dX8_text_152 : decode cX8_text 152 = .ok (.iconst 5, 1) := by decide +kernel
theorem dX8_text_153 : decode cX8_text 153 = .ok (.irem, 1) := by decide +kernel
theorem dX8_text_154 : decode cX8_text 154 = .ok (.iaload, 1) := by decide +kernel
theorem dX8_text_155 : decode cX8_text 155 = .ok (.iastore, 1) := by decide +kernel
theorem dX8_text_156 : decode cX8_text 156 = .ok (.aload_n 0, 1) := by decide +kernel
theorem dX8_text_157 : decode cX8_text 157 = .ok (.getfield 26, 3) := by decide +kernel
theorem dX8_text_160 : decode cX8_text 160 = .ok (.iload_n 2, 1) := by decide +kernel
theorem dX8_text_161 : decode cX8_text 161 = .ok (.iconst 2, 1) := by decide +kernel
theorem dX8_text_162 : decode cX8_text 162 = .ok (.irem, 1) := by decide +kernel
theorem dX8_text_163 : decode cX8_text 163 = .ok (.aload_n 0, 1) := by decide +kernel
theorem dX8_text_164 : decode cX8_text 164 = .ok (.getfield 41, 3) := by decide +kernel
theorem dX8_text_167 : decode cX8_text 167 = .ok (.iload_n 2, 1) := by decide +kernel
theorem dX8_text_168 : decode cX8_text 168 = .ok (.iconst 2, 1) := by decide +kernel
theorem dX8_text_169 : decode cX8_text 169 = .ok (.irem, 1) := by decide +kernel
theorem dX8_text_170 : decode cX8_text 170 = .ok (.iaload, 1) := by decide +kernel
theorem dX8_text_171 : decode cX8_text 171 = .ok (.iastore, 1) := by decide +kernel
theorem dX8_text_172 : decode cX8_text 172 = .ok (.iinc 2 1, 3) := by decide +kernel
theorem dX8_text_175 : decode cX8_text 175 = .ok (.goto (-87), 3) := by decide +kernel
theorem dX8_text_178 : decode cX8_text 178 = .ok (.aload_n 0, 1) := by decide +kernel
theorem dX8_text_179 : decode cX8_text 179 = .ok (.aload_n 0, 1) := by decide +kernel
theorem dX8_text_180 : decode cX8_text 180 = .ok (.getfield 124, 3) := by decide +kernel
theorem dX8_text_183 : decode cX8_text 183 = .ok (.putfield 13, 3) := by decide +kernel
theorem dX8_text_186 : decode cX8_text 186 = .ok (.aload_n 0, 1) := by decide +kernel
theorem dX8_text_187 : decode cX8_text 187 = .ok (.aload_n 0, 1) := by decide +kernel
theorem dX8_text_188 : decode cX8_text 188 = .ok (.getfield 134, 3) := by decide +kernel
theorem dX8_text_191 : decode cX8_text 191 = .ok (.putfield 167, 3) := by decide +kernel
theorem dX8_text_194 : decode cX8_text 194 = .ok (.aload_n 0, 1) := by decide +kernel
theorem dX8_text_195 : decode cX8_text 195 = .ok (.aload_n 0, 1) := by decide +kernel
theorem dX8_text_196 : decode cX8_text 196 = .ok (.getfield 143, 3) := by decide +kernel
theorem dX8_text_199 : decode cX8_text 199 = .ok (.putfield 170, 3) := by decide +kernel
theorem dX8_text_202 : decode cX8_text 202 = .ok (.aload_n 0, 1) := by decide +kernel
theorem dX8_text_203 : decode cX8_text 203 = .ok (.aload_n 0, 1) := by decide +kernel
theorem dX8_text_204 : decode cX8_text 204 = .ok (.getfield 146, 3) := by decide +kernel
theorem dX8_text_207 : decode cX8_text 207 = .ok (.putfield 173, 3) := by decide +kernel
theorem dX8_text_210 : decode cX8_text 210 = .ok (.aload_n 0, 1) := by decide +kernel
theorem dX8_text_211 : decode cX8_text 211 = .ok (.iconst 0, 1) := by decide +kernel
theorem dX8_text_212 : decode cX8_text 212 = .ok (.putfield 176, 3) := by decide +kernel
theorem dX8_text_215 : decode cX8_text 215 = .ok (.aload_n 0, 1) := by decide +kernel
theorem dX8_text_216 : decode cX8_text 216 = .ok (.getfield 56, 3) := by decide +kernel
theorem dX8_text_219 : decode cX8_text 219 = .ok (.iconst 0, 1) := by decide +kernel
theorem dX8_text_220 : decode cX8_text 220 = .ok (.iconst 0, 1) := by decide +kernel
theorem dX8_text_221 : decode cX8_text 221 = .ok (.bastore, 1) := by decide +kernel
theorem dX8_text_222 : decode cX8_text 222 = .ok (.aload_n 0, 1) := by decide +kernel
theorem dX8_text_223 : decode cX8_text 223 = .ok (.getfield 56, 3) := by decide +kernel
theorem dX8_text_226 : decode cX8_text 226 = .ok (.iconst 1, 1) := by decide +kernel
theorem dX8_text_227 : decode cX8_text 227 = .ok (.iconst 0, 1) := by decide +kernel
theorem dX8_text_228 : decode cX8_text 228 = .ok (.bastore, 1) := by decide +kernel
theorem dX8_text_229 : decode cX8_text 229 = .ok (.iload_n 1, 1) := by decide +kernel
theorem dX8_text_230 : decode cX8_text 230 = .ok (.ireturn, 1) := by decide +kernel
theorem dX8_fault_0 : decode cX8_fault 0 = .ok (.aload_n 0, 1) := by decide +kernel
theorem dX8_fault_1 : decode cX8_fault 1 = .ok (.getfield 164, 3) := by decide +kernel
theorem dX8_fault_4 : decode cX8_fault 4 = .ok (.ireturn, 1) := by decide +kernel
theorem dX8_isJoint_0 : decode cX8_isJoint 0 = .ok (.iload_n 1, 1) := by decide +kernel
theorem dX8_isJoint_1 : decode cX8_isJoint 1 = .ok (.i2l, 1) := by decide +kernel
theorem dX8_isJoint_2 : decode cX8_isJoint 2 = .ok (.lconst 1, 1) := by decide +kernel
theorem dX8_isJoint_3 : decode cX8_isJoint 3 = .ok (.aload_n 0, 1) := by decide +kernel
theorem dX8_isJoint_4 : decode cX8_isJoint 4 = .ok (.getfield 13, 3) := by decide +kernel
theorem dX8_isJoint_7 : decode cX8_isJoint 7 = .ok (.i2l, 1) := by decide +kernel
theorem dX8_isJoint_8 : decode cX8_isJoint 8 = .ok (.invokestatic 71, 3) := by decide +kernel
theorem dX8_isJoint_11 : decode cX8_isJoint 11 = .ok (.ireturn, 1) := by decide +kernel
theorem dX8_isArm_0 : decode cX8_isArm 0 = .ok (.iload_n 1, 1) := by decide +kernel
theorem dX8_isArm_1 : decode cX8_isArm 1 = .ok (.i2l, 1) := by decide +kernel
theorem dX8_isArm_2 : decode cX8_isArm 2 = .ok (.lconst 0, 1) := by decide +kernel
theorem dX8_isArm_3 : decode cX8_isArm 3 = .ok (.aload_n 0, 1) := by decide +kernel
theorem dX8_isArm_4 : decode cX8_isArm 4 = .ok (.getfield 167, 3) := by decide +kernel
theorem dX8_isArm_7 : decode cX8_isArm 7 = .ok (.iconst 1, 1) := by decide +kernel
theorem dX8_isArm_8 : decode cX8_isArm 8 = .ok (.isub, 1) := by decide +kernel
theorem dX8_isArm_9 : decode cX8_isArm 9 = .ok (.i2l, 1) := by decide +kernel
theorem dX8_isArm_10 : decode cX8_isArm 10 = .ok (.invokestatic 71, 3) := by decide +kernel
theorem dX8_isArm_13 : decode cX8_isArm 13 = .ok (.ireturn, 1) := by decide +kernel
theorem dX8_slip_0 : decode cX8_slip 0 = .ok (.aload_n 0, 1) := by decide +kernel
theorem dX8_slip_1 : decode cX8_slip 1 = .ok (.getfield 7, 3) := by decide +kernel
theorem dX8_slip_4 : decode cX8_slip 4 = .ok (.bipush 13, 2) := by decide +kernel
theorem dX8_slip_6 : decode cX8_slip 6 = .ok (.iaload, 1) := by decide +kernel
theorem dX8_slip_7 : decode cX8_slip 7 = .ok (.iconst 1, 1) := by decide +kernel
theorem dX8_slip_8 : decode cX8_slip 8 = .ok (.iadd, 1) := by decide +kernel
theorem dX8_slip_9 : decode cX8_slip 9 = .ok (.ireturn, 1) := by decide +kernel
theorem dX8_pace_0 : decode cX8_pace 0 = .ok (.aload_n 0, 1) := by decide +kernel
theorem dX8_pace_1 : decode cX8_pace 1 = .ok (.getfield 7, 3) := by decide +kernel
theorem dX8_pace_4 : decode cX8_pace 4 = .ok (.bipush 14, 2) := by decide +kernel
theorem dX8_pace_6 : decode cX8_pace 6 = .ok (.iaload, 1) := by decide +kernel
theorem dX8_pace_7 : decode cX8_pace 7 = .ok (.iconst 5, 1) := by decide +kernel
theorem dX8_pace_8 : decode cX8_pace 8 = .ok (.iadd, 1) := by decide +kernel
theorem dX8_pace_9 : decode cX8_pace 9 = .ok (.ireturn, 1) := by decide +kernel
theorem dX8_handMany_0 : decode cX8_handMany 0 = .ok (.aload_n 0, 1) := by decide +kernel
theorem dX8_handMany_1 : decode cX8_handMany 1 = .ok (.getfield 7, 3) := by decide +kernel
theorem dX8_handMany_4 : decode cX8_handMany 4 = .ok (.bipush 17, 2) := by decide +kernel
theorem dX8_handMany_6 : decode cX8_handMany 6 = .ok (.iaload, 1) := by decide +kernel
theorem dX8_handMany_7 : decode cX8_handMany 7 = .ok (.iconst 3, 1) := by decide +kernel
theorem dX8_handMany_8 : decode cX8_handMany 8 = .ok (.iadd, 1) := by decide +kernel
theorem dX8_handMany_9 : decode cX8_handMany 9 = .ok (.ireturn, 1) := by decide +kernel
theorem dX8_rule_0 : decode cX8_rule 0 = .ok (.iload_n 1, 1) := by decide +kernel
theorem dX8_rule_1 : decode cX8_rule 1 = .ok (.tableswitch 144 0 12 #[67, 72, 77, 82, 87, 87, 99, 104, 109, 119, 129, 129, 139], 67) := by decide +kernel
theorem dX8_rule_68 : decode cX8_rule 68 = .ok (.aload_n 0, 1) := by decide +kernel
theorem dX8_rule_69 : decode cX8_rule 69 = .ok (.getfield 13, 3) := by decide +kernel
theorem dX8_rule_72 : decode cX8_rule 72 = .ok (.ireturn, 1) := by decide +kernel
theorem dX8_rule_73 : decode cX8_rule 73 = .ok (.aload_n 0, 1) := by decide +kernel
theorem dX8_rule_74 : decode cX8_rule 74 = .ok (.getfield 167, 3) := by decide +kernel
theorem dX8_rule_77 : decode cX8_rule 77 = .ok (.ireturn, 1) := by decide +kernel
theorem dX8_rule_78 : decode cX8_rule 78 = .ok (.aload_n 0, 1) := by decide +kernel
theorem dX8_rule_79 : decode cX8_rule 79 = .ok (.getfield 170, 3) := by decide +kernel
theorem dX8_rule_82 : decode cX8_rule 82 = .ok (.ireturn, 1) := by decide +kernel
theorem dX8_rule_83 : decode cX8_rule 83 = .ok (.aload_n 0, 1) := by decide +kernel
theorem dX8_rule_84 : decode cX8_rule 84 = .ok (.getfield 173, 3) := by decide +kernel
theorem dX8_rule_87 : decode cX8_rule 87 = .ok (.ireturn, 1) := by decide +kernel
theorem dX8_rule_88 : decode cX8_rule 88 = .ok (.aload_n 0, 1) := by decide +kernel
theorem dX8_rule_89 : decode cX8_rule 89 = .ok (.getfield 7, 3) := by decide +kernel
theorem dX8_rule_92 : decode cX8_rule 92 = .ok (.bipush 11, 2) := by decide +kernel
theorem dX8_rule_94 : decode cX8_rule 94 = .ok (.iload_n 1, 1) := by decide +kernel
theorem dX8_rule_95 : decode cX8_rule 95 = .ok (.iadd, 1) := by decide +kernel
theorem dX8_rule_96 : decode cX8_rule 96 = .ok (.iconst 4, 1) := by decide +kernel
theorem dX8_rule_97 : decode cX8_rule 97 = .ok (.isub, 1) := by decide +kernel
theorem dX8_rule_98 : decode cX8_rule 98 = .ok (.iaload, 1) := by decide +kernel
theorem dX8_rule_99 : decode cX8_rule 99 = .ok (.ireturn, 1) := by decide +kernel
theorem dX8_rule_100 : decode cX8_rule 100 = .ok (.aload_n 0, 1) := by decide +kernel
theorem dX8_rule_101 : decode cX8_rule 101 = .ok (.invokevirtual 179, 3) := by decide +kernel
theorem dX8_rule_104 : decode cX8_rule 104 = .ok (.ireturn, 1) := by decide +kernel
theorem dX8_rule_105 : decode cX8_rule 105 = .ok (.aload_n 0, 1) := by decide +kernel
theorem dX8_rule_106 : decode cX8_rule 106 = .ok (.invokevirtual 182, 3) := by decide +kernel
theorem dX8_rule_109 : decode cX8_rule 109 = .ok (.ireturn, 1) := by decide +kernel
theorem dX8_rule_110 : decode cX8_rule 110 = .ok (.aload_n 0, 1) := by decide +kernel
theorem dX8_rule_111 : decode cX8_rule 111 = .ok (.getfield 7, 3) := by decide +kernel
theorem dX8_rule_114 : decode cX8_rule 114 = .ok (.bipush 15, 2) := by decide +kernel
theorem dX8_rule_116 : decode cX8_rule 116 = .ok (.iaload, 1) := by decide +kernel
theorem dX8_rule_117 : decode cX8_rule 117 = .ok (.iconst 2, 1) := by decide +kernel
theorem dX8_rule_118 : decode cX8_rule 118 = .ok (.iadd, 1) := by decide +kernel
theorem dX8_rule_119 : decode cX8_rule 119 = .ok (.ireturn, 1) := by decide +kernel
theorem dX8_rule_120 : decode cX8_rule 120 = .ok (.aload_n 0, 1) := by decide +kernel
theorem dX8_rule_121 : decode cX8_rule 121 = .ok (.getfield 7, 3) := by decide +kernel
theorem dX8_rule_124 : decode cX8_rule 124 = .ok (.bipush 16, 2) := by decide +kernel
theorem dX8_rule_126 : decode cX8_rule 126 = .ok (.iaload, 1) := by decide +kernel
theorem dX8_rule_127 : decode cX8_rule 127 = .ok (.iconst 4, 1) := by decide +kernel
theorem dX8_rule_128 : decode cX8_rule 128 = .ok (.iadd, 1) := by decide +kernel
theorem dX8_rule_129 : decode cX8_rule 129 = .ok (.ireturn, 1) := by decide +kernel
theorem dX8_rule_130 : decode cX8_rule 130 = .ok (.aload_n 0, 1) := by decide +kernel
theorem dX8_rule_131 : decode cX8_rule 131 = .ok (.getfield 26, 3) := by decide +kernel
theorem dX8_rule_134 : decode cX8_rule 134 = .ok (.iload_n 1, 1) := by decide +kernel
theorem dX8_rule_135 : decode cX8_rule 135 = .ok (.bipush 10, 2) := by decide +kernel
theorem dX8_rule_137 : decode cX8_rule 137 = .ok (.isub, 1) := by decide +kernel
theorem dX8_rule_138 : decode cX8_rule 138 = .ok (.iaload, 1) := by decide +kernel
theorem dX8_rule_139 : decode cX8_rule 139 = .ok (.ireturn, 1) := by decide +kernel
theorem dX8_rule_140 : decode cX8_rule 140 = .ok (.aload_n 0, 1) := by decide +kernel
theorem dX8_rule_141 : decode cX8_rule 141 = .ok (.invokevirtual 185, 3) := by decide +kernel
theorem dX8_rule_144 : decode cX8_rule 144 = .ok (.ireturn, 1) := by decide +kernel
theorem dX8_rule_145 : decode cX8_rule 145 = .ok (.iconst (-1), 1) := by decide +kernel
theorem dX8_rule_146 : decode cX8_rule 146 = .ok (.ireturn, 1) := by decide +kernel
theorem dX8_holdsOf_0 : decode cX8_holdsOf 0 = .ok (.aload_n 0, 1) := by decide +kernel
theorem dX8_holdsOf_1 : decode cX8_holdsOf 1 = .ok (.getfield 7, 3) := by decide +kernel
theorem dX8_holdsOf_4 : decode cX8_holdsOf 4 = .ok (.iload_n 1, 1) := by decide +kernel
theorem dX8_holdsOf_5 : decode cX8_holdsOf 5 = .ok (.iaload, 1) := by decide +kernel
theorem dX8_holdsOf_6 : decode cX8_holdsOf 6 = .ok (.istore_n 2, 1) := by decide +kernel
theorem dX8_holdsOf_7 : decode cX8_holdsOf 7 = .ok (.bipush 10, 2) := by decide +kernel
theorem dX8_holdsOf_9 : decode cX8_holdsOf 9 = .ok (.aload_n 0, 1) := by decide +kernel
theorem dX8_holdsOf_10 : decode cX8_holdsOf 10 = .ok (.invokevirtual 182, 3) := by decide +kernel
theorem dX8_holdsOf_13 : decode cX8_holdsOf 13 = .ok (.iconst 2, 1) := by decide +kernel
theorem dX8_holdsOf_14 : decode cX8_holdsOf 14 = .ok (.idiv, 1) := by decide +kernel
theorem dX8_holdsOf_15 : decode cX8_holdsOf 15 = .ok (.isub, 1) := by decide +kernel
theorem dX8_holdsOf_16 : decode cX8_holdsOf 16 = .ok (.istore_n 3, 1) := by decide +kernel
theorem dX8_holdsOf_17 : decode cX8_holdsOf 17 = .ok (.iload_n 2, 1) := by decide +kernel
theorem dX8_holdsOf_18 : decode cX8_holdsOf 18 = .ok (.iconst 1, 1) := by decide +kernel
theorem dX8_holdsOf_19 : decode cX8_holdsOf 19 = .ok (.if_icmp .eq 8, 3) := by decide +kernel
theorem dX8_holdsOf_22 : decode cX8_holdsOf 22 = .ok (.iload_n 2, 1) := by decide +kernel
theorem dX8_holdsOf_23 : decode cX8_holdsOf 23 = .ok (.iconst 4, 1) := by decide +kernel
theorem dX8_holdsOf_24 : decode cX8_holdsOf 24 = .ok (.if_icmp .ne 33, 3) := by decide +kernel
theorem dX8_holdsOf_27 : decode cX8_holdsOf 27 = .ok (.iload_n 3, 1) := by decide +kernel
theorem dX8_holdsOf_28 : decode cX8_holdsOf 28 = .ok (.aload_n 0, 1) := by decide +kernel
theorem dX8_holdsOf_29 : decode cX8_holdsOf 29 = .ok (.invokevirtual 182, 3) := by decide +kernel
theorem dX8_holdsOf_32 : decode cX8_holdsOf 32 = .ok (.iconst 5, 1) := by decide +kernel
theorem dX8_holdsOf_33 : decode cX8_holdsOf 33 = .ok (.if_icmp .lt 7, 3) := by decide +kernel
theorem dX8_holdsOf_36 : decode cX8_holdsOf 36 = .ok (.iconst 3, 1) := by decide +kernel
theorem dX8_holdsOf_37 : decode cX8_holdsOf 37 = .ok (.goto 4, 3) := by decide +kernel
theorem dX8_holdsOf_40 : decode cX8_holdsOf 40 = .ok (.iconst 0, 1) := by decide +kernel
theorem dX8_holdsOf_41 : decode cX8_holdsOf 41 = .ok (.iload_n 2, 1) := by decide +kernel
theorem dX8_holdsOf_42 : decode cX8_holdsOf 42 = .ok (.iconst 4, 1) := by decide +kernel
theorem dX8_holdsOf_43 : decode cX8_holdsOf 43 = .ok (.if_icmp .ne 7, 3) := by decide +kernel
theorem dX8_holdsOf_46 : decode cX8_holdsOf 46 = .ok (.iconst 1, 1) := by decide +kernel
theorem dX8_holdsOf_47 : decode cX8_holdsOf 47 = .ok (.goto 4, 3) := by decide +kernel
theorem dX8_holdsOf_50 : decode cX8_holdsOf 50 = .ok (.iconst 0, 1) := by decide +kernel
theorem dX8_holdsOf_51 : decode cX8_holdsOf 51 = .ok (.iadd, 1) := by decide +kernel
theorem dX8_holdsOf_52 : decode cX8_holdsOf 52 = .ok (.isub, 1) := by decide +kernel
theorem dX8_holdsOf_53 : decode cX8_holdsOf 53 = .ok (.istore_n 3, 1) := by decide +kernel
theorem dX8_holdsOf_54 : decode cX8_holdsOf 54 = .ok (.goto 28, 3) := by decide +kernel
theorem dX8_holdsOf_57 : decode cX8_holdsOf 57 = .ok (.iload_n 2, 1) := by decide +kernel
theorem dX8_holdsOf_58 : decode cX8_holdsOf 58 = .ok (.iconst 1, 1) := by decide +kernel
theorem dX8_holdsOf_59 : decode cX8_holdsOf 59 = .ok (.if_icmp .le 23, 3) := by decide +kernel
theorem dX8_holdsOf_62 : decode cX8_holdsOf 62 = .ok (.iload_n 3, 1) := by decide +kernel
theorem dX8_holdsOf_63 : decode cX8_holdsOf 63 = .ok (.aload_n 0, 1) := by decide +kernel
theorem dX8_holdsOf_64 : decode cX8_holdsOf 64 = .ok (.invokevirtual 182, 3) := by decide +kernel
theorem dX8_holdsOf_67 : decode cX8_holdsOf 67 = .ok (.iconst 3, 1) := by decide +kernel
theorem dX8_holdsOf_68 : decode cX8_holdsOf 68 = .ok (.idiv, 1) := by decide +kernel
theorem dX8_holdsOf_69 : decode cX8_holdsOf 69 = .ok (.iload_n 2, 1) := by decide +kernel
theorem dX8_holdsOf_70 : decode cX8_holdsOf 70 = .ok (.iconst 3, 1) := by decide +kernel
theorem dX8_holdsOf_71 : decode cX8_holdsOf 71 = .ok (.if_icmp .ne 7, 3) := by decide +kernel
theorem dX8_holdsOf_74 : decode cX8_holdsOf 74 = .ok (.iconst 1, 1) := by decide +kernel
theorem dX8_holdsOf_75 : decode cX8_holdsOf 75 = .ok (.goto 4, 3) := by decide +kernel
theorem dX8_holdsOf_78 : decode cX8_holdsOf 78 = .ok (.iconst 0, 1) := by decide +kernel
theorem dX8_holdsOf_79 : decode cX8_holdsOf 79 = .ok (.iadd, 1) := by decide +kernel
theorem dX8_holdsOf_80 : decode cX8_holdsOf 80 = .ok (.isub, 1) := by decide +kernel
theorem dX8_holdsOf_81 : decode cX8_holdsOf 81 = .ok (.istore_n 3, 1) := by decide +kernel
theorem dX8_holdsOf_82 : decode cX8_holdsOf 82 = .ok (.iload_n 3, 1) := by decide +kernel
theorem dX8_holdsOf_83 : decode cX8_holdsOf 83 = .ok (.ifCond .ge 7, 3) := by decide +kernel
theorem dX8_holdsOf_86 : decode cX8_holdsOf 86 = .ok (.iconst 0, 1) := by decide +kernel
theorem dX8_holdsOf_87 : decode cX8_holdsOf 87 = .ok (.goto 4, 3) := by decide +kernel
theorem dX8_holdsOf_90 : decode cX8_holdsOf 90 = .ok (.iload_n 3, 1) := by decide +kernel
theorem dX8_holdsOf_91 : decode cX8_holdsOf 91 = .ok (.ireturn, 1) := by decide +kernel
theorem dX8_arm_0 : decode cX8_arm 0 = .ok (.aload_n 0, 1) := by decide +kernel
theorem dX8_arm_1 : decode cX8_arm 1 = .ok (.iload_n 1, 1) := by decide +kernel
theorem dX8_arm_2 : decode cX8_arm 2 = .ok (.invokevirtual 188, 3) := by decide +kernel
theorem dX8_arm_5 : decode cX8_arm 5 = .ok (.ifCond .ne 5, 3) := by decide +kernel
theorem dX8_arm_8 : decode cX8_arm 8 = .ok (.iconst (-1), 1) := by decide +kernel
theorem dX8_arm_9 : decode cX8_arm 9 = .ok (.ireturn, 1) := by decide +kernel
theorem dX8_arm_10 : decode cX8_arm 10 = .ok (.iload_n 2, 1) := by decide +kernel
theorem dX8_arm_11 : decode cX8_arm 11 = .ok (.tableswitch 55 0 3 #[29, 36, 36, 49], 29) := by decide +kernel
theorem dX8_arm_40 : decode cX8_arm 40 = .ok (.aload_n 0, 1) := by decide +kernel
theorem dX8_arm_41 : decode cX8_arm 41 = .ok (.getfield 7, 3) := by decide +kernel
theorem dX8_arm_44 : decode cX8_arm 44 = .ok (.iload_n 1, 1) := by decide +kernel
theorem dX8_arm_45 : decode cX8_arm 45 = .ok (.iaload, 1) := by decide +kernel
theorem dX8_arm_46 : decode cX8_arm 46 = .ok (.ireturn, 1) := by decide +kernel
theorem dX8_arm_47 : decode cX8_arm 47 = .ok (.aload_n 0, 1) := by decide +kernel
theorem dX8_arm_48 : decode cX8_arm 48 = .ok (.getfield 17, 3) := by decide +kernel
theorem dX8_arm_51 : decode cX8_arm 51 = .ok (.iconst 2, 1) := by decide +kernel
theorem dX8_arm_52 : decode cX8_arm 52 = .ok (.iload_n 1, 1) := by decide +kernel
theorem dX8_arm_53 : decode cX8_arm 53 = .ok (.imul, 1) := by decide +kernel
theorem dX8_arm_54 : decode cX8_arm 54 = .ok (.iload_n 2, 1) := by decide +kernel
theorem dX8_arm_55 : decode cX8_arm 55 = .ok (.iadd, 1) := by decide +kernel
theorem dX8_arm_56 : decode cX8_arm 56 = .ok (.iconst 1, 1) := by decide +kernel
theorem dX8_arm_57 : decode cX8_arm 57 = .ok (.isub, 1) := by decide +kernel
theorem dX8_arm_58 : decode cX8_arm 58 = .ok (.iaload, 1) := by decide +kernel
theorem dX8_arm_59 : decode cX8_arm 59 = .ok (.ireturn, 1) := by decide +kernel
theorem dX8_arm_60 : decode cX8_arm 60 = .ok (.aload_n 0, 1) := by decide +kernel
theorem dX8_arm_61 : decode cX8_arm 61 = .ok (.iload_n 1, 1) := by decide +kernel
theorem dX8_arm_62 : decode cX8_arm 62 = .ok (.invokevirtual 192, 3) := by decide +kernel
theorem dX8_arm_65 : decode cX8_arm 65 = .ok (.ireturn, 1) := by decide +kernel
theorem dX8_arm_66 : decode cX8_arm 66 = .ok (.iconst (-1), 1) := by decide +kernel
theorem dX8_arm_67 : decode cX8_arm 67 = .ok (.ireturn, 1) := by decide +kernel
theorem dX8_mark_0 : decode cX8_mark 0 = .ok (.iload_n 1, 1) := by decide +kernel
theorem dX8_mark_1 : decode cX8_mark 1 = .ok (.i2l, 1) := by decide +kernel
theorem dX8_mark_2 : decode cX8_mark 2 = .ok (.lconst 0, 1) := by decide +kernel
theorem dX8_mark_3 : decode cX8_mark 3 = .ok (.aload_n 0, 1) := by decide +kernel
theorem dX8_mark_4 : decode cX8_mark 4 = .ok (.getfield 170, 3) := by decide +kernel
theorem dX8_mark_7 : decode cX8_mark 7 = .ok (.iconst 1, 1) := by decide +kernel
theorem dX8_mark_8 : decode cX8_mark 8 = .ok (.isub, 1) := by decide +kernel
theorem dX8_mark_9 : decode cX8_mark 9 = .ok (.i2l, 1) := by decide +kernel
theorem dX8_mark_10 : decode cX8_mark 10 = .ok (.invokestatic 71, 3) := by decide +kernel
theorem dX8_mark_13 : decode cX8_mark 13 = .ok (.ifCond .eq 13, 3) := by decide +kernel
theorem dX8_mark_16 : decode cX8_mark 16 = .ok (.iload_n 2, 1) := by decide +kernel
theorem dX8_mark_17 : decode cX8_mark 17 = .ok (.i2l, 1) := by decide +kernel
theorem dX8_mark_18 : decode cX8_mark 18 = .ok (.lconst 0, 1) := by decide +kernel
theorem dX8_mark_19 : decode cX8_mark 19 = .ok (.lconst 1, 1) := by decide +kernel
theorem dX8_mark_20 : decode cX8_mark 20 = .ok (.invokestatic 71, 3) := by decide +kernel
theorem dX8_mark_23 : decode cX8_mark 23 = .ok (.ifCond .ne 7, 3) := by decide +kernel
theorem dX8_mark_26 : decode cX8_mark 26 = .ok (.iconst (-1), 1) := by decide +kernel
theorem dX8_mark_27 : decode cX8_mark 27 = .ok (.goto 24, 3) := by decide +kernel
theorem dX8_mark_30 : decode cX8_mark 30 = .ok (.iload_n 2, 1) := by decide +kernel
theorem dX8_mark_31 : decode cX8_mark 31 = .ok (.ifCond .ne 12, 3) := by decide +kernel
theorem dX8_mark_34 : decode cX8_mark 34 = .ok (.aload_n 0, 1) := by decide +kernel
theorem dX8_mark_35 : decode cX8_mark 35 = .ok (.getfield 20, 3) := by decide +kernel
theorem dX8_mark_38 : decode cX8_mark 38 = .ok (.iload_n 1, 1) := by decide +kernel
theorem dX8_mark_39 : decode cX8_mark 39 = .ok (.iaload, 1) := by decide +kernel
theorem dX8_mark_40 : decode cX8_mark 40 = .ok (.goto 11, 3) := by decide +kernel
theorem dX8_mark_43 : decode cX8_mark 43 = .ok (.aload_n 0, 1) := by decide +kernel
theorem dX8_mark_44 : decode cX8_mark 44 = .ok (.getfield 7, 3) := by decide +kernel
theorem dX8_mark_47 : decode cX8_mark 47 = .ok (.iconst 3, 1) := by decide +kernel
theorem dX8_mark_48 : decode cX8_mark 48 = .ok (.iload_n 1, 1) := by decide +kernel
theorem dX8_mark_49 : decode cX8_mark 49 = .ok (.iadd, 1) := by decide +kernel
theorem dX8_mark_50 : decode cX8_mark 50 = .ok (.iaload, 1) := by decide +kernel
theorem dX8_mark_51 : decode cX8_mark 51 = .ok (.ireturn, 1) := by decide +kernel
theorem dX8_town_0 : decode cX8_town 0 = .ok (.iload_n 1, 1) := by decide +kernel
theorem dX8_town_1 : decode cX8_town 1 = .ok (.i2l, 1) := by decide +kernel
theorem dX8_town_2 : decode cX8_town 2 = .ok (.lconst 0, 1) := by decide +kernel
theorem dX8_town_3 : decode cX8_town 3 = .ok (.aload_n 0, 1) := by decide +kernel
theorem dX8_town_4 : decode cX8_town 4 = .ok (.getfield 173, 3) := by decide +kernel
theorem dX8_town_7 : decode cX8_town 7 = .ok (.iconst 1, 1) := by decide +kernel
theorem dX8_town_8 : decode cX8_town 8 = .ok (.isub, 1) := by decide +kernel
theorem dX8_town_9 : decode cX8_town 9 = .ok (.i2l, 1) := by decide +kernel
theorem dX8_town_10 : decode cX8_town 10 = .ok (.invokestatic 71, 3) := by decide +kernel
theorem dX8_town_13 : decode cX8_town 13 = .ok (.ifCond .eq 13, 3) := by decide +kernel
theorem dX8_town_16 : decode cX8_town 16 = .ok (.iload_n 2, 1) := by decide +kernel
theorem dX8_town_17 : decode cX8_town 17 = .ok (.i2l, 1) := by decide +kernel
theorem dX8_town_18 : decode cX8_town 18 = .ok (.lconst 0, 1) := by decide +kernel
theorem dX8_town_19 : decode cX8_town 19 = .ok (.lconst 1, 1) := by decide +kernel
theorem dX8_town_20 : decode cX8_town 20 = .ok (.invokestatic 71, 3) := by decide +kernel
theorem dX8_town_23 : decode cX8_town 23 = .ok (.ifCond .ne 7, 3) := by decide +kernel
theorem dX8_town_26 : decode cX8_town 26 = .ok (.iconst (-1), 1) := by decide +kernel
theorem dX8_town_27 : decode cX8_town 27 = .ok (.goto 25, 3) := by decide +kernel
theorem dX8_town_30 : decode cX8_town 30 = .ok (.iload_n 2, 1) := by decide +kernel
theorem dX8_town_31 : decode cX8_town 31 = .ok (.ifCond .ne 15, 3) := by decide +kernel
theorem dX8_town_34 : decode cX8_town 34 = .ok (.aload_n 0, 1) := by decide +kernel
theorem dX8_town_35 : decode cX8_town 35 = .ok (.getfield 7, 3) := by decide +kernel
theorem dX8_town_38 : decode cX8_town 38 = .ok (.bipush 6, 2) := by decide +kernel
theorem dX8_town_40 : decode cX8_town 40 = .ok (.iload_n 1, 1) := by decide +kernel
theorem dX8_town_41 : decode cX8_town 41 = .ok (.iadd, 1) := by decide +kernel
theorem dX8_town_42 : decode cX8_town 42 = .ok (.iaload, 1) := by decide +kernel
theorem dX8_town_43 : decode cX8_town 43 = .ok (.goto 9, 3) := by decide +kernel
theorem dX8_town_46 : decode cX8_town 46 = .ok (.aload_n 0, 1) := by decide +kernel
theorem dX8_town_47 : decode cX8_town 47 = .ok (.getfield 23, 3) := by decide +kernel
theorem dX8_town_50 : decode cX8_town 50 = .ok (.iload_n 1, 1) := by decide +kernel
theorem dX8_town_51 : decode cX8_town 51 = .ok (.iaload, 1) := by decide +kernel
theorem dX8_town_52 : decode cX8_town 52 = .ok (.ireturn, 1) := by decide +kernel
theorem dX8_lays_0 : decode cX8_lays 0 = .ok (.iload_n 1, 1) := by decide +kernel
theorem dX8_lays_1 : decode cX8_lays 1 = .ok (.ifCond .ne 5, 3) := by decide +kernel
theorem dX8_lays_4 : decode cX8_lays 4 = .ok (.iconst (-1), 1) := by decide +kernel
theorem dX8_lays_5 : decode cX8_lays 5 = .ok (.ireturn, 1) := by decide +kernel
theorem dX8_lays_6 : decode cX8_lays 6 = .ok (.aload_n 0, 1) := by decide +kernel
theorem dX8_lays_7 : decode cX8_lays 7 = .ok (.getfield 7, 3) := by decide +kernel
theorem dX8_lays_10 : decode cX8_lays 10 = .ok (.iload_n 2, 1) := by decide +kernel
theorem dX8_lays_11 : decode cX8_lays 11 = .ok (.iaload, 1) := by decide +kernel
theorem dX8_lays_12 : decode cX8_lays 12 = .ok (.iload 4, 2) := by decide +kernel
theorem dX8_lays_14 : decode cX8_lays 14 = .ok (.iadd, 1) := by decide +kernel
theorem dX8_lays_15 : decode cX8_lays 15 = .ok (.istore 5, 2) := by decide +kernel
theorem dX8_lays_17 : decode cX8_lays 17 = .ok (.aload_n 0, 1) := by decide +kernel
theorem dX8_lays_18 : decode cX8_lays 18 = .ok (.getfield 7, 3) := by decide +kernel
theorem dX8_lays_21 : decode cX8_lays 21 = .ok (.iload_n 2, 1) := by decide +kernel
theorem dX8_lays_22 : decode cX8_lays 22 = .ok (.iload_n 3, 1) := by decide +kernel
theorem dX8_lays_23 : decode cX8_lays 23 = .ok (.iload 4, 2) := by decide +kernel
theorem dX8_lays_25 : decode cX8_lays 25 = .ok (.isub, 1) := by decide +kernel
theorem dX8_lays_26 : decode cX8_lays 26 = .ok (.iastore, 1) := by decide +kernel
theorem dX8_lays_27 : decode cX8_lays 27 = .ok (.iload 5, 2) := by decide +kernel
theorem dX8_lays_29 : decode cX8_lays 29 = .ok (.ireturn, 1) := by decide +kernel
theorem dX8_set_0 : decode cX8_set 0 = .ok (.iload_n 1, 1) := by decide +kernel
theorem dX8_set_1 : decode cX8_set 1 = .ok (.tableswitch 81 0 2 #[27, 45, 63], 27) := by decide +kernel
theorem dX8_set_28 : decode cX8_set 28 = .ok (.aload_n 0, 1) := by decide +kernel
theorem dX8_set_29 : decode cX8_set 29 = .ok (.iload_n 2, 1) := by decide +kernel
theorem dX8_set_30 : decode cX8_set 30 = .ok (.i2l, 1) := by decide +kernel
theorem dX8_set_31 : decode cX8_set 31 = .ok (.lconst 0, 1) := by decide +kernel
theorem dX8_set_32 : decode cX8_set 32 = .ok (.ldc2_w 115, 3) := by decide +kernel
theorem dX8_set_35 : decode cX8_set 35 = .ok (.invokestatic 71, 3) := by decide +kernel
theorem dX8_set_38 : decode cX8_set 38 = .ok (.bipush 13, 2) := by decide +kernel
theorem dX8_set_40 : decode cX8_set 40 = .ok (.iload_n 2, 1) := by decide +kernel
theorem dX8_set_41 : decode cX8_set 41 = .ok (.iconst 1, 1) := by decide +kernel
theorem dX8_set_42 : decode cX8_set 42 = .ok (.invokevirtual 195, 3) := by decide +kernel
theorem dX8_set_45 : decode cX8_set 45 = .ok (.ireturn, 1) := by decide +kernel
theorem dX8_set_46 : decode cX8_set 46 = .ok (.aload_n 0, 1) := by decide +kernel
theorem dX8_set_47 : decode cX8_set 47 = .ok (.iload_n 2, 1) := by decide +kernel
theorem dX8_set_48 : decode cX8_set 48 = .ok (.i2l, 1) := by decide +kernel
theorem dX8_set_49 : decode cX8_set 49 = .ok (.lconst 1, 1) := by decide +kernel
theorem dX8_set_50 : decode cX8_set 50 = .ok (.ldc2_w 199, 3) := by decide +kernel
theorem dX8_set_53 : decode cX8_set 53 = .ok (.invokestatic 71, 3) := by decide +kernel
theorem dX8_set_56 : decode cX8_set 56 = .ok (.bipush 17, 2) := by decide +kernel
theorem dX8_set_58 : decode cX8_set 58 = .ok (.iload_n 2, 1) := by decide +kernel
theorem dX8_set_59 : decode cX8_set 59 = .ok (.iconst 3, 1) := by decide +kernel
theorem dX8_set_60 : decode cX8_set 60 = .ok (.invokevirtual 195, 3) := by decide +kernel
theorem dX8_set_63 : decode cX8_set 63 = .ok (.ireturn, 1) := by decide +kernel
theorem dX8_set_64 : decode cX8_set 64 = .ok (.aload_n 0, 1) := by decide +kernel
theorem dX8_set_65 : decode cX8_set 65 = .ok (.iload_n 2, 1) := by decide +kernel
theorem dX8_set_66 : decode cX8_set 66 = .ok (.i2l, 1) := by decide +kernel
theorem dX8_set_67 : decode cX8_set 67 = .ok (.lconst 1, 1) := by decide +kernel
theorem dX8_set_68 : decode cX8_set 68 = .ok (.ldc2_w 199, 3) := by decide +kernel
theorem dX8_set_71 : decode cX8_set 71 = .ok (.invokestatic 71, 3) := by decide +kernel
theorem dX8_set_74 : decode cX8_set 74 = .ok (.bipush 14, 2) := by decide +kernel
theorem dX8_set_76 : decode cX8_set 76 = .ok (.iload_n 2, 1) := by decide +kernel
theorem dX8_set_77 : decode cX8_set 77 = .ok (.iconst 5, 1) := by decide +kernel
theorem dX8_set_78 : decode cX8_set 78 = .ok (.invokevirtual 195, 3) := by decide +kernel
theorem dX8_set_81 : decode cX8_set 81 = .ok (.ireturn, 1) := by decide +kernel
theorem dX8_set_82 : decode cX8_set 82 = .ok (.iconst (-1), 1) := by decide +kernel
theorem dX8_set_83 : decode cX8_set 83 = .ok (.ireturn, 1) := by decide +kernel
theorem dX8_net_0 : decode cX8_net 0 = .ok (.iload_n 1, 1) := by decide +kernel
theorem dX8_net_1 : decode cX8_net 1 = .ok (.i2l, 1) := by decide +kernel
theorem dX8_net_2 : decode cX8_net 2 = .ok (.lconst 1, 1) := by decide +kernel
theorem dX8_net_3 : decode cX8_net 3 = .ok (.ldc2_w 115, 3) := by decide +kernel
theorem dX8_net_6 : decode cX8_net 6 = .ok (.invokestatic 71, 3) := by decide +kernel
theorem dX8_net_9 : decode cX8_net 9 = .ok (.ifCond .eq 20, 3) := by decide +kernel
theorem dX8_net_12 : decode cX8_net 12 = .ok (.iload_n 2, 1) := by decide +kernel
theorem dX8_net_13 : decode cX8_net 13 = .ok (.i2l, 1) := by decide +kernel
theorem dX8_net_14 : decode cX8_net 14 = .ok (.lconst 1, 1) := by decide +kernel
theorem dX8_net_15 : decode cX8_net 15 = .ok (.ldc2_w 201, 3) := by decide +kernel
theorem dX8_net_18 : decode cX8_net 18 = .ok (.invokestatic 71, 3) := by decide +kernel
theorem dX8_net_21 : decode cX8_net 21 = .ok (.ifCond .eq 8, 3) := by decide +kernel
theorem dX8_net_24 : decode cX8_net 24 = .ok (.iload_n 2, 1) := by decide +kernel
theorem dX8_net_25 : decode cX8_net 25 = .ok (.iload_n 1, 1) := by decide +kernel
theorem dX8_net_26 : decode cX8_net 26 = .ok (.if_icmp .gt 5, 3) := by decide +kernel
theorem dX8_net_29 : decode cX8_net 29 = .ok (.iconst (-1), 1) := by decide +kernel
theorem dX8_net_30 : decode cX8_net 30 = .ok (.ireturn, 1) := by decide +kernel
theorem dX8_net_31 : decode cX8_net 31 = .ok (.aload_n 0, 1) := by decide +kernel
theorem dX8_net_32 : decode cX8_net 32 = .ok (.getfield 7, 3) := by decide +kernel
theorem dX8_net_35 : decode cX8_net 35 = .ok (.bipush 16, 2) := by decide +kernel
theorem dX8_net_37 : decode cX8_net 37 = .ok (.iload_n 2, 1) := by decide +kernel
theorem dX8_net_38 : decode cX8_net 38 = .ok (.iconst 4, 1) := by decide +kernel
theorem dX8_net_39 : decode cX8_net 39 = .ok (.isub, 1) := by decide +kernel
theorem dX8_net_40 : decode cX8_net 40 = .ok (.iastore, 1) := by decide +kernel
theorem dX8_net_41 : decode cX8_net 41 = .ok (.aload_n 0, 1) := by decide +kernel
theorem dX8_net_42 : decode cX8_net 42 = .ok (.iconst 1, 1) := by decide +kernel
theorem dX8_net_43 : decode cX8_net 43 = .ok (.bipush 15, 2) := by decide +kernel
theorem dX8_net_45 : decode cX8_net 45 = .ok (.iload_n 1, 1) := by decide +kernel
theorem dX8_net_46 : decode cX8_net 46 = .ok (.iconst 2, 1) := by decide +kernel
theorem dX8_net_47 : decode cX8_net 47 = .ok (.invokevirtual 195, 3) := by decide +kernel
theorem dX8_net_50 : decode cX8_net 50 = .ok (.ireturn, 1) := by decide +kernel
theorem dX8_signal_0 : decode cX8_signal 0 = .ok (.aload_n 0, 1) := by decide +kernel
theorem dX8_signal_1 : decode cX8_signal 1 = .ok (.iload_n 1, 1) := by decide +kernel
theorem dX8_signal_2 : decode cX8_signal 2 = .ok (.invokevirtual 203, 3) := by decide +kernel
theorem dX8_signal_5 : decode cX8_signal 5 = .ok (.ifCond .ne 5, 3) := by decide +kernel
theorem dX8_signal_8 : decode cX8_signal 8 = .ok (.iconst (-1), 1) := by decide +kernel
theorem dX8_signal_9 : decode cX8_signal 9 = .ok (.ireturn, 1) := by decide +kernel
theorem dX8_signal_10 : decode cX8_signal 10 = .ok (.aload_n 0, 1) := by decide +kernel
theorem dX8_signal_11 : decode cX8_signal 11 = .ok (.getfield 7, 3) := by decide +kernel
theorem dX8_signal_14 : decode cX8_signal 14 = .ok (.bipush 11, 2) := by decide +kernel
theorem dX8_signal_16 : decode cX8_signal 16 = .ok (.iaload, 1) := by decide +kernel
theorem dX8_signal_17 : decode cX8_signal 17 = .ok (.iload_n 1, 1) := by decide +kernel
theorem dX8_signal_18 : decode cX8_signal 18 = .ok (.iconst 1, 1) := by decide +kernel
theorem dX8_signal_19 : decode cX8_signal 19 = .ok (.isub, 1) := by decide +kernel
theorem dX8_signal_20 : decode cX8_signal 20 = .ok (.ishr, 1) := by decide +kernel
theorem dX8_signal_21 : decode cX8_signal 21 = .ok (.iconst 1, 1) := by decide +kernel
theorem dX8_signal_22 : decode cX8_signal 22 = .ok (.iand, 1) := by decide +kernel
theorem dX8_signal_23 : decode cX8_signal 23 = .ok (.istore_n 3, 1) := by decide +kernel
theorem dX8_signal_24 : decode cX8_signal 24 = .ok (.aload_n 0, 1) := by decide +kernel
theorem dX8_signal_25 : decode cX8_signal 25 = .ok (.getfield 7, 3) := by decide +kernel
theorem dX8_signal_28 : decode cX8_signal 28 = .ok (.bipush 11, 2) := by decide +kernel
theorem dX8_signal_30 : decode cX8_signal 30 = .ok (.aload_n 0, 1) := by decide +kernel
theorem dX8_signal_31 : decode cX8_signal 31 = .ok (.getfield 7, 3) := by decide +kernel
theorem dX8_signal_34 : decode cX8_signal 34 = .ok (.bipush 11, 2) := by decide +kernel
theorem dX8_signal_36 : decode cX8_signal 36 = .ok (.iaload, 1) := by decide +kernel
theorem dX8_signal_37 : decode cX8_signal 37 = .ok (.iconst 1, 1) := by decide +kernel
theorem dX8_signal_38 : decode cX8_signal 38 = .ok (.iload_n 1, 1) := by decide +kernel
theorem dX8_signal_39 : decode cX8_signal 39 = .ok (.iconst 1, 1) := by decide +kernel
theorem dX8_signal_40 : decode cX8_signal 40 = .ok (.isub, 1) := by decide +kernel
theorem dX8_signal_41 : decode cX8_signal 41 = .ok (.ishl, 1) := by decide +kernel
theorem dX8_signal_42 : decode cX8_signal 42 = .ok (.iconst (-1), 1) := by decide +kernel
theorem dX8_signal_43 : decode cX8_signal 43 = .ok (.ixor, 1) := by decide +kernel
theorem dX8_signal_44 : decode cX8_signal 44 = .ok (.iand, 1) := by decide +kernel
theorem dX8_signal_45 : decode cX8_signal 45 = .ok (.iload_n 2, 1) := by decide +kernel
theorem dX8_signal_46 : decode cX8_signal 46 = .ok (.ifCond .eq 11, 3) := by decide +kernel
theorem dX8_signal_49 : decode cX8_signal 49 = .ok (.iconst 1, 1) := by decide +kernel
theorem dX8_signal_50 : decode cX8_signal 50 = .ok (.iload_n 1, 1) := by decide +kernel
theorem dX8_signal_51 : decode cX8_signal 51 = .ok (.iconst 1, 1) := by decide +kernel
theorem dX8_signal_52 : decode cX8_signal 52 = .ok (.isub, 1) := by decide +kernel
theorem dX8_signal_53 : decode cX8_signal 53 = .ok (.ishl, 1) := by decide +kernel
theorem dX8_signal_54 : decode cX8_signal 54 = .ok (.goto 4, 3) := by decide +kernel
theorem dX8_signal_57 : decode cX8_signal 57 = .ok (.iconst 0, 1) := by decide +kernel
theorem dX8_signal_58 : decode cX8_signal 58 = .ok (.ior, 1) := by decide +kernel
theorem dX8_signal_59 : decode cX8_signal 59 = .ok (.iastore, 1) := by decide +kernel
theorem dX8_signal_60 : decode cX8_signal 60 = .ok (.iload_n 3, 1) := by decide +kernel
theorem dX8_signal_61 : decode cX8_signal 61 = .ok (.ireturn, 1) := by decide +kernel
theorem dX8_bridge_0 : decode cX8_bridge 0 = .ok (.aload_n 0, 1) := by decide +kernel
theorem dX8_bridge_1 : decode cX8_bridge 1 = .ok (.iload_n 1, 1) := by decide +kernel
theorem dX8_bridge_2 : decode cX8_bridge 2 = .ok (.i2l, 1) := by decide +kernel
theorem dX8_bridge_3 : decode cX8_bridge 3 = .ok (.lconst 0, 1) := by decide +kernel
theorem dX8_bridge_4 : decode cX8_bridge 4 = .ok (.aload_n 0, 1) := by decide +kernel
theorem dX8_bridge_5 : decode cX8_bridge 5 = .ok (.getfield 13, 3) := by decide +kernel
theorem dX8_bridge_8 : decode cX8_bridge 8 = .ok (.i2l, 1) := by decide +kernel
theorem dX8_bridge_9 : decode cX8_bridge 9 = .ok (.invokestatic 71, 3) := by decide +kernel
theorem dX8_bridge_12 : decode cX8_bridge 12 = .ok (.bipush 12, 2) := by decide +kernel
theorem dX8_bridge_14 : decode cX8_bridge 14 = .ok (.iload_n 1, 1) := by decide +kernel
theorem dX8_bridge_15 : decode cX8_bridge 15 = .ok (.iconst 0, 1) := by decide +kernel
theorem dX8_bridge_16 : decode cX8_bridge 16 = .ok (.invokevirtual 195, 3) := by decide +kernel
theorem dX8_bridge_19 : decode cX8_bridge 19 = .ok (.ireturn, 1) := by decide +kernel
theorem dX8_clear_0 : decode cX8_clear 0 = .ok (.aload_n 0, 1) := by decide +kernel
theorem dX8_clear_1 : decode cX8_clear 1 = .ok (.iload_n 1, 1) := by decide +kernel
theorem dX8_clear_2 : decode cX8_clear 2 = .ok (.i2l, 1) := by decide +kernel
theorem dX8_clear_3 : decode cX8_clear 3 = .ok (.lconst 0, 1) := by decide +kernel
theorem dX8_clear_4 : decode cX8_clear 4 = .ok (.aload_n 0, 1) := by decide +kernel
theorem dX8_clear_5 : decode cX8_clear 5 = .ok (.getfield 170, 3) := by decide +kernel
theorem dX8_clear_8 : decode cX8_clear 8 = .ok (.iconst 1, 1) := by decide +kernel
theorem dX8_clear_9 : decode cX8_clear 9 = .ok (.isub, 1) := by decide +kernel
theorem dX8_clear_10 : decode cX8_clear 10 = .ok (.i2l, 1) := by decide +kernel
theorem dX8_clear_11 : decode cX8_clear 11 = .ok (.invokestatic 71, 3) := by decide +kernel
theorem dX8_clear_14 : decode cX8_clear 14 = .ok (.ifCond .eq 19, 3) := by decide +kernel
theorem dX8_clear_17 : decode cX8_clear 17 = .ok (.iload_n 2, 1) := by decide +kernel
theorem dX8_clear_18 : decode cX8_clear 18 = .ok (.i2l, 1) := by decide +kernel
theorem dX8_clear_19 : decode cX8_clear 19 = .ok (.lconst 0, 1) := by decide +kernel
theorem dX8_clear_20 : decode cX8_clear 20 = .ok (.ldc2_w 115, 3) := by decide +kernel
theorem dX8_clear_23 : decode cX8_clear 23 = .ok (.invokestatic 71, 3) := by decide +kernel
theorem dX8_clear_26 : decode cX8_clear 26 = .ok (.ifCond .eq 7, 3) := by decide +kernel
theorem dX8_clear_29 : decode cX8_clear 29 = .ok (.iconst 1, 1) := by decide +kernel
theorem dX8_clear_30 : decode cX8_clear 30 = .ok (.goto 4, 3) := by decide +kernel
theorem dX8_clear_33 : decode cX8_clear 33 = .ok (.iconst 0, 1) := by decide +kernel
theorem dX8_clear_34 : decode cX8_clear 34 = .ok (.iconst 3, 1) := by decide +kernel
theorem dX8_clear_35 : decode cX8_clear 35 = .ok (.iload_n 1, 1) := by decide +kernel
theorem dX8_clear_36 : decode cX8_clear 36 = .ok (.iadd, 1) := by decide +kernel
theorem dX8_clear_37 : decode cX8_clear 37 = .ok (.iload_n 2, 1) := by decide +kernel
theorem dX8_clear_38 : decode cX8_clear 38 = .ok (.iconst 0, 1) := by decide +kernel
theorem dX8_clear_39 : decode cX8_clear 39 = .ok (.invokevirtual 195, 3) := by decide +kernel
theorem dX8_clear_42 : decode cX8_clear 42 = .ok (.ireturn, 1) := by decide +kernel
theorem dX8_hang_0 : decode cX8_hang 0 = .ok (.aload_n 0, 1) := by decide +kernel
theorem dX8_hang_1 : decode cX8_hang 1 = .ok (.aload_n 0, 1) := by decide +kernel
theorem dX8_hang_2 : decode cX8_hang 2 = .ok (.iload_n 1, 1) := by decide +kernel
theorem dX8_hang_3 : decode cX8_hang 3 = .ok (.invokevirtual 188, 3) := by decide +kernel
theorem dX8_hang_6 : decode cX8_hang 6 = .ok (.ifCond .eq 19, 3) := by decide +kernel
theorem dX8_hang_9 : decode cX8_hang 9 = .ok (.iload_n 2, 1) := by decide +kernel
theorem dX8_hang_10 : decode cX8_hang 10 = .ok (.i2l, 1) := by decide +kernel
theorem dX8_hang_11 : decode cX8_hang 11 = .ok (.lconst 0, 1) := by decide +kernel
theorem dX8_hang_12 : decode cX8_hang 12 = .ok (.ldc2_w 206, 3) := by decide +kernel
theorem dX8_hang_15 : decode cX8_hang 15 = .ok (.invokestatic 71, 3) := by decide +kernel
theorem dX8_hang_18 : decode cX8_hang 18 = .ok (.ifCond .eq 7, 3) := by decide +kernel
theorem dX8_hang_21 : decode cX8_hang 21 = .ok (.iconst 1, 1) := by decide +kernel
theorem dX8_hang_22 : decode cX8_hang 22 = .ok (.goto 4, 3) := by decide +kernel
theorem dX8_hang_25 : decode cX8_hang 25 = .ok (.iconst 0, 1) := by decide +kernel
theorem dX8_hang_26 : decode cX8_hang 26 = .ok (.iload_n 1, 1) := by decide +kernel
theorem dX8_hang_27 : decode cX8_hang 27 = .ok (.iload_n 2, 1) := by decide +kernel
theorem dX8_hang_28 : decode cX8_hang 28 = .ok (.iconst 0, 1) := by decide +kernel
theorem dX8_hang_29 : decode cX8_hang 29 = .ok (.invokevirtual 195, 3) := by decide +kernel
theorem dX8_hang_32 : decode cX8_hang 32 = .ok (.ireturn, 1) := by decide +kernel
theorem dX8_posts_0 : decode cX8_posts 0 = .ok (.iload_n 1, 1) := by decide +kernel
theorem dX8_posts_1 : decode cX8_posts 1 = .ok (.i2l, 1) := by decide +kernel
theorem dX8_posts_2 : decode cX8_posts 2 = .ok (.lconst 0, 1) := by decide +kernel
theorem dX8_posts_3 : decode cX8_posts 3 = .ok (.aload_n 0, 1) := by decide +kernel
theorem dX8_posts_4 : decode cX8_posts 4 = .ok (.getfield 173, 3) := by decide +kernel
theorem dX8_posts_7 : decode cX8_posts 7 = .ok (.iconst 1, 1) := by decide +kernel
theorem dX8_posts_8 : decode cX8_posts 8 = .ok (.isub, 1) := by decide +kernel
theorem dX8_posts_9 : decode cX8_posts 9 = .ok (.i2l, 1) := by decide +kernel
theorem dX8_posts_10 : decode cX8_posts 10 = .ok (.invokestatic 71, 3) := by decide +kernel
theorem dX8_posts_13 : decode cX8_posts 13 = .ok (.ifCond .eq 15, 3) := by decide +kernel
theorem dX8_posts_16 : decode cX8_posts 16 = .ok (.iload_n 2, 1) := by decide +kernel
theorem dX8_posts_17 : decode cX8_posts 17 = .ok (.i2l, 1) := by decide +kernel
theorem dX8_posts_18 : decode cX8_posts 18 = .ok (.lconst 0, 1) := by decide +kernel
theorem dX8_posts_19 : decode cX8_posts 19 = .ok (.ldc2_w 208, 3) := by decide +kernel
theorem dX8_posts_22 : decode cX8_posts 22 = .ok (.invokestatic 71, 3) := by decide +kernel
theorem dX8_posts_25 : decode cX8_posts 25 = .ok (.ifCond .ne 5, 3) := by decide +kernel
theorem dX8_posts_28 : decode cX8_posts 28 = .ok (.iconst (-1), 1) := by decide +kernel
theorem dX8_posts_29 : decode cX8_posts 29 = .ok (.ireturn, 1) := by decide +kernel
theorem dX8_posts_30 : decode cX8_posts 30 = .ok (.aload_n 0, 1) := by decide +kernel
theorem dX8_posts_31 : decode cX8_posts 31 = .ok (.getfield 7, 3) := by decide +kernel
theorem dX8_posts_34 : decode cX8_posts 34 = .ok (.bipush 6, 2) := by decide +kernel
theorem dX8_posts_36 : decode cX8_posts 36 = .ok (.iload_n 1, 1) := by decide +kernel
theorem dX8_posts_37 : decode cX8_posts 37 = .ok (.iadd, 1) := by decide +kernel
theorem dX8_posts_38 : decode cX8_posts 38 = .ok (.iaload, 1) := by decide +kernel
theorem dX8_posts_39 : decode cX8_posts 39 = .ok (.iload_n 2, 1) := by decide +kernel
theorem dX8_posts_40 : decode cX8_posts 40 = .ok (.iadd, 1) := by decide +kernel
theorem dX8_posts_41 : decode cX8_posts 41 = .ok (.bipush 99, 2) := by decide +kernel
theorem dX8_posts_43 : decode cX8_posts 43 = .ok (.if_icmp .le 6, 3) := by decide +kernel
theorem dX8_posts_46 : decode cX8_posts 46 = .ok (.bipush (-3), 2) := by decide +kernel
theorem dX8_posts_48 : decode cX8_posts 48 = .ok (.ireturn, 1) := by decide +kernel
theorem dX8_posts_49 : decode cX8_posts 49 = .ok (.aload_n 0, 1) := by decide +kernel
theorem dX8_posts_50 : decode cX8_posts 50 = .ok (.getfield 7, 3) := by decide +kernel
theorem dX8_posts_53 : decode cX8_posts 53 = .ok (.bipush 6, 2) := by decide +kernel
theorem dX8_posts_55 : decode cX8_posts 55 = .ok (.iload_n 1, 1) := by decide +kernel
theorem dX8_posts_56 : decode cX8_posts 56 = .ok (.iadd, 1) := by decide +kernel
theorem dX8_posts_57 : decode cX8_posts 57 = .ok (.dup2, 1) := by decide +kernel
theorem dX8_posts_58 : decode cX8_posts 58 = .ok (.iaload, 1) := by decide +kernel
theorem dX8_posts_59 : decode cX8_posts 59 = .ok (.iload_n 2, 1) := by decide +kernel
theorem dX8_posts_60 : decode cX8_posts 60 = .ok (.iadd, 1) := by decide +kernel
theorem dX8_posts_61 : decode cX8_posts 61 = .ok (.iastore, 1) := by decide +kernel
theorem dX8_posts_62 : decode cX8_posts 62 = .ok (.aload_n 0, 1) := by decide +kernel
theorem dX8_posts_63 : decode cX8_posts 63 = .ok (.getfield 7, 3) := by decide +kernel
theorem dX8_posts_66 : decode cX8_posts 66 = .ok (.bipush 6, 2) := by decide +kernel
theorem dX8_posts_68 : decode cX8_posts 68 = .ok (.iload_n 1, 1) := by decide +kernel
theorem dX8_posts_69 : decode cX8_posts 69 = .ok (.iadd, 1) := by decide +kernel
theorem dX8_posts_70 : decode cX8_posts 70 = .ok (.iaload, 1) := by decide +kernel
theorem dX8_posts_71 : decode cX8_posts 71 = .ok (.ireturn, 1) := by decide +kernel
theorem dX8_post_0 : decode cX8_post 0 = .ok (.aload_n 0, 1) := by decide +kernel
theorem dX8_post_1 : decode cX8_post 1 = .ok (.iload_n 1, 1) := by decide +kernel
theorem dX8_post_2 : decode cX8_post 2 = .ok (.iload_n 2, 1) := by decide +kernel
theorem dX8_post_3 : decode cX8_post 3 = .ok (.invokevirtual 210, 3) := by decide +kernel
theorem dX8_post_6 : decode cX8_post 6 = .ok (.ireturn, 1) := by decide +kernel
theorem dX8_counted_0 : decode cX8_counted 0 = .ok (.aload_n 0, 1) := by decide +kernel
theorem dX8_counted_1 : decode cX8_counted 1 = .ok (.dup, 1) := by decide +kernel
theorem dX8_counted_2 : decode cX8_counted 2 = .ok (.getfield 213, 3) := by decide +kernel
theorem dX8_counted_5 : decode cX8_counted 5 = .ok (.iload_n 1, 1) := by decide +kernel
theorem dX8_counted_6 : decode cX8_counted 6 = .ok (.iload_n 3, 1) := by decide +kernel
theorem dX8_counted_7 : decode cX8_counted 7 = .ok (.iconst 1, 1) := by decide +kernel
theorem dX8_counted_8 : decode cX8_counted 8 = .ok (.isub, 1) := by decide +kernel
theorem dX8_counted_9 : decode cX8_counted 9 = .ok (.ishr, 1) := by decide +kernel
theorem dX8_counted_10 : decode cX8_counted 10 = .ok (.iconst 1, 1) := by decide +kernel
theorem dX8_counted_11 : decode cX8_counted 11 = .ok (.iand, 1) := by decide +kernel
theorem dX8_counted_12 : decode cX8_counted 12 = .ok (.iconst 1, 1) := by decide +kernel
theorem dX8_counted_13 : decode cX8_counted 13 = .ok (.if_icmp .ne 7, 3) := by decide +kernel
theorem dX8_counted_16 : decode cX8_counted 16 = .ok (.iconst 0, 1) := by decide +kernel
theorem dX8_counted_17 : decode cX8_counted 17 = .ok (.goto 4, 3) := by decide +kernel
theorem dX8_counted_20 : decode cX8_counted 20 = .ok (.iconst 1, 1) := by decide +kernel
theorem dX8_counted_21 : decode cX8_counted 21 = .ok (.iadd, 1) := by decide +kernel
theorem dX8_counted_22 : decode cX8_counted 22 = .ok (.putfield 213, 3) := by decide +kernel
theorem dX8_counted_25 : decode cX8_counted 25 = .ok (.iconst 0, 1) := by decide +kernel
theorem dX8_counted_26 : decode cX8_counted 26 = .ok (.istore 4, 2) := by decide +kernel
theorem dX8_counted_28 : decode cX8_counted 28 = .ok (.iload 4, 2) := by decide +kernel
theorem dX8_counted_30 : decode cX8_counted 30 = .ok (.aload_n 0, 1) := by decide +kernel
theorem dX8_counted_31 : decode cX8_counted 31 = .ok (.getfield 170, 3) := by decide +kernel
theorem dX8_counted_34 : decode cX8_counted 34 = .ok (.if_icmp .ge 42, 3) := by decide +kernel
theorem dX8_counted_37 : decode cX8_counted 37 = .ok (.aload_n 0, 1) := by decide +kernel
theorem dX8_counted_38 : decode cX8_counted 38 = .ok (.aload_n 0, 1) := by decide +kernel
theorem dX8_counted_39 : decode cX8_counted 39 = .ok (.getfield 20, 3) := by decide +kernel
theorem dX8_counted_42 : decode cX8_counted 42 = .ok (.iload 4, 2) := by decide +kernel
theorem dX8_counted_44 : decode cX8_counted 44 = .ok (.iaload, 1) := by decide +kernel
theorem dX8_counted_45 : decode cX8_counted 45 = .ok (.iload_n 3, 1) := by decide +kernel
theorem dX8_counted_46 : decode cX8_counted 46 = .ok (.if_icmp .ne 17, 3) := by decide +kernel
theorem dX8_counted_49 : decode cX8_counted 49 = .ok (.iload_n 2, 1) := by decide +kernel
theorem dX8_counted_50 : decode cX8_counted 50 = .ok (.iload 4, 2) := by decide +kernel
theorem dX8_counted_52 : decode cX8_counted 52 = .ok (.ishr, 1) := by decide +kernel
theorem dX8_counted_53 : decode cX8_counted 53 = .ok (.iconst 1, 1) := by decide +kernel
theorem dX8_counted_54 : decode cX8_counted 54 = .ok (.iand, 1) := by decide +kernel
theorem dX8_counted_55 : decode cX8_counted 55 = .ok (.iconst 1, 1) := by decide +kernel
theorem dX8_counted_56 : decode cX8_counted 56 = .ok (.if_icmp .ne 7, 3) := by decide +kernel
theorem dX8_counted_59 : decode cX8_counted 59 = .ok (.iload_n 3, 1) := by decide +kernel
theorem dX8_counted_60 : decode cX8_counted 60 = .ok (.goto 7, 3) := by decide +kernel
theorem dX8_counted_63 : decode cX8_counted 63 = .ok (.aload_n 0, 1) := by decide +kernel
theorem dX8_counted_64 : decode cX8_counted 64 = .ok (.getfield 213, 3) := by decide +kernel
theorem dX8_counted_67 : decode cX8_counted 67 = .ok (.putfield 213, 3) := by decide +kernel
theorem dX8_counted_70 : decode cX8_counted 70 = .ok (.iinc 4 1, 3) := by decide +kernel
theorem dX8_counted_73 : decode cX8_counted 73 = .ok (.goto (-45), 3) := by decide +kernel
theorem dX8_counted_76 : decode cX8_counted 76 = .ok (.return_, 1) := by decide +kernel
theorem dX8_nights_0 : decode cX8_nights 0 = .ok (.iconst 0, 1) := by decide +kernel
theorem dX8_nights_1 : decode cX8_nights 1 = .ok (.istore_n 3, 1) := by decide +kernel
theorem dX8_nights_2 : decode cX8_nights 2 = .ok (.aload_n 0, 1) := by decide +kernel
theorem dX8_nights_3 : decode cX8_nights 3 = .ok (.iconst 0, 1) := by decide +kernel
theorem dX8_nights_4 : decode cX8_nights 4 = .ok (.putfield 213, 3) := by decide +kernel
theorem dX8_nights_7 : decode cX8_nights 7 = .ok (.aload_n 0, 1) := by decide +kernel
theorem dX8_nights_8 : decode cX8_nights 8 = .ok (.bipush (-4), 2) := by decide +kernel
theorem dX8_nights_10 : decode cX8_nights 10 = .ok (.putfield 216, 3) := by decide +kernel
theorem dX8_nights_13 : decode cX8_nights 13 = .ok (.aload_n 0, 1) := by decide +kernel
theorem dX8_nights_14 : decode cX8_nights 14 = .ok (.bipush (-4), 2) := by decide +kernel
theorem dX8_nights_16 : decode cX8_nights 16 = .ok (.putfield 219, 3) := by decide +kernel
theorem dX8_nights_19 : decode cX8_nights 19 = .ok (.aload_n 0, 1) := by decide +kernel
theorem dX8_nights_20 : decode cX8_nights 20 = .ok (.iconst 0, 1) := by decide +kernel
theorem dX8_nights_21 : decode cX8_nights 21 = .ok (.putfield 222, 3) := by decide +kernel
theorem dX8_nights_24 : decode cX8_nights 24 = .ok (.aload_n 0, 1) := by decide +kernel
theorem dX8_nights_25 : decode cX8_nights 25 = .ok (.iconst 0, 1) := by decide +kernel
theorem dX8_nights_26 : decode cX8_nights 26 = .ok (.putfield 225, 3) := by decide +kernel
theorem dX8_nights_29 : decode cX8_nights 29 = .ok (.aload_n 0, 1) := by decide +kernel
theorem dX8_nights_30 : decode cX8_nights 30 = .ok (.iconst 0, 1) := by decide +kernel
theorem dX8_nights_31 : decode cX8_nights 31 = .ok (.putfield 228, 3) := by decide +kernel
theorem dX8_nights_34 : decode cX8_nights 34 = .ok (.aload_n 0, 1) := by decide +kernel
theorem dX8_nights_35 : decode cX8_nights 35 = .ok (.iconst 0, 1) := by decide +kernel
theorem dX8_nights_36 : decode cX8_nights 36 = .ok (.putfield 231, 3) := by decide +kernel
theorem dX8_nights_39 : decode cX8_nights 39 = .ok (.iconst 1, 1) := by decide +kernel
theorem dX8_nights_40 : decode cX8_nights 40 = .ok (.istore 4, 2) := by decide +kernel
theorem dX8_nights_42 : decode cX8_nights 42 = .ok (.iload 4, 2) := by decide +kernel
theorem dX8_nights_44 : decode cX8_nights 44 = .ok (.aload_n 0, 1) := by decide +kernel
theorem dX8_nights_45 : decode cX8_nights 45 = .ok (.getfield 13, 3) := by decide +kernel
theorem dX8_nights_48 : decode cX8_nights 48 = .ok (.if_icmp .gt 191, 3) := by decide +kernel
theorem dX8_nights_51 : decode cX8_nights 51 = .ok (.aload_n 0, 1) := by decide +kernel
theorem dX8_nights_52 : decode cX8_nights 52 = .ok (.iload_n 1, 1) := by decide +kernel
theorem dX8_nights_53 : decode cX8_nights 53 = .ok (.iload_n 2, 1) := by decide +kernel
theorem dX8_nights_54 : decode cX8_nights 54 = .ok (.iload 4, 2) := by decide +kernel
theorem dX8_nights_56 : decode cX8_nights 56 = .ok (.invokevirtual 234, 3) := by decide +kernel
theorem dX8_nights_59 : decode cX8_nights 59 = .ok (.aload_n 0, 1) := by decide +kernel
theorem dX8_nights_60 : decode cX8_nights 60 = .ok (.getfield 216, 3) := by decide +kernel
theorem dX8_nights_63 : decode cX8_nights 63 = .ok (.bipush (-4), 2) := by decide +kernel
theorem dX8_nights_65 : decode cX8_nights 65 = .ok (.if_icmp .ne 30, 3) := by decide +kernel
theorem dX8_nights_68 : decode cX8_nights 68 = .ok (.aload_n 0, 1) := by decide +kernel
theorem dX8_nights_69 : decode cX8_nights 69 = .ok (.getfield 213, 3) := by decide +kernel
theorem dX8_nights_72 : decode cX8_nights 72 = .ok (.aload_n 0, 1) := by decide +kernel
theorem dX8_nights_73 : decode cX8_nights 73 = .ok (.getfield 7, 3) := by decide +kernel
theorem dX8_nights_76 : decode cX8_nights 76 = .ok (.bipush 15, 2) := by decide +kernel
theorem dX8_nights_78 : decode cX8_nights 78 = .ok (.iaload, 1) := by decide +kernel
theorem dX8_nights_79 : decode cX8_nights 79 = .ok (.iconst 2, 1) := by decide +kernel
theorem dX8_nights_80 : decode cX8_nights 80 = .ok (.iadd, 1) := by decide +kernel
theorem dX8_nights_81 : decode cX8_nights 81 = .ok (.if_icmp .lt 14, 3) := by decide +kernel
theorem dX8_nights_84 : decode cX8_nights 84 = .ok (.aload_n 0, 1) := by decide +kernel
theorem dX8_nights_85 : decode cX8_nights 85 = .ok (.iload 4, 2) := by decide +kernel
theorem dX8_nights_87 : decode cX8_nights 87 = .ok (.putfield 216, 3) := by decide +kernel
theorem dX8_nights_90 : decode cX8_nights 90 = .ok (.iconst 1, 1) := by decide +kernel
theorem dX8_nights_91 : decode cX8_nights 91 = .ok (.istore_n 3, 1) := by decide +kernel
theorem dX8_nights_92 : decode cX8_nights 92 = .ok (.goto 31, 3) := by decide +kernel
theorem dX8_nights_95 : decode cX8_nights 95 = .ok (.iload_n 3, 1) := by decide +kernel
theorem dX8_nights_96 : decode cX8_nights 96 = .ok (.ifCond .eq 27, 3) := by decide +kernel
theorem dX8_nights_99 : decode cX8_nights 99 = .ok (.aload_n 0, 1) := by decide +kernel
theorem dX8_nights_100 : decode cX8_nights 100 = .ok (.getfield 213, 3) := by decide +kernel
theorem dX8_nights_103 : decode cX8_nights 103 = .ok (.aload_n 0, 1) := by decide +kernel
theorem dX8_nights_104 : decode cX8_nights 104 = .ok (.getfield 7, 3) := by decide +kernel
theorem dX8_nights_107 : decode cX8_nights 107 = .ok (.bipush 16, 2) := by decide +kernel
theorem dX8_nights_109 : decode cX8_nights 109 = .ok (.iaload, 1) := by decide +kernel
theorem dX8_nights_110 : decode cX8_nights 110 = .ok (.iconst 4, 1) := by decide +kernel
theorem dX8_nights_111 : decode cX8_nights 111 = .ok (.iadd, 1) := by decide +kernel
theorem dX8_nights_112 : decode cX8_nights 112 = .ok (.if_icmp .lt 11, 3) := by decide +kernel
theorem dX8_nights_115 : decode cX8_nights 115 = .ok (.aload_n 0, 1) := by decide +kernel
theorem dX8_nights_116 : decode cX8_nights 116 = .ok (.iload 4, 2) := by decide +kernel
theorem dX8_nights_118 : decode cX8_nights 118 = .ok (.putfield 219, 3) := by decide +kernel
theorem dX8_nights_121 : decode cX8_nights 121 = .ok (.iconst 0, 1) := by decide +kernel
theorem dX8_nights_122 : decode cX8_nights 122 = .ok (.istore_n 3, 1) := by decide +kernel
theorem dX8_nights_123 : decode cX8_nights 123 = .ok (.iload_n 3, 1) := by decide +kernel
theorem dX8_nights_124 : decode cX8_nights 124 = .ok (.ifCond .eq 109, 3) := by decide +kernel
theorem dX8_nights_127 : decode cX8_nights 127 = .ok (.aload_n 0, 1) := by decide +kernel
theorem dX8_nights_128 : decode cX8_nights 128 = .ok (.dup, 1) := by decide +kernel
theorem dX8_nights_129 : decode cX8_nights 129 = .ok (.getfield 231, 3) := by decide +kernel
theorem dX8_nights_132 : decode cX8_nights 132 = .ok (.iconst 1, 1) := by decide +kernel
theorem dX8_nights_133 : decode cX8_nights 133 = .ok (.iload 4, 2) := by decide +kernel
theorem dX8_nights_135 : decode cX8_nights 135 = .ok (.iconst 1, 1) := by decide +kernel
theorem dX8_nights_136 : decode cX8_nights 136 = .ok (.isub, 1) := by decide +kernel
theorem dX8_nights_137 : decode cX8_nights 137 = .ok (.ishl, 1) := by decide +kernel
theorem dX8_nights_138 : decode cX8_nights 138 = .ok (.ior, 1) := by decide +kernel
theorem dX8_nights_139 : decode cX8_nights 139 = .ok (.putfield 231, 3) := by decide +kernel
theorem dX8_nights_142 : decode cX8_nights 142 = .ok (.aload_n 0, 1) := by decide +kernel
theorem dX8_nights_143 : decode cX8_nights 143 = .ok (.dup, 1) := by decide +kernel
theorem dX8_nights_144 : decode cX8_nights 144 = .ok (.getfield 225, 3) := by decide +kernel
theorem dX8_nights_147 : decode cX8_nights 147 = .ok (.aload_n 0, 1) := by decide +kernel
theorem dX8_nights_148 : decode cX8_nights 148 = .ok (.getfield 7, 3) := by decide +kernel
theorem dX8_nights_151 : decode cX8_nights 151 = .ok (.bipush 11, 2) := by decide +kernel
theorem dX8_nights_153 : decode cX8_nights 153 = .ok (.iaload, 1) := by decide +kernel
theorem dX8_nights_154 : decode cX8_nights 154 = .ok (.iconst 1, 1) := by decide +kernel
theorem dX8_nights_155 : decode cX8_nights 155 = .ok (.iload 4, 2) := by decide +kernel
theorem dX8_nights_157 : decode cX8_nights 157 = .ok (.iconst 1, 1) := by decide +kernel
theorem dX8_nights_158 : decode cX8_nights 158 = .ok (.isub, 1) := by decide +kernel
theorem dX8_nights_159 : decode cX8_nights 159 = .ok (.ishl, 1) := by decide +kernel
theorem dX8_nights_160 : decode cX8_nights 160 = .ok (.iand, 1) := by decide +kernel
theorem dX8_nights_161 : decode cX8_nights 161 = .ok (.ior, 1) := by decide +kernel
theorem dX8_nights_162 : decode cX8_nights 162 = .ok (.putfield 225, 3) := by decide +kernel
theorem dX8_nights_165 : decode cX8_nights 165 = .ok (.iconst 0, 1) := by decide +kernel
theorem dX8_nights_166 : decode cX8_nights 166 = .ok (.istore 5, 2) := by decide +kernel
theorem dX8_nights_168 : decode cX8_nights 168 = .ok (.iload 5, 2) := by decide +kernel
theorem dX8_nights_170 : decode cX8_nights 170 = .ok (.aload_n 0, 1) := by decide +kernel
theorem dX8_nights_171 : decode cX8_nights 171 = .ok (.getfield 167, 3) := by decide +kernel
theorem dX8_nights_174 : decode cX8_nights 174 = .ok (.if_icmp .ge 40, 3) := by decide +kernel
theorem dX8_nights_177 : decode cX8_nights 177 = .ok (.aload_n 0, 1) := by decide +kernel
theorem dX8_nights_178 : decode cX8_nights 178 = .ok (.dup, 1) := by decide +kernel
theorem dX8_nights_179 : decode cX8_nights 179 = .ok (.getfield 222, 3) := by decide +kernel
theorem dX8_nights_182 : decode cX8_nights 182 = .ok (.aload_n 0, 1) := by decide +kernel
theorem dX8_nights_183 : decode cX8_nights 183 = .ok (.getfield 17, 3) := by decide +kernel
theorem dX8_nights_186 : decode cX8_nights 186 = .ok (.iconst 2, 1) := by decide +kernel
theorem dX8_nights_187 : decode cX8_nights 187 = .ok (.iload 5, 2) := by decide +kernel
theorem dX8_nights_189 : decode cX8_nights 189 = .ok (.imul, 1) := by decide +kernel
theorem dX8_nights_190 : decode cX8_nights 190 = .ok (.iaload, 1) := by decide +kernel
theorem dX8_nights_191 : decode cX8_nights 191 = .ok (.iload 4, 2) := by decide +kernel
theorem dX8_nights_193 : decode cX8_nights 193 = .ok (.if_icmp .ne 10, 3) := by decide +kernel
theorem dX8_nights_196 : decode cX8_nights 196 = .ok (.iconst 1, 1) := by decide +kernel
theorem dX8_nights_197 : decode cX8_nights 197 = .ok (.iload 5, 2) := by decide +kernel
theorem dX8_nights_199 : decode cX8_nights 199 = .ok (.ishl, 1) := by decide +kernel
theorem dX8_nights_200 : decode cX8_nights 200 = .ok (.goto 4, 3) := by decide +kernel
theorem dX8_nights_203 : decode cX8_nights 203 = .ok (.iconst 0, 1) := by decide +kernel
theorem dX8_nights_204 : decode cX8_nights 204 = .ok (.ior, 1) := by decide +kernel
theorem dX8_nights_205 : decode cX8_nights 205 = .ok (.putfield 222, 3) := by decide +kernel
theorem dX8_nights_208 : decode cX8_nights 208 = .ok (.iinc 5 1, 3) := by decide +kernel
theorem dX8_nights_211 : decode cX8_nights 211 = .ok (.goto (-43), 3) := by decide +kernel
theorem dX8_nights_214 : decode cX8_nights 214 = .ok (.aload_n 0, 1) := by decide +kernel
theorem dX8_nights_215 : decode cX8_nights 215 = .ok (.getfield 7, 3) := by decide +kernel
theorem dX8_nights_218 : decode cX8_nights 218 = .ok (.bipush 12, 2) := by decide +kernel
theorem dX8_nights_220 : decode cX8_nights 220 = .ok (.iaload, 1) := by decide +kernel
theorem dX8_nights_221 : decode cX8_nights 221 = .ok (.iload 4, 2) := by decide +kernel
theorem dX8_nights_223 : decode cX8_nights 223 = .ok (.if_icmp .ne 10, 3) := by decide +kernel
theorem dX8_nights_226 : decode cX8_nights 226 = .ok (.aload_n 0, 1) := by decide +kernel
theorem dX8_nights_227 : decode cX8_nights 227 = .ok (.iconst 1, 1) := by decide +kernel
theorem dX8_nights_228 : decode cX8_nights 228 = .ok (.putfield 228, 3) := by decide +kernel
theorem dX8_nights_231 : decode cX8_nights 231 = .ok (.iconst 0, 1) := by decide +kernel
theorem dX8_nights_232 : decode cX8_nights 232 = .ok (.istore_n 3, 1) := by decide +kernel
theorem dX8_nights_233 : decode cX8_nights 233 = .ok (.iinc 4 1, 3) := by decide +kernel
theorem dX8_nights_236 : decode cX8_nights 236 = .ok (.goto (-194), 3) := by decide +kernel
theorem dX8_nights_239 : decode cX8_nights 239 = .ok (.return_, 1) := by decide +kernel
theorem dX8_nightTold_0 : decode cX8_nightTold 0 = .ok (.iload_n 1, 1) := by decide +kernel
theorem dX8_nightTold_1 : decode cX8_nightTold 1 = .ok (.ifCond .ne 10, 3) := by decide +kernel
theorem dX8_nightTold_4 : decode cX8_nightTold 4 = .ok (.aload_n 0, 1) := by decide +kernel
theorem dX8_nightTold_5 : decode cX8_nightTold 5 = .ok (.getfield 216, 3) := by decide +kernel
theorem dX8_nightTold_8 : decode cX8_nightTold 8 = .ok (.goto 55, 3) := by decide +kernel
theorem dX8_nightTold_11 : decode cX8_nightTold 11 = .ok (.iload_n 1, 1) := by decide +kernel
theorem dX8_nightTold_12 : decode cX8_nightTold 12 = .ok (.iconst 1, 1) := by decide +kernel
theorem dX8_nightTold_13 : decode cX8_nightTold 13 = .ok (.if_icmp .ne 10, 3) := by decide +kernel
theorem dX8_nightTold_16 : decode cX8_nightTold 16 = .ok (.aload_n 0, 1) := by decide +kernel
theorem dX8_nightTold_17 : decode cX8_nightTold 17 = .ok (.getfield 219, 3) := by decide +kernel
theorem dX8_nightTold_20 : decode cX8_nightTold 20 = .ok (.goto 43, 3) := by decide +kernel
theorem dX8_nightTold_23 : decode cX8_nightTold 23 = .ok (.iload_n 1, 1) := by decide +kernel
theorem dX8_nightTold_24 : decode cX8_nightTold 24 = .ok (.iconst 2, 1) := by decide +kernel
theorem dX8_nightTold_25 : decode cX8_nightTold 25 = .ok (.if_icmp .ne 10, 3) := by decide +kernel
theorem dX8_nightTold_28 : decode cX8_nightTold 28 = .ok (.aload_n 0, 1) := by decide +kernel
theorem dX8_nightTold_29 : decode cX8_nightTold 29 = .ok (.getfield 222, 3) := by decide +kernel
theorem dX8_nightTold_32 : decode cX8_nightTold 32 = .ok (.goto 31, 3) := by decide +kernel
theorem dX8_nightTold_35 : decode cX8_nightTold 35 = .ok (.iload_n 1, 1) := by decide +kernel
theorem dX8_nightTold_36 : decode cX8_nightTold 36 = .ok (.iconst 3, 1) := by decide +kernel
theorem dX8_nightTold_37 : decode cX8_nightTold 37 = .ok (.if_icmp .ne 10, 3) := by decide +kernel
theorem dX8_nightTold_40 : decode cX8_nightTold 40 = .ok (.aload_n 0, 1) := by decide +kernel
theorem dX8_nightTold_41 : decode cX8_nightTold 41 = .ok (.getfield 225, 3) := by decide +kernel
theorem dX8_nightTold_44 : decode cX8_nightTold 44 = .ok (.goto 19, 3) := by decide +kernel
theorem dX8_nightTold_47 : decode cX8_nightTold 47 = .ok (.iload_n 1, 1) := by decide +kernel
theorem dX8_nightTold_48 : decode cX8_nightTold 48 = .ok (.iconst 4, 1) := by decide +kernel
theorem dX8_nightTold_49 : decode cX8_nightTold 49 = .ok (.if_icmp .ne 10, 3) := by decide +kernel
theorem dX8_nightTold_52 : decode cX8_nightTold 52 = .ok (.aload_n 0, 1) := by decide +kernel
theorem dX8_nightTold_53 : decode cX8_nightTold 53 = .ok (.getfield 228, 3) := by decide +kernel
theorem dX8_nightTold_56 : decode cX8_nightTold 56 = .ok (.goto 7, 3) := by decide +kernel
theorem dX8_nightTold_59 : decode cX8_nightTold 59 = .ok (.aload_n 0, 1) := by decide +kernel
theorem dX8_nightTold_60 : decode cX8_nightTold 60 = .ok (.getfield 213, 3) := by decide +kernel
theorem dX8_nightTold_63 : decode cX8_nightTold 63 = .ok (.ireturn, 1) := by decide +kernel
theorem dX8_areSets_0 : decode cX8_areSets 0 = .ok (.iload_n 1, 1) := by decide +kernel
theorem dX8_areSets_1 : decode cX8_areSets 1 = .ok (.i2l, 1) := by decide +kernel
theorem dX8_areSets_2 : decode cX8_areSets 2 = .ok (.lconst 0, 1) := by decide +kernel
theorem dX8_areSets_3 : decode cX8_areSets 3 = .ok (.iconst 1, 1) := by decide +kernel
theorem dX8_areSets_4 : decode cX8_areSets 4 = .ok (.aload_n 0, 1) := by decide +kernel
theorem dX8_areSets_5 : decode cX8_areSets 5 = .ok (.getfield 13, 3) := by decide +kernel
theorem dX8_areSets_8 : decode cX8_areSets 8 = .ok (.ishl, 1) := by decide +kernel
theorem dX8_areSets_9 : decode cX8_areSets 9 = .ok (.iconst 1, 1) := by decide +kernel
theorem dX8_areSets_10 : decode cX8_areSets 10 = .ok (.isub, 1) := by decide +kernel
theorem dX8_areSets_11 : decode cX8_areSets 11 = .ok (.i2l, 1) := by decide +kernel
theorem dX8_areSets_12 : decode cX8_areSets 12 = .ok (.invokestatic 71, 3) := by decide +kernel
theorem dX8_areSets_15 : decode cX8_areSets 15 = .ok (.ifCond .eq 25, 3) := by decide +kernel
theorem dX8_areSets_18 : decode cX8_areSets 18 = .ok (.iload_n 2, 1) := by decide +kernel
theorem dX8_areSets_19 : decode cX8_areSets 19 = .ok (.i2l, 1) := by decide +kernel
theorem dX8_areSets_20 : decode cX8_areSets 20 = .ok (.lconst 0, 1) := by decide +kernel
theorem dX8_areSets_21 : decode cX8_areSets 21 = .ok (.iconst 1, 1) := by decide +kernel
theorem dX8_areSets_22 : decode cX8_areSets 22 = .ok (.aload_n 0, 1) := by decide +kernel
theorem dX8_areSets_23 : decode cX8_areSets 23 = .ok (.getfield 170, 3) := by decide +kernel
theorem dX8_areSets_26 : decode cX8_areSets 26 = .ok (.ishl, 1) := by decide +kernel
theorem dX8_areSets_27 : decode cX8_areSets 27 = .ok (.iconst 1, 1) := by decide +kernel
theorem dX8_areSets_28 : decode cX8_areSets 28 = .ok (.isub, 1) := by decide +kernel
theorem dX8_areSets_29 : decode cX8_areSets 29 = .ok (.i2l, 1) := by decide +kernel
theorem dX8_areSets_30 : decode cX8_areSets 30 = .ok (.invokestatic 71, 3) := by decide +kernel
theorem dX8_areSets_33 : decode cX8_areSets 33 = .ok (.ifCond .eq 7, 3) := by decide +kernel
theorem dX8_areSets_36 : decode cX8_areSets 36 = .ok (.iconst 1, 1) := by decide +kernel
theorem dX8_areSets_37 : decode cX8_areSets 37 = .ok (.goto 4, 3) := by decide +kernel
theorem dX8_areSets_40 : decode cX8_areSets 40 = .ok (.iconst 0, 1) := by decide +kernel
theorem dX8_areSets_41 : decode cX8_areSets 41 = .ok (.ireturn, 1) := by decide +kernel
theorem dX8_night_0 : decode cX8_night 0 = .ok (.aload_n 0, 1) := by decide +kernel
theorem dX8_night_1 : decode cX8_night 1 = .ok (.iload_n 1, 1) := by decide +kernel
theorem dX8_night_2 : decode cX8_night 2 = .ok (.iload_n 2, 1) := by decide +kernel
theorem dX8_night_3 : decode cX8_night 3 = .ok (.invokevirtual 238, 3) := by decide +kernel
theorem dX8_night_6 : decode cX8_night 6 = .ok (.ifCond .eq 15, 3) := by decide +kernel
theorem dX8_night_9 : decode cX8_night 9 = .ok (.iload_n 3, 1) := by decide +kernel
theorem dX8_night_10 : decode cX8_night 10 = .ok (.i2l, 1) := by decide +kernel
theorem dX8_night_11 : decode cX8_night 11 = .ok (.lconst 0, 1) := by decide +kernel
theorem dX8_night_12 : decode cX8_night 12 = .ok (.ldc2_w 242, 3) := by decide +kernel
theorem dX8_night_15 : decode cX8_night 15 = .ok (.invokestatic 71, 3) := by decide +kernel
theorem dX8_night_18 : decode cX8_night 18 = .ok (.ifCond .ne 5, 3) := by decide +kernel
theorem dX8_night_21 : decode cX8_night 21 = .ok (.iconst (-1), 1) := by decide +kernel
theorem dX8_night_22 : decode cX8_night 22 = .ok (.ireturn, 1) := by decide +kernel
theorem dX8_night_23 : decode cX8_night 23 = .ok (.aload_n 0, 1) := by decide +kernel
theorem dX8_night_24 : decode cX8_night 24 = .ok (.iload_n 1, 1) := by decide +kernel
theorem dX8_night_25 : decode cX8_night 25 = .ok (.iload_n 2, 1) := by decide +kernel
theorem dX8_night_26 : decode cX8_night 26 = .ok (.invokevirtual 244, 3) := by decide +kernel
theorem dX8_night_29 : decode cX8_night 29 = .ok (.aload_n 0, 1) := by decide +kernel
theorem dX8_night_30 : decode cX8_night 30 = .ok (.iload_n 3, 1) := by decide +kernel
theorem dX8_night_31 : decode cX8_night 31 = .ok (.invokevirtual 248, 3) := by decide +kernel
theorem dX8_night_34 : decode cX8_night 34 = .ok (.ireturn, 1) := by decide +kernel
theorem dX8_countAt_0 : decode cX8_countAt 0 = .ok (.aload_n 0, 1) := by decide +kernel
theorem dX8_countAt_1 : decode cX8_countAt 1 = .ok (.iconst 0, 1) := by decide +kernel
theorem dX8_countAt_2 : decode cX8_countAt 2 = .ok (.putfield 213, 3) := by decide +kernel
theorem dX8_countAt_5 : decode cX8_countAt 5 = .ok (.iconst 1, 1) := by decide +kernel
theorem dX8_countAt_6 : decode cX8_countAt 6 = .ok (.istore 4, 2) := by decide +kernel
theorem dX8_countAt_8 : decode cX8_countAt 8 = .ok (.iload 4, 2) := by decide +kernel
theorem dX8_countAt_10 : decode cX8_countAt 10 = .ok (.iload_n 3, 1) := by decide +kernel
theorem dX8_countAt_11 : decode cX8_countAt 11 = .ok (.if_icmp .gt 17, 3) := by decide +kernel
theorem dX8_countAt_14 : decode cX8_countAt 14 = .ok (.aload_n 0, 1) := by decide +kernel
theorem dX8_countAt_15 : decode cX8_countAt 15 = .ok (.iload_n 1, 1) := by decide +kernel
theorem dX8_countAt_16 : decode cX8_countAt 16 = .ok (.iload_n 2, 1) := by decide +kernel
theorem dX8_countAt_17 : decode cX8_countAt 17 = .ok (.iload 4, 2) := by decide +kernel
theorem dX8_countAt_19 : decode cX8_countAt 19 = .ok (.invokevirtual 234, 3) := by decide +kernel
theorem dX8_countAt_22 : decode cX8_countAt 22 = .ok (.iinc 4 1, 3) := by decide +kernel
theorem dX8_countAt_25 : decode cX8_countAt 25 = .ok (.goto (-17), 3) := by decide +kernel
theorem dX8_countAt_28 : decode cX8_countAt 28 = .ok (.aload_n 0, 1) := by decide +kernel
theorem dX8_countAt_29 : decode cX8_countAt 29 = .ok (.getfield 213, 3) := by decide +kernel
theorem dX8_countAt_32 : decode cX8_countAt 32 = .ok (.ireturn, 1) := by decide +kernel
theorem dX8_counts_0 : decode cX8_counts 0 = .ok (.aload_n 0, 1) := by decide +kernel
theorem dX8_counts_1 : decode cX8_counts 1 = .ok (.iload_n 1, 1) := by decide +kernel
theorem dX8_counts_2 : decode cX8_counts 2 = .ok (.iload_n 2, 1) := by decide +kernel
theorem dX8_counts_3 : decode cX8_counts 3 = .ok (.invokevirtual 238, 3) := by decide +kernel
theorem dX8_counts_6 : decode cX8_counts 6 = .ok (.ifCond .eq 27, 3) := by decide +kernel
theorem dX8_counts_9 : decode cX8_counts 9 = .ok (.iload_n 3, 1) := by decide +kernel
theorem dX8_counts_10 : decode cX8_counts 10 = .ok (.i2l, 1) := by decide +kernel
theorem dX8_counts_11 : decode cX8_counts 11 = .ok (.lconst 0, 1) := by decide +kernel
theorem dX8_counts_12 : decode cX8_counts 12 = .ok (.aload_n 0, 1) := by decide +kernel
theorem dX8_counts_13 : decode cX8_counts 13 = .ok (.getfield 13, 3) := by decide +kernel
theorem dX8_counts_16 : decode cX8_counts 16 = .ok (.i2l, 1) := by decide +kernel
theorem dX8_counts_17 : decode cX8_counts 17 = .ok (.invokestatic 71, 3) := by decide +kernel
theorem dX8_counts_20 : decode cX8_counts 20 = .ok (.ifCond .eq 13, 3) := by decide +kernel
theorem dX8_counts_23 : decode cX8_counts 23 = .ok (.aload_n 0, 1) := by decide +kernel
theorem dX8_counts_24 : decode cX8_counts 24 = .ok (.iload_n 1, 1) := by decide +kernel
theorem dX8_counts_25 : decode cX8_counts 25 = .ok (.iload_n 2, 1) := by decide +kernel
theorem dX8_counts_26 : decode cX8_counts 26 = .ok (.iload_n 3, 1) := by decide +kernel
theorem dX8_counts_27 : decode cX8_counts 27 = .ok (.invokevirtual 251, 3) := by decide +kernel
theorem dX8_counts_30 : decode cX8_counts 30 = .ok (.goto 4, 3) := by decide +kernel
theorem dX8_counts_33 : decode cX8_counts 33 = .ok (.iconst (-1), 1) := by decide +kernel
theorem dX8_counts_34 : decode cX8_counts 34 = .ok (.ireturn, 1) := by decide +kernel
theorem dX8_bitsOf_0 : decode cX8_bitsOf 0 = .ok (.iconst 0, 1) := by decide +kernel
theorem dX8_bitsOf_1 : decode cX8_bitsOf 1 = .ok (.istore_n 1, 1) := by decide +kernel
theorem dX8_bitsOf_2 : decode cX8_bitsOf 2 = .ok (.iconst 0, 1) := by decide +kernel
theorem dX8_bitsOf_3 : decode cX8_bitsOf 3 = .ok (.istore_n 2, 1) := by decide +kernel
theorem dX8_bitsOf_4 : decode cX8_bitsOf 4 = .ok (.iload_n 2, 1) := by decide +kernel
theorem dX8_bitsOf_5 : decode cX8_bitsOf 5 = .ok (.bipush 10, 2) := by decide +kernel
theorem dX8_bitsOf_7 : decode cX8_bitsOf 7 = .ok (.if_icmp .ge 17, 3) := by decide +kernel
theorem dX8_bitsOf_10 : decode cX8_bitsOf 10 = .ok (.iload_n 1, 1) := by decide +kernel
theorem dX8_bitsOf_11 : decode cX8_bitsOf 11 = .ok (.iload_n 0, 1) := by decide +kernel
theorem dX8_bitsOf_12 : decode cX8_bitsOf 12 = .ok (.iload_n 2, 1) := by decide +kernel
theorem dX8_bitsOf_13 : decode cX8_bitsOf 13 = .ok (.ishr, 1) := by decide +kernel
theorem dX8_bitsOf_14 : decode cX8_bitsOf 14 = .ok (.iconst 1, 1) := by decide +kernel
theorem dX8_bitsOf_15 : decode cX8_bitsOf 15 = .ok (.iand, 1) := by decide +kernel
theorem dX8_bitsOf_16 : decode cX8_bitsOf 16 = .ok (.iadd, 1) := by decide +kernel
theorem dX8_bitsOf_17 : decode cX8_bitsOf 17 = .ok (.istore_n 1, 1) := by decide +kernel
theorem dX8_bitsOf_18 : decode cX8_bitsOf 18 = .ok (.iinc 2 1, 3) := by decide +kernel
theorem dX8_bitsOf_21 : decode cX8_bitsOf 21 = .ok (.goto (-17), 3) := by decide +kernel
theorem dX8_bitsOf_24 : decode cX8_bitsOf 24 = .ok (.iload_n 1, 1) := by decide +kernel
theorem dX8_bitsOf_25 : decode cX8_bitsOf 25 = .ok (.ireturn, 1) := by decide +kernel
theorem dX8_weightOf_0 : decode cX8_weightOf 0 = .ok (.lconst 1, 1) := by decide +kernel
theorem dX8_weightOf_1 : decode cX8_weightOf 1 = .ok (.lstore_n 3, 1) := by decide +kernel
theorem dX8_weightOf_2 : decode cX8_weightOf 2 = .ok (.iconst 0, 1) := by decide +kernel
theorem dX8_weightOf_3 : decode cX8_weightOf 3 = .ok (.istore 5, 2) := by decide +kernel
theorem dX8_weightOf_5 : decode cX8_weightOf 5 = .ok (.iload 5, 2) := by decide +kernel
theorem dX8_weightOf_7 : decode cX8_weightOf 7 = .ok (.aload_n 0, 1) := by decide +kernel
theorem dX8_weightOf_8 : decode cX8_weightOf 8 = .ok (.getfield 13, 3) := by decide +kernel
theorem dX8_weightOf_11 : decode cX8_weightOf 11 = .ok (.if_icmp .ge 38, 3) := by decide +kernel
theorem dX8_weightOf_14 : decode cX8_weightOf 14 = .ok (.lload_n 3, 1) := by decide +kernel
theorem dX8_weightOf_15 : decode cX8_weightOf 15 = .ok (.iload_n 1, 1) := by decide +kernel
theorem dX8_weightOf_16 : decode cX8_weightOf 16 = .ok (.iload 5, 2) := by decide +kernel
theorem dX8_weightOf_18 : decode cX8_weightOf 18 = .ok (.ishr, 1) := by decide +kernel
theorem dX8_weightOf_19 : decode cX8_weightOf 19 = .ok (.iconst 1, 1) := by decide +kernel
theorem dX8_weightOf_20 : decode cX8_weightOf 20 = .ok (.iand, 1) := by decide +kernel
theorem dX8_weightOf_21 : decode cX8_weightOf 21 = .ok (.iconst 1, 1) := by decide +kernel
theorem dX8_weightOf_22 : decode cX8_weightOf 22 = .ok (.if_icmp .ne 11, 3) := by decide +kernel
theorem dX8_weightOf_25 : decode cX8_weightOf 25 = .ok (.aload_n 0, 1) := by decide +kernel
theorem dX8_weightOf_26 : decode cX8_weightOf 26 = .ok (.invokevirtual 179, 3) := by decide +kernel
theorem dX8_weightOf_29 : decode cX8_weightOf 29 = .ok (.i2l, 1) := by decide +kernel
theorem dX8_weightOf_30 : decode cX8_weightOf 30 = .ok (.goto 11, 3) := by decide +kernel
theorem dX8_weightOf_33 : decode cX8_weightOf 33 = .ok (.bipush 10, 2) := by decide +kernel
theorem dX8_weightOf_35 : decode cX8_weightOf 35 = .ok (.aload_n 0, 1) := by decide +kernel
theorem dX8_weightOf_36 : decode cX8_weightOf 36 = .ok (.invokevirtual 179, 3) := by decide +kernel
theorem dX8_weightOf_39 : decode cX8_weightOf 39 = .ok (.isub, 1) := by decide +kernel
theorem dX8_weightOf_40 : decode cX8_weightOf 40 = .ok (.i2l, 1) := by decide +kernel
theorem dX8_weightOf_41 : decode cX8_weightOf 41 = .ok (.lmul, 1) := by decide +kernel
theorem dX8_weightOf_42 : decode cX8_weightOf 42 = .ok (.lstore_n 3, 1) := by decide +kernel
theorem dX8_weightOf_43 : decode cX8_weightOf 43 = .ok (.iinc 5 1, 3) := by decide +kernel
theorem dX8_weightOf_46 : decode cX8_weightOf 46 = .ok (.goto (-41), 3) := by decide +kernel
theorem dX8_weightOf_49 : decode cX8_weightOf 49 = .ok (.iconst 0, 1) := by decide +kernel
theorem dX8_weightOf_50 : decode cX8_weightOf 50 = .ok (.istore 5, 2) := by decide +kernel
theorem dX8_weightOf_52 : decode cX8_weightOf 52 = .ok (.iload 5, 2) := by decide +kernel
theorem dX8_weightOf_54 : decode cX8_weightOf 54 = .ok (.aload_n 0, 1) := by decide +kernel
theorem dX8_weightOf_55 : decode cX8_weightOf 55 = .ok (.getfield 170, 3) := by decide +kernel
theorem dX8_weightOf_58 : decode cX8_weightOf 58 = .ok (.if_icmp .ge 48, 3) := by decide +kernel
theorem dX8_weightOf_61 : decode cX8_weightOf 61 = .ok (.lload_n 3, 1) := by decide +kernel
theorem dX8_weightOf_62 : decode cX8_weightOf 62 = .ok (.iload_n 2, 1) := by decide +kernel
theorem dX8_weightOf_63 : decode cX8_weightOf 63 = .ok (.iload 5, 2) := by decide +kernel
theorem dX8_weightOf_65 : decode cX8_weightOf 65 = .ok (.ishr, 1) := by decide +kernel
theorem dX8_weightOf_66 : decode cX8_weightOf 66 = .ok (.iconst 1, 1) := by decide +kernel
theorem dX8_weightOf_67 : decode cX8_weightOf 67 = .ok (.iand, 1) := by decide +kernel
theorem dX8_weightOf_68 : decode cX8_weightOf 68 = .ok (.iconst 1, 1) := by decide +kernel
theorem dX8_weightOf_69 : decode cX8_weightOf 69 = .ok (.if_icmp .ne 16, 3) := by decide +kernel
theorem dX8_weightOf_72 : decode cX8_weightOf 72 = .ok (.aload_n 0, 1) := by decide +kernel
theorem dX8_weightOf_73 : decode cX8_weightOf 73 = .ok (.getfield 7, 3) := by decide +kernel
theorem dX8_weightOf_76 : decode cX8_weightOf 76 = .ok (.iconst 3, 1) := by decide +kernel
theorem dX8_weightOf_77 : decode cX8_weightOf 77 = .ok (.iload 5, 2) := by decide +kernel
theorem dX8_weightOf_79 : decode cX8_weightOf 79 = .ok (.iadd, 1) := by decide +kernel
theorem dX8_weightOf_80 : decode cX8_weightOf 80 = .ok (.iaload, 1) := by decide +kernel
theorem dX8_weightOf_81 : decode cX8_weightOf 81 = .ok (.i2l, 1) := by decide +kernel
theorem dX8_weightOf_82 : decode cX8_weightOf 82 = .ok (.goto 16, 3) := by decide +kernel
theorem dX8_weightOf_85 : decode cX8_weightOf 85 = .ok (.bipush 10, 2) := by decide +kernel
theorem dX8_weightOf_87 : decode cX8_weightOf 87 = .ok (.aload_n 0, 1) := by decide +kernel
theorem dX8_weightOf_88 : decode cX8_weightOf 88 = .ok (.getfield 7, 3) := by decide +kernel
theorem dX8_weightOf_91 : decode cX8_weightOf 91 = .ok (.iconst 3, 1) := by decide +kernel
theorem dX8_weightOf_92 : decode cX8_weightOf 92 = .ok (.iload 5, 2) := by decide +kernel
theorem dX8_weightOf_94 : decode cX8_weightOf 94 = .ok (.iadd, 1) := by decide +kernel
theorem dX8_weightOf_95 : decode cX8_weightOf 95 = .ok (.iaload, 1) := by decide +kernel
theorem dX8_weightOf_96 : decode cX8_weightOf 96 = .ok (.isub, 1) := by decide +kernel
theorem dX8_weightOf_97 : decode cX8_weightOf 97 = .ok (.i2l, 1) := by decide +kernel
theorem dX8_weightOf_98 : decode cX8_weightOf 98 = .ok (.lmul, 1) := by decide +kernel
theorem dX8_weightOf_99 : decode cX8_weightOf 99 = .ok (.lstore_n 3, 1) := by decide +kernel
theorem dX8_weightOf_100 : decode cX8_weightOf 100 = .ok (.iinc 5 1, 3) := by decide +kernel
theorem dX8_weightOf_103 : decode cX8_weightOf 103 = .ok (.goto (-51), 3) := by decide +kernel
theorem dX8_weightOf_106 : decode cX8_weightOf 106 = .ok (.lload_n 3, 1) := by decide +kernel
theorem dX8_weightOf_107 : decode cX8_weightOf 107 = .ok (.lreturn, 1) := by decide +kernel
theorem dX8_lowest_0 : decode cX8_lowest 0 = .ok (.lload_n 0, 1) := by decide +kernel
theorem dX8_lowest_1 : decode cX8_lowest 1 = .ok (.lconst 0, 1) := by decide +kernel
theorem dX8_lowest_2 : decode cX8_lowest 2 = .ok (.lcmp, 1) := by decide +kernel
theorem dX8_lowest_3 : decode cX8_lowest 3 = .ok (.ifCond .ge 8, 3) := by decide +kernel
theorem dX8_lowest_6 : decode cX8_lowest 6 = .ok (.lload_n 0, 1) := by decide +kernel
theorem dX8_lowest_7 : decode cX8_lowest 7 = .ok (.lneg, 1) := by decide +kernel
theorem dX8_lowest_8 : decode cX8_lowest 8 = .ok (.goto 4, 3) := by decide +kernel
theorem dX8_lowest_11 : decode cX8_lowest 11 = .ok (.lload_n 0, 1) := by decide +kernel
theorem dX8_lowest_12 : decode cX8_lowest 12 = .ok (.lstore 5, 2) := by decide +kernel
theorem dX8_lowest_14 : decode cX8_lowest 14 = .ok (.lload_n 2, 1) := by decide +kernel
theorem dX8_lowest_15 : decode cX8_lowest 15 = .ok (.lstore 7, 2) := by decide +kernel
theorem dX8_lowest_17 : decode cX8_lowest 17 = .ok (.lload 7, 2) := by decide +kernel
theorem dX8_lowest_19 : decode cX8_lowest 19 = .ok (.lconst 0, 1) := by decide +kernel
theorem dX8_lowest_20 : decode cX8_lowest 20 = .ok (.lcmp, 1) := by decide +kernel
theorem dX8_lowest_21 : decode cX8_lowest 21 = .ok (.ifCond .eq 21, 3) := by decide +kernel
theorem dX8_lowest_24 : decode cX8_lowest 24 = .ok (.lload 5, 2) := by decide +kernel
theorem dX8_lowest_26 : decode cX8_lowest 26 = .ok (.lload 7, 2) := by decide +kernel
theorem dX8_lowest_28 : decode cX8_lowest 28 = .ok (.lrem, 1) := by decide +kernel
theorem dX8_lowest_29 : decode cX8_lowest 29 = .ok (.lstore 9, 2) := by decide +kernel
theorem dX8_lowest_31 : decode cX8_lowest 31 = .ok (.lload 7, 2) := by decide +kernel
theorem dX8_lowest_33 : decode cX8_lowest 33 = .ok (.lstore 5, 2) := by decide +kernel
theorem dX8_lowest_35 : decode cX8_lowest 35 = .ok (.lload 9, 2) := by decide +kernel
theorem dX8_lowest_37 : decode cX8_lowest 37 = .ok (.lstore 7, 2) := by decide +kernel
theorem dX8_lowest_39 : decode cX8_lowest 39 = .ok (.goto (-22), 3) := by decide +kernel
theorem dX8_lowest_42 : decode cX8_lowest 42 = .ok (.iload 4, 2) := by decide +kernel
theorem dX8_lowest_44 : decode cX8_lowest 44 = .ok (.ifCond .ne 7, 3) := by decide +kernel
theorem dX8_lowest_47 : decode cX8_lowest 47 = .ok (.lload_n 0, 1) := by decide +kernel
theorem dX8_lowest_48 : decode cX8_lowest 48 = .ok (.goto 4, 3) := by decide +kernel
theorem dX8_lowest_51 : decode cX8_lowest 51 = .ok (.lload_n 2, 1) := by decide +kernel
theorem dX8_lowest_52 : decode cX8_lowest 52 = .ok (.lload 5, 2) := by decide +kernel
theorem dX8_lowest_54 : decode cX8_lowest 54 = .ok (.ldiv, 1) := by decide +kernel
theorem dX8_lowest_55 : decode cX8_lowest 55 = .ok (.lreturn, 1) := by decide +kernel
theorem dX8_worthNow_0 : decode cX8_worthNow 0 = .ok (.bipush (-10), 2) := by decide +kernel
theorem dX8_worthNow_2 : decode cX8_worthNow 2 = .ok (.aload_n 0, 1) := by decide +kernel
theorem dX8_worthNow_3 : decode cX8_worthNow 3 = .ok (.getfield 26, 3) := by decide +kernel
theorem dX8_worthNow_6 : decode cX8_worthNow 6 = .ok (.iconst 0, 1) := by decide +kernel
theorem dX8_worthNow_7 : decode cX8_worthNow 7 = .ok (.iaload, 1) := by decide +kernel
theorem dX8_worthNow_8 : decode cX8_worthNow 8 = .ok (.imul, 1) := by decide +kernel
theorem dX8_worthNow_9 : decode cX8_worthNow 9 = .ok (.aload_n 0, 1) := by decide +kernel
theorem dX8_worthNow_10 : decode cX8_worthNow 10 = .ok (.getfield 225, 3) := by decide +kernel
theorem dX8_worthNow_13 : decode cX8_worthNow 13 = .ok (.invokestatic 255, 3) := by decide +kernel
theorem dX8_worthNow_16 : decode cX8_worthNow 16 = .ok (.imul, 1) := by decide +kernel
theorem dX8_worthNow_17 : decode cX8_worthNow 17 = .ok (.bipush 10, 2) := by decide +kernel
theorem dX8_worthNow_19 : decode cX8_worthNow 19 = .ok (.aload_n 0, 1) := by decide +kernel
theorem dX8_worthNow_20 : decode cX8_worthNow 20 = .ok (.getfield 26, 3) := by decide +kernel
theorem dX8_worthNow_23 : decode cX8_worthNow 23 = .ok (.iconst 1, 1) := by decide +kernel
theorem dX8_worthNow_24 : decode cX8_worthNow 24 = .ok (.iaload, 1) := by decide +kernel
theorem dX8_worthNow_25 : decode cX8_worthNow 25 = .ok (.imul, 1) := by decide +kernel
theorem dX8_worthNow_26 : decode cX8_worthNow 26 = .ok (.aload_n 0, 1) := by decide +kernel
theorem dX8_worthNow_27 : decode cX8_worthNow 27 = .ok (.getfield 228, 3) := by decide +kernel
theorem dX8_worthNow_30 : decode cX8_worthNow 30 = .ok (.imul, 1) := by decide +kernel
theorem dX8_worthNow_31 : decode cX8_worthNow 31 = .ok (.isub, 1) := by decide +kernel
theorem dX8_worthNow_32 : decode cX8_worthNow 32 = .ok (.istore_n 1, 1) := by decide +kernel
theorem dX8_worthNow_33 : decode cX8_worthNow 33 = .ok (.iconst 0, 1) := by decide +kernel
theorem dX8_worthNow_34 : decode cX8_worthNow 34 = .ok (.istore_n 2, 1) := by decide +kernel
theorem dX8_worthNow_35 : decode cX8_worthNow 35 = .ok (.iload_n 2, 1) := by decide +kernel
theorem dX8_worthNow_36 : decode cX8_worthNow 36 = .ok (.aload_n 0, 1) := by decide +kernel
theorem dX8_worthNow_37 : decode cX8_worthNow 37 = .ok (.getfield 167, 3) := by decide +kernel
theorem dX8_worthNow_40 : decode cX8_worthNow 40 = .ok (.if_icmp .ge 44, 3) := by decide +kernel
theorem dX8_worthNow_43 : decode cX8_worthNow 43 = .ok (.iload_n 1, 1) := by decide +kernel
theorem dX8_worthNow_44 : decode cX8_worthNow 44 = .ok (.aload_n 0, 1) := by decide +kernel
theorem dX8_worthNow_45 : decode cX8_worthNow 45 = .ok (.getfield 222, 3) := by decide +kernel
theorem dX8_worthNow_48 : decode cX8_worthNow 48 = .ok (.iload_n 2, 1) := by decide +kernel
theorem dX8_worthNow_49 : decode cX8_worthNow 49 = .ok (.ishr, 1) := by decide +kernel
theorem dX8_worthNow_50 : decode cX8_worthNow 50 = .ok (.iconst 1, 1) := by decide +kernel
theorem dX8_worthNow_51 : decode cX8_worthNow 51 = .ok (.iand, 1) := by decide +kernel
theorem dX8_worthNow_52 : decode cX8_worthNow 52 = .ok (.iconst 1, 1) := by decide +kernel
theorem dX8_worthNow_53 : decode cX8_worthNow 53 = .ok (.if_icmp .ne 22, 3) := by decide +kernel
theorem dX8_worthNow_56 : decode cX8_worthNow 56 = .ok (.aload_n 0, 1) := by decide +kernel
theorem dX8_worthNow_57 : decode cX8_worthNow 57 = .ok (.getfield 17, 3) := by decide +kernel
theorem dX8_worthNow_60 : decode cX8_worthNow 60 = .ok (.iconst 2, 1) := by decide +kernel
theorem dX8_worthNow_61 : decode cX8_worthNow 61 = .ok (.iload_n 2, 1) := by decide +kernel
theorem dX8_worthNow_62 : decode cX8_worthNow 62 = .ok (.imul, 1) := by decide +kernel
theorem dX8_worthNow_63 : decode cX8_worthNow 63 = .ok (.iconst 1, 1) := by decide +kernel
theorem dX8_worthNow_64 : decode cX8_worthNow 64 = .ok (.iadd, 1) := by decide +kernel
theorem dX8_worthNow_65 : decode cX8_worthNow 65 = .ok (.iaload, 1) := by decide +kernel
theorem dX8_worthNow_66 : decode cX8_worthNow 66 = .ok (.aload_n 0, 1) := by decide +kernel
theorem dX8_worthNow_67 : decode cX8_worthNow 67 = .ok (.iload_n 2, 1) := by decide +kernel
theorem dX8_worthNow_68 : decode cX8_worthNow 68 = .ok (.invokevirtual 192, 3) := by decide +kernel
theorem dX8_worthNow_71 : decode cX8_worthNow 71 = .ok (.imul, 1) := by decide +kernel
theorem dX8_worthNow_72 : decode cX8_worthNow 72 = .ok (.goto 4, 3) := by decide +kernel
theorem dX8_worthNow_75 : decode cX8_worthNow 75 = .ok (.iconst 0, 1) := by decide +kernel
theorem dX8_worthNow_76 : decode cX8_worthNow 76 = .ok (.iadd, 1) := by decide +kernel
theorem dX8_worthNow_77 : decode cX8_worthNow 77 = .ok (.istore_n 1, 1) := by decide +kernel
theorem dX8_worthNow_78 : decode cX8_worthNow 78 = .ok (.iinc 2 1, 3) := by decide +kernel
theorem dX8_worthNow_81 : decode cX8_worthNow 81 = .ok (.goto (-46), 3) := by decide +kernel
theorem dX8_worthNow_84 : decode cX8_worthNow 84 = .ok (.iload_n 1, 1) := by decide +kernel
theorem dX8_worthNow_85 : decode cX8_worthNow 85 = .ok (.ireturn, 1) := by decide +kernel
theorem dX8_valueOf_0 : decode cX8_valueOf 0 = .ok (.iload_n 1, 1) := by decide +kernel
theorem dX8_valueOf_1 : decode cX8_valueOf 1 = .ok (.tableswitch 120 0 6 #[43, 62, 76, 87, 102, 110, 115], 43) := by decide +kernel
theorem dX8_valueOf_44 : decode cX8_valueOf 44 = .ok (.aload_n 0, 1) := by decide +kernel
theorem dX8_valueOf_45 : decode cX8_valueOf 45 = .ok (.iload 4, 2) := by decide +kernel
theorem dX8_valueOf_47 : decode cX8_valueOf 47 = .ok (.iload 5, 2) := by decide +kernel
theorem dX8_valueOf_49 : decode cX8_valueOf 49 = .ok (.iload_n 2, 1) := by decide +kernel
theorem dX8_valueOf_50 : decode cX8_valueOf 50 = .ok (.invokevirtual 251, 3) := by decide +kernel
theorem dX8_valueOf_53 : decode cX8_valueOf 53 = .ok (.iload_n 3, 1) := by decide +kernel
theorem dX8_valueOf_54 : decode cX8_valueOf 54 = .ok (.if_icmp .ne 7, 3) := by decide +kernel
theorem dX8_valueOf_57 : decode cX8_valueOf 57 = .ok (.iconst 1, 1) := by decide +kernel
theorem dX8_valueOf_58 : decode cX8_valueOf 58 = .ok (.goto 4, 3) := by decide +kernel
theorem dX8_valueOf_61 : decode cX8_valueOf 61 = .ok (.iconst 0, 1) := by decide +kernel
theorem dX8_valueOf_62 : decode cX8_valueOf 62 = .ok (.ireturn, 1) := by decide +kernel
theorem dX8_valueOf_63 : decode cX8_valueOf 63 = .ok (.aload_n 0, 1) := by decide +kernel
theorem dX8_valueOf_64 : decode cX8_valueOf 64 = .ok (.getfield 216, 3) := by decide +kernel
theorem dX8_valueOf_67 : decode cX8_valueOf 67 = .ok (.iload_n 2, 1) := by decide +kernel
theorem dX8_valueOf_68 : decode cX8_valueOf 68 = .ok (.if_icmp .ne 7, 3) := by decide +kernel
theorem dX8_valueOf_71 : decode cX8_valueOf 71 = .ok (.iconst 1, 1) := by decide +kernel
theorem dX8_valueOf_72 : decode cX8_valueOf 72 = .ok (.goto 4, 3) := by decide +kernel
theorem dX8_valueOf_75 : decode cX8_valueOf 75 = .ok (.iconst 0, 1) := by decide +kernel
theorem dX8_valueOf_76 : decode cX8_valueOf 76 = .ok (.ireturn, 1) := by decide +kernel
theorem dX8_valueOf_77 : decode cX8_valueOf 77 = .ok (.aload_n 0, 1) := by decide +kernel
theorem dX8_valueOf_78 : decode cX8_valueOf 78 = .ok (.getfield 231, 3) := by decide +kernel
theorem dX8_valueOf_81 : decode cX8_valueOf 81 = .ok (.iload_n 2, 1) := by decide +kernel
theorem dX8_valueOf_82 : decode cX8_valueOf 82 = .ok (.iconst 1, 1) := by decide +kernel
theorem dX8_valueOf_83 : decode cX8_valueOf 83 = .ok (.isub, 1) := by decide +kernel
theorem dX8_valueOf_84 : decode cX8_valueOf 84 = .ok (.ishr, 1) := by decide +kernel
theorem dX8_valueOf_85 : decode cX8_valueOf 85 = .ok (.iconst 1, 1) := by decide +kernel
theorem dX8_valueOf_86 : decode cX8_valueOf 86 = .ok (.iand, 1) := by decide +kernel
theorem dX8_valueOf_87 : decode cX8_valueOf 87 = .ok (.ireturn, 1) := by decide +kernel
theorem dX8_valueOf_88 : decode cX8_valueOf 88 = .ok (.aload_n 0, 1) := by decide +kernel
theorem dX8_valueOf_89 : decode cX8_valueOf 89 = .ok (.getfield 222, 3) := by decide +kernel
theorem dX8_valueOf_92 : decode cX8_valueOf 92 = .ok (.iload_n 2, 1) := by decide +kernel
theorem dX8_valueOf_93 : decode cX8_valueOf 93 = .ok (.ishr, 1) := by decide +kernel
theorem dX8_valueOf_94 : decode cX8_valueOf 94 = .ok (.iconst 1, 1) := by decide +kernel
theorem dX8_valueOf_95 : decode cX8_valueOf 95 = .ok (.iand, 1) := by decide +kernel
theorem dX8_valueOf_96 : decode cX8_valueOf 96 = .ok (.aload_n 0, 1) := by decide +kernel
theorem dX8_valueOf_97 : decode cX8_valueOf 97 = .ok (.iload_n 2, 1) := by decide +kernel
theorem dX8_valueOf_98 : decode cX8_valueOf 98 = .ok (.invokevirtual 192, 3) := by decide +kernel
theorem dX8_valueOf_101 : decode cX8_valueOf 101 = .ok (.imul, 1) := by decide +kernel
theorem dX8_valueOf_102 : decode cX8_valueOf 102 = .ok (.ireturn, 1) := by decide +kernel
theorem dX8_valueOf_103 : decode cX8_valueOf 103 = .ok (.aload_n 0, 1) := by decide +kernel
theorem dX8_valueOf_104 : decode cX8_valueOf 104 = .ok (.getfield 225, 3) := by decide +kernel
theorem dX8_valueOf_107 : decode cX8_valueOf 107 = .ok (.invokestatic 255, 3) := by decide +kernel
theorem dX8_valueOf_110 : decode cX8_valueOf 110 = .ok (.ireturn, 1) := by decide +kernel
theorem dX8_valueOf_111 : decode cX8_valueOf 111 = .ok (.aload_n 0, 1) := by decide +kernel
theorem dX8_valueOf_112 : decode cX8_valueOf 112 = .ok (.getfield 228, 3) := by decide +kernel
theorem dX8_valueOf_115 : decode cX8_valueOf 115 = .ok (.ireturn, 1) := by decide +kernel
theorem dX8_valueOf_116 : decode cX8_valueOf 116 = .ok (.aload_n 0, 1) := by decide +kernel
theorem dX8_valueOf_117 : decode cX8_valueOf 117 = .ok (.invokevirtual 258, 3) := by decide +kernel
theorem dX8_valueOf_120 : decode cX8_valueOf 120 = .ok (.ireturn, 1) := by decide +kernel
theorem dX8_valueOf_121 : decode cX8_valueOf 121 = .ok (.aload_n 0, 1) := by decide +kernel
theorem dX8_valueOf_122 : decode cX8_valueOf 122 = .ok (.iload 4, 2) := by decide +kernel
theorem dX8_valueOf_124 : decode cX8_valueOf 124 = .ok (.iload 5, 2) := by decide +kernel
theorem dX8_valueOf_126 : decode cX8_valueOf 126 = .ok (.invokevirtual 261, 3) := by decide +kernel
theorem dX8_valueOf_129 : decode cX8_valueOf 129 = .ok (.ifCond .eq 7, 3) := by decide +kernel
theorem dX8_valueOf_132 : decode cX8_valueOf 132 = .ok (.iconst 1, 1) := by decide +kernel
theorem dX8_valueOf_133 : decode cX8_valueOf 133 = .ok (.goto 4, 3) := by decide +kernel
theorem dX8_valueOf_136 : decode cX8_valueOf 136 = .ok (.iconst 0, 1) := by decide +kernel
theorem dX8_valueOf_137 : decode cX8_valueOf 137 = .ok (.ireturn, 1) := by decide +kernel
theorem dX8_sumOf_0 : decode cX8_sumOf 0 = .ok (.lconst 0, 1) := by decide +kernel
theorem dX8_sumOf_1 : decode cX8_sumOf 1 = .ok (.lstore 4, 2) := by decide +kernel
theorem dX8_sumOf_3 : decode cX8_sumOf 3 = .ok (.iconst 0, 1) := by decide +kernel
theorem dX8_sumOf_4 : decode cX8_sumOf 4 = .ok (.istore 6, 2) := by decide +kernel
theorem dX8_sumOf_6 : decode cX8_sumOf 6 = .ok (.iload 6, 2) := by decide +kernel
theorem dX8_sumOf_8 : decode cX8_sumOf 8 = .ok (.iconst 1, 1) := by decide +kernel
theorem dX8_sumOf_9 : decode cX8_sumOf 9 = .ok (.aload_n 0, 1) := by decide +kernel
theorem dX8_sumOf_10 : decode cX8_sumOf 10 = .ok (.getfield 13, 3) := by decide +kernel
theorem dX8_sumOf_13 : decode cX8_sumOf 13 = .ok (.ishl, 1) := by decide +kernel
theorem dX8_sumOf_14 : decode cX8_sumOf 14 = .ok (.if_icmp .ge 74, 3) := by decide +kernel
theorem dX8_sumOf_17 : decode cX8_sumOf 17 = .ok (.iconst 0, 1) := by decide +kernel
theorem dX8_sumOf_18 : decode cX8_sumOf 18 = .ok (.istore 7, 2) := by decide +kernel
theorem dX8_sumOf_20 : decode cX8_sumOf 20 = .ok (.iload 7, 2) := by decide +kernel
theorem dX8_sumOf_22 : decode cX8_sumOf 22 = .ok (.iconst 1, 1) := by decide +kernel
theorem dX8_sumOf_23 : decode cX8_sumOf 23 = .ok (.aload_n 0, 1) := by decide +kernel
theorem dX8_sumOf_24 : decode cX8_sumOf 24 = .ok (.getfield 170, 3) := by decide +kernel
theorem dX8_sumOf_27 : decode cX8_sumOf 27 = .ok (.ishl, 1) := by decide +kernel
theorem dX8_sumOf_28 : decode cX8_sumOf 28 = .ok (.if_icmp .ge 54, 3) := by decide +kernel
theorem dX8_sumOf_31 : decode cX8_sumOf 31 = .ok (.aload_n 0, 1) := by decide +kernel
theorem dX8_sumOf_32 : decode cX8_sumOf 32 = .ok (.iload 6, 2) := by decide +kernel
theorem dX8_sumOf_34 : decode cX8_sumOf 34 = .ok (.iload 7, 2) := by decide +kernel
theorem dX8_sumOf_36 : decode cX8_sumOf 36 = .ok (.invokevirtual 264, 3) := by decide +kernel
theorem dX8_sumOf_39 : decode cX8_sumOf 39 = .ok (.lstore 8, 2) := by decide +kernel
theorem dX8_sumOf_41 : decode cX8_sumOf 41 = .ok (.lload 8, 2) := by decide +kernel
theorem dX8_sumOf_43 : decode cX8_sumOf 43 = .ok (.lconst 0, 1) := by decide +kernel
theorem dX8_sumOf_44 : decode cX8_sumOf 44 = .ok (.lcmp, 1) := by decide +kernel
theorem dX8_sumOf_45 : decode cX8_sumOf 45 = .ok (.ifCond .eq 31, 3) := by decide +kernel
theorem dX8_sumOf_48 : decode cX8_sumOf 48 = .ok (.aload_n 0, 1) := by decide +kernel
theorem dX8_sumOf_49 : decode cX8_sumOf 49 = .ok (.iload 6, 2) := by decide +kernel
theorem dX8_sumOf_51 : decode cX8_sumOf 51 = .ok (.iload 7, 2) := by decide +kernel
theorem dX8_sumOf_53 : decode cX8_sumOf 53 = .ok (.invokevirtual 244, 3) := by decide +kernel
theorem dX8_sumOf_56 : decode cX8_sumOf 56 = .ok (.lload 4, 2) := by decide +kernel
theorem dX8_sumOf_58 : decode cX8_sumOf 58 = .ok (.lload 8, 2) := by decide +kernel
theorem dX8_sumOf_60 : decode cX8_sumOf 60 = .ok (.aload_n 0, 1) := by decide +kernel
theorem dX8_sumOf_61 : decode cX8_sumOf 61 = .ok (.iload_n 1, 1) := by decide +kernel
theorem dX8_sumOf_62 : decode cX8_sumOf 62 = .ok (.iload_n 2, 1) := by decide +kernel
theorem dX8_sumOf_63 : decode cX8_sumOf 63 = .ok (.iload_n 3, 1) := by decide +kernel
theorem dX8_sumOf_64 : decode cX8_sumOf 64 = .ok (.iload 6, 2) := by decide +kernel
theorem dX8_sumOf_66 : decode cX8_sumOf 66 = .ok (.iload 7, 2) := by decide +kernel
theorem dX8_sumOf_68 : decode cX8_sumOf 68 = .ok (.invokevirtual 268, 3) := by decide +kernel
theorem dX8_sumOf_71 : decode cX8_sumOf 71 = .ok (.i2l, 1) := by decide +kernel
theorem dX8_sumOf_72 : decode cX8_sumOf 72 = .ok (.lmul, 1) := by decide +kernel
theorem dX8_sumOf_73 : decode cX8_sumOf 73 = .ok (.ladd, 1) := by decide +kernel
theorem dX8_sumOf_74 : decode cX8_sumOf 74 = .ok (.lstore 4, 2) := by decide +kernel
theorem dX8_sumOf_76 : decode cX8_sumOf 76 = .ok (.iinc 7 1, 3) := by decide +kernel
theorem dX8_sumOf_79 : decode cX8_sumOf 79 = .ok (.goto (-59), 3) := by decide +kernel
theorem dX8_sumOf_82 : decode cX8_sumOf 82 = .ok (.iinc 6 1, 3) := by decide +kernel
theorem dX8_sumOf_85 : decode cX8_sumOf 85 = .ok (.goto (-79), 3) := by decide +kernel
theorem dX8_sumOf_88 : decode cX8_sumOf 88 = .ok (.lload 4, 2) := by decide +kernel
theorem dX8_sumOf_90 : decode cX8_sumOf 90 = .ok (.lreturn, 1) := by decide +kernel
theorem dX8_allWeight_0 : decode cX8_allWeight 0 = .ok (.iload_n 1, 1) := by decide +kernel
theorem dX8_allWeight_1 : decode cX8_allWeight 1 = .ok (.ifCond .eq 9, 3) := by decide +kernel
theorem dX8_allWeight_4 : decode cX8_allWeight 4 = .ok (.ldc2_w 115, 3) := by decide +kernel
theorem dX8_allWeight_7 : decode cX8_allWeight 7 = .ok (.goto 4, 3) := by decide +kernel
theorem dX8_allWeight_10 : decode cX8_allWeight 10 = .ok (.lconst 1, 1) := by decide +kernel
theorem dX8_allWeight_11 : decode cX8_allWeight 11 = .ok (.lstore_n 2, 1) := by decide +kernel
theorem dX8_allWeight_12 : decode cX8_allWeight 12 = .ok (.aload_n 0, 1) := by decide +kernel
theorem dX8_allWeight_13 : decode cX8_allWeight 13 = .ok (.getfield 13, 3) := by decide +kernel
theorem dX8_allWeight_16 : decode cX8_allWeight 16 = .ok (.aload_n 0, 1) := by decide +kernel
theorem dX8_allWeight_17 : decode cX8_allWeight 17 = .ok (.getfield 170, 3) := by decide +kernel
theorem dX8_allWeight_20 : decode cX8_allWeight 20 = .ok (.iadd, 1) := by decide +kernel
theorem dX8_allWeight_21 : decode cX8_allWeight 21 = .ok (.istore 4, 2) := by decide +kernel
theorem dX8_allWeight_23 : decode cX8_allWeight 23 = .ok (.iload 4, 2) := by decide +kernel
theorem dX8_allWeight_25 : decode cX8_allWeight 25 = .ok (.ifCond .le 15, 3) := by decide +kernel
theorem dX8_allWeight_28 : decode cX8_allWeight 28 = .ok (.lload_n 2, 1) := by decide +kernel
theorem dX8_allWeight_29 : decode cX8_allWeight 29 = .ok (.ldc2_w 115, 3) := by decide +kernel
theorem dX8_allWeight_32 : decode cX8_allWeight 32 = .ok (.lmul, 1) := by decide +kernel
theorem dX8_allWeight_33 : decode cX8_allWeight 33 = .ok (.lstore_n 2, 1) := by decide +kernel
theorem dX8_allWeight_34 : decode cX8_allWeight 34 = .ok (.iinc 4 (-1), 3) := by decide +kernel
theorem dX8_allWeight_37 : decode cX8_allWeight 37 = .ok (.goto (-14), 3) := by decide +kernel
theorem dX8_allWeight_40 : decode cX8_allWeight 40 = .ok (.lload_n 2, 1) := by decide +kernel
theorem dX8_allWeight_41 : decode cX8_allWeight 41 = .ok (.lreturn, 1) := by decide +kernel
theorem dX8_meanOf_0 : decode cX8_meanOf 0 = .ok (.aload_n 0, 1) := by decide +kernel
theorem dX8_meanOf_1 : decode cX8_meanOf 1 = .ok (.iload_n 1, 1) := by decide +kernel
theorem dX8_meanOf_2 : decode cX8_meanOf 2 = .ok (.iload_n 2, 1) := by decide +kernel
theorem dX8_meanOf_3 : decode cX8_meanOf 3 = .ok (.iload_n 3, 1) := by decide +kernel
theorem dX8_meanOf_4 : decode cX8_meanOf 4 = .ok (.invokevirtual 272, 3) := by decide +kernel
theorem dX8_meanOf_7 : decode cX8_meanOf 7 = .ok (.aload_n 0, 1) := by decide +kernel
theorem dX8_meanOf_8 : decode cX8_meanOf 8 = .ok (.iload_n 1, 1) := by decide +kernel
theorem dX8_meanOf_9 : decode cX8_meanOf 9 = .ok (.iconst 3, 1) := by decide +kernel
theorem dX8_meanOf_10 : decode cX8_meanOf 10 = .ok (.if_icmp .eq 9, 3) := by decide +kernel
theorem dX8_meanOf_13 : decode cX8_meanOf 13 = .ok (.iload_n 1, 1) := by decide +kernel
theorem dX8_meanOf_14 : decode cX8_meanOf 14 = .ok (.bipush 6, 2) := by decide +kernel
theorem dX8_meanOf_16 : decode cX8_meanOf 16 = .ok (.if_icmp .ne 7, 3) := by decide +kernel
theorem dX8_meanOf_19 : decode cX8_meanOf 19 = .ok (.iconst 1, 1) := by decide +kernel
theorem dX8_meanOf_20 : decode cX8_meanOf 20 = .ok (.goto 4, 3) := by decide +kernel
theorem dX8_meanOf_23 : decode cX8_meanOf 23 = .ok (.iconst 0, 1) := by decide +kernel
theorem dX8_meanOf_24 : decode cX8_meanOf 24 = .ok (.invokevirtual 276, 3) := by decide +kernel
theorem dX8_meanOf_27 : decode cX8_meanOf 27 = .ok (.iload 4, 2) := by decide +kernel
theorem dX8_meanOf_29 : decode cX8_meanOf 29 = .ok (.invokestatic 280, 3) := by decide +kernel
theorem dX8_meanOf_32 : decode cX8_meanOf 32 = .ok (.lreturn, 1) := by decide +kernel
theorem dX8_where_0 : decode cX8_where 0 = .ok (.iload_n 1, 1) := by decide +kernel
theorem dX8_where_1 : decode cX8_where 1 = .ok (.i2l, 1) := by decide +kernel
theorem dX8_where_2 : decode cX8_where 2 = .ok (.lconst 0, 1) := by decide +kernel
theorem dX8_where_3 : decode cX8_where 3 = .ok (.aload_n 0, 1) := by decide +kernel
theorem dX8_where_4 : decode cX8_where 4 = .ok (.getfield 13, 3) := by decide +kernel
theorem dX8_where_7 : decode cX8_where 7 = .ok (.i2l, 1) := by decide +kernel
theorem dX8_where_8 : decode cX8_where 8 = .ok (.invokestatic 71, 3) := by decide +kernel
theorem dX8_where_11 : decode cX8_where 11 = .ok (.ifCond .eq 36, 3) := by decide +kernel
theorem dX8_where_14 : decode cX8_where 14 = .ok (.iload_n 2, 1) := by decide +kernel
theorem dX8_where_15 : decode cX8_where 15 = .ok (.i2l, 1) := by decide +kernel
theorem dX8_where_16 : decode cX8_where 16 = .ok (.lconst 0, 1) := by decide +kernel
theorem dX8_where_17 : decode cX8_where 17 = .ok (.ldc2_w 115, 3) := by decide +kernel
theorem dX8_where_20 : decode cX8_where 20 = .ok (.invokestatic 71, 3) := by decide +kernel
theorem dX8_where_23 : decode cX8_where 23 = .ok (.ifCond .eq 24, 3) := by decide +kernel
theorem dX8_where_26 : decode cX8_where 26 = .ok (.iload_n 3, 1) := by decide +kernel
theorem dX8_where_27 : decode cX8_where 27 = .ok (.i2l, 1) := by decide +kernel
theorem dX8_where_28 : decode cX8_where 28 = .ok (.lconst 0, 1) := by decide +kernel
theorem dX8_where_29 : decode cX8_where 29 = .ok (.lconst 1, 1) := by decide +kernel
theorem dX8_where_30 : decode cX8_where 30 = .ok (.invokestatic 71, 3) := by decide +kernel
theorem dX8_where_33 : decode cX8_where 33 = .ok (.ifCond .eq 14, 3) := by decide +kernel
theorem dX8_where_36 : decode cX8_where 36 = .ok (.aload_n 0, 1) := by decide +kernel
theorem dX8_where_37 : decode cX8_where 37 = .ok (.iconst 0, 1) := by decide +kernel
theorem dX8_where_38 : decode cX8_where 38 = .ok (.iload_n 1, 1) := by decide +kernel
theorem dX8_where_39 : decode cX8_where 39 = .ok (.iload_n 2, 1) := by decide +kernel
theorem dX8_where_40 : decode cX8_where 40 = .ok (.iload_n 3, 1) := by decide +kernel
theorem dX8_where_41 : decode cX8_where 41 = .ok (.invokevirtual 284, 3) := by decide +kernel
theorem dX8_where_44 : decode cX8_where 44 = .ok (.goto 6, 3) := by decide +kernel
theorem dX8_where_47 : decode cX8_where 47 = .ok (.ldc2_w 288, 3) := by decide +kernel
theorem dX8_where_50 : decode cX8_where 50 = .ok (.lreturn, 1) := by decide +kernel
theorem dX8_goes_0 : decode cX8_goes 0 = .ok (.aload_n 0, 1) := by decide +kernel
theorem dX8_goes_1 : decode cX8_goes 1 = .ok (.iload_n 1, 1) := by decide +kernel
theorem dX8_goes_2 : decode cX8_goes 2 = .ok (.invokevirtual 203, 3) := by decide +kernel
theorem dX8_goes_5 : decode cX8_goes 5 = .ok (.ifCond .eq 24, 3) := by decide +kernel
theorem dX8_goes_8 : decode cX8_goes 8 = .ok (.iload_n 2, 1) := by decide +kernel
theorem dX8_goes_9 : decode cX8_goes 9 = .ok (.i2l, 1) := by decide +kernel
theorem dX8_goes_10 : decode cX8_goes 10 = .ok (.lconst 0, 1) := by decide +kernel
theorem dX8_goes_11 : decode cX8_goes 11 = .ok (.lconst 1, 1) := by decide +kernel
theorem dX8_goes_12 : decode cX8_goes 12 = .ok (.invokestatic 71, 3) := by decide +kernel
theorem dX8_goes_15 : decode cX8_goes 15 = .ok (.ifCond .eq 14, 3) := by decide +kernel
theorem dX8_goes_18 : decode cX8_goes 18 = .ok (.aload_n 0, 1) := by decide +kernel
theorem dX8_goes_19 : decode cX8_goes 19 = .ok (.iconst 1, 1) := by decide +kernel
theorem dX8_goes_20 : decode cX8_goes 20 = .ok (.iload_n 1, 1) := by decide +kernel
theorem dX8_goes_21 : decode cX8_goes 21 = .ok (.iconst 0, 1) := by decide +kernel
theorem dX8_goes_22 : decode cX8_goes 22 = .ok (.iload_n 2, 1) := by decide +kernel
theorem dX8_goes_23 : decode cX8_goes 23 = .ok (.invokevirtual 284, 3) := by decide +kernel
theorem dX8_goes_26 : decode cX8_goes 26 = .ok (.goto 6, 3) := by decide +kernel
theorem dX8_goes_29 : decode cX8_goes 29 = .ok (.ldc2_w 288, 3) := by decide +kernel
theorem dX8_goes_32 : decode cX8_goes 32 = .ok (.lreturn, 1) := by decide +kernel
theorem dX8_isOut_0 : decode cX8_isOut 0 = .ok (.aload_n 0, 1) := by decide +kernel
theorem dX8_isOut_1 : decode cX8_isOut 1 = .ok (.iload_n 1, 1) := by decide +kernel
theorem dX8_isOut_2 : decode cX8_isOut 2 = .ok (.invokevirtual 203, 3) := by decide +kernel
theorem dX8_isOut_5 : decode cX8_isOut 5 = .ok (.ifCond .eq 24, 3) := by decide +kernel
theorem dX8_isOut_8 : decode cX8_isOut 8 = .ok (.iload_n 2, 1) := by decide +kernel
theorem dX8_isOut_9 : decode cX8_isOut 9 = .ok (.i2l, 1) := by decide +kernel
theorem dX8_isOut_10 : decode cX8_isOut 10 = .ok (.lconst 0, 1) := by decide +kernel
theorem dX8_isOut_11 : decode cX8_isOut 11 = .ok (.lconst 1, 1) := by decide +kernel
theorem dX8_isOut_12 : decode cX8_isOut 12 = .ok (.invokestatic 71, 3) := by decide +kernel
theorem dX8_isOut_15 : decode cX8_isOut 15 = .ok (.ifCond .eq 14, 3) := by decide +kernel
theorem dX8_isOut_18 : decode cX8_isOut 18 = .ok (.aload_n 0, 1) := by decide +kernel
theorem dX8_isOut_19 : decode cX8_isOut 19 = .ok (.iconst 2, 1) := by decide +kernel
theorem dX8_isOut_20 : decode cX8_isOut 20 = .ok (.iload_n 1, 1) := by decide +kernel
theorem dX8_isOut_21 : decode cX8_isOut 21 = .ok (.iconst 0, 1) := by decide +kernel
theorem dX8_isOut_22 : decode cX8_isOut 22 = .ok (.iload_n 2, 1) := by decide +kernel
theorem dX8_isOut_23 : decode cX8_isOut 23 = .ok (.invokevirtual 284, 3) := by decide +kernel
theorem dX8_isOut_26 : decode cX8_isOut 26 = .ok (.goto 6, 3) := by decide +kernel
theorem dX8_isOut_29 : decode cX8_isOut 29 = .ok (.ldc2_w 288, 3) := by decide +kernel
theorem dX8_isOut_32 : decode cX8_isOut 32 = .ok (.lreturn, 1) := by decide +kernel
theorem dX8_had_0 : decode cX8_had 0 = .ok (.aload_n 0, 1) := by decide +kernel
theorem dX8_had_1 : decode cX8_had 1 = .ok (.iload_n 1, 1) := by decide +kernel
theorem dX8_had_2 : decode cX8_had 2 = .ok (.invokevirtual 188, 3) := by decide +kernel
theorem dX8_had_5 : decode cX8_had 5 = .ok (.ifCond .eq 24, 3) := by decide +kernel
theorem dX8_had_8 : decode cX8_had 8 = .ok (.iload_n 2, 1) := by decide +kernel
theorem dX8_had_9 : decode cX8_had 9 = .ok (.i2l, 1) := by decide +kernel
theorem dX8_had_10 : decode cX8_had 10 = .ok (.lconst 0, 1) := by decide +kernel
theorem dX8_had_11 : decode cX8_had 11 = .ok (.lconst 1, 1) := by decide +kernel
theorem dX8_had_12 : decode cX8_had 12 = .ok (.invokestatic 71, 3) := by decide +kernel
theorem dX8_had_15 : decode cX8_had 15 = .ok (.ifCond .eq 14, 3) := by decide +kernel
theorem dX8_had_18 : decode cX8_had 18 = .ok (.aload_n 0, 1) := by decide +kernel
theorem dX8_had_19 : decode cX8_had 19 = .ok (.iconst 3, 1) := by decide +kernel
theorem dX8_had_20 : decode cX8_had 20 = .ok (.iload_n 1, 1) := by decide +kernel
theorem dX8_had_21 : decode cX8_had 21 = .ok (.iconst 0, 1) := by decide +kernel
theorem dX8_had_22 : decode cX8_had 22 = .ok (.iload_n 2, 1) := by decide +kernel
theorem dX8_had_23 : decode cX8_had 23 = .ok (.invokevirtual 284, 3) := by decide +kernel
theorem dX8_had_26 : decode cX8_had 26 = .ok (.goto 6, 3) := by decide +kernel
theorem dX8_had_29 : decode cX8_had 29 = .ok (.ldc2_w 288, 3) := by decide +kernel
theorem dX8_had_32 : decode cX8_had 32 = .ok (.lreturn, 1) := by decide +kernel
theorem dX8_hits_0 : decode cX8_hits 0 = .ok (.iload_n 1, 1) := by decide +kernel
theorem dX8_hits_1 : decode cX8_hits 1 = .ok (.i2l, 1) := by decide +kernel
theorem dX8_hits_2 : decode cX8_hits 2 = .ok (.lconst 0, 1) := by decide +kernel
theorem dX8_hits_3 : decode cX8_hits 3 = .ok (.lconst 1, 1) := by decide +kernel
theorem dX8_hits_4 : decode cX8_hits 4 = .ok (.invokestatic 71, 3) := by decide +kernel
theorem dX8_hits_7 : decode cX8_hits 7 = .ok (.ifCond .eq 14, 3) := by decide +kernel
theorem dX8_hits_10 : decode cX8_hits 10 = .ok (.aload_n 0, 1) := by decide +kernel
theorem dX8_hits_11 : decode cX8_hits 11 = .ok (.iconst 4, 1) := by decide +kernel
theorem dX8_hits_12 : decode cX8_hits 12 = .ok (.iconst 0, 1) := by decide +kernel
theorem dX8_hits_13 : decode cX8_hits 13 = .ok (.iconst 0, 1) := by decide +kernel
theorem dX8_hits_14 : decode cX8_hits 14 = .ok (.iload_n 1, 1) := by decide +kernel
theorem dX8_hits_15 : decode cX8_hits 15 = .ok (.invokevirtual 284, 3) := by decide +kernel
theorem dX8_hits_18 : decode cX8_hits 18 = .ok (.goto 6, 3) := by decide +kernel
theorem dX8_hits_21 : decode cX8_hits 21 = .ok (.ldc2_w 288, 3) := by decide +kernel
theorem dX8_hits_24 : decode cX8_hits 24 = .ok (.lreturn, 1) := by decide +kernel
theorem dX8_torn_0 : decode cX8_torn 0 = .ok (.iload_n 1, 1) := by decide +kernel
theorem dX8_torn_1 : decode cX8_torn 1 = .ok (.i2l, 1) := by decide +kernel
theorem dX8_torn_2 : decode cX8_torn 2 = .ok (.lconst 0, 1) := by decide +kernel
theorem dX8_torn_3 : decode cX8_torn 3 = .ok (.lconst 1, 1) := by decide +kernel
theorem dX8_torn_4 : decode cX8_torn 4 = .ok (.invokestatic 71, 3) := by decide +kernel
theorem dX8_torn_7 : decode cX8_torn 7 = .ok (.ifCond .eq 14, 3) := by decide +kernel
theorem dX8_torn_10 : decode cX8_torn 10 = .ok (.aload_n 0, 1) := by decide +kernel
theorem dX8_torn_11 : decode cX8_torn 11 = .ok (.iconst 5, 1) := by decide +kernel
theorem dX8_torn_12 : decode cX8_torn 12 = .ok (.iconst 0, 1) := by decide +kernel
theorem dX8_torn_13 : decode cX8_torn 13 = .ok (.iconst 0, 1) := by decide +kernel
theorem dX8_torn_14 : decode cX8_torn 14 = .ok (.iload_n 1, 1) := by decide +kernel
theorem dX8_torn_15 : decode cX8_torn 15 = .ok (.invokevirtual 284, 3) := by decide +kernel
theorem dX8_torn_18 : decode cX8_torn 18 = .ok (.goto 6, 3) := by decide +kernel
theorem dX8_torn_21 : decode cX8_torn 21 = .ok (.ldc2_w 288, 3) := by decide +kernel
theorem dX8_torn_24 : decode cX8_torn 24 = .ok (.lreturn, 1) := by decide +kernel
theorem dX8_worth_0 : decode cX8_worth 0 = .ok (.iload_n 1, 1) := by decide +kernel
theorem dX8_worth_1 : decode cX8_worth 1 = .ok (.i2l, 1) := by decide +kernel
theorem dX8_worth_2 : decode cX8_worth 2 = .ok (.lconst 0, 1) := by decide +kernel
theorem dX8_worth_3 : decode cX8_worth 3 = .ok (.lconst 1, 1) := by decide +kernel
theorem dX8_worth_4 : decode cX8_worth 4 = .ok (.invokestatic 71, 3) := by decide +kernel
theorem dX8_worth_7 : decode cX8_worth 7 = .ok (.ifCond .eq 15, 3) := by decide +kernel
theorem dX8_worth_10 : decode cX8_worth 10 = .ok (.aload_n 0, 1) := by decide +kernel
theorem dX8_worth_11 : decode cX8_worth 11 = .ok (.bipush 6, 2) := by decide +kernel
theorem dX8_worth_13 : decode cX8_worth 13 = .ok (.iconst 0, 1) := by decide +kernel
theorem dX8_worth_14 : decode cX8_worth 14 = .ok (.iconst 0, 1) := by decide +kernel
theorem dX8_worth_15 : decode cX8_worth 15 = .ok (.iload_n 1, 1) := by decide +kernel
theorem dX8_worth_16 : decode cX8_worth 16 = .ok (.invokevirtual 284, 3) := by decide +kernel
theorem dX8_worth_19 : decode cX8_worth 19 = .ok (.goto 6, 3) := by decide +kernel
theorem dX8_worth_22 : decode cX8_worth 22 = .ok (.ldc2_w 288, 3) := by decide +kernel
theorem dX8_worth_25 : decode cX8_worth 25 = .ok (.lreturn, 1) := by decide +kernel
theorem dX8_copies_0 : decode cX8_copies 0 = .ok (.iconst 0, 1) := by decide +kernel
theorem dX8_copies_1 : decode cX8_copies 1 = .ok (.istore_n 3, 1) := by decide +kernel
theorem dX8_copies_2 : decode cX8_copies 2 = .ok (.iload_n 3, 1) := by decide +kernel
theorem dX8_copies_3 : decode cX8_copies 3 = .ok (.bipush 18, 2) := by decide +kernel
theorem dX8_copies_5 : decode cX8_copies 5 = .ok (.if_icmp .ge 25, 3) := by decide +kernel
theorem dX8_copies_8 : decode cX8_copies 8 = .ok (.aload_n 0, 1) := by decide +kernel
theorem dX8_copies_9 : decode cX8_copies 9 = .ok (.getfield 7, 3) := by decide +kernel
theorem dX8_copies_12 : decode cX8_copies 12 = .ok (.iload_n 2, 1) := by decide +kernel
theorem dX8_copies_13 : decode cX8_copies 13 = .ok (.iload_n 3, 1) := by decide +kernel
theorem dX8_copies_14 : decode cX8_copies 14 = .ok (.iadd, 1) := by decide +kernel
theorem dX8_copies_15 : decode cX8_copies 15 = .ok (.aload_n 0, 1) := by decide +kernel
theorem dX8_copies_16 : decode cX8_copies 16 = .ok (.getfield 7, 3) := by decide +kernel
theorem dX8_copies_19 : decode cX8_copies 19 = .ok (.iload_n 1, 1) := by decide +kernel
theorem dX8_copies_20 : decode cX8_copies 20 = .ok (.iload_n 3, 1) := by decide +kernel
theorem dX8_copies_21 : decode cX8_copies 21 = .ok (.iadd, 1) := by decide +kernel
theorem dX8_copies_22 : decode cX8_copies 22 = .ok (.iaload, 1) := by decide +kernel
theorem dX8_copies_23 : decode cX8_copies 23 = .ok (.iastore, 1) := by decide +kernel
theorem dX8_copies_24 : decode cX8_copies 24 = .ok (.iinc 3 1, 3) := by decide +kernel
theorem dX8_copies_27 : decode cX8_copies 27 = .ok (.goto (-25), 3) := by decide +kernel
theorem dX8_copies_30 : decode cX8_copies 30 = .ok (.return_, 1) := by decide +kernel
theorem dX8_best_0 : decode cX8_best 0 = .ok (.iload_n 1, 1) := by decide +kernel
theorem dX8_best_1 : decode cX8_best 1 = .ok (.i2l, 1) := by decide +kernel
theorem dX8_best_2 : decode cX8_best 2 = .ok (.lconst 0, 1) := by decide +kernel
theorem dX8_best_3 : decode cX8_best 3 = .ok (.ldc2_w 290, 3) := by decide +kernel
theorem dX8_best_6 : decode cX8_best 6 = .ok (.invokestatic 71, 3) := by decide +kernel
theorem dX8_best_9 : decode cX8_best 9 = .ok (.ifCond .ne 7, 3) := by decide +kernel
theorem dX8_best_12 : decode cX8_best 12 = .ok (.ldc2_w 288, 3) := by decide +kernel
theorem dX8_best_15 : decode cX8_best 15 = .ok (.lreturn, 1) := by decide +kernel
theorem dX8_best_16 : decode cX8_best 16 = .ok (.lconst 0, 1) := by decide +kernel
theorem dX8_best_17 : decode cX8_best 17 = .ok (.lstore_n 2, 1) := by decide +kernel
theorem dX8_best_18 : decode cX8_best 18 = .ok (.bipush (-4), 2) := by decide +kernel
theorem dX8_best_20 : decode cX8_best 20 = .ok (.istore 4, 2) := by decide +kernel
theorem dX8_best_22 : decode cX8_best 22 = .ok (.aload_n 0, 1) := by decide +kernel
theorem dX8_best_23 : decode cX8_best 23 = .ok (.iconst 0, 1) := by decide +kernel
theorem dX8_best_24 : decode cX8_best 24 = .ok (.bipush 72, 2) := by decide +kernel
theorem dX8_best_26 : decode cX8_best 26 = .ok (.invokevirtual 292, 3) := by decide +kernel
theorem dX8_best_29 : decode cX8_best 29 = .ok (.iconst 1, 1) := by decide +kernel
theorem dX8_best_30 : decode cX8_best 30 = .ok (.istore 5, 2) := by decide +kernel
theorem dX8_best_32 : decode cX8_best 32 = .ok (.iload 5, 2) := by decide +kernel
theorem dX8_best_34 : decode cX8_best 34 = .ok (.bipush 10, 2) := by decide +kernel
theorem dX8_best_36 : decode cX8_best 36 = .ok (.if_icmp .gt 113, 3) := by decide +kernel
theorem dX8_best_39 : decode cX8_best 39 = .ok (.iload 5, 2) := by decide +kernel
theorem dX8_best_41 : decode cX8_best 41 = .ok (.iconst 1, 1) := by decide +kernel
theorem dX8_best_42 : decode cX8_best 42 = .ok (.iadd, 1) := by decide +kernel
theorem dX8_best_43 : decode cX8_best 43 = .ok (.istore 6, 2) := by decide +kernel
theorem dX8_best_45 : decode cX8_best 45 = .ok (.iload 6, 2) := by decide +kernel
theorem dX8_best_47 : decode cX8_best 47 = .ok (.bipush 11, 2) := by decide +kernel
theorem dX8_best_49 : decode cX8_best 49 = .ok (.if_icmp .gt 94, 3) := by decide +kernel
theorem dX8_best_52 : decode cX8_best 52 = .ok (.aload_n 0, 1) := by decide +kernel
theorem dX8_best_53 : decode cX8_best 53 = .ok (.getfield 7, 3) := by decide +kernel
theorem dX8_best_56 : decode cX8_best 56 = .ok (.bipush 15, 2) := by decide +kernel
theorem dX8_best_58 : decode cX8_best 58 = .ok (.iload 5, 2) := by decide +kernel
theorem dX8_best_60 : decode cX8_best 60 = .ok (.iconst 2, 1) := by decide +kernel
theorem dX8_best_61 : decode cX8_best 61 = .ok (.isub, 1) := by decide +kernel
theorem dX8_best_62 : decode cX8_best 62 = .ok (.iastore, 1) := by decide +kernel
theorem dX8_best_63 : decode cX8_best 63 = .ok (.aload_n 0, 1) := by decide +kernel
theorem dX8_best_64 : decode cX8_best 64 = .ok (.getfield 7, 3) := by decide +kernel
theorem dX8_best_67 : decode cX8_best 67 = .ok (.bipush 16, 2) := by decide +kernel
theorem dX8_best_69 : decode cX8_best 69 = .ok (.iload 6, 2) := by decide +kernel
theorem dX8_best_71 : decode cX8_best 71 = .ok (.iconst 4, 1) := by decide +kernel
theorem dX8_best_72 : decode cX8_best 72 = .ok (.isub, 1) := by decide +kernel
theorem dX8_best_73 : decode cX8_best 73 = .ok (.iastore, 1) := by decide +kernel
theorem dX8_best_74 : decode cX8_best 74 = .ok (.aload_n 0, 1) := by decide +kernel
theorem dX8_best_75 : decode cX8_best 75 = .ok (.bipush 6, 2) := by decide +kernel
theorem dX8_best_77 : decode cX8_best 77 = .ok (.iconst 0, 1) := by decide +kernel
theorem dX8_best_78 : decode cX8_best 78 = .ok (.iconst 0, 1) := by decide +kernel
theorem dX8_best_79 : decode cX8_best 79 = .ok (.invokevirtual 272, 3) := by decide +kernel
theorem dX8_best_82 : decode cX8_best 82 = .ok (.lstore 7, 2) := by decide +kernel
theorem dX8_best_84 : decode cX8_best 84 = .ok (.iload 4, 2) := by decide +kernel
theorem dX8_best_86 : decode cX8_best 86 = .ok (.bipush (-4), 2) := by decide +kernel
theorem dX8_best_88 : decode cX8_best 88 = .ok (.if_icmp .eq 10, 3) := by decide +kernel
theorem dX8_best_91 : decode cX8_best 91 = .ok (.lload 7, 2) := by decide +kernel
theorem dX8_best_93 : decode cX8_best 93 = .ok (.lload_n 2, 1) := by decide +kernel
theorem dX8_best_94 : decode cX8_best 94 = .ok (.lcmp, 1) := by decide +kernel
theorem dX8_best_95 : decode cX8_best 95 = .ok (.ifCond .le 7, 3) := by decide +kernel
theorem dX8_best_98 : decode cX8_best 98 = .ok (.iconst 1, 1) := by decide +kernel
theorem dX8_best_99 : decode cX8_best 99 = .ok (.goto 4, 3) := by decide +kernel
theorem dX8_best_102 : decode cX8_best 102 = .ok (.iconst 0, 1) := by decide +kernel
theorem dX8_best_103 : decode cX8_best 103 = .ok (.istore 9, 2) := by decide +kernel
theorem dX8_best_105 : decode cX8_best 105 = .ok (.iload 9, 2) := by decide +kernel
theorem dX8_best_107 : decode cX8_best 107 = .ok (.ifCond .eq 14, 3) := by decide +kernel
theorem dX8_best_110 : decode cX8_best 110 = .ok (.bipush 100, 2) := by decide +kernel
theorem dX8_best_112 : decode cX8_best 112 = .ok (.iload 5, 2) := by decide +kernel
theorem dX8_best_114 : decode cX8_best 114 = .ok (.imul, 1) := by decide +kernel
theorem dX8_best_115 : decode cX8_best 115 = .ok (.iload 6, 2) := by decide +kernel
theorem dX8_best_117 : decode cX8_best 117 = .ok (.iadd, 1) := by decide +kernel
theorem dX8_best_118 : decode cX8_best 118 = .ok (.goto 5, 3) := by decide +kernel
theorem dX8_best_121 : decode cX8_best 121 = .ok (.iload 4, 2) := by decide +kernel
theorem dX8_best_123 : decode cX8_best 123 = .ok (.istore 4, 2) := by decide +kernel
theorem dX8_best_125 : decode cX8_best 125 = .ok (.iload 9, 2) := by decide +kernel
theorem dX8_best_127 : decode cX8_best 127 = .ok (.ifCond .eq 8, 3) := by decide +kernel
theorem dX8_best_130 : decode cX8_best 130 = .ok (.lload 7, 2) := by decide +kernel
theorem dX8_best_132 : decode cX8_best 132 = .ok (.goto 4, 3) := by decide +kernel
theorem dX8_best_135 : decode cX8_best 135 = .ok (.lload_n 2, 1) := by decide +kernel
theorem dX8_best_136 : decode cX8_best 136 = .ok (.lstore_n 2, 1) := by decide +kernel
theorem dX8_best_137 : decode cX8_best 137 = .ok (.iinc 6 1, 3) := by decide +kernel
theorem dX8_best_140 : decode cX8_best 140 = .ok (.goto (-95), 3) := by decide +kernel
theorem dX8_best_143 : decode cX8_best 143 = .ok (.iinc 5 1, 3) := by decide +kernel
theorem dX8_best_146 : decode cX8_best 146 = .ok (.goto (-114), 3) := by decide +kernel
theorem dX8_best_149 : decode cX8_best 149 = .ok (.aload_n 0, 1) := by decide +kernel
theorem dX8_best_150 : decode cX8_best 150 = .ok (.bipush 72, 2) := by decide +kernel
theorem dX8_best_152 : decode cX8_best 152 = .ok (.iconst 0, 1) := by decide +kernel
theorem dX8_best_153 : decode cX8_best 153 = .ok (.invokevirtual 292, 3) := by decide +kernel
theorem dX8_best_156 : decode cX8_best 156 = .ok (.iload_n 1, 1) := by decide +kernel
theorem dX8_best_157 : decode cX8_best 157 = .ok (.ifCond .ne 9, 3) := by decide +kernel
theorem dX8_best_160 : decode cX8_best 160 = .ok (.iload 4, 2) := by decide +kernel
theorem dX8_best_162 : decode cX8_best 162 = .ok (.i2l, 1) := by decide +kernel
theorem dX8_best_163 : decode cX8_best 163 = .ok (.goto 15, 3) := by decide +kernel
theorem dX8_best_166 : decode cX8_best 166 = .ok (.lload_n 2, 1) := by decide +kernel
theorem dX8_best_167 : decode cX8_best 167 = .ok (.aload_n 0, 1) := by decide +kernel
theorem dX8_best_168 : decode cX8_best 168 = .ok (.iconst 1, 1) := by decide +kernel
theorem dX8_best_169 : decode cX8_best 169 = .ok (.invokevirtual 276, 3) := by decide +kernel
theorem dX8_best_172 : decode cX8_best 172 = .ok (.iload_n 1, 1) := by decide +kernel
theorem dX8_best_173 : decode cX8_best 173 = .ok (.iconst 1, 1) := by decide +kernel
theorem dX8_best_174 : decode cX8_best 174 = .ok (.isub, 1) := by decide +kernel
theorem dX8_best_175 : decode cX8_best 175 = .ok (.invokestatic 280, 3) := by decide +kernel
theorem dX8_best_178 : decode cX8_best 178 = .ok (.lreturn, 1) := by decide +kernel
theorem dX8_isHad_0 : decode cX8_isHad 0 = .ok (.aload_n 0, 1) := by decide +kernel
theorem dX8_isHad_1 : decode cX8_isHad 1 = .ok (.iconst 3, 1) := by decide +kernel
theorem dX8_isHad_2 : decode cX8_isHad 2 = .ok (.iload_n 1, 1) := by decide +kernel
theorem dX8_isHad_3 : decode cX8_isHad 3 = .ok (.iconst 0, 1) := by decide +kernel
theorem dX8_isHad_4 : decode cX8_isHad 4 = .ok (.invokevirtual 272, 3) := by decide +kernel
theorem dX8_isHad_7 : decode cX8_isHad 7 = .ok (.ldc2_w 115, 3) := by decide +kernel
theorem dX8_isHad_10 : decode cX8_isHad 10 = .ok (.lmul, 1) := by decide +kernel
theorem dX8_isHad_11 : decode cX8_isHad 11 = .ok (.iload_n 2, 1) := by decide +kernel
theorem dX8_isHad_12 : decode cX8_isHad 12 = .ok (.i2l, 1) := by decide +kernel
theorem dX8_isHad_13 : decode cX8_isHad 13 = .ok (.aload_n 0, 1) := by decide +kernel
theorem dX8_isHad_14 : decode cX8_isHad 14 = .ok (.iconst 1, 1) := by decide +kernel
theorem dX8_isHad_15 : decode cX8_isHad 15 = .ok (.invokevirtual 276, 3) := by decide +kernel
theorem dX8_isHad_18 : decode cX8_isHad 18 = .ok (.lmul, 1) := by decide +kernel
theorem dX8_isHad_19 : decode cX8_isHad 19 = .ok (.lcmp, 1) := by decide +kernel
theorem dX8_isHad_20 : decode cX8_isHad 20 = .ok (.ifCond .lt 7, 3) := by decide +kernel
theorem dX8_isHad_23 : decode cX8_isHad 23 = .ok (.iconst 1, 1) := by decide +kernel
theorem dX8_isHad_24 : decode cX8_isHad 24 = .ok (.goto 4, 3) := by decide +kernel
theorem dX8_isHad_27 : decode cX8_isHad 27 = .ok (.iconst 0, 1) := by decide +kernel
theorem dX8_isHad_28 : decode cX8_isHad 28 = .ok (.ireturn, 1) := by decide +kernel
theorem dX8_areTenths_0 : decode cX8_areTenths 0 = .ok (.iload_n 0, 1) := by decide +kernel
theorem dX8_areTenths_1 : decode cX8_areTenths 1 = .ok (.i2l, 1) := by decide +kernel
theorem dX8_areTenths_2 : decode cX8_areTenths 2 = .ok (.lconst 1, 1) := by decide +kernel
theorem dX8_areTenths_3 : decode cX8_areTenths 3 = .ok (.ldc2_w 115, 3) := by decide +kernel
theorem dX8_areTenths_6 : decode cX8_areTenths 6 = .ok (.invokestatic 71, 3) := by decide +kernel
theorem dX8_areTenths_9 : decode cX8_areTenths 9 = .ok (.ireturn, 1) := by decide +kernel
theorem dX8_fog_0 : decode cX8_fog 0 = .ok (.aload_n 0, 1) := by decide +kernel
theorem dX8_fog_1 : decode cX8_fog 1 = .ok (.iload_n 1, 1) := by decide +kernel
theorem dX8_fog_2 : decode cX8_fog 2 = .ok (.invokevirtual 188, 3) := by decide +kernel
theorem dX8_fog_5 : decode cX8_fog 5 = .ok (.ifCond .eq 10, 3) := by decide +kernel
theorem dX8_fog_8 : decode cX8_fog 8 = .ok (.iload_n 2, 1) := by decide +kernel
theorem dX8_fog_9 : decode cX8_fog 9 = .ok (.invokestatic 295, 3) := by decide +kernel
theorem dX8_fog_12 : decode cX8_fog 12 = .ok (.ifCond .ne 5, 3) := by decide +kernel
theorem dX8_fog_15 : decode cX8_fog 15 = .ok (.iconst (-1), 1) := by decide +kernel
theorem dX8_fog_16 : decode cX8_fog 16 = .ok (.ireturn, 1) := by decide +kernel
theorem dX8_fog_17 : decode cX8_fog 17 = .ok (.bipush (-4), 2) := by decide +kernel
theorem dX8_fog_19 : decode cX8_fog 19 = .ok (.istore_n 3, 1) := by decide +kernel
theorem dX8_fog_20 : decode cX8_fog 20 = .ok (.aload_n 0, 1) := by decide +kernel
theorem dX8_fog_21 : decode cX8_fog 21 = .ok (.iconst 0, 1) := by decide +kernel
theorem dX8_fog_22 : decode cX8_fog 22 = .ok (.bipush 72, 2) := by decide +kernel
theorem dX8_fog_24 : decode cX8_fog 24 = .ok (.invokevirtual 292, 3) := by decide +kernel
theorem dX8_fog_27 : decode cX8_fog 27 = .ok (.iconst 0, 1) := by decide +kernel
theorem dX8_fog_28 : decode cX8_fog 28 = .ok (.istore 4, 2) := by decide +kernel
theorem dX8_fog_30 : decode cX8_fog 30 = .ok (.iload 4, 2) := by decide +kernel
theorem dX8_fog_32 : decode cX8_fog 32 = .ok (.bipush 10, 2) := by decide +kernel
theorem dX8_fog_34 : decode cX8_fog 34 = .ok (.if_icmp .gt 61, 3) := by decide +kernel
theorem dX8_fog_37 : decode cX8_fog 37 = .ok (.iload_n 3, 1) := by decide +kernel
theorem dX8_fog_38 : decode cX8_fog 38 = .ok (.bipush (-4), 2) := by decide +kernel
theorem dX8_fog_40 : decode cX8_fog 40 = .ok (.if_icmp .ne 55, 3) := by decide +kernel
theorem dX8_fog_43 : decode cX8_fog 43 = .ok (.iconst 0, 1) := by decide +kernel
theorem dX8_fog_44 : decode cX8_fog 44 = .ok (.istore 5, 2) := by decide +kernel
theorem dX8_fog_46 : decode cX8_fog 46 = .ok (.iload 5, 2) := by decide +kernel
theorem dX8_fog_48 : decode cX8_fog 48 = .ok (.aload_n 0, 1) := by decide +kernel
theorem dX8_fog_49 : decode cX8_fog 49 = .ok (.getfield 170, 3) := by decide +kernel
theorem dX8_fog_52 : decode cX8_fog 52 = .ok (.if_icmp .ge 20, 3) := by decide +kernel
theorem dX8_fog_55 : decode cX8_fog 55 = .ok (.aload_n 0, 1) := by decide +kernel
theorem dX8_fog_56 : decode cX8_fog 56 = .ok (.getfield 7, 3) := by decide +kernel
theorem dX8_fog_59 : decode cX8_fog 59 = .ok (.iconst 3, 1) := by decide +kernel
theorem dX8_fog_60 : decode cX8_fog 60 = .ok (.iload 5, 2) := by decide +kernel
theorem dX8_fog_62 : decode cX8_fog 62 = .ok (.iadd, 1) := by decide +kernel
theorem dX8_fog_63 : decode cX8_fog 63 = .ok (.iload 4, 2) := by decide +kernel
theorem dX8_fog_65 : decode cX8_fog 65 = .ok (.iastore, 1) := by decide +kernel
theorem dX8_fog_66 : decode cX8_fog 66 = .ok (.iinc 5 1, 3) := by decide +kernel
theorem dX8_fog_69 : decode cX8_fog 69 = .ok (.goto (-23), 3) := by decide +kernel
theorem dX8_fog_72 : decode cX8_fog 72 = .ok (.aload_n 0, 1) := by decide +kernel
theorem dX8_fog_73 : decode cX8_fog 73 = .ok (.iload_n 1, 1) := by decide +kernel
theorem dX8_fog_74 : decode cX8_fog 74 = .ok (.iload_n 2, 1) := by decide +kernel
theorem dX8_fog_75 : decode cX8_fog 75 = .ok (.invokevirtual 298, 3) := by decide +kernel
theorem dX8_fog_78 : decode cX8_fog 78 = .ok (.ifCond .eq 8, 3) := by decide +kernel
theorem dX8_fog_81 : decode cX8_fog 81 = .ok (.iload 4, 2) := by decide +kernel
theorem dX8_fog_83 : decode cX8_fog 83 = .ok (.goto 5, 3) := by decide +kernel
theorem dX8_fog_86 : decode cX8_fog 86 = .ok (.bipush (-4), 2) := by decide +kernel
theorem dX8_fog_88 : decode cX8_fog 88 = .ok (.istore_n 3, 1) := by decide +kernel
theorem dX8_fog_89 : decode cX8_fog 89 = .ok (.iinc 4 1, 3) := by decide +kernel
theorem dX8_fog_92 : decode cX8_fog 92 = .ok (.goto (-62), 3) := by decide +kernel
theorem dX8_fog_95 : decode cX8_fog 95 = .ok (.aload_n 0, 1) := by decide +kernel
theorem dX8_fog_96 : decode cX8_fog 96 = .ok (.bipush 72, 2) := by decide +kernel
theorem dX8_fog_98 : decode cX8_fog 98 = .ok (.iconst 0, 1) := by decide +kernel
theorem dX8_fog_99 : decode cX8_fog 99 = .ok (.invokevirtual 292, 3) := by decide +kernel
theorem dX8_fog_102 : decode cX8_fog 102 = .ok (.iload_n 3, 1) := by decide +kernel
theorem dX8_fog_103 : decode cX8_fog 103 = .ok (.ireturn, 1) := by decide +kernel
theorem dX8_fast_0 : decode cX8_fast 0 = .ok (.aload_n 0, 1) := by decide +kernel
theorem dX8_fast_1 : decode cX8_fast 1 = .ok (.iload_n 1, 1) := by decide +kernel
theorem dX8_fast_2 : decode cX8_fast 2 = .ok (.invokevirtual 188, 3) := by decide +kernel
theorem dX8_fast_5 : decode cX8_fast 5 = .ok (.ifCond .eq 10, 3) := by decide +kernel
theorem dX8_fast_8 : decode cX8_fast 8 = .ok (.iload_n 2, 1) := by decide +kernel
theorem dX8_fast_9 : decode cX8_fast 9 = .ok (.invokestatic 295, 3) := by decide +kernel
