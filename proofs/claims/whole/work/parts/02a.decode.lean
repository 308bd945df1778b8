theorem dX0_init_0 : decode cX0_init 0 = .ok (.aload_n 0, 1) := by decide +kernel
theorem dX0_init_1 : decode cX0_init 1 = .ok (.invokespecial 3, 3) := by decide +kernel
theorem dX0_init_4 : decode cX0_init 4 = .ok (.aload_n 0, 1) := by decide +kernel
theorem dX0_init_5 : decode cX0_init 5 = .ok (.bipush 11, 2) := by decide +kernel
theorem dX0_init_7 : decode cX0_init 7 = .ok (.newarray .long, 2) := by decide +kernel
theorem dX0_init_9 : decode cX0_init 9 = .ok (.putfield 11, 3) := by decide +kernel
theorem dX0_init_12 : decode cX0_init 12 = .ok (.aload_n 0, 1) := by decide +kernel
theorem dX0_init_13 : decode cX0_init 13 = .ok (.bipush 11, 2) := by decide +kernel
theorem dX0_init_15 : decode cX0_init 15 = .ok (.newarray .long, 2) := by decide +kernel
theorem dX0_init_17 : decode cX0_init 17 = .ok (.putfield 15, 3) := by decide +kernel
theorem dX0_init_20 : decode cX0_init 20 = .ok (.aload_n 0, 1) := by decide +kernel
theorem dX0_init_21 : decode cX0_init 21 = .ok (.bipush 11, 2) := by decide +kernel
theorem dX0_init_23 : decode cX0_init 23 = .ok (.newarray .long, 2) := by decide +kernel
theorem dX0_init_25 : decode cX0_init 25 = .ok (.putfield 18, 3) := by decide +kernel
theorem dX0_init_28 : decode cX0_init 28 = .ok (.aload_n 0, 1) := by decide +kernel
theorem dX0_init_29 : decode cX0_init 29 = .ok (.bipush 11, 2) := by decide +kernel
theorem dX0_init_31 : decode cX0_init 31 = .ok (.newarray .long, 2) := by decide +kernel
theorem dX0_init_33 : decode cX0_init 33 = .ok (.putfield 21, 3) := by decide +kernel
theorem dX0_init_36 : decode cX0_init 36 = .ok (.aload_n 0, 1) := by decide +kernel
theorem dX0_init_37 : decode cX0_init 37 = .ok (.bipush 11, 2) := by decide +kernel
theorem dX0_init_39 : decode cX0_init 39 = .ok (.newarray .long, 2) := by decide +kernel
theorem dX0_init_41 : decode cX0_init 41 = .ok (.putfield 24, 3) := by decide +kernel
theorem dX0_init_44 : decode cX0_init 44 = .ok (.aload_n 0, 1) := by decide +kernel
theorem dX0_init_45 : decode cX0_init 45 = .ok (.bipush 11, 2) := by decide +kernel
theorem dX0_init_47 : decode cX0_init 47 = .ok (.newarray .long, 2) := by decide +kernel
theorem dX0_init_49 : decode cX0_init 49 = .ok (.putfield 27, 3) := by decide +kernel
theorem dX0_init_52 : decode cX0_init 52 = .ok (.aload_n 0, 1) := by decide +kernel
theorem dX0_init_53 : decode cX0_init 53 = .ok (.bipush 11, 2) := by decide +kernel
theorem dX0_init_55 : decode cX0_init 55 = .ok (.newarray .long, 2) := by decide +kernel
theorem dX0_init_57 : decode cX0_init 57 = .ok (.putfield 30, 3) := by decide +kernel
theorem dX0_init_60 : decode cX0_init 60 = .ok (.aload_n 0, 1) := by decide +kernel
theorem dX0_init_61 : decode cX0_init 61 = .ok (.bipush 11, 2) := by decide +kernel
theorem dX0_init_63 : decode cX0_init 63 = .ok (.newarray .long, 2) := by decide +kernel
theorem dX0_init_65 : decode cX0_init 65 = .ok (.putfield 33, 3) := by decide +kernel
theorem dX0_init_68 : decode cX0_init 68 = .ok (.aload_n 0, 1) := by decide +kernel
theorem dX0_init_69 : decode cX0_init 69 = .ok (.bipush 11, 2) := by decide +kernel
theorem dX0_init_71 : decode cX0_init 71 = .ok (.newarray .long, 2) := by decide +kernel
theorem dX0_init_73 : decode cX0_init 73 = .ok (.putfield 36, 3) := by decide +kernel
theorem dX0_init_76 : decode cX0_init 76 = .ok (.return_, 1) := by decide +kernel
theorem dX0_weighByOdds_0 : decode cX0_weighByOdds 0 = .ok (.aload_n 0, 1) := by decide +kernel
theorem dX0_weighByOdds_1 : decode cX0_weighByOdds 1 = .ok (.aload_n 1, 1) := by decide +kernel
theorem dX0_weighByOdds_2 : decode cX0_weighByOdds 2 = .ok (.iconst 0, 1) := by decide +kernel
theorem dX0_weighByOdds_3 : decode cX0_weighByOdds 3 = .ok (.invokevirtual 39, 3) := by decide +kernel
theorem dX0_weighByOdds_6 : decode cX0_weighByOdds 6 = .ok (.bipush 10, 2) := by decide +kernel
theorem dX0_weighByOdds_8 : decode cX0_weighByOdds 8 = .ok (.invokestatic 45, 3) := by decide +kernel
theorem dX0_weighByOdds_11 : decode cX0_weighByOdds 11 = .ok (.putfield 51, 3) := by decide +kernel
theorem dX0_weighByOdds_14 : decode cX0_weighByOdds 14 = .ok (.iconst 1, 1) := by decide +kernel
theorem dX0_weighByOdds_15 : decode cX0_weighByOdds 15 = .ok (.istore 4, 2) := by decide +kernel
theorem dX0_weighByOdds_17 : decode cX0_weighByOdds 17 = .ok (.iload 4, 2) := by decide +kernel
theorem dX0_weighByOdds_19 : decode cX0_weighByOdds 19 = .ok (.aload_n 0, 1) := by decide +kernel
theorem dX0_weighByOdds_20 : decode cX0_weighByOdds 20 = .ok (.getfield 51, 3) := by decide +kernel
theorem dX0_weighByOdds_23 : decode cX0_weighByOdds 23 = .ok (.if_icmp .gt 104, 3) := by decide +kernel
theorem dX0_weighByOdds_26 : decode cX0_weighByOdds 26 = .ok (.aload_n 1, 1) := by decide +kernel
theorem dX0_weighByOdds_27 : decode cX0_weighByOdds 27 = .ok (.iload 4, 2) := by decide +kernel
theorem dX0_weighByOdds_29 : decode cX0_weighByOdds 29 = .ok (.invokevirtual 55, 3) := by decide +kernel
theorem dX0_weighByOdds_32 : decode cX0_weighByOdds 32 = .ok (.istore 5, 2) := by decide +kernel
theorem dX0_weighByOdds_34 : decode cX0_weighByOdds 34 = .ok (.iload_n 3, 1) := by decide +kernel
theorem dX0_weighByOdds_35 : decode cX0_weighByOdds 35 = .ok (.bipush (-4), 2) := by decide +kernel
theorem dX0_weighByOdds_37 : decode cX0_weighByOdds 37 = .ok (.if_icmp .ne 15, 3) := by decide +kernel
theorem dX0_weighByOdds_40 : decode cX0_weighByOdds 40 = .ok (.aload_n 1, 1) := by decide +kernel
theorem dX0_weighByOdds_41 : decode cX0_weighByOdds 41 = .ok (.getfield 58, 3) := by decide +kernel
theorem dX0_weighByOdds_44 : decode cX0_weighByOdds 44 = .ok (.iload 5, 2) := by decide +kernel
theorem dX0_weighByOdds_46 : decode cX0_weighByOdds 46 = .ok (.invokestatic 62, 3) := by decide +kernel
theorem dX0_weighByOdds_49 : decode cX0_weighByOdds 49 = .ok (.goto 4, 3) := by decide +kernel
theorem dX0_weighByOdds_52 : decode cX0_weighByOdds 52 = .ok (.iload_n 3, 1) := by decide +kernel
theorem dX0_weighByOdds_53 : decode cX0_weighByOdds 53 = .ok (.istore 6, 2) := by decide +kernel
theorem dX0_weighByOdds_55 : decode cX0_weighByOdds 55 = .ok (.aload_n 0, 1) := by decide +kernel
theorem dX0_weighByOdds_56 : decode cX0_weighByOdds 56 = .ok (.getfield 11, 3) := by decide +kernel
theorem dX0_weighByOdds_59 : decode cX0_weighByOdds 59 = .ok (.iload 4, 2) := by decide +kernel
theorem dX0_weighByOdds_61 : decode cX0_weighByOdds 61 = .ok (.iload_n 2, 1) := by decide +kernel
theorem dX0_weighByOdds_62 : decode cX0_weighByOdds 62 = .ok (.i2l, 1) := by decide +kernel
theorem dX0_weighByOdds_63 : decode cX0_weighByOdds 63 = .ok (.lastore, 1) := by decide +kernel
theorem dX0_weighByOdds_64 : decode cX0_weighByOdds 64 = .ok (.aload_n 0, 1) := by decide +kernel
theorem dX0_weighByOdds_65 : decode cX0_weighByOdds 65 = .ok (.getfield 15, 3) := by decide +kernel
theorem dX0_weighByOdds_68 : decode cX0_weighByOdds 68 = .ok (.iload 4, 2) := by decide +kernel
theorem dX0_weighByOdds_70 : decode cX0_weighByOdds 70 = .ok (.bipush 10, 2) := by decide +kernel
theorem dX0_weighByOdds_72 : decode cX0_weighByOdds 72 = .ok (.iload_n 2, 1) := by decide +kernel
theorem dX0_weighByOdds_73 : decode cX0_weighByOdds 73 = .ok (.isub, 1) := by decide +kernel
theorem dX0_weighByOdds_74 : decode cX0_weighByOdds 74 = .ok (.i2l, 1) := by decide +kernel
theorem dX0_weighByOdds_75 : decode cX0_weighByOdds 75 = .ok (.lastore, 1) := by decide +kernel
theorem dX0_weighByOdds_76 : decode cX0_weighByOdds 76 = .ok (.aload_n 0, 1) := by decide +kernel
theorem dX0_weighByOdds_77 : decode cX0_weighByOdds 77 = .ok (.getfield 18, 3) := by decide +kernel
theorem dX0_weighByOdds_80 : decode cX0_weighByOdds 80 = .ok (.iload 4, 2) := by decide +kernel
theorem dX0_weighByOdds_82 : decode cX0_weighByOdds 82 = .ok (.iload 5, 2) := by decide +kernel
theorem dX0_weighByOdds_84 : decode cX0_weighByOdds 84 = .ok (.bipush (-4), 2) := by decide +kernel
theorem dX0_weighByOdds_86 : decode cX0_weighByOdds 86 = .ok (.if_icmp .ne 7, 3) := by decide +kernel
theorem dX0_weighByOdds_89 : decode cX0_weighByOdds 89 = .ok (.lconst 0, 1) := by decide +kernel
theorem dX0_weighByOdds_90 : decode cX0_weighByOdds 90 = .ok (.goto 6, 3) := by decide +kernel
theorem dX0_weighByOdds_93 : decode cX0_weighByOdds 93 = .ok (.iload 6, 2) := by decide +kernel
theorem dX0_weighByOdds_95 : decode cX0_weighByOdds 95 = .ok (.i2l, 1) := by decide +kernel
theorem dX0_weighByOdds_96 : decode cX0_weighByOdds 96 = .ok (.lastore, 1) := by decide +kernel
theorem dX0_weighByOdds_97 : decode cX0_weighByOdds 97 = .ok (.aload_n 0, 1) := by decide +kernel
theorem dX0_weighByOdds_98 : decode cX0_weighByOdds 98 = .ok (.getfield 21, 3) := by decide +kernel
theorem dX0_weighByOdds_101 : decode cX0_weighByOdds 101 = .ok (.iload 4, 2) := by decide +kernel
theorem dX0_weighByOdds_103 : decode cX0_weighByOdds 103 = .ok (.iload 5, 2) := by decide +kernel
theorem dX0_weighByOdds_105 : decode cX0_weighByOdds 105 = .ok (.bipush (-4), 2) := by decide +kernel
theorem dX0_weighByOdds_107 : decode cX0_weighByOdds 107 = .ok (.if_icmp .ne 7, 3) := by decide +kernel
theorem dX0_weighByOdds_110 : decode cX0_weighByOdds 110 = .ok (.lconst 1, 1) := by decide +kernel
theorem dX0_weighByOdds_111 : decode cX0_weighByOdds 111 = .ok (.goto 9, 3) := by decide +kernel
theorem dX0_weighByOdds_114 : decode cX0_weighByOdds 114 = .ok (.bipush 10, 2) := by decide +kernel
theorem dX0_weighByOdds_116 : decode cX0_weighByOdds 116 = .ok (.iload 6, 2) := by decide +kernel
theorem dX0_weighByOdds_118 : decode cX0_weighByOdds 118 = .ok (.isub, 1) := by decide +kernel
theorem dX0_weighByOdds_119 : decode cX0_weighByOdds 119 = .ok (.i2l, 1) := by decide +kernel
theorem dX0_weighByOdds_120 : decode cX0_weighByOdds 120 = .ok (.lastore, 1) := by decide +kernel
theorem dX0_weighByOdds_121 : decode cX0_weighByOdds 121 = .ok (.iinc 4 1, 3) := by decide +kernel
theorem dX0_weighByOdds_124 : decode cX0_weighByOdds 124 = .ok (.goto (-107), 3) := by decide +kernel
theorem dX0_weighByOdds_127 : decode cX0_weighByOdds 127 = .ok (.aload_n 0, 1) := by decide +kernel
theorem dX0_weighByOdds_128 : decode cX0_weighByOdds 128 = .ok (.invokevirtual 66, 3) := by decide +kernel
theorem dX0_weighByOdds_131 : decode cX0_weighByOdds 131 = .ok (.return_, 1) := by decide +kernel
theorem dX0_weighAlike_0 : decode cX0_weighAlike 0 = .ok (.aload_n 0, 1) := by decide +kernel
theorem dX0_weighAlike_1 : decode cX0_weighAlike 1 = .ok (.aload_n 1, 1) := by decide +kernel
theorem dX0_weighAlike_2 : decode cX0_weighAlike 2 = .ok (.iconst 0, 1) := by decide +kernel
theorem dX0_weighAlike_3 : decode cX0_weighAlike 3 = .ok (.invokevirtual 39, 3) := by decide +kernel
theorem dX0_weighAlike_6 : decode cX0_weighAlike 6 = .ok (.bipush 10, 2) := by decide +kernel
theorem dX0_weighAlike_8 : decode cX0_weighAlike 8 = .ok (.invokestatic 45, 3) := by decide +kernel
theorem dX0_weighAlike_11 : decode cX0_weighAlike 11 = .ok (.putfield 51, 3) := by decide +kernel
theorem dX0_weighAlike_14 : decode cX0_weighAlike 14 = .ok (.iconst 1, 1) := by decide +kernel
theorem dX0_weighAlike_15 : decode cX0_weighAlike 15 = .ok (.istore_n 2, 1) := by decide +kernel
theorem dX0_weighAlike_16 : decode cX0_weighAlike 16 = .ok (.iload_n 2, 1) := by decide +kernel
theorem dX0_weighAlike_17 : decode cX0_weighAlike 17 = .ok (.aload_n 0, 1) := by decide +kernel
theorem dX0_weighAlike_18 : decode cX0_weighAlike 18 = .ok (.getfield 51, 3) := by decide +kernel
theorem dX0_weighAlike_21 : decode cX0_weighAlike 21 = .ok (.if_icmp .gt 51, 3) := by decide +kernel
theorem dX0_weighAlike_24 : decode cX0_weighAlike 24 = .ok (.aload_n 0, 1) := by decide +kernel
theorem dX0_weighAlike_25 : decode cX0_weighAlike 25 = .ok (.getfield 11, 3) := by decide +kernel
theorem dX0_weighAlike_28 : decode cX0_weighAlike 28 = .ok (.iload_n 2, 1) := by decide +kernel
theorem dX0_weighAlike_29 : decode cX0_weighAlike 29 = .ok (.lconst 1, 1) := by decide +kernel
theorem dX0_weighAlike_30 : decode cX0_weighAlike 30 = .ok (.lastore, 1) := by decide +kernel
theorem dX0_weighAlike_31 : decode cX0_weighAlike 31 = .ok (.aload_n 0, 1) := by decide +kernel
theorem dX0_weighAlike_32 : decode cX0_weighAlike 32 = .ok (.getfield 15, 3) := by decide +kernel
theorem dX0_weighAlike_35 : decode cX0_weighAlike 35 = .ok (.iload_n 2, 1) := by decide +kernel
theorem dX0_weighAlike_36 : decode cX0_weighAlike 36 = .ok (.lconst 1, 1) := by decide +kernel
theorem dX0_weighAlike_37 : decode cX0_weighAlike 37 = .ok (.lastore, 1) := by decide +kernel
theorem dX0_weighAlike_38 : decode cX0_weighAlike 38 = .ok (.aload_n 0, 1) := by decide +kernel
theorem dX0_weighAlike_39 : decode cX0_weighAlike 39 = .ok (.getfield 18, 3) := by decide +kernel
theorem dX0_weighAlike_42 : decode cX0_weighAlike 42 = .ok (.iload_n 2, 1) := by decide +kernel
theorem dX0_weighAlike_43 : decode cX0_weighAlike 43 = .ok (.aload_n 1, 1) := by decide +kernel
theorem dX0_weighAlike_44 : decode cX0_weighAlike 44 = .ok (.iload_n 2, 1) := by decide +kernel
theorem dX0_weighAlike_45 : decode cX0_weighAlike 45 = .ok (.invokevirtual 55, 3) := by decide +kernel
theorem dX0_weighAlike_48 : decode cX0_weighAlike 48 = .ok (.bipush (-4), 2) := by decide +kernel
theorem dX0_weighAlike_50 : decode cX0_weighAlike 50 = .ok (.if_icmp .ne 7, 3) := by decide +kernel
theorem dX0_weighAlike_53 : decode cX0_weighAlike 53 = .ok (.lconst 0, 1) := by decide +kernel
theorem dX0_weighAlike_54 : decode cX0_weighAlike 54 = .ok (.goto 4, 3) := by decide +kernel
theorem dX0_weighAlike_57 : decode cX0_weighAlike 57 = .ok (.lconst 1, 1) := by decide +kernel
theorem dX0_weighAlike_58 : decode cX0_weighAlike 58 = .ok (.lastore, 1) := by decide +kernel
theorem dX0_weighAlike_59 : decode cX0_weighAlike 59 = .ok (.aload_n 0, 1) := by decide +kernel
theorem dX0_weighAlike_60 : decode cX0_weighAlike 60 = .ok (.getfield 21, 3) := by decide +kernel
theorem dX0_weighAlike_63 : decode cX0_weighAlike 63 = .ok (.iload_n 2, 1) := by decide +kernel
theorem dX0_weighAlike_64 : decode cX0_weighAlike 64 = .ok (.lconst 1, 1) := by decide +kernel
theorem dX0_weighAlike_65 : decode cX0_weighAlike 65 = .ok (.lastore, 1) := by decide +kernel
theorem dX0_weighAlike_66 : decode cX0_weighAlike 66 = .ok (.iinc 2 1, 3) := by decide +kernel
theorem dX0_weighAlike_69 : decode cX0_weighAlike 69 = .ok (.goto (-53), 3) := by decide +kernel
theorem dX0_weighAlike_72 : decode cX0_weighAlike 72 = .ok (.aload_n 0, 1) := by decide +kernel
theorem dX0_weighAlike_73 : decode cX0_weighAlike 73 = .ok (.invokevirtual 66, 3) := by decide +kernel
theorem dX0_weighAlike_76 : decode cX0_weighAlike 76 = .ok (.return_, 1) := by decide +kernel
theorem dX0_forceMiss_0 : decode cX0_forceMiss 0 = .ok (.aload_n 0, 1) := by decide +kernel
theorem dX0_forceMiss_1 : decode cX0_forceMiss 1 = .ok (.getfield 11, 3) := by decide +kernel
theorem dX0_forceMiss_4 : decode cX0_forceMiss 4 = .ok (.iload_n 1, 1) := by decide +kernel
theorem dX0_forceMiss_5 : decode cX0_forceMiss 5 = .ok (.iload_n 2, 1) := by decide +kernel
theorem dX0_forceMiss_6 : decode cX0_forceMiss 6 = .ok (.ifCond .eq 7, 3) := by decide +kernel
theorem dX0_forceMiss_9 : decode cX0_forceMiss 9 = .ok (.lconst 1, 1) := by decide +kernel
theorem dX0_forceMiss_10 : decode cX0_forceMiss 10 = .ok (.goto 4, 3) := by decide +kernel
theorem dX0_forceMiss_13 : decode cX0_forceMiss 13 = .ok (.lconst 0, 1) := by decide +kernel
theorem dX0_forceMiss_14 : decode cX0_forceMiss 14 = .ok (.invokestatic 69, 3) := by decide +kernel
theorem dX0_forceMiss_17 : decode cX0_forceMiss 17 = .ok (.aload_n 0, 1) := by decide +kernel
theorem dX0_forceMiss_18 : decode cX0_forceMiss 18 = .ok (.getfield 15, 3) := by decide +kernel
theorem dX0_forceMiss_21 : decode cX0_forceMiss 21 = .ok (.iload_n 1, 1) := by decide +kernel
theorem dX0_forceMiss_22 : decode cX0_forceMiss 22 = .ok (.iload_n 2, 1) := by decide +kernel
theorem dX0_forceMiss_23 : decode cX0_forceMiss 23 = .ok (.ifCond .eq 7, 3) := by decide +kernel
theorem dX0_forceMiss_26 : decode cX0_forceMiss 26 = .ok (.lconst 0, 1) := by decide +kernel
theorem dX0_forceMiss_27 : decode cX0_forceMiss 27 = .ok (.goto 4, 3) := by decide +kernel
theorem dX0_forceMiss_30 : decode cX0_forceMiss 30 = .ok (.lconst 1, 1) := by decide +kernel
theorem dX0_forceMiss_31 : decode cX0_forceMiss 31 = .ok (.invokestatic 69, 3) := by decide +kernel
theorem dX0_forceMiss_34 : decode cX0_forceMiss 34 = .ok (.return_, 1) := by decide +kernel
theorem dX0_forceNotice_0 : decode cX0_forceNotice 0 = .ok (.aload_n 0, 1) := by decide +kernel
theorem dX0_forceNotice_1 : decode cX0_forceNotice 1 = .ok (.getfield 18, 3) := by decide +kernel
theorem dX0_forceNotice_4 : decode cX0_forceNotice 4 = .ok (.iload_n 1, 1) := by decide +kernel
theorem dX0_forceNotice_5 : decode cX0_forceNotice 5 = .ok (.iload_n 2, 1) := by decide +kernel
theorem dX0_forceNotice_6 : decode cX0_forceNotice 6 = .ok (.ifCond .eq 7, 3) := by decide +kernel
theorem dX0_forceNotice_9 : decode cX0_forceNotice 9 = .ok (.lconst 1, 1) := by decide +kernel
theorem dX0_forceNotice_10 : decode cX0_forceNotice 10 = .ok (.goto 4, 3) := by decide +kernel
theorem dX0_forceNotice_13 : decode cX0_forceNotice 13 = .ok (.lconst 0, 1) := by decide +kernel
theorem dX0_forceNotice_14 : decode cX0_forceNotice 14 = .ok (.invokestatic 69, 3) := by decide +kernel
theorem dX0_forceNotice_17 : decode cX0_forceNotice 17 = .ok (.aload_n 0, 1) := by decide +kernel
theorem dX0_forceNotice_18 : decode cX0_forceNotice 18 = .ok (.getfield 21, 3) := by decide +kernel
theorem dX0_forceNotice_21 : decode cX0_forceNotice 21 = .ok (.iload_n 1, 1) := by decide +kernel
theorem dX0_forceNotice_22 : decode cX0_forceNotice 22 = .ok (.iload_n 2, 1) := by decide +kernel
theorem dX0_forceNotice_23 : decode cX0_forceNotice 23 = .ok (.ifCond .eq 7, 3) := by decide +kernel
theorem dX0_forceNotice_26 : decode cX0_forceNotice 26 = .ok (.lconst 0, 1) := by decide +kernel
theorem dX0_forceNotice_27 : decode cX0_forceNotice 27 = .ok (.goto 4, 3) := by decide +kernel
theorem dX0_forceNotice_30 : decode cX0_forceNotice 30 = .ok (.lconst 1, 1) := by decide +kernel
theorem dX0_forceNotice_31 : decode cX0_forceNotice 31 = .ok (.invokestatic 69, 3) := by decide +kernel
theorem dX0_forceNotice_34 : decode cX0_forceNotice 34 = .ok (.return_, 1) := by decide +kernel
theorem dX0_sumBehind_0 : decode cX0_sumBehind 0 = .ok (.aload_n 0, 1) := by decide +kernel
theorem dX0_sumBehind_1 : decode cX0_sumBehind 1 = .ok (.getfield 24, 3) := by decide +kernel
theorem dX0_sumBehind_4 : decode cX0_sumBehind 4 = .ok (.aload_n 0, 1) := by decide +kernel
theorem dX0_sumBehind_5 : decode cX0_sumBehind 5 = .ok (.getfield 51, 3) := by decide +kernel
theorem dX0_sumBehind_8 : decode cX0_sumBehind 8 = .ok (.lconst 1, 1) := by decide +kernel
theorem dX0_sumBehind_9 : decode cX0_sumBehind 9 = .ok (.invokestatic 69, 3) := by decide +kernel
theorem dX0_sumBehind_12 : decode cX0_sumBehind 12 = .ok (.aload_n 0, 1) := by decide +kernel
theorem dX0_sumBehind_13 : decode cX0_sumBehind 13 = .ok (.getfield 51, 3) := by decide +kernel
theorem dX0_sumBehind_16 : decode cX0_sumBehind 16 = .ok (.istore_n 1, 1) := by decide +kernel
theorem dX0_sumBehind_17 : decode cX0_sumBehind 17 = .ok (.iload_n 1, 1) := by decide +kernel
theorem dX0_sumBehind_18 : decode cX0_sumBehind 18 = .ok (.iconst 1, 1) := by decide +kernel
theorem dX0_sumBehind_19 : decode cX0_sumBehind 19 = .ok (.if_icmp .lt 53, 3) := by decide +kernel
theorem dX0_sumBehind_22 : decode cX0_sumBehind 22 = .ok (.aload_n 0, 1) := by decide +kernel
theorem dX0_sumBehind_23 : decode cX0_sumBehind 23 = .ok (.getfield 11, 3) := by decide +kernel
theorem dX0_sumBehind_26 : decode cX0_sumBehind 26 = .ok (.iload_n 1, 1) := by decide +kernel
theorem dX0_sumBehind_27 : decode cX0_sumBehind 27 = .ok (.laload, 1) := by decide +kernel
theorem dX0_sumBehind_28 : decode cX0_sumBehind 28 = .ok (.aload_n 0, 1) := by decide +kernel
theorem dX0_sumBehind_29 : decode cX0_sumBehind 29 = .ok (.getfield 15, 3) := by decide +kernel
theorem dX0_sumBehind_32 : decode cX0_sumBehind 32 = .ok (.iload_n 1, 1) := by decide +kernel
theorem dX0_sumBehind_33 : decode cX0_sumBehind 33 = .ok (.laload, 1) := by decide +kernel
theorem dX0_sumBehind_34 : decode cX0_sumBehind 34 = .ok (.ladd, 1) := by decide +kernel
theorem dX0_sumBehind_35 : decode cX0_sumBehind 35 = .ok (.aload_n 0, 1) := by decide +kernel
theorem dX0_sumBehind_36 : decode cX0_sumBehind 36 = .ok (.getfield 18, 3) := by decide +kernel
theorem dX0_sumBehind_39 : decode cX0_sumBehind 39 = .ok (.iload_n 1, 1) := by decide +kernel
theorem dX0_sumBehind_40 : decode cX0_sumBehind 40 = .ok (.laload, 1) := by decide +kernel
theorem dX0_sumBehind_41 : decode cX0_sumBehind 41 = .ok (.aload_n 0, 1) := by decide +kernel
theorem dX0_sumBehind_42 : decode cX0_sumBehind 42 = .ok (.getfield 21, 3) := by decide +kernel
theorem dX0_sumBehind_45 : decode cX0_sumBehind 45 = .ok (.iload_n 1, 1) := by decide +kernel
theorem dX0_sumBehind_46 : decode cX0_sumBehind 46 = .ok (.laload, 1) := by decide +kernel
theorem dX0_sumBehind_47 : decode cX0_sumBehind 47 = .ok (.ladd, 1) := by decide +kernel
theorem dX0_sumBehind_48 : decode cX0_sumBehind 48 = .ok (.lmul, 1) := by decide +kernel
theorem dX0_sumBehind_49 : decode cX0_sumBehind 49 = .ok (.lstore_n 2, 1) := by decide +kernel
theorem dX0_sumBehind_50 : decode cX0_sumBehind 50 = .ok (.aload_n 0, 1) := by decide +kernel
theorem dX0_sumBehind_51 : decode cX0_sumBehind 51 = .ok (.getfield 24, 3) := by decide +kernel
theorem dX0_sumBehind_54 : decode cX0_sumBehind 54 = .ok (.iload_n 1, 1) := by decide +kernel
theorem dX0_sumBehind_55 : decode cX0_sumBehind 55 = .ok (.iconst 1, 1) := by decide +kernel
theorem dX0_sumBehind_56 : decode cX0_sumBehind 56 = .ok (.isub, 1) := by decide +kernel
theorem dX0_sumBehind_57 : decode cX0_sumBehind 57 = .ok (.aload_n 0, 1) := by decide +kernel
theorem dX0_sumBehind_58 : decode cX0_sumBehind 58 = .ok (.getfield 24, 3) := by decide +kernel
theorem dX0_sumBehind_61 : decode cX0_sumBehind 61 = .ok (.iload_n 1, 1) := by decide +kernel
theorem dX0_sumBehind_62 : decode cX0_sumBehind 62 = .ok (.laload, 1) := by decide +kernel
theorem dX0_sumBehind_63 : decode cX0_sumBehind 63 = .ok (.lload_n 2, 1) := by decide +kernel
theorem dX0_sumBehind_64 : decode cX0_sumBehind 64 = .ok (.lmul, 1) := by decide +kernel
theorem dX0_sumBehind_65 : decode cX0_sumBehind 65 = .ok (.lastore, 1) := by decide +kernel
theorem dX0_sumBehind_66 : decode cX0_sumBehind 66 = .ok (.iinc 1 (-1), 3) := by decide +kernel
theorem dX0_sumBehind_69 : decode cX0_sumBehind 69 = .ok (.goto (-52), 3) := by decide +kernel
theorem dX0_sumBehind_72 : decode cX0_sumBehind 72 = .ok (.return_, 1) := by decide +kernel
theorem dX0_whole_0 : decode cX0_whole 0 = .ok (.aload_n 0, 1) := by decide +kernel
theorem dX0_whole_1 : decode cX0_whole 1 = .ok (.getfield 24, 3) := by decide +kernel
theorem dX0_whole_4 : decode cX0_whole 4 = .ok (.iconst 0, 1) := by decide +kernel
theorem dX0_whole_5 : decode cX0_whole 5 = .ok (.laload, 1) := by decide +kernel
theorem dX0_whole_6 : decode cX0_whole 6 = .ok (.lreturn, 1) := by decide +kernel
theorem dX0_start_0 : decode cX0_start 0 = .ok (.aload_n 0, 1) := by decide +kernel
theorem dX0_start_1 : decode cX0_start 1 = .ok (.getfield 27, 3) := by decide +kernel
theorem dX0_start_4 : decode cX0_start 4 = .ok (.lconst 0, 1) := by decide +kernel
theorem dX0_start_5 : decode cX0_start 5 = .ok (.invokestatic 73, 3) := by decide +kernel
theorem dX0_start_8 : decode cX0_start 8 = .ok (.aload_n 0, 1) := by decide +kernel
theorem dX0_start_9 : decode cX0_start 9 = .ok (.getfield 30, 3) := by decide +kernel
theorem dX0_start_12 : decode cX0_start 12 = .ok (.lconst 0, 1) := by decide +kernel
theorem dX0_start_13 : decode cX0_start 13 = .ok (.invokestatic 73, 3) := by decide +kernel
theorem dX0_start_16 : decode cX0_start 16 = .ok (.aload_n 0, 1) := by decide +kernel
theorem dX0_start_17 : decode cX0_start 17 = .ok (.getfield 27, 3) := by decide +kernel
theorem dX0_start_20 : decode cX0_start 20 = .ok (.iconst 0, 1) := by decide +kernel
theorem dX0_start_21 : decode cX0_start 21 = .ok (.lconst 1, 1) := by decide +kernel
theorem dX0_start_22 : decode cX0_start 22 = .ok (.lastore, 1) := by decide +kernel
theorem dX0_start_23 : decode cX0_start 23 = .ok (.return_, 1) := by decide +kernel
theorem dX0_passJoint_0 : decode cX0_passJoint 0 = .ok (.iload_n 2, 1) := by decide +kernel
theorem dX0_passJoint_1 : decode cX0_passJoint 1 = .ok (.iconst 1, 1) := by decide +kernel
theorem dX0_passJoint_2 : decode cX0_passJoint 2 = .ok (.if_icmp .lt 16, 3) := by decide +kernel
theorem dX0_passJoint_5 : decode cX0_passJoint 5 = .ok (.iload_n 2, 1) := by decide +kernel
theorem dX0_passJoint_6 : decode cX0_passJoint 6 = .ok (.bipush 11, 2) := by decide +kernel
theorem dX0_passJoint_8 : decode cX0_passJoint 8 = .ok (.if_icmp .ge 10, 3) := by decide +kernel
theorem dX0_passJoint_11 : decode cX0_passJoint 11 = .ok (.aload_n 1, 1) := by decide +kernel
theorem dX0_passJoint_12 : decode cX0_passJoint 12 = .ok (.arraylength, 1) := by decide +kernel
theorem dX0_passJoint_13 : decode cX0_passJoint 13 = .ok (.bipush 11, 2) := by decide +kernel
theorem dX0_passJoint_15 : decode cX0_passJoint 15 = .ok (.if_icmp .ge 4, 3) := by decide +kernel
theorem dX0_passJoint_18 : decode cX0_passJoint 18 = .ok (.return_, 1) := by decide +kernel
theorem dX0_passJoint_19 : decode cX0_passJoint 19 = .ok (.iload_n 2, 1) := by decide +kernel
theorem dX0_passJoint_20 : decode cX0_passJoint 20 = .ok (.iconst 1, 1) := by decide +kernel
theorem dX0_passJoint_21 : decode cX0_passJoint 21 = .ok (.isub, 1) := by decide +kernel
theorem dX0_passJoint_22 : decode cX0_passJoint 22 = .ok (.istore_n 3, 1) := by decide +kernel
theorem dX0_passJoint_23 : decode cX0_passJoint 23 = .ok (.iload_n 3, 1) := by decide +kernel
theorem dX0_passJoint_24 : decode cX0_passJoint 24 = .ok (.ifCond .lt 90, 3) := by decide +kernel
theorem dX0_passJoint_27 : decode cX0_passJoint 27 = .ok (.aload_n 1, 1) := by decide +kernel
theorem dX0_passJoint_28 : decode cX0_passJoint 28 = .ok (.iload_n 3, 1) := by decide +kernel
theorem dX0_passJoint_29 : decode cX0_passJoint 29 = .ok (.laload, 1) := by decide +kernel
theorem dX0_passJoint_30 : decode cX0_passJoint 30 = .ok (.lstore 4, 2) := by decide +kernel
theorem dX0_passJoint_32 : decode cX0_passJoint 32 = .ok (.lload 4, 2) := by decide +kernel
theorem dX0_passJoint_34 : decode cX0_passJoint 34 = .ok (.lconst 0, 1) := by decide +kernel
theorem dX0_passJoint_35 : decode cX0_passJoint 35 = .ok (.lcmp, 1) := by decide +kernel
theorem dX0_passJoint_36 : decode cX0_passJoint 36 = .ok (.ifCond .eq 72, 3) := by decide +kernel
theorem dX0_passJoint_39 : decode cX0_passJoint 39 = .ok (.lload 4, 2) := by decide +kernel
theorem dX0_passJoint_41 : decode cX0_passJoint 41 = .ok (.aload_n 0, 1) := by decide +kernel
theorem dX0_passJoint_42 : decode cX0_passJoint 42 = .ok (.getfield 21, 3) := by decide +kernel
theorem dX0_passJoint_45 : decode cX0_passJoint 45 = .ok (.iload_n 2, 1) := by decide +kernel
theorem dX0_passJoint_46 : decode cX0_passJoint 46 = .ok (.laload, 1) := by decide +kernel
theorem dX0_passJoint_47 : decode cX0_passJoint 47 = .ok (.lmul, 1) := by decide +kernel
theorem dX0_passJoint_48 : decode cX0_passJoint 48 = .ok (.lstore 6, 2) := by decide +kernel
theorem dX0_passJoint_50 : decode cX0_passJoint 50 = .ok (.aload_n 1, 1) := by decide +kernel
theorem dX0_passJoint_51 : decode cX0_passJoint 51 = .ok (.iload_n 3, 1) := by decide +kernel
theorem dX0_passJoint_52 : decode cX0_passJoint 52 = .ok (.lload 6, 2) := by decide +kernel
theorem dX0_passJoint_54 : decode cX0_passJoint 54 = .ok (.aload_n 0, 1) := by decide +kernel
theorem dX0_passJoint_55 : decode cX0_passJoint 55 = .ok (.getfield 11, 3) := by decide +kernel
theorem dX0_passJoint_58 : decode cX0_passJoint 58 = .ok (.iload_n 2, 1) := by decide +kernel
theorem dX0_passJoint_59 : decode cX0_passJoint 59 = .ok (.laload, 1) := by decide +kernel
theorem dX0_passJoint_60 : decode cX0_passJoint 60 = .ok (.lmul, 1) := by decide +kernel
theorem dX0_passJoint_61 : decode cX0_passJoint 61 = .ok (.lastore, 1) := by decide +kernel
theorem dX0_passJoint_62 : decode cX0_passJoint 62 = .ok (.aload_n 1, 1) := by decide +kernel
theorem dX0_passJoint_63 : decode cX0_passJoint 63 = .ok (.iload_n 3, 1) := by decide +kernel
theorem dX0_passJoint_64 : decode cX0_passJoint 64 = .ok (.iconst 1, 1) := by decide +kernel
theorem dX0_passJoint_65 : decode cX0_passJoint 65 = .ok (.iadd, 1) := by decide +kernel
theorem dX0_passJoint_66 : decode cX0_passJoint 66 = .ok (.dup2, 1) := by decide +kernel
theorem dX0_passJoint_67 : decode cX0_passJoint 67 = .ok (.laload, 1) := by decide +kernel
theorem dX0_passJoint_68 : decode cX0_passJoint 68 = .ok (.lload 6, 2) := by decide +kernel
theorem dX0_passJoint_70 : decode cX0_passJoint 70 = .ok (.aload_n 0, 1) := by decide +kernel
theorem dX0_passJoint_71 : decode cX0_passJoint 71 = .ok (.getfield 15, 3) := by decide +kernel
theorem dX0_passJoint_74 : decode cX0_passJoint 74 = .ok (.iload_n 2, 1) := by decide +kernel
theorem dX0_passJoint_75 : decode cX0_passJoint 75 = .ok (.laload, 1) := by decide +kernel
theorem dX0_passJoint_76 : decode cX0_passJoint 76 = .ok (.lmul, 1) := by decide +kernel
theorem dX0_passJoint_77 : decode cX0_passJoint 77 = .ok (.ladd, 1) := by decide +kernel
theorem dX0_passJoint_78 : decode cX0_passJoint 78 = .ok (.lastore, 1) := by decide +kernel
theorem dX0_passJoint_79 : decode cX0_passJoint 79 = .ok (.aload_n 1, 1) := by decide +kernel
theorem dX0_passJoint_80 : decode cX0_passJoint 80 = .ok (.iload_n 2, 1) := by decide +kernel
theorem dX0_passJoint_81 : decode cX0_passJoint 81 = .ok (.dup2, 1) := by decide +kernel
theorem dX0_passJoint_82 : decode cX0_passJoint 82 = .ok (.laload, 1) := by decide +kernel
theorem dX0_passJoint_83 : decode cX0_passJoint 83 = .ok (.lload 4, 2) := by decide +kernel
theorem dX0_passJoint_85 : decode cX0_passJoint 85 = .ok (.aload_n 0, 1) := by decide +kernel
theorem dX0_passJoint_86 : decode cX0_passJoint 86 = .ok (.getfield 18, 3) := by decide +kernel
theorem dX0_passJoint_89 : decode cX0_passJoint 89 = .ok (.iload_n 2, 1) := by decide +kernel
theorem dX0_passJoint_90 : decode cX0_passJoint 90 = .ok (.laload, 1) := by decide +kernel
theorem dX0_passJoint_91 : decode cX0_passJoint 91 = .ok (.lmul, 1) := by decide +kernel
theorem dX0_passJoint_92 : decode cX0_passJoint 92 = .ok (.aload_n 0, 1) := by decide +kernel
theorem dX0_passJoint_93 : decode cX0_passJoint 93 = .ok (.getfield 11, 3) := by decide +kernel
theorem dX0_passJoint_96 : decode cX0_passJoint 96 = .ok (.iload_n 2, 1) := by decide +kernel
theorem dX0_passJoint_97 : decode cX0_passJoint 97 = .ok (.laload, 1) := by decide +kernel
theorem dX0_passJoint_98 : decode cX0_passJoint 98 = .ok (.aload_n 0, 1) := by decide +kernel
theorem dX0_passJoint_99 : decode cX0_passJoint 99 = .ok (.getfield 15, 3) := by decide +kernel
theorem dX0_passJoint_102 : decode cX0_passJoint 102 = .ok (.iload_n 2, 1) := by decide +kernel
theorem dX0_passJoint_103 : decode cX0_passJoint 103 = .ok (.laload, 1) := by decide +kernel
theorem dX0_passJoint_104 : decode cX0_passJoint 104 = .ok (.ladd, 1) := by decide +kernel
theorem dX0_passJoint_105 : decode cX0_passJoint 105 = .ok (.lmul, 1) := by decide +kernel
theorem dX0_passJoint_106 : decode cX0_passJoint 106 = .ok (.ladd, 1) := by decide +kernel
theorem dX0_passJoint_107 : decode cX0_passJoint 107 = .ok (.lastore, 1) := by decide +kernel
theorem dX0_passJoint_108 : decode cX0_passJoint 108 = .ok (.iinc 3 (-1), 3) := by decide +kernel
theorem dX0_passJoint_111 : decode cX0_passJoint 111 = .ok (.goto (-88), 3) := by decide +kernel
theorem dX0_passJoint_114 : decode cX0_passJoint 114 = .ok (.return_, 1) := by decide +kernel
theorem dX0_passCounting_0 : decode cX0_passCounting 0 = .ok (.aload_n 0, 1) := by decide +kernel
theorem dX0_passCounting_1 : decode cX0_passCounting 1 = .ok (.invokevirtual 79, 3) := by decide +kernel
theorem dX0_passCounting_4 : decode cX0_passCounting 4 = .ok (.iconst 1, 1) := by decide +kernel
theorem dX0_passCounting_5 : decode cX0_passCounting 5 = .ok (.istore_n 2, 1) := by decide +kernel
theorem dX0_passCounting_6 : decode cX0_passCounting 6 = .ok (.iload_n 2, 1) := by decide +kernel
theorem dX0_passCounting_7 : decode cX0_passCounting 7 = .ok (.iload_n 1, 1) := by decide +kernel
theorem dX0_passCounting_8 : decode cX0_passCounting 8 = .ok (.if_icmp .gt 26, 3) := by decide +kernel
theorem dX0_passCounting_11 : decode cX0_passCounting 11 = .ok (.iload_n 2, 1) := by decide +kernel
theorem dX0_passCounting_12 : decode cX0_passCounting 12 = .ok (.aload_n 0, 1) := by decide +kernel
theorem dX0_passCounting_13 : decode cX0_passCounting 13 = .ok (.getfield 51, 3) := by decide +kernel
theorem dX0_passCounting_16 : decode cX0_passCounting 16 = .ok (.if_icmp .gt 18, 3) := by decide +kernel
theorem dX0_passCounting_19 : decode cX0_passCounting 19 = .ok (.aload_n 0, 1) := by decide +kernel
theorem dX0_passCounting_20 : decode cX0_passCounting 20 = .ok (.aload_n 0, 1) := by decide +kernel
theorem dX0_passCounting_21 : decode cX0_passCounting 21 = .ok (.getfield 27, 3) := by decide +kernel
theorem dX0_passCounting_24 : decode cX0_passCounting 24 = .ok (.iload_n 2, 1) := by decide +kernel
theorem dX0_passCounting_25 : decode cX0_passCounting 25 = .ok (.invokevirtual 82, 3) := by decide +kernel
theorem dX0_passCounting_28 : decode cX0_passCounting 28 = .ok (.iinc 2 1, 3) := by decide +kernel
theorem dX0_passCounting_31 : decode cX0_passCounting 31 = .ok (.goto (-25), 3) := by decide +kernel
theorem dX0_passCounting_34 : decode cX0_passCounting 34 = .ok (.return_, 1) := by decide +kernel
theorem dX0_ofCount_0 : decode cX0_ofCount 0 = .ok (.aload_n 0, 1) := by decide +kernel
theorem dX0_ofCount_1 : decode cX0_ofCount 1 = .ok (.getfield 27, 3) := by decide +kernel
theorem dX0_ofCount_4 : decode cX0_ofCount 4 = .ok (.iload_n 2, 1) := by decide +kernel
theorem dX0_ofCount_5 : decode cX0_ofCount 5 = .ok (.invokestatic 86, 3) := by decide +kernel
theorem dX0_ofCount_8 : decode cX0_ofCount 8 = .ok (.aload_n 0, 1) := by decide +kernel
theorem dX0_ofCount_9 : decode cX0_ofCount 9 = .ok (.getfield 24, 3) := by decide +kernel
theorem dX0_ofCount_12 : decode cX0_ofCount 12 = .ok (.iload_n 1, 1) := by decide +kernel
theorem dX0_ofCount_13 : decode cX0_ofCount 13 = .ok (.invokestatic 86, 3) := by decide +kernel
theorem dX0_ofCount_16 : decode cX0_ofCount 16 = .ok (.lmul, 1) := by decide +kernel
theorem dX0_ofCount_17 : decode cX0_ofCount 17 = .ok (.lreturn, 1) := by decide +kernel
theorem dX0_passAsSeen_0 : decode cX0_passAsSeen 0 = .ok (.aload_n 0, 1) := by decide +kernel
theorem dX0_passAsSeen_1 : decode cX0_passAsSeen 1 = .ok (.invokevirtual 79, 3) := by decide +kernel
theorem dX0_passAsSeen_4 : decode cX0_passAsSeen 4 = .ok (.iconst 1, 1) := by decide +kernel
theorem dX0_passAsSeen_5 : decode cX0_passAsSeen 5 = .ok (.istore_n 2, 1) := by decide +kernel
theorem dX0_passAsSeen_6 : decode cX0_passAsSeen 6 = .ok (.iload_n 2, 1) := by decide +kernel
theorem dX0_passAsSeen_7 : decode cX0_passAsSeen 7 = .ok (.aload_n 0, 1) := by decide +kernel
theorem dX0_passAsSeen_8 : decode cX0_passAsSeen 8 = .ok (.getfield 51, 3) := by decide +kernel
theorem dX0_passAsSeen_11 : decode cX0_passAsSeen 11 = .ok (.if_icmp .gt 27, 3) := by decide +kernel
theorem dX0_passAsSeen_14 : decode cX0_passAsSeen 14 = .ok (.aload_n 0, 1) := by decide +kernel
theorem dX0_passAsSeen_15 : decode cX0_passAsSeen 15 = .ok (.aload_n 0, 1) := by decide +kernel
theorem dX0_passAsSeen_16 : decode cX0_passAsSeen 16 = .ok (.getfield 27, 3) := by decide +kernel
theorem dX0_passAsSeen_19 : decode cX0_passAsSeen 19 = .ok (.iload_n 2, 1) := by decide +kernel
theorem dX0_passAsSeen_20 : decode cX0_passAsSeen 20 = .ok (.invokevirtual 82, 3) := by decide +kernel
theorem dX0_passAsSeen_23 : decode cX0_passAsSeen 23 = .ok (.aload_n 1, 1) := by decide +kernel
theorem dX0_passAsSeen_24 : decode cX0_passAsSeen 24 = .ok (.aload_n 0, 1) := by decide +kernel
theorem dX0_passAsSeen_25 : decode cX0_passAsSeen 25 = .ok (.getfield 27, 3) := by decide +kernel
theorem dX0_passAsSeen_28 : decode cX0_passAsSeen 28 = .ok (.iload_n 2, 1) := by decide +kernel
theorem dX0_passAsSeen_29 : decode cX0_passAsSeen 29 = .ok (.invokevirtual 89, 3) := by decide +kernel
theorem dX0_passAsSeen_32 : decode cX0_passAsSeen 32 = .ok (.iinc 2 1, 3) := by decide +kernel
theorem dX0_passAsSeen_35 : decode cX0_passAsSeen 35 = .ok (.goto (-29), 3) := by decide +kernel
theorem dX0_passAsSeen_38 : decode cX0_passAsSeen 38 = .ok (.aload_n 0, 1) := by decide +kernel
theorem dX0_passAsSeen_39 : decode cX0_passAsSeen 39 = .ok (.getfield 27, 3) := by decide +kernel
theorem dX0_passAsSeen_42 : decode cX0_passAsSeen 42 = .ok (.invokestatic 94, 3) := by decide +kernel
theorem dX0_passAsSeen_45 : decode cX0_passAsSeen 45 = .ok (.lreturn, 1) := by decide +kernel
theorem dX0_passWithNet_0 : decode cX0_passWithNet 0 = .ok (.aload_n 0, 1) := by decide +kernel
theorem dX0_passWithNet_1 : decode cX0_passWithNet 1 = .ok (.invokevirtual 79, 3) := by decide +kernel
theorem dX0_passWithNet_4 : decode cX0_passWithNet 4 = .ok (.iconst 1, 1) := by decide +kernel
theorem dX0_passWithNet_5 : decode cX0_passWithNet 5 = .ok (.istore 4, 2) := by decide +kernel
theorem dX0_passWithNet_7 : decode cX0_passWithNet 7 = .ok (.iload 4, 2) := by decide +kernel
theorem dX0_passWithNet_9 : decode cX0_passWithNet 9 = .ok (.aload_n 0, 1) := by decide +kernel
theorem dX0_passWithNet_10 : decode cX0_passWithNet 10 = .ok (.getfield 51, 3) := by decide +kernel
theorem dX0_passWithNet_13 : decode cX0_passWithNet 13 = .ok (.if_icmp .gt 98, 3) := by decide +kernel
theorem dX0_passWithNet_16 : decode cX0_passWithNet 16 = .ok (.aload_n 0, 1) := by decide +kernel
theorem dX0_passWithNet_17 : decode cX0_passWithNet 17 = .ok (.aload_n 0, 1) := by decide +kernel
theorem dX0_passWithNet_18 : decode cX0_passWithNet 18 = .ok (.getfield 27, 3) := by decide +kernel
theorem dX0_passWithNet_21 : decode cX0_passWithNet 21 = .ok (.iload 4, 2) := by decide +kernel
theorem dX0_passWithNet_23 : decode cX0_passWithNet 23 = .ok (.invokevirtual 82, 3) := by decide +kernel
theorem dX0_passWithNet_26 : decode cX0_passWithNet 26 = .ok (.aload_n 0, 1) := by decide +kernel
theorem dX0_passWithNet_27 : decode cX0_passWithNet 27 = .ok (.aload_n 0, 1) := by decide +kernel
theorem dX0_passWithNet_28 : decode cX0_passWithNet 28 = .ok (.getfield 30, 3) := by decide +kernel
theorem dX0_passWithNet_31 : decode cX0_passWithNet 31 = .ok (.iload 4, 2) := by decide +kernel
theorem dX0_passWithNet_33 : decode cX0_passWithNet 33 = .ok (.invokevirtual 82, 3) := by decide +kernel
theorem dX0_passWithNet_36 : decode cX0_passWithNet 36 = .ok (.aload_n 0, 1) := by decide +kernel
theorem dX0_passWithNet_37 : decode cX0_passWithNet 37 = .ok (.iload_n 2, 1) := by decide +kernel
theorem dX0_passWithNet_38 : decode cX0_passWithNet 38 = .ok (.invokevirtual 98, 3) := by decide +kernel
theorem dX0_passWithNet_41 : decode cX0_passWithNet 41 = .ok (.aload_n 0, 1) := by decide +kernel
theorem dX0_passWithNet_42 : decode cX0_passWithNet 42 = .ok (.getfield 33, 3) := by decide +kernel
theorem dX0_passWithNet_45 : decode cX0_passWithNet 45 = .ok (.iload 4, 2) := by decide +kernel
theorem dX0_passWithNet_47 : decode cX0_passWithNet 47 = .ok (.aload_n 0, 1) := by decide +kernel
theorem dX0_passWithNet_48 : decode cX0_passWithNet 48 = .ok (.iload_n 1, 1) := by decide +kernel
theorem dX0_passWithNet_49 : decode cX0_passWithNet 49 = .ok (.invokevirtual 102, 3) := by decide +kernel
theorem dX0_passWithNet_52 : decode cX0_passWithNet 52 = .ok (.aload_n 0, 1) := by decide +kernel
theorem dX0_passWithNet_53 : decode cX0_passWithNet 53 = .ok (.getfield 24, 3) := by decide +kernel
theorem dX0_passWithNet_56 : decode cX0_passWithNet 56 = .ok (.iload 4, 2) := by decide +kernel
theorem dX0_passWithNet_58 : decode cX0_passWithNet 58 = .ok (.invokestatic 86, 3) := by decide +kernel
theorem dX0_passWithNet_61 : decode cX0_passWithNet 61 = .ok (.lmul, 1) := by decide +kernel
theorem dX0_passWithNet_62 : decode cX0_passWithNet 62 = .ok (.invokestatic 69, 3) := by decide +kernel
theorem dX0_passWithNet_65 : decode cX0_passWithNet 65 = .ok (.aload_n 0, 1) := by decide +kernel
theorem dX0_passWithNet_66 : decode cX0_passWithNet 66 = .ok (.getfield 36, 3) := by decide +kernel
theorem dX0_passWithNet_69 : decode cX0_passWithNet 69 = .ok (.iload 4, 2) := by decide +kernel
theorem dX0_passWithNet_71 : decode cX0_passWithNet 71 = .ok (.aload_n 0, 1) := by decide +kernel
theorem dX0_passWithNet_72 : decode cX0_passWithNet 72 = .ok (.getfield 30, 3) := by decide +kernel
theorem dX0_passWithNet_75 : decode cX0_passWithNet 75 = .ok (.invokestatic 94, 3) := by decide +kernel
theorem dX0_passWithNet_78 : decode cX0_passWithNet 78 = .ok (.aload_n 0, 1) := by decide +kernel
theorem dX0_passWithNet_79 : decode cX0_passWithNet 79 = .ok (.getfield 24, 3) := by decide +kernel
theorem dX0_passWithNet_82 : decode cX0_passWithNet 82 = .ok (.iload 4, 2) := by decide +kernel
theorem dX0_passWithNet_84 : decode cX0_passWithNet 84 = .ok (.invokestatic 86, 3) := by decide +kernel
theorem dX0_passWithNet_87 : decode cX0_passWithNet 87 = .ok (.lmul, 1) := by decide +kernel
theorem dX0_passWithNet_88 : decode cX0_passWithNet 88 = .ok (.invokestatic 69, 3) := by decide +kernel
theorem dX0_passWithNet_91 : decode cX0_passWithNet 91 = .ok (.iload 4, 2) := by decide +kernel
theorem dX0_passWithNet_93 : decode cX0_passWithNet 93 = .ok (.iload_n 3, 1) := by decide +kernel
theorem dX0_passWithNet_94 : decode cX0_passWithNet 94 = .ok (.if_icmp .ne 11, 3) := by decide +kernel
theorem dX0_passWithNet_97 : decode cX0_passWithNet 97 = .ok (.aload_n 0, 1) := by decide +kernel
theorem dX0_passWithNet_98 : decode cX0_passWithNet 98 = .ok (.getfield 30, 3) := by decide +kernel
theorem dX0_passWithNet_101 : decode cX0_passWithNet 101 = .ok (.lconst 0, 1) := by decide +kernel
theorem dX0_passWithNet_102 : decode cX0_passWithNet 102 = .ok (.invokestatic 73, 3) := by decide +kernel
theorem dX0_passWithNet_105 : decode cX0_passWithNet 105 = .ok (.iinc 4 1, 3) := by decide +kernel
theorem dX0_passWithNet_108 : decode cX0_passWithNet 108 = .ok (.goto (-101), 3) := by decide +kernel
theorem dX0_passWithNet_111 : decode cX0_passWithNet 111 = .ok (.return_, 1) := by decide +kernel
theorem dX0_takeIn_0 : decode cX0_takeIn 0 = .ok (.iload_n 1, 1) := by decide +kernel
theorem dX0_takeIn_1 : decode cX0_takeIn 1 = .ok (.iconst 0, 1) := by decide +kernel
theorem dX0_takeIn_2 : decode cX0_takeIn 2 = .ok (.invokestatic 106, 3) := by decide +kernel
theorem dX0_takeIn_5 : decode cX0_takeIn 5 = .ok (.istore_n 2, 1) := by decide +kernel
theorem dX0_takeIn_6 : decode cX0_takeIn 6 = .ok (.iload_n 2, 1) := by decide +kernel
theorem dX0_takeIn_7 : decode cX0_takeIn 7 = .ok (.aload_n 0, 1) := by decide +kernel
theorem dX0_takeIn_8 : decode cX0_takeIn 8 = .ok (.getfield 30, 3) := by decide +kernel
theorem dX0_takeIn_11 : decode cX0_takeIn 11 = .ok (.arraylength, 1) := by decide +kernel
theorem dX0_takeIn_12 : decode cX0_takeIn 12 = .ok (.if_icmp .ge 16, 3) := by decide +kernel
theorem dX0_takeIn_15 : decode cX0_takeIn 15 = .ok (.aload_n 0, 1) := by decide +kernel
theorem dX0_takeIn_16 : decode cX0_takeIn 16 = .ok (.getfield 30, 3) := by decide +kernel
theorem dX0_takeIn_19 : decode cX0_takeIn 19 = .ok (.iload_n 2, 1) := by decide +kernel
theorem dX0_takeIn_20 : decode cX0_takeIn 20 = .ok (.lconst 0, 1) := by decide +kernel
theorem dX0_takeIn_21 : decode cX0_takeIn 21 = .ok (.lastore, 1) := by decide +kernel
theorem dX0_takeIn_22 : decode cX0_takeIn 22 = .ok (.iinc 2 1, 3) := by decide +kernel
theorem dX0_takeIn_25 : decode cX0_takeIn 25 = .ok (.goto (-19), 3) := by decide +kernel
theorem dX0_takeIn_28 : decode cX0_takeIn 28 = .ok (.return_, 1) := by decide +kernel
theorem dX0_putOut_0 : decode cX0_putOut 0 = .ok (.lconst 0, 1) := by decide +kernel
theorem dX0_putOut_1 : decode cX0_putOut 1 = .ok (.lstore_n 2, 1) := by decide +kernel
theorem dX0_putOut_2 : decode cX0_putOut 2 = .ok (.iload_n 1, 1) := by decide +kernel
theorem dX0_putOut_3 : decode cX0_putOut 3 = .ok (.iconst 0, 1) := by decide +kernel
theorem dX0_putOut_4 : decode cX0_putOut 4 = .ok (.invokestatic 106, 3) := by decide +kernel
theorem dX0_putOut_7 : decode cX0_putOut 7 = .ok (.istore 4, 2) := by decide +kernel
theorem dX0_putOut_9 : decode cX0_putOut 9 = .ok (.iload 4, 2) := by decide +kernel
theorem dX0_putOut_11 : decode cX0_putOut 11 = .ok (.aload_n 0, 1) := by decide +kernel
theorem dX0_putOut_12 : decode cX0_putOut 12 = .ok (.getfield 27, 3) := by decide +kernel
theorem dX0_putOut_15 : decode cX0_putOut 15 = .ok (.arraylength, 1) := by decide +kernel
theorem dX0_putOut_16 : decode cX0_putOut 16 = .ok (.if_icmp .ge 54, 3) := by decide +kernel
theorem dX0_putOut_19 : decode cX0_putOut 19 = .ok (.iload 4, 2) := by decide +kernel
theorem dX0_putOut_21 : decode cX0_putOut 21 = .ok (.aload_n 0, 1) := by decide +kernel
theorem dX0_putOut_22 : decode cX0_putOut 22 = .ok (.getfield 30, 3) := by decide +kernel
theorem dX0_putOut_25 : decode cX0_putOut 25 = .ok (.arraylength, 1) := by decide +kernel
theorem dX0_putOut_26 : decode cX0_putOut 26 = .ok (.if_icmp .ge 44, 3) := by decide +kernel
theorem dX0_putOut_29 : decode cX0_putOut 29 = .ok (.lload_n 2, 1) := by decide +kernel
theorem dX0_putOut_30 : decode cX0_putOut 30 = .ok (.aload_n 0, 1) := by decide +kernel
theorem dX0_putOut_31 : decode cX0_putOut 31 = .ok (.getfield 27, 3) := by decide +kernel
theorem dX0_putOut_34 : decode cX0_putOut 34 = .ok (.iload 4, 2) := by decide +kernel
theorem dX0_putOut_36 : decode cX0_putOut 36 = .ok (.laload, 1) := by decide +kernel
theorem dX0_putOut_37 : decode cX0_putOut 37 = .ok (.ladd, 1) := by decide +kernel
theorem dX0_putOut_38 : decode cX0_putOut 38 = .ok (.lstore_n 2, 1) := by decide +kernel
theorem dX0_putOut_39 : decode cX0_putOut 39 = .ok (.aload_n 0, 1) := by decide +kernel
theorem dX0_putOut_40 : decode cX0_putOut 40 = .ok (.getfield 30, 3) := by decide +kernel
theorem dX0_putOut_43 : decode cX0_putOut 43 = .ok (.iload 4, 2) := by decide +kernel
theorem dX0_putOut_45 : decode cX0_putOut 45 = .ok (.dup2, 1) := by decide +kernel
theorem dX0_putOut_46 : decode cX0_putOut 46 = .ok (.laload, 1) := by decide +kernel
theorem dX0_putOut_47 : decode cX0_putOut 47 = .ok (.aload_n 0, 1) := by decide +kernel
theorem dX0_putOut_48 : decode cX0_putOut 48 = .ok (.getfield 27, 3) := by decide +kernel
theorem dX0_putOut_51 : decode cX0_putOut 51 = .ok (.iload 4, 2) := by decide +kernel
theorem dX0_putOut_53 : decode cX0_putOut 53 = .ok (.laload, 1) := by decide +kernel
theorem dX0_putOut_54 : decode cX0_putOut 54 = .ok (.ladd, 1) := by decide +kernel
theorem dX0_putOut_55 : decode cX0_putOut 55 = .ok (.lastore, 1) := by decide +kernel
theorem dX0_putOut_56 : decode cX0_putOut 56 = .ok (.aload_n 0, 1) := by decide +kernel
theorem dX0_putOut_57 : decode cX0_putOut 57 = .ok (.getfield 27, 3) := by decide +kernel
theorem dX0_putOut_60 : decode cX0_putOut 60 = .ok (.iload 4, 2) := by decide +kernel
theorem dX0_putOut_62 : decode cX0_putOut 62 = .ok (.lconst 0, 1) := by decide +kernel
theorem dX0_putOut_63 : decode cX0_putOut 63 = .ok (.lastore, 1) := by decide +kernel
theorem dX0_putOut_64 : decode cX0_putOut 64 = .ok (.iinc 4 1, 3) := by decide +kernel
theorem dX0_putOut_67 : decode cX0_putOut 67 = .ok (.goto (-58), 3) := by decide +kernel
theorem dX0_putOut_70 : decode cX0_putOut 70 = .ok (.lload_n 2, 1) := by decide +kernel
theorem dX0_putOut_71 : decode cX0_putOut 71 = .ok (.lreturn, 1) := by decide +kernel
theorem dX0_sumOf_0 : decode cX0_sumOf 0 = .ok (.lconst 0, 1) := by decide +kernel
theorem dX0_sumOf_1 : decode cX0_sumOf 1 = .ok (.lstore_n 1, 1) := by decide +kernel
theorem dX0_sumOf_2 : decode cX0_sumOf 2 = .ok (.iconst 0, 1) := by decide +kernel
theorem dX0_sumOf_3 : decode cX0_sumOf 3 = .ok (.istore_n 3, 1) := by decide +kernel
theorem dX0_sumOf_4 : decode cX0_sumOf 4 = .ok (.iload_n 3, 1) := by decide +kernel
theorem dX0_sumOf_5 : decode cX0_sumOf 5 = .ok (.aload_n 0, 1) := by decide +kernel
theorem dX0_sumOf_6 : decode cX0_sumOf 6 = .ok (.arraylength, 1) := by decide +kernel
theorem dX0_sumOf_7 : decode cX0_sumOf 7 = .ok (.if_icmp .ge 15, 3) := by decide +kernel
theorem dX0_sumOf_10 : decode cX0_sumOf 10 = .ok (.lload_n 1, 1) := by decide +kernel
theorem dX0_sumOf_11 : decode cX0_sumOf 11 = .ok (.aload_n 0, 1) := by decide +kernel
theorem dX0_sumOf_12 : decode cX0_sumOf 12 = .ok (.iload_n 3, 1) := by decide +kernel
theorem dX0_sumOf_13 : decode cX0_sumOf 13 = .ok (.laload, 1) := by decide +kernel
theorem dX0_sumOf_14 : decode cX0_sumOf 14 = .ok (.ladd, 1) := by decide +kernel
theorem dX0_sumOf_15 : decode cX0_sumOf 15 = .ok (.lstore_n 1, 1) := by decide +kernel
theorem dX0_sumOf_16 : decode cX0_sumOf 16 = .ok (.iinc 3 1, 3) := by decide +kernel
theorem dX0_sumOf_19 : decode cX0_sumOf 19 = .ok (.goto (-15), 3) := by decide +kernel
theorem dX0_sumOf_22 : decode cX0_sumOf 22 = .ok (.lload_n 1, 1) := by decide +kernel
theorem dX0_sumOf_23 : decode cX0_sumOf 23 = .ok (.lreturn, 1) := by decide +kernel
theorem dX1_init_0 : decode cX1_init 0 = .ok (.aload_n 0, 1) := by decide +kernel
theorem dX1_init_1 : decode cX1_init 1 = .ok (.invokespecial 3, 3) := by decide +kernel
theorem dX1_init_4 : decode cX1_init 4 = .ok (.return_, 1) := by decide +kernel
theorem dX1_go_0 : decode cX1_go 0 = .ok (.aload_n 0, 1) := by decide +kernel
theorem dX1_go_1 : decode cX1_go 1 = .ok (.bipush (-4), 2) := by decide +kernel
theorem dX1_go_3 : decode cX1_go 3 = .ok (.putfield 9, 3) := by decide +kernel
theorem dX1_go_6 : decode cX1_go 6 = .ok (.aload_n 0, 1) := by decide +kernel
theorem dX1_go_7 : decode cX1_go 7 = .ok (.bipush (-4), 2) := by decide +kernel
theorem dX1_go_9 : decode cX1_go 9 = .ok (.putfield 15, 3) := by decide +kernel
theorem dX1_go_12 : decode cX1_go 12 = .ok (.aload_n 0, 1) := by decide +kernel
theorem dX1_go_13 : decode cX1_go 13 = .ok (.iconst 0, 1) := by decide +kernel
theorem dX1_go_14 : decode cX1_go 14 = .ok (.putfield 18, 3) := by decide +kernel
theorem dX1_go_17 : decode cX1_go 17 = .ok (.aload_n 0, 1) := by decide +kernel
theorem dX1_go_18 : decode cX1_go 18 = .ok (.iconst 0, 1) := by decide +kernel
theorem dX1_go_19 : decode cX1_go 19 = .ok (.putfield 21, 3) := by decide +kernel
theorem dX1_go_22 : decode cX1_go 22 = .ok (.aload_n 0, 1) := by decide +kernel
theorem dX1_go_23 : decode cX1_go 23 = .ok (.iconst 0, 1) := by decide +kernel
theorem dX1_go_24 : decode cX1_go 24 = .ok (.putfield 24, 3) := by decide +kernel
theorem dX1_go_27 : decode cX1_go 27 = .ok (.aload_n 0, 1) := by decide +kernel
theorem dX1_go_28 : decode cX1_go 28 = .ok (.iconst 0, 1) := by decide +kernel
theorem dX1_go_29 : decode cX1_go 29 = .ok (.putfield 27, 3) := by decide +kernel
theorem dX1_go_32 : decode cX1_go 32 = .ok (.iconst 0, 1) := by decide +kernel
theorem dX1_go_33 : decode cX1_go 33 = .ok (.istore 4, 2) := by decide +kernel
theorem dX1_go_35 : decode cX1_go 35 = .ok (.iconst 1, 1) := by decide +kernel
theorem dX1_go_36 : decode cX1_go 36 = .ok (.istore 5, 2) := by decide +kernel
theorem dX1_go_38 : decode cX1_go 38 = .ok (.iload 5, 2) := by decide +kernel
theorem dX1_go_40 : decode cX1_go 40 = .ok (.aload_n 1, 1) := by decide +kernel
theorem dX1_go_41 : decode cX1_go 41 = .ok (.iconst 0, 1) := by decide +kernel
theorem dX1_go_42 : decode cX1_go 42 = .ok (.invokevirtual 30, 3) := by decide +kernel
theorem dX1_go_45 : decode cX1_go 45 = .ok (.if_icmp .gt 112, 3) := by decide +kernel
theorem dX1_go_48 : decode cX1_go 48 = .ok (.aload_n 0, 1) := by decide +kernel
theorem dX1_go_49 : decode cX1_go 49 = .ok (.aload_n 1, 1) := by decide +kernel
theorem dX1_go_50 : decode cX1_go 50 = .ok (.iload 5, 2) := by decide +kernel
theorem dX1_go_52 : decode cX1_go 52 = .ok (.aload_n 0, 1) := by decide +kernel
theorem dX1_go_53 : decode cX1_go 53 = .ok (.getfield 27, 3) := by decide +kernel
theorem dX1_go_56 : decode cX1_go 56 = .ok (.iload_n 2, 1) := by decide +kernel
theorem dX1_go_57 : decode cX1_go 57 = .ok (.iload_n 3, 1) := by decide +kernel
theorem dX1_go_58 : decode cX1_go 58 = .ok (.invokevirtual 36, 3) := by decide +kernel
theorem dX1_go_61 : decode cX1_go 61 = .ok (.putfield 27, 3) := by decide +kernel
theorem dX1_go_64 : decode cX1_go 64 = .ok (.aload_n 0, 1) := by decide +kernel
theorem dX1_go_65 : decode cX1_go 65 = .ok (.getfield 9, 3) := by decide +kernel
theorem dX1_go_68 : decode cX1_go 68 = .ok (.bipush (-4), 2) := by decide +kernel
theorem dX1_go_70 : decode cX1_go 70 = .ok (.if_icmp .ne 28, 3) := by decide +kernel
theorem dX1_go_73 : decode cX1_go 73 = .ok (.aload_n 0, 1) := by decide +kernel
theorem dX1_go_74 : decode cX1_go 74 = .ok (.getfield 27, 3) := by decide +kernel
theorem dX1_go_77 : decode cX1_go 77 = .ok (.aload_n 1, 1) := by decide +kernel
theorem dX1_go_78 : decode cX1_go 78 = .ok (.bipush 8, 2) := by decide +kernel
theorem dX1_go_80 : decode cX1_go 80 = .ok (.invokevirtual 30, 3) := by decide +kernel
theorem dX1_go_83 : decode cX1_go 83 = .ok (.if_icmp .lt 15, 3) := by decide +kernel
theorem dX1_go_86 : decode cX1_go 86 = .ok (.aload_n 0, 1) := by decide +kernel
theorem dX1_go_87 : decode cX1_go 87 = .ok (.iload 5, 2) := by decide +kernel
theorem dX1_go_89 : decode cX1_go 89 = .ok (.putfield 9, 3) := by decide +kernel
theorem dX1_go_92 : decode cX1_go 92 = .ok (.iconst 1, 1) := by decide +kernel
theorem dX1_go_93 : decode cX1_go 93 = .ok (.istore 4, 2) := by decide +kernel
theorem dX1_go_95 : decode cX1_go 95 = .ok (.goto 30, 3) := by decide +kernel
theorem dX1_go_98 : decode cX1_go 98 = .ok (.iload 4, 2) := by decide +kernel
theorem dX1_go_100 : decode cX1_go 100 = .ok (.ifCond .eq 25, 3) := by decide +kernel
theorem dX1_go_103 : decode cX1_go 103 = .ok (.aload_n 0, 1) := by decide +kernel
theorem dX1_go_104 : decode cX1_go 104 = .ok (.getfield 27, 3) := by decide +kernel
theorem dX1_go_107 : decode cX1_go 107 = .ok (.aload_n 1, 1) := by decide +kernel
theorem dX1_go_108 : decode cX1_go 108 = .ok (.bipush 9, 2) := by decide +kernel
theorem dX1_go_110 : decode cX1_go 110 = .ok (.invokevirtual 30, 3) := by decide +kernel
theorem dX1_go_113 : decode cX1_go 113 = .ok (.if_icmp .lt 12, 3) := by decide +kernel
theorem dX1_go_116 : decode cX1_go 116 = .ok (.aload_n 0, 1) := by decide +kernel
theorem dX1_go_117 : decode cX1_go 117 = .ok (.iload 5, 2) := by decide +kernel
theorem dX1_go_119 : decode cX1_go 119 = .ok (.putfield 15, 3) := by decide +kernel
theorem dX1_go_122 : decode cX1_go 122 = .ok (.iconst 0, 1) := by decide +kernel
theorem dX1_go_123 : decode cX1_go 123 = .ok (.istore 4, 2) := by decide +kernel
theorem dX1_go_125 : decode cX1_go 125 = .ok (.iload 4, 2) := by decide +kernel
theorem dX1_go_127 : decode cX1_go 127 = .ok (.ifCond .eq 24, 3) := by decide +kernel
theorem dX1_go_130 : decode cX1_go 130 = .ok (.aload_n 0, 1) := by decide +kernel
theorem dX1_go_131 : decode cX1_go 131 = .ok (.aload_n 1, 1) := by decide +kernel
theorem dX1_go_132 : decode cX1_go 132 = .ok (.iload 5, 2) := by decide +kernel
theorem dX1_go_134 : decode cX1_go 134 = .ok (.invokevirtual 40, 3) := by decide +kernel
theorem dX1_go_137 : decode cX1_go 137 = .ok (.aload_n 0, 1) := by decide +kernel
theorem dX1_go_138 : decode cX1_go 138 = .ok (.getfield 24, 3) := by decide +kernel
theorem dX1_go_141 : decode cX1_go 141 = .ok (.ifCond .ne 7, 3) := by decide +kernel
theorem dX1_go_144 : decode cX1_go 144 = .ok (.iconst 1, 1) := by decide +kernel
theorem dX1_go_145 : decode cX1_go 145 = .ok (.goto 4, 3) := by decide +kernel
theorem dX1_go_148 : decode cX1_go 148 = .ok (.iconst 0, 1) := by decide +kernel
theorem dX1_go_149 : decode cX1_go 149 = .ok (.istore 4, 2) := by decide +kernel
theorem dX1_go_151 : decode cX1_go 151 = .ok (.iinc 5 1, 3) := by decide +kernel
theorem dX1_go_154 : decode cX1_go 154 = .ok (.goto (-116), 3) := by decide +kernel
theorem dX1_go_157 : decode cX1_go 157 = .ok (.return_, 1) := by decide +kernel
theorem dX1_meet_0 : decode cX1_meet 0 = .ok (.aload_n 1, 1) := by decide +kernel
theorem dX1_meet_1 : decode cX1_meet 1 = .ok (.iload_n 2, 1) := by decide +kernel
theorem dX1_meet_2 : decode cX1_meet 2 = .ok (.invokevirtual 44, 3) := by decide +kernel
theorem dX1_meet_5 : decode cX1_meet 5 = .ok (.istore_n 3, 1) := by decide +kernel
theorem dX1_meet_6 : decode cX1_meet 6 = .ok (.iload_n 3, 1) := by decide +kernel
theorem dX1_meet_7 : decode cX1_meet 7 = .ok (.bipush (-4), 2) := by decide +kernel
theorem dX1_meet_9 : decode cX1_meet 9 = .ok (.if_icmp .eq 15, 3) := by decide +kernel
theorem dX1_meet_12 : decode cX1_meet 12 = .ok (.aload_n 0, 1) := by decide +kernel
theorem dX1_meet_13 : decode cX1_meet 13 = .ok (.dup, 1) := by decide +kernel
theorem dX1_meet_14 : decode cX1_meet 14 = .ok (.getfield 18, 3) := by decide +kernel
theorem dX1_meet_17 : decode cX1_meet 17 = .ok (.iconst 1, 1) := by decide +kernel
theorem dX1_meet_18 : decode cX1_meet 18 = .ok (.iload_n 3, 1) := by decide +kernel
theorem dX1_meet_19 : decode cX1_meet 19 = .ok (.ishl, 1) := by decide +kernel
theorem dX1_meet_20 : decode cX1_meet 20 = .ok (.ior, 1) := by decide +kernel
theorem dX1_meet_21 : decode cX1_meet 21 = .ok (.putfield 18, 3) := by decide +kernel
theorem dX1_meet_24 : decode cX1_meet 24 = .ok (.aload_n 1, 1) := by decide +kernel
theorem dX1_meet_25 : decode cX1_meet 25 = .ok (.iload_n 2, 1) := by decide +kernel
theorem dX1_meet_26 : decode cX1_meet 26 = .ok (.invokevirtual 47, 3) := by decide +kernel
theorem dX1_meet_29 : decode cX1_meet 29 = .ok (.ifCond .eq 17, 3) := by decide +kernel
theorem dX1_meet_32 : decode cX1_meet 32 = .ok (.aload_n 0, 1) := by decide +kernel
theorem dX1_meet_33 : decode cX1_meet 33 = .ok (.dup, 1) := by decide +kernel
theorem dX1_meet_34 : decode cX1_meet 34 = .ok (.getfield 21, 3) := by decide +kernel
theorem dX1_meet_37 : decode cX1_meet 37 = .ok (.iconst 1, 1) := by decide +kernel
theorem dX1_meet_38 : decode cX1_meet 38 = .ok (.iload_n 2, 1) := by decide +kernel
theorem dX1_meet_39 : decode cX1_meet 39 = .ok (.iconst 1, 1) := by decide +kernel
theorem dX1_meet_40 : decode cX1_meet 40 = .ok (.isub, 1) := by decide +kernel
theorem dX1_meet_41 : decode cX1_meet 41 = .ok (.ishl, 1) := by decide +kernel
theorem dX1_meet_42 : decode cX1_meet 42 = .ok (.ior, 1) := by decide +kernel
theorem dX1_meet_43 : decode cX1_meet 43 = .ok (.putfield 21, 3) := by decide +kernel
theorem dX1_meet_46 : decode cX1_meet 46 = .ok (.aload_n 1, 1) := by decide +kernel
theorem dX1_meet_47 : decode cX1_meet 47 = .ok (.iconst 5, 1) := by decide +kernel
theorem dX1_meet_48 : decode cX1_meet 48 = .ok (.invokevirtual 30, 3) := by decide +kernel
theorem dX1_meet_51 : decode cX1_meet 51 = .ok (.iload_n 2, 1) := by decide +kernel
theorem dX1_meet_52 : decode cX1_meet 52 = .ok (.if_icmp .ne 8, 3) := by decide +kernel
theorem dX1_meet_55 : decode cX1_meet 55 = .ok (.aload_n 0, 1) := by decide +kernel
theorem dX1_meet_56 : decode cX1_meet 56 = .ok (.iconst 1, 1) := by decide +kernel
theorem dX1_meet_57 : decode cX1_meet 57 = .ok (.putfield 24, 3) := by decide +kernel
theorem dX1_meet_60 : decode cX1_meet 60 = .ok (.return_, 1) := by decide +kernel
theorem dX1_answer_0 : decode cX1_answer 0 = .ok (.iload_n 1, 1) := by decide +kernel
theorem dX1_answer_1 : decode cX1_answer 1 = .ok (.tableswitch 69 0 5 #[39, 44, 49, 54, 59, 64], 39) := by decide +kernel
theorem dX1_answer_40 : decode cX1_answer 40 = .ok (.aload_n 0, 1) := by decide +kernel
theorem dX1_answer_41 : decode cX1_answer 41 = .ok (.getfield 9, 3) := by decide +kernel
theorem dX1_answer_44 : decode cX1_answer 44 = .ok (.ireturn, 1) := by decide +kernel
theorem dX1_answer_45 : decode cX1_answer 45 = .ok (.aload_n 0, 1) := by decide +kernel
theorem dX1_answer_46 : decode cX1_answer 46 = .ok (.getfield 15, 3) := by decide +kernel
theorem dX1_answer_49 : decode cX1_answer 49 = .ok (.ireturn, 1) := by decide +kernel
theorem dX1_answer_50 : decode cX1_answer 50 = .ok (.aload_n 0, 1) := by decide +kernel
theorem dX1_answer_51 : decode cX1_answer 51 = .ok (.getfield 18, 3) := by decide +kernel
theorem dX1_answer_54 : decode cX1_answer 54 = .ok (.ireturn, 1) := by decide +kernel
theorem dX1_answer_55 : decode cX1_answer 55 = .ok (.aload_n 0, 1) := by decide +kernel
theorem dX1_answer_56 : decode cX1_answer 56 = .ok (.getfield 21, 3) := by decide +kernel
theorem dX1_answer_59 : decode cX1_answer 59 = .ok (.ireturn, 1) := by decide +kernel
theorem dX1_answer_60 : decode cX1_answer 60 = .ok (.aload_n 0, 1) := by decide +kernel
theorem dX1_answer_61 : decode cX1_answer 61 = .ok (.getfield 24, 3) := by decide +kernel
theorem dX1_answer_64 : decode cX1_answer 64 = .ok (.ireturn, 1) := by decide +kernel
theorem dX1_answer_65 : decode cX1_answer 65 = .ok (.aload_n 0, 1) := by decide +kernel
theorem dX1_answer_66 : decode cX1_answer 66 = .ok (.getfield 27, 3) := by decide +kernel
theorem dX1_answer_69 : decode cX1_answer 69 = .ok (.ireturn, 1) := by decide +kernel
theorem dX1_answer_70 : decode cX1_answer 70 = .ok (.iconst (-1), 1) := by decide +kernel
theorem dX1_answer_71 : decode cX1_answer 71 = .ok (.ireturn, 1) := by decide +kernel
theorem dX2_init_0 : decode cX2_init 0 = .ok (.aload_n 0, 1) := by decide +kernel
theorem dX2_init_1 : decode cX2_init 1 = .ok (.invokespecial 3, 3) := by decide +kernel
theorem dX2_init_4 : decode cX2_init 4 = .ok (.aload_n 0, 1) := by decide +kernel
theorem dX2_init_5 : decode cX2_init 5 = .ok (.new 9, 3) := by decide +kernel
theorem dX2_init_8 : decode cX2_init 8 = .ok (.dup, 1) := by decide +kernel
theorem dX2_init_9 : decode cX2_init 9 = .ok (.invokespecial 11, 3) := by decide +kernel
theorem dX2_init_12 : decode cX2_init 12 = .ok (.putfield 12, 3) := by decide +kernel
theorem dX2_init_15 : decode cX2_init 15 = .ok (.aload_n 0, 1) := by decide +kernel
theorem dX2_init_16 : decode cX2_init 16 = .ok (.new 18, 3) := by decide +kernel
theorem dX2_init_19 : decode cX2_init 19 = .ok (.dup, 1) := by decide +kernel
theorem dX2_init_20 : decode cX2_init 20 = .ok (.invokespecial 20, 3) := by decide +kernel
theorem dX2_init_23 : decode cX2_init 23 = .ok (.putfield 21, 3) := by decide +kernel
theorem dX2_init_26 : decode cX2_init 26 = .ok (.return_, 1) := by decide +kernel
theorem dX2_start_0 : decode cX2_start 0 = .ok (.aload_n 0, 1) := by decide +kernel
theorem dX2_start_1 : decode cX2_start 1 = .ok (.getfield 12, 3) := by decide +kernel
theorem dX2_start_4 : decode cX2_start 4 = .ok (.iconst 0, 1) := by decide +kernel
theorem dX2_start_5 : decode cX2_start 5 = .ok (.putfield 25, 3) := by decide +kernel
theorem dX2_start_8 : decode cX2_start 8 = .ok (.aload_n 0, 1) := by decide +kernel
theorem dX2_start_9 : decode cX2_start 9 = .ok (.getfield 21, 3) := by decide +kernel
theorem dX2_start_12 : decode cX2_start 12 = .ok (.invokevirtual 29, 3) := by decide +kernel
theorem dX2_start_15 : decode cX2_start 15 = .ok (.aload_n 0, 1) := by decide +kernel
theorem dX2_start_16 : decode cX2_start 16 = .ok (.iconst 0, 1) := by decide +kernel
theorem dX2_start_17 : decode cX2_start 17 = .ok (.putfield 32, 3) := by decide +kernel
theorem dX2_start_20 : decode cX2_start 20 = .ok (.aload_n 0, 1) := by decide +kernel
theorem dX2_start_21 : decode cX2_start 21 = .ok (.iconst 0, 1) := by decide +kernel
theorem dX2_start_22 : decode cX2_start 22 = .ok (.putfield 35, 3) := by decide +kernel
theorem dX2_start_25 : decode cX2_start 25 = .ok (.return_, 1) := by decide +kernel
theorem dX2_finish_0 : decode cX2_finish 0 = .ok (.aload_n 0, 1) := by decide +kernel
theorem dX2_finish_1 : decode cX2_finish 1 = .ok (.getfield 35, 3) := by decide +kernel
theorem dX2_finish_4 : decode cX2_finish 4 = .ok (.ifCond .ne 27, 3) := by decide +kernel
theorem dX2_finish_7 : decode cX2_finish 7 = .ok (.aload_n 0, 1) := by decide +kernel
theorem dX2_finish_8 : decode cX2_finish 8 = .ok (.invokevirtual 38, 3) := by decide +kernel
theorem dX2_finish_11 : decode cX2_finish 11 = .ok (.ifCond .eq 20, 3) := by decide +kernel
theorem dX2_finish_14 : decode cX2_finish 14 = .ok (.aload_n 0, 1) := by decide +kernel
theorem dX2_finish_15 : decode cX2_finish 15 = .ok (.bipush 6, 2) := by decide +kernel
theorem dX2_finish_17 : decode cX2_finish 17 = .ok (.putfield 35, 3) := by decide +kernel
theorem dX2_finish_20 : decode cX2_finish 20 = .ok (.aload_n 0, 1) := by decide +kernel
theorem dX2_finish_21 : decode cX2_finish 21 = .ok (.aload_n 0, 1) := by decide +kernel
theorem dX2_finish_22 : decode cX2_finish 22 = .ok (.getfield 12, 3) := by decide +kernel
theorem dX2_finish_25 : decode cX2_finish 25 = .ok (.getfield 42, 3) := by decide +kernel
theorem dX2_finish_28 : decode cX2_finish 28 = .ok (.putfield 45, 3) := by decide +kernel
theorem dX2_finish_31 : decode cX2_finish 31 = .ok (.return_, 1) := by decide +kernel
theorem dX2_readLine_0 : decode cX2_readLine 0 = .ok (.aload_n 0, 1) := by decide +kernel
theorem dX2_readLine_1 : decode cX2_readLine 1 = .ok (.invokevirtual 48, 3) := by decide +kernel
theorem dX2_readLine_4 : decode cX2_readLine 4 = .ok (.ifCond .eq 14, 3) := by decide +kernel
theorem dX2_readLine_7 : decode cX2_readLine 7 = .ok (.aload_n 0, 1) := by decide +kernel
theorem dX2_readLine_8 : decode cX2_readLine 8 = .ok (.getfield 12, 3) := by decide +kernel
theorem dX2_readLine_11 : decode cX2_readLine 11 = .ok (.getfield 51, 3) := by decide +kernel
theorem dX2_readLine_14 : decode cX2_readLine 14 = .ok (.iconst 4, 1) := by decide +kernel
theorem dX2_readLine_15 : decode cX2_readLine 15 = .ok (.if_icmp .ne 5, 3) := by decide +kernel
theorem dX2_readLine_18 : decode cX2_readLine 18 = .ok (.iconst 0, 1) := by decide +kernel
theorem dX2_readLine_19 : decode cX2_readLine 19 = .ok (.ireturn, 1) := by decide +kernel
theorem dX2_readLine_20 : decode cX2_readLine 20 = .ok (.aload_n 0, 1) := by decide +kernel
theorem dX2_readLine_21 : decode cX2_readLine 21 = .ok (.invokevirtual 54, 3) := by decide +kernel
theorem dX2_readLine_24 : decode cX2_readLine 24 = .ok (.istore_n 1, 1) := by decide +kernel
theorem dX2_readLine_25 : decode cX2_readLine 25 = .ok (.iload_n 1, 1) := by decide +kernel
theorem dX2_readLine_26 : decode cX2_readLine 26 = .ok (.bipush (-4), 2) := by decide +kernel
theorem dX2_readLine_28 : decode cX2_readLine 28 = .ok (.if_icmp .ne 9, 3) := by decide +kernel
theorem dX2_readLine_31 : decode cX2_readLine 31 = .ok (.aload_n 0, 1) := by decide +kernel
theorem dX2_readLine_32 : decode cX2_readLine 32 = .ok (.iconst 2, 1) := by decide +kernel
theorem dX2_readLine_33 : decode cX2_readLine 33 = .ok (.invokevirtual 58, 3) := by decide +kernel
theorem dX2_readLine_36 : decode cX2_readLine 36 = .ok (.ireturn, 1) := by decide +kernel
theorem dX2_readLine_37 : decode cX2_readLine 37 = .ok (.sipush 5601, 3) := by decide +kernel
theorem dX2_readLine_40 : decode cX2_readLine 40 = .ok (.aload_n 0, 1) := by decide +kernel
theorem dX2_readLine_41 : decode cX2_readLine 41 = .ok (.getfield 32, 3) := by decide +kernel
theorem dX2_readLine_44 : decode cX2_readLine 44 = .ok (.iand, 1) := by decide +kernel
theorem dX2_readLine_45 : decode cX2_readLine 45 = .ok (.iconst 1, 1) := by decide +kernel
theorem dX2_readLine_46 : decode cX2_readLine 46 = .ok (.iload_n 1, 1) := by decide +kernel
theorem dX2_readLine_47 : decode cX2_readLine 47 = .ok (.ishl, 1) := by decide +kernel
theorem dX2_readLine_48 : decode cX2_readLine 48 = .ok (.iand, 1) := by decide +kernel
theorem dX2_readLine_49 : decode cX2_readLine 49 = .ok (.ifCond .eq 9, 3) := by decide +kernel
theorem dX2_readLine_52 : decode cX2_readLine 52 = .ok (.aload_n 0, 1) := by decide +kernel
theorem dX2_readLine_53 : decode cX2_readLine 53 = .ok (.iconst 4, 1) := by decide +kernel
theorem dX2_readLine_54 : decode cX2_readLine 54 = .ok (.invokevirtual 58, 3) := by decide +kernel
theorem dX2_readLine_57 : decode cX2_readLine 57 = .ok (.ireturn, 1) := by decide +kernel
theorem dX2_readLine_58 : decode cX2_readLine 58 = .ok (.iload_n 1, 1) := by decide +kernel
theorem dX2_readLine_59 : decode cX2_readLine 59 = .ok (.invokestatic 62, 3) := by decide +kernel
theorem dX2_readLine_62 : decode cX2_readLine 62 = .ok (.ifCond .eq 27, 3) := by decide +kernel
theorem dX2_readLine_65 : decode cX2_readLine 65 = .ok (.aload_n 0, 1) := by decide +kernel
theorem dX2_readLine_66 : decode cX2_readLine 66 = .ok (.getfield 21, 3) := by decide +kernel
theorem dX2_readLine_69 : decode cX2_readLine 69 = .ok (.iload_n 1, 1) := by decide +kernel
theorem dX2_readLine_70 : decode cX2_readLine 70 = .ok (.invokevirtual 65, 3) := by decide +kernel
theorem dX2_readLine_73 : decode cX2_readLine 73 = .ok (.getstatic 69, 3) := by decide +kernel
theorem dX2_readLine_76 : decode cX2_readLine 76 = .ok (.iload_n 1, 1) := by decide +kernel
theorem dX2_readLine_77 : decode cX2_readLine 77 = .ok (.invokestatic 73, 3) := by decide +kernel
theorem dX2_readLine_80 : decode cX2_readLine 80 = .ok (.if_icmp .lt 9, 3) := by decide +kernel
theorem dX2_readLine_83 : decode cX2_readLine 83 = .ok (.aload_n 0, 1) := by decide +kernel
theorem dX2_readLine_84 : decode cX2_readLine 84 = .ok (.iconst 5, 1) := by decide +kernel
theorem dX2_readLine_85 : decode cX2_readLine 85 = .ok (.invokevirtual 58, 3) := by decide +kernel
theorem dX2_readLine_88 : decode cX2_readLine 88 = .ok (.ireturn, 1) := by decide +kernel
theorem dX2_readLine_89 : decode cX2_readLine 89 = .ok (.aload_n 0, 1) := by decide +kernel
theorem dX2_readLine_90 : decode cX2_readLine 90 = .ok (.dup, 1) := by decide +kernel
theorem dX2_readLine_91 : decode cX2_readLine 91 = .ok (.getfield 32, 3) := by decide +kernel
theorem dX2_readLine_94 : decode cX2_readLine 94 = .ok (.iconst 1, 1) := by decide +kernel
theorem dX2_readLine_95 : decode cX2_readLine 95 = .ok (.iload_n 1, 1) := by decide +kernel
theorem dX2_readLine_96 : decode cX2_readLine 96 = .ok (.ishl, 1) := by decide +kernel
theorem dX2_readLine_97 : decode cX2_readLine 97 = .ok (.ior, 1) := by decide +kernel
theorem dX2_readLine_98 : decode cX2_readLine 98 = .ok (.putfield 32, 3) := by decide +kernel
theorem dX2_readLine_101 : decode cX2_readLine 101 = .ok (.iload_n 1, 1) := by decide +kernel
theorem dX2_readLine_102 : decode cX2_readLine 102 = .ok (.tableswitch 196 1 10 #[54, 74, 94, 114, 196, 196, 196, 134, 196, 165], 54) := by decide +kernel
theorem dX2_readLine_156 : decode cX2_readLine 156 = .ok (.aload_n 0, 1) := by decide +kernel
theorem dX2_readLine_157 : decode cX2_readLine 157 = .ok (.invokevirtual 77, 3) := by decide +kernel
theorem dX2_readLine_160 : decode cX2_readLine 160 = .ok (.ifCond .eq 14, 3) := by decide +kernel
theorem dX2_readLine_163 : decode cX2_readLine 163 = .ok (.aload_n 0, 1) := by decide +kernel
theorem dX2_readLine_164 : decode cX2_readLine 164 = .ok (.invokevirtual 80, 3) := by decide +kernel
theorem dX2_readLine_167 : decode cX2_readLine 167 = .ok (.ifCond .eq 7, 3) := by decide +kernel
theorem dX2_readLine_170 : decode cX2_readLine 170 = .ok (.iconst 1, 1) := by decide +kernel
theorem dX2_readLine_171 : decode cX2_readLine 171 = .ok (.goto 4, 3) := by decide +kernel
theorem dX2_readLine_174 : decode cX2_readLine 174 = .ok (.iconst 0, 1) := by decide +kernel
theorem dX2_readLine_175 : decode cX2_readLine 175 = .ok (.ireturn, 1) := by decide +kernel
theorem dX2_readLine_176 : decode cX2_readLine 176 = .ok (.aload_n 0, 1) := by decide +kernel
theorem dX2_readLine_177 : decode cX2_readLine 177 = .ok (.invokevirtual 83, 3) := by decide +kernel
theorem dX2_readLine_180 : decode cX2_readLine 180 = .ok (.ifCond .eq 14, 3) := by decide +kernel
theorem dX2_readLine_183 : decode cX2_readLine 183 = .ok (.aload_n 0, 1) := by decide +kernel
theorem dX2_readLine_184 : decode cX2_readLine 184 = .ok (.invokevirtual 80, 3) := by decide +kernel
theorem dX2_readLine_187 : decode cX2_readLine 187 = .ok (.ifCond .eq 7, 3) := by decide +kernel
theorem dX2_readLine_190 : decode cX2_readLine 190 = .ok (.iconst 1, 1) := by decide +kernel
theorem dX2_readLine_191 : decode cX2_readLine 191 = .ok (.goto 4, 3) := by decide +kernel
theorem dX2_readLine_194 : decode cX2_readLine 194 = .ok (.iconst 0, 1) := by decide +kernel
theorem dX2_readLine_195 : decode cX2_readLine 195 = .ok (.ireturn, 1) := by decide +kernel
theorem dX2_readLine_196 : decode cX2_readLine 196 = .ok (.aload_n 0, 1) := by decide +kernel
theorem dX2_readLine_197 : decode cX2_readLine 197 = .ok (.invokevirtual 86, 3) := by decide +kernel
theorem dX2_readLine_200 : decode cX2_readLine 200 = .ok (.ifCond .eq 14, 3) := by decide +kernel
theorem dX2_readLine_203 : decode cX2_readLine 203 = .ok (.aload_n 0, 1) := by decide +kernel
theorem dX2_readLine_204 : decode cX2_readLine 204 = .ok (.invokevirtual 80, 3) := by decide +kernel
theorem dX2_readLine_207 : decode cX2_readLine 207 = .ok (.ifCond .eq 7, 3) := by decide +kernel
theorem dX2_readLine_210 : decode cX2_readLine 210 = .ok (.iconst 1, 1) := by decide +kernel
theorem dX2_readLine_211 : decode cX2_readLine 211 = .ok (.goto 4, 3) := by decide +kernel
theorem dX2_readLine_214 : decode cX2_readLine 214 = .ok (.iconst 0, 1) := by decide +kernel
theorem dX2_readLine_215 : decode cX2_readLine 215 = .ok (.ireturn, 1) := by decide +kernel
theorem dX2_readLine_216 : decode cX2_readLine 216 = .ok (.aload_n 0, 1) := by decide +kernel
theorem dX2_readLine_217 : decode cX2_readLine 217 = .ok (.invokevirtual 89, 3) := by decide +kernel
theorem dX2_readLine_220 : decode cX2_readLine 220 = .ok (.ifCond .eq 14, 3) := by decide +kernel
theorem dX2_readLine_223 : decode cX2_readLine 223 = .ok (.aload_n 0, 1) := by decide +kernel
theorem dX2_readLine_224 : decode cX2_readLine 224 = .ok (.invokevirtual 80, 3) := by decide +kernel
theorem dX2_readLine_227 : decode cX2_readLine 227 = .ok (.ifCond .eq 7, 3) := by decide +kernel
theorem dX2_readLine_230 : decode cX2_readLine 230 = .ok (.iconst 1, 1) := by decide +kernel
theorem dX2_readLine_231 : decode cX2_readLine 231 = .ok (.goto 4, 3) := by decide +kernel
theorem dX2_readLine_234 : decode cX2_readLine 234 = .ok (.iconst 0, 1) := by decide +kernel
theorem dX2_readLine_235 : decode cX2_readLine 235 = .ok (.ireturn, 1) := by decide +kernel
theorem dX2_readLine_236 : decode cX2_readLine 236 = .ok (.aload_n 0, 1) := by decide +kernel
theorem dX2_readLine_237 : decode cX2_readLine 237 = .ok (.bipush 8, 2) := by decide +kernel
theorem dX2_readLine_239 : decode cX2_readLine 239 = .ok (.invokevirtual 92, 3) := by decide +kernel
theorem dX2_readLine_242 : decode cX2_readLine 242 = .ok (.ifCond .eq 23, 3) := by decide +kernel
theorem dX2_readLine_245 : decode cX2_readLine 245 = .ok (.aload_n 0, 1) := by decide +kernel
theorem dX2_readLine_246 : decode cX2_readLine 246 = .ok (.bipush 9, 2) := by decide +kernel
theorem dX2_readLine_248 : decode cX2_readLine 248 = .ok (.invokevirtual 92, 3) := by decide +kernel
theorem dX2_readLine_251 : decode cX2_readLine 251 = .ok (.ifCond .eq 14, 3) := by decide +kernel
theorem dX2_readLine_254 : decode cX2_readLine 254 = .ok (.aload_n 0, 1) := by decide +kernel
theorem dX2_readLine_255 : decode cX2_readLine 255 = .ok (.invokevirtual 80, 3) := by decide +kernel
theorem dX2_readLine_258 : decode cX2_readLine 258 = .ok (.ifCond .eq 7, 3) := by decide +kernel
theorem dX2_readLine_261 : decode cX2_readLine 261 = .ok (.iconst 1, 1) := by decide +kernel
theorem dX2_readLine_262 : decode cX2_readLine 262 = .ok (.goto 4, 3) := by decide +kernel
theorem dX2_readLine_265 : decode cX2_readLine 265 = .ok (.iconst 0, 1) := by decide +kernel
theorem dX2_readLine_266 : decode cX2_readLine 266 = .ok (.ireturn, 1) := by decide +kernel
theorem dX2_readLine_267 : decode cX2_readLine 267 = .ok (.aload_n 0, 1) := by decide +kernel
theorem dX2_readLine_268 : decode cX2_readLine 268 = .ok (.bipush 10, 2) := by decide +kernel
theorem dX2_readLine_270 : decode cX2_readLine 270 = .ok (.invokevirtual 92, 3) := by decide +kernel
theorem dX2_readLine_273 : decode cX2_readLine 273 = .ok (.ifCond .eq 23, 3) := by decide +kernel
theorem dX2_readLine_276 : decode cX2_readLine 276 = .ok (.aload_n 0, 1) := by decide +kernel
theorem dX2_readLine_277 : decode cX2_readLine 277 = .ok (.bipush 11, 2) := by decide +kernel
theorem dX2_readLine_279 : decode cX2_readLine 279 = .ok (.invokevirtual 92, 3) := by decide +kernel
theorem dX2_readLine_282 : decode cX2_readLine 282 = .ok (.ifCond .eq 14, 3) := by decide +kernel
theorem dX2_readLine_285 : decode cX2_readLine 285 = .ok (.aload_n 0, 1) := by decide +kernel
theorem dX2_readLine_286 : decode cX2_readLine 286 = .ok (.invokevirtual 80, 3) := by decide +kernel
theorem dX2_readLine_289 : decode cX2_readLine 289 = .ok (.ifCond .eq 7, 3) := by decide +kernel
theorem dX2_readLine_292 : decode cX2_readLine 292 = .ok (.iconst 1, 1) := by decide +kernel
theorem dX2_readLine_293 : decode cX2_readLine 293 = .ok (.goto 4, 3) := by decide +kernel
theorem dX2_readLine_296 : decode cX2_readLine 296 = .ok (.iconst 0, 1) := by decide +kernel
theorem dX2_readLine_297 : decode cX2_readLine 297 = .ok (.ireturn, 1) := by decide +kernel
theorem dX2_readLine_298 : decode cX2_readLine 298 = .ok (.aload_n 0, 1) := by decide +kernel
theorem dX2_readLine_299 : decode cX2_readLine 299 = .ok (.iload_n 1, 1) := by decide +kernel
theorem dX2_readLine_300 : decode cX2_readLine 300 = .ok (.invokevirtual 92, 3) := by decide +kernel
theorem dX2_readLine_303 : decode cX2_readLine 303 = .ok (.ifCond .eq 14, 3) := by decide +kernel
theorem dX2_readLine_306 : decode cX2_readLine 306 = .ok (.aload_n 0, 1) := by decide +kernel
theorem dX2_readLine_307 : decode cX2_readLine 307 = .ok (.invokevirtual 80, 3) := by decide +kernel
theorem dX2_readLine_310 : decode cX2_readLine 310 = .ok (.ifCond .eq 7, 3) := by decide +kernel
theorem dX2_readLine_313 : decode cX2_readLine 313 = .ok (.iconst 1, 1) := by decide +kernel
theorem dX2_readLine_314 : decode cX2_readLine 314 = .ok (.goto 4, 3) := by decide +kernel
theorem dX2_readLine_317 : decode cX2_readLine 317 = .ok (.iconst 0, 1) := by decide +kernel
theorem dX2_readLine_318 : decode cX2_readLine 318 = .ok (.ireturn, 1) := by decide +kernel
theorem dX2_readRule_0 : decode cX2_readRule 0 = .ok (.iload_n 1, 1) := by decide +kernel
theorem dX2_readRule_1 : decode cX2_readRule 1 = .ok (.bipush 9, 2) := by decide +kernel
theorem dX2_readRule_3 : decode cX2_readRule 3 = .ok (.if_icmp .ne 17, 3) := by decide +kernel
theorem dX2_readRule_6 : decode cX2_readRule 6 = .ok (.aload_n 0, 1) := by decide +kernel
theorem dX2_readRule_7 : decode cX2_readRule 7 = .ok (.getfield 21, 3) := by decide +kernel
theorem dX2_readRule_10 : decode cX2_readRule 10 = .ok (.bipush 8, 2) := by decide +kernel
theorem dX2_readRule_12 : decode cX2_readRule 12 = .ok (.invokevirtual 65, 3) := by decide +kernel
theorem dX2_readRule_15 : decode cX2_readRule 15 = .ok (.iconst 1, 1) := by decide +kernel
theorem dX2_readRule_16 : decode cX2_readRule 16 = .ok (.iadd, 1) := by decide +kernel
theorem dX2_readRule_17 : decode cX2_readRule 17 = .ok (.goto 10, 3) := by decide +kernel
theorem dX2_readRule_20 : decode cX2_readRule 20 = .ok (.getstatic 95, 3) := by decide +kernel
theorem dX2_readRule_23 : decode cX2_readRule 23 = .ok (.iload_n 1, 1) := by decide +kernel
theorem dX2_readRule_24 : decode cX2_readRule 24 = .ok (.invokestatic 73, 3) := by decide +kernel
theorem dX2_readRule_27 : decode cX2_readRule 27 = .ok (.istore_n 2, 1) := by decide +kernel
theorem dX2_readRule_28 : decode cX2_readRule 28 = .ok (.aload_n 0, 1) := by decide +kernel
theorem dX2_readRule_29 : decode cX2_readRule 29 = .ok (.iload_n 2, 1) := by decide +kernel
theorem dX2_readRule_30 : decode cX2_readRule 30 = .ok (.getstatic 69, 3) := by decide +kernel
theorem dX2_readRule_33 : decode cX2_readRule 33 = .ok (.iload_n 1, 1) := by decide +kernel
theorem dX2_readRule_34 : decode cX2_readRule 34 = .ok (.invokestatic 73, 3) := by decide +kernel
theorem dX2_readRule_37 : decode cX2_readRule 37 = .ok (.invokevirtual 98, 3) := by decide +kernel
theorem dX2_readRule_40 : decode cX2_readRule 40 = .ok (.istore_n 3, 1) := by decide +kernel
theorem dX2_readRule_41 : decode cX2_readRule 41 = .ok (.iload_n 3, 1) := by decide +kernel
theorem dX2_readRule_42 : decode cX2_readRule 42 = .ok (.iconst (-1), 1) := by decide +kernel
theorem dX2_readRule_43 : decode cX2_readRule 43 = .ok (.if_icmp .ne 5, 3) := by decide +kernel
theorem dX2_readRule_46 : decode cX2_readRule 46 = .ok (.iconst 0, 1) := by decide +kernel
theorem dX2_readRule_47 : decode cX2_readRule 47 = .ok (.ireturn, 1) := by decide +kernel
theorem dX2_readRule_48 : decode cX2_readRule 48 = .ok (.aload_n 0, 1) := by decide +kernel
theorem dX2_readRule_49 : decode cX2_readRule 49 = .ok (.getfield 21, 3) := by decide +kernel
theorem dX2_readRule_52 : decode cX2_readRule 52 = .ok (.iload_n 1, 1) := by decide +kernel
theorem dX2_readRule_53 : decode cX2_readRule 53 = .ok (.iload_n 3, 1) := by decide +kernel
theorem dX2_readRule_54 : decode cX2_readRule 54 = .ok (.invokevirtual 102, 3) := by decide +kernel
theorem dX2_readRule_57 : decode cX2_readRule 57 = .ok (.iconst 1, 1) := by decide +kernel
theorem dX2_readRule_58 : decode cX2_readRule 58 = .ok (.ireturn, 1) := by decide +kernel
theorem dX2_readArm_0 : decode cX2_readArm 0 = .ok (.aload_n 0, 1) := by decide +kernel
theorem dX2_readArm_1 : decode cX2_readArm 1 = .ok (.invokevirtual 48, 3) := by decide +kernel
theorem dX2_readArm_4 : decode cX2_readArm 4 = .ok (.ifCond .ne 5, 3) := by decide +kernel
theorem dX2_readArm_7 : decode cX2_readArm 7 = .ok (.iconst 0, 1) := by decide +kernel
theorem dX2_readArm_8 : decode cX2_readArm 8 = .ok (.ireturn, 1) := by decide +kernel
theorem dX2_readArm_9 : decode cX2_readArm 9 = .ok (.aload_n 0, 1) := by decide +kernel
theorem dX2_readArm_10 : decode cX2_readArm 10 = .ok (.invokevirtual 106, 3) := by decide +kernel
theorem dX2_readArm_13 : decode cX2_readArm 13 = .ok (.istore_n 1, 1) := by decide +kernel
theorem dX2_readArm_14 : decode cX2_readArm 14 = .ok (.iload_n 1, 1) := by decide +kernel
theorem dX2_readArm_15 : decode cX2_readArm 15 = .ok (.bipush (-4), 2) := by decide +kernel
theorem dX2_readArm_17 : decode cX2_readArm 17 = .ok (.if_icmp .ne 9, 3) := by decide +kernel
theorem dX2_readArm_20 : decode cX2_readArm 20 = .ok (.aload_n 0, 1) := by decide +kernel
theorem dX2_readArm_21 : decode cX2_readArm 21 = .ok (.iconst 2, 1) := by decide +kernel
theorem dX2_readArm_22 : decode cX2_readArm 22 = .ok (.invokevirtual 58, 3) := by decide +kernel
theorem dX2_readArm_25 : decode cX2_readArm 25 = .ok (.ireturn, 1) := by decide +kernel
theorem dX2_readArm_26 : decode cX2_readArm 26 = .ok (.aload_n 0, 1) := by decide +kernel
theorem dX2_readArm_27 : decode cX2_readArm 27 = .ok (.iconst 1, 1) := by decide +kernel
theorem dX2_readArm_28 : decode cX2_readArm 28 = .ok (.bipush 10, 2) := by decide +kernel
theorem dX2_readArm_30 : decode cX2_readArm 30 = .ok (.invokevirtual 98, 3) := by decide +kernel
theorem dX2_readArm_33 : decode cX2_readArm 33 = .ok (.istore_n 2, 1) := by decide +kernel
theorem dX2_readArm_34 : decode cX2_readArm 34 = .ok (.iload_n 2, 1) := by decide +kernel
theorem dX2_readArm_35 : decode cX2_readArm 35 = .ok (.iconst (-1), 1) := by decide +kernel
theorem dX2_readArm_36 : decode cX2_readArm 36 = .ok (.if_icmp .ne 5, 3) := by decide +kernel
theorem dX2_readArm_39 : decode cX2_readArm 39 = .ok (.iconst 0, 1) := by decide +kernel
theorem dX2_readArm_40 : decode cX2_readArm 40 = .ok (.ireturn, 1) := by decide +kernel
theorem dX2_readArm_41 : decode cX2_readArm 41 = .ok (.aload_n 0, 1) := by decide +kernel
theorem dX2_readArm_42 : decode cX2_readArm 42 = .ok (.getfield 21, 3) := by decide +kernel
theorem dX2_readArm_45 : decode cX2_readArm 45 = .ok (.iload_n 2, 1) := by decide +kernel
theorem dX2_readArm_46 : decode cX2_readArm 46 = .ok (.invokevirtual 109, 3) := by decide +kernel
theorem dX2_readArm_49 : decode cX2_readArm 49 = .ok (.bipush (-4), 2) := by decide +kernel
theorem dX2_readArm_51 : decode cX2_readArm 51 = .ok (.if_icmp .eq 9, 3) := by decide +kernel
theorem dX2_readArm_54 : decode cX2_readArm 54 = .ok (.aload_n 0, 1) := by decide +kernel
theorem dX2_readArm_55 : decode cX2_readArm 55 = .ok (.iconst 4, 1) := by decide +kernel
theorem dX2_readArm_56 : decode cX2_readArm 56 = .ok (.invokevirtual 58, 3) := by decide +kernel
theorem dX2_readArm_59 : decode cX2_readArm 59 = .ok (.ireturn, 1) := by decide +kernel
theorem dX2_readArm_60 : decode cX2_readArm 60 = .ok (.aload_n 0, 1) := by decide +kernel
theorem dX2_readArm_61 : decode cX2_readArm 61 = .ok (.iconst 0, 1) := by decide +kernel
theorem dX2_readArm_62 : decode cX2_readArm 62 = .ok (.bipush 9, 2) := by decide +kernel
theorem dX2_readArm_64 : decode cX2_readArm 64 = .ok (.invokevirtual 98, 3) := by decide +kernel
theorem dX2_readArm_67 : decode cX2_readArm 67 = .ok (.istore_n 3, 1) := by decide +kernel
theorem dX2_readArm_68 : decode cX2_readArm 68 = .ok (.iload_n 3, 1) := by decide +kernel
theorem dX2_readArm_69 : decode cX2_readArm 69 = .ok (.iconst (-1), 1) := by decide +kernel
theorem dX2_readArm_70 : decode cX2_readArm 70 = .ok (.if_icmp .ne 5, 3) := by decide +kernel
theorem dX2_readArm_73 : decode cX2_readArm 73 = .ok (.iconst 0, 1) := by decide +kernel
theorem dX2_readArm_74 : decode cX2_readArm 74 = .ok (.ireturn, 1) := by decide +kernel
theorem dX2_readArm_75 : decode cX2_readArm 75 = .ok (.aload_n 0, 1) := by decide +kernel
theorem dX2_readArm_76 : decode cX2_readArm 76 = .ok (.getfield 21, 3) := by decide +kernel
theorem dX2_readArm_79 : decode cX2_readArm 79 = .ok (.iconst 1, 1) := by decide +kernel
theorem dX2_readArm_80 : decode cX2_readArm 80 = .ok (.invokevirtual 65, 3) := by decide +kernel
theorem dX2_readArm_83 : decode cX2_readArm 83 = .ok (.istore 4, 2) := by decide +kernel
theorem dX2_readArm_85 : decode cX2_readArm 85 = .ok (.aload_n 0, 1) := by decide +kernel
theorem dX2_readArm_86 : decode cX2_readArm 86 = .ok (.getfield 21, 3) := by decide +kernel
theorem dX2_readArm_89 : decode cX2_readArm 89 = .ok (.getfield 112, 3) := by decide +kernel
theorem dX2_readArm_92 : decode cX2_readArm 92 = .ok (.iload 4, 2) := by decide +kernel
theorem dX2_readArm_94 : decode cX2_readArm 94 = .ok (.iload_n 1, 1) := by decide +kernel
theorem dX2_readArm_95 : decode cX2_readArm 95 = .ok (.invokestatic 115, 3) := by decide +kernel
theorem dX2_readArm_98 : decode cX2_readArm 98 = .ok (.aload_n 0, 1) := by decide +kernel
theorem dX2_readArm_99 : decode cX2_readArm 99 = .ok (.getfield 21, 3) := by decide +kernel
theorem dX2_readArm_102 : decode cX2_readArm 102 = .ok (.getfield 119, 3) := by decide +kernel
theorem dX2_readArm_105 : decode cX2_readArm 105 = .ok (.iload 4, 2) := by decide +kernel
theorem dX2_readArm_107 : decode cX2_readArm 107 = .ok (.iload_n 2, 1) := by decide +kernel
theorem dX2_readArm_108 : decode cX2_readArm 108 = .ok (.invokestatic 115, 3) := by decide +kernel
theorem dX2_readArm_111 : decode cX2_readArm 111 = .ok (.aload_n 0, 1) := by decide +kernel
theorem dX2_readArm_112 : decode cX2_readArm 112 = .ok (.getfield 21, 3) := by decide +kernel
theorem dX2_readArm_115 : decode cX2_readArm 115 = .ok (.getfield 122, 3) := by decide +kernel
theorem dX2_readArm_118 : decode cX2_readArm 118 = .ok (.iload 4, 2) := by decide +kernel
theorem dX2_readArm_120 : decode cX2_readArm 120 = .ok (.iload_n 3, 1) := by decide +kernel
theorem dX2_readArm_121 : decode cX2_readArm 121 = .ok (.invokestatic 115, 3) := by decide +kernel
theorem dX2_readArm_124 : decode cX2_readArm 124 = .ok (.aload_n 0, 1) := by decide +kernel
theorem dX2_readArm_125 : decode cX2_readArm 125 = .ok (.getfield 21, 3) := by decide +kernel
theorem dX2_readArm_128 : decode cX2_readArm 128 = .ok (.iconst 1, 1) := by decide +kernel
theorem dX2_readArm_129 : decode cX2_readArm 129 = .ok (.iload 4, 2) := by decide +kernel
theorem dX2_readArm_131 : decode cX2_readArm 131 = .ok (.iconst 1, 1) := by decide +kernel
theorem dX2_readArm_132 : decode cX2_readArm 132 = .ok (.iadd, 1) := by decide +kernel
theorem dX2_readArm_133 : decode cX2_readArm 133 = .ok (.invokevirtual 102, 3) := by decide +kernel
theorem dX2_readArm_136 : decode cX2_readArm 136 = .ok (.iconst 1, 1) := by decide +kernel
theorem dX2_readArm_137 : decode cX2_readArm 137 = .ok (.ireturn, 1) := by decide +kernel
theorem dX2_readMark_0 : decode cX2_readMark 0 = .ok (.aload_n 0, 1) := by decide +kernel
theorem dX2_readMark_1 : decode cX2_readMark 1 = .ok (.iconst 1, 1) := by decide +kernel
theorem dX2_readMark_2 : decode cX2_readMark 2 = .ok (.bipush 10, 2) := by decide +kernel
theorem dX2_readMark_4 : decode cX2_readMark 4 = .ok (.invokevirtual 98, 3) := by decide +kernel
theorem dX2_readMark_7 : decode cX2_readMark 7 = .ok (.istore_n 1, 1) := by decide +kernel
theorem dX2_readMark_8 : decode cX2_readMark 8 = .ok (.iload_n 1, 1) := by decide +kernel
theorem dX2_readMark_9 : decode cX2_readMark 9 = .ok (.iconst (-1), 1) := by decide +kernel
theorem dX2_readMark_10 : decode cX2_readMark 10 = .ok (.if_icmp .ne 5, 3) := by decide +kernel
theorem dX2_readMark_13 : decode cX2_readMark 13 = .ok (.iconst 0, 1) := by decide +kernel
theorem dX2_readMark_14 : decode cX2_readMark 14 = .ok (.ireturn, 1) := by decide +kernel
theorem dX2_readMark_15 : decode cX2_readMark 15 = .ok (.aload_n 0, 1) := by decide +kernel
theorem dX2_readMark_16 : decode cX2_readMark 16 = .ok (.getfield 21, 3) := by decide +kernel
theorem dX2_readMark_19 : decode cX2_readMark 19 = .ok (.iload_n 1, 1) := by decide +kernel
theorem dX2_readMark_20 : decode cX2_readMark 20 = .ok (.invokevirtual 125, 3) := by decide +kernel
theorem dX2_readMark_23 : decode cX2_readMark 23 = .ok (.bipush (-4), 2) := by decide +kernel
theorem dX2_readMark_25 : decode cX2_readMark 25 = .ok (.if_icmp .eq 9, 3) := by decide +kernel
theorem dX2_readMark_28 : decode cX2_readMark 28 = .ok (.aload_n 0, 1) := by decide +kernel
theorem dX2_readMark_29 : decode cX2_readMark 29 = .ok (.iconst 4, 1) := by decide +kernel
theorem dX2_readMark_30 : decode cX2_readMark 30 = .ok (.invokevirtual 58, 3) := by decide +kernel
theorem dX2_readMark_33 : decode cX2_readMark 33 = .ok (.ireturn, 1) := by decide +kernel
theorem dX2_readMark_34 : decode cX2_readMark 34 = .ok (.aload_n 0, 1) := by decide +kernel
theorem dX2_readMark_35 : decode cX2_readMark 35 = .ok (.iconst 0, 1) := by decide +kernel
theorem dX2_readMark_36 : decode cX2_readMark 36 = .ok (.bipush 10, 2) := by decide +kernel
theorem dX2_readMark_38 : decode cX2_readMark 38 = .ok (.invokevirtual 98, 3) := by decide +kernel
theorem dX2_readMark_41 : decode cX2_readMark 41 = .ok (.istore_n 2, 1) := by decide +kernel
theorem dX2_readMark_42 : decode cX2_readMark 42 = .ok (.iload_n 2, 1) := by decide +kernel
theorem dX2_readMark_43 : decode cX2_readMark 43 = .ok (.iconst (-1), 1) := by decide +kernel
theorem dX2_readMark_44 : decode cX2_readMark 44 = .ok (.if_icmp .ne 5, 3) := by decide +kernel
theorem dX2_readMark_47 : decode cX2_readMark 47 = .ok (.iconst 0, 1) := by decide +kernel
theorem dX2_readMark_48 : decode cX2_readMark 48 = .ok (.ireturn, 1) := by decide +kernel
theorem dX2_readMark_49 : decode cX2_readMark 49 = .ok (.aload_n 0, 1) := by decide +kernel
theorem dX2_readMark_50 : decode cX2_readMark 50 = .ok (.getfield 21, 3) := by decide +kernel
theorem dX2_readMark_53 : decode cX2_readMark 53 = .ok (.iconst 2, 1) := by decide +kernel
theorem dX2_readMark_54 : decode cX2_readMark 54 = .ok (.invokevirtual 65, 3) := by decide +kernel
theorem dX2_readMark_57 : decode cX2_readMark 57 = .ok (.istore_n 3, 1) := by decide +kernel
theorem dX2_readMark_58 : decode cX2_readMark 58 = .ok (.aload_n 0, 1) := by decide +kernel
theorem dX2_readMark_59 : decode cX2_readMark 59 = .ok (.getfield 21, 3) := by decide +kernel
theorem dX2_readMark_62 : decode cX2_readMark 62 = .ok (.getfield 128, 3) := by decide +kernel
theorem dX2_readMark_65 : decode cX2_readMark 65 = .ok (.iload_n 3, 1) := by decide +kernel
theorem dX2_readMark_66 : decode cX2_readMark 66 = .ok (.iload_n 1, 1) := by decide +kernel
theorem dX2_readMark_67 : decode cX2_readMark 67 = .ok (.invokestatic 115, 3) := by decide +kernel
theorem dX2_readMark_70 : decode cX2_readMark 70 = .ok (.aload_n 0, 1) := by decide +kernel
theorem dX2_readMark_71 : decode cX2_readMark 71 = .ok (.getfield 21, 3) := by decide +kernel
theorem dX2_readMark_74 : decode cX2_readMark 74 = .ok (.getfield 131, 3) := by decide +kernel
theorem dX2_readMark_77 : decode cX2_readMark 77 = .ok (.iload_n 3, 1) := by decide +kernel
theorem dX2_readMark_78 : decode cX2_readMark 78 = .ok (.iload_n 2, 1) := by decide +kernel
theorem dX2_readMark_79 : decode cX2_readMark 79 = .ok (.invokestatic 115, 3) := by decide +kernel
theorem dX2_readMark_82 : decode cX2_readMark 82 = .ok (.aload_n 0, 1) := by decide +kernel
theorem dX2_readMark_83 : decode cX2_readMark 83 = .ok (.getfield 21, 3) := by decide +kernel
theorem dX2_readMark_86 : decode cX2_readMark 86 = .ok (.iconst 2, 1) := by decide +kernel
theorem dX2_readMark_87 : decode cX2_readMark 87 = .ok (.iload_n 3, 1) := by decide +kernel
theorem dX2_readMark_88 : decode cX2_readMark 88 = .ok (.iconst 1, 1) := by decide +kernel
theorem dX2_readMark_89 : decode cX2_readMark 89 = .ok (.iadd, 1) := by decide +kernel
theorem dX2_readMark_90 : decode cX2_readMark 90 = .ok (.invokevirtual 102, 3) := by decide +kernel
theorem dX2_readMark_93 : decode cX2_readMark 93 = .ok (.iconst 1, 1) := by decide +kernel
theorem dX2_readMark_94 : decode cX2_readMark 94 = .ok (.ireturn, 1) := by decide +kernel
theorem dX2_readTown_0 : decode cX2_readTown 0 = .ok (.aload_n 0, 1) := by decide +kernel
theorem dX2_readTown_1 : decode cX2_readTown 1 = .ok (.iconst 0, 1) := by decide +kernel
theorem dX2_readTown_2 : decode cX2_readTown 2 = .ok (.bipush 99, 2) := by decide +kernel
theorem dX2_readTown_4 : decode cX2_readTown 4 = .ok (.invokevirtual 98, 3) := by decide +kernel
theorem dX2_readTown_7 : decode cX2_readTown 7 = .ok (.istore_n 1, 1) := by decide +kernel
theorem dX2_readTown_8 : decode cX2_readTown 8 = .ok (.iload_n 1, 1) := by decide +kernel
theorem dX2_readTown_9 : decode cX2_readTown 9 = .ok (.iconst (-1), 1) := by decide +kernel
theorem dX2_readTown_10 : decode cX2_readTown 10 = .ok (.if_icmp .ne 5, 3) := by decide +kernel
theorem dX2_readTown_13 : decode cX2_readTown 13 = .ok (.iconst 0, 1) := by decide +kernel
theorem dX2_readTown_14 : decode cX2_readTown 14 = .ok (.ireturn, 1) := by decide +kernel
theorem dX2_readTown_15 : decode cX2_readTown 15 = .ok (.aload_n 0, 1) := by decide +kernel
theorem dX2_readTown_16 : decode cX2_readTown 16 = .ok (.iconst 0, 1) := by decide +kernel
theorem dX2_readTown_17 : decode cX2_readTown 17 = .ok (.bipush 9, 2) := by decide +kernel
theorem dX2_readTown_19 : decode cX2_readTown 19 = .ok (.invokevirtual 98, 3) := by decide +kernel
theorem dX2_readTown_22 : decode cX2_readTown 22 = .ok (.istore_n 2, 1) := by decide +kernel
theorem dX2_readTown_23 : decode cX2_readTown 23 = .ok (.iload_n 2, 1) := by decide +kernel
theorem dX2_readTown_24 : decode cX2_readTown 24 = .ok (.iconst (-1), 1) := by decide +kernel
theorem dX2_readTown_25 : decode cX2_readTown 25 = .ok (.if_icmp .ne 5, 3) := by decide +kernel
theorem dX2_readTown_28 : decode cX2_readTown 28 = .ok (.iconst 0, 1) := by decide +kernel
theorem dX2_readTown_29 : decode cX2_readTown 29 = .ok (.ireturn, 1) := by decide +kernel
theorem dX2_readTown_30 : decode cX2_readTown 30 = .ok (.aload_n 0, 1) := by decide +kernel
theorem dX2_readTown_31 : decode cX2_readTown 31 = .ok (.getfield 21, 3) := by decide +kernel
theorem dX2_readTown_34 : decode cX2_readTown 34 = .ok (.iconst 3, 1) := by decide +kernel
theorem dX2_readTown_35 : decode cX2_readTown 35 = .ok (.invokevirtual 65, 3) := by decide +kernel
theorem dX2_readTown_38 : decode cX2_readTown 38 = .ok (.istore_n 3, 1) := by decide +kernel
theorem dX2_readTown_39 : decode cX2_readTown 39 = .ok (.aload_n 0, 1) := by decide +kernel
theorem dX2_readTown_40 : decode cX2_readTown 40 = .ok (.getfield 21, 3) := by decide +kernel
theorem dX2_readTown_43 : decode cX2_readTown 43 = .ok (.getfield 134, 3) := by decide +kernel
theorem dX2_readTown_46 : decode cX2_readTown 46 = .ok (.iload_n 3, 1) := by decide +kernel
theorem dX2_readTown_47 : decode cX2_readTown 47 = .ok (.iload_n 1, 1) := by decide +kernel
theorem dX2_readTown_48 : decode cX2_readTown 48 = .ok (.invokestatic 115, 3) := by decide +kernel
theorem dX2_readTown_51 : decode cX2_readTown 51 = .ok (.aload_n 0, 1) := by decide +kernel
theorem dX2_readTown_52 : decode cX2_readTown 52 = .ok (.getfield 21, 3) := by decide +kernel
theorem dX2_readTown_55 : decode cX2_readTown 55 = .ok (.getfield 137, 3) := by decide +kernel
theorem dX2_readTown_58 : decode cX2_readTown 58 = .ok (.iload_n 3, 1) := by decide +kernel
theorem dX2_readTown_59 : decode cX2_readTown 59 = .ok (.iload_n 2, 1) := by decide +kernel
theorem dX2_readTown_60 : decode cX2_readTown 60 = .ok (.invokestatic 115, 3) := by decide +kernel
theorem dX2_readTown_63 : decode cX2_readTown 63 = .ok (.aload_n 0, 1) := by decide +kernel
theorem dX2_readTown_64 : decode cX2_readTown 64 = .ok (.getfield 21, 3) := by decide +kernel
theorem dX2_readTown_67 : decode cX2_readTown 67 = .ok (.iconst 3, 1) := by decide +kernel
theorem dX2_readTown_68 : decode cX2_readTown 68 = .ok (.iload_n 3, 1) := by decide +kernel
theorem dX2_readTown_69 : decode cX2_readTown 69 = .ok (.iconst 1, 1) := by decide +kernel
theorem dX2_readTown_70 : decode cX2_readTown 70 = .ok (.iadd, 1) := by decide +kernel
theorem dX2_readTown_71 : decode cX2_readTown 71 = .ok (.invokevirtual 102, 3) := by decide +kernel
theorem dX2_readTown_74 : decode cX2_readTown 74 = .ok (.iconst 1, 1) := by decide +kernel
theorem dX2_readTown_75 : decode cX2_readTown 75 = .ok (.ireturn, 1) := by decide +kernel
theorem dX2_readSignal_0 : decode cX2_readSignal 0 = .ok (.aload_n 0, 1) := by decide +kernel
theorem dX2_readSignal_1 : decode cX2_readSignal 1 = .ok (.iconst 1, 1) := by decide +kernel
theorem dX2_readSignal_2 : decode cX2_readSignal 2 = .ok (.bipush 10, 2) := by decide +kernel
theorem dX2_readSignal_4 : decode cX2_readSignal 4 = .ok (.invokevirtual 98, 3) := by decide +kernel
theorem dX2_readSignal_7 : decode cX2_readSignal 7 = .ok (.istore_n 1, 1) := by decide +kernel
theorem dX2_readSignal_8 : decode cX2_readSignal 8 = .ok (.iload_n 1, 1) := by decide +kernel
theorem dX2_readSignal_9 : decode cX2_readSignal 9 = .ok (.iconst (-1), 1) := by decide +kernel
theorem dX2_readSignal_10 : decode cX2_readSignal 10 = .ok (.if_icmp .ne 5, 3) := by decide +kernel
theorem dX2_readSignal_13 : decode cX2_readSignal 13 = .ok (.iconst 0, 1) := by decide +kernel
theorem dX2_readSignal_14 : decode cX2_readSignal 14 = .ok (.ireturn, 1) := by decide +kernel
theorem dX2_readSignal_15 : decode cX2_readSignal 15 = .ok (.aload_n 0, 1) := by decide +kernel
theorem dX2_readSignal_16 : decode cX2_readSignal 16 = .ok (.getfield 21, 3) := by decide +kernel
theorem dX2_readSignal_19 : decode cX2_readSignal 19 = .ok (.iload_n 1, 1) := by decide +kernel
theorem dX2_readSignal_20 : decode cX2_readSignal 20 = .ok (.invokevirtual 140, 3) := by decide +kernel
theorem dX2_readSignal_23 : decode cX2_readSignal 23 = .ok (.ifCond .eq 9, 3) := by decide +kernel
theorem dX2_readSignal_26 : decode cX2_readSignal 26 = .ok (.aload_n 0, 1) := by decide +kernel
theorem dX2_readSignal_27 : decode cX2_readSignal 27 = .ok (.iconst 4, 1) := by decide +kernel
theorem dX2_readSignal_28 : decode cX2_readSignal 28 = .ok (.invokevirtual 58, 3) := by decide +kernel
theorem dX2_readSignal_31 : decode cX2_readSignal 31 = .ok (.ireturn, 1) := by decide +kernel
theorem dX2_readSignal_32 : decode cX2_readSignal 32 = .ok (.aload_n 0, 1) := by decide +kernel
theorem dX2_readSignal_33 : decode cX2_readSignal 33 = .ok (.getfield 21, 3) := by decide +kernel
theorem dX2_readSignal_36 : decode cX2_readSignal 36 = .ok (.iconst 4, 1) := by decide +kernel
theorem dX2_readSignal_37 : decode cX2_readSignal 37 = .ok (.aload_n 0, 1) := by decide +kernel
theorem dX2_readSignal_38 : decode cX2_readSignal 38 = .ok (.getfield 21, 3) := by decide +kernel
theorem dX2_readSignal_41 : decode cX2_readSignal 41 = .ok (.iconst 4, 1) := by decide +kernel
theorem dX2_readSignal_42 : decode cX2_readSignal 42 = .ok (.invokevirtual 65, 3) := by decide +kernel
theorem dX2_readSignal_45 : decode cX2_readSignal 45 = .ok (.iconst 1, 1) := by decide +kernel
theorem dX2_readSignal_46 : decode cX2_readSignal 46 = .ok (.iload_n 1, 1) := by decide +kernel
theorem dX2_readSignal_47 : decode cX2_readSignal 47 = .ok (.iconst 1, 1) := by decide +kernel
theorem dX2_readSignal_48 : decode cX2_readSignal 48 = .ok (.isub, 1) := by decide +kernel
theorem dX2_readSignal_49 : decode cX2_readSignal 49 = .ok (.ishl, 1) := by decide +kernel
theorem dX2_readSignal_50 : decode cX2_readSignal 50 = .ok (.ior, 1) := by decide +kernel
theorem dX2_readSignal_51 : decode cX2_readSignal 51 = .ok (.invokevirtual 102, 3) := by decide +kernel
theorem dX2_readSignal_54 : decode cX2_readSignal 54 = .ok (.iconst 1, 1) := by decide +kernel
theorem dX2_readSignal_55 : decode cX2_readSignal 55 = .ok (.ireturn, 1) := by decide +kernel
theorem dX2_takeToken_0 : decode cX2_takeToken 0 = .ok (.aload_n 0, 1) := by decide +kernel
theorem dX2_takeToken_1 : decode cX2_takeToken 1 = .ok (.getfield 12, 3) := by decide +kernel
theorem dX2_takeToken_4 : decode cX2_takeToken 4 = .ok (.invokevirtual 143, 3) := by decide +kernel
theorem dX2_takeToken_7 : decode cX2_takeToken 7 = .ok (.aload_n 0, 1) := by decide +kernel
theorem dX2_takeToken_8 : decode cX2_takeToken 8 = .ok (.getfield 12, 3) := by decide +kernel
theorem dX2_takeToken_11 : decode cX2_takeToken 11 = .ok (.getfield 51, 3) := by decide +kernel
theorem dX2_takeToken_14 : decode cX2_takeToken 14 = .ok (.ifCond .ne 11, 3) := by decide +kernel
theorem dX2_takeToken_17 : decode cX2_takeToken 17 = .ok (.aload_n 0, 1) := by decide +kernel
theorem dX2_takeToken_18 : decode cX2_takeToken 18 = .ok (.iconst 1, 1) := by decide +kernel
theorem dX2_takeToken_19 : decode cX2_takeToken 19 = .ok (.invokevirtual 58, 3) := by decide +kernel
theorem dX2_takeToken_22 : decode cX2_takeToken 22 = .ok (.ifCond .eq 7, 3) := by decide +kernel
theorem dX2_takeToken_25 : decode cX2_takeToken 25 = .ok (.iconst 1, 1) := by decide +kernel
theorem dX2_takeToken_26 : decode cX2_takeToken 26 = .ok (.goto 4, 3) := by decide +kernel
theorem dX2_takeToken_29 : decode cX2_takeToken 29 = .ok (.iconst 0, 1) := by decide +kernel
theorem dX2_takeToken_30 : decode cX2_takeToken 30 = .ok (.ireturn, 1) := by decide +kernel
theorem dX2_takeSign_0 : decode cX2_takeSign 0 = .ok (.aload_n 0, 1) := by decide +kernel
theorem dX2_takeSign_1 : decode cX2_takeSign 1 = .ok (.invokevirtual 48, 3) := by decide +kernel
theorem dX2_takeSign_4 : decode cX2_takeSign 4 = .ok (.ifCond .eq 26, 3) := by decide +kernel
theorem dX2_takeSign_7 : decode cX2_takeSign 7 = .ok (.aload_n 0, 1) := by decide +kernel
theorem dX2_takeSign_8 : decode cX2_takeSign 8 = .ok (.getfield 12, 3) := by decide +kernel
theorem dX2_takeSign_11 : decode cX2_takeSign 11 = .ok (.getfield 51, 3) := by decide +kernel
theorem dX2_takeSign_14 : decode cX2_takeSign 14 = .ok (.iconst 3, 1) := by decide +kernel
theorem dX2_takeSign_15 : decode cX2_takeSign 15 = .ok (.if_icmp .eq 11, 3) := by decide +kernel
theorem dX2_takeSign_18 : decode cX2_takeSign 18 = .ok (.aload_n 0, 1) := by decide +kernel
theorem dX2_takeSign_19 : decode cX2_takeSign 19 = .ok (.iconst 2, 1) := by decide +kernel
theorem dX2_takeSign_20 : decode cX2_takeSign 20 = .ok (.invokevirtual 58, 3) := by decide +kernel
theorem dX2_takeSign_23 : decode cX2_takeSign 23 = .ok (.ifCond .eq 7, 3) := by decide +kernel
theorem dX2_takeSign_26 : decode cX2_takeSign 26 = .ok (.iconst 1, 1) := by decide +kernel
theorem dX2_takeSign_27 : decode cX2_takeSign 27 = .ok (.goto 4, 3) := by decide +kernel
theorem dX2_takeSign_30 : decode cX2_takeSign 30 = .ok (.iconst 0, 1) := by decide +kernel
theorem dX2_takeSign_31 : decode cX2_takeSign 31 = .ok (.ireturn, 1) := by decide +kernel
theorem dX2_takeNumber_0 : decode cX2_takeNumber 0 = .ok (.aload_n 0, 1) := by decide +kernel
theorem dX2_takeNumber_1 : decode cX2_takeNumber 1 = .ok (.invokevirtual 48, 3) := by decide +kernel
theorem dX2_takeNumber_4 : decode cX2_takeNumber 4 = .ok (.ifCond .ne 5, 3) := by decide +kernel
theorem dX2_takeNumber_7 : decode cX2_takeNumber 7 = .ok (.iconst (-1), 1) := by decide +kernel
theorem dX2_takeNumber_8 : decode cX2_takeNumber 8 = .ok (.ireturn, 1) := by decide +kernel
theorem dX2_takeNumber_9 : decode cX2_takeNumber 9 = .ok (.aload_n 0, 1) := by decide +kernel
theorem dX2_takeNumber_10 : decode cX2_takeNumber 10 = .ok (.getfield 12, 3) := by decide +kernel
theorem dX2_takeNumber_13 : decode cX2_takeNumber 13 = .ok (.getfield 51, 3) := by decide +kernel
theorem dX2_takeNumber_16 : decode cX2_takeNumber 16 = .ok (.iconst 2, 1) := by decide +kernel
theorem dX2_takeNumber_17 : decode cX2_takeNumber 17 = .ok (.if_icmp .eq 11, 3) := by decide +kernel
theorem dX2_takeNumber_20 : decode cX2_takeNumber 20 = .ok (.aload_n 0, 1) := by decide +kernel
theorem dX2_takeNumber_21 : decode cX2_takeNumber 21 = .ok (.iconst 2, 1) := by decide +kernel
theorem dX2_takeNumber_22 : decode cX2_takeNumber 22 = .ok (.invokevirtual 58, 3) := by decide +kernel
theorem dX2_takeNumber_25 : decode cX2_takeNumber 25 = .ok (.pop, 1) := by decide +kernel
theorem dX2_takeNumber_26 : decode cX2_takeNumber 26 = .ok (.iconst (-1), 1) := by decide +kernel
theorem dX2_takeNumber_27 : decode cX2_takeNumber 27 = .ok (.ireturn, 1) := by decide +kernel
theorem dX2_takeNumber_28 : decode cX2_takeNumber 28 = .ok (.aload_n 0, 1) := by decide +kernel
theorem dX2_takeNumber_29 : decode cX2_takeNumber 29 = .ok (.getfield 12, 3) := by decide +kernel
theorem dX2_takeNumber_32 : decode cX2_takeNumber 32 = .ok (.invokevirtual 146, 3) := by decide +kernel
theorem dX2_takeNumber_35 : decode cX2_takeNumber 35 = .ok (.istore_n 3, 1) := by decide +kernel
theorem dX2_takeNumber_36 : decode cX2_takeNumber 36 = .ok (.iload_n 3, 1) := by decide +kernel
theorem dX2_takeNumber_37 : decode cX2_takeNumber 37 = .ok (.iload_n 1, 1) := by decide +kernel
theorem dX2_takeNumber_38 : decode cX2_takeNumber 38 = .ok (.if_icmp .lt 8, 3) := by decide +kernel
theorem dX2_takeNumber_41 : decode cX2_takeNumber 41 = .ok (.iload_n 3, 1) := by decide +kernel
theorem dX2_takeNumber_42 : decode cX2_takeNumber 42 = .ok (.iload_n 2, 1) := by decide +kernel
theorem dX2_takeNumber_43 : decode cX2_takeNumber 43 = .ok (.if_icmp .le 11, 3) := by decide +kernel
theorem dX2_takeNumber_46 : decode cX2_takeNumber 46 = .ok (.aload_n 0, 1) := by decide +kernel
theorem dX2_takeNumber_47 : decode cX2_takeNumber 47 = .ok (.iconst 3, 1) := by decide +kernel
theorem dX2_takeNumber_48 : decode cX2_takeNumber 48 = .ok (.invokevirtual 58, 3) := by decide +kernel
theorem dX2_takeNumber_51 : decode cX2_takeNumber 51 = .ok (.pop, 1) := by decide +kernel
theorem dX2_takeNumber_52 : decode cX2_takeNumber 52 = .ok (.iconst (-1), 1) := by decide +kernel
theorem dX2_takeNumber_53 : decode cX2_takeNumber 53 = .ok (.ireturn, 1) := by decide +kernel
theorem dX2_takeNumber_54 : decode cX2_takeNumber 54 = .ok (.iload_n 3, 1) := by decide +kernel
theorem dX2_takeNumber_55 : decode cX2_takeNumber 55 = .ok (.ireturn, 1) := by decide +kernel
theorem dX2_refuse_0 : decode cX2_refuse 0 = .ok (.aload_n 0, 1) := by decide +kernel
theorem dX2_refuse_1 : decode cX2_refuse 1 = .ok (.iload_n 1, 1) := by decide +kernel
theorem dX2_refuse_2 : decode cX2_refuse 2 = .ok (.putfield 35, 3) := by decide +kernel
theorem dX2_refuse_5 : decode cX2_refuse 5 = .ok (.aload_n 0, 1) := by decide +kernel
theorem dX2_refuse_6 : decode cX2_refuse 6 = .ok (.aload_n 0, 1) := by decide +kernel
theorem dX2_refuse_7 : decode cX2_refuse 7 = .ok (.getfield 12, 3) := by decide +kernel
theorem dX2_refuse_10 : decode cX2_refuse 10 = .ok (.getfield 149, 3) := by decide +kernel
theorem dX2_refuse_13 : decode cX2_refuse 13 = .ok (.putfield 45, 3) := by decide +kernel
theorem dX2_refuse_16 : decode cX2_refuse 16 = .ok (.iconst 0, 1) := by decide +kernel
theorem dX2_refuse_17 : decode cX2_refuse 17 = .ok (.ireturn, 1) := by decide +kernel
theorem dX2_isRowOf_0 : decode cX2_isRowOf 0 = .ok (.iload_n 0, 1) := by decide +kernel
theorem dX2_isRowOf_1 : decode cX2_isRowOf 1 = .ok (.iconst 1, 1) := by decide +kernel
theorem dX2_isRowOf_2 : decode cX2_isRowOf 2 = .ok (.if_icmp .eq 13, 3) := by decide +kernel
theorem dX2_isRowOf_5 : decode cX2_isRowOf 5 = .ok (.iload_n 0, 1) := by decide +kernel
theorem dX2_isRowOf_6 : decode cX2_isRowOf 6 = .ok (.iconst 2, 1) := by decide +kernel
theorem dX2_isRowOf_7 : decode cX2_isRowOf 7 = .ok (.if_icmp .eq 8, 3) := by decide +kernel
theorem dX2_isRowOf_10 : decode cX2_isRowOf 10 = .ok (.iload_n 0, 1) := by decide +kernel
theorem dX2_isRowOf_11 : decode cX2_isRowOf 11 = .ok (.iconst 3, 1) := by decide +kernel
theorem dX2_isRowOf_12 : decode cX2_isRowOf 12 = .ok (.if_icmp .ne 7, 3) := by decide +kernel
theorem dX2_isRowOf_15 : decode cX2_isRowOf 15 = .ok (.iconst 1, 1) := by decide +kernel
theorem dX2_isRowOf_16 : decode cX2_isRowOf 16 = .ok (.goto 4, 3) := by decide +kernel
theorem dX2_isRowOf_19 : decode cX2_isRowOf 19 = .ok (.iconst 0, 1) := by decide +kernel
theorem dX2_isRowOf_20 : decode cX2_isRowOf 20 = .ok (.ireturn, 1) := by decide +kernel
theorem dX2_lineNamed_0 : decode cX2_lineNamed 0 = .ok (.aload_n 0, 1) := by decide +kernel
theorem dX2_lineNamed_1 : decode cX2_lineNamed 1 = .ok (.getfield 12, 3) := by decide +kernel
theorem dX2_lineNamed_4 : decode cX2_lineNamed 4 = .ok (.ldc 152, 2) := by decide +kernel
theorem dX2_lineNamed_6 : decode cX2_lineNamed 6 = .ok (.invokevirtual 154, 3) := by decide +kernel
theorem dX2_lineNamed_9 : decode cX2_lineNamed 9 = .ok (.ifCond .eq 7, 3) := by decide +kernel
theorem dX2_lineNamed_12 : decode cX2_lineNamed 12 = .ok (.iconst 0, 1) := by decide +kernel
theorem dX2_lineNamed_13 : decode cX2_lineNamed 13 = .ok (.goto 170, 3) := by decide +kernel
theorem dX2_lineNamed_16 : decode cX2_lineNamed 16 = .ok (.aload_n 0, 1) := by decide +kernel
theorem dX2_lineNamed_17 : decode cX2_lineNamed 17 = .ok (.getfield 12, 3) := by decide +kernel
theorem dX2_lineNamed_20 : decode cX2_lineNamed 20 = .ok (.ldc 158, 2) := by decide +kernel
theorem dX2_lineNamed_22 : decode cX2_lineNamed 22 = .ok (.invokevirtual 154, 3) := by decide +kernel
theorem dX2_lineNamed_25 : decode cX2_lineNamed 25 = .ok (.ifCond .eq 7, 3) := by decide +kernel
theorem dX2_lineNamed_28 : decode cX2_lineNamed 28 = .ok (.iconst 1, 1) := by decide +kernel
theorem dX2_lineNamed_29 : decode cX2_lineNamed 29 = .ok (.goto 154, 3) := by decide +kernel
theorem dX2_lineNamed_32 : decode cX2_lineNamed 32 = .ok (.aload_n 0, 1) := by decide +kernel
theorem dX2_lineNamed_33 : decode cX2_lineNamed 33 = .ok (.getfield 12, 3) := by decide +kernel
theorem dX2_lineNamed_36 : decode cX2_lineNamed 36 = .ok (.ldc 160, 2) := by decide +kernel
theorem dX2_lineNamed_38 : decode cX2_lineNamed 38 = .ok (.invokevirtual 154, 3) := by decide +kernel
theorem dX2_lineNamed_41 : decode cX2_lineNamed 41 = .ok (.ifCond .eq 7, 3) := by decide +kernel
theorem dX2_lineNamed_44 : decode cX2_lineNamed 44 = .ok (.iconst 2, 1) := by decide +kernel
theorem dX2_lineNamed_45 : decode cX2_lineNamed 45 = .ok (.goto 138, 3) := by decide +kernel
theorem dX2_lineNamed_48 : decode cX2_lineNamed 48 = .ok (.aload_n 0, 1) := by decide +kernel
theorem dX2_lineNamed_49 : decode cX2_lineNamed 49 = .ok (.getfield 12, 3) := by decide +kernel
theorem dX2_lineNamed_52 : decode cX2_lineNamed 52 = .ok (.ldc 162, 2) := by decide +kernel
theorem dX2_lineNamed_54 : decode cX2_lineNamed 54 = .ok (.invokevirtual 154, 3) := by decide +kernel
theorem dX2_lineNamed_57 : decode cX2_lineNamed 57 = .ok (.ifCond .eq 7, 3) := by decide +kernel
theorem dX2_lineNamed_60 : decode cX2_lineNamed 60 = .ok (.iconst 3, 1) := by decide +kernel
theorem dX2_lineNamed_61 : decode cX2_lineNamed 61 = .ok (.goto 122, 3) := by decide +kernel
theorem dX2_lineNamed_64 : decode cX2_lineNamed 64 = .ok (.aload_n 0, 1) := by decide +kernel
theorem dX2_lineNamed_65 : decode cX2_lineNamed 65 = .ok (.getfield 12, 3) := by decide +kernel
theorem dX2_lineNamed_68 : decode cX2_lineNamed 68 = .ok (.ldc 164, 2) := by decide +kernel
theorem dX2_lineNamed_70 : decode cX2_lineNamed 70 = .ok (.invokevirtual 154, 3) := by decide +kernel
theorem dX2_lineNamed_73 : decode cX2_lineNamed 73 = .ok (.ifCond .eq 7, 3) := by decide +kernel
theorem dX2_lineNamed_76 : decode cX2_lineNamed 76 = .ok (.iconst 4, 1) := by decide +kernel
theorem dX2_lineNamed_77 : decode cX2_lineNamed 77 = .ok (.goto 106, 3) := by decide +kernel
theorem dX2_lineNamed_80 : decode cX2_lineNamed 80 = .ok (.aload_n 0, 1) := by decide +kernel
theorem dX2_lineNamed_81 : decode cX2_lineNamed 81 = .ok (.getfield 12, 3) := by decide +kernel
theorem dX2_lineNamed_84 : decode cX2_lineNamed 84 = .ok (.ldc 166, 2) := by decide +kernel
theorem dX2_lineNamed_86 : decode cX2_lineNamed 86 = .ok (.invokevirtual 154, 3) := by decide +kernel
theorem dX2_lineNamed_89 : decode cX2_lineNamed 89 = .ok (.ifCond .eq 7, 3) := by decide +kernel
theorem dX2_lineNamed_92 : decode cX2_lineNamed 92 = .ok (.iconst 5, 1) := by decide +kernel
theorem dX2_lineNamed_93 : decode cX2_lineNamed 93 = .ok (.goto 90, 3) := by decide +kernel
theorem dX2_lineNamed_96 : decode cX2_lineNamed 96 = .ok (.aload_n 0, 1) := by decide +kernel
theorem dX2_lineNamed_97 : decode cX2_lineNamed 97 = .ok (.getfield 12, 3) := by decide +kernel
theorem dX2_lineNamed_100 : decode cX2_lineNamed 100 = .ok (.ldc 168, 2) := by decide +kernel
theorem dX2_lineNamed_102 : decode cX2_lineNamed 102 = .ok (.invokevirtual 154, 3) := by decide +kernel
theorem dX2_lineNamed_105 : decode cX2_lineNamed 105 = .ok (.ifCond .eq 8, 3) := by decide +kernel
theorem dX2_lineNamed_108 : decode cX2_lineNamed 108 = .ok (.bipush 6, 2) := by decide +kernel
theorem dX2_lineNamed_110 : decode cX2_lineNamed 110 = .ok (.goto 73, 3) := by decide +kernel
theorem dX2_lineNamed_113 : decode cX2_lineNamed 113 = .ok (.aload_n 0, 1) := by decide +kernel
theorem dX2_lineNamed_114 : decode cX2_lineNamed 114 = .ok (.getfield 12, 3) := by decide +kernel
theorem dX2_lineNamed_117 : decode cX2_lineNamed 117 = .ok (.ldc 170, 2) := by decide +kernel
theorem dX2_lineNamed_119 : decode cX2_lineNamed 119 = .ok (.invokevirtual 154, 3) := by decide +kernel
theorem dX2_lineNamed_122 : decode cX2_lineNamed 122 = .ok (.ifCond .eq 8, 3) := by decide +kernel
theorem dX2_lineNamed_125 : decode cX2_lineNamed 125 = .ok (.bipush 7, 2) := by decide +kernel
theorem dX2_lineNamed_127 : decode cX2_lineNamed 127 = .ok (.goto 56, 3) := by decide +kernel
theorem dX2_lineNamed_130 : decode cX2_lineNamed 130 = .ok (.aload_n 0, 1) := by decide +kernel
theorem dX2_lineNamed_131 : decode cX2_lineNamed 131 = .ok (.getfield 12, 3) := by decide +kernel
theorem dX2_lineNamed_134 : decode cX2_lineNamed 134 = .ok (.ldc 172, 2) := by decide +kernel
theorem dX2_lineNamed_136 : decode cX2_lineNamed 136 = .ok (.invokevirtual 154, 3) := by decide +kernel
theorem dX2_lineNamed_139 : decode cX2_lineNamed 139 = .ok (.ifCond .eq 8, 3) := by decide +kernel
theorem dX2_lineNamed_142 : decode cX2_lineNamed 142 = .ok (.bipush 8, 2) := by decide +kernel
theorem dX2_lineNamed_144 : decode cX2_lineNamed 144 = .ok (.goto 39, 3) := by decide +kernel
theorem dX2_lineNamed_147 : decode cX2_lineNamed 147 = .ok (.aload_n 0, 1) := by decide +kernel
theorem dX2_lineNamed_148 : decode cX2_lineNamed 148 = .ok (.getfield 12, 3) := by decide +kernel
theorem dX2_lineNamed_151 : decode cX2_lineNamed 151 = .ok (.ldc 174, 2) := by decide +kernel
theorem dX2_lineNamed_153 : decode cX2_lineNamed 153 = .ok (.invokevirtual 154, 3) := by decide +kernel
theorem dX2_lineNamed_156 : decode cX2_lineNamed 156 = .ok (.ifCond .eq 8, 3) := by decide +kernel
theorem dX2_lineNamed_159 : decode cX2_lineNamed 159 = .ok (.bipush 10, 2) := by decide +kernel
theorem dX2_lineNamed_161 : decode cX2_lineNamed 161 = .ok (.goto 22, 3) := by decide +kernel
theorem dX2_lineNamed_164 : decode cX2_lineNamed 164 = .ok (.aload_n 0, 1) := by decide +kernel
theorem dX2_lineNamed_165 : decode cX2_lineNamed 165 = .ok (.getfield 12, 3) := by decide +kernel
theorem dX2_lineNamed_168 : decode cX2_lineNamed 168 = .ok (.ldc 176, 2) := by decide +kernel
theorem dX2_lineNamed_170 : decode cX2_lineNamed 170 = .ok (.invokevirtual 154, 3) := by decide +kernel
theorem dX2_lineNamed_173 : decode cX2_lineNamed 173 = .ok (.ifCond .eq 8, 3) := by decide +kernel
theorem dX2_lineNamed_176 : decode cX2_lineNamed 176 = .ok (.bipush 12, 2) := by decide +kernel
theorem dX2_lineNamed_178 : decode cX2_lineNamed 178 = .ok (.goto 5, 3) := by decide +kernel
theorem dX2_lineNamed_181 : decode cX2_lineNamed 181 = .ok (.bipush (-4), 2) := by decide +kernel
theorem dX2_lineNamed_183 : decode cX2_lineNamed 183 = .ok (.ireturn, 1) := by decide +kernel
theorem dX2_kindNamed_0 : decode cX2_kindNamed 0 = .ok (.aload_n 0, 1) := by decide +kernel
theorem dX2_kindNamed_1 : decode cX2_kindNamed 1 = .ok (.getfield 12, 3) := by decide +kernel
theorem dX2_kindNamed_4 : decode cX2_kindNamed 4 = .ok (.ldc 178, 2) := by decide +kernel
theorem dX2_kindNamed_6 : decode cX2_kindNamed 6 = .ok (.invokevirtual 154, 3) := by decide +kernel
theorem dX2_kindNamed_9 : decode cX2_kindNamed 9 = .ok (.ifCond .eq 7, 3) := by decide +kernel
theorem dX2_kindNamed_12 : decode cX2_kindNamed 12 = .ok (.iconst 0, 1) := by decide +kernel
theorem dX2_kindNamed_13 : decode cX2_kindNamed 13 = .ok (.goto 69, 3) := by decide +kernel
theorem dX2_kindNamed_16 : decode cX2_kindNamed 16 = .ok (.aload_n 0, 1) := by decide +kernel
theorem dX2_kindNamed_17 : decode cX2_kindNamed 17 = .ok (.getfield 12, 3) := by decide +kernel
theorem dX2_kindNamed_20 : decode cX2_kindNamed 20 = .ok (.ldc 180, 2) := by decide +kernel
theorem dX2_kindNamed_22 : decode cX2_kindNamed 22 = .ok (.invokevirtual 154, 3) := by decide +kernel
theorem dX2_kindNamed_25 : decode cX2_kindNamed 25 = .ok (.ifCond .eq 7, 3) := by decide +kernel
theorem dX2_kindNamed_28 : decode cX2_kindNamed 28 = .ok (.iconst 1, 1) := by decide +kernel
theorem dX2_kindNamed_29 : decode cX2_kindNamed 29 = .ok (.goto 53, 3) := by decide +kernel
theorem dX2_kindNamed_32 : decode cX2_kindNamed 32 = .ok (.aload_n 0, 1) := by decide +kernel
theorem dX2_kindNamed_33 : decode cX2_kindNamed 33 = .ok (.getfield 12, 3) := by decide +kernel
theorem dX2_kindNamed_36 : decode cX2_kindNamed 36 = .ok (.ldc 182, 2) := by decide +kernel
theorem dX2_kindNamed_38 : decode cX2_kindNamed 38 = .ok (.invokevirtual 154, 3) := by decide +kernel
theorem dX2_kindNamed_41 : decode cX2_kindNamed 41 = .ok (.ifCond .eq 7, 3) := by decide +kernel
theorem dX2_kindNamed_44 : decode cX2_kindNamed 44 = .ok (.iconst 2, 1) := by decide +kernel
theorem dX2_kindNamed_45 : decode cX2_kindNamed 45 = .ok (.goto 37, 3) := by decide +kernel
theorem dX2_kindNamed_48 : decode cX2_kindNamed 48 = .ok (.aload_n 0, 1) := by decide +kernel
theorem dX2_kindNamed_49 : decode cX2_kindNamed 49 = .ok (.getfield 12, 3) := by decide +kernel
theorem dX2_kindNamed_52 : decode cX2_kindNamed 52 = .ok (.ldc 184, 2) := by decide +kernel
theorem dX2_kindNamed_54 : decode cX2_kindNamed 54 = .ok (.invokevirtual 154, 3) := by decide +kernel
theorem dX2_kindNamed_57 : decode cX2_kindNamed 57 = .ok (.ifCond .eq 7, 3) := by decide +kernel
theorem dX2_kindNamed_60 : decode cX2_kindNamed 60 = .ok (.iconst 3, 1) := by decide +kernel
theorem dX2_kindNamed_61 : decode cX2_kindNamed 61 = .ok (.goto 21, 3) := by decide +kernel
theorem dX2_kindNamed_64 : decode cX2_kindNamed 64 = .ok (.aload_n 0, 1) := by decide +kernel
theorem dX2_kindNamed_65 : decode cX2_kindNamed 65 = .ok (.getfield 12, 3) := by decide +kernel
theorem dX2_kindNamed_68 : decode cX2_kindNamed 68 = .ok (.ldc 186, 2) := by decide +kernel
theorem dX2_kindNamed_70 : decode cX2_kindNamed 70 = .ok (.invokevirtual 154, 3) := by decide +kernel
theorem dX2_kindNamed_73 : decode cX2_kindNamed 73 = .ok (.ifCond .eq 7, 3) := by decide +kernel
theorem dX2_kindNamed_76 : decode cX2_kindNamed 76 = .ok (.iconst 4, 1) := by decide +kernel
theorem dX2_kindNamed_77 : decode cX2_kindNamed 77 = .ok (.goto 5, 3) := by decide +kernel
theorem dX2_kindNamed_80 : decode cX2_kindNamed 80 = .ok (.bipush (-4), 2) := by decide +kernel
theorem dX2_kindNamed_82 : decode cX2_kindNamed 82 = .ok (.ireturn, 1) := by decide +kernel
theorem dX2_isJointMissing_0 : decode cX2_isJointMissing 0 = .ok (.aload_n 0, 1) := by decide +kernel
theorem dX2_isJointMissing_1 : decode cX2_isJointMissing 1 = .ok (.getfield 21, 3) := by decide +kernel
theorem dX2_isJointMissing_4 : decode cX2_isJointMissing 4 = .ok (.iconst 0, 1) := by decide +kernel
theorem dX2_isJointMissing_5 : decode cX2_isJointMissing 5 = .ok (.invokevirtual 65, 3) := by decide +kernel
theorem dX2_isJointMissing_8 : decode cX2_isJointMissing 8 = .ok (.istore_n 1, 1) := by decide +kernel
theorem dX2_isJointMissing_9 : decode cX2_isJointMissing 9 = .ok (.aload_n 0, 1) := by decide +kernel
theorem dX2_isJointMissing_10 : decode cX2_isJointMissing 10 = .ok (.getfield 21, 3) := by decide +kernel
theorem dX2_isJointMissing_13 : decode cX2_isJointMissing 13 = .ok (.iconst 5, 1) := by decide +kernel
theorem dX2_isJointMissing_14 : decode cX2_isJointMissing 14 = .ok (.invokevirtual 65, 3) := by decide +kernel
theorem dX2_isJointMissing_17 : decode cX2_isJointMissing 17 = .ok (.iload_n 1, 1) := by decide +kernel
theorem dX2_isJointMissing_18 : decode cX2_isJointMissing 18 = .ok (.if_icmp .gt 16, 3) := by decide +kernel
theorem dX2_isJointMissing_21 : decode cX2_isJointMissing 21 = .ok (.aload_n 0, 1) := by decide +kernel
theorem dX2_isJointMissing_22 : decode cX2_isJointMissing 22 = .ok (.getfield 21, 3) := by decide +kernel
theorem dX2_isJointMissing_25 : decode cX2_isJointMissing 25 = .ok (.iconst 4, 1) := by decide +kernel
theorem dX2_isJointMissing_26 : decode cX2_isJointMissing 26 = .ok (.invokevirtual 65, 3) := by decide +kernel
theorem dX2_isJointMissing_29 : decode cX2_isJointMissing 29 = .ok (.iload_n 1, 1) := by decide +kernel
theorem dX2_isJointMissing_30 : decode cX2_isJointMissing 30 = .ok (.ishr, 1) := by decide +kernel
theorem dX2_isJointMissing_31 : decode cX2_isJointMissing 31 = .ok (.ifCond .eq 5, 3) := by decide +kernel
theorem dX2_isJointMissing_34 : decode cX2_isJointMissing 34 = .ok (.iconst 1, 1) := by decide +kernel
theorem dX2_isJointMissing_35 : decode cX2_isJointMissing 35 = .ok (.ireturn, 1) := by decide +kernel
theorem dX2_isJointMissing_36 : decode cX2_isJointMissing 36 = .ok (.iconst 0, 1) := by decide +kernel
theorem dX2_isJointMissing_37 : decode cX2_isJointMissing 37 = .ok (.istore_n 2, 1) := by decide +kernel
theorem dX2_isJointMissing_38 : decode cX2_isJointMissing 38 = .ok (.iload_n 2, 1) := by decide +kernel
theorem dX2_isJointMissing_39 : decode cX2_isJointMissing 39 = .ok (.aload_n 0, 1) := by decide +kernel
theorem dX2_isJointMissing_40 : decode cX2_isJointMissing 40 = .ok (.getfield 21, 3) := by decide +kernel
theorem dX2_isJointMissing_43 : decode cX2_isJointMissing 43 = .ok (.iconst 1, 1) := by decide +kernel
theorem dX2_isJointMissing_44 : decode cX2_isJointMissing 44 = .ok (.invokevirtual 65, 3) := by decide +kernel
theorem dX2_isJointMissing_47 : decode cX2_isJointMissing 47 = .ok (.if_icmp .ge 26, 3) := by decide +kernel
theorem dX2_isJointMissing_50 : decode cX2_isJointMissing 50 = .ok (.aload_n 0, 1) := by decide +kernel
theorem dX2_isJointMissing_51 : decode cX2_isJointMissing 51 = .ok (.getfield 21, 3) := by decide +kernel
theorem dX2_isJointMissing_54 : decode cX2_isJointMissing 54 = .ok (.getfield 119, 3) := by decide +kernel
theorem dX2_isJointMissing_57 : decode cX2_isJointMissing 57 = .ok (.iload_n 2, 1) := by decide +kernel
theorem dX2_isJointMissing_58 : decode cX2_isJointMissing 58 = .ok (.invokestatic 73, 3) := by decide +kernel
theorem dX2_isJointMissing_61 : decode cX2_isJointMissing 61 = .ok (.iload_n 1, 1) := by decide +kernel
theorem dX2_isJointMissing_62 : decode cX2_isJointMissing 62 = .ok (.if_icmp .le 5, 3) := by decide +kernel
theorem dX2_isJointMissing_65 : decode cX2_isJointMissing 65 = .ok (.iconst 1, 1) := by decide +kernel
theorem dX2_isJointMissing_66 : decode cX2_isJointMissing 66 = .ok (.ireturn, 1) := by decide +kernel
theorem dX2_isJointMissing_67 : decode cX2_isJointMissing 67 = .ok (.iinc 2 1, 3) := by decide +kernel
theorem dX2_isJointMissing_70 : decode cX2_isJointMissing 70 = .ok (.goto (-32), 3) := by decide +kernel
theorem dX2_isJointMissing_73 : decode cX2_isJointMissing 73 = .ok (.iconst 0, 1) := by decide +kernel
theorem dX2_isJointMissing_74 : decode cX2_isJointMissing 74 = .ok (.istore_n 2, 1) := by decide +kernel
theorem dX2_isJointMissing_75 : decode cX2_isJointMissing 75 = .ok (.iload_n 2, 1) := by decide +kernel
theorem dX2_isJointMissing_76 : decode cX2_isJointMissing 76 = .ok (.aload_n 0, 1) := by decide +kernel
theorem dX2_isJointMissing_77 : decode cX2_isJointMissing 77 = .ok (.getfield 21, 3) := by decide +kernel
theorem dX2_isJointMissing_80 : decode cX2_isJointMissing 80 = .ok (.iconst 2, 1) := by decide +kernel
theorem dX2_isJointMissing_81 : decode cX2_isJointMissing 81 = .ok (.invokevirtual 65, 3) := by decide +kernel
theorem dX2_isJointMissing_84 : decode cX2_isJointMissing 84 = .ok (.if_icmp .ge 26, 3) := by decide +kernel
theorem dX2_isJointMissing_87 : decode cX2_isJointMissing 87 = .ok (.aload_n 0, 1) := by decide +kernel
theorem dX2_isJointMissing_88 : decode cX2_isJointMissing 88 = .ok (.getfield 21, 3) := by decide +kernel
theorem dX2_isJointMissing_91 : decode cX2_isJointMissing 91 = .ok (.getfield 128, 3) := by decide +kernel
theorem dX2_isJointMissing_94 : decode cX2_isJointMissing 94 = .ok (.iload_n 2, 1) := by decide +kernel
theorem dX2_isJointMissing_95 : decode cX2_isJointMissing 95 = .ok (.invokestatic 73, 3) := by decide +kernel
theorem dX2_isJointMissing_98 : decode cX2_isJointMissing 98 = .ok (.iload_n 1, 1) := by decide +kernel
theorem dX2_isJointMissing_99 : decode cX2_isJointMissing 99 = .ok (.if_icmp .le 5, 3) := by decide +kernel
theorem dX2_isJointMissing_102 : decode cX2_isJointMissing 102 = .ok (.iconst 1, 1) := by decide +kernel
theorem dX2_isJointMissing_103 : decode cX2_isJointMissing 103 = .ok (.ireturn, 1) := by decide +kernel
theorem dX2_isJointMissing_104 : decode cX2_isJointMissing 104 = .ok (.iinc 2 1, 3) := by decide +kernel
theorem dX2_isJointMissing_107 : decode cX2_isJointMissing 107 = .ok (.goto (-32), 3) := by decide +kernel
theorem dX2_isJointMissing_110 : decode cX2_isJointMissing 110 = .ok (.iconst 0, 1) := by decide +kernel
theorem dX2_isJointMissing_111 : decode cX2_isJointMissing 111 = .ok (.ireturn, 1) := by decide +kernel
theorem dX3_init_0 : decode cX3_init 0 = .ok (.aload_n 0, 1) := by decide +kernel
theorem dX3_init_1 : decode cX3_init 1 = .ok (.invokespecial 3, 3) := by decide +kernel
theorem dX3_init_4 : decode cX3_init 4 = .ok (.aload_n 0, 1) := by decide +kernel
theorem dX3_init_5 : decode cX3_init 5 = .ok (.bipush 6, 2) := by decide +kernel
theorem dX3_init_7 : decode cX3_init 7 = .ok (.newarray .int, 2) := by decide +kernel
theorem dX3_init_9 : decode cX3_init 9 = .ok (.putfield 9, 3) := by decide +kernel
theorem dX3_init_12 : decode cX3_init 12 = .ok (.aload_n 0, 1) := by decide +kernel
theorem dX3_init_13 : decode cX3_init 13 = .ok (.bipush 6, 2) := by decide +kernel
theorem dX3_init_15 : decode cX3_init 15 = .ok (.newarray .int, 2) := by decide +kernel
theorem dX3_init_17 : decode cX3_init 17 = .ok (.putfield 15, 3) := by decide +kernel
theorem dX3_init_20 : decode cX3_init 20 = .ok (.return_, 1) := by decide +kernel
theorem dX3_add_0 : decode cX3_add 0 = .ok (.aload_n 0, 1) := by decide +kernel
theorem dX3_add_1 : decode cX3_add 1 = .ok (.getfield 18, 3) := by decide +kernel
theorem dX3_add_4 : decode cX3_add 4 = .ok (.bipush 6, 2) := by decide +kernel
theorem dX3_add_6 : decode cX3_add 6 = .ok (.if_icmp .lt 5, 3) := by decide +kernel
theorem dX3_add_9 : decode cX3_add 9 = .ok (.iconst 0, 1) := by decide +kernel
theorem dX3_add_10 : decode cX3_add 10 = .ok (.ireturn, 1) := by decide +kernel
theorem dX3_add_11 : decode cX3_add 11 = .ok (.aload_n 0, 1) := by decide +kernel
theorem dX3_add_12 : decode cX3_add 12 = .ok (.getfield 9, 3) := by decide +kernel
theorem dX3_add_15 : decode cX3_add 15 = .ok (.aload_n 0, 1) := by decide +kernel
theorem dX3_add_16 : decode cX3_add 16 = .ok (.getfield 18, 3) := by decide +kernel
theorem dX3_add_19 : decode cX3_add 19 = .ok (.iload_n 1, 1) := by decide +kernel
theorem dX3_add_20 : decode cX3_add 20 = .ok (.invokestatic 22, 3) := by decide +kernel
theorem dX3_add_23 : decode cX3_add 23 = .ok (.aload_n 0, 1) := by decide +kernel
theorem dX3_add_24 : decode cX3_add 24 = .ok (.getfield 15, 3) := by decide +kernel
theorem dX3_add_27 : decode cX3_add 27 = .ok (.aload_n 0, 1) := by decide +kernel
theorem dX3_add_28 : decode cX3_add 28 = .ok (.getfield 18, 3) := by decide +kernel
theorem dX3_add_31 : decode cX3_add 31 = .ok (.iload_n 2, 1) := by decide +kernel
theorem dX3_add_32 : decode cX3_add 32 = .ok (.invokestatic 22, 3) := by decide +kernel
theorem dX3_add_35 : decode cX3_add 35 = .ok (.aload_n 0, 1) := by decide +kernel
theorem dX3_add_36 : decode cX3_add 36 = .ok (.dup, 1) := by decide +kernel
theorem dX3_add_37 : decode cX3_add 37 = .ok (.getfield 18, 3) := by decide +kernel
theorem dX3_add_40 : decode cX3_add 40 = .ok (.iconst 1, 1) := by decide +kernel
theorem dX3_add_41 : decode cX3_add 41 = .ok (.iadd, 1) := by decide +kernel
theorem dX3_add_42 : decode cX3_add 42 = .ok (.putfield 18, 3) := by decide +kernel
theorem dX3_add_45 : decode cX3_add 45 = .ok (.iconst 1, 1) := by decide +kernel
theorem dX3_add_46 : decode cX3_add 46 = .ok (.ireturn, 1) := by decide +kernel
theorem dX3_leaveIn_0 : decode cX3_leaveIn 0 = .ok (.iconst 0, 1) := by decide +kernel
theorem dX3_leaveIn_1 : decode cX3_leaveIn 1 = .ok (.istore_n 3, 1) := by decide +kernel
theorem dX3_leaveIn_2 : decode cX3_leaveIn 2 = .ok (.iload_n 3, 1) := by decide +kernel
theorem dX3_leaveIn_3 : decode cX3_leaveIn 3 = .ok (.aload_n 0, 1) := by decide +kernel
theorem dX3_leaveIn_4 : decode cX3_leaveIn 4 = .ok (.getfield 18, 3) := by decide +kernel
theorem dX3_leaveIn_7 : decode cX3_leaveIn 7 = .ok (.if_icmp .ge 33, 3) := by decide +kernel
theorem dX3_leaveIn_10 : decode cX3_leaveIn 10 = .ok (.aload_n 0, 1) := by decide +kernel
theorem dX3_leaveIn_11 : decode cX3_leaveIn 11 = .ok (.getfield 9, 3) := by decide +kernel
theorem dX3_leaveIn_14 : decode cX3_leaveIn 14 = .ok (.iload_n 3, 1) := by decide +kernel
theorem dX3_leaveIn_15 : decode cX3_leaveIn 15 = .ok (.invokestatic 26, 3) := by decide +kernel
theorem dX3_leaveIn_18 : decode cX3_leaveIn 18 = .ok (.iload_n 2, 1) := by decide +kernel
theorem dX3_leaveIn_19 : decode cX3_leaveIn 19 = .ok (.if_icmp .ne 15, 3) := by decide +kernel
theorem dX3_leaveIn_22 : decode cX3_leaveIn 22 = .ok (.aload_n 1, 1) := by decide +kernel
theorem dX3_leaveIn_23 : decode cX3_leaveIn 23 = .ok (.aload_n 0, 1) := by decide +kernel
theorem dX3_leaveIn_24 : decode cX3_leaveIn 24 = .ok (.getfield 15, 3) := by decide +kernel
theorem dX3_leaveIn_27 : decode cX3_leaveIn 27 = .ok (.iload_n 3, 1) := by decide +kernel
theorem dX3_leaveIn_28 : decode cX3_leaveIn 28 = .ok (.invokestatic 26, 3) := by decide +kernel
theorem dX3_leaveIn_31 : decode cX3_leaveIn 31 = .ok (.invokestatic 30, 3) := by decide +kernel
theorem dX3_leaveIn_34 : decode cX3_leaveIn 34 = .ok (.iinc 3 1, 3) := by decide +kernel
theorem dX3_leaveIn_37 : decode cX3_leaveIn 37 = .ok (.goto (-35), 3) := by decide +kernel
theorem dX3_leaveIn_40 : decode cX3_leaveIn 40 = .ok (.return_, 1) := by decide +kernel
theorem dX3_leaveOnly_0 : decode cX3_leaveOnly 0 = .ok (.iconst 0, 1) := by decide +kernel
theorem dX3_leaveOnly_1 : decode cX3_leaveOnly 1 = .ok (.istore_n 2, 1) := by decide +kernel
theorem dX3_leaveOnly_2 : decode cX3_leaveOnly 2 = .ok (.iload_n 2, 1) := by decide +kernel
theorem dX3_leaveOnly_3 : decode cX3_leaveOnly 3 = .ok (.aload_n 0, 1) := by decide +kernel
theorem dX3_leaveOnly_4 : decode cX3_leaveOnly 4 = .ok (.arraylength, 1) := by decide +kernel
theorem dX3_leaveOnly_5 : decode cX3_leaveOnly 5 = .ok (.if_icmp .ge 18, 3) := by decide +kernel
theorem dX3_leaveOnly_8 : decode cX3_leaveOnly 8 = .ok (.iload_n 2, 1) := by decide +kernel
theorem dX3_leaveOnly_9 : decode cX3_leaveOnly 9 = .ok (.iload_n 1, 1) := by decide +kernel
theorem dX3_leaveOnly_10 : decode cX3_leaveOnly 10 = .ok (.if_icmp .eq 7, 3) := by decide +kernel
theorem dX3_leaveOnly_13 : decode cX3_leaveOnly 13 = .ok (.aload_n 0, 1) := by decide +kernel
theorem dX3_leaveOnly_14 : decode cX3_leaveOnly 14 = .ok (.iload_n 2, 1) := by decide +kernel
theorem dX3_leaveOnly_15 : decode cX3_leaveOnly 15 = .ok (.lconst 0, 1) := by decide +kernel
theorem dX3_leaveOnly_16 : decode cX3_leaveOnly 16 = .ok (.lastore, 1) := by decide +kernel
theorem dX3_leaveOnly_17 : decode cX3_leaveOnly 17 = .ok (.iinc 2 1, 3) := by decide +kernel
theorem dX3_leaveOnly_20 : decode cX3_leaveOnly 20 = .ok (.goto (-18), 3) := by decide +kernel
theorem dX3_leaveOnly_23 : decode cX3_leaveOnly 23 = .ok (.return_, 1) := by decide +kernel
theorem dX4_init_0 : decode cX4_init 0 = .ok (.aload_n 0, 1) := by decide +kernel
theorem dX4_init_1 : decode cX4_init 1 = .ok (.invokespecial 3, 3) := by decide +kernel
theorem dX4_init_4 : decode cX4_init 4 = .ok (.aload_n 0, 1) := by decide +kernel
theorem dX4_init_5 : decode cX4_init 5 = .ok (.iconst 4, 1) := by decide +kernel
theorem dX4_init_6 : decode cX4_init 6 = .ok (.newarray .int, 2) := by decide +kernel
theorem dX4_init_8 : decode cX4_init 8 = .ok (.putfield 9, 3) := by decide +kernel
theorem dX4_init_11 : decode cX4_init 11 = .ok (.aload_n 0, 1) := by decide +kernel
theorem dX4_init_12 : decode cX4_init 12 = .ok (.iconst 4, 1) := by decide +kernel
theorem dX4_init_13 : decode cX4_init 13 = .ok (.newarray .int, 2) := by decide +kernel
theorem dX4_init_15 : decode cX4_init 15 = .ok (.putfield 15, 3) := by decide +kernel
theorem dX4_init_18 : decode cX4_init 18 = .ok (.aload_n 0, 1) := by decide +kernel
theorem dX4_init_19 : decode cX4_init 19 = .ok (.iconst 4, 1) := by decide +kernel
theorem dX4_init_20 : decode cX4_init 20 = .ok (.newarray .int, 2) := by decide +kernel
theorem dX4_init_22 : decode cX4_init 22 = .ok (.putfield 18, 3) := by decide +kernel
theorem dX4_init_25 : decode cX4_init 25 = .ok (.aload_n 0, 1) := by decide +kernel
theorem dX4_init_26 : decode cX4_init 26 = .ok (.sipush 160, 3) := by decide +kernel
theorem dX4_init_29 : decode cX4_init 29 = .ok (.newarray .int, 2) := by decide +kernel
theorem dX4_init_31 : decode cX4_init 31 = .ok (.putfield 21, 3) := by decide +kernel
theorem dX4_init_34 : decode cX4_init 34 = .ok (.return_, 1) := by decide +kernel
theorem dX4_renew_0 : decode cX4_renew 0 = .ok (.aload_n 0, 1) := by decide +kernel
theorem dX4_renew_1 : decode cX4_renew 1 = .ok (.getfield 9, 3) := by decide +kernel
theorem dX4_renew_4 : decode cX4_renew 4 = .ok (.iload_n 1, 1) := by decide +kernel
theorem dX4_renew_5 : decode cX4_renew 5 = .ok (.iconst 1, 1) := by decide +kernel
theorem dX4_renew_6 : decode cX4_renew 6 = .ok (.invokestatic 24, 3) := by decide +kernel
theorem dX4_renew_9 : decode cX4_renew 9 = .ok (.aload_n 0, 1) := by decide +kernel
theorem dX4_renew_10 : decode cX4_renew 10 = .ok (.getfield 15, 3) := by decide +kernel
theorem dX4_renew_13 : decode cX4_renew 13 = .ok (.iload_n 1, 1) := by decide +kernel
theorem dX4_renew_14 : decode cX4_renew 14 = .ok (.iload_n 2, 1) := by decide +kernel
theorem dX4_renew_15 : decode cX4_renew 15 = .ok (.invokestatic 24, 3) := by decide +kernel
theorem dX4_renew_18 : decode cX4_renew 18 = .ok (.aload_n 0, 1) := by decide +kernel
theorem dX4_renew_19 : decode cX4_renew 19 = .ok (.getfield 18, 3) := by decide +kernel
theorem dX4_renew_22 : decode cX4_renew 22 = .ok (.iload_n 1, 1) := by decide +kernel
theorem dX4_renew_23 : decode cX4_renew 23 = .ok (.iload_n 3, 1) := by decide +kernel
theorem dX4_renew_24 : decode cX4_renew 24 = .ok (.invokestatic 24, 3) := by decide +kernel
theorem dX4_renew_27 : decode cX4_renew 27 = .ok (.iconst 0, 1) := by decide +kernel
theorem dX4_renew_28 : decode cX4_renew 28 = .ok (.istore 4, 2) := by decide +kernel
theorem dX4_renew_30 : decode cX4_renew 30 = .ok (.iload 4, 2) := by decide +kernel
theorem dX4_renew_32 : decode cX4_renew 32 = .ok (.bipush 40, 2) := by decide +kernel
theorem dX4_renew_34 : decode cX4_renew 34 = .ok (.if_icmp .ge 24, 3) := by decide +kernel
theorem dX4_renew_37 : decode cX4_renew 37 = .ok (.aload_n 0, 1) := by decide +kernel
theorem dX4_renew_38 : decode cX4_renew 38 = .ok (.getfield 21, 3) := by decide +kernel
theorem dX4_renew_41 : decode cX4_renew 41 = .ok (.iload_n 1, 1) := by decide +kernel
theorem dX4_renew_42 : decode cX4_renew 42 = .ok (.bipush 40, 2) := by decide +kernel
theorem dX4_renew_44 : decode cX4_renew 44 = .ok (.imul, 1) := by decide +kernel
theorem dX4_renew_45 : decode cX4_renew 45 = .ok (.iload 4, 2) := by decide +kernel
theorem dX4_renew_47 : decode cX4_renew 47 = .ok (.iadd, 1) := by decide +kernel
theorem dX4_renew_48 : decode cX4_renew 48 = .ok (.iconst 0, 1) := by decide +kernel
theorem dX4_renew_49 : decode cX4_renew 49 = .ok (.invokestatic 24, 3) := by decide +kernel
theorem dX4_renew_52 : decode cX4_renew 52 = .ok (.iinc 4 1, 3) := by decide +kernel
theorem dX4_renew_55 : decode cX4_renew 55 = .ok (.goto (-25), 3) := by decide +kernel
theorem dX4_renew_58 : decode cX4_renew 58 = .ok (.return_, 1) := by decide +kernel
theorem dX4_cellsOf_0 : decode cX4_cellsOf 0 = .ok (.aload_n 0, 1) := by decide +kernel
theorem dX4_cellsOf_1 : decode cX4_cellsOf 1 = .ok (.getfield 9, 3) := by decide +kernel
theorem dX4_cellsOf_4 : decode cX4_cellsOf 4 = .ok (.iload_n 1, 1) := by decide +kernel
theorem dX4_cellsOf_5 : decode cX4_cellsOf 5 = .ok (.invokestatic 28, 3) := by decide +kernel
theorem dX4_cellsOf_8 : decode cX4_cellsOf 8 = .ok (.iconst 1, 1) := by decide +kernel
theorem dX4_cellsOf_9 : decode cX4_cellsOf 9 = .ok (.if_icmp .ne 14, 3) := by decide +kernel
theorem dX4_cellsOf_12 : decode cX4_cellsOf 12 = .ok (.aload_n 0, 1) := by decide +kernel
theorem dX4_cellsOf_13 : decode cX4_cellsOf 13 = .ok (.getfield 18, 3) := by decide +kernel
theorem dX4_cellsOf_16 : decode cX4_cellsOf 16 = .ok (.iload_n 1, 1) := by decide +kernel
theorem dX4_cellsOf_17 : decode cX4_cellsOf 17 = .ok (.invokestatic 28, 3) := by decide +kernel
theorem dX4_cellsOf_20 : decode cX4_cellsOf 20 = .ok (.goto 5, 3) := by decide +kernel
theorem dX4_cellsOf_23 : decode cX4_cellsOf 23 = .ok (.bipush (-4), 2) := by decide +kernel
theorem dX4_cellsOf_25 : decode cX4_cellsOf 25 = .ok (.ireturn, 1) := by decide +kernel
theorem dX4_faultOfCell_0 : decode cX4_faultOfCell 0 = .ok (.aload_n 0, 1) := by decide +kernel
theorem dX4_faultOfCell_1 : decode cX4_faultOfCell 1 = .ok (.getfield 9, 3) := by decide +kernel
theorem dX4_faultOfCell_4 : decode cX4_faultOfCell 4 = .ok (.iload_n 1, 1) := by decide +kernel
theorem dX4_faultOfCell_5 : decode cX4_faultOfCell 5 = .ok (.invokestatic 28, 3) := by decide +kernel
theorem dX4_faultOfCell_8 : decode cX4_faultOfCell 8 = .ok (.ifCond .ne 5, 3) := by decide +kernel
theorem dX4_faultOfCell_11 : decode cX4_faultOfCell 11 = .ok (.iconst 1, 1) := by decide +kernel
theorem dX4_faultOfCell_12 : decode cX4_faultOfCell 12 = .ok (.ireturn, 1) := by decide +kernel
theorem dX4_faultOfCell_13 : decode cX4_faultOfCell 13 = .ok (.iload_n 2, 1) := by decide +kernel
theorem dX4_faultOfCell_14 : decode cX4_faultOfCell 14 = .ok (.ifCond .lt 15, 3) := by decide +kernel
theorem dX4_faultOfCell_17 : decode cX4_faultOfCell 17 = .ok (.iload_n 2, 1) := by decide +kernel
theorem dX4_faultOfCell_18 : decode cX4_faultOfCell 18 = .ok (.aload_n 0, 1) := by decide +kernel
theorem dX4_faultOfCell_19 : decode cX4_faultOfCell 19 = .ok (.getfield 18, 3) := by decide +kernel
theorem dX4_faultOfCell_22 : decode cX4_faultOfCell 22 = .ok (.iload_n 1, 1) := by decide +kernel
theorem dX4_faultOfCell_23 : decode cX4_faultOfCell 23 = .ok (.invokestatic 28, 3) := by decide +kernel
theorem dX4_faultOfCell_26 : decode cX4_faultOfCell 26 = .ok (.if_icmp .lt 7, 3) := by decide +kernel
theorem dX4_faultOfCell_29 : decode cX4_faultOfCell 29 = .ok (.iconst 2, 1) := by decide +kernel
theorem dX4_faultOfCell_30 : decode cX4_faultOfCell 30 = .ok (.goto 4, 3) := by decide +kernel
theorem dX4_faultOfCell_33 : decode cX4_faultOfCell 33 = .ok (.iconst 0, 1) := by decide +kernel
theorem dX4_faultOfCell_34 : decode cX4_faultOfCell 34 = .ok (.ireturn, 1) := by decide +kernel
theorem dX4_faultOfLane_0 : decode cX4_faultOfLane 0 = .ok (.aload_n 0, 1) := by decide +kernel
theorem dX4_faultOfLane_1 : decode cX4_faultOfLane 1 = .ok (.getfield 9, 3) := by decide +kernel
theorem dX4_faultOfLane_4 : decode cX4_faultOfLane 4 = .ok (.iload_n 1, 1) := by decide +kernel
theorem dX4_faultOfLane_5 : decode cX4_faultOfLane 5 = .ok (.invokestatic 28, 3) := by decide +kernel
theorem dX4_faultOfLane_8 : decode cX4_faultOfLane 8 = .ok (.ifCond .ne 5, 3) := by decide +kernel
theorem dX4_faultOfLane_11 : decode cX4_faultOfLane 11 = .ok (.iconst 1, 1) := by decide +kernel
theorem dX4_faultOfLane_12 : decode cX4_faultOfLane 12 = .ok (.ireturn, 1) := by decide +kernel
theorem dX4_faultOfLane_13 : decode cX4_faultOfLane 13 = .ok (.aload_n 0, 1) := by decide +kernel
theorem dX4_faultOfLane_14 : decode cX4_faultOfLane 14 = .ok (.getfield 15, 3) := by decide +kernel
theorem dX4_faultOfLane_17 : decode cX4_faultOfLane 17 = .ok (.iload_n 1, 1) := by decide +kernel
theorem dX4_faultOfLane_18 : decode cX4_faultOfLane 18 = .ok (.invokestatic 28, 3) := by decide +kernel
theorem dX4_faultOfLane_21 : decode cX4_faultOfLane 21 = .ok (.iload_n 2, 1) := by decide +kernel
theorem dX4_faultOfLane_22 : decode cX4_faultOfLane 22 = .ok (.if_icmp .eq 7, 3) := by decide +kernel
theorem dX4_faultOfLane_25 : decode cX4_faultOfLane 25 = .ok (.iconst 3, 1) := by decide +kernel
theorem dX4_faultOfLane_26 : decode cX4_faultOfLane 26 = .ok (.goto 4, 3) := by decide +kernel
theorem dX4_faultOfLane_29 : decode cX4_faultOfLane 29 = .ok (.iconst 0, 1) := by decide +kernel
theorem dX4_faultOfLane_30 : decode cX4_faultOfLane 30 = .ok (.ireturn, 1) := by decide +kernel
theorem dX4_faultOfPair_0 : decode cX4_faultOfPair 0 = .ok (.aload_n 0, 1) := by decide +kernel
theorem dX4_faultOfPair_1 : decode cX4_faultOfPair 1 = .ok (.iload_n 1, 1) := by decide +kernel
theorem dX4_faultOfPair_2 : decode cX4_faultOfPair 2 = .ok (.iload_n 2, 1) := by decide +kernel
theorem dX4_faultOfPair_3 : decode cX4_faultOfPair 3 = .ok (.invokevirtual 32, 3) := by decide +kernel
theorem dX4_faultOfPair_6 : decode cX4_faultOfPair 6 = .ok (.istore_n 3, 1) := by decide +kernel
theorem dX4_faultOfPair_7 : decode cX4_faultOfPair 7 = .ok (.iload_n 3, 1) := by decide +kernel
theorem dX4_faultOfPair_8 : decode cX4_faultOfPair 8 = .ok (.ifCond .eq 7, 3) := by decide +kernel
theorem dX4_faultOfPair_11 : decode cX4_faultOfPair 11 = .ok (.iload_n 3, 1) := by decide +kernel
theorem dX4_faultOfPair_12 : decode cX4_faultOfPair 12 = .ok (.goto 11, 3) := by decide +kernel
theorem dX4_faultOfPair_15 : decode cX4_faultOfPair 15 = .ok (.aload_n 0, 1) := by decide +kernel
theorem dX4_faultOfPair_16 : decode cX4_faultOfPair 16 = .ok (.iload_n 1, 1) := by decide +kernel
theorem dX4_faultOfPair_17 : decode cX4_faultOfPair 17 = .ok (.iload_n 2, 1) := by decide +kernel
theorem dX4_faultOfPair_18 : decode cX4_faultOfPair 18 = .ok (.iconst 1, 1) := by decide +kernel
theorem dX4_faultOfPair_19 : decode cX4_faultOfPair 19 = .ok (.iadd, 1) := by decide +kernel
theorem dX4_faultOfPair_20 : decode cX4_faultOfPair 20 = .ok (.invokevirtual 32, 3) := by decide +kernel
theorem dX4_faultOfPair_23 : decode cX4_faultOfPair 23 = .ok (.ireturn, 1) := by decide +kernel
theorem dX4_write_0 : decode cX4_write 0 = .ok (.aload_n 0, 1) := by decide +kernel
theorem dX4_write_1 : decode cX4_write 1 = .ok (.getfield 15, 3) := by decide +kernel
theorem dX4_write_4 : decode cX4_write 4 = .ok (.iload_n 1, 1) := by decide +kernel
theorem dX4_write_5 : decode cX4_write 5 = .ok (.invokestatic 28, 3) := by decide +kernel
theorem dX4_write_8 : decode cX4_write 8 = .ok (.istore 4, 2) := by decide +kernel
theorem dX4_write_10 : decode cX4_write 10 = .ok (.aload_n 0, 1) := by decide +kernel
theorem dX4_write_11 : decode cX4_write 11 = .ok (.getfield 21, 3) := by decide +kernel
theorem dX4_write_14 : decode cX4_write 14 = .ok (.iload_n 1, 1) := by decide +kernel
theorem dX4_write_15 : decode cX4_write 15 = .ok (.bipush 40, 2) := by decide +kernel
theorem dX4_write_17 : decode cX4_write 17 = .ok (.imul, 1) := by decide +kernel
theorem dX4_write_18 : decode cX4_write 18 = .ok (.iload_n 2, 1) := by decide +kernel
theorem dX4_write_19 : decode cX4_write 19 = .ok (.iadd, 1) := by decide +kernel
theorem dX4_write_20 : decode cX4_write 20 = .ok (.iload 4, 2) := by decide +kernel
theorem dX4_write_22 : decode cX4_write 22 = .ok (.ifCond .ne 8, 3) := by decide +kernel
theorem dX4_write_25 : decode cX4_write 25 = .ok (.iload_n 3, 1) := by decide +kernel
theorem dX4_write_26 : decode cX4_write 26 = .ok (.i2b, 1) := by decide +kernel
theorem dX4_write_27 : decode cX4_write 27 = .ok (.goto 15, 3) := by decide +kernel
theorem dX4_write_30 : decode cX4_write 30 = .ok (.iload 4, 2) := by decide +kernel
theorem dX4_write_32 : decode cX4_write 32 = .ok (.iconst 1, 1) := by decide +kernel
theorem dX4_write_33 : decode cX4_write 33 = .ok (.if_icmp .ne 8, 3) := by decide +kernel
theorem dX4_write_36 : decode cX4_write 36 = .ok (.iload_n 3, 1) := by decide +kernel
theorem dX4_write_37 : decode cX4_write 37 = .ok (.i2s, 1) := by decide +kernel
theorem dX4_write_38 : decode cX4_write 38 = .ok (.goto 4, 3) := by decide +kernel
theorem dX4_write_41 : decode cX4_write 41 = .ok (.iload_n 3, 1) := by decide +kernel
theorem dX4_write_42 : decode cX4_write 42 = .ok (.invokestatic 24, 3) := by decide +kernel
theorem dX4_write_45 : decode cX4_write 45 = .ok (.return_, 1) := by decide +kernel
theorem dX4_cell_0 : decode cX4_cell 0 = .ok (.aload_n 0, 1) := by decide +kernel
theorem dX4_cell_1 : decode cX4_cell 1 = .ok (.getfield 21, 3) := by decide +kernel
theorem dX4_cell_4 : decode cX4_cell 4 = .ok (.iload_n 1, 1) := by decide +kernel
theorem dX4_cell_5 : decode cX4_cell 5 = .ok (.bipush 40, 2) := by decide +kernel
theorem dX4_cell_7 : decode cX4_cell 7 = .ok (.imul, 1) := by decide +kernel
theorem dX4_cell_8 : decode cX4_cell 8 = .ok (.iload_n 2, 1) := by decide +kernel
theorem dX4_cell_9 : decode cX4_cell 9 = .ok (.iadd, 1) := by decide +kernel
theorem dX4_cell_10 : decode cX4_cell 10 = .ok (.invokestatic 28, 3) := by decide +kernel
theorem dX4_cell_13 : decode cX4_cell 13 = .ok (.ireturn, 1) := by decide +kernel
theorem dX5_init_0 : decode cX5_init 0 = .ok (.aload_n 0, 1) := by decide +kernel
theorem dX5_init_1 : decode cX5_init 1 = .ok (.invokespecial 3, 3) := by decide +kernel
theorem dX5_init_4 : decode cX5_init 4 = .ok (.aload_n 0, 1) := by decide +kernel
theorem dX5_init_5 : decode cX5_init 5 = .ok (.sipush 160, 3) := by decide +kernel
theorem dX5_init_8 : decode cX5_init 8 = .ok (.newarray .byte, 2) := by decide +kernel
theorem dX5_init_10 : decode cX5_init 10 = .ok (.putfield 9, 3) := by decide +kernel
theorem dX5_init_13 : decode cX5_init 13 = .ok (.return_, 1) := by decide +kernel
theorem dX5_add_0 : decode cX5_add 0 = .ok (.aload_n 0, 1) := by decide +kernel
theorem dX5_add_1 : decode cX5_add 1 = .ok (.getfield 15, 3) := by decide +kernel
theorem dX5_add_4 : decode cX5_add 4 = .ok (.ifCond .lt 15, 3) := by decide +kernel
theorem dX5_add_7 : decode cX5_add 7 = .ok (.aload_n 0, 1) := by decide +kernel
theorem dX5_add_8 : decode cX5_add 8 = .ok (.getfield 15, 3) := by decide +kernel
theorem dX5_add_11 : decode cX5_add 11 = .ok (.aload_n 0, 1) := by decide +kernel
theorem dX5_add_12 : decode cX5_add 12 = .ok (.getfield 9, 3) := by decide +kernel
theorem dX5_add_15 : decode cX5_add 15 = .ok (.arraylength, 1) := by decide +kernel
theorem dX5_add_16 : decode cX5_add 16 = .ok (.if_icmp .lt 5, 3) := by decide +kernel
theorem dX5_add_19 : decode cX5_add 19 = .ok (.iconst 0, 1) := by decide +kernel
theorem dX5_add_20 : decode cX5_add 20 = .ok (.ireturn, 1) := by decide +kernel
theorem dX5_add_21 : decode cX5_add 21 = .ok (.aload_n 0, 1) := by decide +kernel
theorem dX5_add_22 : decode cX5_add 22 = .ok (.getfield 9, 3) := by decide +kernel
theorem dX5_add_25 : decode cX5_add 25 = .ok (.aload_n 0, 1) := by decide +kernel
theorem dX5_add_26 : decode cX5_add 26 = .ok (.getfield 15, 3) := by decide +kernel
theorem dX5_add_29 : decode cX5_add 29 = .ok (.iload_n 1, 1) := by decide +kernel
theorem dX5_add_30 : decode cX5_add 30 = .ok (.i2b, 1) := by decide +kernel
theorem dX5_add_31 : decode cX5_add 31 = .ok (.bastore, 1) := by decide +kernel
theorem dX5_add_32 : decode cX5_add 32 = .ok (.aload_n 0, 1) := by decide +kernel
theorem dX5_add_33 : decode cX5_add 33 = .ok (.dup, 1) := by decide +kernel
theorem dX5_add_34 : decode cX5_add 34 = .ok (.getfield 15, 3) := by decide +kernel
theorem dX5_add_37 : decode cX5_add 37 = .ok (.iconst 1, 1) := by decide +kernel
theorem dX5_add_38 : decode cX5_add 38 = .ok (.iadd, 1) := by decide +kernel
theorem dX5_add_39 : decode cX5_add 39 = .ok (.putfield 15, 3) := by decide +kernel
theorem dX5_add_42 : decode cX5_add 42 = .ok (.iconst 1, 1) := by decide +kernel
theorem dX5_add_43 : decode cX5_add 43 = .ok (.ireturn, 1) := by decide +kernel
theorem dX5_byteAt_0 : decode cX5_byteAt 0 = .ok (.iload_n 1, 1) := by decide +kernel
theorem dX5_byteAt_1 : decode cX5_byteAt 1 = .ok (.ifCond .lt 29, 3) := by decide +kernel
theorem dX5_byteAt_4 : decode cX5_byteAt 4 = .ok (.iload_n 1, 1) := by decide +kernel
theorem dX5_byteAt_5 : decode cX5_byteAt 5 = .ok (.aload_n 0, 1) := by decide +kernel
theorem dX5_byteAt_6 : decode cX5_byteAt 6 = .ok (.getfield 15, 3) := by decide +kernel
theorem dX5_byteAt_9 : decode cX5_byteAt 9 = .ok (.if_icmp .ge 21, 3) := by decide +kernel
theorem dX5_byteAt_12 : decode cX5_byteAt 12 = .ok (.iload_n 1, 1) := by decide +kernel
theorem dX5_byteAt_13 : decode cX5_byteAt 13 = .ok (.aload_n 0, 1) := by decide +kernel
theorem dX5_byteAt_14 : decode cX5_byteAt 14 = .ok (.getfield 9, 3) := by decide +kernel
theorem dX5_byteAt_17 : decode cX5_byteAt 17 = .ok (.arraylength, 1) := by decide +kernel
theorem dX5_byteAt_18 : decode cX5_byteAt 18 = .ok (.if_icmp .ge 12, 3) := by decide +kernel
theorem dX5_byteAt_21 : decode cX5_byteAt 21 = .ok (.aload_n 0, 1) := by decide +kernel
theorem dX5_byteAt_22 : decode cX5_byteAt 22 = .ok (.getfield 9, 3) := by decide +kernel
theorem dX5_byteAt_25 : decode cX5_byteAt 25 = .ok (.iload_n 1, 1) := by decide +kernel
theorem dX5_byteAt_26 : decode cX5_byteAt 26 = .ok (.baload, 1) := by decide +kernel
theorem dX5_byteAt_27 : decode cX5_byteAt 27 = .ok (.goto 4, 3) := by decide +kernel
theorem dX5_byteAt_30 : decode cX5_byteAt 30 = .ok (.iconst (-1), 1) := by decide +kernel
theorem dX5_byteAt_31 : decode cX5_byteAt 31 = .ok (.ireturn, 1) := by decide +kernel
theorem dX5_readToken_0 : decode cX5_readToken 0 = .ok (.aload_n 0, 1) := by decide +kernel
theorem dX5_readToken_1 : decode cX5_readToken 1 = .ok (.getfield 19, 3) := by decide +kernel
theorem dX5_readToken_4 : decode cX5_readToken 4 = .ok (.aload_n 0, 1) := by decide +kernel
theorem dX5_readToken_5 : decode cX5_readToken 5 = .ok (.getfield 15, 3) := by decide +kernel
theorem dX5_readToken_8 : decode cX5_readToken 8 = .ok (.if_icmp .ge 29, 3) := by decide +kernel
theorem dX5_readToken_11 : decode cX5_readToken 11 = .ok (.aload_n 0, 1) := by decide +kernel
theorem dX5_readToken_12 : decode cX5_readToken 12 = .ok (.aload_n 0, 1) := by decide +kernel
theorem dX5_readToken_13 : decode cX5_readToken 13 = .ok (.getfield 19, 3) := by decide +kernel
theorem dX5_readToken_16 : decode cX5_readToken 16 = .ok (.invokevirtual 22, 3) := by decide +kernel
theorem dX5_readToken_19 : decode cX5_readToken 19 = .ok (.bipush 32, 2) := by decide +kernel
theorem dX5_readToken_21 : decode cX5_readToken 21 = .ok (.if_icmp .ne 16, 3) := by decide +kernel
theorem dX5_readToken_24 : decode cX5_readToken 24 = .ok (.aload_n 0, 1) := by decide +kernel
theorem dX5_readToken_25 : decode cX5_readToken 25 = .ok (.dup, 1) := by decide +kernel
theorem dX5_readToken_26 : decode cX5_readToken 26 = .ok (.getfield 19, 3) := by decide +kernel
theorem dX5_readToken_29 : decode cX5_readToken 29 = .ok (.iconst 1, 1) := by decide +kernel
theorem dX5_readToken_30 : decode cX5_readToken 30 = .ok (.iadd, 1) := by decide +kernel
theorem dX5_readToken_31 : decode cX5_readToken 31 = .ok (.putfield 19, 3) := by decide +kernel
theorem dX5_readToken_34 : decode cX5_readToken 34 = .ok (.goto (-34), 3) := by decide +kernel
theorem dX5_readToken_37 : decode cX5_readToken 37 = .ok (.aload_n 0, 1) := by decide +kernel
theorem dX5_readToken_38 : decode cX5_readToken 38 = .ok (.aload_n 0, 1) := by decide +kernel
theorem dX5_readToken_39 : decode cX5_readToken 39 = .ok (.getfield 19, 3) := by decide +kernel
theorem dX5_readToken_42 : decode cX5_readToken 42 = .ok (.putfield 26, 3) := by decide +kernel
theorem dX5_readToken_45 : decode cX5_readToken 45 = .ok (.aload_n 0, 1) := by decide +kernel
theorem dX5_readToken_46 : decode cX5_readToken 46 = .ok (.aload_n 0, 1) := by decide +kernel
theorem dX5_readToken_47 : decode cX5_readToken 47 = .ok (.getfield 19, 3) := by decide +kernel
theorem dX5_readToken_50 : decode cX5_readToken 50 = .ok (.aload_n 0, 1) := by decide +kernel
theorem dX5_readToken_51 : decode cX5_readToken 51 = .ok (.getfield 15, 3) := by decide +kernel
theorem dX5_readToken_54 : decode cX5_readToken 54 = .ok (.if_icmp .ge 17, 3) := by decide +kernel
theorem dX5_readToken_57 : decode cX5_readToken 57 = .ok (.aload_n 0, 1) := by decide +kernel
theorem dX5_readToken_58 : decode cX5_readToken 58 = .ok (.aload_n 0, 1) := by decide +kernel
theorem dX5_readToken_59 : decode cX5_readToken 59 = .ok (.getfield 19, 3) := by decide +kernel
theorem dX5_readToken_62 : decode cX5_readToken 62 = .ok (.invokevirtual 22, 3) := by decide +kernel
theorem dX5_readToken_65 : decode cX5_readToken 65 = .ok (.invokestatic 29, 3) := by decide +kernel
theorem dX5_readToken_68 : decode cX5_readToken 68 = .ok (.goto 4, 3) := by decide +kernel
theorem dX5_readToken_71 : decode cX5_readToken 71 = .ok (.iconst 4, 1) := by decide +kernel
theorem dX5_readToken_72 : decode cX5_readToken 72 = .ok (.putfield 32, 3) := by decide +kernel
theorem dX5_readToken_75 : decode cX5_readToken 75 = .ok (.aload_n 0, 1) := by decide +kernel
theorem dX5_readToken_76 : decode cX5_readToken 76 = .ok (.getfield 19, 3) := by decide +kernel
theorem dX5_readToken_79 : decode cX5_readToken 79 = .ok (.aload_n 0, 1) := by decide +kernel
theorem dX5_readToken_80 : decode cX5_readToken 80 = .ok (.getfield 15, 3) := by decide +kernel
theorem dX5_readToken_83 : decode cX5_readToken 83 = .ok (.if_icmp .ge 53, 3) := by decide +kernel
theorem dX5_readToken_86 : decode cX5_readToken 86 = .ok (.aload_n 0, 1) := by decide +kernel
theorem dX5_readToken_87 : decode cX5_readToken 87 = .ok (.aload_n 0, 1) := by decide +kernel
theorem dX5_readToken_88 : decode cX5_readToken 88 = .ok (.getfield 19, 3) := by decide +kernel
theorem dX5_readToken_91 : decode cX5_readToken 91 = .ok (.invokevirtual 22, 3) := by decide +kernel
theorem dX5_readToken_94 : decode cX5_readToken 94 = .ok (.invokestatic 29, 3) := by decide +kernel
theorem dX5_readToken_97 : decode cX5_readToken 97 = .ok (.aload_n 0, 1) := by decide +kernel
theorem dX5_readToken_98 : decode cX5_readToken 98 = .ok (.getfield 32, 3) := by decide +kernel
theorem dX5_readToken_101 : decode cX5_readToken 101 = .ok (.if_icmp .ne 35, 3) := by decide +kernel
theorem dX5_readToken_104 : decode cX5_readToken 104 = .ok (.aload_n 0, 1) := by decide +kernel
theorem dX5_readToken_105 : decode cX5_readToken 105 = .ok (.getfield 32, 3) := by decide +kernel
theorem dX5_readToken_108 : decode cX5_readToken 108 = .ok (.iconst 3, 1) := by decide +kernel
theorem dX5_readToken_109 : decode cX5_readToken 109 = .ok (.if_icmp .ne 14, 3) := by decide +kernel
theorem dX5_readToken_112 : decode cX5_readToken 112 = .ok (.aload_n 0, 1) := by decide +kernel
theorem dX5_readToken_113 : decode cX5_readToken 113 = .ok (.getfield 19, 3) := by decide +kernel
theorem dX5_readToken_116 : decode cX5_readToken 116 = .ok (.aload_n 0, 1) := by decide +kernel
theorem dX5_readToken_117 : decode cX5_readToken 117 = .ok (.getfield 26, 3) := by decide +kernel
theorem dX5_readToken_120 : decode cX5_readToken 120 = .ok (.if_icmp .ne 16, 3) := by decide +kernel
theorem dX5_readToken_123 : decode cX5_readToken 123 = .ok (.aload_n 0, 1) := by decide +kernel
theorem dX5_readToken_124 : decode cX5_readToken 124 = .ok (.dup, 1) := by decide +kernel
theorem dX5_readToken_125 : decode cX5_readToken 125 = .ok (.getfield 19, 3) := by decide +kernel
theorem dX5_readToken_128 : decode cX5_readToken 128 = .ok (.iconst 1, 1) := by decide +kernel
theorem dX5_readToken_129 : decode cX5_readToken 129 = .ok (.iadd, 1) := by decide +kernel
theorem dX5_readToken_130 : decode cX5_readToken 130 = .ok (.putfield 19, 3) := by decide +kernel
theorem dX5_readToken_133 : decode cX5_readToken 133 = .ok (.goto (-58), 3) := by decide +kernel
theorem dX5_readToken_136 : decode cX5_readToken 136 = .ok (.aload_n 0, 1) := by decide +kernel
theorem dX5_readToken_137 : decode cX5_readToken 137 = .ok (.getfield 32, 3) := by decide +kernel
theorem dX5_readToken_140 : decode cX5_readToken 140 = .ok (.iconst 2, 1) := by decide +kernel
theorem dX5_readToken_141 : decode cX5_readToken 141 = .ok (.if_icmp .ne 21, 3) := by decide +kernel
theorem dX5_readToken_144 : decode cX5_readToken 144 = .ok (.aload_n 0, 1) := by decide +kernel
theorem dX5_readToken_145 : decode cX5_readToken 145 = .ok (.getfield 19, 3) := by decide +kernel
theorem dX5_readToken_148 : decode cX5_readToken 148 = .ok (.aload_n 0, 1) := by decide +kernel
theorem dX5_readToken_149 : decode cX5_readToken 149 = .ok (.getfield 26, 3) := by decide +kernel
theorem dX5_readToken_152 : decode cX5_readToken 152 = .ok (.isub, 1) := by decide +kernel
theorem dX5_readToken_153 : decode cX5_readToken 153 = .ok (.iconst 2, 1) := by decide +kernel
theorem dX5_readToken_154 : decode cX5_readToken 154 = .ok (.if_icmp .le 8, 3) := by decide +kernel
theorem dX5_readToken_157 : decode cX5_readToken 157 = .ok (.aload_n 0, 1) := by decide +kernel
theorem dX5_readToken_158 : decode cX5_readToken 158 = .ok (.iconst 0, 1) := by decide +kernel
theorem dX5_readToken_159 : decode cX5_readToken 159 = .ok (.putfield 32, 3) := by decide +kernel
theorem dX5_readToken_162 : decode cX5_readToken 162 = .ok (.return_, 1) := by decide +kernel
theorem dX5_numberRead_0 : decode cX5_numberRead 0 = .ok (.aload_n 0, 1) := by decide +kernel
theorem dX5_numberRead_1 : decode cX5_numberRead 1 = .ok (.aload_n 0, 1) := by decide +kernel
theorem dX5_numberRead_2 : decode cX5_numberRead 2 = .ok (.getfield 26, 3) := by decide +kernel
theorem dX5_numberRead_5 : decode cX5_numberRead 5 = .ok (.invokevirtual 22, 3) := by decide +kernel
theorem dX5_numberRead_8 : decode cX5_numberRead 8 = .ok (.bipush 48, 2) := by decide +kernel
theorem dX5_numberRead_10 : decode cX5_numberRead 10 = .ok (.isub, 1) := by decide +kernel
theorem dX5_numberRead_11 : decode cX5_numberRead 11 = .ok (.istore_n 1, 1) := by decide +kernel
theorem dX5_numberRead_12 : decode cX5_numberRead 12 = .ok (.aload_n 0, 1) := by decide +kernel
theorem dX5_numberRead_13 : decode cX5_numberRead 13 = .ok (.getfield 19, 3) := by decide +kernel
theorem dX5_numberRead_16 : decode cX5_numberRead 16 = .ok (.aload_n 0, 1) := by decide +kernel
theorem dX5_numberRead_17 : decode cX5_numberRead 17 = .ok (.getfield 26, 3) := by decide +kernel
theorem dX5_numberRead_20 : decode cX5_numberRead 20 = .ok (.isub, 1) := by decide +kernel
theorem dX5_numberRead_21 : decode cX5_numberRead 21 = .ok (.iconst 1, 1) := by decide +kernel
theorem dX5_numberRead_22 : decode cX5_numberRead 22 = .ok (.if_icmp .ne 7, 3) := by decide +kernel
theorem dX5_numberRead_25 : decode cX5_numberRead 25 = .ok (.iload_n 1, 1) := by decide +kernel
theorem dX5_numberRead_26 : decode cX5_numberRead 26 = .ok (.goto 21, 3) := by decide +kernel
theorem dX5_numberRead_29 : decode cX5_numberRead 29 = .ok (.bipush 10, 2) := by decide +kernel
theorem dX5_numberRead_31 : decode cX5_numberRead 31 = .ok (.iload_n 1, 1) := by decide +kernel
theorem dX5_numberRead_32 : decode cX5_numberRead 32 = .ok (.imul, 1) := by decide +kernel
theorem dX5_numberRead_33 : decode cX5_numberRead 33 = .ok (.aload_n 0, 1) := by decide +kernel
theorem dX5_numberRead_34 : decode cX5_numberRead 34 = .ok (.aload_n 0, 1) := by decide +kernel
theorem dX5_numberRead_35 : decode cX5_numberRead 35 = .ok (.getfield 26, 3) := by decide +kernel
theorem dX5_numberRead_38 : decode cX5_numberRead 38 = .ok (.iconst 1, 1) := by decide +kernel
theorem dX5_numberRead_39 : decode cX5_numberRead 39 = .ok (.iadd, 1) := by decide +kernel
theorem dX5_numberRead_40 : decode cX5_numberRead 40 = .ok (.invokevirtual 22, 3) := by decide +kernel
theorem dX5_numberRead_43 : decode cX5_numberRead 43 = .ok (.iadd, 1) := by decide +kernel
theorem dX5_numberRead_44 : decode cX5_numberRead 44 = .ok (.bipush 48, 2) := by decide +kernel
theorem dX5_numberRead_46 : decode cX5_numberRead 46 = .ok (.isub, 1) := by decide +kernel
theorem dX5_numberRead_47 : decode cX5_numberRead 47 = .ok (.ireturn, 1) := by decide +kernel
theorem dX5_kindOf_0 : decode cX5_kindOf 0 = .ok (.iload_n 0, 1) := by decide +kernel
theorem dX5_kindOf_1 : decode cX5_kindOf 1 = .ok (.bipush 97, 2) := by decide +kernel
theorem dX5_kindOf_3 : decode cX5_kindOf 3 = .ok (.if_icmp .lt 11, 3) := by decide +kernel
theorem dX5_kindOf_6 : decode cX5_kindOf 6 = .ok (.iload_n 0, 1) := by decide +kernel
theorem dX5_kindOf_7 : decode cX5_kindOf 7 = .ok (.bipush 122, 2) := by decide +kernel
theorem dX5_kindOf_9 : decode cX5_kindOf 9 = .ok (.if_icmp .gt 5, 3) := by decide +kernel
theorem dX5_kindOf_12 : decode cX5_kindOf 12 = .ok (.iconst 1, 1) := by decide +kernel
theorem dX5_kindOf_13 : decode cX5_kindOf 13 = .ok (.ireturn, 1) := by decide +kernel
theorem dX5_kindOf_14 : decode cX5_kindOf 14 = .ok (.iload_n 0, 1) := by decide +kernel
theorem dX5_kindOf_15 : decode cX5_kindOf 15 = .ok (.bipush 48, 2) := by decide +kernel
theorem dX5_kindOf_17 : decode cX5_kindOf 17 = .ok (.if_icmp .lt 11, 3) := by decide +kernel
theorem dX5_kindOf_20 : decode cX5_kindOf 20 = .ok (.iload_n 0, 1) := by decide +kernel
theorem dX5_kindOf_21 : decode cX5_kindOf 21 = .ok (.bipush 57, 2) := by decide +kernel
theorem dX5_kindOf_23 : decode cX5_kindOf 23 = .ok (.if_icmp .gt 5, 3) := by decide +kernel
theorem dX5_kindOf_26 : decode cX5_kindOf 26 = .ok (.iconst 2, 1) := by decide +kernel
theorem dX5_kindOf_27 : decode cX5_kindOf 27 = .ok (.ireturn, 1) := by decide +kernel
theorem dX5_kindOf_28 : decode cX5_kindOf 28 = .ok (.iload_n 0, 1) := by decide +kernel
theorem dX5_kindOf_29 : decode cX5_kindOf 29 = .ok (.bipush 59, 2) := by decide +kernel
theorem dX5_kindOf_31 : decode cX5_kindOf 31 = .ok (.if_icmp .ne 7, 3) := by decide +kernel
theorem dX5_kindOf_34 : decode cX5_kindOf 34 = .ok (.iconst 3, 1) := by decide +kernel
theorem dX5_kindOf_35 : decode cX5_kindOf 35 = .ok (.goto 4, 3) := by decide +kernel
theorem dX5_kindOf_38 : decode cX5_kindOf 38 = .ok (.iconst 0, 1) := by decide +kernel
theorem dX5_kindOf_39 : decode cX5_kindOf 39 = .ok (.ireturn, 1) := by decide +kernel
theorem dX5_isName_0 : decode cX5_isName 0 = .ok (.aload_n 0, 1) := by decide +kernel
theorem dX5_isName_1 : decode cX5_isName 1 = .ok (.getfield 32, 3) := by decide +kernel
theorem dX5_isName_4 : decode cX5_isName 4 = .ok (.iconst 1, 1) := by decide +kernel
theorem dX5_isName_5 : decode cX5_isName 5 = .ok (.if_icmp .ne 19, 3) := by decide +kernel
theorem dX5_isName_8 : decode cX5_isName 8 = .ok (.aload_n 0, 1) := by decide +kernel
theorem dX5_isName_9 : decode cX5_isName 9 = .ok (.getfield 19, 3) := by decide +kernel
theorem dX5_isName_12 : decode cX5_isName 12 = .ok (.aload_n 0, 1) := by decide +kernel
theorem dX5_isName_13 : decode cX5_isName 13 = .ok (.getfield 26, 3) := by decide +kernel
theorem dX5_isName_16 : decode cX5_isName 16 = .ok (.isub, 1) := by decide +kernel
theorem dX5_isName_17 : decode cX5_isName 17 = .ok (.aload_n 1, 1) := by decide +kernel
theorem dX5_isName_18 : decode cX5_isName 18 = .ok (.invokevirtual 35, 3) := by decide +kernel
theorem dX5_isName_21 : decode cX5_isName 21 = .ok (.if_icmp .eq 5, 3) := by decide +kernel
theorem dX5_isName_24 : decode cX5_isName 24 = .ok (.iconst 0, 1) := by decide +kernel
theorem dX5_isName_25 : decode cX5_isName 25 = .ok (.ireturn, 1) := by decide +kernel
theorem dX5_isName_26 : decode cX5_isName 26 = .ok (.iconst 0, 1) := by decide +kernel
theorem dX5_isName_27 : decode cX5_isName 27 = .ok (.istore_n 2, 1) := by decide +kernel
theorem dX5_isName_28 : decode cX5_isName 28 = .ok (.iload_n 2, 1) := by decide +kernel
theorem dX5_isName_29 : decode cX5_isName 29 = .ok (.aload_n 1, 1) := by decide +kernel
theorem dX5_isName_30 : decode cX5_isName 30 = .ok (.invokevirtual 35, 3) := by decide +kernel
theorem dX5_isName_33 : decode cX5_isName 33 = .ok (.if_icmp .ge 29, 3) := by decide +kernel
theorem dX5_isName_36 : decode cX5_isName 36 = .ok (.aload_n 0, 1) := by decide +kernel
theorem dX5_isName_37 : decode cX5_isName 37 = .ok (.aload_n 0, 1) := by decide +kernel
theorem dX5_isName_38 : decode cX5_isName 38 = .ok (.getfield 26, 3) := by decide +kernel
theorem dX5_isName_41 : decode cX5_isName 41 = .ok (.iload_n 2, 1) := by decide +kernel
theorem dX5_isName_42 : decode cX5_isName 42 = .ok (.iadd, 1) := by decide +kernel
theorem dX5_isName_43 : decode cX5_isName 43 = .ok (.invokevirtual 22, 3) := by decide +kernel
theorem dX5_isName_46 : decode cX5_isName 46 = .ok (.aload_n 1, 1) := by decide +kernel
theorem dX5_isName_47 : decode cX5_isName 47 = .ok (.iload_n 2, 1) := by decide +kernel
theorem dX5_isName_48 : decode cX5_isName 48 = .ok (.invokevirtual 40, 3) := by decide +kernel
theorem dX5_isName_51 : decode cX5_isName 51 = .ok (.if_icmp .eq 5, 3) := by decide +kernel
theorem dX5_isName_54 : decode cX5_isName 54 = .ok (.iconst 0, 1) := by decide +kernel
theorem dX5_isName_55 : decode cX5_isName 55 = .ok (.ireturn, 1) := by decide +kernel
theorem dX5_isName_56 : decode cX5_isName 56 = .ok (.iinc 2 1, 3) := by decide +kernel
theorem dX5_isName_59 : decode cX5_isName 59 = .ok (.goto (-31), 3) := by decide +kernel
theorem dX5_isName_62 : decode cX5_isName 62 = .ok (.iconst 1, 1) := by decide +kernel
theorem dX5_isName_63 : decode cX5_isName 63 = .ok (.ireturn, 1) := by decide +kernel
theorem dX6_init_0 : decode cX6_init 0 = .ok (.aload_n 0, 1) := by decide +kernel
theorem dX6_init_1 : decode cX6_init 1 = .ok (.invokespecial 3, 3) := by decide +kernel
theorem dX6_init_4 : decode cX6_init 4 = .ok (.aload_n 0, 1) := by decide +kernel
theorem dX6_init_5 : decode cX6_init 5 = .ok (.bipush 13, 2) := by decide +kernel
theorem dX6_init_7 : decode cX6_init 7 = .ok (.newarray .int, 2) := by decide +kernel
theorem dX6_init_9 : decode cX6_init 9 = .ok (.putfield 9, 3) := by decide +kernel
theorem dX6_init_12 : decode cX6_init 12 = .ok (.aload_n 0, 1) := by decide +kernel
theorem dX6_init_13 : decode cX6_init 13 = .ok (.iconst 3, 1) := by decide +kernel
theorem dX6_init_14 : decode cX6_init 14 = .ok (.newarray .int, 2) := by decide +kernel
theorem dX6_init_16 : decode cX6_init 16 = .ok (.putfield 15, 3) := by decide +kernel
theorem dX6_init_19 : decode cX6_init 19 = .ok (.aload_n 0, 1) := by decide +kernel
theorem dX6_init_20 : decode cX6_init 20 = .ok (.iconst 3, 1) := by decide +kernel
theorem dX6_init_21 : decode cX6_init 21 = .ok (.newarray .int, 2) := by decide +kernel
theorem dX6_init_23 : decode cX6_init 23 = .ok (.putfield 18, 3) := by decide +kernel
theorem dX6_init_26 : decode cX6_init 26 = .ok (.aload_n 0, 1) := by decide +kernel
theorem dX6_init_27 : decode cX6_init 27 = .ok (.iconst 3, 1) := by decide +kernel
theorem dX6_init_28 : decode cX6_init 28 = .ok (.newarray .int, 2) := by decide +kernel
theorem dX6_init_30 : decode cX6_init 30 = .ok (.putfield 21, 3) := by decide +kernel
theorem dX6_init_33 : decode cX6_init 33 = .ok (.aload_n 0, 1) := by decide +kernel
theorem dX6_init_34 : decode cX6_init 34 = .ok (.iconst 3, 1) := by decide +kernel
theorem dX6_init_35 : decode cX6_init 35 = .ok (.newarray .int, 2) := by decide +kernel
theorem dX6_init_37 : decode cX6_init 37 = .ok (.putfield 24, 3) := by decide +kernel
theorem dX6_init_40 : decode cX6_init 40 = .ok (.aload_n 0, 1) := by decide +kernel
theorem dX6_init_41 : decode cX6_init 41 = .ok (.iconst 3, 1) := by decide +kernel
theorem dX6_init_42 : decode cX6_init 42 = .ok (.newarray .int, 2) := by decide +kernel
theorem dX6_init_44 : decode cX6_init 44 = .ok (.putfield 27, 3) := by decide +kernel
theorem dX6_init_47 : decode cX6_init 47 = .ok (.aload_n 0, 1) := by decide +kernel
theorem dX6_init_48 : decode cX6_init 48 = .ok (.iconst 5, 1) := by decide +kernel
theorem dX6_init_49 : decode cX6_init 49 = .ok (.newarray .int, 2) := by decide +kernel
theorem dX6_init_51 : decode cX6_init 51 = .ok (.putfield 30, 3) := by decide +kernel
theorem dX6_init_54 : decode cX6_init 54 = .ok (.aload_n 0, 1) := by decide +kernel
theorem dX6_init_55 : decode cX6_init 55 = .ok (.iconst 5, 1) := by decide +kernel
theorem dX6_init_56 : decode cX6_init 56 = .ok (.newarray .int, 2) := by decide +kernel
theorem dX6_init_58 : decode cX6_init 58 = .ok (.putfield 33, 3) := by decide +kernel
theorem dX6_init_61 : decode cX6_init 61 = .ok (.aload_n 0, 1) := by decide +kernel
theorem dX6_init_62 : decode cX6_init 62 = .ok (.invokevirtual 36, 3) := by decide +kernel
theorem dX6_init_65 : decode cX6_init 65 = .ok (.return_, 1) := by decide +kernel
theorem dX6_restart_0 : decode cX6_restart 0 = .ok (.getstatic 39, 3) := by decide +kernel
theorem dX6_restart_3 : decode cX6_restart 3 = .ok (.iconst 0, 1) := by decide +kernel
theorem dX6_restart_4 : decode cX6_restart 4 = .ok (.aload_n 0, 1) := by decide +kernel
theorem dX6_restart_5 : decode cX6_restart 5 = .ok (.getfield 9, 3) := by decide +kernel
theorem dX6_restart_8 : decode cX6_restart 8 = .ok (.iconst 0, 1) := by decide +kernel
theorem dX6_restart_9 : decode cX6_restart 9 = .ok (.bipush 13, 2) := by decide +kernel
theorem dX6_restart_11 : decode cX6_restart 11 = .ok (.invokestatic 42, 3) := by decide +kernel
theorem dX6_restart_14 : decode cX6_restart 14 = .ok (.return_, 1) := by decide +kernel
theorem dX6_take_0 : decode cX6_take 0 = .ok (.aload_n 1, 1) := by decide +kernel
theorem dX6_take_1 : decode cX6_take 1 = .ok (.getfield 9, 3) := by decide +kernel
theorem dX6_take_4 : decode cX6_take 4 = .ok (.iconst 0, 1) := by decide +kernel
theorem dX6_take_5 : decode cX6_take 5 = .ok (.aload_n 0, 1) := by decide +kernel
theorem dX6_take_6 : decode cX6_take 6 = .ok (.getfield 9, 3) := by decide +kernel
theorem dX6_take_9 : decode cX6_take 9 = .ok (.iconst 0, 1) := by decide +kernel
theorem dX6_take_10 : decode cX6_take 10 = .ok (.bipush 13, 2) := by decide +kernel
theorem dX6_take_12 : decode cX6_take 12 = .ok (.invokestatic 42, 3) := by decide +kernel
theorem dX6_take_15 : decode cX6_take 15 = .ok (.aload_n 1, 1) := by decide +kernel
theorem dX6_take_16 : decode cX6_take 16 = .ok (.getfield 15, 3) := by decide +kernel
theorem dX6_take_19 : decode cX6_take 19 = .ok (.iconst 0, 1) := by decide +kernel
theorem dX6_take_20 : decode cX6_take 20 = .ok (.aload_n 0, 1) := by decide +kernel
theorem dX6_take_21 : decode cX6_take 21 = .ok (.getfield 15, 3) := by decide +kernel
theorem dX6_take_24 : decode cX6_take 24 = .ok (.iconst 0, 1) := by decide +kernel
theorem dX6_take_25 : decode cX6_take 25 = .ok (.iconst 3, 1) := by decide +kernel
theorem dX6_take_26 : decode cX6_take 26 = .ok (.invokestatic 42, 3) := by decide +kernel
theorem dX6_take_29 : decode cX6_take 29 = .ok (.aload_n 1, 1) := by decide +kernel
theorem dX6_take_30 : decode cX6_take 30 = .ok (.getfield 18, 3) := by decide +kernel
theorem dX6_take_33 : decode cX6_take 33 = .ok (.iconst 0, 1) := by decide +kernel
theorem dX6_take_34 : decode cX6_take 34 = .ok (.aload_n 0, 1) := by decide +kernel
theorem dX6_take_35 : decode cX6_take 35 = .ok (.getfield 18, 3) := by decide +kernel
theorem dX6_take_38 : decode cX6_take 38 = .ok (.iconst 0, 1) := by decide +kernel
theorem dX6_take_39 : decode cX6_take 39 = .ok (.iconst 3, 1) := by decide +kernel
theorem dX6_take_40 : decode cX6_take 40 = .ok (.invokestatic 42, 3) := by decide +kernel
theorem dX6_take_43 : decode cX6_take 43 = .ok (.aload_n 1, 1) := by decide +kernel
theorem dX6_take_44 : decode cX6_take 44 = .ok (.getfield 21, 3) := by decide +kernel
theorem dX6_take_47 : decode cX6_take 47 = .ok (.iconst 0, 1) := by decide +kernel
theorem dX6_take_48 : decode cX6_take 48 = .ok (.aload_n 0, 1) := by decide +kernel
theorem dX6_take_49 : decode cX6_take 49 = .ok (.getfield 21, 3) := by decide +kernel
theorem dX6_take_52 : decode cX6_take 52 = .ok (.iconst 0, 1) := by decide +kernel
theorem dX6_take_53 : decode cX6_take 53 = .ok (.iconst 3, 1) := by decide +kernel
theorem dX6_take_54 : decode cX6_take 54 = .ok (.invokestatic 42, 3) := by decide +kernel
theorem dX6_take_57 : decode cX6_take 57 = .ok (.aload_n 1, 1) := by decide +kernel
theorem dX6_take_58 : decode cX6_take 58 = .ok (.getfield 24, 3) := by decide +kernel
theorem dX6_take_61 : decode cX6_take 61 = .ok (.iconst 0, 1) := by decide +kernel
theorem dX6_take_62 : decode cX6_take 62 = .ok (.aload_n 0, 1) := by decide +kernel
theorem dX6_take_63 : decode cX6_take 63 = .ok (.getfield 24, 3) := by decide +kernel
theorem dX6_take_66 : decode cX6_take 66 = .ok (.iconst 0, 1) := by decide +kernel
theorem dX6_take_67 : decode cX6_take 67 = .ok (.iconst 3, 1) := by decide +kernel
theorem dX6_take_68 : decode cX6_take 68 = .ok (.invokestatic 42, 3) := by decide +kernel
theorem dX6_take_71 : decode cX6_take 71 = .ok (.aload_n 1, 1) := by decide +kernel
theorem dX6_take_72 : decode cX6_take 72 = .ok (.getfield 27, 3) := by decide +kernel
theorem dX6_take_75 : decode cX6_take 75 = .ok (.iconst 0, 1) := by decide +kernel
theorem dX6_take_76 : decode cX6_take 76 = .ok (.aload_n 0, 1) := by decide +kernel
theorem dX6_take_77 : decode cX6_take 77 = .ok (.getfield 27, 3) := by decide +kernel
theorem dX6_take_80 : decode cX6_take 80 = .ok (.iconst 0, 1) := by decide +kernel
theorem dX6_take_81 : decode cX6_take 81 = .ok (.iconst 3, 1) := by decide +kernel
theorem dX6_take_82 : decode cX6_take 82 = .ok (.invokestatic 42, 3) := by decide +kernel
theorem dX6_take_85 : decode cX6_take 85 = .ok (.aload_n 1, 1) := by decide +kernel
theorem dX6_take_86 : decode cX6_take 86 = .ok (.getfield 30, 3) := by decide +kernel
theorem dX6_take_89 : decode cX6_take 89 = .ok (.iconst 0, 1) := by decide +kernel
theorem dX6_take_90 : decode cX6_take 90 = .ok (.aload_n 0, 1) := by decide +kernel
theorem dX6_take_91 : decode cX6_take 91 = .ok (.getfield 30, 3) := by decide +kernel
theorem dX6_take_94 : decode cX6_take 94 = .ok (.iconst 0, 1) := by decide +kernel
theorem dX6_take_95 : decode cX6_take 95 = .ok (.iconst 5, 1) := by decide +kernel
theorem dX6_take_96 : decode cX6_take 96 = .ok (.invokestatic 42, 3) := by decide +kernel
theorem dX6_take_99 : decode cX6_take 99 = .ok (.aload_n 1, 1) := by decide +kernel
theorem dX6_take_100 : decode cX6_take 100 = .ok (.getfield 33, 3) := by decide +kernel
theorem dX6_take_103 : decode cX6_take 103 = .ok (.iconst 0, 1) := by decide +kernel
theorem dX6_take_104 : decode cX6_take 104 = .ok (.aload_n 0, 1) := by decide +kernel
theorem dX6_take_105 : decode cX6_take 105 = .ok (.getfield 33, 3) := by decide +kernel
theorem dX6_take_108 : decode cX6_take 108 = .ok (.iconst 0, 1) := by decide +kernel
theorem dX6_take_109 : decode cX6_take 109 = .ok (.iconst 5, 1) := by decide +kernel
theorem dX6_take_110 : decode cX6_take 110 = .ok (.invokestatic 42, 3) := by decide +kernel
theorem dX6_take_113 : decode cX6_take 113 = .ok (.return_, 1) := by decide +kernel
theorem dX6_value_0 : decode cX6_value 0 = .ok (.aload_n 0, 1) := by decide +kernel
theorem dX6_value_1 : decode cX6_value 1 = .ok (.getfield 9, 3) := by decide +kernel
theorem dX6_value_4 : decode cX6_value 4 = .ok (.iload_n 1, 1) := by decide +kernel
theorem dX6_value_5 : decode cX6_value 5 = .ok (.invokestatic 48, 3) := by decide +kernel
theorem dX6_value_8 : decode cX6_value 8 = .ok (.ireturn, 1) := by decide +kernel
theorem dX6_become_0 : decode cX6_become 0 = .ok (.aload_n 0, 1) := by decide +kernel
theorem dX6_become_1 : decode cX6_become 1 = .ok (.getfield 9, 3) := by decide +kernel
theorem dX6_become_4 : decode cX6_become 4 = .ok (.iload_n 1, 1) := by decide +kernel
theorem dX6_become_5 : decode cX6_become 5 = .ok (.iload_n 2, 1) := by decide +kernel
theorem dX6_become_6 : decode cX6_become 6 = .ok (.invokestatic 52, 3) := by decide +kernel
theorem dX6_become_9 : decode cX6_become 9 = .ok (.return_, 1) := by decide +kernel
theorem dX6_holdsOf_0 : decode cX6_holdsOf 0 = .ok (.aload_n 0, 1) := by decide +kernel
theorem dX6_holdsOf_1 : decode cX6_holdsOf 1 = .ok (.getfield 15, 3) := by decide +kernel
theorem dX6_holdsOf_4 : decode cX6_holdsOf 4 = .ok (.iload_n 1, 1) := by decide +kernel
theorem dX6_holdsOf_5 : decode cX6_holdsOf 5 = .ok (.invokestatic 48, 3) := by decide +kernel
theorem dX6_holdsOf_8 : decode cX6_holdsOf 8 = .ok (.istore_n 3, 1) := by decide +kernel
theorem dX6_holdsOf_9 : decode cX6_holdsOf 9 = .ok (.bipush 10, 2) := by decide +kernel
theorem dX6_holdsOf_11 : decode cX6_holdsOf 11 = .ok (.iload_n 2, 1) := by decide +kernel
theorem dX6_holdsOf_12 : decode cX6_holdsOf 12 = .ok (.iconst 2, 1) := by decide +kernel
theorem dX6_holdsOf_13 : decode cX6_holdsOf 13 = .ok (.idiv, 1) := by decide +kernel
theorem dX6_holdsOf_14 : decode cX6_holdsOf 14 = .ok (.isub, 1) := by decide +kernel
theorem dX6_holdsOf_15 : decode cX6_holdsOf 15 = .ok (.istore 4, 2) := by decide +kernel
theorem dX6_holdsOf_17 : decode cX6_holdsOf 17 = .ok (.iload_n 3, 1) := by decide +kernel
theorem dX6_holdsOf_18 : decode cX6_holdsOf 18 = .ok (.iconst 1, 1) := by decide +kernel
theorem dX6_holdsOf_19 : decode cX6_holdsOf 19 = .ok (.if_icmp .eq 8, 3) := by decide +kernel
theorem dX6_holdsOf_22 : decode cX6_holdsOf 22 = .ok (.iload_n 3, 1) := by decide +kernel
theorem dX6_holdsOf_23 : decode cX6_holdsOf 23 = .ok (.iconst 4, 1) := by decide +kernel
theorem dX6_holdsOf_24 : decode cX6_holdsOf 24 = .ok (.if_icmp .ne 11, 3) := by decide +kernel
theorem dX6_holdsOf_27 : decode cX6_holdsOf 27 = .ok (.iload_n 2, 1) := by decide +kernel
theorem dX6_holdsOf_28 : decode cX6_holdsOf 28 = .ok (.iconst 5, 1) := by decide +kernel
theorem dX6_holdsOf_29 : decode cX6_holdsOf 29 = .ok (.if_icmp .lt 6, 3) := by decide +kernel
theorem dX6_holdsOf_32 : decode cX6_holdsOf 32 = .ok (.iinc 4 (-3), 3) := by decide +kernel
theorem dX6_holdsOf_35 : decode cX6_holdsOf 35 = .ok (.iload_n 3, 1) := by decide +kernel
theorem dX6_holdsOf_36 : decode cX6_holdsOf 36 = .ok (.iconst 2, 1) := by decide +kernel
theorem dX6_holdsOf_37 : decode cX6_holdsOf 37 = .ok (.if_icmp .eq 8, 3) := by decide +kernel
theorem dX6_holdsOf_40 : decode cX6_holdsOf 40 = .ok (.iload_n 3, 1) := by decide +kernel
theorem dX6_holdsOf_41 : decode cX6_holdsOf 41 = .ok (.iconst 3, 1) := by decide +kernel
theorem dX6_holdsOf_42 : decode cX6_holdsOf 42 = .ok (.if_icmp .ne 11, 3) := by decide +kernel
theorem dX6_holdsOf_45 : decode cX6_holdsOf 45 = .ok (.iload 4, 2) := by decide +kernel
theorem dX6_holdsOf_47 : decode cX6_holdsOf 47 = .ok (.iload_n 2, 1) := by decide +kernel
theorem dX6_holdsOf_48 : decode cX6_holdsOf 48 = .ok (.iconst 3, 1) := by decide +kernel
theorem dX6_holdsOf_49 : decode cX6_holdsOf 49 = .ok (.idiv, 1) := by decide +kernel
theorem dX6_holdsOf_50 : decode cX6_holdsOf 50 = .ok (.isub, 1) := by decide +kernel
theorem dX6_holdsOf_51 : decode cX6_holdsOf 51 = .ok (.istore 4, 2) := by decide +kernel
theorem dX6_holdsOf_53 : decode cX6_holdsOf 53 = .ok (.iload_n 3, 1) := by decide +kernel
theorem dX6_holdsOf_54 : decode cX6_holdsOf 54 = .ok (.iconst 3, 1) := by decide +kernel
theorem dX6_holdsOf_55 : decode cX6_holdsOf 55 = .ok (.if_icmp .eq 8, 3) := by decide +kernel
theorem dX6_holdsOf_58 : decode cX6_holdsOf 58 = .ok (.iload_n 3, 1) := by decide +kernel
theorem dX6_holdsOf_59 : decode cX6_holdsOf 59 = .ok (.iconst 4, 1) := by decide +kernel
theorem dX6_holdsOf_60 : decode cX6_holdsOf 60 = .ok (.if_icmp .ne 6, 3) := by decide +kernel
theorem dX6_holdsOf_63 : decode cX6_holdsOf 63 = .ok (.iinc 4 (-1), 3) := by decide +kernel
theorem dX6_holdsOf_66 : decode cX6_holdsOf 66 = .ok (.iconst 0, 1) := by decide +kernel
theorem dX6_holdsOf_67 : decode cX6_holdsOf 67 = .ok (.iload 4, 2) := by decide +kernel
theorem dX6_holdsOf_69 : decode cX6_holdsOf 69 = .ok (.invokestatic 56, 3) := by decide +kernel
theorem dX6_holdsOf_72 : decode cX6_holdsOf 72 = .ok (.ireturn, 1) := by decide +kernel
theorem dX6_armAt_0 : decode cX6_armAt 0 = .ok (.iconst 0, 1) := by decide +kernel
theorem dX6_armAt_1 : decode cX6_armAt 1 = .ok (.istore_n 2, 1) := by decide +kernel
theorem dX6_armAt_2 : decode cX6_armAt 2 = .ok (.iload_n 2, 1) := by decide +kernel
theorem dX6_armAt_3 : decode cX6_armAt 3 = .ok (.aload_n 0, 1) := by decide +kernel
theorem dX6_armAt_4 : decode cX6_armAt 4 = .ok (.iconst 1, 1) := by decide +kernel
theorem dX6_armAt_5 : decode cX6_armAt 5 = .ok (.invokevirtual 62, 3) := by decide +kernel
theorem dX6_armAt_8 : decode cX6_armAt 8 = .ok (.if_icmp .ge 23, 3) := by decide +kernel
theorem dX6_armAt_11 : decode cX6_armAt 11 = .ok (.aload_n 0, 1) := by decide +kernel
theorem dX6_armAt_12 : decode cX6_armAt 12 = .ok (.getfield 18, 3) := by decide +kernel
theorem dX6_armAt_15 : decode cX6_armAt 15 = .ok (.iload_n 2, 1) := by decide +kernel
theorem dX6_armAt_16 : decode cX6_armAt 16 = .ok (.invokestatic 48, 3) := by decide +kernel
theorem dX6_armAt_19 : decode cX6_armAt 19 = .ok (.iload_n 1, 1) := by decide +kernel
theorem dX6_armAt_20 : decode cX6_armAt 20 = .ok (.if_icmp .ne 5, 3) := by decide +kernel
theorem dX6_armAt_23 : decode cX6_armAt 23 = .ok (.iload_n 2, 1) := by decide +kernel
theorem dX6_armAt_24 : decode cX6_armAt 24 = .ok (.ireturn, 1) := by decide +kernel
theorem dX6_armAt_25 : decode cX6_armAt 25 = .ok (.iinc 2 1, 3) := by decide +kernel
theorem dX6_armAt_28 : decode cX6_armAt 28 = .ok (.goto (-26), 3) := by decide +kernel
theorem dX6_armAt_31 : decode cX6_armAt 31 = .ok (.bipush (-4), 2) := by decide +kernel
theorem dX6_armAt_33 : decode cX6_armAt 33 = .ok (.ireturn, 1) := by decide +kernel
theorem dX6_markAt_0 : decode cX6_markAt 0 = .ok (.iconst 0, 1) := by decide +kernel
theorem dX6_markAt_1 : decode cX6_markAt 1 = .ok (.istore_n 2, 1) := by decide +kernel
theorem dX6_markAt_2 : decode cX6_markAt 2 = .ok (.iload_n 2, 1) := by decide +kernel
theorem dX6_markAt_3 : decode cX6_markAt 3 = .ok (.aload_n 0, 1) := by decide +kernel
theorem dX6_markAt_4 : decode cX6_markAt 4 = .ok (.iconst 2, 1) := by decide +kernel
theorem dX6_markAt_5 : decode cX6_markAt 5 = .ok (.invokevirtual 62, 3) := by decide +kernel
theorem dX6_markAt_8 : decode cX6_markAt 8 = .ok (.if_icmp .ge 23, 3) := by decide +kernel
theorem dX6_markAt_11 : decode cX6_markAt 11 = .ok (.aload_n 0, 1) := by decide +kernel
theorem dX6_markAt_12 : decode cX6_markAt 12 = .ok (.getfield 24, 3) := by decide +kernel
theorem dX6_markAt_15 : decode cX6_markAt 15 = .ok (.iload_n 2, 1) := by decide +kernel
theorem dX6_markAt_16 : decode cX6_markAt 16 = .ok (.invokestatic 48, 3) := by decide +kernel
theorem dX6_markAt_19 : decode cX6_markAt 19 = .ok (.iload_n 1, 1) := by decide +kernel
theorem dX6_markAt_20 : decode cX6_markAt 20 = .ok (.if_icmp .ne 5, 3) := by decide +kernel
theorem dX6_markAt_23 : decode cX6_markAt 23 = .ok (.iload_n 2, 1) := by decide +kernel
theorem dX6_markAt_24 : decode cX6_markAt 24 = .ok (.ireturn, 1) := by decide +kernel
theorem dX6_markAt_25 : decode cX6_markAt 25 = .ok (.iinc 2 1, 3) := by decide +kernel
theorem dX6_markAt_28 : decode cX6_markAt 28 = .ok (.goto (-26), 3) := by decide +kernel
theorem dX6_markAt_31 : decode cX6_markAt 31 = .ok (.bipush (-4), 2) := by decide +kernel
theorem dX6_markAt_33 : decode cX6_markAt 33 = .ok (.ireturn, 1) := by decide +kernel
theorem dX6_isSignalAt_0 : decode cX6_isSignalAt 0 = .ok (.iload_n 1, 1) := by decide +kernel
theorem dX6_isSignalAt_1 : decode cX6_isSignalAt 1 = .ok (.iconst 1, 1) := by decide +kernel
theorem dX6_isSignalAt_2 : decode cX6_isSignalAt 2 = .ok (.if_icmp .lt 22, 3) := by decide +kernel
theorem dX6_isSignalAt_5 : decode cX6_isSignalAt 5 = .ok (.aload_n 0, 1) := by decide +kernel
theorem dX6_isSignalAt_6 : decode cX6_isSignalAt 6 = .ok (.iconst 4, 1) := by decide +kernel
theorem dX6_isSignalAt_7 : decode cX6_isSignalAt 7 = .ok (.invokevirtual 62, 3) := by decide +kernel
theorem dX6_isSignalAt_10 : decode cX6_isSignalAt 10 = .ok (.iload_n 1, 1) := by decide +kernel
theorem dX6_isSignalAt_11 : decode cX6_isSignalAt 11 = .ok (.iconst 1, 1) := by decide +kernel
theorem dX6_isSignalAt_12 : decode cX6_isSignalAt 12 = .ok (.isub, 1) := by decide +kernel
theorem dX6_isSignalAt_13 : decode cX6_isSignalAt 13 = .ok (.ishr, 1) := by decide +kernel
theorem dX6_isSignalAt_14 : decode cX6_isSignalAt 14 = .ok (.iconst 1, 1) := by decide +kernel
theorem dX6_isSignalAt_15 : decode cX6_isSignalAt 15 = .ok (.iand, 1) := by decide +kernel
theorem dX6_isSignalAt_16 : decode cX6_isSignalAt 16 = .ok (.iconst 1, 1) := by decide +kernel
theorem dX6_isSignalAt_17 : decode cX6_isSignalAt 17 = .ok (.if_icmp .ne 7, 3) := by decide +kernel
theorem dX6_isSignalAt_20 : decode cX6_isSignalAt 20 = .ok (.iconst 1, 1) := by decide +kernel
theorem dX6_isSignalAt_21 : decode cX6_isSignalAt 21 = .ok (.goto 4, 3) := by decide +kernel
theorem dX6_isSignalAt_24 : decode cX6_isSignalAt 24 = .ok (.iconst 0, 1) := by decide +kernel
theorem dX6_isSignalAt_25 : decode cX6_isSignalAt 25 = .ok (.ireturn, 1) := by decide +kernel
theorem dX6_countBehind_0 : decode cX6_countBehind 0 = .ok (.aload_n 0, 1) := by decide +kernel
theorem dX6_countBehind_1 : decode cX6_countBehind 1 = .ok (.iload_n 1, 1) := by decide +kernel
theorem dX6_countBehind_2 : decode cX6_countBehind 2 = .ok (.invokevirtual 66, 3) := by decide +kernel
theorem dX6_countBehind_5 : decode cX6_countBehind 5 = .ok (.istore 5, 2) := by decide +kernel
theorem dX6_countBehind_7 : decode cX6_countBehind 7 = .ok (.iload 5, 2) := by decide +kernel
theorem dX6_countBehind_9 : decode cX6_countBehind 9 = .ok (.bipush (-4), 2) := by decide +kernel
theorem dX6_countBehind_11 : decode cX6_countBehind 11 = .ok (.if_icmp .eq 16, 3) := by decide +kernel
theorem dX6_countBehind_14 : decode cX6_countBehind 14 = .ok (.iload 4, 2) := by decide +kernel
theorem dX6_countBehind_16 : decode cX6_countBehind 16 = .ok (.iload 5, 2) := by decide +kernel
theorem dX6_countBehind_18 : decode cX6_countBehind 18 = .ok (.ishr, 1) := by decide +kernel
theorem dX6_countBehind_19 : decode cX6_countBehind 19 = .ok (.iconst 1, 1) := by decide +kernel
theorem dX6_countBehind_20 : decode cX6_countBehind 20 = .ok (.iand, 1) := by decide +kernel
theorem dX6_countBehind_21 : decode cX6_countBehind 21 = .ok (.iconst 1, 1) := by decide +kernel
theorem dX6_countBehind_22 : decode cX6_countBehind 22 = .ok (.if_icmp .ne 5, 3) := by decide +kernel
theorem dX6_countBehind_25 : decode cX6_countBehind 25 = .ok (.iload_n 1, 1) := by decide +kernel
theorem dX6_countBehind_26 : decode cX6_countBehind 26 = .ok (.ireturn, 1) := by decide +kernel
theorem dX6_countBehind_27 : decode cX6_countBehind 27 = .ok (.iload_n 3, 1) := by decide +kernel
theorem dX6_countBehind_28 : decode cX6_countBehind 28 = .ok (.iload_n 1, 1) := by decide +kernel
theorem dX6_countBehind_29 : decode cX6_countBehind 29 = .ok (.iconst 1, 1) := by decide +kernel
theorem dX6_countBehind_30 : decode cX6_countBehind 30 = .ok (.isub, 1) := by decide +kernel
theorem dX6_countBehind_31 : decode cX6_countBehind 31 = .ok (.ishr, 1) := by decide +kernel
theorem dX6_countBehind_32 : decode cX6_countBehind 32 = .ok (.iconst 1, 1) := by decide +kernel
theorem dX6_countBehind_33 : decode cX6_countBehind 33 = .ok (.iand, 1) := by decide +kernel
theorem dX6_countBehind_34 : decode cX6_countBehind 34 = .ok (.iconst 1, 1) := by decide +kernel
theorem dX6_countBehind_35 : decode cX6_countBehind 35 = .ok (.if_icmp .ne 7, 3) := by decide +kernel
theorem dX6_countBehind_38 : decode cX6_countBehind 38 = .ok (.iload_n 2, 1) := by decide +kernel
theorem dX6_countBehind_39 : decode cX6_countBehind 39 = .ok (.goto 6, 3) := by decide +kernel
theorem dX6_countBehind_42 : decode cX6_countBehind 42 = .ok (.iload_n 2, 1) := by decide +kernel
theorem dX6_countBehind_43 : decode cX6_countBehind 43 = .ok (.iconst 1, 1) := by decide +kernel
theorem dX6_countBehind_44 : decode cX6_countBehind 44 = .ok (.iadd, 1) := by decide +kernel
theorem dX6_countBehind_45 : decode cX6_countBehind 45 = .ok (.ireturn, 1) := by decide +kernel
theorem dX6_minutesOf_0 : decode cX6_minutesOf 0 = .ok (.iload_n 2, 1) := by decide +kernel
theorem dX6_minutesOf_1 : decode cX6_minutesOf 1 = .ok (.iconst 1, 1) := by decide +kernel
theorem dX6_minutesOf_2 : decode cX6_minutesOf 2 = .ok (.if_icmp .ge 5, 3) := by decide +kernel
theorem dX6_minutesOf_5 : decode cX6_minutesOf 5 = .ok (.iconst 0, 1) := by decide +kernel
theorem dX6_minutesOf_6 : decode cX6_minutesOf 6 = .ok (.ireturn, 1) := by decide +kernel
theorem dX6_minutesOf_7 : decode cX6_minutesOf 7 = .ok (.iconst 0, 1) := by decide +kernel
theorem dX6_minutesOf_8 : decode cX6_minutesOf 8 = .ok (.istore_n 3, 1) := by decide +kernel
theorem dX6_minutesOf_9 : decode cX6_minutesOf 9 = .ok (.iconst 0, 1) := by decide +kernel
theorem dX6_minutesOf_10 : decode cX6_minutesOf 10 = .ok (.istore 4, 2) := by decide +kernel
theorem dX6_minutesOf_12 : decode cX6_minutesOf 12 = .ok (.iload 4, 2) := by decide +kernel
theorem dX6_minutesOf_14 : decode cX6_minutesOf 14 = .ok (.aload_n 0, 1) := by decide +kernel
theorem dX6_minutesOf_15 : decode cX6_minutesOf 15 = .ok (.iconst 3, 1) := by decide +kernel
theorem dX6_minutesOf_16 : decode cX6_minutesOf 16 = .ok (.invokevirtual 62, 3) := by decide +kernel
theorem dX6_minutesOf_19 : decode cX6_minutesOf 19 = .ok (.if_icmp .ge 37, 3) := by decide +kernel
theorem dX6_minutesOf_22 : decode cX6_minutesOf 22 = .ok (.iload_n 1, 1) := by decide +kernel
theorem dX6_minutesOf_23 : decode cX6_minutesOf 23 = .ok (.iload 4, 2) := by decide +kernel
theorem dX6_minutesOf_25 : decode cX6_minutesOf 25 = .ok (.ishr, 1) := by decide +kernel
theorem dX6_minutesOf_26 : decode cX6_minutesOf 26 = .ok (.iconst 1, 1) := by decide +kernel
theorem dX6_minutesOf_27 : decode cX6_minutesOf 27 = .ok (.iand, 1) := by decide +kernel
theorem dX6_minutesOf_28 : decode cX6_minutesOf 28 = .ok (.iconst 1, 1) := by decide +kernel
theorem dX6_minutesOf_29 : decode cX6_minutesOf 29 = .ok (.if_icmp .ne 21, 3) := by decide +kernel
theorem dX6_minutesOf_32 : decode cX6_minutesOf 32 = .ok (.iload_n 3, 1) := by decide +kernel
theorem dX6_minutesOf_33 : decode cX6_minutesOf 33 = .ok (.aload_n 0, 1) := by decide +kernel
theorem dX6_minutesOf_34 : decode cX6_minutesOf 34 = .ok (.getfield 30, 3) := by decide +kernel
theorem dX6_minutesOf_37 : decode cX6_minutesOf 37 = .ok (.iload 4, 2) := by decide +kernel
theorem dX6_minutesOf_39 : decode cX6_minutesOf 39 = .ok (.invokestatic 48, 3) := by decide +kernel
theorem dX6_minutesOf_42 : decode cX6_minutesOf 42 = .ok (.iload_n 2, 1) := by decide +kernel
theorem dX6_minutesOf_43 : decode cX6_minutesOf 43 = .ok (.iadd, 1) := by decide +kernel
theorem dX6_minutesOf_44 : decode cX6_minutesOf 44 = .ok (.iconst 1, 1) := by decide +kernel
theorem dX6_minutesOf_45 : decode cX6_minutesOf 45 = .ok (.isub, 1) := by decide +kernel
theorem dX6_minutesOf_46 : decode cX6_minutesOf 46 = .ok (.iload_n 2, 1) := by decide +kernel
theorem dX6_minutesOf_47 : decode cX6_minutesOf 47 = .ok (.idiv, 1) := by decide +kernel
theorem dX6_minutesOf_48 : decode cX6_minutesOf 48 = .ok (.iadd, 1) := by decide +kernel
theorem dX6_minutesOf_49 : decode cX6_minutesOf 49 = .ok (.istore_n 3, 1) := by decide +kernel
theorem dX6_minutesOf_50 : decode cX6_minutesOf 50 = .ok (.iinc 4 1, 3) := by decide +kernel
theorem dX6_minutesOf_53 : decode cX6_minutesOf 53 = .ok (.goto (-41), 3) := by decide +kernel
theorem dX6_minutesOf_56 : decode cX6_minutesOf 56 = .ok (.iload_n 3, 1) := by decide +kernel
theorem dX6_minutesOf_57 : decode cX6_minutesOf 57 = .ok (.ireturn, 1) := by decide +kernel
theorem dX6_lettersWorth_0 : decode cX6_lettersWorth 0 = .ok (.iconst 0, 1) := by decide +kernel
theorem dX6_lettersWorth_1 : decode cX6_lettersWorth 1 = .ok (.istore_n 2, 1) := by decide +kernel
theorem dX6_lettersWorth_2 : decode cX6_lettersWorth 2 = .ok (.iconst 0, 1) := by decide +kernel
theorem dX6_lettersWorth_3 : decode cX6_lettersWorth 3 = .ok (.istore_n 3, 1) := by decide +kernel
theorem dX6_lettersWorth_4 : decode cX6_lettersWorth 4 = .ok (.iload_n 3, 1) := by decide +kernel
theorem dX6_lettersWorth_5 : decode cX6_lettersWorth 5 = .ok (.aload_n 0, 1) := by decide +kernel
theorem dX6_lettersWorth_6 : decode cX6_lettersWorth 6 = .ok (.iconst 3, 1) := by decide +kernel
theorem dX6_lettersWorth_7 : decode cX6_lettersWorth 7 = .ok (.invokevirtual 62, 3) := by decide +kernel
theorem dX6_lettersWorth_10 : decode cX6_lettersWorth 10 = .ok (.if_icmp .ge 38, 3) := by decide +kernel
theorem dX6_lettersWorth_13 : decode cX6_lettersWorth 13 = .ok (.iload_n 1, 1) := by decide +kernel
theorem dX6_lettersWorth_14 : decode cX6_lettersWorth 14 = .ok (.iload_n 3, 1) := by decide +kernel
theorem dX6_lettersWorth_15 : decode cX6_lettersWorth 15 = .ok (.ishr, 1) := by decide +kernel
theorem dX6_lettersWorth_16 : decode cX6_lettersWorth 16 = .ok (.iconst 1, 1) := by decide +kernel
theorem dX6_lettersWorth_17 : decode cX6_lettersWorth 17 = .ok (.iand, 1) := by decide +kernel
theorem dX6_lettersWorth_18 : decode cX6_lettersWorth 18 = .ok (.iconst 1, 1) := by decide +kernel
theorem dX6_lettersWorth_19 : decode cX6_lettersWorth 19 = .ok (.if_icmp .ne 23, 3) := by decide +kernel
theorem dX6_lettersWorth_22 : decode cX6_lettersWorth 22 = .ok (.iload_n 2, 1) := by decide +kernel
theorem dX6_lettersWorth_23 : decode cX6_lettersWorth 23 = .ok (.aload_n 0, 1) := by decide +kernel
theorem dX6_lettersWorth_24 : decode cX6_lettersWorth 24 = .ok (.getfield 30, 3) := by decide +kernel
theorem dX6_lettersWorth_27 : decode cX6_lettersWorth 27 = .ok (.iload_n 3, 1) := by decide +kernel
theorem dX6_lettersWorth_28 : decode cX6_lettersWorth 28 = .ok (.invokestatic 48, 3) := by decide +kernel
theorem dX6_lettersWorth_31 : decode cX6_lettersWorth 31 = .ok (.aload_n 0, 1) := by decide +kernel
theorem dX6_lettersWorth_32 : decode cX6_lettersWorth 32 = .ok (.getfield 33, 3) := by decide +kernel
theorem dX6_lettersWorth_35 : decode cX6_lettersWorth 35 = .ok (.iload_n 3, 1) := by decide +kernel
theorem dX6_lettersWorth_36 : decode cX6_lettersWorth 36 = .ok (.invokestatic 48, 3) := by decide +kernel
theorem dX6_lettersWorth_39 : decode cX6_lettersWorth 39 = .ok (.imul, 1) := by decide +kernel
theorem dX6_lettersWorth_40 : decode cX6_lettersWorth 40 = .ok (.iadd, 1) := by decide +kernel
theorem dX6_lettersWorth_41 : decode cX6_lettersWorth 41 = .ok (.istore_n 2, 1) := by decide +kernel
theorem dX6_lettersWorth_42 : decode cX6_lettersWorth 42 = .ok (.iinc 3 1, 3) := by decide +kernel
theorem dX6_lettersWorth_45 : decode cX6_lettersWorth 45 = .ok (.goto (-41), 3) := by decide +kernel
theorem dX6_lettersWorth_48 : decode cX6_lettersWorth 48 = .ok (.iload_n 2, 1) := by decide +kernel
theorem dX6_lettersWorth_49 : decode cX6_lettersWorth 49 = .ok (.ireturn, 1) := by decide +kernel
theorem dX6_allLetters_0 : decode cX6_allLetters 0 = .ok (.iconst 0, 1) := by decide +kernel
theorem dX6_allLetters_1 : decode cX6_allLetters 1 = .ok (.istore_n 1, 1) := by decide +kernel
theorem dX6_allLetters_2 : decode cX6_allLetters 2 = .ok (.iconst 0, 1) := by decide +kernel
theorem dX6_allLetters_3 : decode cX6_allLetters 3 = .ok (.istore_n 2, 1) := by decide +kernel
theorem dX6_allLetters_4 : decode cX6_allLetters 4 = .ok (.iload_n 2, 1) := by decide +kernel
theorem dX6_allLetters_5 : decode cX6_allLetters 5 = .ok (.aload_n 0, 1) := by decide +kernel
theorem dX6_allLetters_6 : decode cX6_allLetters 6 = .ok (.iconst 3, 1) := by decide +kernel
theorem dX6_allLetters_7 : decode cX6_allLetters 7 = .ok (.invokevirtual 62, 3) := by decide +kernel
theorem dX6_allLetters_10 : decode cX6_allLetters 10 = .ok (.if_icmp .ge 20, 3) := by decide +kernel
theorem dX6_allLetters_13 : decode cX6_allLetters 13 = .ok (.iload_n 1, 1) := by decide +kernel
theorem dX6_allLetters_14 : decode cX6_allLetters 14 = .ok (.aload_n 0, 1) := by decide +kernel
theorem dX6_allLetters_15 : decode cX6_allLetters 15 = .ok (.getfield 30, 3) := by decide +kernel
theorem dX6_allLetters_18 : decode cX6_allLetters 18 = .ok (.iload_n 2, 1) := by decide +kernel
theorem dX6_allLetters_19 : decode cX6_allLetters 19 = .ok (.invokestatic 48, 3) := by decide +kernel
theorem dX6_allLetters_22 : decode cX6_allLetters 22 = .ok (.iadd, 1) := by decide +kernel
theorem dX6_allLetters_23 : decode cX6_allLetters 23 = .ok (.istore_n 1, 1) := by decide +kernel
theorem dX6_allLetters_24 : decode cX6_allLetters 24 = .ok (.iinc 2 1, 3) := by decide +kernel
theorem dX6_allLetters_27 : decode cX6_allLetters 27 = .ok (.goto (-23), 3) := by decide +kernel
theorem dX6_allLetters_30 : decode cX6_allLetters 30 = .ok (.iload_n 1, 1) := by decide +kernel
theorem dX6_allLetters_31 : decode cX6_allLetters 31 = .ok (.ireturn, 1) := by decide +kernel
theorem dX7_init_0 : decode cX7_init 0 = .ok (.aload_n 0, 1) := by decide +kernel
theorem dX7_init_1 : decode cX7_init 1 = .ok (.invokespecial 1, 3) := by decide +kernel
theorem dX7_init_4 : decode cX7_init 4 = .ok (.aload_n 0, 1) := by decide +kernel
theorem dX7_init_5 : decode cX7_init 5 = .ok (.new 7, 3) := by decide +kernel
theorem dX7_init_8 : decode cX7_init 8 = .ok (.dup, 1) := by decide +kernel
theorem dX7_init_9 : decode cX7_init 9 = .ok (.invokespecial 9, 3) := by decide +kernel
theorem dX7_init_12 : decode cX7_init 12 = .ok (.putfield 10, 3) := by decide +kernel
theorem dX7_init_15 : decode cX7_init 15 = .ok (.aload_n 0, 1) := by decide +kernel
theorem dX7_init_16 : decode cX7_init 16 = .ok (.new 7, 3) := by decide +kernel
theorem dX7_init_19 : decode cX7_init 19 = .ok (.dup, 1) := by decide +kernel
theorem dX7_init_20 : decode cX7_init 20 = .ok (.invokespecial 9, 3) := by decide +kernel
theorem dX7_init_23 : decode cX7_init 23 = .ok (.putfield 16, 3) := by decide +kernel
theorem dX7_init_26 : decode cX7_init 26 = .ok (.aload_n 0, 1) := by decide +kernel
theorem dX7_init_27 : decode cX7_init 27 = .ok (.new 7, 3) := by decide +kernel
theorem dX7_init_30 : decode cX7_init 30 = .ok (.dup, 1) := by decide +kernel
theorem dX7_init_31 : decode cX7_init 31 = .ok (.invokespecial 9, 3) := by decide +kernel
theorem dX7_init_34 : decode cX7_init 34 = .ok (.putfield 19, 3) := by decide +kernel
theorem dX7_init_37 : decode cX7_init 37 = .ok (.aload_n 0, 1) := by decide +kernel
theorem dX7_init_38 : decode cX7_init 38 = .ok (.new 22, 3) := by decide +kernel
theorem dX7_init_41 : decode cX7_init 41 = .ok (.dup, 1) := by decide +kernel
theorem dX7_init_42 : decode cX7_init 42 = .ok (.invokespecial 24, 3) := by decide +kernel
theorem dX7_init_45 : decode cX7_init 45 = .ok (.putfield 25, 3) := by decide +kernel
theorem dX7_init_48 : decode cX7_init 48 = .ok (.aload_n 0, 1) := by decide +kernel
theorem dX7_init_49 : decode cX7_init 49 = .ok (.aload_n 0, 1) := by decide +kernel
theorem dX7_init_50 : decode cX7_init 50 = .ok (.getfield 25, 3) := by decide +kernel
theorem dX7_init_53 : decode cX7_init 53 = .ok (.getfield 29, 3) := by decide +kernel
theorem dX7_init_56 : decode cX7_init 56 = .ok (.putfield 33, 3) := by decide +kernel
theorem dX7_init_59 : decode cX7_init 59 = .ok (.aload_n 0, 1) := by decide +kernel
theorem dX7_init_60 : decode cX7_init 60 = .ok (.new 36, 3) := by decide +kernel
theorem dX7_init_63 : decode cX7_init 63 = .ok (.dup, 1) := by decide +kernel
theorem dX7_init_64 : decode cX7_init 64 = .ok (.invokespecial 38, 3) := by decide +kernel
theorem dX7_init_67 : decode cX7_init 67 = .ok (.putfield 39, 3) := by decide +kernel
theorem dX7_init_70 : decode cX7_init 70 = .ok (.aload_n 0, 1) := by decide +kernel
theorem dX7_init_71 : decode cX7_init 71 = .ok (.new 43, 3) := by decide +kernel
theorem dX7_init_74 : decode cX7_init 74 = .ok (.dup, 1) := by decide +kernel
theorem dX7_init_75 : decode cX7_init 75 = .ok (.invokespecial 45, 3) := by decide +kernel
theorem dX7_init_78 : decode cX7_init 78 = .ok (.putfield 46, 3) := by decide +kernel
theorem dX7_init_81 : decode cX7_init 81 = .ok (.aload_n 0, 1) := by decide +kernel
theorem dX7_init_82 : decode cX7_init 82 = .ok (.new 50, 3) := by decide +kernel
theorem dX7_init_85 : decode cX7_init 85 = .ok (.dup, 1) := by decide +kernel
theorem dX7_init_86 : decode cX7_init 86 = .ok (.invokespecial 52, 3) := by decide +kernel
theorem dX7_init_89 : decode cX7_init 89 = .ok (.putfield 53, 3) := by decide +kernel
theorem dX7_init_92 : decode cX7_init 92 = .ok (.aload_n 0, 1) := by decide +kernel
theorem dX7_init_93 : decode cX7_init 93 = .ok (.new 57, 3) := by decide +kernel
theorem dX7_init_96 : decode cX7_init 96 = .ok (.dup, 1) := by decide +kernel
theorem dX7_init_97 : decode cX7_init 97 = .ok (.invokespecial 59, 3) := by decide +kernel
theorem dX7_init_100 : decode cX7_init 100 = .ok (.putfield 60, 3) := by decide +kernel
theorem dX7_init_103 : decode cX7_init 103 = .ok (.aload_n 0, 1) := by decide +kernel
theorem dX7_init_104 : decode cX7_init 104 = .ok (.iconst 5, 1) := by decide +kernel
theorem dX7_init_105 : decode cX7_init 105 = .ok (.newarray .int, 2) := by decide +kernel
theorem dX7_init_107 : decode cX7_init 107 = .ok (.putfield 64, 3) := by decide +kernel
theorem dX7_init_110 : decode cX7_init 110 = .ok (.return_, 1) := by decide +kernel
theorem dX7_feed_0 : decode cX7_feed 0 = .ok (.iload_n 1, 1) := by decide +kernel
theorem dX7_feed_1 : decode cX7_feed 1 = .ok (.ifCond .lt 9, 3) := by decide +kernel
theorem dX7_feed_4 : decode cX7_feed 4 = .ok (.iload_n 1, 1) := by decide +kernel
theorem dX7_feed_5 : decode cX7_feed 5 = .ok (.bipush 127, 2) := by decide +kernel
theorem dX7_feed_7 : decode cX7_feed 7 = .ok (.if_icmp .le 5, 3) := by decide +kernel
theorem dX7_feed_10 : decode cX7_feed 10 = .ok (.iconst (-1), 1) := by decide +kernel
theorem dX7_feed_11 : decode cX7_feed 11 = .ok (.ireturn, 1) := by decide +kernel
theorem dX7_feed_12 : decode cX7_feed 12 = .ok (.aload_n 0, 1) := by decide +kernel
theorem dX7_feed_13 : decode cX7_feed 13 = .ok (.getfield 33, 3) := by decide +kernel
theorem dX7_feed_16 : decode cX7_feed 16 = .ok (.iload_n 1, 1) := by decide +kernel
theorem dX7_feed_17 : decode cX7_feed 17 = .ok (.invokevirtual 68, 3) := by decide +kernel
theorem dX7_feed_20 : decode cX7_feed 20 = .ok (.ifCond .eq 13, 3) := by decide +kernel
theorem dX7_feed_23 : decode cX7_feed 23 = .ok (.aload_n 0, 1) := by decide +kernel
theorem dX7_feed_24 : decode cX7_feed 24 = .ok (.getfield 33, 3) := by decide +kernel
theorem dX7_feed_27 : decode cX7_feed 27 = .ok (.getfield 74, 3) := by decide +kernel
theorem dX7_feed_30 : decode cX7_feed 30 = .ok (.goto 5, 3) := by decide +kernel
theorem dX7_feed_33 : decode cX7_feed 33 = .ok (.bipush (-3), 2) := by decide +kernel
theorem dX7_feed_35 : decode cX7_feed 35 = .ok (.ireturn, 1) := by decide +kernel
theorem dX7_end_0 : decode cX7_end 0 = .ok (.iload_n 1, 1) := by decide +kernel
theorem dX7_end_1 : decode cX7_end 1 = .ok (.ifCond .lt 14, 3) := by decide +kernel
theorem dX7_end_4 : decode cX7_end 4 = .ok (.iload_n 1, 1) := by decide +kernel
theorem dX7_end_5 : decode cX7_end 5 = .ok (.aload_n 0, 1) := by decide +kernel
theorem dX7_end_6 : decode cX7_end 6 = .ok (.getfield 33, 3) := by decide +kernel
theorem dX7_end_9 : decode cX7_end 9 = .ok (.getfield 74, 3) := by decide +kernel
theorem dX7_end_12 : decode cX7_end 12 = .ok (.if_icmp .le 5, 3) := by decide +kernel
theorem dX7_end_15 : decode cX7_end 15 = .ok (.iconst (-1), 1) := by decide +kernel
theorem dX7_end_16 : decode cX7_end 16 = .ok (.ireturn, 1) := by decide +kernel
theorem dX7_end_17 : decode cX7_end 17 = .ok (.aload_n 0, 1) := by decide +kernel
theorem dX7_end_18 : decode cX7_end 18 = .ok (.getfield 33, 3) := by decide +kernel
theorem dX7_end_21 : decode cX7_end 21 = .ok (.getfield 74, 3) := by decide +kernel
theorem dX7_end_24 : decode cX7_end 24 = .ok (.istore_n 2, 1) := by decide +kernel
theorem dX7_end_25 : decode cX7_end 25 = .ok (.aload_n 0, 1) := by decide +kernel
theorem dX7_end_26 : decode cX7_end 26 = .ok (.getfield 33, 3) := by decide +kernel
theorem dX7_end_29 : decode cX7_end 29 = .ok (.iload_n 1, 1) := by decide +kernel
theorem dX7_end_30 : decode cX7_end 30 = .ok (.putfield 74, 3) := by decide +kernel
theorem dX7_end_33 : decode cX7_end 33 = .ok (.iload_n 2, 1) := by decide +kernel
theorem dX7_end_34 : decode cX7_end 34 = .ok (.ireturn, 1) := by decide +kernel
theorem dX7_text_0 : decode cX7_text 0 = .ok (.iconst 0, 1) := by decide +kernel
theorem dX7_text_1 : decode cX7_text 1 = .ok (.istore_n 1, 1) := by decide +kernel
theorem dX7_text_2 : decode cX7_text 2 = .ok (.aload_n 0, 1) := by decide +kernel
theorem dX7_text_3 : decode cX7_text 3 = .ok (.getfield 25, 3) := by decide +kernel
theorem dX7_text_6 : decode cX7_text 6 = .ok (.invokevirtual 78, 3) := by decide +kernel
theorem dX7_text_9 : decode cX7_text 9 = .ok (.iload_n 1, 1) := by decide +kernel
theorem dX7_text_10 : decode cX7_text 10 = .ok (.sipush 160, 3) := by decide +kernel
theorem dX7_text_13 : decode cX7_text 13 = .ok (.if_icmp .ge 19, 3) := by decide +kernel
theorem dX7_text_16 : decode cX7_text 16 = .ok (.aload_n 0, 1) := by decide +kernel
theorem dX7_text_17 : decode cX7_text 17 = .ok (.getfield 25, 3) := by decide +kernel
theorem dX7_text_20 : decode cX7_text 20 = .ok (.invokevirtual 81, 3) := by decide +kernel
theorem dX7_text_23 : decode cX7_text 23 = .ok (.ifCond .eq 9, 3) := by decide +kernel
theorem dX7_text_26 : decode cX7_text 26 = .ok (.iinc 1 1, 3) := by decide +kernel
theorem dX7_text_29 : decode cX7_text 29 = .ok (.goto (-20), 3) := by decide +kernel
theorem dX7_text_32 : decode cX7_text 32 = .ok (.aload_n 0, 1) := by decide +kernel
theorem dX7_text_33 : decode cX7_text 33 = .ok (.getfield 25, 3) := by decide +kernel
theorem dX7_text_36 : decode cX7_text 36 = .ok (.invokevirtual 85, 3) := by decide +kernel
theorem dX7_text_39 : decode cX7_text 39 = .ok (.aload_n 0, 1) := by decide +kernel
theorem dX7_text_40 : decode cX7_text 40 = .ok (.getfield 33, 3) := by decide +kernel
theorem dX7_text_43 : decode cX7_text 43 = .ok (.iconst 0, 1) := by decide +kernel
theorem dX7_text_44 : decode cX7_text 44 = .ok (.putfield 74, 3) := by decide +kernel
theorem dX7_text_47 : decode cX7_text 47 = .ok (.aload_n 0, 1) := by decide +kernel
theorem dX7_text_48 : decode cX7_text 48 = .ok (.aload_n 0, 1) := by decide +kernel
theorem dX7_text_49 : decode cX7_text 49 = .ok (.getfield 25, 3) := by decide +kernel
theorem dX7_text_52 : decode cX7_text 52 = .ok (.getfield 88, 3) := by decide +kernel
theorem dX7_text_55 : decode cX7_text 55 = .ok (.putfield 91, 3) := by decide +kernel
theorem dX7_text_58 : decode cX7_text 58 = .ok (.aload_n 0, 1) := by decide +kernel
theorem dX7_text_59 : decode cX7_text 59 = .ok (.getfield 91, 3) := by decide +kernel
theorem dX7_text_62 : decode cX7_text 62 = .ok (.ifCond .eq 14, 3) := by decide +kernel
theorem dX7_text_65 : decode cX7_text 65 = .ok (.bipush (-10), 2) := by decide +kernel
theorem dX7_text_67 : decode cX7_text 67 = .ok (.aload_n 0, 1) := by decide +kernel
theorem dX7_text_68 : decode cX7_text 68 = .ok (.getfield 25, 3) := by decide +kernel
theorem dX7_text_71 : decode cX7_text 71 = .ok (.getfield 94, 3) := by decide +kernel
theorem dX7_text_74 : decode cX7_text 74 = .ok (.isub, 1) := by decide +kernel
theorem dX7_text_75 : decode cX7_text 75 = .ok (.ireturn, 1) := by decide +kernel
theorem dX7_text_76 : decode cX7_text 76 = .ok (.aload_n 0, 1) := by decide +kernel
theorem dX7_text_77 : decode cX7_text 77 = .ok (.getfield 10, 3) := by decide +kernel
theorem dX7_text_80 : decode cX7_text 80 = .ok (.aload_n 0, 1) := by decide +kernel
theorem dX7_text_81 : decode cX7_text 81 = .ok (.getfield 25, 3) := by decide +kernel
theorem dX7_text_84 : decode cX7_text 84 = .ok (.getfield 97, 3) := by decide +kernel
theorem dX7_text_87 : decode cX7_text 87 = .ok (.invokevirtual 100, 3) := by decide +kernel
theorem dX7_text_90 : decode cX7_text 90 = .ok (.aload_n 0, 1) := by decide +kernel
theorem dX7_text_91 : decode cX7_text 91 = .ok (.getfield 53, 3) := by decide +kernel
theorem dX7_text_94 : decode cX7_text 94 = .ok (.iconst 0, 1) := by decide +kernel
theorem dX7_text_95 : decode cX7_text 95 = .ok (.putfield 104, 3) := by decide +kernel
theorem dX7_text_98 : decode cX7_text 98 = .ok (.aload_n 0, 1) := by decide +kernel
theorem dX7_text_99 : decode cX7_text 99 = .ok (.iconst 0, 1) := by decide +kernel
theorem dX7_text_100 : decode cX7_text 100 = .ok (.putfield 107, 3) := by decide +kernel
theorem dX7_text_103 : decode cX7_text 103 = .ok (.iload_n 1, 1) := by decide +kernel
theorem dX7_text_104 : decode cX7_text 104 = .ok (.ireturn, 1) := by decide +kernel
theorem dX7_fault_0 : decode cX7_fault 0 = .ok (.aload_n 0, 1) := by decide +kernel
theorem dX7_fault_1 : decode cX7_fault 1 = .ok (.getfield 91, 3) := by decide +kernel
theorem dX7_fault_4 : decode cX7_fault 4 = .ok (.ireturn, 1) := by decide +kernel
theorem dX7_rule_0 : decode cX7_rule 0 = .ok (.iload_n 1, 1) := by decide +kernel
theorem dX7_rule_1 : decode cX7_rule 1 = .ok (.ifCond .lt 9, 3) := by decide +kernel
theorem dX7_rule_4 : decode cX7_rule 4 = .ok (.iload_n 1, 1) := by decide +kernel
theorem dX7_rule_5 : decode cX7_rule 5 = .ok (.bipush 13, 2) := by decide +kernel
theorem dX7_rule_7 : decode cX7_rule 7 = .ok (.if_icmp .lt 7, 3) := by decide +kernel
theorem dX7_rule_10 : decode cX7_rule 10 = .ok (.iconst (-1), 1) := by decide +kernel
theorem dX7_rule_11 : decode cX7_rule 11 = .ok (.goto 11, 3) := by decide +kernel
theorem dX7_rule_14 : decode cX7_rule 14 = .ok (.aload_n 0, 1) := by decide +kernel
theorem dX7_rule_15 : decode cX7_rule 15 = .ok (.getfield 10, 3) := by decide +kernel
theorem dX7_rule_18 : decode cX7_rule 18 = .ok (.iload_n 1, 1) := by decide +kernel
theorem dX7_rule_19 : decode cX7_rule 19 = .ok (.invokevirtual 110, 3) := by decide +kernel
theorem dX7_rule_22 : decode cX7_rule 22 = .ok (.ireturn, 1) := by decide +kernel
