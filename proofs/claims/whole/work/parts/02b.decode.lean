theorem dX7_arm_0 : decode cX7_arm 0 = .ok (.aload_n 0, 1) := by decide +kernel
theorem dX7_arm_1 : decode cX7_arm 1 = .ok (.iload_n 1, 1) := by decide +kernel
theorem dX7_arm_2 : decode cX7_arm 2 = .ok (.invokevirtual 114, 3) := by decide +kernel
theorem dX7_arm_5 : decode cX7_arm 5 = .ok (.ifCond .ne 5, 3) := by decide +kernel
theorem dX7_arm_8 : decode cX7_arm 8 = .ok (.iconst (-1), 1) := by decide +kernel
theorem dX7_arm_9 : decode cX7_arm 9 = .ok (.ireturn, 1) := by decide +kernel
theorem dX7_arm_10 : decode cX7_arm 10 = .ok (.iload_n 2, 1) := by decide +kernel
theorem dX7_arm_11 : decode cX7_arm 11 = .ok (.tableswitch 83 0 3 #[29, 41, 53, 65], 29) := by decide +kernel
theorem dX7_arm_40 : decode cX7_arm 40 = .ok (.aload_n 0, 1) := by decide +kernel
theorem dX7_arm_41 : decode cX7_arm 41 = .ok (.getfield 10, 3) := by decide +kernel
theorem dX7_arm_44 : decode cX7_arm 44 = .ok (.getfield 117, 3) := by decide +kernel
theorem dX7_arm_47 : decode cX7_arm 47 = .ok (.iload_n 1, 1) := by decide +kernel
theorem dX7_arm_48 : decode cX7_arm 48 = .ok (.invokestatic 120, 3) := by decide +kernel
theorem dX7_arm_51 : decode cX7_arm 51 = .ok (.ireturn, 1) := by decide +kernel
theorem dX7_arm_52 : decode cX7_arm 52 = .ok (.aload_n 0, 1) := by decide +kernel
theorem dX7_arm_53 : decode cX7_arm 53 = .ok (.getfield 10, 3) := by decide +kernel
theorem dX7_arm_56 : decode cX7_arm 56 = .ok (.getfield 124, 3) := by decide +kernel
theorem dX7_arm_59 : decode cX7_arm 59 = .ok (.iload_n 1, 1) := by decide +kernel
theorem dX7_arm_60 : decode cX7_arm 60 = .ok (.invokestatic 120, 3) := by decide +kernel
theorem dX7_arm_63 : decode cX7_arm 63 = .ok (.ireturn, 1) := by decide +kernel
theorem dX7_arm_64 : decode cX7_arm 64 = .ok (.aload_n 0, 1) := by decide +kernel
theorem dX7_arm_65 : decode cX7_arm 65 = .ok (.getfield 10, 3) := by decide +kernel
theorem dX7_arm_68 : decode cX7_arm 68 = .ok (.getfield 127, 3) := by decide +kernel
theorem dX7_arm_71 : decode cX7_arm 71 = .ok (.iload_n 1, 1) := by decide +kernel
theorem dX7_arm_72 : decode cX7_arm 72 = .ok (.invokestatic 120, 3) := by decide +kernel
theorem dX7_arm_75 : decode cX7_arm 75 = .ok (.ireturn, 1) := by decide +kernel
theorem dX7_arm_76 : decode cX7_arm 76 = .ok (.aload_n 0, 1) := by decide +kernel
theorem dX7_arm_77 : decode cX7_arm 77 = .ok (.getfield 10, 3) := by decide +kernel
theorem dX7_arm_80 : decode cX7_arm 80 = .ok (.iload_n 1, 1) := by decide +kernel
theorem dX7_arm_81 : decode cX7_arm 81 = .ok (.aload_n 0, 1) := by decide +kernel
theorem dX7_arm_82 : decode cX7_arm 82 = .ok (.getfield 10, 3) := by decide +kernel
theorem dX7_arm_85 : decode cX7_arm 85 = .ok (.bipush 7, 2) := by decide +kernel
theorem dX7_arm_87 : decode cX7_arm 87 = .ok (.invokevirtual 110, 3) := by decide +kernel
theorem dX7_arm_90 : decode cX7_arm 90 = .ok (.invokevirtual 130, 3) := by decide +kernel
theorem dX7_arm_93 : decode cX7_arm 93 = .ok (.ireturn, 1) := by decide +kernel
theorem dX7_arm_94 : decode cX7_arm 94 = .ok (.iconst (-1), 1) := by decide +kernel
theorem dX7_arm_95 : decode cX7_arm 95 = .ok (.ireturn, 1) := by decide +kernel
theorem dX7_mark_0 : decode cX7_mark 0 = .ok (.aload_n 0, 1) := by decide +kernel
theorem dX7_mark_1 : decode cX7_mark 1 = .ok (.iload_n 1, 1) := by decide +kernel
theorem dX7_mark_2 : decode cX7_mark 2 = .ok (.invokevirtual 134, 3) := by decide +kernel
theorem dX7_mark_5 : decode cX7_mark 5 = .ok (.ifCond .eq 10, 3) := by decide +kernel
theorem dX7_mark_8 : decode cX7_mark 8 = .ok (.iload_n 2, 1) := by decide +kernel
theorem dX7_mark_9 : decode cX7_mark 9 = .ok (.invokestatic 137, 3) := by decide +kernel
theorem dX7_mark_12 : decode cX7_mark 12 = .ok (.ifCond .ne 5, 3) := by decide +kernel
theorem dX7_mark_15 : decode cX7_mark 15 = .ok (.iconst (-1), 1) := by decide +kernel
theorem dX7_mark_16 : decode cX7_mark 16 = .ok (.ireturn, 1) := by decide +kernel
theorem dX7_mark_17 : decode cX7_mark 17 = .ok (.iload_n 2, 1) := by decide +kernel
theorem dX7_mark_18 : decode cX7_mark 18 = .ok (.ifCond .ne 17, 3) := by decide +kernel
theorem dX7_mark_21 : decode cX7_mark 21 = .ok (.aload_n 0, 1) := by decide +kernel
theorem dX7_mark_22 : decode cX7_mark 22 = .ok (.getfield 10, 3) := by decide +kernel
theorem dX7_mark_25 : decode cX7_mark 25 = .ok (.getfield 140, 3) := by decide +kernel
theorem dX7_mark_28 : decode cX7_mark 28 = .ok (.iload_n 1, 1) := by decide +kernel
theorem dX7_mark_29 : decode cX7_mark 29 = .ok (.invokestatic 120, 3) := by decide +kernel
theorem dX7_mark_32 : decode cX7_mark 32 = .ok (.goto 14, 3) := by decide +kernel
theorem dX7_mark_35 : decode cX7_mark 35 = .ok (.aload_n 0, 1) := by decide +kernel
theorem dX7_mark_36 : decode cX7_mark 36 = .ok (.getfield 10, 3) := by decide +kernel
theorem dX7_mark_39 : decode cX7_mark 39 = .ok (.getfield 143, 3) := by decide +kernel
theorem dX7_mark_42 : decode cX7_mark 42 = .ok (.iload_n 1, 1) := by decide +kernel
theorem dX7_mark_43 : decode cX7_mark 43 = .ok (.invokestatic 120, 3) := by decide +kernel
theorem dX7_mark_46 : decode cX7_mark 46 = .ok (.ireturn, 1) := by decide +kernel
theorem dX7_town_0 : decode cX7_town 0 = .ok (.aload_n 0, 1) := by decide +kernel
theorem dX7_town_1 : decode cX7_town 1 = .ok (.iload_n 1, 1) := by decide +kernel
theorem dX7_town_2 : decode cX7_town 2 = .ok (.invokevirtual 146, 3) := by decide +kernel
theorem dX7_town_5 : decode cX7_town 5 = .ok (.ifCond .eq 10, 3) := by decide +kernel
theorem dX7_town_8 : decode cX7_town 8 = .ok (.iload_n 2, 1) := by decide +kernel
theorem dX7_town_9 : decode cX7_town 9 = .ok (.invokestatic 137, 3) := by decide +kernel
theorem dX7_town_12 : decode cX7_town 12 = .ok (.ifCond .ne 5, 3) := by decide +kernel
theorem dX7_town_15 : decode cX7_town 15 = .ok (.iconst (-1), 1) := by decide +kernel
theorem dX7_town_16 : decode cX7_town 16 = .ok (.ireturn, 1) := by decide +kernel
theorem dX7_town_17 : decode cX7_town 17 = .ok (.iload_n 2, 1) := by decide +kernel
theorem dX7_town_18 : decode cX7_town 18 = .ok (.ifCond .ne 17, 3) := by decide +kernel
theorem dX7_town_21 : decode cX7_town 21 = .ok (.aload_n 0, 1) := by decide +kernel
theorem dX7_town_22 : decode cX7_town 22 = .ok (.getfield 10, 3) := by decide +kernel
theorem dX7_town_25 : decode cX7_town 25 = .ok (.getfield 149, 3) := by decide +kernel
theorem dX7_town_28 : decode cX7_town 28 = .ok (.iload_n 1, 1) := by decide +kernel
theorem dX7_town_29 : decode cX7_town 29 = .ok (.invokestatic 120, 3) := by decide +kernel
theorem dX7_town_32 : decode cX7_town 32 = .ok (.goto 14, 3) := by decide +kernel
theorem dX7_town_35 : decode cX7_town 35 = .ok (.aload_n 0, 1) := by decide +kernel
theorem dX7_town_36 : decode cX7_town 36 = .ok (.getfield 10, 3) := by decide +kernel
theorem dX7_town_39 : decode cX7_town 39 = .ok (.getfield 152, 3) := by decide +kernel
theorem dX7_town_42 : decode cX7_town 42 = .ok (.iload_n 1, 1) := by decide +kernel
theorem dX7_town_43 : decode cX7_town 43 = .ok (.invokestatic 120, 3) := by decide +kernel
theorem dX7_town_46 : decode cX7_town 46 = .ok (.ireturn, 1) := by decide +kernel
theorem dX7_set_0 : decode cX7_set 0 = .ok (.iload_n 1, 1) := by decide +kernel
theorem dX7_set_1 : decode cX7_set 1 = .ok (.ifCond .ne 8, 3) := by decide +kernel
theorem dX7_set_4 : decode cX7_set 4 = .ok (.bipush 6, 2) := by decide +kernel
theorem dX7_set_6 : decode cX7_set 6 = .ok (.goto 25, 3) := by decide +kernel
theorem dX7_set_9 : decode cX7_set 9 = .ok (.iload_n 1, 1) := by decide +kernel
theorem dX7_set_10 : decode cX7_set 10 = .ok (.iconst 1, 1) := by decide +kernel
theorem dX7_set_11 : decode cX7_set 11 = .ok (.if_icmp .ne 8, 3) := by decide +kernel
theorem dX7_set_14 : decode cX7_set 14 = .ok (.bipush 12, 2) := by decide +kernel
theorem dX7_set_16 : decode cX7_set 16 = .ok (.goto 15, 3) := by decide +kernel
theorem dX7_set_19 : decode cX7_set 19 = .ok (.iload_n 1, 1) := by decide +kernel
theorem dX7_set_20 : decode cX7_set 20 = .ok (.iconst 2, 1) := by decide +kernel
theorem dX7_set_21 : decode cX7_set 21 = .ok (.if_icmp .ne 8, 3) := by decide +kernel
theorem dX7_set_24 : decode cX7_set 24 = .ok (.bipush 7, 2) := by decide +kernel
theorem dX7_set_26 : decode cX7_set 26 = .ok (.goto 5, 3) := by decide +kernel
theorem dX7_set_29 : decode cX7_set 29 = .ok (.bipush (-4), 2) := by decide +kernel
theorem dX7_set_31 : decode cX7_set 31 = .ok (.istore_n 3, 1) := by decide +kernel
theorem dX7_set_32 : decode cX7_set 32 = .ok (.iload_n 3, 1) := by decide +kernel
theorem dX7_set_33 : decode cX7_set 33 = .ok (.bipush (-4), 2) := by decide +kernel
theorem dX7_set_35 : decode cX7_set 35 = .ok (.if_icmp .eq 11, 3) := by decide +kernel
theorem dX7_set_38 : decode cX7_set 38 = .ok (.iload_n 3, 1) := by decide +kernel
theorem dX7_set_39 : decode cX7_set 39 = .ok (.iload_n 2, 1) := by decide +kernel
theorem dX7_set_40 : decode cX7_set 40 = .ok (.invokestatic 155, 3) := by decide +kernel
theorem dX7_set_43 : decode cX7_set 43 = .ok (.ifCond .ne 5, 3) := by decide +kernel
theorem dX7_set_46 : decode cX7_set 46 = .ok (.iconst (-1), 1) := by decide +kernel
theorem dX7_set_47 : decode cX7_set 47 = .ok (.ireturn, 1) := by decide +kernel
theorem dX7_set_48 : decode cX7_set 48 = .ok (.aload_n 0, 1) := by decide +kernel
theorem dX7_set_49 : decode cX7_set 49 = .ok (.getfield 10, 3) := by decide +kernel
theorem dX7_set_52 : decode cX7_set 52 = .ok (.iload_n 3, 1) := by decide +kernel
theorem dX7_set_53 : decode cX7_set 53 = .ok (.invokevirtual 110, 3) := by decide +kernel
theorem dX7_set_56 : decode cX7_set 56 = .ok (.istore 4, 2) := by decide +kernel
theorem dX7_set_58 : decode cX7_set 58 = .ok (.aload_n 0, 1) := by decide +kernel
theorem dX7_set_59 : decode cX7_set 59 = .ok (.getfield 10, 3) := by decide +kernel
theorem dX7_set_62 : decode cX7_set 62 = .ok (.iload_n 3, 1) := by decide +kernel
theorem dX7_set_63 : decode cX7_set 63 = .ok (.iload_n 2, 1) := by decide +kernel
theorem dX7_set_64 : decode cX7_set 64 = .ok (.invokevirtual 159, 3) := by decide +kernel
theorem dX7_set_67 : decode cX7_set 67 = .ok (.iload 4, 2) := by decide +kernel
theorem dX7_set_69 : decode cX7_set 69 = .ok (.ireturn, 1) := by decide +kernel
theorem dX7_net_0 : decode cX7_net 0 = .ok (.bipush 8, 2) := by decide +kernel
theorem dX7_net_2 : decode cX7_net 2 = .ok (.iload_n 1, 1) := by decide +kernel
theorem dX7_net_3 : decode cX7_net 3 = .ok (.invokestatic 155, 3) := by decide +kernel
theorem dX7_net_6 : decode cX7_net 6 = .ok (.ifCond .eq 17, 3) := by decide +kernel
theorem dX7_net_9 : decode cX7_net 9 = .ok (.bipush 9, 2) := by decide +kernel
theorem dX7_net_11 : decode cX7_net 11 = .ok (.iload_n 2, 1) := by decide +kernel
theorem dX7_net_12 : decode cX7_net 12 = .ok (.invokestatic 155, 3) := by decide +kernel
theorem dX7_net_15 : decode cX7_net 15 = .ok (.ifCond .eq 8, 3) := by decide +kernel
theorem dX7_net_18 : decode cX7_net 18 = .ok (.iload_n 2, 1) := by decide +kernel
theorem dX7_net_19 : decode cX7_net 19 = .ok (.iload_n 1, 1) := by decide +kernel
theorem dX7_net_20 : decode cX7_net 20 = .ok (.if_icmp .gt 5, 3) := by decide +kernel
theorem dX7_net_23 : decode cX7_net 23 = .ok (.iconst (-1), 1) := by decide +kernel
theorem dX7_net_24 : decode cX7_net 24 = .ok (.ireturn, 1) := by decide +kernel
theorem dX7_net_25 : decode cX7_net 25 = .ok (.aload_n 0, 1) := by decide +kernel
theorem dX7_net_26 : decode cX7_net 26 = .ok (.getfield 10, 3) := by decide +kernel
theorem dX7_net_29 : decode cX7_net 29 = .ok (.bipush 8, 2) := by decide +kernel
theorem dX7_net_31 : decode cX7_net 31 = .ok (.invokevirtual 110, 3) := by decide +kernel
theorem dX7_net_34 : decode cX7_net 34 = .ok (.istore_n 3, 1) := by decide +kernel
theorem dX7_net_35 : decode cX7_net 35 = .ok (.aload_n 0, 1) := by decide +kernel
theorem dX7_net_36 : decode cX7_net 36 = .ok (.getfield 10, 3) := by decide +kernel
theorem dX7_net_39 : decode cX7_net 39 = .ok (.bipush 8, 2) := by decide +kernel
theorem dX7_net_41 : decode cX7_net 41 = .ok (.iload_n 1, 1) := by decide +kernel
theorem dX7_net_42 : decode cX7_net 42 = .ok (.invokevirtual 159, 3) := by decide +kernel
theorem dX7_net_45 : decode cX7_net 45 = .ok (.aload_n 0, 1) := by decide +kernel
theorem dX7_net_46 : decode cX7_net 46 = .ok (.getfield 10, 3) := by decide +kernel
theorem dX7_net_49 : decode cX7_net 49 = .ok (.bipush 9, 2) := by decide +kernel
theorem dX7_net_51 : decode cX7_net 51 = .ok (.iload_n 2, 1) := by decide +kernel
theorem dX7_net_52 : decode cX7_net 52 = .ok (.invokevirtual 159, 3) := by decide +kernel
theorem dX7_net_55 : decode cX7_net 55 = .ok (.iload_n 3, 1) := by decide +kernel
theorem dX7_net_56 : decode cX7_net 56 = .ok (.ireturn, 1) := by decide +kernel
theorem dX7_signal_0 : decode cX7_signal 0 = .ok (.aload_n 0, 1) := by decide +kernel
theorem dX7_signal_1 : decode cX7_signal 1 = .ok (.iload_n 1, 1) := by decide +kernel
theorem dX7_signal_2 : decode cX7_signal 2 = .ok (.invokevirtual 163, 3) := by decide +kernel
theorem dX7_signal_5 : decode cX7_signal 5 = .ok (.ifCond .ne 5, 3) := by decide +kernel
theorem dX7_signal_8 : decode cX7_signal 8 = .ok (.iconst (-1), 1) := by decide +kernel
theorem dX7_signal_9 : decode cX7_signal 9 = .ok (.ireturn, 1) := by decide +kernel
theorem dX7_signal_10 : decode cX7_signal 10 = .ok (.aload_n 0, 1) := by decide +kernel
theorem dX7_signal_11 : decode cX7_signal 11 = .ok (.getfield 10, 3) := by decide +kernel
theorem dX7_signal_14 : decode cX7_signal 14 = .ok (.iconst 4, 1) := by decide +kernel
theorem dX7_signal_15 : decode cX7_signal 15 = .ok (.invokevirtual 110, 3) := by decide +kernel
theorem dX7_signal_18 : decode cX7_signal 18 = .ok (.istore_n 3, 1) := by decide +kernel
theorem dX7_signal_19 : decode cX7_signal 19 = .ok (.iconst 1, 1) := by decide +kernel
theorem dX7_signal_20 : decode cX7_signal 20 = .ok (.iload_n 1, 1) := by decide +kernel
theorem dX7_signal_21 : decode cX7_signal 21 = .ok (.iconst 1, 1) := by decide +kernel
theorem dX7_signal_22 : decode cX7_signal 22 = .ok (.isub, 1) := by decide +kernel
theorem dX7_signal_23 : decode cX7_signal 23 = .ok (.ishl, 1) := by decide +kernel
theorem dX7_signal_24 : decode cX7_signal 24 = .ok (.istore 4, 2) := by decide +kernel
theorem dX7_signal_26 : decode cX7_signal 26 = .ok (.aload_n 0, 1) := by decide +kernel
theorem dX7_signal_27 : decode cX7_signal 27 = .ok (.getfield 10, 3) := by decide +kernel
theorem dX7_signal_30 : decode cX7_signal 30 = .ok (.iconst 4, 1) := by decide +kernel
theorem dX7_signal_31 : decode cX7_signal 31 = .ok (.iload_n 2, 1) := by decide +kernel
theorem dX7_signal_32 : decode cX7_signal 32 = .ok (.ifCond .eq 10, 3) := by decide +kernel
theorem dX7_signal_35 : decode cX7_signal 35 = .ok (.iload_n 3, 1) := by decide +kernel
theorem dX7_signal_36 : decode cX7_signal 36 = .ok (.iload 4, 2) := by decide +kernel
theorem dX7_signal_38 : decode cX7_signal 38 = .ok (.ior, 1) := by decide +kernel
theorem dX7_signal_39 : decode cX7_signal 39 = .ok (.goto 9, 3) := by decide +kernel
theorem dX7_signal_42 : decode cX7_signal 42 = .ok (.iload_n 3, 1) := by decide +kernel
theorem dX7_signal_43 : decode cX7_signal 43 = .ok (.iload 4, 2) := by decide +kernel
theorem dX7_signal_45 : decode cX7_signal 45 = .ok (.iconst (-1), 1) := by decide +kernel
theorem dX7_signal_46 : decode cX7_signal 46 = .ok (.ixor, 1) := by decide +kernel
theorem dX7_signal_47 : decode cX7_signal 47 = .ok (.iand, 1) := by decide +kernel
theorem dX7_signal_48 : decode cX7_signal 48 = .ok (.invokevirtual 159, 3) := by decide +kernel
theorem dX7_signal_51 : decode cX7_signal 51 = .ok (.iload_n 3, 1) := by decide +kernel
theorem dX7_signal_52 : decode cX7_signal 52 = .ok (.iload 4, 2) := by decide +kernel
theorem dX7_signal_54 : decode cX7_signal 54 = .ok (.iand, 1) := by decide +kernel
theorem dX7_signal_55 : decode cX7_signal 55 = .ok (.ifCond .eq 7, 3) := by decide +kernel
theorem dX7_signal_58 : decode cX7_signal 58 = .ok (.iconst 1, 1) := by decide +kernel
theorem dX7_signal_59 : decode cX7_signal 59 = .ok (.goto 4, 3) := by decide +kernel
theorem dX7_signal_62 : decode cX7_signal 62 = .ok (.iconst 0, 1) := by decide +kernel
theorem dX7_signal_63 : decode cX7_signal 63 = .ok (.ireturn, 1) := by decide +kernel
theorem dX7_bridge_0 : decode cX7_bridge 0 = .ok (.iload_n 1, 1) := by decide +kernel
theorem dX7_bridge_1 : decode cX7_bridge 1 = .ok (.ifCond .eq 13, 3) := by decide +kernel
theorem dX7_bridge_4 : decode cX7_bridge 4 = .ok (.aload_n 0, 1) := by decide +kernel
theorem dX7_bridge_5 : decode cX7_bridge 5 = .ok (.iload_n 1, 1) := by decide +kernel
theorem dX7_bridge_6 : decode cX7_bridge 6 = .ok (.invokevirtual 163, 3) := by decide +kernel
theorem dX7_bridge_9 : decode cX7_bridge 9 = .ok (.ifCond .ne 5, 3) := by decide +kernel
theorem dX7_bridge_12 : decode cX7_bridge 12 = .ok (.iconst (-1), 1) := by decide +kernel
theorem dX7_bridge_13 : decode cX7_bridge 13 = .ok (.ireturn, 1) := by decide +kernel
theorem dX7_bridge_14 : decode cX7_bridge 14 = .ok (.aload_n 0, 1) := by decide +kernel
theorem dX7_bridge_15 : decode cX7_bridge 15 = .ok (.getfield 10, 3) := by decide +kernel
theorem dX7_bridge_18 : decode cX7_bridge 18 = .ok (.iconst 5, 1) := by decide +kernel
theorem dX7_bridge_19 : decode cX7_bridge 19 = .ok (.invokevirtual 110, 3) := by decide +kernel
theorem dX7_bridge_22 : decode cX7_bridge 22 = .ok (.istore_n 2, 1) := by decide +kernel
theorem dX7_bridge_23 : decode cX7_bridge 23 = .ok (.aload_n 0, 1) := by decide +kernel
theorem dX7_bridge_24 : decode cX7_bridge 24 = .ok (.getfield 10, 3) := by decide +kernel
theorem dX7_bridge_27 : decode cX7_bridge 27 = .ok (.iconst 5, 1) := by decide +kernel
theorem dX7_bridge_28 : decode cX7_bridge 28 = .ok (.iload_n 1, 1) := by decide +kernel
theorem dX7_bridge_29 : decode cX7_bridge 29 = .ok (.invokevirtual 159, 3) := by decide +kernel
theorem dX7_bridge_32 : decode cX7_bridge 32 = .ok (.iload_n 2, 1) := by decide +kernel
theorem dX7_bridge_33 : decode cX7_bridge 33 = .ok (.ireturn, 1) := by decide +kernel
theorem dX7_clear_0 : decode cX7_clear 0 = .ok (.aload_n 0, 1) := by decide +kernel
theorem dX7_clear_1 : decode cX7_clear 1 = .ok (.iload_n 1, 1) := by decide +kernel
theorem dX7_clear_2 : decode cX7_clear 2 = .ok (.invokevirtual 134, 3) := by decide +kernel
theorem dX7_clear_5 : decode cX7_clear 5 = .ok (.ifCond .eq 13, 3) := by decide +kernel
theorem dX7_clear_8 : decode cX7_clear 8 = .ok (.iload_n 2, 1) := by decide +kernel
theorem dX7_clear_9 : decode cX7_clear 9 = .ok (.ifCond .lt 9, 3) := by decide +kernel
theorem dX7_clear_12 : decode cX7_clear 12 = .ok (.iload_n 2, 1) := by decide +kernel
theorem dX7_clear_13 : decode cX7_clear 13 = .ok (.bipush 10, 2) := by decide +kernel
theorem dX7_clear_15 : decode cX7_clear 15 = .ok (.if_icmp .le 5, 3) := by decide +kernel
theorem dX7_clear_18 : decode cX7_clear 18 = .ok (.iconst (-1), 1) := by decide +kernel
theorem dX7_clear_19 : decode cX7_clear 19 = .ok (.ireturn, 1) := by decide +kernel
theorem dX7_clear_20 : decode cX7_clear 20 = .ok (.aload_n 0, 1) := by decide +kernel
theorem dX7_clear_21 : decode cX7_clear 21 = .ok (.getfield 10, 3) := by decide +kernel
theorem dX7_clear_24 : decode cX7_clear 24 = .ok (.getfield 143, 3) := by decide +kernel
theorem dX7_clear_27 : decode cX7_clear 27 = .ok (.iload_n 1, 1) := by decide +kernel
theorem dX7_clear_28 : decode cX7_clear 28 = .ok (.invokestatic 120, 3) := by decide +kernel
theorem dX7_clear_31 : decode cX7_clear 31 = .ok (.istore_n 3, 1) := by decide +kernel
theorem dX7_clear_32 : decode cX7_clear 32 = .ok (.aload_n 0, 1) := by decide +kernel
theorem dX7_clear_33 : decode cX7_clear 33 = .ok (.getfield 10, 3) := by decide +kernel
theorem dX7_clear_36 : decode cX7_clear 36 = .ok (.getfield 143, 3) := by decide +kernel
theorem dX7_clear_39 : decode cX7_clear 39 = .ok (.iload_n 1, 1) := by decide +kernel
theorem dX7_clear_40 : decode cX7_clear 40 = .ok (.iload_n 2, 1) := by decide +kernel
theorem dX7_clear_41 : decode cX7_clear 41 = .ok (.invokestatic 166, 3) := by decide +kernel
theorem dX7_clear_44 : decode cX7_clear 44 = .ok (.iload_n 3, 1) := by decide +kernel
theorem dX7_clear_45 : decode cX7_clear 45 = .ok (.ireturn, 1) := by decide +kernel
theorem dX7_hang_0 : decode cX7_hang 0 = .ok (.aload_n 0, 1) := by decide +kernel
theorem dX7_hang_1 : decode cX7_hang 1 = .ok (.iload_n 1, 1) := by decide +kernel
theorem dX7_hang_2 : decode cX7_hang 2 = .ok (.invokevirtual 114, 3) := by decide +kernel
theorem dX7_hang_5 : decode cX7_hang 5 = .ok (.ifCond .eq 12, 3) := by decide +kernel
theorem dX7_hang_8 : decode cX7_hang 8 = .ok (.iload_n 2, 1) := by decide +kernel
theorem dX7_hang_9 : decode cX7_hang 9 = .ok (.ifCond .lt 8, 3) := by decide +kernel
theorem dX7_hang_12 : decode cX7_hang 12 = .ok (.iload_n 2, 1) := by decide +kernel
theorem dX7_hang_13 : decode cX7_hang 13 = .ok (.iconst 4, 1) := by decide +kernel
theorem dX7_hang_14 : decode cX7_hang 14 = .ok (.if_icmp .le 5, 3) := by decide +kernel
theorem dX7_hang_17 : decode cX7_hang 17 = .ok (.iconst (-1), 1) := by decide +kernel
theorem dX7_hang_18 : decode cX7_hang 18 = .ok (.ireturn, 1) := by decide +kernel
theorem dX7_hang_19 : decode cX7_hang 19 = .ok (.aload_n 0, 1) := by decide +kernel
theorem dX7_hang_20 : decode cX7_hang 20 = .ok (.getfield 10, 3) := by decide +kernel
theorem dX7_hang_23 : decode cX7_hang 23 = .ok (.getfield 117, 3) := by decide +kernel
theorem dX7_hang_26 : decode cX7_hang 26 = .ok (.iload_n 1, 1) := by decide +kernel
theorem dX7_hang_27 : decode cX7_hang 27 = .ok (.invokestatic 120, 3) := by decide +kernel
theorem dX7_hang_30 : decode cX7_hang 30 = .ok (.istore_n 3, 1) := by decide +kernel
theorem dX7_hang_31 : decode cX7_hang 31 = .ok (.aload_n 0, 1) := by decide +kernel
theorem dX7_hang_32 : decode cX7_hang 32 = .ok (.getfield 10, 3) := by decide +kernel
theorem dX7_hang_35 : decode cX7_hang 35 = .ok (.getfield 117, 3) := by decide +kernel
theorem dX7_hang_38 : decode cX7_hang 38 = .ok (.iload_n 1, 1) := by decide +kernel
theorem dX7_hang_39 : decode cX7_hang 39 = .ok (.iload_n 2, 1) := by decide +kernel
theorem dX7_hang_40 : decode cX7_hang 40 = .ok (.invokestatic 166, 3) := by decide +kernel
theorem dX7_hang_43 : decode cX7_hang 43 = .ok (.iload_n 3, 1) := by decide +kernel
theorem dX7_hang_44 : decode cX7_hang 44 = .ok (.ireturn, 1) := by decide +kernel
theorem dX7_post_0 : decode cX7_post 0 = .ok (.aload_n 0, 1) := by decide +kernel
theorem dX7_post_1 : decode cX7_post 1 = .ok (.aload_n 0, 1) := by decide +kernel
theorem dX7_post_2 : decode cX7_post 2 = .ok (.getfield 10, 3) := by decide +kernel
theorem dX7_post_5 : decode cX7_post 5 = .ok (.getfield 149, 3) := by decide +kernel
theorem dX7_post_8 : decode cX7_post 8 = .ok (.iload_n 1, 1) := by decide +kernel
theorem dX7_post_9 : decode cX7_post 9 = .ok (.iload_n 2, 1) := by decide +kernel
theorem dX7_post_10 : decode cX7_post 10 = .ok (.invokevirtual 170, 3) := by decide +kernel
theorem dX7_post_13 : decode cX7_post 13 = .ok (.istore_n 3, 1) := by decide +kernel
theorem dX7_post_14 : decode cX7_post 14 = .ok (.iload_n 3, 1) := by decide +kernel
theorem dX7_post_15 : decode cX7_post 15 = .ok (.ifCond .lt 15, 3) := by decide +kernel
theorem dX7_post_18 : decode cX7_post 18 = .ok (.aload_n 0, 1) := by decide +kernel
theorem dX7_post_19 : decode cX7_post 19 = .ok (.getfield 10, 3) := by decide +kernel
theorem dX7_post_22 : decode cX7_post 22 = .ok (.getfield 149, 3) := by decide +kernel
theorem dX7_post_25 : decode cX7_post 25 = .ok (.iload_n 1, 1) := by decide +kernel
theorem dX7_post_26 : decode cX7_post 26 = .ok (.iload_n 3, 1) := by decide +kernel
theorem dX7_post_27 : decode cX7_post 27 = .ok (.invokestatic 166, 3) := by decide +kernel
theorem dX7_post_30 : decode cX7_post 30 = .ok (.iload_n 3, 1) := by decide +kernel
theorem dX7_post_31 : decode cX7_post 31 = .ok (.ireturn, 1) := by decide +kernel
theorem dX7_night_0 : decode cX7_night 0 = .ok (.aload_n 0, 1) := by decide +kernel
theorem dX7_night_1 : decode cX7_night 1 = .ok (.iload_n 1, 1) := by decide +kernel
theorem dX7_night_2 : decode cX7_night 2 = .ok (.invokevirtual 174, 3) := by decide +kernel
theorem dX7_night_5 : decode cX7_night 5 = .ok (.ifCond .eq 18, 3) := by decide +kernel
theorem dX7_night_8 : decode cX7_night 8 = .ok (.aload_n 0, 1) := by decide +kernel
theorem dX7_night_9 : decode cX7_night 9 = .ok (.iload_n 2, 1) := by decide +kernel
theorem dX7_night_10 : decode cX7_night 10 = .ok (.invokevirtual 177, 3) := by decide +kernel
theorem dX7_night_13 : decode cX7_night 13 = .ok (.ifCond .eq 10, 3) := by decide +kernel
theorem dX7_night_16 : decode cX7_night 16 = .ok (.iload_n 3, 1) := by decide +kernel
theorem dX7_night_17 : decode cX7_night 17 = .ok (.invokestatic 180, 3) := by decide +kernel
theorem dX7_night_20 : decode cX7_night 20 = .ok (.ifCond .ne 5, 3) := by decide +kernel
theorem dX7_night_23 : decode cX7_night 23 = .ok (.iconst (-1), 1) := by decide +kernel
theorem dX7_night_24 : decode cX7_night 24 = .ok (.ireturn, 1) := by decide +kernel
theorem dX7_night_25 : decode cX7_night 25 = .ok (.aload_n 0, 1) := by decide +kernel
theorem dX7_night_26 : decode cX7_night 26 = .ok (.getfield 39, 3) := by decide +kernel
theorem dX7_night_29 : decode cX7_night 29 = .ok (.aload_n 0, 1) := by decide +kernel
theorem dX7_night_30 : decode cX7_night 30 = .ok (.getfield 10, 3) := by decide +kernel
theorem dX7_night_33 : decode cX7_night 33 = .ok (.iload_n 1, 1) := by decide +kernel
theorem dX7_night_34 : decode cX7_night 34 = .ok (.iload_n 2, 1) := by decide +kernel
theorem dX7_night_35 : decode cX7_night 35 = .ok (.invokevirtual 183, 3) := by decide +kernel
theorem dX7_night_38 : decode cX7_night 38 = .ok (.aload_n 0, 1) := by decide +kernel
theorem dX7_night_39 : decode cX7_night 39 = .ok (.getfield 39, 3) := by decide +kernel
theorem dX7_night_42 : decode cX7_night 42 = .ok (.iload_n 3, 1) := by decide +kernel
theorem dX7_night_43 : decode cX7_night 43 = .ok (.invokevirtual 187, 3) := by decide +kernel
theorem dX7_night_46 : decode cX7_night 46 = .ok (.ireturn, 1) := by decide +kernel
theorem dX7_counts_0 : decode cX7_counts 0 = .ok (.aload_n 0, 1) := by decide +kernel
theorem dX7_counts_1 : decode cX7_counts 1 = .ok (.iload_n 1, 1) := by decide +kernel
theorem dX7_counts_2 : decode cX7_counts 2 = .ok (.invokevirtual 174, 3) := by decide +kernel
theorem dX7_counts_5 : decode cX7_counts 5 = .ok (.ifCond .eq 23, 3) := by decide +kernel
theorem dX7_counts_8 : decode cX7_counts 8 = .ok (.aload_n 0, 1) := by decide +kernel
theorem dX7_counts_9 : decode cX7_counts 9 = .ok (.iload_n 2, 1) := by decide +kernel
theorem dX7_counts_10 : decode cX7_counts 10 = .ok (.invokevirtual 177, 3) := by decide +kernel
theorem dX7_counts_13 : decode cX7_counts 13 = .ok (.ifCond .eq 15, 3) := by decide +kernel
theorem dX7_counts_16 : decode cX7_counts 16 = .ok (.iload_n 3, 1) := by decide +kernel
theorem dX7_counts_17 : decode cX7_counts 17 = .ok (.ifCond .eq 13, 3) := by decide +kernel
theorem dX7_counts_20 : decode cX7_counts 20 = .ok (.aload_n 0, 1) := by decide +kernel
theorem dX7_counts_21 : decode cX7_counts 21 = .ok (.iload_n 3, 1) := by decide +kernel
theorem dX7_counts_22 : decode cX7_counts 22 = .ok (.invokevirtual 163, 3) := by decide +kernel
theorem dX7_counts_25 : decode cX7_counts 25 = .ok (.ifCond .ne 5, 3) := by decide +kernel
theorem dX7_counts_28 : decode cX7_counts 28 = .ok (.iconst (-1), 1) := by decide +kernel
theorem dX7_counts_29 : decode cX7_counts 29 = .ok (.ireturn, 1) := by decide +kernel
theorem dX7_counts_30 : decode cX7_counts 30 = .ok (.iconst 0, 1) := by decide +kernel
theorem dX7_counts_31 : decode cX7_counts 31 = .ok (.istore 4, 2) := by decide +kernel
theorem dX7_counts_33 : decode cX7_counts 33 = .ok (.iconst 1, 1) := by decide +kernel
theorem dX7_counts_34 : decode cX7_counts 34 = .ok (.istore 5, 2) := by decide +kernel
theorem dX7_counts_36 : decode cX7_counts 36 = .ok (.iload 5, 2) := by decide +kernel
theorem dX7_counts_38 : decode cX7_counts 38 = .ok (.iload_n 3, 1) := by decide +kernel
theorem dX7_counts_39 : decode cX7_counts 39 = .ok (.if_icmp .gt 24, 3) := by decide +kernel
theorem dX7_counts_42 : decode cX7_counts 42 = .ok (.aload_n 0, 1) := by decide +kernel
theorem dX7_counts_43 : decode cX7_counts 43 = .ok (.getfield 10, 3) := by decide +kernel
theorem dX7_counts_46 : decode cX7_counts 46 = .ok (.iload 5, 2) := by decide +kernel
theorem dX7_counts_48 : decode cX7_counts 48 = .ok (.iload 4, 2) := by decide +kernel
theorem dX7_counts_50 : decode cX7_counts 50 = .ok (.iload_n 1, 1) := by decide +kernel
theorem dX7_counts_51 : decode cX7_counts 51 = .ok (.iload_n 2, 1) := by decide +kernel
theorem dX7_counts_52 : decode cX7_counts 52 = .ok (.invokevirtual 190, 3) := by decide +kernel
theorem dX7_counts_55 : decode cX7_counts 55 = .ok (.istore 4, 2) := by decide +kernel
theorem dX7_counts_57 : decode cX7_counts 57 = .ok (.iinc 5 1, 3) := by decide +kernel
theorem dX7_counts_60 : decode cX7_counts 60 = .ok (.goto (-24), 3) := by decide +kernel
theorem dX7_counts_63 : decode cX7_counts 63 = .ok (.iload 4, 2) := by decide +kernel
theorem dX7_counts_65 : decode cX7_counts 65 = .ok (.ireturn, 1) := by decide +kernel
theorem dX7_where_0 : decode cX7_where 0 = .ok (.iload_n 1, 1) := by decide +kernel
theorem dX7_where_1 : decode cX7_where 1 = .ok (.ifCond .eq 11, 3) := by decide +kernel
theorem dX7_where_4 : decode cX7_where 4 = .ok (.aload_n 0, 1) := by decide +kernel
theorem dX7_where_5 : decode cX7_where 5 = .ok (.iload_n 1, 1) := by decide +kernel
theorem dX7_where_6 : decode cX7_where 6 = .ok (.invokevirtual 163, 3) := by decide +kernel
theorem dX7_where_9 : decode cX7_where 9 = .ok (.ifCond .eq 20, 3) := by decide +kernel
theorem dX7_where_12 : decode cX7_where 12 = .ok (.iload_n 2, 1) := by decide +kernel
theorem dX7_where_13 : decode cX7_where 13 = .ok (.ifCond .lt 16, 3) := by decide +kernel
theorem dX7_where_16 : decode cX7_where 16 = .ok (.iload_n 2, 1) := by decide +kernel
theorem dX7_where_17 : decode cX7_where 17 = .ok (.bipush 10, 2) := by decide +kernel
theorem dX7_where_19 : decode cX7_where 19 = .ok (.if_icmp .gt 10, 3) := by decide +kernel
theorem dX7_where_22 : decode cX7_where 22 = .ok (.iload_n 3, 1) := by decide +kernel
theorem dX7_where_23 : decode cX7_where 23 = .ok (.invokestatic 137, 3) := by decide +kernel
theorem dX7_where_26 : decode cX7_where 26 = .ok (.ifCond .ne 7, 3) := by decide +kernel
theorem dX7_where_29 : decode cX7_where 29 = .ok (.ldc2_w 194, 3) := by decide +kernel
theorem dX7_where_32 : decode cX7_where 32 = .ok (.lreturn, 1) := by decide +kernel
theorem dX7_where_33 : decode cX7_where 33 = .ok (.aload_n 0, 1) := by decide +kernel
theorem dX7_where_34 : decode cX7_where 34 = .ok (.getfield 46, 3) := by decide +kernel
theorem dX7_where_37 : decode cX7_where 37 = .ok (.aload_n 0, 1) := by decide +kernel
theorem dX7_where_38 : decode cX7_where 38 = .ok (.getfield 10, 3) := by decide +kernel
theorem dX7_where_41 : decode cX7_where 41 = .ok (.aload_n 0, 1) := by decide +kernel
theorem dX7_where_42 : decode cX7_where 42 = .ok (.getfield 10, 3) := by decide +kernel
theorem dX7_where_45 : decode cX7_where 45 = .ok (.bipush 6, 2) := by decide +kernel
theorem dX7_where_47 : decode cX7_where 47 = .ok (.invokevirtual 110, 3) := by decide +kernel
theorem dX7_where_50 : decode cX7_where 50 = .ok (.bipush (-4), 2) := by decide +kernel
theorem dX7_where_52 : decode cX7_where 52 = .ok (.invokevirtual 196, 3) := by decide +kernel
theorem dX7_where_55 : decode cX7_where 55 = .ok (.aload_n 0, 1) := by decide +kernel
theorem dX7_where_56 : decode cX7_where 56 = .ok (.getfield 46, 3) := by decide +kernel
theorem dX7_where_59 : decode cX7_where 59 = .ok (.iload_n 1, 1) := by decide +kernel
theorem dX7_where_60 : decode cX7_where 60 = .ok (.invokevirtual 199, 3) := by decide +kernel
theorem dX7_where_63 : decode cX7_where 63 = .ok (.aload_n 0, 1) := by decide +kernel
theorem dX7_where_64 : decode cX7_where 64 = .ok (.getfield 46, 3) := by decide +kernel
theorem dX7_where_67 : decode cX7_where 67 = .ok (.iload_n 1, 1) := by decide +kernel
theorem dX7_where_68 : decode cX7_where 68 = .ok (.iload_n 2, 1) := by decide +kernel
theorem dX7_where_69 : decode cX7_where 69 = .ok (.invokevirtual 203, 3) := by decide +kernel
theorem dX7_where_72 : decode cX7_where 72 = .ok (.aload_n 0, 1) := by decide +kernel
theorem dX7_where_73 : decode cX7_where 73 = .ok (.getfield 46, 3) := by decide +kernel
theorem dX7_where_76 : decode cX7_where 76 = .ok (.invokevirtual 207, 3) := by decide +kernel
theorem dX7_where_79 : decode cX7_where 79 = .ok (.iload_n 3, 1) := by decide +kernel
theorem dX7_where_80 : decode cX7_where 80 = .ok (.invokestatic 211, 3) := by decide +kernel
theorem dX7_where_83 : decode cX7_where 83 = .ok (.lreturn, 1) := by decide +kernel
theorem dX7_goes_0 : decode cX7_goes 0 = .ok (.aload_n 0, 1) := by decide +kernel
theorem dX7_goes_1 : decode cX7_goes 1 = .ok (.iload_n 1, 1) := by decide +kernel
theorem dX7_goes_2 : decode cX7_goes 2 = .ok (.invokevirtual 163, 3) := by decide +kernel
theorem dX7_goes_5 : decode cX7_goes 5 = .ok (.ifCond .eq 10, 3) := by decide +kernel
theorem dX7_goes_8 : decode cX7_goes 8 = .ok (.iload_n 2, 1) := by decide +kernel
theorem dX7_goes_9 : decode cX7_goes 9 = .ok (.invokestatic 137, 3) := by decide +kernel
theorem dX7_goes_12 : decode cX7_goes 12 = .ok (.ifCond .ne 7, 3) := by decide +kernel
theorem dX7_goes_15 : decode cX7_goes 15 = .ok (.ldc2_w 194, 3) := by decide +kernel
theorem dX7_goes_18 : decode cX7_goes 18 = .ok (.lreturn, 1) := by decide +kernel
theorem dX7_goes_19 : decode cX7_goes 19 = .ok (.aload_n 0, 1) := by decide +kernel
theorem dX7_goes_20 : decode cX7_goes 20 = .ok (.invokevirtual 215, 3) := by decide +kernel
theorem dX7_goes_23 : decode cX7_goes 23 = .ok (.aload_n 0, 1) := by decide +kernel
theorem dX7_goes_24 : decode cX7_goes 24 = .ok (.getfield 46, 3) := by decide +kernel
theorem dX7_goes_27 : decode cX7_goes 27 = .ok (.getfield 218, 3) := by decide +kernel
theorem dX7_goes_30 : decode cX7_goes 30 = .ok (.iload_n 1, 1) := by decide +kernel
theorem dX7_goes_31 : decode cX7_goes 31 = .ok (.invokestatic 222, 3) := by decide +kernel
theorem dX7_goes_34 : decode cX7_goes 34 = .ok (.aload_n 0, 1) := by decide +kernel
theorem dX7_goes_35 : decode cX7_goes 35 = .ok (.getfield 46, 3) := by decide +kernel
theorem dX7_goes_38 : decode cX7_goes 38 = .ok (.invokevirtual 207, 3) := by decide +kernel
theorem dX7_goes_41 : decode cX7_goes 41 = .ok (.iload_n 2, 1) := by decide +kernel
theorem dX7_goes_42 : decode cX7_goes 42 = .ok (.invokestatic 211, 3) := by decide +kernel
theorem dX7_goes_45 : decode cX7_goes 45 = .ok (.lreturn, 1) := by decide +kernel
theorem dX7_isOut_0 : decode cX7_isOut 0 = .ok (.aload_n 0, 1) := by decide +kernel
theorem dX7_isOut_1 : decode cX7_isOut 1 = .ok (.iload_n 1, 1) := by decide +kernel
theorem dX7_isOut_2 : decode cX7_isOut 2 = .ok (.invokevirtual 163, 3) := by decide +kernel
theorem dX7_isOut_5 : decode cX7_isOut 5 = .ok (.ifCond .eq 10, 3) := by decide +kernel
theorem dX7_isOut_8 : decode cX7_isOut 8 = .ok (.iload_n 2, 1) := by decide +kernel
theorem dX7_isOut_9 : decode cX7_isOut 9 = .ok (.invokestatic 137, 3) := by decide +kernel
theorem dX7_isOut_12 : decode cX7_isOut 12 = .ok (.ifCond .ne 7, 3) := by decide +kernel
theorem dX7_isOut_15 : decode cX7_isOut 15 = .ok (.ldc2_w 194, 3) := by decide +kernel
theorem dX7_isOut_18 : decode cX7_isOut 18 = .ok (.lreturn, 1) := by decide +kernel
theorem dX7_isOut_19 : decode cX7_isOut 19 = .ok (.aload_n 0, 1) := by decide +kernel
theorem dX7_isOut_20 : decode cX7_isOut 20 = .ok (.invokevirtual 215, 3) := by decide +kernel
theorem dX7_isOut_23 : decode cX7_isOut 23 = .ok (.aload_n 0, 1) := by decide +kernel
theorem dX7_isOut_24 : decode cX7_isOut 24 = .ok (.getfield 46, 3) := by decide +kernel
theorem dX7_isOut_27 : decode cX7_isOut 27 = .ok (.getfield 225, 3) := by decide +kernel
theorem dX7_isOut_30 : decode cX7_isOut 30 = .ok (.iload_n 1, 1) := by decide +kernel
theorem dX7_isOut_31 : decode cX7_isOut 31 = .ok (.invokestatic 222, 3) := by decide +kernel
theorem dX7_isOut_34 : decode cX7_isOut 34 = .ok (.aload_n 0, 1) := by decide +kernel
theorem dX7_isOut_35 : decode cX7_isOut 35 = .ok (.getfield 46, 3) := by decide +kernel
theorem dX7_isOut_38 : decode cX7_isOut 38 = .ok (.invokevirtual 207, 3) := by decide +kernel
theorem dX7_isOut_41 : decode cX7_isOut 41 = .ok (.iload_n 2, 1) := by decide +kernel
theorem dX7_isOut_42 : decode cX7_isOut 42 = .ok (.invokestatic 211, 3) := by decide +kernel
theorem dX7_isOut_45 : decode cX7_isOut 45 = .ok (.lreturn, 1) := by decide +kernel
theorem dX7_had_0 : decode cX7_had 0 = .ok (.aload_n 0, 1) := by decide +kernel
theorem dX7_had_1 : decode cX7_had 1 = .ok (.iload_n 1, 1) := by decide +kernel
theorem dX7_had_2 : decode cX7_had 2 = .ok (.invokevirtual 114, 3) := by decide +kernel
theorem dX7_had_5 : decode cX7_had 5 = .ok (.ifCond .eq 10, 3) := by decide +kernel
theorem dX7_had_8 : decode cX7_had 8 = .ok (.iload_n 2, 1) := by decide +kernel
theorem dX7_had_9 : decode cX7_had 9 = .ok (.invokestatic 137, 3) := by decide +kernel
theorem dX7_had_12 : decode cX7_had 12 = .ok (.ifCond .ne 7, 3) := by decide +kernel
theorem dX7_had_15 : decode cX7_had 15 = .ok (.ldc2_w 194, 3) := by decide +kernel
theorem dX7_had_18 : decode cX7_had 18 = .ok (.lreturn, 1) := by decide +kernel
theorem dX7_had_19 : decode cX7_had 19 = .ok (.aload_n 0, 1) := by decide +kernel
theorem dX7_had_20 : decode cX7_had 20 = .ok (.invokevirtual 215, 3) := by decide +kernel
theorem dX7_had_23 : decode cX7_had 23 = .ok (.aload_n 0, 1) := by decide +kernel
theorem dX7_had_24 : decode cX7_had 24 = .ok (.iload_n 1, 1) := by decide +kernel
theorem dX7_had_25 : decode cX7_had 25 = .ok (.invokevirtual 228, 3) := by decide +kernel
theorem dX7_had_28 : decode cX7_had 28 = .ok (.aload_n 0, 1) := by decide +kernel
theorem dX7_had_29 : decode cX7_had 29 = .ok (.getfield 10, 3) := by decide +kernel
theorem dX7_had_32 : decode cX7_had 32 = .ok (.iload_n 1, 1) := by decide +kernel
theorem dX7_had_33 : decode cX7_had 33 = .ok (.aload_n 0, 1) := by decide +kernel
theorem dX7_had_34 : decode cX7_had 34 = .ok (.getfield 10, 3) := by decide +kernel
theorem dX7_had_37 : decode cX7_had 37 = .ok (.bipush 7, 2) := by decide +kernel
theorem dX7_had_39 : decode cX7_had 39 = .ok (.invokevirtual 110, 3) := by decide +kernel
theorem dX7_had_42 : decode cX7_had 42 = .ok (.invokevirtual 130, 3) := by decide +kernel
theorem dX7_had_45 : decode cX7_had 45 = .ok (.i2l, 1) := by decide +kernel
theorem dX7_had_46 : decode cX7_had 46 = .ok (.lmul, 1) := by decide +kernel
theorem dX7_had_47 : decode cX7_had 47 = .ok (.ldc2_w 232, 3) := by decide +kernel
theorem dX7_had_50 : decode cX7_had 50 = .ok (.aload_n 0, 1) := by decide +kernel
theorem dX7_had_51 : decode cX7_had 51 = .ok (.getfield 46, 3) := by decide +kernel
theorem dX7_had_54 : decode cX7_had 54 = .ok (.invokevirtual 207, 3) := by decide +kernel
theorem dX7_had_57 : decode cX7_had 57 = .ok (.lmul, 1) := by decide +kernel
theorem dX7_had_58 : decode cX7_had 58 = .ok (.iload_n 2, 1) := by decide +kernel
theorem dX7_had_59 : decode cX7_had 59 = .ok (.invokestatic 211, 3) := by decide +kernel
theorem dX7_had_62 : decode cX7_had 62 = .ok (.lreturn, 1) := by decide +kernel
theorem dX7_hits_0 : decode cX7_hits 0 = .ok (.iload_n 1, 1) := by decide +kernel
theorem dX7_hits_1 : decode cX7_hits 1 = .ok (.invokestatic 137, 3) := by decide +kernel
theorem dX7_hits_4 : decode cX7_hits 4 = .ok (.ifCond .ne 7, 3) := by decide +kernel
theorem dX7_hits_7 : decode cX7_hits 7 = .ok (.ldc2_w 194, 3) := by decide +kernel
theorem dX7_hits_10 : decode cX7_hits 10 = .ok (.lreturn, 1) := by decide +kernel
theorem dX7_hits_11 : decode cX7_hits 11 = .ok (.aload_n 0, 1) := by decide +kernel
theorem dX7_hits_12 : decode cX7_hits 12 = .ok (.invokevirtual 215, 3) := by decide +kernel
theorem dX7_hits_15 : decode cX7_hits 15 = .ok (.aload_n 0, 1) := by decide +kernel
theorem dX7_hits_16 : decode cX7_hits 16 = .ok (.invokevirtual 234, 3) := by decide +kernel
theorem dX7_hits_19 : decode cX7_hits 19 = .ok (.aload_n 0, 1) := by decide +kernel
theorem dX7_hits_20 : decode cX7_hits 20 = .ok (.getfield 46, 3) := by decide +kernel
theorem dX7_hits_23 : decode cX7_hits 23 = .ok (.invokevirtual 207, 3) := by decide +kernel
theorem dX7_hits_26 : decode cX7_hits 26 = .ok (.iload_n 1, 1) := by decide +kernel
theorem dX7_hits_27 : decode cX7_hits 27 = .ok (.invokestatic 211, 3) := by decide +kernel
theorem dX7_hits_30 : decode cX7_hits 30 = .ok (.lreturn, 1) := by decide +kernel
theorem dX7_torn_0 : decode cX7_torn 0 = .ok (.iload_n 1, 1) := by decide +kernel
theorem dX7_torn_1 : decode cX7_torn 1 = .ok (.invokestatic 137, 3) := by decide +kernel
theorem dX7_torn_4 : decode cX7_torn 4 = .ok (.ifCond .ne 7, 3) := by decide +kernel
theorem dX7_torn_7 : decode cX7_torn 7 = .ok (.ldc2_w 194, 3) := by decide +kernel
theorem dX7_torn_10 : decode cX7_torn 10 = .ok (.lreturn, 1) := by decide +kernel
theorem dX7_torn_11 : decode cX7_torn 11 = .ok (.aload_n 0, 1) := by decide +kernel
theorem dX7_torn_12 : decode cX7_torn 12 = .ok (.invokevirtual 215, 3) := by decide +kernel
theorem dX7_torn_15 : decode cX7_torn 15 = .ok (.aload_n 0, 1) := by decide +kernel
theorem dX7_torn_16 : decode cX7_torn 16 = .ok (.invokevirtual 237, 3) := by decide +kernel
theorem dX7_torn_19 : decode cX7_torn 19 = .ok (.aload_n 0, 1) := by decide +kernel
theorem dX7_torn_20 : decode cX7_torn 20 = .ok (.getfield 46, 3) := by decide +kernel
theorem dX7_torn_23 : decode cX7_torn 23 = .ok (.invokevirtual 207, 3) := by decide +kernel
theorem dX7_torn_26 : decode cX7_torn 26 = .ok (.iload_n 1, 1) := by decide +kernel
theorem dX7_torn_27 : decode cX7_torn 27 = .ok (.invokestatic 211, 3) := by decide +kernel
theorem dX7_torn_30 : decode cX7_torn 30 = .ok (.lreturn, 1) := by decide +kernel
theorem dX7_worth_0 : decode cX7_worth 0 = .ok (.iload_n 1, 1) := by decide +kernel
theorem dX7_worth_1 : decode cX7_worth 1 = .ok (.invokestatic 137, 3) := by decide +kernel
theorem dX7_worth_4 : decode cX7_worth 4 = .ok (.ifCond .ne 7, 3) := by decide +kernel
theorem dX7_worth_7 : decode cX7_worth 7 = .ok (.ldc2_w 194, 3) := by decide +kernel
theorem dX7_worth_10 : decode cX7_worth 10 = .ok (.lreturn, 1) := by decide +kernel
theorem dX7_worth_11 : decode cX7_worth 11 = .ok (.aload_n 0, 1) := by decide +kernel
theorem dX7_worth_12 : decode cX7_worth 12 = .ok (.invokevirtual 215, 3) := by decide +kernel
theorem dX7_worth_15 : decode cX7_worth 15 = .ok (.aload_n 0, 1) := by decide +kernel
theorem dX7_worth_16 : decode cX7_worth 16 = .ok (.invokevirtual 240, 3) := by decide +kernel
theorem dX7_worth_19 : decode cX7_worth 19 = .ok (.ldc2_w 232, 3) := by decide +kernel
theorem dX7_worth_22 : decode cX7_worth 22 = .ok (.aload_n 0, 1) := by decide +kernel
theorem dX7_worth_23 : decode cX7_worth 23 = .ok (.getfield 46, 3) := by decide +kernel
theorem dX7_worth_26 : decode cX7_worth 26 = .ok (.invokevirtual 207, 3) := by decide +kernel
theorem dX7_worth_29 : decode cX7_worth 29 = .ok (.lmul, 1) := by decide +kernel
theorem dX7_worth_30 : decode cX7_worth 30 = .ok (.iload_n 1, 1) := by decide +kernel
theorem dX7_worth_31 : decode cX7_worth 31 = .ok (.invokestatic 211, 3) := by decide +kernel
theorem dX7_worth_34 : decode cX7_worth 34 = .ok (.lreturn, 1) := by decide +kernel
theorem dX7_best_0 : decode cX7_best 0 = .ok (.iload_n 1, 1) := by decide +kernel
theorem dX7_best_1 : decode cX7_best 1 = .ok (.ifCond .lt 8, 3) := by decide +kernel
theorem dX7_best_4 : decode cX7_best 4 = .ok (.iload_n 1, 1) := by decide +kernel
theorem dX7_best_5 : decode cX7_best 5 = .ok (.iconst 2, 1) := by decide +kernel
theorem dX7_best_6 : decode cX7_best 6 = .ok (.if_icmp .le 7, 3) := by decide +kernel
theorem dX7_best_9 : decode cX7_best 9 = .ok (.ldc2_w 194, 3) := by decide +kernel
theorem dX7_best_12 : decode cX7_best 12 = .ok (.lreturn, 1) := by decide +kernel
theorem dX7_best_13 : decode cX7_best 13 = .ok (.aload_n 0, 1) := by decide +kernel
theorem dX7_best_14 : decode cX7_best 14 = .ok (.getfield 46, 3) := by decide +kernel
theorem dX7_best_17 : decode cX7_best 17 = .ok (.aload_n 0, 1) := by decide +kernel
theorem dX7_best_18 : decode cX7_best 18 = .ok (.getfield 10, 3) := by decide +kernel
theorem dX7_best_21 : decode cX7_best 21 = .ok (.aload_n 0, 1) := by decide +kernel
theorem dX7_best_22 : decode cX7_best 22 = .ok (.getfield 10, 3) := by decide +kernel
theorem dX7_best_25 : decode cX7_best 25 = .ok (.bipush 6, 2) := by decide +kernel
theorem dX7_best_27 : decode cX7_best 27 = .ok (.invokevirtual 110, 3) := by decide +kernel
theorem dX7_best_30 : decode cX7_best 30 = .ok (.bipush (-4), 2) := by decide +kernel
theorem dX7_best_32 : decode cX7_best 32 = .ok (.invokevirtual 196, 3) := by decide +kernel
theorem dX7_best_35 : decode cX7_best 35 = .ok (.bipush (-4), 2) := by decide +kernel
theorem dX7_best_37 : decode cX7_best 37 = .ok (.istore_n 2, 1) := by decide +kernel
theorem dX7_best_38 : decode cX7_best 38 = .ok (.lconst 0, 1) := by decide +kernel
theorem dX7_best_39 : decode cX7_best 39 = .ok (.lstore_n 3, 1) := by decide +kernel
theorem dX7_best_40 : decode cX7_best 40 = .ok (.getstatic 243, 3) := by decide +kernel
theorem dX7_best_43 : decode cX7_best 43 = .ok (.bipush 8, 2) := by decide +kernel
theorem dX7_best_45 : decode cX7_best 45 = .ok (.iaload, 1) := by decide +kernel
theorem dX7_best_46 : decode cX7_best 46 = .ok (.istore 5, 2) := by decide +kernel
theorem dX7_best_48 : decode cX7_best 48 = .ok (.iload 5, 2) := by decide +kernel
theorem dX7_best_50 : decode cX7_best 50 = .ok (.getstatic 246, 3) := by decide +kernel
theorem dX7_best_53 : decode cX7_best 53 = .ok (.bipush 8, 2) := by decide +kernel
theorem dX7_best_55 : decode cX7_best 55 = .ok (.iaload, 1) := by decide +kernel
theorem dX7_best_56 : decode cX7_best 56 = .ok (.if_icmp .gt 82, 3) := by decide +kernel
theorem dX7_best_59 : decode cX7_best 59 = .ok (.iload 5, 2) := by decide +kernel
theorem dX7_best_61 : decode cX7_best 61 = .ok (.iconst 1, 1) := by decide +kernel
theorem dX7_best_62 : decode cX7_best 62 = .ok (.iadd, 1) := by decide +kernel
theorem dX7_best_63 : decode cX7_best 63 = .ok (.istore 6, 2) := by decide +kernel
theorem dX7_best_65 : decode cX7_best 65 = .ok (.iload 6, 2) := by decide +kernel
theorem dX7_best_67 : decode cX7_best 67 = .ok (.getstatic 246, 3) := by decide +kernel
theorem dX7_best_70 : decode cX7_best 70 = .ok (.bipush 9, 2) := by decide +kernel
theorem dX7_best_72 : decode cX7_best 72 = .ok (.iaload, 1) := by decide +kernel
theorem dX7_best_73 : decode cX7_best 73 = .ok (.if_icmp .gt 59, 3) := by decide +kernel
theorem dX7_best_76 : decode cX7_best 76 = .ok (.aload_n 0, 1) := by decide +kernel
theorem dX7_best_77 : decode cX7_best 77 = .ok (.getfield 46, 3) := by decide +kernel
theorem dX7_best_80 : decode cX7_best 80 = .ok (.iload 5, 2) := by decide +kernel
theorem dX7_best_82 : decode cX7_best 82 = .ok (.iload 6, 2) := by decide +kernel
theorem dX7_best_84 : decode cX7_best 84 = .ok (.aload_n 0, 1) := by decide +kernel
theorem dX7_best_85 : decode cX7_best 85 = .ok (.getfield 10, 3) := by decide +kernel
theorem dX7_best_88 : decode cX7_best 88 = .ok (.iconst 5, 1) := by decide +kernel
theorem dX7_best_89 : decode cX7_best 89 = .ok (.invokevirtual 110, 3) := by decide +kernel
theorem dX7_best_92 : decode cX7_best 92 = .ok (.invokevirtual 249, 3) := by decide +kernel
theorem dX7_best_95 : decode cX7_best 95 = .ok (.aload_n 0, 1) := by decide +kernel
theorem dX7_best_96 : decode cX7_best 96 = .ok (.invokevirtual 240, 3) := by decide +kernel
theorem dX7_best_99 : decode cX7_best 99 = .ok (.lstore 7, 2) := by decide +kernel
theorem dX7_best_101 : decode cX7_best 101 = .ok (.iload_n 2, 1) := by decide +kernel
theorem dX7_best_102 : decode cX7_best 102 = .ok (.bipush (-4), 2) := by decide +kernel
theorem dX7_best_104 : decode cX7_best 104 = .ok (.if_icmp .eq 10, 3) := by decide +kernel
theorem dX7_best_107 : decode cX7_best 107 = .ok (.lload 7, 2) := by decide +kernel
theorem dX7_best_109 : decode cX7_best 109 = .ok (.lload_n 3, 1) := by decide +kernel
theorem dX7_best_110 : decode cX7_best 110 = .ok (.lcmp, 1) := by decide +kernel
theorem dX7_best_111 : decode cX7_best 111 = .ok (.ifCond .le 15, 3) := by decide +kernel
theorem dX7_best_114 : decode cX7_best 114 = .ok (.bipush 100, 2) := by decide +kernel
theorem dX7_best_116 : decode cX7_best 116 = .ok (.iload 5, 2) := by decide +kernel
theorem dX7_best_118 : decode cX7_best 118 = .ok (.imul, 1) := by decide +kernel
theorem dX7_best_119 : decode cX7_best 119 = .ok (.iload 6, 2) := by decide +kernel
theorem dX7_best_121 : decode cX7_best 121 = .ok (.iadd, 1) := by decide +kernel
theorem dX7_best_122 : decode cX7_best 122 = .ok (.istore_n 2, 1) := by decide +kernel
theorem dX7_best_123 : decode cX7_best 123 = .ok (.lload 7, 2) := by decide +kernel
theorem dX7_best_125 : decode cX7_best 125 = .ok (.lstore_n 3, 1) := by decide +kernel
theorem dX7_best_126 : decode cX7_best 126 = .ok (.iinc 6 1, 3) := by decide +kernel
theorem dX7_best_129 : decode cX7_best 129 = .ok (.goto (-64), 3) := by decide +kernel
theorem dX7_best_132 : decode cX7_best 132 = .ok (.iinc 5 1, 3) := by decide +kernel
theorem dX7_best_135 : decode cX7_best 135 = .ok (.goto (-87), 3) := by decide +kernel
theorem dX7_best_138 : decode cX7_best 138 = .ok (.iload_n 1, 1) := by decide +kernel
theorem dX7_best_139 : decode cX7_best 139 = .ok (.ifCond .ne 8, 3) := by decide +kernel
theorem dX7_best_142 : decode cX7_best 142 = .ok (.iload_n 2, 1) := by decide +kernel
theorem dX7_best_143 : decode cX7_best 143 = .ok (.i2l, 1) := by decide +kernel
theorem dX7_best_144 : decode cX7_best 144 = .ok (.goto 21, 3) := by decide +kernel
theorem dX7_best_147 : decode cX7_best 147 = .ok (.lload_n 3, 1) := by decide +kernel
theorem dX7_best_148 : decode cX7_best 148 = .ok (.ldc2_w 232, 3) := by decide +kernel
theorem dX7_best_151 : decode cX7_best 151 = .ok (.aload_n 0, 1) := by decide +kernel
theorem dX7_best_152 : decode cX7_best 152 = .ok (.getfield 46, 3) := by decide +kernel
theorem dX7_best_155 : decode cX7_best 155 = .ok (.invokevirtual 207, 3) := by decide +kernel
theorem dX7_best_158 : decode cX7_best 158 = .ok (.lmul, 1) := by decide +kernel
theorem dX7_best_159 : decode cX7_best 159 = .ok (.iload_n 1, 1) := by decide +kernel
theorem dX7_best_160 : decode cX7_best 160 = .ok (.iconst 1, 1) := by decide +kernel
theorem dX7_best_161 : decode cX7_best 161 = .ok (.isub, 1) := by decide +kernel
theorem dX7_best_162 : decode cX7_best 162 = .ok (.invokestatic 211, 3) := by decide +kernel
theorem dX7_best_165 : decode cX7_best 165 = .ok (.lreturn, 1) := by decide +kernel
theorem dX7_fog_0 : decode cX7_fog 0 = .ok (.aload_n 0, 1) := by decide +kernel
theorem dX7_fog_1 : decode cX7_fog 1 = .ok (.iload_n 1, 1) := by decide +kernel
theorem dX7_fog_2 : decode cX7_fog 2 = .ok (.invokevirtual 114, 3) := by decide +kernel
theorem dX7_fog_5 : decode cX7_fog 5 = .ok (.ifCond .eq 14, 3) := by decide +kernel
theorem dX7_fog_8 : decode cX7_fog 8 = .ok (.iload_n 2, 1) := by decide +kernel
theorem dX7_fog_9 : decode cX7_fog 9 = .ok (.iconst 1, 1) := by decide +kernel
theorem dX7_fog_10 : decode cX7_fog 10 = .ok (.if_icmp .lt 9, 3) := by decide +kernel
theorem dX7_fog_13 : decode cX7_fog 13 = .ok (.iload_n 2, 1) := by decide +kernel
theorem dX7_fog_14 : decode cX7_fog 14 = .ok (.bipush 10, 2) := by decide +kernel
theorem dX7_fog_16 : decode cX7_fog 16 = .ok (.if_icmp .le 5, 3) := by decide +kernel
theorem dX7_fog_19 : decode cX7_fog 19 = .ok (.iconst (-1), 1) := by decide +kernel
theorem dX7_fog_20 : decode cX7_fog 20 = .ok (.ireturn, 1) := by decide +kernel
theorem dX7_fog_21 : decode cX7_fog 21 = .ok (.iconst 0, 1) := by decide +kernel
theorem dX7_fog_22 : decode cX7_fog 22 = .ok (.istore_n 3, 1) := by decide +kernel
theorem dX7_fog_23 : decode cX7_fog 23 = .ok (.iload_n 3, 1) := by decide +kernel
theorem dX7_fog_24 : decode cX7_fog 24 = .ok (.bipush 10, 2) := by decide +kernel
theorem dX7_fog_26 : decode cX7_fog 26 = .ok (.if_icmp .gt 30, 3) := by decide +kernel
theorem dX7_fog_29 : decode cX7_fog 29 = .ok (.aload_n 0, 1) := by decide +kernel
theorem dX7_fog_30 : decode cX7_fog 30 = .ok (.iload_n 1, 1) := by decide +kernel
theorem dX7_fog_31 : decode cX7_fog 31 = .ok (.iload_n 2, 1) := by decide +kernel
theorem dX7_fog_32 : decode cX7_fog 32 = .ok (.aload_n 0, 1) := by decide +kernel
theorem dX7_fog_33 : decode cX7_fog 33 = .ok (.getfield 10, 3) := by decide +kernel
theorem dX7_fog_36 : decode cX7_fog 36 = .ok (.bipush 6, 2) := by decide +kernel
theorem dX7_fog_38 : decode cX7_fog 38 = .ok (.invokevirtual 110, 3) := by decide +kernel
theorem dX7_fog_41 : decode cX7_fog 41 = .ok (.iload_n 3, 1) := by decide +kernel
theorem dX7_fog_42 : decode cX7_fog 42 = .ok (.invokevirtual 253, 3) := by decide +kernel
theorem dX7_fog_45 : decode cX7_fog 45 = .ok (.ifCond .eq 5, 3) := by decide +kernel
theorem dX7_fog_48 : decode cX7_fog 48 = .ok (.iload_n 3, 1) := by decide +kernel
theorem dX7_fog_49 : decode cX7_fog 49 = .ok (.ireturn, 1) := by decide +kernel
theorem dX7_fog_50 : decode cX7_fog 50 = .ok (.iinc 3 1, 3) := by decide +kernel
theorem dX7_fog_53 : decode cX7_fog 53 = .ok (.goto (-30), 3) := by decide +kernel
theorem dX7_fog_56 : decode cX7_fog 56 = .ok (.bipush (-4), 2) := by decide +kernel
theorem dX7_fog_58 : decode cX7_fog 58 = .ok (.ireturn, 1) := by decide +kernel
theorem dX7_fast_0 : decode cX7_fast 0 = .ok (.aload_n 0, 1) := by decide +kernel
theorem dX7_fast_1 : decode cX7_fast 1 = .ok (.iload_n 1, 1) := by decide +kernel
theorem dX7_fast_2 : decode cX7_fast 2 = .ok (.invokevirtual 114, 3) := by decide +kernel
theorem dX7_fast_5 : decode cX7_fast 5 = .ok (.ifCond .eq 14, 3) := by decide +kernel
theorem dX7_fast_8 : decode cX7_fast 8 = .ok (.iload_n 2, 1) := by decide +kernel
theorem dX7_fast_9 : decode cX7_fast 9 = .ok (.iconst 1, 1) := by decide +kernel
theorem dX7_fast_10 : decode cX7_fast 10 = .ok (.if_icmp .lt 9, 3) := by decide +kernel
theorem dX7_fast_13 : decode cX7_fast 13 = .ok (.iload_n 2, 1) := by decide +kernel
theorem dX7_fast_14 : decode cX7_fast 14 = .ok (.bipush 10, 2) := by decide +kernel
theorem dX7_fast_16 : decode cX7_fast 16 = .ok (.if_icmp .le 5, 3) := by decide +kernel
theorem dX7_fast_19 : decode cX7_fast 19 = .ok (.iconst (-1), 1) := by decide +kernel
theorem dX7_fast_20 : decode cX7_fast 20 = .ok (.ireturn, 1) := by decide +kernel
theorem dX7_fast_21 : decode cX7_fast 21 = .ok (.aload_n 0, 1) := by decide +kernel
theorem dX7_fast_22 : decode cX7_fast 22 = .ok (.invokevirtual 215, 3) := by decide +kernel
theorem dX7_fast_25 : decode cX7_fast 25 = .ok (.getstatic 246, 3) := by decide +kernel
theorem dX7_fast_28 : decode cX7_fast 28 = .ok (.bipush 7, 2) := by decide +kernel
theorem dX7_fast_30 : decode cX7_fast 30 = .ok (.iaload, 1) := by decide +kernel
theorem dX7_fast_31 : decode cX7_fast 31 = .ok (.istore_n 3, 1) := by decide +kernel
theorem dX7_fast_32 : decode cX7_fast 32 = .ok (.iload_n 3, 1) := by decide +kernel
theorem dX7_fast_33 : decode cX7_fast 33 = .ok (.getstatic 243, 3) := by decide +kernel
theorem dX7_fast_36 : decode cX7_fast 36 = .ok (.bipush 7, 2) := by decide +kernel
theorem dX7_fast_38 : decode cX7_fast 38 = .ok (.iaload, 1) := by decide +kernel
theorem dX7_fast_39 : decode cX7_fast 39 = .ok (.if_icmp .lt 41, 3) := by decide +kernel
theorem dX7_fast_42 : decode cX7_fast 42 = .ok (.aload_n 0, 1) := by decide +kernel
theorem dX7_fast_43 : decode cX7_fast 43 = .ok (.iload_n 1, 1) := by decide +kernel
theorem dX7_fast_44 : decode cX7_fast 44 = .ok (.invokevirtual 228, 3) := by decide +kernel
theorem dX7_fast_47 : decode cX7_fast 47 = .ok (.aload_n 0, 1) := by decide +kernel
theorem dX7_fast_48 : decode cX7_fast 48 = .ok (.getfield 10, 3) := by decide +kernel
theorem dX7_fast_51 : decode cX7_fast 51 = .ok (.iload_n 1, 1) := by decide +kernel
theorem dX7_fast_52 : decode cX7_fast 52 = .ok (.iload_n 3, 1) := by decide +kernel
theorem dX7_fast_53 : decode cX7_fast 53 = .ok (.invokevirtual 130, 3) := by decide +kernel
theorem dX7_fast_56 : decode cX7_fast 56 = .ok (.i2l, 1) := by decide +kernel
theorem dX7_fast_57 : decode cX7_fast 57 = .ok (.lmul, 1) := by decide +kernel
theorem dX7_fast_58 : decode cX7_fast 58 = .ok (.iload_n 2, 1) := by decide +kernel
theorem dX7_fast_59 : decode cX7_fast 59 = .ok (.i2l, 1) := by decide +kernel
theorem dX7_fast_60 : decode cX7_fast 60 = .ok (.aload_n 0, 1) := by decide +kernel
theorem dX7_fast_61 : decode cX7_fast 61 = .ok (.getfield 46, 3) := by decide +kernel
theorem dX7_fast_64 : decode cX7_fast 64 = .ok (.invokevirtual 207, 3) := by decide +kernel
theorem dX7_fast_67 : decode cX7_fast 67 = .ok (.lmul, 1) := by decide +kernel
theorem dX7_fast_68 : decode cX7_fast 68 = .ok (.lcmp, 1) := by decide +kernel
theorem dX7_fast_69 : decode cX7_fast 69 = .ok (.ifCond .lt 5, 3) := by decide +kernel
theorem dX7_fast_72 : decode cX7_fast 72 = .ok (.iload_n 3, 1) := by decide +kernel
theorem dX7_fast_73 : decode cX7_fast 73 = .ok (.ireturn, 1) := by decide +kernel
theorem dX7_fast_74 : decode cX7_fast 74 = .ok (.iinc 3 (-1), 3) := by decide +kernel
theorem dX7_fast_77 : decode cX7_fast 77 = .ok (.goto (-45), 3) := by decide +kernel
theorem dX7_fast_80 : decode cX7_fast 80 = .ok (.bipush (-4), 2) := by decide +kernel
theorem dX7_fast_82 : decode cX7_fast 82 = .ok (.ireturn, 1) := by decide +kernel
theorem dX7_slack_0 : decode cX7_slack 0 = .ok (.aload_n 0, 1) := by decide +kernel
theorem dX7_slack_1 : decode cX7_slack 1 = .ok (.iload_n 1, 1) := by decide +kernel
theorem dX7_slack_2 : decode cX7_slack 2 = .ok (.invokevirtual 114, 3) := by decide +kernel
theorem dX7_slack_5 : decode cX7_slack 5 = .ok (.ifCond .eq 14, 3) := by decide +kernel
theorem dX7_slack_8 : decode cX7_slack 8 = .ok (.iload_n 2, 1) := by decide +kernel
theorem dX7_slack_9 : decode cX7_slack 9 = .ok (.iconst 1, 1) := by decide +kernel
theorem dX7_slack_10 : decode cX7_slack 10 = .ok (.if_icmp .lt 9, 3) := by decide +kernel
theorem dX7_slack_13 : decode cX7_slack 13 = .ok (.iload_n 2, 1) := by decide +kernel
theorem dX7_slack_14 : decode cX7_slack 14 = .ok (.bipush 10, 2) := by decide +kernel
theorem dX7_slack_16 : decode cX7_slack 16 = .ok (.if_icmp .le 5, 3) := by decide +kernel
theorem dX7_slack_19 : decode cX7_slack 19 = .ok (.iconst (-1), 1) := by decide +kernel
theorem dX7_slack_20 : decode cX7_slack 20 = .ok (.ireturn, 1) := by decide +kernel
theorem dX7_slack_21 : decode cX7_slack 21 = .ok (.getstatic 246, 3) := by decide +kernel
theorem dX7_slack_24 : decode cX7_slack 24 = .ok (.bipush 6, 2) := by decide +kernel
theorem dX7_slack_26 : decode cX7_slack 26 = .ok (.iaload, 1) := by decide +kernel
theorem dX7_slack_27 : decode cX7_slack 27 = .ok (.istore_n 3, 1) := by decide +kernel
theorem dX7_slack_28 : decode cX7_slack 28 = .ok (.iload_n 3, 1) := by decide +kernel
theorem dX7_slack_29 : decode cX7_slack 29 = .ok (.getstatic 243, 3) := by decide +kernel
theorem dX7_slack_32 : decode cX7_slack 32 = .ok (.bipush 6, 2) := by decide +kernel
theorem dX7_slack_34 : decode cX7_slack 34 = .ok (.iaload, 1) := by decide +kernel
theorem dX7_slack_35 : decode cX7_slack 35 = .ok (.if_icmp .lt 23, 3) := by decide +kernel
theorem dX7_slack_38 : decode cX7_slack 38 = .ok (.aload_n 0, 1) := by decide +kernel
theorem dX7_slack_39 : decode cX7_slack 39 = .ok (.iload_n 1, 1) := by decide +kernel
theorem dX7_slack_40 : decode cX7_slack 40 = .ok (.iload_n 2, 1) := by decide +kernel
theorem dX7_slack_41 : decode cX7_slack 41 = .ok (.iload_n 3, 1) := by decide +kernel
theorem dX7_slack_42 : decode cX7_slack 42 = .ok (.bipush (-4), 2) := by decide +kernel
theorem dX7_slack_44 : decode cX7_slack 44 = .ok (.invokevirtual 253, 3) := by decide +kernel
theorem dX7_slack_47 : decode cX7_slack 47 = .ok (.ifCond .eq 5, 3) := by decide +kernel
theorem dX7_slack_50 : decode cX7_slack 50 = .ok (.iload_n 3, 1) := by decide +kernel
theorem dX7_slack_51 : decode cX7_slack 51 = .ok (.ireturn, 1) := by decide +kernel
theorem dX7_slack_52 : decode cX7_slack 52 = .ok (.iinc 3 (-1), 3) := by decide +kernel
theorem dX7_slack_55 : decode cX7_slack 55 = .ok (.goto (-27), 3) := by decide +kernel
theorem dX7_slack_58 : decode cX7_slack 58 = .ok (.bipush (-4), 2) := by decide +kernel
theorem dX7_slack_60 : decode cX7_slack 60 = .ok (.ireturn, 1) := by decide +kernel
theorem dX7_sort_0 : decode cX7_sort 0 = .ok (.iload_n 1, 1) := by decide +kernel
theorem dX7_sort_1 : decode cX7_sort 1 = .ok (.ifCond .lt 16, 3) := by decide +kernel
theorem dX7_sort_4 : decode cX7_sort 4 = .ok (.iload_n 1, 1) := by decide +kernel
theorem dX7_sort_5 : decode cX7_sort 5 = .ok (.bipush 99, 2) := by decide +kernel
theorem dX7_sort_7 : decode cX7_sort 7 = .ok (.if_icmp .gt 10, 3) := by decide +kernel
theorem dX7_sort_10 : decode cX7_sort 10 = .ok (.iload_n 2, 1) := by decide +kernel
theorem dX7_sort_11 : decode cX7_sort 11 = .ok (.invokestatic 137, 3) := by decide +kernel
theorem dX7_sort_14 : decode cX7_sort 14 = .ok (.ifCond .ne 5, 3) := by decide +kernel
theorem dX7_sort_17 : decode cX7_sort 17 = .ok (.iconst (-1), 1) := by decide +kernel
theorem dX7_sort_18 : decode cX7_sort 18 = .ok (.ireturn, 1) := by decide +kernel
theorem dX7_sort_19 : decode cX7_sort 19 = .ok (.iconst 0, 1) := by decide +kernel
theorem dX7_sort_20 : decode cX7_sort 20 = .ok (.istore_n 3, 1) := by decide +kernel
theorem dX7_sort_21 : decode cX7_sort 21 = .ok (.iconst 0, 1) := by decide +kernel
theorem dX7_sort_22 : decode cX7_sort 22 = .ok (.istore 4, 2) := by decide +kernel
theorem dX7_sort_24 : decode cX7_sort 24 = .ok (.iconst 1, 1) := by decide +kernel
theorem dX7_sort_25 : decode cX7_sort 25 = .ok (.aload_n 0, 1) := by decide +kernel
theorem dX7_sort_26 : decode cX7_sort 26 = .ok (.getfield 10, 3) := by decide +kernel
theorem dX7_sort_29 : decode cX7_sort 29 = .ok (.iconst 3, 1) := by decide +kernel
theorem dX7_sort_30 : decode cX7_sort 30 = .ok (.invokevirtual 110, 3) := by decide +kernel
theorem dX7_sort_33 : decode cX7_sort 33 = .ok (.ishl, 1) := by decide +kernel
theorem dX7_sort_34 : decode cX7_sort 34 = .ok (.istore 5, 2) := by decide +kernel
theorem dX7_sort_36 : decode cX7_sort 36 = .ok (.iconst 0, 1) := by decide +kernel
theorem dX7_sort_37 : decode cX7_sort 37 = .ok (.istore 6, 2) := by decide +kernel
theorem dX7_sort_39 : decode cX7_sort 39 = .ok (.iload 6, 2) := by decide +kernel
theorem dX7_sort_41 : decode cX7_sort 41 = .ok (.iload 5, 2) := by decide +kernel
theorem dX7_sort_43 : decode cX7_sort 43 = .ok (.if_icmp .ge 56, 3) := by decide +kernel
theorem dX7_sort_46 : decode cX7_sort 46 = .ok (.aload_n 0, 1) := by decide +kernel
theorem dX7_sort_47 : decode cX7_sort 47 = .ok (.getfield 10, 3) := by decide +kernel
theorem dX7_sort_50 : decode cX7_sort 50 = .ok (.iload 6, 2) := by decide +kernel
theorem dX7_sort_52 : decode cX7_sort 52 = .ok (.invokevirtual 257, 3) := by decide +kernel
theorem dX7_sort_55 : decode cX7_sort 55 = .ok (.istore 7, 2) := by decide +kernel
theorem dX7_sort_57 : decode cX7_sort 57 = .ok (.iload 7, 2) := by decide +kernel
theorem dX7_sort_59 : decode cX7_sort 59 = .ok (.iload 4, 2) := by decide +kernel
theorem dX7_sort_61 : decode cX7_sort 61 = .ok (.if_icmp .le 32, 3) := by decide +kernel
theorem dX7_sort_64 : decode cX7_sort 64 = .ok (.aload_n 0, 1) := by decide +kernel
theorem dX7_sort_65 : decode cX7_sort 65 = .ok (.getfield 10, 3) := by decide +kernel
theorem dX7_sort_68 : decode cX7_sort 68 = .ok (.iload 6, 2) := by decide +kernel
theorem dX7_sort_70 : decode cX7_sort 70 = .ok (.aload_n 0, 1) := by decide +kernel
theorem dX7_sort_71 : decode cX7_sort 71 = .ok (.getfield 10, 3) := by decide +kernel
theorem dX7_sort_74 : decode cX7_sort 74 = .ok (.bipush 12, 2) := by decide +kernel
theorem dX7_sort_76 : decode cX7_sort 76 = .ok (.invokevirtual 110, 3) := by decide +kernel
theorem dX7_sort_79 : decode cX7_sort 79 = .ok (.invokevirtual 260, 3) := by decide +kernel
theorem dX7_sort_82 : decode cX7_sort 82 = .ok (.iload_n 1, 1) := by decide +kernel
theorem dX7_sort_83 : decode cX7_sort 83 = .ok (.if_icmp .gt 10, 3) := by decide +kernel
theorem dX7_sort_86 : decode cX7_sort 86 = .ok (.iload 6, 2) := by decide +kernel
theorem dX7_sort_88 : decode cX7_sort 88 = .ok (.istore_n 3, 1) := by decide +kernel
theorem dX7_sort_89 : decode cX7_sort 89 = .ok (.iload 7, 2) := by decide +kernel
theorem dX7_sort_91 : decode cX7_sort 91 = .ok (.istore 4, 2) := by decide +kernel
theorem dX7_sort_93 : decode cX7_sort 93 = .ok (.iinc 6 1, 3) := by decide +kernel
theorem dX7_sort_96 : decode cX7_sort 96 = .ok (.goto (-57), 3) := by decide +kernel
theorem dX7_sort_99 : decode cX7_sort 99 = .ok (.iload_n 2, 1) := by decide +kernel
theorem dX7_sort_100 : decode cX7_sort 100 = .ok (.ifCond .ne 8, 3) := by decide +kernel
theorem dX7_sort_103 : decode cX7_sort 103 = .ok (.iload 4, 2) := by decide +kernel
theorem dX7_sort_105 : decode cX7_sort 105 = .ok (.goto 4, 3) := by decide +kernel
theorem dX7_sort_108 : decode cX7_sort 108 = .ok (.iload_n 3, 1) := by decide +kernel
theorem dX7_sort_109 : decode cX7_sort 109 = .ok (.ireturn, 1) := by decide +kernel
theorem dX7_minutes_0 : decode cX7_minutes 0 = .ok (.aload_n 0, 1) := by decide +kernel
theorem dX7_minutes_1 : decode cX7_minutes 1 = .ok (.iload_n 1, 1) := by decide +kernel
theorem dX7_minutes_2 : decode cX7_minutes 2 = .ok (.invokevirtual 263, 3) := by decide +kernel
theorem dX7_minutes_5 : decode cX7_minutes 5 = .ok (.ifCond .eq 23, 3) := by decide +kernel
theorem dX7_minutes_8 : decode cX7_minutes 8 = .ok (.aload_n 0, 1) := by decide +kernel
theorem dX7_minutes_9 : decode cX7_minutes 9 = .ok (.getfield 10, 3) := by decide +kernel
theorem dX7_minutes_12 : decode cX7_minutes 12 = .ok (.iload_n 1, 1) := by decide +kernel
theorem dX7_minutes_13 : decode cX7_minutes 13 = .ok (.aload_n 0, 1) := by decide +kernel
theorem dX7_minutes_14 : decode cX7_minutes 14 = .ok (.getfield 10, 3) := by decide +kernel
theorem dX7_minutes_17 : decode cX7_minutes 17 = .ok (.bipush 12, 2) := by decide +kernel
theorem dX7_minutes_19 : decode cX7_minutes 19 = .ok (.invokevirtual 110, 3) := by decide +kernel
theorem dX7_minutes_22 : decode cX7_minutes 22 = .ok (.invokevirtual 260, 3) := by decide +kernel
theorem dX7_minutes_25 : decode cX7_minutes 25 = .ok (.goto 4, 3) := by decide +kernel
theorem dX7_minutes_28 : decode cX7_minutes 28 = .ok (.iconst (-1), 1) := by decide +kernel
theorem dX7_minutes_29 : decode cX7_minutes 29 = .ok (.ireturn, 1) := by decide +kernel
theorem dX7_hands_0 : decode cX7_hands 0 = .ok (.iload_n 1, 1) := by decide +kernel
theorem dX7_hands_1 : decode cX7_hands 1 = .ok (.ifCond .lt 9, 3) := by decide +kernel
theorem dX7_hands_4 : decode cX7_hands 4 = .ok (.iload_n 1, 1) := by decide +kernel
theorem dX7_hands_5 : decode cX7_hands 5 = .ok (.bipush 99, 2) := by decide +kernel
theorem dX7_hands_7 : decode cX7_hands 7 = .ok (.if_icmp .le 5, 3) := by decide +kernel
theorem dX7_hands_10 : decode cX7_hands 10 = .ok (.iconst (-1), 1) := by decide +kernel
theorem dX7_hands_11 : decode cX7_hands 11 = .ok (.ireturn, 1) := by decide +kernel
theorem dX7_hands_12 : decode cX7_hands 12 = .ok (.iconst 1, 1) := by decide +kernel
theorem dX7_hands_13 : decode cX7_hands 13 = .ok (.aload_n 0, 1) := by decide +kernel
theorem dX7_hands_14 : decode cX7_hands 14 = .ok (.getfield 10, 3) := by decide +kernel
theorem dX7_hands_17 : decode cX7_hands 17 = .ok (.iconst 3, 1) := by decide +kernel
theorem dX7_hands_18 : decode cX7_hands 18 = .ok (.invokevirtual 110, 3) := by decide +kernel
theorem dX7_hands_21 : decode cX7_hands 21 = .ok (.ishl, 1) := by decide +kernel
theorem dX7_hands_22 : decode cX7_hands 22 = .ok (.iconst 1, 1) := by decide +kernel
theorem dX7_hands_23 : decode cX7_hands 23 = .ok (.isub, 1) := by decide +kernel
theorem dX7_hands_24 : decode cX7_hands 24 = .ok (.istore_n 2, 1) := by decide +kernel
theorem dX7_hands_25 : decode cX7_hands 25 = .ok (.getstatic 243, 3) := by decide +kernel
theorem dX7_hands_28 : decode cX7_hands 28 = .ok (.bipush 12, 2) := by decide +kernel
theorem dX7_hands_30 : decode cX7_hands 30 = .ok (.iaload, 1) := by decide +kernel
theorem dX7_hands_31 : decode cX7_hands 31 = .ok (.istore_n 3, 1) := by decide +kernel
theorem dX7_hands_32 : decode cX7_hands 32 = .ok (.iload_n 3, 1) := by decide +kernel
theorem dX7_hands_33 : decode cX7_hands 33 = .ok (.getstatic 246, 3) := by decide +kernel
theorem dX7_hands_36 : decode cX7_hands 36 = .ok (.bipush 12, 2) := by decide +kernel
theorem dX7_hands_38 : decode cX7_hands 38 = .ok (.iaload, 1) := by decide +kernel
theorem dX7_hands_39 : decode cX7_hands 39 = .ok (.if_icmp .gt 24, 3) := by decide +kernel
theorem dX7_hands_42 : decode cX7_hands 42 = .ok (.aload_n 0, 1) := by decide +kernel
theorem dX7_hands_43 : decode cX7_hands 43 = .ok (.getfield 10, 3) := by decide +kernel
theorem dX7_hands_46 : decode cX7_hands 46 = .ok (.iload_n 2, 1) := by decide +kernel
theorem dX7_hands_47 : decode cX7_hands 47 = .ok (.iload_n 3, 1) := by decide +kernel
theorem dX7_hands_48 : decode cX7_hands 48 = .ok (.invokevirtual 260, 3) := by decide +kernel
theorem dX7_hands_51 : decode cX7_hands 51 = .ok (.iload_n 1, 1) := by decide +kernel
theorem dX7_hands_52 : decode cX7_hands 52 = .ok (.if_icmp .gt 5, 3) := by decide +kernel
theorem dX7_hands_55 : decode cX7_hands 55 = .ok (.iload_n 3, 1) := by decide +kernel
theorem dX7_hands_56 : decode cX7_hands 56 = .ok (.ireturn, 1) := by decide +kernel
theorem dX7_hands_57 : decode cX7_hands 57 = .ok (.iinc 3 1, 3) := by decide +kernel
theorem dX7_hands_60 : decode cX7_hands 60 = .ok (.goto (-28), 3) := by decide +kernel
theorem dX7_hands_63 : decode cX7_hands 63 = .ok (.bipush (-4), 2) := by decide +kernel
theorem dX7_hands_65 : decode cX7_hands 65 = .ok (.ireturn, 1) := by decide +kernel
theorem dX7_see_0 : decode cX7_see 0 = .ok (.aload_n 0, 1) := by decide +kernel
theorem dX7_see_1 : decode cX7_see 1 = .ok (.iload_n 1, 1) := by decide +kernel
theorem dX7_see_2 : decode cX7_see 2 = .ok (.invokevirtual 163, 3) := by decide +kernel
theorem dX7_see_5 : decode cX7_see 5 = .ok (.ifCond .eq 13, 3) := by decide +kernel
theorem dX7_see_8 : decode cX7_see 8 = .ok (.iload_n 2, 1) := by decide +kernel
theorem dX7_see_9 : decode cX7_see 9 = .ok (.ifCond .lt 9, 3) := by decide +kernel
theorem dX7_see_12 : decode cX7_see 12 = .ok (.iload_n 2, 1) := by decide +kernel
theorem dX7_see_13 : decode cX7_see 13 = .ok (.bipush 10, 2) := by decide +kernel
theorem dX7_see_15 : decode cX7_see 15 = .ok (.if_icmp .le 5, 3) := by decide +kernel
theorem dX7_see_18 : decode cX7_see 18 = .ok (.iconst (-1), 1) := by decide +kernel
theorem dX7_see_19 : decode cX7_see 19 = .ok (.ireturn, 1) := by decide +kernel
theorem dX7_see_20 : decode cX7_see 20 = .ok (.aload_n 0, 1) := by decide +kernel
theorem dX7_see_21 : decode cX7_see 21 = .ok (.getfield 53, 3) := by decide +kernel
theorem dX7_see_24 : decode cX7_see 24 = .ok (.iload_n 1, 1) := by decide +kernel
theorem dX7_see_25 : decode cX7_see 25 = .ok (.iload_n 2, 1) := by decide +kernel
theorem dX7_see_26 : decode cX7_see 26 = .ok (.invokevirtual 266, 3) := by decide +kernel
theorem dX7_see_29 : decode cX7_see 29 = .ok (.ifCond .eq 13, 3) := by decide +kernel
theorem dX7_see_32 : decode cX7_see 32 = .ok (.aload_n 0, 1) := by decide +kernel
theorem dX7_see_33 : decode cX7_see 33 = .ok (.getfield 53, 3) := by decide +kernel
theorem dX7_see_36 : decode cX7_see 36 = .ok (.getfield 104, 3) := by decide +kernel
theorem dX7_see_39 : decode cX7_see 39 = .ok (.goto 5, 3) := by decide +kernel
theorem dX7_see_42 : decode cX7_see 42 = .ok (.bipush (-3), 2) := by decide +kernel
theorem dX7_see_44 : decode cX7_see 44 = .ok (.ireturn, 1) := by decide +kernel
theorem dX7_forget_0 : decode cX7_forget 0 = .ok (.iload_n 1, 1) := by decide +kernel
theorem dX7_forget_1 : decode cX7_forget 1 = .ok (.ifCond .lt 14, 3) := by decide +kernel
theorem dX7_forget_4 : decode cX7_forget 4 = .ok (.iload_n 1, 1) := by decide +kernel
theorem dX7_forget_5 : decode cX7_forget 5 = .ok (.aload_n 0, 1) := by decide +kernel
theorem dX7_forget_6 : decode cX7_forget 6 = .ok (.getfield 53, 3) := by decide +kernel
theorem dX7_forget_9 : decode cX7_forget 9 = .ok (.getfield 104, 3) := by decide +kernel
theorem dX7_forget_12 : decode cX7_forget 12 = .ok (.if_icmp .le 5, 3) := by decide +kernel
theorem dX7_forget_15 : decode cX7_forget 15 = .ok (.iconst (-1), 1) := by decide +kernel
theorem dX7_forget_16 : decode cX7_forget 16 = .ok (.ireturn, 1) := by decide +kernel
theorem dX7_forget_17 : decode cX7_forget 17 = .ok (.aload_n 0, 1) := by decide +kernel
theorem dX7_forget_18 : decode cX7_forget 18 = .ok (.getfield 53, 3) := by decide +kernel
theorem dX7_forget_21 : decode cX7_forget 21 = .ok (.getfield 104, 3) := by decide +kernel
theorem dX7_forget_24 : decode cX7_forget 24 = .ok (.istore_n 2, 1) := by decide +kernel
theorem dX7_forget_25 : decode cX7_forget 25 = .ok (.aload_n 0, 1) := by decide +kernel
theorem dX7_forget_26 : decode cX7_forget 26 = .ok (.getfield 53, 3) := by decide +kernel
theorem dX7_forget_29 : decode cX7_forget 29 = .ok (.iload_n 1, 1) := by decide +kernel
theorem dX7_forget_30 : decode cX7_forget 30 = .ok (.putfield 104, 3) := by decide +kernel
theorem dX7_forget_33 : decode cX7_forget 33 = .ok (.iload_n 2, 1) := by decide +kernel
theorem dX7_forget_34 : decode cX7_forget 34 = .ok (.ireturn, 1) := by decide +kernel
theorem dX7_fits_0 : decode cX7_fits 0 = .ok (.iload_n 1, 1) := by decide +kernel
theorem dX7_fits_1 : decode cX7_fits 1 = .ok (.ifCond .lt 8, 3) := by decide +kernel
theorem dX7_fits_4 : decode cX7_fits 4 = .ok (.iload_n 1, 1) := by decide +kernel
theorem dX7_fits_5 : decode cX7_fits 5 = .ok (.iconst 4, 1) := by decide +kernel
theorem dX7_fits_6 : decode cX7_fits 6 = .ok (.if_icmp .le 5, 3) := by decide +kernel
theorem dX7_fits_9 : decode cX7_fits 9 = .ok (.iconst (-1), 1) := by decide +kernel
theorem dX7_fits_10 : decode cX7_fits 10 = .ok (.ireturn, 1) := by decide +kernel
theorem dX7_fits_11 : decode cX7_fits 11 = .ok (.aload_n 0, 1) := by decide +kernel
theorem dX7_fits_12 : decode cX7_fits 12 = .ok (.getfield 46, 3) := by decide +kernel
theorem dX7_fits_15 : decode cX7_fits 15 = .ok (.aload_n 0, 1) := by decide +kernel
theorem dX7_fits_16 : decode cX7_fits 16 = .ok (.getfield 10, 3) := by decide +kernel
theorem dX7_fits_19 : decode cX7_fits 19 = .ok (.invokevirtual 268, 3) := by decide +kernel
theorem dX7_fits_22 : decode cX7_fits 22 = .ok (.aload_n 0, 1) := by decide +kernel
theorem dX7_fits_23 : decode cX7_fits 23 = .ok (.getfield 46, 3) := by decide +kernel
theorem dX7_fits_26 : decode cX7_fits 26 = .ok (.aload_n 0, 1) := by decide +kernel
theorem dX7_fits_27 : decode cX7_fits 27 = .ok (.getfield 53, 3) := by decide +kernel
theorem dX7_fits_30 : decode cX7_fits 30 = .ok (.invokevirtual 271, 3) := by decide +kernel
theorem dX7_fits_33 : decode cX7_fits 33 = .ok (.l2i, 1) := by decide +kernel
theorem dX7_fits_34 : decode cX7_fits 34 = .ok (.istore_n 2, 1) := by decide +kernel
theorem dX7_fits_35 : decode cX7_fits 35 = .ok (.iload_n 1, 1) := by decide +kernel
theorem dX7_fits_36 : decode cX7_fits 36 = .ok (.ifCond .ne 5, 3) := by decide +kernel
theorem dX7_fits_39 : decode cX7_fits 39 = .ok (.iload_n 2, 1) := by decide +kernel
theorem dX7_fits_40 : decode cX7_fits 40 = .ok (.ireturn, 1) := by decide +kernel
theorem dX7_fits_41 : decode cX7_fits 41 = .ok (.iload_n 2, 1) := by decide +kernel
theorem dX7_fits_42 : decode cX7_fits 42 = .ok (.ifCond .ne 6, 3) := by decide +kernel
theorem dX7_fits_45 : decode cX7_fits 45 = .ok (.bipush (-4), 2) := by decide +kernel
theorem dX7_fits_47 : decode cX7_fits 47 = .ok (.ireturn, 1) := by decide +kernel
theorem dX7_fits_48 : decode cX7_fits 48 = .ok (.iload_n 1, 1) := by decide +kernel
theorem dX7_fits_49 : decode cX7_fits 49 = .ok (.iconst 1, 1) := by decide +kernel
theorem dX7_fits_50 : decode cX7_fits 50 = .ok (.if_icmp .eq 8, 3) := by decide +kernel
theorem dX7_fits_53 : decode cX7_fits 53 = .ok (.iload_n 1, 1) := by decide +kernel
theorem dX7_fits_54 : decode cX7_fits 54 = .ok (.iconst 3, 1) := by decide +kernel
theorem dX7_fits_55 : decode cX7_fits 55 = .ok (.if_icmp .ne 7, 3) := by decide +kernel
theorem dX7_fits_58 : decode cX7_fits 58 = .ok (.iconst 1, 1) := by decide +kernel
theorem dX7_fits_59 : decode cX7_fits 59 = .ok (.goto 4, 3) := by decide +kernel
theorem dX7_fits_62 : decode cX7_fits 62 = .ok (.iconst 0, 1) := by decide +kernel
theorem dX7_fits_63 : decode cX7_fits 63 = .ok (.istore_n 3, 1) := by decide +kernel
theorem dX7_fits_64 : decode cX7_fits 64 = .ok (.iload_n 1, 1) := by decide +kernel
theorem dX7_fits_65 : decode cX7_fits 65 = .ok (.iconst 2, 1) := by decide +kernel
theorem dX7_fits_66 : decode cX7_fits 66 = .ok (.if_icmp .gt 11, 3) := by decide +kernel
theorem dX7_fits_69 : decode cX7_fits 69 = .ok (.aload_n 0, 1) := by decide +kernel
theorem dX7_fits_70 : decode cX7_fits 70 = .ok (.iload_n 3, 1) := by decide +kernel
theorem dX7_fits_71 : decode cX7_fits 71 = .ok (.invokevirtual 275, 3) := by decide +kernel
theorem dX7_fits_74 : decode cX7_fits 74 = .ok (.goto 8, 3) := by decide +kernel
theorem dX7_fits_77 : decode cX7_fits 77 = .ok (.aload_n 0, 1) := by decide +kernel
theorem dX7_fits_78 : decode cX7_fits 78 = .ok (.iload_n 3, 1) := by decide +kernel
theorem dX7_fits_79 : decode cX7_fits 79 = .ok (.invokevirtual 279, 3) := by decide +kernel
theorem dX7_fits_82 : decode cX7_fits 82 = .ok (.ireturn, 1) := by decide +kernel
theorem dX7_likely_0 : decode cX7_likely 0 = .ok (.iload_n 1, 1) := by decide +kernel
theorem dX7_likely_1 : decode cX7_likely 1 = .ok (.invokestatic 137, 3) := by decide +kernel
theorem dX7_likely_4 : decode cX7_likely 4 = .ok (.ifCond .ne 7, 3) := by decide +kernel
theorem dX7_likely_7 : decode cX7_likely 7 = .ok (.ldc2_w 194, 3) := by decide +kernel
theorem dX7_likely_10 : decode cX7_likely 10 = .ok (.lreturn, 1) := by decide +kernel
theorem dX7_likely_11 : decode cX7_likely 11 = .ok (.aload_n 0, 1) := by decide +kernel
theorem dX7_likely_12 : decode cX7_likely 12 = .ok (.getfield 46, 3) := by decide +kernel
theorem dX7_likely_15 : decode cX7_likely 15 = .ok (.aload_n 0, 1) := by decide +kernel
theorem dX7_likely_16 : decode cX7_likely 16 = .ok (.getfield 10, 3) := by decide +kernel
theorem dX7_likely_19 : decode cX7_likely 19 = .ok (.aload_n 0, 1) := by decide +kernel
theorem dX7_likely_20 : decode cX7_likely 20 = .ok (.getfield 10, 3) := by decide +kernel
theorem dX7_likely_23 : decode cX7_likely 23 = .ok (.bipush 6, 2) := by decide +kernel
theorem dX7_likely_25 : decode cX7_likely 25 = .ok (.invokevirtual 110, 3) := by decide +kernel
theorem dX7_likely_28 : decode cX7_likely 28 = .ok (.bipush (-4), 2) := by decide +kernel
theorem dX7_likely_30 : decode cX7_likely 30 = .ok (.invokevirtual 196, 3) := by decide +kernel
theorem dX7_likely_33 : decode cX7_likely 33 = .ok (.aload_n 0, 1) := by decide +kernel
theorem dX7_likely_34 : decode cX7_likely 34 = .ok (.getfield 46, 3) := by decide +kernel
theorem dX7_likely_37 : decode cX7_likely 37 = .ok (.aload_n 0, 1) := by decide +kernel
theorem dX7_likely_38 : decode cX7_likely 38 = .ok (.getfield 53, 3) := by decide +kernel
theorem dX7_likely_41 : decode cX7_likely 41 = .ok (.invokevirtual 271, 3) := by decide +kernel
theorem dX7_likely_44 : decode cX7_likely 44 = .ok (.aload_n 0, 1) := by decide +kernel
theorem dX7_likely_45 : decode cX7_likely 45 = .ok (.getfield 46, 3) := by decide +kernel
theorem dX7_likely_48 : decode cX7_likely 48 = .ok (.invokevirtual 207, 3) := by decide +kernel
theorem dX7_likely_51 : decode cX7_likely 51 = .ok (.iload_n 1, 1) := by decide +kernel
theorem dX7_likely_52 : decode cX7_likely 52 = .ok (.invokestatic 211, 3) := by decide +kernel
theorem dX7_likely_55 : decode cX7_likely 55 = .ok (.lreturn, 1) := by decide +kernel
theorem dX7_drift_0 : decode cX7_drift 0 = .ok (.iload_n 2, 1) := by decide +kernel
theorem dX7_drift_1 : decode cX7_drift 1 = .ok (.invokestatic 180, 3) := by decide +kernel
theorem dX7_drift_4 : decode cX7_drift 4 = .ok (.ifCond .ne 5, 3) := by decide +kernel
theorem dX7_drift_7 : decode cX7_drift 7 = .ok (.iconst (-1), 1) := by decide +kernel
theorem dX7_drift_8 : decode cX7_drift 8 = .ok (.ireturn, 1) := by decide +kernel
theorem dX7_drift_9 : decode cX7_drift 9 = .ok (.iload_n 1, 1) := by decide +kernel
theorem dX7_drift_10 : decode cX7_drift 10 = .ok (.istore_n 3, 1) := by decide +kernel
theorem dX7_drift_11 : decode cX7_drift 11 = .ok (.iconst 0, 1) := by decide +kernel
theorem dX7_drift_12 : decode cX7_drift 12 = .ok (.istore 4, 2) := by decide +kernel
theorem dX7_drift_14 : decode cX7_drift 14 = .ok (.iconst 1, 1) := by decide +kernel
theorem dX7_drift_15 : decode cX7_drift 15 = .ok (.istore 5, 2) := by decide +kernel
theorem dX7_drift_17 : decode cX7_drift 17 = .ok (.iload 5, 2) := by decide +kernel
theorem dX7_drift_19 : decode cX7_drift 19 = .ok (.aload_n 0, 1) := by decide +kernel
theorem dX7_drift_20 : decode cX7_drift 20 = .ok (.getfield 10, 3) := by decide +kernel
theorem dX7_drift_23 : decode cX7_drift 23 = .ok (.iconst 0, 1) := by decide +kernel
theorem dX7_drift_24 : decode cX7_drift 24 = .ok (.invokevirtual 110, 3) := by decide +kernel
theorem dX7_drift_27 : decode cX7_drift 27 = .ok (.if_icmp .gt 41, 3) := by decide +kernel
theorem dX7_drift_30 : decode cX7_drift 30 = .ok (.iload_n 3, 1) := by decide +kernel
theorem dX7_drift_31 : decode cX7_drift 31 = .ok (.invokestatic 282, 3) := by decide +kernel
theorem dX7_drift_34 : decode cX7_drift 34 = .ok (.istore_n 3, 1) := by decide +kernel
theorem dX7_drift_35 : decode cX7_drift 35 = .ok (.iload_n 3, 1) := by decide +kernel
theorem dX7_drift_36 : decode cX7_drift 36 = .ok (.invokestatic 285, 3) := by decide +kernel
theorem dX7_drift_39 : decode cX7_drift 39 = .ok (.aload_n 0, 1) := by decide +kernel
theorem dX7_drift_40 : decode cX7_drift 40 = .ok (.getfield 10, 3) := by decide +kernel
theorem dX7_drift_43 : decode cX7_drift 43 = .ok (.bipush 6, 2) := by decide +kernel
theorem dX7_drift_45 : decode cX7_drift 45 = .ok (.invokevirtual 110, 3) := by decide +kernel
theorem dX7_drift_48 : decode cX7_drift 48 = .ok (.if_icmp .ge 14, 3) := by decide +kernel
theorem dX7_drift_51 : decode cX7_drift 51 = .ok (.iload 4, 2) := by decide +kernel
theorem dX7_drift_53 : decode cX7_drift 53 = .ok (.iconst 1, 1) := by decide +kernel
theorem dX7_drift_54 : decode cX7_drift 54 = .ok (.iload 5, 2) := by decide +kernel
theorem dX7_drift_56 : decode cX7_drift 56 = .ok (.iconst 1, 1) := by decide +kernel
theorem dX7_drift_57 : decode cX7_drift 57 = .ok (.isub, 1) := by decide +kernel
theorem dX7_drift_58 : decode cX7_drift 58 = .ok (.ishl, 1) := by decide +kernel
theorem dX7_drift_59 : decode cX7_drift 59 = .ok (.ior, 1) := by decide +kernel
theorem dX7_drift_60 : decode cX7_drift 60 = .ok (.istore 4, 2) := by decide +kernel
theorem dX7_drift_62 : decode cX7_drift 62 = .ok (.iinc 5 1, 3) := by decide +kernel
theorem dX7_drift_65 : decode cX7_drift 65 = .ok (.goto (-48), 3) := by decide +kernel
theorem dX7_drift_68 : decode cX7_drift 68 = .ok (.iconst 0, 1) := by decide +kernel
theorem dX7_drift_69 : decode cX7_drift 69 = .ok (.istore 5, 2) := by decide +kernel
theorem dX7_drift_71 : decode cX7_drift 71 = .ok (.iconst 0, 1) := by decide +kernel
theorem dX7_drift_72 : decode cX7_drift 72 = .ok (.istore 6, 2) := by decide +kernel
theorem dX7_drift_74 : decode cX7_drift 74 = .ok (.iload 6, 2) := by decide +kernel
theorem dX7_drift_76 : decode cX7_drift 76 = .ok (.aload_n 0, 1) := by decide +kernel
theorem dX7_drift_77 : decode cX7_drift 77 = .ok (.getfield 10, 3) := by decide +kernel
theorem dX7_drift_80 : decode cX7_drift 80 = .ok (.iconst 2, 1) := by decide +kernel
theorem dX7_drift_81 : decode cX7_drift 81 = .ok (.invokevirtual 110, 3) := by decide +kernel
theorem dX7_drift_84 : decode cX7_drift 84 = .ok (.if_icmp .ge 42, 3) := by decide +kernel
theorem dX7_drift_87 : decode cX7_drift 87 = .ok (.iload_n 3, 1) := by decide +kernel
theorem dX7_drift_88 : decode cX7_drift 88 = .ok (.invokestatic 282, 3) := by decide +kernel
theorem dX7_drift_91 : decode cX7_drift 91 = .ok (.istore_n 3, 1) := by decide +kernel
theorem dX7_drift_92 : decode cX7_drift 92 = .ok (.iload_n 3, 1) := by decide +kernel
theorem dX7_drift_93 : decode cX7_drift 93 = .ok (.invokestatic 285, 3) := by decide +kernel
theorem dX7_drift_96 : decode cX7_drift 96 = .ok (.aload_n 0, 1) := by decide +kernel
theorem dX7_drift_97 : decode cX7_drift 97 = .ok (.getfield 10, 3) := by decide +kernel
theorem dX7_drift_100 : decode cX7_drift 100 = .ok (.getfield 143, 3) := by decide +kernel
theorem dX7_drift_103 : decode cX7_drift 103 = .ok (.iload 6, 2) := by decide +kernel
theorem dX7_drift_105 : decode cX7_drift 105 = .ok (.invokestatic 120, 3) := by decide +kernel
theorem dX7_drift_108 : decode cX7_drift 108 = .ok (.if_icmp .ge 12, 3) := by decide +kernel
theorem dX7_drift_111 : decode cX7_drift 111 = .ok (.iload 5, 2) := by decide +kernel
theorem dX7_drift_113 : decode cX7_drift 113 = .ok (.iconst 1, 1) := by decide +kernel
theorem dX7_drift_114 : decode cX7_drift 114 = .ok (.iload 6, 2) := by decide +kernel
theorem dX7_drift_116 : decode cX7_drift 116 = .ok (.ishl, 1) := by decide +kernel
theorem dX7_drift_117 : decode cX7_drift 117 = .ok (.ior, 1) := by decide +kernel
theorem dX7_drift_118 : decode cX7_drift 118 = .ok (.istore 5, 2) := by decide +kernel
theorem dX7_drift_120 : decode cX7_drift 120 = .ok (.iinc 6 1, 3) := by decide +kernel
theorem dX7_drift_123 : decode cX7_drift 123 = .ok (.goto (-49), 3) := by decide +kernel
theorem dX7_drift_126 : decode cX7_drift 126 = .ok (.aload_n 0, 1) := by decide +kernel
theorem dX7_drift_127 : decode cX7_drift 127 = .ok (.getfield 39, 3) := by decide +kernel
theorem dX7_drift_130 : decode cX7_drift 130 = .ok (.aload_n 0, 1) := by decide +kernel
theorem dX7_drift_131 : decode cX7_drift 131 = .ok (.getfield 10, 3) := by decide +kernel
theorem dX7_drift_134 : decode cX7_drift 134 = .ok (.iload 4, 2) := by decide +kernel
theorem dX7_drift_136 : decode cX7_drift 136 = .ok (.iload 5, 2) := by decide +kernel
theorem dX7_drift_138 : decode cX7_drift 138 = .ok (.invokevirtual 183, 3) := by decide +kernel
theorem dX7_drift_141 : decode cX7_drift 141 = .ok (.aload_n 0, 1) := by decide +kernel
theorem dX7_drift_142 : decode cX7_drift 142 = .ok (.getfield 39, 3) := by decide +kernel
theorem dX7_drift_145 : decode cX7_drift 145 = .ok (.iload_n 2, 1) := by decide +kernel
theorem dX7_drift_146 : decode cX7_drift 146 = .ok (.invokevirtual 187, 3) := by decide +kernel
theorem dX7_drift_149 : decode cX7_drift 149 = .ok (.ireturn, 1) := by decide +kernel
theorem dX7_keep_0 : decode cX7_keep 0 = .ok (.iload_n 1, 1) := by decide +kernel
theorem dX7_keep_1 : decode cX7_keep 1 = .ok (.invokestatic 288, 3) := by decide +kernel
theorem dX7_keep_4 : decode cX7_keep 4 = .ok (.ifCond .ne 5, 3) := by decide +kernel
theorem dX7_keep_7 : decode cX7_keep 7 = .ok (.iconst (-1), 1) := by decide +kernel
theorem dX7_keep_8 : decode cX7_keep 8 = .ok (.ireturn, 1) := by decide +kernel
theorem dX7_keep_9 : decode cX7_keep 9 = .ok (.aload_n 0, 1) := by decide +kernel
theorem dX7_keep_10 : decode cX7_keep 10 = .ok (.getfield 107, 3) := by decide +kernel
theorem dX7_keep_13 : decode cX7_keep 13 = .ok (.iload_n 1, 1) := by decide +kernel
theorem dX7_keep_14 : decode cX7_keep 14 = .ok (.ishr, 1) := by decide +kernel
theorem dX7_keep_15 : decode cX7_keep 15 = .ok (.iconst 1, 1) := by decide +kernel
theorem dX7_keep_16 : decode cX7_keep 16 = .ok (.iand, 1) := by decide +kernel
theorem dX7_keep_17 : decode cX7_keep 17 = .ok (.istore_n 2, 1) := by decide +kernel
theorem dX7_keep_18 : decode cX7_keep 18 = .ok (.aload_n 0, 1) := by decide +kernel
theorem dX7_keep_19 : decode cX7_keep 19 = .ok (.iload_n 1, 1) := by decide +kernel
theorem dX7_keep_20 : decode cX7_keep 20 = .ok (.invokevirtual 291, 3) := by decide +kernel
theorem dX7_keep_23 : decode cX7_keep 23 = .ok (.aload_n 0, 1) := by decide +kernel
theorem dX7_keep_24 : decode cX7_keep 24 = .ok (.getfield 10, 3) := by decide +kernel
theorem dX7_keep_27 : decode cX7_keep 27 = .ok (.invokevirtual 100, 3) := by decide +kernel
theorem dX7_keep_30 : decode cX7_keep 30 = .ok (.aload_n 0, 1) := by decide +kernel
theorem dX7_keep_31 : decode cX7_keep 31 = .ok (.dup, 1) := by decide +kernel
theorem dX7_keep_32 : decode cX7_keep 32 = .ok (.getfield 107, 3) := by decide +kernel
theorem dX7_keep_35 : decode cX7_keep 35 = .ok (.iconst 1, 1) := by decide +kernel
theorem dX7_keep_36 : decode cX7_keep 36 = .ok (.iload_n 1, 1) := by decide +kernel
theorem dX7_keep_37 : decode cX7_keep 37 = .ok (.ishl, 1) := by decide +kernel
theorem dX7_keep_38 : decode cX7_keep 38 = .ok (.ior, 1) := by decide +kernel
theorem dX7_keep_39 : decode cX7_keep 39 = .ok (.putfield 107, 3) := by decide +kernel
theorem dX7_keep_42 : decode cX7_keep 42 = .ok (.iload_n 2, 1) := by decide +kernel
theorem dX7_keep_43 : decode cX7_keep 43 = .ok (.ireturn, 1) := by decide +kernel
theorem dX7_back_0 : decode cX7_back 0 = .ok (.iload_n 1, 1) := by decide +kernel
theorem dX7_back_1 : decode cX7_back 1 = .ok (.invokestatic 288, 3) := by decide +kernel
theorem dX7_back_4 : decode cX7_back 4 = .ok (.ifCond .ne 5, 3) := by decide +kernel
theorem dX7_back_7 : decode cX7_back 7 = .ok (.iconst (-1), 1) := by decide +kernel
theorem dX7_back_8 : decode cX7_back 8 = .ok (.ireturn, 1) := by decide +kernel
theorem dX7_back_9 : decode cX7_back 9 = .ok (.aload_n 0, 1) := by decide +kernel
theorem dX7_back_10 : decode cX7_back 10 = .ok (.getfield 107, 3) := by decide +kernel
theorem dX7_back_13 : decode cX7_back 13 = .ok (.iload_n 1, 1) := by decide +kernel
theorem dX7_back_14 : decode cX7_back 14 = .ok (.ishr, 1) := by decide +kernel
theorem dX7_back_15 : decode cX7_back 15 = .ok (.iconst 1, 1) := by decide +kernel
theorem dX7_back_16 : decode cX7_back 16 = .ok (.iand, 1) := by decide +kernel
theorem dX7_back_17 : decode cX7_back 17 = .ok (.ifCond .ne 6, 3) := by decide +kernel
theorem dX7_back_20 : decode cX7_back 20 = .ok (.bipush (-2), 2) := by decide +kernel
theorem dX7_back_22 : decode cX7_back 22 = .ok (.ireturn, 1) := by decide +kernel
theorem dX7_back_23 : decode cX7_back 23 = .ok (.aload_n 0, 1) := by decide +kernel
theorem dX7_back_24 : decode cX7_back 24 = .ok (.getfield 10, 3) := by decide +kernel
theorem dX7_back_27 : decode cX7_back 27 = .ok (.aload_n 0, 1) := by decide +kernel
theorem dX7_back_28 : decode cX7_back 28 = .ok (.iload_n 1, 1) := by decide +kernel
theorem dX7_back_29 : decode cX7_back 29 = .ok (.invokevirtual 291, 3) := by decide +kernel
theorem dX7_back_32 : decode cX7_back 32 = .ok (.invokevirtual 100, 3) := by decide +kernel
theorem dX7_back_35 : decode cX7_back 35 = .ok (.aload_n 0, 1) := by decide +kernel
theorem dX7_back_36 : decode cX7_back 36 = .ok (.getfield 10, 3) := by decide +kernel
theorem dX7_back_39 : decode cX7_back 39 = .ok (.iconst 0, 1) := by decide +kernel
theorem dX7_back_40 : decode cX7_back 40 = .ok (.invokevirtual 110, 3) := by decide +kernel
theorem dX7_back_43 : decode cX7_back 43 = .ok (.ireturn, 1) := by decide +kernel
theorem dX7_sheet_0 : decode cX7_sheet 0 = .ok (.iload_n 1, 1) := by decide +kernel
theorem dX7_sheet_1 : decode cX7_sheet 1 = .ok (.invokestatic 295, 3) := by decide +kernel
theorem dX7_sheet_4 : decode cX7_sheet 4 = .ok (.ifCond .eq 16, 3) := by decide +kernel
theorem dX7_sheet_7 : decode cX7_sheet 7 = .ok (.iload_n 2, 1) := by decide +kernel
theorem dX7_sheet_8 : decode cX7_sheet 8 = .ok (.invokestatic 298, 3) := by decide +kernel
theorem dX7_sheet_11 : decode cX7_sheet 11 = .ok (.ifCond .eq 9, 3) := by decide +kernel
theorem dX7_sheet_14 : decode cX7_sheet 14 = .ok (.iload_n 3, 1) := by decide +kernel
theorem dX7_sheet_15 : decode cX7_sheet 15 = .ok (.bipush 40, 2) := by decide +kernel
theorem dX7_sheet_17 : decode cX7_sheet 17 = .ok (.if_icmp .le 5, 3) := by decide +kernel
theorem dX7_sheet_20 : decode cX7_sheet 20 = .ok (.iconst (-1), 1) := by decide +kernel
theorem dX7_sheet_21 : decode cX7_sheet 21 = .ok (.ireturn, 1) := by decide +kernel
theorem dX7_sheet_22 : decode cX7_sheet 22 = .ok (.iload_n 3, 1) := by decide +kernel
theorem dX7_sheet_23 : decode cX7_sheet 23 = .ok (.ifCond .ge 6, 3) := by decide +kernel
theorem dX7_sheet_26 : decode cX7_sheet 26 = .ok (.bipush (-14), 2) := by decide +kernel
theorem dX7_sheet_28 : decode cX7_sheet 28 = .ok (.ireturn, 1) := by decide +kernel
theorem dX7_sheet_29 : decode cX7_sheet 29 = .ok (.aload_n 0, 1) := by decide +kernel
theorem dX7_sheet_30 : decode cX7_sheet 30 = .ok (.getfield 60, 3) := by decide +kernel
theorem dX7_sheet_33 : decode cX7_sheet 33 = .ok (.iload_n 1, 1) := by decide +kernel
theorem dX7_sheet_34 : decode cX7_sheet 34 = .ok (.iload_n 2, 1) := by decide +kernel
theorem dX7_sheet_35 : decode cX7_sheet 35 = .ok (.iload_n 3, 1) := by decide +kernel
theorem dX7_sheet_36 : decode cX7_sheet 36 = .ok (.invokevirtual 301, 3) := by decide +kernel
theorem dX7_sheet_39 : decode cX7_sheet 39 = .ok (.iconst 1, 1) := by decide +kernel
theorem dX7_sheet_40 : decode cX7_sheet 40 = .ok (.ireturn, 1) := by decide +kernel
theorem dX7_lay_0 : decode cX7_lay 0 = .ok (.iload_n 1, 1) := by decide +kernel
theorem dX7_lay_1 : decode cX7_lay 1 = .ok (.invokestatic 295, 3) := by decide +kernel
theorem dX7_lay_4 : decode cX7_lay 4 = .ok (.ifCond .ne 5, 3) := by decide +kernel
theorem dX7_lay_7 : decode cX7_lay 7 = .ok (.iconst (-1), 1) := by decide +kernel
theorem dX7_lay_8 : decode cX7_lay 8 = .ok (.ireturn, 1) := by decide +kernel
theorem dX7_lay_9 : decode cX7_lay 9 = .ok (.aload_n 0, 1) := by decide +kernel
theorem dX7_lay_10 : decode cX7_lay 10 = .ok (.getfield 60, 3) := by decide +kernel
theorem dX7_lay_13 : decode cX7_lay 13 = .ok (.iload_n 1, 1) := by decide +kernel
theorem dX7_lay_14 : decode cX7_lay 14 = .ok (.iload_n 2, 1) := by decide +kernel
theorem dX7_lay_15 : decode cX7_lay 15 = .ok (.invokevirtual 304, 3) := by decide +kernel
theorem dX7_lay_18 : decode cX7_lay 18 = .ok (.istore 4, 2) := by decide +kernel
theorem dX7_lay_20 : decode cX7_lay 20 = .ok (.iload 4, 2) := by decide +kernel
theorem dX7_lay_22 : decode cX7_lay 22 = .ok (.ifCond .eq 9, 3) := by decide +kernel
theorem dX7_lay_25 : decode cX7_lay 25 = .ok (.bipush (-10), 2) := by decide +kernel
theorem dX7_lay_27 : decode cX7_lay 27 = .ok (.iload 4, 2) := by decide +kernel
theorem dX7_lay_29 : decode cX7_lay 29 = .ok (.isub, 1) := by decide +kernel
theorem dX7_lay_30 : decode cX7_lay 30 = .ok (.ireturn, 1) := by decide +kernel
theorem dX7_lay_31 : decode cX7_lay 31 = .ok (.aload_n 0, 1) := by decide +kernel
theorem dX7_lay_32 : decode cX7_lay 32 = .ok (.getfield 60, 3) := by decide +kernel
theorem dX7_lay_35 : decode cX7_lay 35 = .ok (.iload_n 1, 1) := by decide +kernel
theorem dX7_lay_36 : decode cX7_lay 36 = .ok (.iload_n 2, 1) := by decide +kernel
theorem dX7_lay_37 : decode cX7_lay 37 = .ok (.iload_n 3, 1) := by decide +kernel
theorem dX7_lay_38 : decode cX7_lay 38 = .ok (.invokevirtual 307, 3) := by decide +kernel
theorem dX7_lay_41 : decode cX7_lay 41 = .ok (.iconst 1, 1) := by decide +kernel
theorem dX7_lay_42 : decode cX7_lay 42 = .ok (.ireturn, 1) := by decide +kernel
theorem dX7_read_0 : decode cX7_read 0 = .ok (.iload_n 1, 1) := by decide +kernel
theorem dX7_read_1 : decode cX7_read 1 = .ok (.invokestatic 295, 3) := by decide +kernel
theorem dX7_read_4 : decode cX7_read 4 = .ok (.ifCond .eq 22, 3) := by decide +kernel
theorem dX7_read_7 : decode cX7_read 7 = .ok (.iload_n 2, 1) := by decide +kernel
theorem dX7_read_8 : decode cX7_read 8 = .ok (.invokestatic 298, 3) := by decide +kernel
theorem dX7_read_11 : decode cX7_read 11 = .ok (.ifCond .eq 15, 3) := by decide +kernel
theorem dX7_read_14 : decode cX7_read 14 = .ok (.iload 4, 2) := by decide +kernel
theorem dX7_read_16 : decode cX7_read 16 = .ok (.ifCond .lt 10, 3) := by decide +kernel
theorem dX7_read_19 : decode cX7_read 19 = .ok (.iload 4, 2) := by decide +kernel
theorem dX7_read_21 : decode cX7_read 21 = .ok (.bipush 20, 2) := by decide +kernel
theorem dX7_read_23 : decode cX7_read 23 = .ok (.if_icmp .le 5, 3) := by decide +kernel
theorem dX7_read_26 : decode cX7_read 26 = .ok (.iconst (-1), 1) := by decide +kernel
theorem dX7_read_27 : decode cX7_read 27 = .ok (.ireturn, 1) := by decide +kernel
theorem dX7_read_28 : decode cX7_read 28 = .ok (.iload 4, 2) := by decide +kernel
theorem dX7_read_30 : decode cX7_read 30 = .ok (.ifCond .ne 7, 3) := by decide +kernel
theorem dX7_read_33 : decode cX7_read 33 = .ok (.iconst 0, 1) := by decide +kernel
theorem dX7_read_34 : decode cX7_read 34 = .ok (.goto 12, 3) := by decide +kernel
theorem dX7_read_37 : decode cX7_read 37 = .ok (.aload_n 0, 1) := by decide +kernel
theorem dX7_read_38 : decode cX7_read 38 = .ok (.getfield 60, 3) := by decide +kernel
theorem dX7_read_41 : decode cX7_read 41 = .ok (.iload_n 1, 1) := by decide +kernel
theorem dX7_read_42 : decode cX7_read 42 = .ok (.iload_n 2, 1) := by decide +kernel
theorem dX7_read_43 : decode cX7_read 43 = .ok (.invokevirtual 310, 3) := by decide +kernel
theorem dX7_read_46 : decode cX7_read 46 = .ok (.istore 5, 2) := by decide +kernel
theorem dX7_read_48 : decode cX7_read 48 = .ok (.iconst 0, 1) := by decide +kernel
theorem dX7_read_49 : decode cX7_read 49 = .ok (.istore 6, 2) := by decide +kernel
theorem dX7_read_51 : decode cX7_read 51 = .ok (.aload_n 0, 1) := by decide +kernel
theorem dX7_read_52 : decode cX7_read 52 = .ok (.getfield 10, 3) := by decide +kernel
theorem dX7_read_55 : decode cX7_read 55 = .ok (.getfield 149, 3) := by decide +kernel
theorem dX7_read_58 : decode cX7_read 58 = .ok (.iconst 0, 1) := by decide +kernel
theorem dX7_read_59 : decode cX7_read 59 = .ok (.aload_n 0, 1) := by decide +kernel
theorem dX7_read_60 : decode cX7_read 60 = .ok (.getfield 64, 3) := by decide +kernel
theorem dX7_read_63 : decode cX7_read 63 = .ok (.iconst 0, 1) := by decide +kernel
theorem dX7_read_64 : decode cX7_read 64 = .ok (.iconst 5, 1) := by decide +kernel
theorem dX7_read_65 : decode cX7_read 65 = .ok (.invokestatic 313, 3) := by decide +kernel
theorem dX7_read_68 : decode cX7_read 68 = .ok (.iload 6, 2) := by decide +kernel
theorem dX7_read_70 : decode cX7_read 70 = .ok (.iload 4, 2) := by decide +kernel
theorem dX7_read_72 : decode cX7_read 72 = .ok (.if_icmp .ge 100, 3) := by decide +kernel
theorem dX7_read_75 : decode cX7_read 75 = .ok (.iload 5, 2) := by decide +kernel
theorem dX7_read_77 : decode cX7_read 77 = .ok (.ifCond .ne 95, 3) := by decide +kernel
theorem dX7_read_80 : decode cX7_read 80 = .ok (.iload_n 3, 1) := by decide +kernel
theorem dX7_read_81 : decode cX7_read 81 = .ok (.iconst 2, 1) := by decide +kernel
theorem dX7_read_82 : decode cX7_read 82 = .ok (.iload 6, 2) := by decide +kernel
theorem dX7_read_84 : decode cX7_read 84 = .ok (.imul, 1) := by decide +kernel
theorem dX7_read_85 : decode cX7_read 85 = .ok (.iadd, 1) := by decide +kernel
theorem dX7_read_86 : decode cX7_read 86 = .ok (.istore 7, 2) := by decide +kernel
theorem dX7_read_88 : decode cX7_read 88 = .ok (.aload_n 0, 1) := by decide +kernel
theorem dX7_read_89 : decode cX7_read 89 = .ok (.getfield 60, 3) := by decide +kernel
theorem dX7_read_92 : decode cX7_read 92 = .ok (.iload_n 1, 1) := by decide +kernel
theorem dX7_read_93 : decode cX7_read 93 = .ok (.iload 7, 2) := by decide +kernel
theorem dX7_read_95 : decode cX7_read 95 = .ok (.invokevirtual 319, 3) := by decide +kernel
theorem dX7_read_98 : decode cX7_read 98 = .ok (.istore 5, 2) := by decide +kernel
theorem dX7_read_100 : decode cX7_read 100 = .ok (.iload 5, 2) := by decide +kernel
theorem dX7_read_102 : decode cX7_read 102 = .ok (.ifCond .eq 6, 3) := by decide +kernel
theorem dX7_read_105 : decode cX7_read 105 = .ok (.goto 67, 3) := by decide +kernel
theorem dX7_read_108 : decode cX7_read 108 = .ok (.aload_n 0, 1) := by decide +kernel
theorem dX7_read_109 : decode cX7_read 109 = .ok (.getfield 60, 3) := by decide +kernel
theorem dX7_read_112 : decode cX7_read 112 = .ok (.iload_n 1, 1) := by decide +kernel
theorem dX7_read_113 : decode cX7_read 113 = .ok (.iload 7, 2) := by decide +kernel
theorem dX7_read_115 : decode cX7_read 115 = .ok (.invokevirtual 322, 3) := by decide +kernel
theorem dX7_read_118 : decode cX7_read 118 = .ok (.istore 8, 2) := by decide +kernel
theorem dX7_read_120 : decode cX7_read 120 = .ok (.aload_n 0, 1) := by decide +kernel
theorem dX7_read_121 : decode cX7_read 121 = .ok (.aload_n 0, 1) := by decide +kernel
theorem dX7_read_122 : decode cX7_read 122 = .ok (.getfield 64, 3) := by decide +kernel
theorem dX7_read_125 : decode cX7_read 125 = .ok (.iload 8, 2) := by decide +kernel
theorem dX7_read_127 : decode cX7_read 127 = .ok (.aload_n 0, 1) := by decide +kernel
theorem dX7_read_128 : decode cX7_read 128 = .ok (.getfield 60, 3) := by decide +kernel
theorem dX7_read_131 : decode cX7_read 131 = .ok (.iload_n 1, 1) := by decide +kernel
theorem dX7_read_132 : decode cX7_read 132 = .ok (.iload 7, 2) := by decide +kernel
theorem dX7_read_134 : decode cX7_read 134 = .ok (.iconst 1, 1) := by decide +kernel
theorem dX7_read_135 : decode cX7_read 135 = .ok (.iadd, 1) := by decide +kernel
theorem dX7_read_136 : decode cX7_read 136 = .ok (.invokevirtual 322, 3) := by decide +kernel
theorem dX7_read_139 : decode cX7_read 139 = .ok (.invokevirtual 170, 3) := by decide +kernel
theorem dX7_read_142 : decode cX7_read 142 = .ok (.istore 9, 2) := by decide +kernel
theorem dX7_read_144 : decode cX7_read 144 = .ok (.iload 9, 2) := by decide +kernel
theorem dX7_read_146 : decode cX7_read 146 = .ok (.ifCond .ge 9, 3) := by decide +kernel
theorem dX7_read_149 : decode cX7_read 149 = .ok (.bipush (-20), 2) := by decide +kernel
theorem dX7_read_151 : decode cX7_read 151 = .ok (.iload 6, 2) := by decide +kernel
theorem dX7_read_153 : decode cX7_read 153 = .ok (.isub, 1) := by decide +kernel
theorem dX7_read_154 : decode cX7_read 154 = .ok (.ireturn, 1) := by decide +kernel
theorem dX7_read_155 : decode cX7_read 155 = .ok (.aload_n 0, 1) := by decide +kernel
theorem dX7_read_156 : decode cX7_read 156 = .ok (.getfield 64, 3) := by decide +kernel
theorem dX7_read_159 : decode cX7_read 159 = .ok (.iload 8, 2) := by decide +kernel
theorem dX7_read_161 : decode cX7_read 161 = .ok (.iload 9, 2) := by decide +kernel
theorem dX7_read_163 : decode cX7_read 163 = .ok (.invokestatic 166, 3) := by decide +kernel
theorem dX7_read_166 : decode cX7_read 166 = .ok (.iinc 6 1, 3) := by decide +kernel
theorem dX7_read_169 : decode cX7_read 169 = .ok (.goto (-101), 3) := by decide +kernel
theorem dX7_read_172 : decode cX7_read 172 = .ok (.aload_n 0, 1) := by decide +kernel
theorem dX7_read_173 : decode cX7_read 173 = .ok (.getfield 64, 3) := by decide +kernel
theorem dX7_read_176 : decode cX7_read 176 = .ok (.iconst 0, 1) := by decide +kernel
theorem dX7_read_177 : decode cX7_read 177 = .ok (.aload_n 0, 1) := by decide +kernel
theorem dX7_read_178 : decode cX7_read 178 = .ok (.getfield 10, 3) := by decide +kernel
theorem dX7_read_181 : decode cX7_read 181 = .ok (.getfield 149, 3) := by decide +kernel
theorem dX7_read_184 : decode cX7_read 184 = .ok (.iconst 0, 1) := by decide +kernel
theorem dX7_read_185 : decode cX7_read 185 = .ok (.iconst 5, 1) := by decide +kernel
theorem dX7_read_186 : decode cX7_read 186 = .ok (.invokestatic 313, 3) := by decide +kernel
theorem dX7_read_189 : decode cX7_read 189 = .ok (.aload_n 0, 1) := by decide +kernel
theorem dX7_read_190 : decode cX7_read 190 = .ok (.iload 5, 2) := by decide +kernel
theorem dX7_read_192 : decode cX7_read 192 = .ok (.putfield 325, 3) := by decide +kernel
theorem dX7_read_195 : decode cX7_read 195 = .ok (.iload 6, 2) := by decide +kernel
theorem dX7_read_197 : decode cX7_read 197 = .ok (.ireturn, 1) := by decide +kernel
theorem dX7_split_0 : decode cX7_split 0 = .ok (.aload_n 0, 1) := by decide +kernel
theorem dX7_split_1 : decode cX7_split 1 = .ok (.getfield 325, 3) := by decide +kernel
theorem dX7_split_4 : decode cX7_split 4 = .ok (.ireturn, 1) := by decide +kernel
theorem dX7_count_0 : decode cX7_count 0 = .ok (.iload_n 1, 1) := by decide +kernel
theorem dX7_count_1 : decode cX7_count 1 = .ok (.tableswitch 92 0 5 #[39, 47, 55, 63, 72, 80], 39) := by decide +kernel
theorem dX7_count_40 : decode cX7_count 40 = .ok (.aload_n 0, 1) := by decide +kernel
theorem dX7_count_41 : decode cX7_count 41 = .ok (.getfield 53, 3) := by decide +kernel
theorem dX7_count_44 : decode cX7_count 44 = .ok (.getfield 104, 3) := by decide +kernel
theorem dX7_count_47 : decode cX7_count 47 = .ok (.ireturn, 1) := by decide +kernel
theorem dX7_count_48 : decode cX7_count 48 = .ok (.aload_n 0, 1) := by decide +kernel
theorem dX7_count_49 : decode cX7_count 49 = .ok (.getfield 107, 3) := by decide +kernel
theorem dX7_count_52 : decode cX7_count 52 = .ok (.invokestatic 328, 3) := by decide +kernel
theorem dX7_count_55 : decode cX7_count 55 = .ok (.ireturn, 1) := by decide +kernel
theorem dX7_count_56 : decode cX7_count 56 = .ok (.aload_n 0, 1) := by decide +kernel
theorem dX7_count_57 : decode cX7_count 57 = .ok (.getfield 33, 3) := by decide +kernel
theorem dX7_count_60 : decode cX7_count 60 = .ok (.getfield 74, 3) := by decide +kernel
theorem dX7_count_63 : decode cX7_count 63 = .ok (.ireturn, 1) := by decide +kernel
theorem dX7_count_64 : decode cX7_count 64 = .ok (.aload_n 0, 1) := by decide +kernel
theorem dX7_count_65 : decode cX7_count 65 = .ok (.getfield 60, 3) := by decide +kernel
theorem dX7_count_68 : decode cX7_count 68 = .ok (.iconst 0, 1) := by decide +kernel
theorem dX7_count_69 : decode cX7_count 69 = .ok (.invokevirtual 333, 3) := by decide +kernel
theorem dX7_count_72 : decode cX7_count 72 = .ok (.ireturn, 1) := by decide +kernel
theorem dX7_count_73 : decode cX7_count 73 = .ok (.aload_n 0, 1) := by decide +kernel
theorem dX7_count_74 : decode cX7_count 74 = .ok (.getfield 10, 3) := by decide +kernel
theorem dX7_count_77 : decode cX7_count 77 = .ok (.invokevirtual 336, 3) := by decide +kernel
theorem dX7_count_80 : decode cX7_count 80 = .ok (.ireturn, 1) := by decide +kernel
theorem dX7_count_81 : decode cX7_count 81 = .ok (.aload_n 0, 1) := by decide +kernel
theorem dX7_count_82 : decode cX7_count 82 = .ok (.getfield 10, 3) := by decide +kernel
theorem dX7_count_85 : decode cX7_count 85 = .ok (.iconst 4, 1) := by decide +kernel
theorem dX7_count_86 : decode cX7_count 86 = .ok (.invokevirtual 110, 3) := by decide +kernel
theorem dX7_count_89 : decode cX7_count 89 = .ok (.invokestatic 328, 3) := by decide +kernel
theorem dX7_count_92 : decode cX7_count 92 = .ok (.ireturn, 1) := by decide +kernel
theorem dX7_count_93 : decode cX7_count 93 = .ok (.iconst (-1), 1) := by decide +kernel
theorem dX7_count_94 : decode cX7_count 94 = .ok (.ireturn, 1) := by decide +kernel
theorem dX7_isPart_0 : decode cX7_isPart 0 = .ok (.iload_n 0, 1) := by decide +kernel
theorem dX7_isPart_1 : decode cX7_isPart 1 = .ok (.ifCond .eq 8, 3) := by decide +kernel
theorem dX7_isPart_4 : decode cX7_isPart 4 = .ok (.iload_n 0, 1) := by decide +kernel
theorem dX7_isPart_5 : decode cX7_isPart 5 = .ok (.iconst 1, 1) := by decide +kernel
theorem dX7_isPart_6 : decode cX7_isPart 6 = .ok (.if_icmp .ne 7, 3) := by decide +kernel
theorem dX7_isPart_9 : decode cX7_isPart 9 = .ok (.iconst 1, 1) := by decide +kernel
theorem dX7_isPart_10 : decode cX7_isPart 10 = .ok (.goto 4, 3) := by decide +kernel
theorem dX7_isPart_13 : decode cX7_isPart 13 = .ok (.iconst 0, 1) := by decide +kernel
theorem dX7_isPart_14 : decode cX7_isPart 14 = .ok (.ireturn, 1) := by decide +kernel
theorem dX7_isNightPart_0 : decode cX7_isNightPart 0 = .ok (.iload_n 0, 1) := by decide +kernel
theorem dX7_isNightPart_1 : decode cX7_isNightPart 1 = .ok (.ifCond .lt 12, 3) := by decide +kernel
theorem dX7_isNightPart_4 : decode cX7_isNightPart 4 = .ok (.iload_n 0, 1) := by decide +kernel
theorem dX7_isNightPart_5 : decode cX7_isNightPart 5 = .ok (.iconst 5, 1) := by decide +kernel
theorem dX7_isNightPart_6 : decode cX7_isNightPart 6 = .ok (.if_icmp .gt 7, 3) := by decide +kernel
theorem dX7_isNightPart_9 : decode cX7_isNightPart 9 = .ok (.iconst 1, 1) := by decide +kernel
theorem dX7_isNightPart_10 : decode cX7_isNightPart 10 = .ok (.goto 4, 3) := by decide +kernel
theorem dX7_isNightPart_13 : decode cX7_isNightPart 13 = .ok (.iconst 0, 1) := by decide +kernel
theorem dX7_isNightPart_14 : decode cX7_isNightPart 14 = .ok (.ireturn, 1) := by decide +kernel
theorem dX7_isWithin_0 : decode cX7_isWithin 0 = .ok (.iload_n 1, 1) := by decide +kernel
theorem dX7_isWithin_1 : decode cX7_isWithin 1 = .ok (.getstatic 243, 3) := by decide +kernel
theorem dX7_isWithin_4 : decode cX7_isWithin 4 = .ok (.iload_n 0, 1) := by decide +kernel
theorem dX7_isWithin_5 : decode cX7_isWithin 5 = .ok (.invokestatic 120, 3) := by decide +kernel
theorem dX7_isWithin_8 : decode cX7_isWithin 8 = .ok (.if_icmp .lt 18, 3) := by decide +kernel
theorem dX7_isWithin_11 : decode cX7_isWithin 11 = .ok (.iload_n 1, 1) := by decide +kernel
theorem dX7_isWithin_12 : decode cX7_isWithin 12 = .ok (.getstatic 246, 3) := by decide +kernel
theorem dX7_isWithin_15 : decode cX7_isWithin 15 = .ok (.iload_n 0, 1) := by decide +kernel
theorem dX7_isWithin_16 : decode cX7_isWithin 16 = .ok (.invokestatic 120, 3) := by decide +kernel
theorem dX7_isWithin_19 : decode cX7_isWithin 19 = .ok (.if_icmp .gt 7, 3) := by decide +kernel
theorem dX7_isWithin_22 : decode cX7_isWithin 22 = .ok (.iconst 1, 1) := by decide +kernel
theorem dX7_isWithin_23 : decode cX7_isWithin 23 = .ok (.goto 4, 3) := by decide +kernel
theorem dX7_isWithin_26 : decode cX7_isWithin 26 = .ok (.iconst 0, 1) := by decide +kernel
theorem dX7_isWithin_27 : decode cX7_isWithin 27 = .ok (.ireturn, 1) := by decide +kernel
theorem dX7_isJoint_0 : decode cX7_isJoint 0 = .ok (.iload_n 1, 1) := by decide +kernel
theorem dX7_isJoint_1 : decode cX7_isJoint 1 = .ok (.iconst 1, 1) := by decide +kernel
theorem dX7_isJoint_2 : decode cX7_isJoint 2 = .ok (.if_icmp .lt 19, 3) := by decide +kernel
theorem dX7_isJoint_5 : decode cX7_isJoint 5 = .ok (.iload_n 1, 1) := by decide +kernel
theorem dX7_isJoint_6 : decode cX7_isJoint 6 = .ok (.aload_n 0, 1) := by decide +kernel
theorem dX7_isJoint_7 : decode cX7_isJoint 7 = .ok (.getfield 10, 3) := by decide +kernel
theorem dX7_isJoint_10 : decode cX7_isJoint 10 = .ok (.iconst 0, 1) := by decide +kernel
theorem dX7_isJoint_11 : decode cX7_isJoint 11 = .ok (.invokevirtual 110, 3) := by decide +kernel
theorem dX7_isJoint_14 : decode cX7_isJoint 14 = .ok (.if_icmp .gt 7, 3) := by decide +kernel
theorem dX7_isJoint_17 : decode cX7_isJoint 17 = .ok (.iconst 1, 1) := by decide +kernel
theorem dX7_isJoint_18 : decode cX7_isJoint 18 = .ok (.goto 4, 3) := by decide +kernel
theorem dX7_isJoint_21 : decode cX7_isJoint 21 = .ok (.iconst 0, 1) := by decide +kernel
theorem dX7_isJoint_22 : decode cX7_isJoint 22 = .ok (.ireturn, 1) := by decide +kernel
theorem dX7_isArm_0 : decode cX7_isArm 0 = .ok (.iload_n 1, 1) := by decide +kernel
theorem dX7_isArm_1 : decode cX7_isArm 1 = .ok (.ifCond .lt 19, 3) := by decide +kernel
theorem dX7_isArm_4 : decode cX7_isArm 4 = .ok (.iload_n 1, 1) := by decide +kernel
theorem dX7_isArm_5 : decode cX7_isArm 5 = .ok (.aload_n 0, 1) := by decide +kernel
theorem dX7_isArm_6 : decode cX7_isArm 6 = .ok (.getfield 10, 3) := by decide +kernel
theorem dX7_isArm_9 : decode cX7_isArm 9 = .ok (.iconst 1, 1) := by decide +kernel
theorem dX7_isArm_10 : decode cX7_isArm 10 = .ok (.invokevirtual 110, 3) := by decide +kernel
theorem dX7_isArm_13 : decode cX7_isArm 13 = .ok (.if_icmp .ge 7, 3) := by decide +kernel
theorem dX7_isArm_16 : decode cX7_isArm 16 = .ok (.iconst 1, 1) := by decide +kernel
theorem dX7_isArm_17 : decode cX7_isArm 17 = .ok (.goto 4, 3) := by decide +kernel
theorem dX7_isArm_20 : decode cX7_isArm 20 = .ok (.iconst 0, 1) := by decide +kernel
theorem dX7_isArm_21 : decode cX7_isArm 21 = .ok (.ireturn, 1) := by decide +kernel
theorem dX7_isMark_0 : decode cX7_isMark 0 = .ok (.iload_n 1, 1) := by decide +kernel
theorem dX7_isMark_1 : decode cX7_isMark 1 = .ok (.ifCond .lt 19, 3) := by decide +kernel
theorem dX7_isMark_4 : decode cX7_isMark 4 = .ok (.iload_n 1, 1) := by decide +kernel
theorem dX7_isMark_5 : decode cX7_isMark 5 = .ok (.aload_n 0, 1) := by decide +kernel
theorem dX7_isMark_6 : decode cX7_isMark 6 = .ok (.getfield 10, 3) := by decide +kernel
theorem dX7_isMark_9 : decode cX7_isMark 9 = .ok (.iconst 2, 1) := by decide +kernel
theorem dX7_isMark_10 : decode cX7_isMark 10 = .ok (.invokevirtual 110, 3) := by decide +kernel
theorem dX7_isMark_13 : decode cX7_isMark 13 = .ok (.if_icmp .ge 7, 3) := by decide +kernel
theorem dX7_isMark_16 : decode cX7_isMark 16 = .ok (.iconst 1, 1) := by decide +kernel
theorem dX7_isMark_17 : decode cX7_isMark 17 = .ok (.goto 4, 3) := by decide +kernel
theorem dX7_isMark_20 : decode cX7_isMark 20 = .ok (.iconst 0, 1) := by decide +kernel
theorem dX7_isMark_21 : decode cX7_isMark 21 = .ok (.ireturn, 1) := by decide +kernel
theorem dX7_isTown_0 : decode cX7_isTown 0 = .ok (.iload_n 1, 1) := by decide +kernel
theorem dX7_isTown_1 : decode cX7_isTown 1 = .ok (.ifCond .lt 19, 3) := by decide +kernel
theorem dX7_isTown_4 : decode cX7_isTown 4 = .ok (.iload_n 1, 1) := by decide +kernel
theorem dX7_isTown_5 : decode cX7_isTown 5 = .ok (.aload_n 0, 1) := by decide +kernel
theorem dX7_isTown_6 : decode cX7_isTown 6 = .ok (.getfield 10, 3) := by decide +kernel
theorem dX7_isTown_9 : decode cX7_isTown 9 = .ok (.iconst 3, 1) := by decide +kernel
theorem dX7_isTown_10 : decode cX7_isTown 10 = .ok (.invokevirtual 110, 3) := by decide +kernel
theorem dX7_isTown_13 : decode cX7_isTown 13 = .ok (.if_icmp .ge 7, 3) := by decide +kernel
theorem dX7_isTown_16 : decode cX7_isTown 16 = .ok (.iconst 1, 1) := by decide +kernel
theorem dX7_isTown_17 : decode cX7_isTown 17 = .ok (.goto 4, 3) := by decide +kernel
theorem dX7_isTown_20 : decode cX7_isTown 20 = .ok (.iconst 0, 1) := by decide +kernel
theorem dX7_isTown_21 : decode cX7_isTown 21 = .ok (.ireturn, 1) := by decide +kernel
theorem dX7_areJoints_0 : decode cX7_areJoints 0 = .ok (.iload_n 1, 1) := by decide +kernel
theorem dX7_areJoints_1 : decode cX7_areJoints 1 = .ok (.ifCond .lt 21, 3) := by decide +kernel
theorem dX7_areJoints_4 : decode cX7_areJoints 4 = .ok (.iload_n 1, 1) := by decide +kernel
theorem dX7_areJoints_5 : decode cX7_areJoints 5 = .ok (.iconst 1, 1) := by decide +kernel
theorem dX7_areJoints_6 : decode cX7_areJoints 6 = .ok (.aload_n 0, 1) := by decide +kernel
theorem dX7_areJoints_7 : decode cX7_areJoints 7 = .ok (.getfield 10, 3) := by decide +kernel
theorem dX7_areJoints_10 : decode cX7_areJoints 10 = .ok (.iconst 0, 1) := by decide +kernel
theorem dX7_areJoints_11 : decode cX7_areJoints 11 = .ok (.invokevirtual 110, 3) := by decide +kernel
theorem dX7_areJoints_14 : decode cX7_areJoints 14 = .ok (.ishl, 1) := by decide +kernel
theorem dX7_areJoints_15 : decode cX7_areJoints 15 = .ok (.if_icmp .ge 7, 3) := by decide +kernel
theorem dX7_areJoints_18 : decode cX7_areJoints 18 = .ok (.iconst 1, 1) := by decide +kernel
theorem dX7_areJoints_19 : decode cX7_areJoints 19 = .ok (.goto 4, 3) := by decide +kernel
theorem dX7_areJoints_22 : decode cX7_areJoints 22 = .ok (.iconst 0, 1) := by decide +kernel
theorem dX7_areJoints_23 : decode cX7_areJoints 23 = .ok (.ireturn, 1) := by decide +kernel
theorem dX7_areMarks_0 : decode cX7_areMarks 0 = .ok (.iload_n 1, 1) := by decide +kernel
theorem dX7_areMarks_1 : decode cX7_areMarks 1 = .ok (.ifCond .lt 21, 3) := by decide +kernel
theorem dX7_areMarks_4 : decode cX7_areMarks 4 = .ok (.iload_n 1, 1) := by decide +kernel
theorem dX7_areMarks_5 : decode cX7_areMarks 5 = .ok (.iconst 1, 1) := by decide +kernel
theorem dX7_areMarks_6 : decode cX7_areMarks 6 = .ok (.aload_n 0, 1) := by decide +kernel
theorem dX7_areMarks_7 : decode cX7_areMarks 7 = .ok (.getfield 10, 3) := by decide +kernel
theorem dX7_areMarks_10 : decode cX7_areMarks 10 = .ok (.iconst 2, 1) := by decide +kernel
theorem dX7_areMarks_11 : decode cX7_areMarks 11 = .ok (.invokevirtual 110, 3) := by decide +kernel
theorem dX7_areMarks_14 : decode cX7_areMarks 14 = .ok (.ishl, 1) := by decide +kernel
theorem dX7_areMarks_15 : decode cX7_areMarks 15 = .ok (.if_icmp .ge 7, 3) := by decide +kernel
theorem dX7_areMarks_18 : decode cX7_areMarks 18 = .ok (.iconst 1, 1) := by decide +kernel
theorem dX7_areMarks_19 : decode cX7_areMarks 19 = .ok (.goto 4, 3) := by decide +kernel
theorem dX7_areMarks_22 : decode cX7_areMarks 22 = .ok (.iconst 0, 1) := by decide +kernel
theorem dX7_areMarks_23 : decode cX7_areMarks 23 = .ok (.ireturn, 1) := by decide +kernel
theorem dX7_areTowns_0 : decode cX7_areTowns 0 = .ok (.iload_n 1, 1) := by decide +kernel
theorem dX7_areTowns_1 : decode cX7_areTowns 1 = .ok (.ifCond .lt 21, 3) := by decide +kernel
theorem dX7_areTowns_4 : decode cX7_areTowns 4 = .ok (.iload_n 1, 1) := by decide +kernel
theorem dX7_areTowns_5 : decode cX7_areTowns 5 = .ok (.iconst 1, 1) := by decide +kernel
theorem dX7_areTowns_6 : decode cX7_areTowns 6 = .ok (.aload_n 0, 1) := by decide +kernel
theorem dX7_areTowns_7 : decode cX7_areTowns 7 = .ok (.getfield 10, 3) := by decide +kernel
theorem dX7_areTowns_10 : decode cX7_areTowns 10 = .ok (.iconst 3, 1) := by decide +kernel
theorem dX7_areTowns_11 : decode cX7_areTowns 11 = .ok (.invokevirtual 110, 3) := by decide +kernel
theorem dX7_areTowns_14 : decode cX7_areTowns 14 = .ok (.ishl, 1) := by decide +kernel
theorem dX7_areTowns_15 : decode cX7_areTowns 15 = .ok (.if_icmp .ge 7, 3) := by decide +kernel
theorem dX7_areTowns_18 : decode cX7_areTowns 18 = .ok (.iconst 1, 1) := by decide +kernel
theorem dX7_areTowns_19 : decode cX7_areTowns 19 = .ok (.goto 4, 3) := by decide +kernel
theorem dX7_areTowns_22 : decode cX7_areTowns 22 = .ok (.iconst 0, 1) := by decide +kernel
theorem dX7_areTowns_23 : decode cX7_areTowns 23 = .ok (.ireturn, 1) := by decide +kernel
theorem dX7_isImage_0 : decode cX7_isImage 0 = .ok (.iload_n 0, 1) := by decide +kernel
theorem dX7_isImage_1 : decode cX7_isImage 1 = .ok (.ifCond .eq 8, 3) := by decide +kernel
theorem dX7_isImage_4 : decode cX7_isImage 4 = .ok (.iload_n 0, 1) := by decide +kernel
theorem dX7_isImage_5 : decode cX7_isImage 5 = .ok (.iconst 1, 1) := by decide +kernel
theorem dX7_isImage_6 : decode cX7_isImage 6 = .ok (.if_icmp .ne 7, 3) := by decide +kernel
theorem dX7_isImage_9 : decode cX7_isImage 9 = .ok (.iconst 1, 1) := by decide +kernel
theorem dX7_isImage_10 : decode cX7_isImage 10 = .ok (.goto 4, 3) := by decide +kernel
theorem dX7_isImage_13 : decode cX7_isImage 13 = .ok (.iconst 0, 1) := by decide +kernel
theorem dX7_isImage_14 : decode cX7_isImage 14 = .ok (.ireturn, 1) := by decide +kernel
theorem dX7_isSheet_0 : decode cX7_isSheet 0 = .ok (.iload_n 0, 1) := by decide +kernel
theorem dX7_isSheet_1 : decode cX7_isSheet 1 = .ok (.ifCond .lt 12, 3) := by decide +kernel
theorem dX7_isSheet_4 : decode cX7_isSheet 4 = .ok (.iload_n 0, 1) := by decide +kernel
theorem dX7_isSheet_5 : decode cX7_isSheet 5 = .ok (.iconst 4, 1) := by decide +kernel
theorem dX7_isSheet_6 : decode cX7_isSheet 6 = .ok (.if_icmp .ge 7, 3) := by decide +kernel
theorem dX7_isSheet_9 : decode cX7_isSheet 9 = .ok (.iconst 1, 1) := by decide +kernel
theorem dX7_isSheet_10 : decode cX7_isSheet 10 = .ok (.goto 4, 3) := by decide +kernel
theorem dX7_isSheet_13 : decode cX7_isSheet 13 = .ok (.iconst 0, 1) := by decide +kernel
theorem dX7_isSheet_14 : decode cX7_isSheet 14 = .ok (.ireturn, 1) := by decide +kernel
theorem dX7_isLane_0 : decode cX7_isLane 0 = .ok (.iload_n 0, 1) := by decide +kernel
theorem dX7_isLane_1 : decode cX7_isLane 1 = .ok (.ifCond .lt 12, 3) := by decide +kernel
theorem dX7_isLane_4 : decode cX7_isLane 4 = .ok (.iload_n 0, 1) := by decide +kernel
theorem dX7_isLane_5 : decode cX7_isLane 5 = .ok (.iconst 3, 1) := by decide +kernel
theorem dX7_isLane_6 : decode cX7_isLane 6 = .ok (.if_icmp .ge 7, 3) := by decide +kernel
theorem dX7_isLane_9 : decode cX7_isLane 9 = .ok (.iconst 1, 1) := by decide +kernel
theorem dX7_isLane_10 : decode cX7_isLane 10 = .ok (.goto 4, 3) := by decide +kernel
theorem dX7_isLane_13 : decode cX7_isLane 13 = .ok (.iconst 0, 1) := by decide +kernel
theorem dX7_isLane_14 : decode cX7_isLane 14 = .ok (.ireturn, 1) := by decide +kernel
theorem dX7_imageOf_0 : decode cX7_imageOf 0 = .ok (.iload_n 1, 1) := by decide +kernel
theorem dX7_imageOf_1 : decode cX7_imageOf 1 = .ok (.ifCond .ne 10, 3) := by decide +kernel
theorem dX7_imageOf_4 : decode cX7_imageOf 4 = .ok (.aload_n 0, 1) := by decide +kernel
theorem dX7_imageOf_5 : decode cX7_imageOf 5 = .ok (.getfield 16, 3) := by decide +kernel
theorem dX7_imageOf_8 : decode cX7_imageOf 8 = .ok (.goto 7, 3) := by decide +kernel
theorem dX7_imageOf_11 : decode cX7_imageOf 11 = .ok (.aload_n 0, 1) := by decide +kernel
theorem dX7_imageOf_12 : decode cX7_imageOf 12 = .ok (.getfield 19, 3) := by decide +kernel
theorem dX7_imageOf_15 : decode cX7_imageOf 15 = .ok (.areturn, 1) := by decide +kernel
theorem dX7_postedTo_0 : decode cX7_postedTo 0 = .ok (.aload_n 0, 1) := by decide +kernel
theorem dX7_postedTo_1 : decode cX7_postedTo 1 = .ok (.iload_n 2, 1) := by decide +kernel
theorem dX7_postedTo_2 : decode cX7_postedTo 2 = .ok (.invokevirtual 146, 3) := by decide +kernel
theorem dX7_postedTo_5 : decode cX7_postedTo 5 = .ok (.ifCond .eq 13, 3) := by decide +kernel
theorem dX7_postedTo_8 : decode cX7_postedTo 8 = .ok (.iload_n 3, 1) := by decide +kernel
theorem dX7_postedTo_9 : decode cX7_postedTo 9 = .ok (.ifCond .lt 9, 3) := by decide +kernel
theorem dX7_postedTo_12 : decode cX7_postedTo 12 = .ok (.iload_n 3, 1) := by decide +kernel
theorem dX7_postedTo_13 : decode cX7_postedTo 13 = .ok (.bipush 99, 2) := by decide +kernel
theorem dX7_postedTo_15 : decode cX7_postedTo 15 = .ok (.if_icmp .le 5, 3) := by decide +kernel
theorem dX7_postedTo_18 : decode cX7_postedTo 18 = .ok (.iconst (-1), 1) := by decide +kernel
theorem dX7_postedTo_19 : decode cX7_postedTo 19 = .ok (.ireturn, 1) := by decide +kernel
theorem dX7_postedTo_20 : decode cX7_postedTo 20 = .ok (.aload_n 1, 1) := by decide +kernel
theorem dX7_postedTo_21 : decode cX7_postedTo 21 = .ok (.iload_n 2, 1) := by decide +kernel
theorem dX7_postedTo_22 : decode cX7_postedTo 22 = .ok (.invokestatic 120, 3) := by decide +kernel
theorem dX7_postedTo_25 : decode cX7_postedTo 25 = .ok (.iload_n 3, 1) := by decide +kernel
theorem dX7_postedTo_26 : decode cX7_postedTo 26 = .ok (.iadd, 1) := by decide +kernel
theorem dX7_postedTo_27 : decode cX7_postedTo 27 = .ok (.istore 4, 2) := by decide +kernel
theorem dX7_postedTo_29 : decode cX7_postedTo 29 = .ok (.iload 4, 2) := by decide +kernel
theorem dX7_postedTo_31 : decode cX7_postedTo 31 = .ok (.bipush 99, 2) := by decide +kernel
theorem dX7_postedTo_33 : decode cX7_postedTo 33 = .ok (.if_icmp .le 8, 3) := by decide +kernel
theorem dX7_postedTo_36 : decode cX7_postedTo 36 = .ok (.bipush (-3), 2) := by decide +kernel
theorem dX7_postedTo_38 : decode cX7_postedTo 38 = .ok (.goto 5, 3) := by decide +kernel
theorem dX7_postedTo_41 : decode cX7_postedTo 41 = .ok (.iload 4, 2) := by decide +kernel
theorem dX7_postedTo_43 : decode cX7_postedTo 43 = .ok (.ireturn, 1) := by decide +kernel
theorem dX7_passByOdds_0 : decode cX7_passByOdds 0 = .ok (.aload_n 0, 1) := by decide +kernel
theorem dX7_passByOdds_1 : decode cX7_passByOdds 1 = .ok (.getfield 46, 3) := by decide +kernel
theorem dX7_passByOdds_4 : decode cX7_passByOdds 4 = .ok (.aload_n 0, 1) := by decide +kernel
theorem dX7_passByOdds_5 : decode cX7_passByOdds 5 = .ok (.getfield 10, 3) := by decide +kernel
theorem dX7_passByOdds_8 : decode cX7_passByOdds 8 = .ok (.aload_n 0, 1) := by decide +kernel
theorem dX7_passByOdds_9 : decode cX7_passByOdds 9 = .ok (.getfield 10, 3) := by decide +kernel
theorem dX7_passByOdds_12 : decode cX7_passByOdds 12 = .ok (.bipush 6, 2) := by decide +kernel
theorem dX7_passByOdds_14 : decode cX7_passByOdds 14 = .ok (.invokevirtual 110, 3) := by decide +kernel
theorem dX7_passByOdds_17 : decode cX7_passByOdds 17 = .ok (.bipush (-4), 2) := by decide +kernel
theorem dX7_passByOdds_19 : decode cX7_passByOdds 19 = .ok (.invokevirtual 196, 3) := by decide +kernel
theorem dX7_passByOdds_22 : decode cX7_passByOdds 22 = .ok (.aload_n 0, 1) := by decide +kernel
theorem dX7_passByOdds_23 : decode cX7_passByOdds 23 = .ok (.getfield 46, 3) := by decide +kernel
theorem dX7_passByOdds_26 : decode cX7_passByOdds 26 = .ok (.aload_n 0, 1) := by decide +kernel
theorem dX7_passByOdds_27 : decode cX7_passByOdds 27 = .ok (.getfield 10, 3) := by decide +kernel
theorem dX7_passByOdds_30 : decode cX7_passByOdds 30 = .ok (.bipush 8, 2) := by decide +kernel
theorem dX7_passByOdds_32 : decode cX7_passByOdds 32 = .ok (.invokevirtual 110, 3) := by decide +kernel
theorem dX7_passByOdds_35 : decode cX7_passByOdds 35 = .ok (.aload_n 0, 1) := by decide +kernel
theorem dX7_passByOdds_36 : decode cX7_passByOdds 36 = .ok (.getfield 10, 3) := by decide +kernel
theorem dX7_passByOdds_39 : decode cX7_passByOdds 39 = .ok (.bipush 9, 2) := by decide +kernel
theorem dX7_passByOdds_41 : decode cX7_passByOdds 41 = .ok (.invokevirtual 110, 3) := by decide +kernel
theorem dX7_passByOdds_44 : decode cX7_passByOdds 44 = .ok (.aload_n 0, 1) := by decide +kernel
theorem dX7_passByOdds_45 : decode cX7_passByOdds 45 = .ok (.getfield 10, 3) := by decide +kernel
theorem dX7_passByOdds_48 : decode cX7_passByOdds 48 = .ok (.iconst 5, 1) := by decide +kernel
theorem dX7_passByOdds_49 : decode cX7_passByOdds 49 = .ok (.invokevirtual 110, 3) := by decide +kernel
theorem dX7_passByOdds_52 : decode cX7_passByOdds 52 = .ok (.invokevirtual 249, 3) := by decide +kernel
theorem dX7_passByOdds_55 : decode cX7_passByOdds 55 = .ok (.return_, 1) := by decide +kernel
theorem dX7_metBy_0 : decode cX7_metBy 0 = .ok (.aload_n 0, 1) := by decide +kernel
theorem dX7_metBy_1 : decode cX7_metBy 1 = .ok (.getfield 46, 3) := by decide +kernel
theorem dX7_metBy_4 : decode cX7_metBy 4 = .ok (.getfield 225, 3) := by decide +kernel
theorem dX7_metBy_7 : decode cX7_metBy 7 = .ok (.aload_n 0, 1) := by decide +kernel
theorem dX7_metBy_8 : decode cX7_metBy 8 = .ok (.getfield 10, 3) := by decide +kernel
theorem dX7_metBy_11 : decode cX7_metBy 11 = .ok (.getfield 124, 3) := by decide +kernel
theorem dX7_metBy_14 : decode cX7_metBy 14 = .ok (.iload_n 1, 1) := by decide +kernel
theorem dX7_metBy_15 : decode cX7_metBy 15 = .ok (.invokestatic 120, 3) := by decide +kernel
theorem dX7_metBy_18 : decode cX7_metBy 18 = .ok (.invokestatic 222, 3) := by decide +kernel
theorem dX7_metBy_21 : decode cX7_metBy 21 = .ok (.lreturn, 1) := by decide +kernel
theorem dX7_isHadBy_0 : decode cX7_isHadBy 0 = .ok (.aload_n 0, 1) := by decide +kernel
theorem dX7_isHadBy_1 : decode cX7_isHadBy 1 = .ok (.getfield 46, 3) := by decide +kernel
theorem dX7_isHadBy_4 : decode cX7_isHadBy 4 = .ok (.aload_n 0, 1) := by decide +kernel
theorem dX7_isHadBy_5 : decode cX7_isHadBy 5 = .ok (.getfield 10, 3) := by decide +kernel
theorem dX7_isHadBy_8 : decode cX7_isHadBy 8 = .ok (.iload_n 3, 1) := by decide +kernel
theorem dX7_isHadBy_9 : decode cX7_isHadBy 9 = .ok (.iload 4, 2) := by decide +kernel
theorem dX7_isHadBy_11 : decode cX7_isHadBy 11 = .ok (.invokevirtual 196, 3) := by decide +kernel
theorem dX7_isHadBy_14 : decode cX7_isHadBy 14 = .ok (.aload_n 0, 1) := by decide +kernel
theorem dX7_isHadBy_15 : decode cX7_isHadBy 15 = .ok (.getfield 46, 3) := by decide +kernel
theorem dX7_isHadBy_18 : decode cX7_isHadBy 18 = .ok (.aload_n 0, 1) := by decide +kernel
theorem dX7_isHadBy_19 : decode cX7_isHadBy 19 = .ok (.getfield 10, 3) := by decide +kernel
theorem dX7_isHadBy_22 : decode cX7_isHadBy 22 = .ok (.bipush 8, 2) := by decide +kernel
theorem dX7_isHadBy_24 : decode cX7_isHadBy 24 = .ok (.invokevirtual 110, 3) := by decide +kernel
theorem dX7_isHadBy_27 : decode cX7_isHadBy 27 = .ok (.aload_n 0, 1) := by decide +kernel
theorem dX7_isHadBy_28 : decode cX7_isHadBy 28 = .ok (.getfield 10, 3) := by decide +kernel
theorem dX7_isHadBy_31 : decode cX7_isHadBy 31 = .ok (.bipush 9, 2) := by decide +kernel
theorem dX7_isHadBy_33 : decode cX7_isHadBy 33 = .ok (.invokevirtual 110, 3) := by decide +kernel
theorem dX7_isHadBy_36 : decode cX7_isHadBy 36 = .ok (.aload_n 0, 1) := by decide +kernel
theorem dX7_isHadBy_37 : decode cX7_isHadBy 37 = .ok (.getfield 10, 3) := by decide +kernel
theorem dX7_isHadBy_40 : decode cX7_isHadBy 40 = .ok (.iconst 5, 1) := by decide +kernel
theorem dX7_isHadBy_41 : decode cX7_isHadBy 41 = .ok (.invokevirtual 110, 3) := by decide +kernel
theorem dX7_isHadBy_44 : decode cX7_isHadBy 44 = .ok (.invokevirtual 249, 3) := by decide +kernel
theorem dX7_isHadBy_47 : decode cX7_isHadBy 47 = .ok (.aload_n 0, 1) := by decide +kernel
theorem dX7_isHadBy_48 : decode cX7_isHadBy 48 = .ok (.iload_n 1, 1) := by decide +kernel
theorem dX7_isHadBy_49 : decode cX7_isHadBy 49 = .ok (.invokevirtual 228, 3) := by decide +kernel
theorem dX7_isHadBy_52 : decode cX7_isHadBy 52 = .ok (.aload_n 0, 1) := by decide +kernel
theorem dX7_isHadBy_53 : decode cX7_isHadBy 53 = .ok (.getfield 10, 3) := by decide +kernel
theorem dX7_isHadBy_56 : decode cX7_isHadBy 56 = .ok (.iload_n 1, 1) := by decide +kernel
theorem dX7_isHadBy_57 : decode cX7_isHadBy 57 = .ok (.aload_n 0, 1) := by decide +kernel
theorem dX7_isHadBy_58 : decode cX7_isHadBy 58 = .ok (.getfield 10, 3) := by decide +kernel
theorem dX7_isHadBy_61 : decode cX7_isHadBy 61 = .ok (.bipush 7, 2) := by decide +kernel
theorem dX7_isHadBy_63 : decode cX7_isHadBy 63 = .ok (.invokevirtual 110, 3) := by decide +kernel
theorem dX7_isHadBy_66 : decode cX7_isHadBy 66 = .ok (.invokevirtual 130, 3) := by decide +kernel
theorem dX7_isHadBy_69 : decode cX7_isHadBy 69 = .ok (.i2l, 1) := by decide +kernel
theorem dX7_isHadBy_70 : decode cX7_isHadBy 70 = .ok (.lmul, 1) := by decide +kernel
theorem dX7_isHadBy_71 : decode cX7_isHadBy 71 = .ok (.iload_n 2, 1) := by decide +kernel
theorem dX7_isHadBy_72 : decode cX7_isHadBy 72 = .ok (.i2l, 1) := by decide +kernel
theorem dX7_isHadBy_73 : decode cX7_isHadBy 73 = .ok (.aload_n 0, 1) := by decide +kernel
theorem dX7_isHadBy_74 : decode cX7_isHadBy 74 = .ok (.getfield 46, 3) := by decide +kernel
theorem dX7_isHadBy_77 : decode cX7_isHadBy 77 = .ok (.invokevirtual 207, 3) := by decide +kernel
theorem dX7_isHadBy_80 : decode cX7_isHadBy 80 = .ok (.lmul, 1) := by decide +kernel
theorem dX7_isHadBy_81 : decode cX7_isHadBy 81 = .ok (.lcmp, 1) := by decide +kernel
theorem dX7_isHadBy_82 : decode cX7_isHadBy 82 = .ok (.ifCond .lt 7, 3) := by decide +kernel
theorem dX7_isHadBy_85 : decode cX7_isHadBy 85 = .ok (.iconst 1, 1) := by decide +kernel
theorem dX7_isHadBy_86 : decode cX7_isHadBy 86 = .ok (.goto 4, 3) := by decide +kernel
theorem dX7_isHadBy_89 : decode cX7_isHadBy 89 = .ok (.iconst 0, 1) := by decide +kernel
theorem dX7_isHadBy_90 : decode cX7_isHadBy 90 = .ok (.ireturn, 1) := by decide +kernel
theorem dX7_hitByOdds_0 : decode cX7_hitByOdds 0 = .ok (.lconst 0, 1) := by decide +kernel
theorem dX7_hitByOdds_1 : decode cX7_hitByOdds 1 = .ok (.lstore_n 1, 1) := by decide +kernel
theorem dX7_hitByOdds_2 : decode cX7_hitByOdds 2 = .ok (.iconst 1, 1) := by decide +kernel
theorem dX7_hitByOdds_3 : decode cX7_hitByOdds 3 = .ok (.istore_n 3, 1) := by decide +kernel
theorem dX7_hitByOdds_4 : decode cX7_hitByOdds 4 = .ok (.iload_n 3, 1) := by decide +kernel
theorem dX7_hitByOdds_5 : decode cX7_hitByOdds 5 = .ok (.aload_n 0, 1) := by decide +kernel
theorem dX7_hitByOdds_6 : decode cX7_hitByOdds 6 = .ok (.getfield 10, 3) := by decide +kernel
theorem dX7_hitByOdds_9 : decode cX7_hitByOdds 9 = .ok (.iconst 0, 1) := by decide +kernel
theorem dX7_hitByOdds_10 : decode cX7_hitByOdds 10 = .ok (.invokevirtual 110, 3) := by decide +kernel
theorem dX7_hitByOdds_13 : decode cX7_hitByOdds 13 = .ok (.if_icmp .gt 34, 3) := by decide +kernel
theorem dX7_hitByOdds_16 : decode cX7_hitByOdds 16 = .ok (.aload_n 0, 1) := by decide +kernel
theorem dX7_hitByOdds_17 : decode cX7_hitByOdds 17 = .ok (.getfield 10, 3) := by decide +kernel
theorem dX7_hitByOdds_20 : decode cX7_hitByOdds 20 = .ok (.iload_n 3, 1) := by decide +kernel
theorem dX7_hitByOdds_21 : decode cX7_hitByOdds 21 = .ok (.invokevirtual 340, 3) := by decide +kernel
theorem dX7_hitByOdds_24 : decode cX7_hitByOdds 24 = .ok (.ifCond .eq 17, 3) := by decide +kernel
theorem dX7_hitByOdds_27 : decode cX7_hitByOdds 27 = .ok (.lload_n 1, 1) := by decide +kernel
theorem dX7_hitByOdds_28 : decode cX7_hitByOdds 28 = .ok (.aload_n 0, 1) := by decide +kernel
theorem dX7_hitByOdds_29 : decode cX7_hitByOdds 29 = .ok (.getfield 46, 3) := by decide +kernel
theorem dX7_hitByOdds_32 : decode cX7_hitByOdds 32 = .ok (.getfield 225, 3) := by decide +kernel
theorem dX7_hitByOdds_35 : decode cX7_hitByOdds 35 = .ok (.iload_n 3, 1) := by decide +kernel
theorem dX7_hitByOdds_36 : decode cX7_hitByOdds 36 = .ok (.invokestatic 222, 3) := by decide +kernel
theorem dX7_hitByOdds_39 : decode cX7_hitByOdds 39 = .ok (.ladd, 1) := by decide +kernel
theorem dX7_hitByOdds_40 : decode cX7_hitByOdds 40 = .ok (.lstore_n 1, 1) := by decide +kernel
theorem dX7_hitByOdds_41 : decode cX7_hitByOdds 41 = .ok (.iinc 3 1, 3) := by decide +kernel
theorem dX7_hitByOdds_44 : decode cX7_hitByOdds 44 = .ok (.goto (-40), 3) := by decide +kernel
theorem dX7_hitByOdds_47 : decode cX7_hitByOdds 47 = .ok (.lload_n 1, 1) := by decide +kernel
theorem dX7_hitByOdds_48 : decode cX7_hitByOdds 48 = .ok (.lreturn, 1) := by decide +kernel
theorem dX7_tornByOdds_0 : decode cX7_tornByOdds 0 = .ok (.aload_n 0, 1) := by decide +kernel
theorem dX7_tornByOdds_1 : decode cX7_tornByOdds 1 = .ok (.getfield 46, 3) := by decide +kernel
theorem dX7_tornByOdds_4 : decode cX7_tornByOdds 4 = .ok (.getfield 225, 3) := by decide +kernel
theorem dX7_tornByOdds_7 : decode cX7_tornByOdds 7 = .ok (.aload_n 0, 1) := by decide +kernel
theorem dX7_tornByOdds_8 : decode cX7_tornByOdds 8 = .ok (.getfield 10, 3) := by decide +kernel
theorem dX7_tornByOdds_11 : decode cX7_tornByOdds 11 = .ok (.iconst 5, 1) := by decide +kernel
theorem dX7_tornByOdds_12 : decode cX7_tornByOdds 12 = .ok (.invokevirtual 110, 3) := by decide +kernel
theorem dX7_tornByOdds_15 : decode cX7_tornByOdds 15 = .ok (.invokestatic 222, 3) := by decide +kernel
theorem dX7_tornByOdds_18 : decode cX7_tornByOdds 18 = .ok (.lreturn, 1) := by decide +kernel
theorem dX7_worthByOdds_0 : decode cX7_worthByOdds 0 = .ok (.lconst 0, 1) := by decide +kernel
theorem dX7_worthByOdds_1 : decode cX7_worthByOdds 1 = .ok (.lstore_n 1, 1) := by decide +kernel
theorem dX7_worthByOdds_2 : decode cX7_worthByOdds 2 = .ok (.iconst 0, 1) := by decide +kernel
theorem dX7_worthByOdds_3 : decode cX7_worthByOdds 3 = .ok (.istore_n 3, 1) := by decide +kernel
theorem dX7_worthByOdds_4 : decode cX7_worthByOdds 4 = .ok (.iload_n 3, 1) := by decide +kernel
theorem dX7_worthByOdds_5 : decode cX7_worthByOdds 5 = .ok (.aload_n 0, 1) := by decide +kernel
theorem dX7_worthByOdds_6 : decode cX7_worthByOdds 6 = .ok (.getfield 10, 3) := by decide +kernel
theorem dX7_worthByOdds_9 : decode cX7_worthByOdds 9 = .ok (.iconst 1, 1) := by decide +kernel
theorem dX7_worthByOdds_10 : decode cX7_worthByOdds 10 = .ok (.invokevirtual 110, 3) := by decide +kernel
theorem dX7_worthByOdds_13 : decode cX7_worthByOdds 13 = .ok (.if_icmp .ge 49, 3) := by decide +kernel
theorem dX7_worthByOdds_16 : decode cX7_worthByOdds 16 = .ok (.lload_n 1, 1) := by decide +kernel
theorem dX7_worthByOdds_17 : decode cX7_worthByOdds 17 = .ok (.aload_n 0, 1) := by decide +kernel
theorem dX7_worthByOdds_18 : decode cX7_worthByOdds 18 = .ok (.iload_n 3, 1) := by decide +kernel
theorem dX7_worthByOdds_19 : decode cX7_worthByOdds 19 = .ok (.invokevirtual 228, 3) := by decide +kernel
theorem dX7_worthByOdds_22 : decode cX7_worthByOdds 22 = .ok (.aload_n 0, 1) := by decide +kernel
theorem dX7_worthByOdds_23 : decode cX7_worthByOdds 23 = .ok (.getfield 10, 3) := by decide +kernel
theorem dX7_worthByOdds_26 : decode cX7_worthByOdds 26 = .ok (.iload_n 3, 1) := by decide +kernel
theorem dX7_worthByOdds_27 : decode cX7_worthByOdds 27 = .ok (.aload_n 0, 1) := by decide +kernel
theorem dX7_worthByOdds_28 : decode cX7_worthByOdds 28 = .ok (.getfield 10, 3) := by decide +kernel
theorem dX7_worthByOdds_31 : decode cX7_worthByOdds 31 = .ok (.bipush 7, 2) := by decide +kernel
theorem dX7_worthByOdds_33 : decode cX7_worthByOdds 33 = .ok (.invokevirtual 110, 3) := by decide +kernel
theorem dX7_worthByOdds_36 : decode cX7_worthByOdds 36 = .ok (.invokevirtual 130, 3) := by decide +kernel
theorem dX7_worthByOdds_39 : decode cX7_worthByOdds 39 = .ok (.i2l, 1) := by decide +kernel
theorem dX7_worthByOdds_40 : decode cX7_worthByOdds 40 = .ok (.lmul, 1) := by decide +kernel
theorem dX7_worthByOdds_41 : decode cX7_worthByOdds 41 = .ok (.aload_n 0, 1) := by decide +kernel
theorem dX7_worthByOdds_42 : decode cX7_worthByOdds 42 = .ok (.getfield 10, 3) := by decide +kernel
theorem dX7_worthByOdds_45 : decode cX7_worthByOdds 45 = .ok (.getfield 127, 3) := by decide +kernel
theorem dX7_worthByOdds_48 : decode cX7_worthByOdds 48 = .ok (.iload_n 3, 1) := by decide +kernel
theorem dX7_worthByOdds_49 : decode cX7_worthByOdds 49 = .ok (.invokestatic 120, 3) := by decide +kernel
theorem dX7_worthByOdds_52 : decode cX7_worthByOdds 52 = .ok (.i2l, 1) := by decide +kernel
theorem dX7_worthByOdds_53 : decode cX7_worthByOdds 53 = .ok (.lmul, 1) := by decide +kernel
theorem dX7_worthByOdds_54 : decode cX7_worthByOdds 54 = .ok (.ladd, 1) := by decide +kernel
theorem dX7_worthByOdds_55 : decode cX7_worthByOdds 55 = .ok (.lstore_n 1, 1) := by decide +kernel
theorem dX7_worthByOdds_56 : decode cX7_worthByOdds 56 = .ok (.iinc 3 1, 3) := by decide +kernel
theorem dX7_worthByOdds_59 : decode cX7_worthByOdds 59 = .ok (.goto (-55), 3) := by decide +kernel
theorem dX7_worthByOdds_62 : decode cX7_worthByOdds 62 = .ok (.aload_n 0, 1) := by decide +kernel
theorem dX7_worthByOdds_63 : decode cX7_worthByOdds 63 = .ok (.invokevirtual 234, 3) := by decide +kernel
theorem dX7_worthByOdds_66 : decode cX7_worthByOdds 66 = .ok (.aload_n 0, 1) := by decide +kernel
theorem dX7_worthByOdds_67 : decode cX7_worthByOdds 67 = .ok (.getfield 10, 3) := by decide +kernel
theorem dX7_worthByOdds_70 : decode cX7_worthByOdds 70 = .ok (.bipush 10, 2) := by decide +kernel
theorem dX7_worthByOdds_72 : decode cX7_worthByOdds 72 = .ok (.invokevirtual 110, 3) := by decide +kernel
theorem dX7_worthByOdds_75 : decode cX7_worthByOdds 75 = .ok (.i2l, 1) := by decide +kernel
theorem dX7_worthByOdds_76 : decode cX7_worthByOdds 76 = .ok (.lmul, 1) := by decide +kernel
theorem dX7_worthByOdds_77 : decode cX7_worthByOdds 77 = .ok (.aload_n 0, 1) := by decide +kernel
theorem dX7_worthByOdds_78 : decode cX7_worthByOdds 78 = .ok (.invokevirtual 237, 3) := by decide +kernel
theorem dX7_worthByOdds_81 : decode cX7_worthByOdds 81 = .ok (.aload_n 0, 1) := by decide +kernel
theorem dX7_worthByOdds_82 : decode cX7_worthByOdds 82 = .ok (.getfield 10, 3) := by decide +kernel
theorem dX7_worthByOdds_85 : decode cX7_worthByOdds 85 = .ok (.bipush 11, 2) := by decide +kernel
theorem dX7_worthByOdds_87 : decode cX7_worthByOdds 87 = .ok (.invokevirtual 110, 3) := by decide +kernel
theorem dX7_worthByOdds_90 : decode cX7_worthByOdds 90 = .ok (.i2l, 1) := by decide +kernel
theorem dX7_worthByOdds_91 : decode cX7_worthByOdds 91 = .ok (.lmul, 1) := by decide +kernel
theorem dX7_worthByOdds_92 : decode cX7_worthByOdds 92 = .ok (.ladd, 1) := by decide +kernel
theorem dX7_worthByOdds_93 : decode cX7_worthByOdds 93 = .ok (.lstore_n 3, 1) := by decide +kernel
theorem dX7_worthByOdds_94 : decode cX7_worthByOdds 94 = .ok (.lload_n 1, 1) := by decide +kernel
theorem dX7_worthByOdds_95 : decode cX7_worthByOdds 95 = .ok (.ldc2_w 232, 3) := by decide +kernel
theorem dX7_worthByOdds_98 : decode cX7_worthByOdds 98 = .ok (.lload_n 3, 1) := by decide +kernel
theorem dX7_worthByOdds_99 : decode cX7_worthByOdds 99 = .ok (.lmul, 1) := by decide +kernel
theorem dX7_worthByOdds_100 : decode cX7_worthByOdds 100 = .ok (.lsub, 1) := by decide +kernel
theorem dX7_worthByOdds_101 : decode cX7_worthByOdds 101 = .ok (.lreturn, 1) := by decide +kernel
theorem dX7_jointsMissed_0 : decode cX7_jointsMissed 0 = .ok (.iconst 0, 1) := by decide +kernel
theorem dX7_jointsMissed_1 : decode cX7_jointsMissed 1 = .ok (.istore_n 2, 1) := by decide +kernel
theorem dX7_jointsMissed_2 : decode cX7_jointsMissed 2 = .ok (.iconst 1, 1) := by decide +kernel
theorem dX7_jointsMissed_3 : decode cX7_jointsMissed 3 = .ok (.istore_n 3, 1) := by decide +kernel
theorem dX7_jointsMissed_4 : decode cX7_jointsMissed 4 = .ok (.iload_n 3, 1) := by decide +kernel
theorem dX7_jointsMissed_5 : decode cX7_jointsMissed 5 = .ok (.aload_n 0, 1) := by decide +kernel
theorem dX7_jointsMissed_6 : decode cX7_jointsMissed 6 = .ok (.getfield 10, 3) := by decide +kernel
theorem dX7_jointsMissed_9 : decode cX7_jointsMissed 9 = .ok (.iconst 0, 1) := by decide +kernel
theorem dX7_jointsMissed_10 : decode cX7_jointsMissed 10 = .ok (.invokevirtual 110, 3) := by decide +kernel
theorem dX7_jointsMissed_13 : decode cX7_jointsMissed 13 = .ok (.if_icmp .gt 61, 3) := by decide +kernel
theorem dX7_jointsMissed_16 : decode cX7_jointsMissed 16 = .ok (.aload_n 0, 1) := by decide +kernel
theorem dX7_jointsMissed_17 : decode cX7_jointsMissed 17 = .ok (.getfield 46, 3) := by decide +kernel
theorem dX7_jointsMissed_20 : decode cX7_jointsMissed 20 = .ok (.aload_n 0, 1) := by decide +kernel
theorem dX7_jointsMissed_21 : decode cX7_jointsMissed 21 = .ok (.getfield 10, 3) := by decide +kernel
theorem dX7_jointsMissed_24 : decode cX7_jointsMissed 24 = .ok (.invokevirtual 268, 3) := by decide +kernel
theorem dX7_jointsMissed_27 : decode cX7_jointsMissed 27 = .ok (.aload_n 0, 1) := by decide +kernel
theorem dX7_jointsMissed_28 : decode cX7_jointsMissed 28 = .ok (.getfield 46, 3) := by decide +kernel
theorem dX7_jointsMissed_31 : decode cX7_jointsMissed 31 = .ok (.iload_n 3, 1) := by decide +kernel
theorem dX7_jointsMissed_32 : decode cX7_jointsMissed 32 = .ok (.iload_n 1, 1) := by decide +kernel
theorem dX7_jointsMissed_33 : decode cX7_jointsMissed 33 = .ok (.ifCond .ne 7, 3) := by decide +kernel
theorem dX7_jointsMissed_36 : decode cX7_jointsMissed 36 = .ok (.iconst 1, 1) := by decide +kernel
theorem dX7_jointsMissed_37 : decode cX7_jointsMissed 37 = .ok (.goto 4, 3) := by decide +kernel
theorem dX7_jointsMissed_40 : decode cX7_jointsMissed 40 = .ok (.iconst 0, 1) := by decide +kernel
theorem dX7_jointsMissed_41 : decode cX7_jointsMissed 41 = .ok (.invokevirtual 343, 3) := by decide +kernel
theorem dX7_jointsMissed_44 : decode cX7_jointsMissed 44 = .ok (.aload_n 0, 1) := by decide +kernel
theorem dX7_jointsMissed_45 : decode cX7_jointsMissed 45 = .ok (.getfield 46, 3) := by decide +kernel
theorem dX7_jointsMissed_48 : decode cX7_jointsMissed 48 = .ok (.aload_n 0, 1) := by decide +kernel
theorem dX7_jointsMissed_49 : decode cX7_jointsMissed 49 = .ok (.getfield 53, 3) := by decide +kernel
theorem dX7_jointsMissed_52 : decode cX7_jointsMissed 52 = .ok (.invokevirtual 271, 3) := by decide +kernel
theorem dX7_jointsMissed_55 : decode cX7_jointsMissed 55 = .ok (.lconst 0, 1) := by decide +kernel
theorem dX7_jointsMissed_56 : decode cX7_jointsMissed 56 = .ok (.lcmp, 1) := by decide +kernel
theorem dX7_jointsMissed_57 : decode cX7_jointsMissed 57 = .ok (.ifCond .ne 11, 3) := by decide +kernel
theorem dX7_jointsMissed_60 : decode cX7_jointsMissed 60 = .ok (.iload_n 2, 1) := by decide +kernel
theorem dX7_jointsMissed_61 : decode cX7_jointsMissed 61 = .ok (.iconst 1, 1) := by decide +kernel
theorem dX7_jointsMissed_62 : decode cX7_jointsMissed 62 = .ok (.iload_n 3, 1) := by decide +kernel
theorem dX7_jointsMissed_63 : decode cX7_jointsMissed 63 = .ok (.iconst 1, 1) := by decide +kernel
theorem dX7_jointsMissed_64 : decode cX7_jointsMissed 64 = .ok (.isub, 1) := by decide +kernel
theorem dX7_jointsMissed_65 : decode cX7_jointsMissed 65 = .ok (.ishl, 1) := by decide +kernel
theorem dX7_jointsMissed_66 : decode cX7_jointsMissed 66 = .ok (.ior, 1) := by decide +kernel
theorem dX7_jointsMissed_67 : decode cX7_jointsMissed 67 = .ok (.istore_n 2, 1) := by decide +kernel
theorem dX7_jointsMissed_68 : decode cX7_jointsMissed 68 = .ok (.iinc 3 1, 3) := by decide +kernel
theorem dX7_jointsMissed_71 : decode cX7_jointsMissed 71 = .ok (.goto (-67), 3) := by decide +kernel
theorem dX7_jointsMissed_74 : decode cX7_jointsMissed 74 = .ok (.iload_n 2, 1) := by decide +kernel
theorem dX7_jointsMissed_75 : decode cX7_jointsMissed 75 = .ok (.ireturn, 1) := by decide +kernel
theorem dX7_marksNoticed_0 : decode cX7_marksNoticed 0 = .ok (.iconst 0, 1) := by decide +kernel
theorem dX7_marksNoticed_1 : decode cX7_marksNoticed 1 = .ok (.istore_n 2, 1) := by decide +kernel
theorem dX7_marksNoticed_2 : decode cX7_marksNoticed 2 = .ok (.iconst 0, 1) := by decide +kernel
theorem dX7_marksNoticed_3 : decode cX7_marksNoticed 3 = .ok (.istore_n 3, 1) := by decide +kernel
theorem dX7_marksNoticed_4 : decode cX7_marksNoticed 4 = .ok (.iload_n 3, 1) := by decide +kernel
theorem dX7_marksNoticed_5 : decode cX7_marksNoticed 5 = .ok (.aload_n 0, 1) := by decide +kernel
theorem dX7_marksNoticed_6 : decode cX7_marksNoticed 6 = .ok (.getfield 10, 3) := by decide +kernel
theorem dX7_marksNoticed_9 : decode cX7_marksNoticed 9 = .ok (.iconst 2, 1) := by decide +kernel
theorem dX7_marksNoticed_10 : decode cX7_marksNoticed 10 = .ok (.invokevirtual 110, 3) := by decide +kernel
theorem dX7_marksNoticed_13 : decode cX7_marksNoticed 13 = .ok (.if_icmp .ge 69, 3) := by decide +kernel
theorem dX7_marksNoticed_16 : decode cX7_marksNoticed 16 = .ok (.aload_n 0, 1) := by decide +kernel
theorem dX7_marksNoticed_17 : decode cX7_marksNoticed 17 = .ok (.getfield 46, 3) := by decide +kernel
theorem dX7_marksNoticed_20 : decode cX7_marksNoticed 20 = .ok (.aload_n 0, 1) := by decide +kernel
theorem dX7_marksNoticed_21 : decode cX7_marksNoticed 21 = .ok (.getfield 10, 3) := by decide +kernel
theorem dX7_marksNoticed_24 : decode cX7_marksNoticed 24 = .ok (.invokevirtual 268, 3) := by decide +kernel
theorem dX7_marksNoticed_27 : decode cX7_marksNoticed 27 = .ok (.aload_n 0, 1) := by decide +kernel
theorem dX7_marksNoticed_28 : decode cX7_marksNoticed 28 = .ok (.getfield 46, 3) := by decide +kernel
theorem dX7_marksNoticed_31 : decode cX7_marksNoticed 31 = .ok (.aload_n 0, 1) := by decide +kernel
theorem dX7_marksNoticed_32 : decode cX7_marksNoticed 32 = .ok (.getfield 10, 3) := by decide +kernel
theorem dX7_marksNoticed_35 : decode cX7_marksNoticed 35 = .ok (.getfield 140, 3) := by decide +kernel
theorem dX7_marksNoticed_38 : decode cX7_marksNoticed 38 = .ok (.iload_n 3, 1) := by decide +kernel
theorem dX7_marksNoticed_39 : decode cX7_marksNoticed 39 = .ok (.invokestatic 120, 3) := by decide +kernel
theorem dX7_marksNoticed_42 : decode cX7_marksNoticed 42 = .ok (.iload_n 1, 1) := by decide +kernel
theorem dX7_marksNoticed_43 : decode cX7_marksNoticed 43 = .ok (.ifCond .ne 7, 3) := by decide +kernel
theorem dX7_marksNoticed_46 : decode cX7_marksNoticed 46 = .ok (.iconst 1, 1) := by decide +kernel
theorem dX7_marksNoticed_47 : decode cX7_marksNoticed 47 = .ok (.goto 4, 3) := by decide +kernel
theorem dX7_marksNoticed_50 : decode cX7_marksNoticed 50 = .ok (.iconst 0, 1) := by decide +kernel
theorem dX7_marksNoticed_51 : decode cX7_marksNoticed 51 = .ok (.invokevirtual 347, 3) := by decide +kernel
theorem dX7_marksNoticed_54 : decode cX7_marksNoticed 54 = .ok (.aload_n 0, 1) := by decide +kernel
theorem dX7_marksNoticed_55 : decode cX7_marksNoticed 55 = .ok (.getfield 46, 3) := by decide +kernel
theorem dX7_marksNoticed_58 : decode cX7_marksNoticed 58 = .ok (.aload_n 0, 1) := by decide +kernel
theorem dX7_marksNoticed_59 : decode cX7_marksNoticed 59 = .ok (.getfield 53, 3) := by decide +kernel
theorem dX7_marksNoticed_62 : decode cX7_marksNoticed 62 = .ok (.invokevirtual 271, 3) := by decide +kernel
theorem dX7_marksNoticed_65 : decode cX7_marksNoticed 65 = .ok (.lconst 0, 1) := by decide +kernel
theorem dX7_marksNoticed_66 : decode cX7_marksNoticed 66 = .ok (.lcmp, 1) := by decide +kernel
theorem dX7_marksNoticed_67 : decode cX7_marksNoticed 67 = .ok (.ifCond .ne 9, 3) := by decide +kernel
theorem dX7_marksNoticed_70 : decode cX7_marksNoticed 70 = .ok (.iload_n 2, 1) := by decide +kernel
theorem dX7_marksNoticed_71 : decode cX7_marksNoticed 71 = .ok (.iconst 1, 1) := by decide +kernel
theorem dX7_marksNoticed_72 : decode cX7_marksNoticed 72 = .ok (.iload_n 3, 1) := by decide +kernel
theorem dX7_marksNoticed_73 : decode cX7_marksNoticed 73 = .ok (.ishl, 1) := by decide +kernel
theorem dX7_marksNoticed_74 : decode cX7_marksNoticed 74 = .ok (.ior, 1) := by decide +kernel
theorem dX7_marksNoticed_75 : decode cX7_marksNoticed 75 = .ok (.istore_n 2, 1) := by decide +kernel
theorem dX7_marksNoticed_76 : decode cX7_marksNoticed 76 = .ok (.iinc 3 1, 3) := by decide +kernel
theorem dX7_marksNoticed_79 : decode cX7_marksNoticed 79 = .ok (.goto (-75), 3) := by decide +kernel
theorem dX7_marksNoticed_82 : decode cX7_marksNoticed 82 = .ok (.iload_n 2, 1) := by decide +kernel
theorem dX7_marksNoticed_83 : decode cX7_marksNoticed 83 = .ok (.ireturn, 1) := by decide +kernel
theorem dX7_nextSeed_0 : decode cX7_nextSeed 0 = .ok (.iload_n 0, 1) := by decide +kernel
theorem dX7_nextSeed_1 : decode cX7_nextSeed 1 = .ok (.ldc_w 350, 3) := by decide +kernel
theorem dX7_nextSeed_4 : decode cX7_nextSeed 4 = .ok (.imul, 1) := by decide +kernel
theorem dX7_nextSeed_5 : decode cX7_nextSeed 5 = .ok (.sipush 12345, 3) := by decide +kernel
theorem dX7_nextSeed_8 : decode cX7_nextSeed 8 = .ok (.iadd, 1) := by decide +kernel
theorem dX7_nextSeed_9 : decode cX7_nextSeed 9 = .ok (.ireturn, 1) := by decide +kernel
theorem dX7_figureOf_0 : decode cX7_figureOf 0 = .ok (.iload_n 0, 1) := by decide +kernel
theorem dX7_figureOf_1 : decode cX7_figureOf 1 = .ok (.bipush 16, 2) := by decide +kernel
theorem dX7_figureOf_3 : decode cX7_figureOf 3 = .ok (.ishr, 1) := by decide +kernel
theorem dX7_figureOf_4 : decode cX7_figureOf 4 = .ok (.sipush 32767, 3) := by decide +kernel
theorem dX7_figureOf_7 : decode cX7_figureOf 7 = .ok (.iand, 1) := by decide +kernel
theorem dX7_figureOf_8 : decode cX7_figureOf 8 = .ok (.bipush 10, 2) := by decide +kernel
theorem dX7_figureOf_10 : decode cX7_figureOf 10 = .ok (.irem, 1) := by decide +kernel
theorem dX7_figureOf_11 : decode cX7_figureOf 11 = .ok (.ireturn, 1) := by decide +kernel
theorem dX7_part_0 : decode cX7_part 0 = .ok (.lconst 1, 1) := by decide +kernel
theorem dX7_part_1 : decode cX7_part 1 = .ok (.lload_n 0, 1) := by decide +kernel
theorem dX7_part_2 : decode cX7_part 2 = .ok (.invokestatic 351, 3) := by decide +kernel
theorem dX7_part_5 : decode cX7_part 5 = .ok (.lload_n 2, 1) := by decide +kernel
theorem dX7_part_6 : decode cX7_part 6 = .ok (.invokestatic 357, 3) := by decide +kernel
theorem dX7_part_9 : decode cX7_part 9 = .ok (.invokestatic 361, 3) := by decide +kernel
theorem dX7_part_12 : decode cX7_part 12 = .ok (.lstore 5, 2) := by decide +kernel
theorem dX7_part_14 : decode cX7_part 14 = .ok (.iload 4, 2) := by decide +kernel
theorem dX7_part_16 : decode cX7_part 16 = .ok (.ifCond .ne 10, 3) := by decide +kernel
theorem dX7_part_19 : decode cX7_part 19 = .ok (.lload_n 0, 1) := by decide +kernel
theorem dX7_part_20 : decode cX7_part 20 = .ok (.lload 5, 2) := by decide +kernel
theorem dX7_part_22 : decode cX7_part 22 = .ok (.ldiv, 1) := by decide +kernel
theorem dX7_part_23 : decode cX7_part 23 = .ok (.goto 7, 3) := by decide +kernel
theorem dX7_part_26 : decode cX7_part 26 = .ok (.lload_n 2, 1) := by decide +kernel
theorem dX7_part_27 : decode cX7_part 27 = .ok (.lload 5, 2) := by decide +kernel
theorem dX7_part_29 : decode cX7_part 29 = .ok (.ldiv, 1) := by decide +kernel
theorem dX7_part_30 : decode cX7_part 30 = .ok (.lreturn, 1) := by decide +kernel
theorem dX7_greatestShared_0 : decode cX7_greatestShared 0 = .ok (.lload_n 0, 1) := by decide +kernel
theorem dX7_greatestShared_1 : decode cX7_greatestShared 1 = .ok (.lstore 4, 2) := by decide +kernel
theorem dX7_greatestShared_3 : decode cX7_greatestShared 3 = .ok (.lload_n 2, 1) := by decide +kernel
theorem dX7_greatestShared_4 : decode cX7_greatestShared 4 = .ok (.lstore 6, 2) := by decide +kernel
theorem dX7_greatestShared_6 : decode cX7_greatestShared 6 = .ok (.iconst 0, 1) := by decide +kernel
theorem dX7_greatestShared_7 : decode cX7_greatestShared 7 = .ok (.istore 8, 2) := by decide +kernel
theorem dX7_greatestShared_9 : decode cX7_greatestShared 9 = .ok (.iload 8, 2) := by decide +kernel
theorem dX7_greatestShared_11 : decode cX7_greatestShared 11 = .ok (.bipush 100, 2) := by decide +kernel
theorem dX7_greatestShared_13 : decode cX7_greatestShared 13 = .ok (.if_icmp .ge 31, 3) := by decide +kernel
theorem dX7_greatestShared_16 : decode cX7_greatestShared 16 = .ok (.lload 6, 2) := by decide +kernel
theorem dX7_greatestShared_18 : decode cX7_greatestShared 18 = .ok (.lconst 0, 1) := by decide +kernel
theorem dX7_greatestShared_19 : decode cX7_greatestShared 19 = .ok (.lcmp, 1) := by decide +kernel
theorem dX7_greatestShared_20 : decode cX7_greatestShared 20 = .ok (.ifCond .eq 24, 3) := by decide +kernel
theorem dX7_greatestShared_23 : decode cX7_greatestShared 23 = .ok (.lload 4, 2) := by decide +kernel
theorem dX7_greatestShared_25 : decode cX7_greatestShared 25 = .ok (.lload 6, 2) := by decide +kernel
theorem dX7_greatestShared_27 : decode cX7_greatestShared 27 = .ok (.lrem, 1) := by decide +kernel
theorem dX7_greatestShared_28 : decode cX7_greatestShared 28 = .ok (.lstore 9, 2) := by decide +kernel
theorem dX7_greatestShared_30 : decode cX7_greatestShared 30 = .ok (.lload 6, 2) := by decide +kernel
theorem dX7_greatestShared_32 : decode cX7_greatestShared 32 = .ok (.lstore 4, 2) := by decide +kernel
theorem dX7_greatestShared_34 : decode cX7_greatestShared 34 = .ok (.lload 9, 2) := by decide +kernel
theorem dX7_greatestShared_36 : decode cX7_greatestShared 36 = .ok (.lstore 6, 2) := by decide +kernel
theorem dX7_greatestShared_38 : decode cX7_greatestShared 38 = .ok (.iinc 8 1, 3) := by decide +kernel
theorem dX7_greatestShared_41 : decode cX7_greatestShared 41 = .ok (.goto (-32), 3) := by decide +kernel
theorem dX7_greatestShared_44 : decode cX7_greatestShared 44 = .ok (.lload 4, 2) := by decide +kernel
theorem dX7_greatestShared_46 : decode cX7_greatestShared 46 = .ok (.lreturn, 1) := by decide +kernel
theorem dX7_at_0 : decode cX7_at 0 = .ok (.iload_n 1, 1) := by decide +kernel
theorem dX7_at_1 : decode cX7_at 1 = .ok (.ifCond .lt 15, 3) := by decide +kernel
theorem dX7_at_4 : decode cX7_at 4 = .ok (.iload_n 1, 1) := by decide +kernel
theorem dX7_at_5 : decode cX7_at 5 = .ok (.aload_n 0, 1) := by decide +kernel
theorem dX7_at_6 : decode cX7_at 6 = .ok (.arraylength, 1) := by decide +kernel
theorem dX7_at_7 : decode cX7_at 7 = .ok (.if_icmp .ge 9, 3) := by decide +kernel
theorem dX7_at_10 : decode cX7_at 10 = .ok (.aload_n 0, 1) := by decide +kernel
theorem dX7_at_11 : decode cX7_at 11 = .ok (.iload_n 1, 1) := by decide +kernel
theorem dX7_at_12 : decode cX7_at 12 = .ok (.iaload, 1) := by decide +kernel
theorem dX7_at_13 : decode cX7_at 13 = .ok (.goto 4, 3) := by decide +kernel
theorem dX7_at_16 : decode cX7_at 16 = .ok (.iconst 0, 1) := by decide +kernel
theorem dX7_at_17 : decode cX7_at 17 = .ok (.ireturn, 1) := by decide +kernel
theorem dX7_put_0 : decode cX7_put 0 = .ok (.iload_n 1, 1) := by decide +kernel
theorem dX7_put_1 : decode cX7_put 1 = .ok (.ifCond .lt 13, 3) := by decide +kernel
theorem dX7_put_4 : decode cX7_put 4 = .ok (.iload_n 1, 1) := by decide +kernel
theorem dX7_put_5 : decode cX7_put 5 = .ok (.aload_n 0, 1) := by decide +kernel
theorem dX7_put_6 : decode cX7_put 6 = .ok (.arraylength, 1) := by decide +kernel
theorem dX7_put_7 : decode cX7_put 7 = .ok (.if_icmp .ge 7, 3) := by decide +kernel
theorem dX7_put_10 : decode cX7_put 10 = .ok (.aload_n 0, 1) := by decide +kernel
theorem dX7_put_11 : decode cX7_put 11 = .ok (.iload_n 1, 1) := by decide +kernel
theorem dX7_put_12 : decode cX7_put 12 = .ok (.iload_n 2, 1) := by decide +kernel
theorem dX7_put_13 : decode cX7_put 13 = .ok (.iastore, 1) := by decide +kernel
theorem dX7_put_14 : decode cX7_put 14 = .ok (.return_, 1) := by decide +kernel
theorem dX7_at__0 : decode cX7_at_ 0 = .ok (.iload_n 1, 1) := by decide +kernel
theorem dX7_at__1 : decode cX7_at_ 1 = .ok (.ifCond .lt 15, 3) := by decide +kernel
theorem dX7_at__4 : decode cX7_at_ 4 = .ok (.iload_n 1, 1) := by decide +kernel
theorem dX7_at__5 : decode cX7_at_ 5 = .ok (.aload_n 0, 1) := by decide +kernel
theorem dX7_at__6 : decode cX7_at_ 6 = .ok (.arraylength, 1) := by decide +kernel
theorem dX7_at__7 : decode cX7_at_ 7 = .ok (.if_icmp .ge 9, 3) := by decide +kernel
theorem dX7_at__10 : decode cX7_at_ 10 = .ok (.aload_n 0, 1) := by decide +kernel
theorem dX7_at__11 : decode cX7_at_ 11 = .ok (.iload_n 1, 1) := by decide +kernel
theorem dX7_at__12 : decode cX7_at_ 12 = .ok (.laload, 1) := by decide +kernel
theorem dX7_at__13 : decode cX7_at_ 13 = .ok (.goto 4, 3) := by decide +kernel
theorem dX7_at__16 : decode cX7_at_ 16 = .ok (.lconst 0, 1) := by decide +kernel
theorem dX7_at__17 : decode cX7_at_ 17 = .ok (.lreturn, 1) := by decide +kernel
theorem dX7_put__0 : decode cX7_put_ 0 = .ok (.iload_n 1, 1) := by decide +kernel
theorem dX7_put__1 : decode cX7_put_ 1 = .ok (.ifCond .lt 13, 3) := by decide +kernel
theorem dX7_put__4 : decode cX7_put_ 4 = .ok (.iload_n 1, 1) := by decide +kernel
theorem dX7_put__5 : decode cX7_put_ 5 = .ok (.aload_n 0, 1) := by decide +kernel
theorem dX7_put__6 : decode cX7_put_ 6 = .ok (.arraylength, 1) := by decide +kernel
theorem dX7_put__7 : decode cX7_put_ 7 = .ok (.if_icmp .ge 7, 3) := by decide +kernel
theorem dX7_put__10 : decode cX7_put_ 10 = .ok (.aload_n 0, 1) := by decide +kernel
theorem dX7_put__11 : decode cX7_put_ 11 = .ok (.iload_n 1, 1) := by decide +kernel
theorem dX7_put__12 : decode cX7_put_ 12 = .ok (.lload_n 2, 1) := by decide +kernel
theorem dX7_put__13 : decode cX7_put_ 13 = .ok (.lastore, 1) := by decide +kernel
theorem dX7_put__14 : decode cX7_put_ 14 = .ok (.return_, 1) := by decide +kernel
theorem dX8_init_0 : decode cX8_init 0 = .ok (.aload_n 0, 1) := by decide +kernel
theorem dX8_init_1 : decode cX8_init 1 = .ok (.invokespecial 1, 3) := by decide +kernel
theorem dX8_init_4 : decode cX8_init 4 = .ok (.aload_n 0, 1) := by decide +kernel
theorem dX8_init_5 : decode cX8_init 5 = .ok (.bipush 90, 2) := by decide +kernel
theorem dX8_init_7 : decode cX8_init 7 = .ok (.newarray .int, 2) := by decide +kernel
theorem dX8_init_9 : decode cX8_init 9 = .ok (.putfield 7, 3) := by decide +kernel
theorem dX8_init_12 : decode cX8_init 12 = .ok (.aload_n 0, 1) := by decide +kernel
theorem dX8_init_13 : decode cX8_init 13 = .ok (.bipush 6, 2) := by decide +kernel
theorem dX8_init_15 : decode cX8_init 15 = .ok (.putfield 13, 3) := by decide +kernel
theorem dX8_init_18 : decode cX8_init 18 = .ok (.aload_n 0, 1) := by decide +kernel
theorem dX8_init_19 : decode cX8_init 19 = .ok (.bipush 6, 2) := by decide +kernel
theorem dX8_init_21 : decode cX8_init 21 = .ok (.newarray .int, 2) := by decide +kernel
theorem dX8_init_23 : decode cX8_init 23 = .ok (.putfield 17, 3) := by decide +kernel
theorem dX8_init_26 : decode cX8_init 26 = .ok (.aload_n 0, 1) := by decide +kernel
theorem dX8_init_27 : decode cX8_init 27 = .ok (.iconst 3, 1) := by decide +kernel
theorem dX8_init_28 : decode cX8_init 28 = .ok (.newarray .int, 2) := by decide +kernel
theorem dX8_init_30 : decode cX8_init 30 = .ok (.putfield 20, 3) := by decide +kernel
theorem dX8_init_33 : decode cX8_init 33 = .ok (.aload_n 0, 1) := by decide +kernel
theorem dX8_init_34 : decode cX8_init 34 = .ok (.iconst 5, 1) := by decide +kernel
theorem dX8_init_35 : decode cX8_init 35 = .ok (.newarray .int, 2) := by decide +kernel
theorem dX8_init_37 : decode cX8_init 37 = .ok (.putfield 23, 3) := by decide +kernel
theorem dX8_init_40 : decode cX8_init 40 = .ok (.aload_n 0, 1) := by decide +kernel
theorem dX8_init_41 : decode cX8_init 41 = .ok (.iconst 2, 1) := by decide +kernel
theorem dX8_init_42 : decode cX8_init 42 = .ok (.newarray .int, 2) := by decide +kernel
theorem dX8_init_44 : decode cX8_init 44 = .ok (.dup, 1) := by decide +kernel
theorem dX8_init_45 : decode cX8_init 45 = .ok (.iconst 0, 1) := by decide +kernel
theorem dX8_init_46 : decode cX8_init 46 = .ok (.iconst 1, 1) := by decide +kernel
theorem dX8_init_47 : decode cX8_init 47 = .ok (.iastore, 1) := by decide +kernel
theorem dX8_init_48 : decode cX8_init 48 = .ok (.dup, 1) := by decide +kernel
theorem dX8_init_49 : decode cX8_init 49 = .ok (.iconst 1, 1) := by decide +kernel
theorem dX8_init_50 : decode cX8_init 50 = .ok (.iconst 5, 1) := by decide +kernel
theorem dX8_init_51 : decode cX8_init 51 = .ok (.iastore, 1) := by decide +kernel
theorem dX8_init_52 : decode cX8_init 52 = .ok (.putfield 26, 3) := by decide +kernel
theorem dX8_init_55 : decode cX8_init 55 = .ok (.aload_n 0, 1) := by decide +kernel
theorem dX8_init_56 : decode cX8_init 56 = .ok (.bipush 18, 2) := by decide +kernel
theorem dX8_init_58 : decode cX8_init 58 = .ok (.newarray .int, 2) := by decide +kernel
theorem dX8_init_60 : decode cX8_init 60 = .ok (.putfield 29, 3) := by decide +kernel
theorem dX8_init_63 : decode cX8_init 63 = .ok (.aload_n 0, 1) := by decide +kernel
theorem dX8_init_64 : decode cX8_init 64 = .ok (.bipush 6, 2) := by decide +kernel
theorem dX8_init_66 : decode cX8_init 66 = .ok (.newarray .int, 2) := by decide +kernel
theorem dX8_init_68 : decode cX8_init 68 = .ok (.putfield 32, 3) := by decide +kernel
theorem dX8_init_71 : decode cX8_init 71 = .ok (.aload_n 0, 1) := by decide +kernel
theorem dX8_init_72 : decode cX8_init 72 = .ok (.iconst 3, 1) := by decide +kernel
theorem dX8_init_73 : decode cX8_init 73 = .ok (.newarray .int, 2) := by decide +kernel
theorem dX8_init_75 : decode cX8_init 75 = .ok (.putfield 35, 3) := by decide +kernel
theorem dX8_init_78 : decode cX8_init 78 = .ok (.aload_n 0, 1) := by decide +kernel
theorem dX8_init_79 : decode cX8_init 79 = .ok (.iconst 5, 1) := by decide +kernel
theorem dX8_init_80 : decode cX8_init 80 = .ok (.newarray .int, 2) := by decide +kernel
theorem dX8_init_82 : decode cX8_init 82 = .ok (.putfield 38, 3) := by decide +kernel
theorem dX8_init_85 : decode cX8_init 85 = .ok (.aload_n 0, 1) := by decide +kernel
theorem dX8_init_86 : decode cX8_init 86 = .ok (.iconst 2, 1) := by decide +kernel
theorem dX8_init_87 : decode cX8_init 87 = .ok (.newarray .int, 2) := by decide +kernel
theorem dX8_init_89 : decode cX8_init 89 = .ok (.putfield 41, 3) := by decide +kernel
theorem dX8_init_92 : decode cX8_init 92 = .ok (.aload_n 0, 1) := by decide +kernel
theorem dX8_init_93 : decode cX8_init 93 = .ok (.sipush 160, 3) := by decide +kernel
theorem dX8_init_96 : decode cX8_init 96 = .ok (.newarray .int, 2) := by decide +kernel
theorem dX8_init_98 : decode cX8_init 98 = .ok (.putfield 44, 3) := by decide +kernel
theorem dX8_init_101 : decode cX8_init 101 = .ok (.aload_n 0, 1) := by decide +kernel
theorem dX8_init_102 : decode cX8_init 102 = .ok (.bipush 17, 2) := by decide +kernel
theorem dX8_init_104 : decode cX8_init 104 = .ok (.newarray .int, 2) := by decide +kernel
theorem dX8_init_106 : decode cX8_init 106 = .ok (.dup, 1) := by decide +kernel
theorem dX8_init_107 : decode cX8_init 107 = .ok (.iconst 0, 1) := by decide +kernel
theorem dX8_init_108 : decode cX8_init 108 = .ok (.iconst 0, 1) := by decide +kernel
theorem dX8_init_109 : decode cX8_init 109 = .ok (.iastore, 1) := by decide +kernel
theorem dX8_init_110 : decode cX8_init 110 = .ok (.dup, 1) := by decide +kernel
theorem dX8_init_111 : decode cX8_init 111 = .ok (.iconst 1, 1) := by decide +kernel
theorem dX8_init_112 : decode cX8_init 112 = .ok (.bipush 6, 2) := by decide +kernel
theorem dX8_init_114 : decode cX8_init 114 = .ok (.iastore, 1) := by decide +kernel
theorem dX8_init_115 : decode cX8_init 115 = .ok (.dup, 1) := by decide +kernel
theorem dX8_init_116 : decode cX8_init 116 = .ok (.iconst 2, 1) := by decide +kernel
theorem dX8_init_117 : decode cX8_init 117 = .ok (.bipush 12, 2) := by decide +kernel
theorem dX8_init_119 : decode cX8_init 119 = .ok (.iastore, 1) := by decide +kernel
theorem dX8_init_120 : decode cX8_init 120 = .ok (.dup, 1) := by decide +kernel
theorem dX8_init_121 : decode cX8_init 121 = .ok (.iconst 3, 1) := by decide +kernel
theorem dX8_init_122 : decode cX8_init 122 = .ok (.bipush 16, 2) := by decide +kernel
theorem dX8_init_124 : decode cX8_init 124 = .ok (.iastore, 1) := by decide +kernel
theorem dX8_init_125 : decode cX8_init 125 = .ok (.dup, 1) := by decide +kernel
theorem dX8_init_126 : decode cX8_init 126 = .ok (.iconst 4, 1) := by decide +kernel
theorem dX8_init_127 : decode cX8_init 127 = .ok (.bipush 20, 2) := by decide +kernel
theorem dX8_init_129 : decode cX8_init 129 = .ok (.iastore, 1) := by decide +kernel
theorem dX8_init_130 : decode cX8_init 130 = .ok (.dup, 1) := by decide +kernel
theorem dX8_init_131 : decode cX8_init 131 = .ok (.iconst 5, 1) := by decide +kernel
theorem dX8_init_132 : decode cX8_init 132 = .ok (.bipush 23, 2) := by decide +kernel
theorem dX8_init_134 : decode cX8_init 134 = .ok (.iastore, 1) := by decide +kernel
theorem dX8_init_135 : decode cX8_init 135 = .ok (.dup, 1) := by decide +kernel
theorem dX8_init_136 : decode cX8_init 136 = .ok (.bipush 6, 2) := by decide +kernel
theorem dX8_init_138 : decode cX8_init 138 = .ok (.bipush 27, 2) := by decide +kernel
theorem dX8_init_140 : decode cX8_init 140 = .ok (.iastore, 1) := by decide +kernel
theorem dX8_init_141 : decode cX8_init 141 = .ok (.dup, 1) := by decide +kernel
theorem dX8_init_142 : decode cX8_init 142 = .ok (.bipush 7, 2) := by decide +kernel
theorem dX8_init_144 : decode cX8_init 144 = .ok (.bipush 32, 2) := by decide +kernel
theorem dX8_init_146 : decode cX8_init 146 = .ok (.iastore, 1) := by decide +kernel
theorem dX8_init_147 : decode cX8_init 147 = .ok (.dup, 1) := by decide +kernel
theorem dX8_init_148 : decode cX8_init 148 = .ok (.bipush 8, 2) := by decide +kernel
theorem dX8_init_150 : decode cX8_init 150 = .ok (.bipush 35, 2) := by decide +kernel
theorem dX8_init_152 : decode cX8_init 152 = .ok (.iastore, 1) := by decide +kernel
theorem dX8_init_153 : decode cX8_init 153 = .ok (.dup, 1) := by decide +kernel
theorem dX8_init_154 : decode cX8_init 154 = .ok (.bipush 9, 2) := by decide +kernel
theorem dX8_init_156 : decode cX8_init 156 = .ok (.bipush 39, 2) := by decide +kernel
theorem dX8_init_158 : decode cX8_init 158 = .ok (.iastore, 1) := by decide +kernel
theorem dX8_init_159 : decode cX8_init 159 = .ok (.dup, 1) := by decide +kernel
theorem dX8_init_160 : decode cX8_init 160 = .ok (.bipush 10, 2) := by decide +kernel
theorem dX8_init_162 : decode cX8_init 162 = .ok (.bipush 43, 2) := by decide +kernel
theorem dX8_init_164 : decode cX8_init 164 = .ok (.iastore, 1) := by decide +kernel
theorem dX8_init_165 : decode cX8_init 165 = .ok (.dup, 1) := by decide +kernel
theorem dX8_init_166 : decode cX8_init 166 = .ok (.bipush 11, 2) := by decide +kernel
theorem dX8_init_168 : decode cX8_init 168 = .ok (.bipush 49, 2) := by decide +kernel
theorem dX8_init_170 : decode cX8_init 170 = .ok (.iastore, 1) := by decide +kernel
theorem dX8_init_171 : decode cX8_init 171 = .ok (.dup, 1) := by decide +kernel
theorem dX8_init_172 : decode cX8_init 172 = .ok (.bipush 12, 2) := by decide +kernel
theorem dX8_init_174 : decode cX8_init 174 = .ok (.bipush 53, 2) := by decide +kernel
theorem dX8_init_176 : decode cX8_init 176 = .ok (.iastore, 1) := by decide +kernel
theorem dX8_init_177 : decode cX8_init 177 = .ok (.dup, 1) := by decide +kernel
theorem dX8_init_178 : decode cX8_init 178 = .ok (.bipush 13, 2) := by decide +kernel
theorem dX8_init_180 : decode cX8_init 180 = .ok (.bipush 58, 2) := by decide +kernel
theorem dX8_init_182 : decode cX8_init 182 = .ok (.iastore, 1) := by decide +kernel
theorem dX8_init_183 : decode cX8_init 183 = .ok (.dup, 1) := by decide +kernel
theorem dX8_init_184 : decode cX8_init 184 = .ok (.bipush 14, 2) := by decide +kernel
theorem dX8_init_186 : decode cX8_init 186 = .ok (.bipush 63, 2) := by decide +kernel
theorem dX8_init_188 : decode cX8_init 188 = .ok (.iastore, 1) := by decide +kernel
theorem dX8_init_189 : decode cX8_init 189 = .ok (.dup, 1) := by decide +kernel
theorem dX8_init_190 : decode cX8_init 190 = .ok (.bipush 15, 2) := by decide +kernel
theorem dX8_init_192 : decode cX8_init 192 = .ok (.bipush 69, 2) := by decide +kernel
theorem dX8_init_194 : decode cX8_init 194 = .ok (.iastore, 1) := by decide +kernel
theorem dX8_init_195 : decode cX8_init 195 = .ok (.dup, 1) := by decide +kernel
theorem dX8_init_196 : decode cX8_init 196 = .ok (.bipush 16, 2) := by decide +kernel
theorem dX8_init_198 : decode cX8_init 198 = .ok (.bipush 72, 2) := by decide +kernel
theorem dX8_init_200 : decode cX8_init 200 = .ok (.iastore, 1) := by decide +kernel
theorem dX8_init_201 : decode cX8_init 201 = .ok (.putfield 47, 3) := by decide +kernel
theorem dX8_init_204 : decode cX8_init 204 = .ok (.aload_n 0, 1) := by decide +kernel
theorem dX8_init_205 : decode cX8_init 205 = .ok (.bipush 72, 2) := by decide +kernel
theorem dX8_init_207 : decode cX8_init 207 = .ok (.newarray .int, 2) := by decide +kernel
theorem dX8_init_209 : decode cX8_init 209 = .ok (.dup, 1) := by decide +kernel
theorem dX8_init_210 : decode cX8_init 210 = .ok (.iconst 0, 1) := by decide +kernel
theorem dX8_init_211 : decode cX8_init 211 = .ok (.bipush 106, 2) := by decide +kernel
theorem dX8_init_213 : decode cX8_init 213 = .ok (.iastore, 1) := by decide +kernel
theorem dX8_init_214 : decode cX8_init 214 = .ok (.dup, 1) := by decide +kernel
theorem dX8_init_215 : decode cX8_init 215 = .ok (.iconst 1, 1) := by decide +kernel
theorem dX8_init_216 : decode cX8_init 216 = .ok (.bipush 111, 2) := by decide +kernel
theorem dX8_init_218 : decode cX8_init 218 = .ok (.iastore, 1) := by decide +kernel
theorem dX8_init_219 : decode cX8_init 219 = .ok (.dup, 1) := by decide +kernel
theorem dX8_init_220 : decode cX8_init 220 = .ok (.iconst 2, 1) := by decide +kernel
theorem dX8_init_221 : decode cX8_init 221 = .ok (.bipush 105, 2) := by decide +kernel
theorem dX8_init_223 : decode cX8_init 223 = .ok (.iastore, 1) := by decide +kernel
theorem dX8_init_224 : decode cX8_init 224 = .ok (.dup, 1) := by decide +kernel
theorem dX8_init_225 : decode cX8_init 225 = .ok (.iconst 3, 1) := by decide +kernel
theorem dX8_init_226 : decode cX8_init 226 = .ok (.bipush 110, 2) := by decide +kernel
theorem dX8_init_228 : decode cX8_init 228 = .ok (.iastore, 1) := by decide +kernel
theorem dX8_init_229 : decode cX8_init 229 = .ok (.dup, 1) := by decide +kernel
theorem dX8_init_230 : decode cX8_init 230 = .ok (.iconst 4, 1) := by decide +kernel
theorem dX8_init_231 : decode cX8_init 231 = .ok (.bipush 116, 2) := by decide +kernel
theorem dX8_init_233 : decode cX8_init 233 = .ok (.iastore, 1) := by decide +kernel
theorem dX8_init_234 : decode cX8_init 234 = .ok (.dup, 1) := by decide +kernel
theorem dX8_init_235 : decode cX8_init 235 = .ok (.iconst 5, 1) := by decide +kernel
theorem dX8_init_236 : decode cX8_init 236 = .ok (.bipush 115, 2) := by decide +kernel
theorem dX8_init_238 : decode cX8_init 238 = .ok (.iastore, 1) := by decide +kernel
theorem dX8_init_239 : decode cX8_init 239 = .ok (.dup, 1) := by decide +kernel
theorem dX8_init_240 : decode cX8_init 240 = .ok (.bipush 6, 2) := by decide +kernel
theorem dX8_init_242 : decode cX8_init 242 = .ok (.bipush 98, 2) := by decide +kernel
theorem dX8_init_244 : decode cX8_init 244 = .ok (.iastore, 1) := by decide +kernel
theorem dX8_init_245 : decode cX8_init 245 = .ok (.dup, 1) := by decide +kernel
theorem dX8_init_246 : decode cX8_init 246 = .ok (.bipush 7, 2) := by decide +kernel
theorem dX8_init_248 : decode cX8_init 248 = .ok (.bipush 114, 2) := by decide +kernel
theorem dX8_init_250 : decode cX8_init 250 = .ok (.iastore, 1) := by decide +kernel
theorem dX8_init_251 : decode cX8_init 251 = .ok (.dup, 1) := by decide +kernel
theorem dX8_init_252 : decode cX8_init 252 = .ok (.bipush 8, 2) := by decide +kernel
theorem dX8_init_254 : decode cX8_init 254 = .ok (.bipush 105, 2) := by decide +kernel
theorem dX8_init_256 : decode cX8_init 256 = .ok (.iastore, 1) := by decide +kernel
theorem dX8_init_257 : decode cX8_init 257 = .ok (.dup, 1) := by decide +kernel
theorem dX8_init_258 : decode cX8_init 258 = .ok (.bipush 9, 2) := by decide +kernel
theorem dX8_init_260 : decode cX8_init 260 = .ok (.bipush 100, 2) := by decide +kernel
theorem dX8_init_262 : decode cX8_init 262 = .ok (.iastore, 1) := by decide +kernel
theorem dX8_init_263 : decode cX8_init 263 = .ok (.dup, 1) := by decide +kernel
theorem dX8_init_264 : decode cX8_init 264 = .ok (.bipush 10, 2) := by decide +kernel
theorem dX8_init_266 : decode cX8_init 266 = .ok (.bipush 103, 2) := by decide +kernel
theorem dX8_init_268 : decode cX8_init 268 = .ok (.iastore, 1) := by decide +kernel
theorem dX8_init_269 : decode cX8_init 269 = .ok (.dup, 1) := by decide +kernel
theorem dX8_init_270 : decode cX8_init 270 = .ok (.bipush 11, 2) := by decide +kernel
theorem dX8_init_272 : decode cX8_init 272 = .ok (.bipush 101, 2) := by decide +kernel
theorem dX8_init_274 : decode cX8_init 274 = .ok (.iastore, 1) := by decide +kernel
theorem dX8_init_275 : decode cX8_init 275 = .ok (.dup, 1) := by decide +kernel
theorem dX8_init_276 : decode cX8_init 276 = .ok (.bipush 12, 2) := by decide +kernel
theorem dX8_init_278 : decode cX8_init 278 = .ok (.bipush 115, 2) := by decide +kernel
theorem dX8_init_280 : decode cX8_init 280 = .ok (.iastore, 1) := by decide +kernel
theorem dX8_init_281 : decode cX8_init 281 = .ok (.dup, 1) := by decide +kernel
theorem dX8_init_282 : decode cX8_init 282 = .ok (.bipush 13, 2) := by decide +kernel
theorem dX8_init_284 : decode cX8_init 284 = .ok (.bipush 108, 2) := by decide +kernel
theorem dX8_init_286 : decode cX8_init 286 = .ok (.iastore, 1) := by decide +kernel
theorem dX8_init_287 : decode cX8_init 287 = .ok (.dup, 1) := by decide +kernel
theorem dX8_init_288 : decode cX8_init 288 = .ok (.bipush 14, 2) := by decide +kernel
theorem dX8_init_290 : decode cX8_init 290 = .ok (.bipush 105, 2) := by decide +kernel
theorem dX8_init_292 : decode cX8_init 292 = .ok (.iastore, 1) := by decide +kernel
theorem dX8_init_293 : decode cX8_init 293 = .ok (.dup, 1) := by decide +kernel
theorem dX8_init_294 : decode cX8_init 294 = .ok (.bipush 15, 2) := by decide +kernel
theorem dX8_init_296 : decode cX8_init 296 = .ok (.bipush 112, 2) := by decide +kernel
theorem dX8_init_298 : decode cX8_init 298 = .ok (.iastore, 1) := by decide +kernel
theorem dX8_init_299 : decode cX8_init 299 = .ok (.dup, 1) := by decide +kernel
theorem dX8_init_300 : decode cX8_init 300 = .ok (.bipush 16, 2) := by decide +kernel
theorem dX8_init_302 : decode cX8_init 302 = .ok (.bipush 112, 2) := by decide +kernel
theorem dX8_init_304 : decode cX8_init 304 = .ok (.iastore, 1) := by decide +kernel
theorem dX8_init_305 : decode cX8_init 305 = .ok (.dup, 1) := by decide +kernel
theorem dX8_init_306 : decode cX8_init 306 = .ok (.bipush 17, 2) := by decide +kernel
theorem dX8_init_308 : decode cX8_init 308 = .ok (.bipush 97, 2) := by decide +kernel
theorem dX8_init_310 : decode cX8_init 310 = .ok (.iastore, 1) := by decide +kernel
theorem dX8_init_311 : decode cX8_init 311 = .ok (.dup, 1) := by decide +kernel
theorem dX8_init_312 : decode cX8_init 312 = .ok (.bipush 18, 2) := by decide +kernel
theorem dX8_init_314 : decode cX8_init 314 = .ok (.bipush 99, 2) := by decide +kernel
theorem dX8_init_316 : decode cX8_init 316 = .ok (.iastore, 1) := by decide +kernel
theorem dX8_init_317 : decode cX8_init 317 = .ok (.dup, 1) := by decide +kernel
theorem dX8_init_318 : decode cX8_init 318 = .ok (.bipush 19, 2) := by decide +kernel
theorem dX8_init_320 : decode cX8_init 320 = .ok (.bipush 101, 2) := by decide +kernel
theorem dX8_init_322 : decode cX8_init 322 = .ok (.iastore, 1) := by decide +kernel
theorem dX8_init_323 : decode cX8_init 323 = .ok (.dup, 1) := by decide +kernel
theorem dX8_init_324 : decode cX8_init 324 = .ok (.bipush 20, 2) := by decide +kernel
theorem dX8_init_326 : decode cX8_init 326 = .ok (.bipush 110, 2) := by decide +kernel
theorem dX8_init_328 : decode cX8_init 328 = .ok (.iastore, 1) := by decide +kernel
theorem dX8_init_329 : decode cX8_init 329 = .ok (.dup, 1) := by decide +kernel
theorem dX8_init_330 : decode cX8_init 330 = .ok (.bipush 21, 2) := by decide +kernel
theorem dX8_init_332 : decode cX8_init 332 = .ok (.bipush 101, 2) := by decide +kernel
theorem dX8_init_334 : decode cX8_init 334 = .ok (.iastore, 1) := by decide +kernel
theorem dX8_init_335 : decode cX8_init 335 = .ok (.dup, 1) := by decide +kernel
theorem dX8_init_336 : decode cX8_init 336 = .ok (.bipush 22, 2) := by decide +kernel
theorem dX8_init_338 : decode cX8_init 338 = .ok (.bipush 116, 2) := by decide +kernel
theorem dX8_init_340 : decode cX8_init 340 = .ok (.iastore, 1) := by decide +kernel
theorem dX8_init_341 : decode cX8_init 341 = .ok (.dup, 1) := by decide +kernel
theorem dX8_init_342 : decode cX8_init 342 = .ok (.bipush 23, 2) := by decide +kernel
theorem dX8_init_344 : decode cX8_init 344 = .ok (.bipush 99, 2) := by decide +kernel
theorem dX8_init_346 : decode cX8_init 346 = .ok (.iastore, 1) := by decide +kernel
theorem dX8_init_347 : decode cX8_init 347 = .ok (.dup, 1) := by decide +kernel
theorem dX8_init_348 : decode cX8_init 348 = .ok (.bipush 24, 2) := by decide +kernel
theorem dX8_init_350 : decode cX8_init 350 = .ok (.bipush 111, 2) := by decide +kernel
theorem dX8_init_352 : decode cX8_init 352 = .ok (.iastore, 1) := by decide +kernel
theorem dX8_init_353 : decode cX8_init 353 = .ok (.dup, 1) := by decide +kernel
theorem dX8_init_354 : decode cX8_init 354 = .ok (.bipush 25, 2) := by decide +kernel
theorem dX8_init_356 : decode cX8_init 356 = .ok (.bipush 115, 2) := by decide +kernel
theorem dX8_init_358 : decode cX8_init 358 = .ok (.iastore, 1) := by decide +kernel
theorem dX8_init_359 : decode cX8_init 359 = .ok (.dup, 1) := by decide +kernel
theorem dX8_init_360 : decode cX8_init 360 = .ok (.bipush 26, 2) := by decide +kernel
theorem dX8_init_362 : decode cX8_init 362 = .ok (.bipush 116, 2) := by decide +kernel
theorem dX8_init_364 : decode cX8_init 364 = .ok (.iastore, 1) := by decide +kernel
theorem dX8_init_365 : decode cX8_init 365 = .ok (.dup, 1) := by decide +kernel
theorem dX8_init_366 : decode cX8_init 366 = .ok (.bipush 27, 2) := by decide +kernel
theorem dX8_init_368 : decode cX8_init 368 = .ok (.bipush 104, 2) := by decide +kernel
theorem dX8_init_370 : decode cX8_init 370 = .ok (.iastore, 1) := by decide +kernel
theorem dX8_init_371 : decode cX8_init 371 = .ok (.dup, 1) := by decide +kernel
theorem dX8_init_372 : decode cX8_init 372 = .ok (.bipush 28, 2) := by decide +kernel
theorem dX8_init_374 : decode cX8_init 374 = .ok (.bipush 97, 2) := by decide +kernel
theorem dX8_init_376 : decode cX8_init 376 = .ok (.iastore, 1) := by decide +kernel
theorem dX8_init_377 : decode cX8_init 377 = .ok (.dup, 1) := by decide +kernel
theorem dX8_init_378 : decode cX8_init 378 = .ok (.bipush 29, 2) := by decide +kernel
theorem dX8_init_380 : decode cX8_init 380 = .ok (.bipush 110, 2) := by decide +kernel
theorem dX8_init_382 : decode cX8_init 382 = .ok (.iastore, 1) := by decide +kernel
theorem dX8_init_383 : decode cX8_init 383 = .ok (.dup, 1) := by decide +kernel
theorem dX8_init_384 : decode cX8_init 384 = .ok (.bipush 30, 2) := by decide +kernel
theorem dX8_init_386 : decode cX8_init 386 = .ok (.bipush 100, 2) := by decide +kernel
theorem dX8_init_388 : decode cX8_init 388 = .ok (.iastore, 1) := by decide +kernel
theorem dX8_init_389 : decode cX8_init 389 = .ok (.dup, 1) := by decide +kernel
theorem dX8_init_390 : decode cX8_init 390 = .ok (.bipush 31, 2) := by decide +kernel
theorem dX8_init_392 : decode cX8_init 392 = .ok (.bipush 115, 2) := by decide +kernel
theorem dX8_init_394 : decode cX8_init 394 = .ok (.iastore, 1) := by decide +kernel
theorem dX8_init_395 : decode cX8_init 395 = .ok (.dup, 1) := by decide +kernel
theorem dX8_init_396 : decode cX8_init 396 = .ok (.bipush 32, 2) := by decide +kernel
theorem dX8_init_398 : decode cX8_init 398 = .ok (.bipush 97, 2) := by decide +kernel
theorem dX8_init_400 : decode cX8_init 400 = .ok (.iastore, 1) := by decide +kernel
theorem dX8_init_401 : decode cX8_init 401 = .ok (.dup, 1) := by decide +kernel
theorem dX8_init_402 : decode cX8_init 402 = .ok (.bipush 33, 2) := by decide +kernel
theorem dX8_init_404 : decode cX8_init 404 = .ok (.bipush 114, 2) := by decide +kernel
theorem dX8_init_406 : decode cX8_init 406 = .ok (.iastore, 1) := by decide +kernel
theorem dX8_init_407 : decode cX8_init 407 = .ok (.dup, 1) := by decide +kernel
theorem dX8_init_408 : decode cX8_init 408 = .ok (.bipush 34, 2) := by decide +kernel
theorem dX8_init_410 : decode cX8_init 410 = .ok (.bipush 109, 2) := by decide +kernel
theorem dX8_init_412 : decode cX8_init 412 = .ok (.iastore, 1) := by decide +kernel
theorem dX8_init_413 : decode cX8_init 413 = .ok (.dup, 1) := by decide +kernel
theorem dX8_init_414 : decode cX8_init 414 = .ok (.bipush 35, 2) := by decide +kernel
theorem dX8_init_416 : decode cX8_init 416 = .ok (.bipush 109, 2) := by decide +kernel
theorem dX8_init_418 : decode cX8_init 418 = .ok (.iastore, 1) := by decide +kernel
theorem dX8_init_419 : decode cX8_init 419 = .ok (.dup, 1) := by decide +kernel
theorem dX8_init_420 : decode cX8_init 420 = .ok (.bipush 36, 2) := by decide +kernel
theorem dX8_init_422 : decode cX8_init 422 = .ok (.bipush 97, 2) := by decide +kernel
theorem dX8_init_424 : decode cX8_init 424 = .ok (.iastore, 1) := by decide +kernel
theorem dX8_init_425 : decode cX8_init 425 = .ok (.dup, 1) := by decide +kernel
theorem dX8_init_426 : decode cX8_init 426 = .ok (.bipush 37, 2) := by decide +kernel
theorem dX8_init_428 : decode cX8_init 428 = .ok (.bipush 114, 2) := by decide +kernel
theorem dX8_init_430 : decode cX8_init 430 = .ok (.iastore, 1) := by decide +kernel
theorem dX8_init_431 : decode cX8_init 431 = .ok (.dup, 1) := by decide +kernel
theorem dX8_init_432 : decode cX8_init 432 = .ok (.bipush 38, 2) := by decide +kernel
theorem dX8_init_434 : decode cX8_init 434 = .ok (.bipush 107, 2) := by decide +kernel
theorem dX8_init_436 : decode cX8_init 436 = .ok (.iastore, 1) := by decide +kernel
theorem dX8_init_437 : decode cX8_init 437 = .ok (.dup, 1) := by decide +kernel
theorem dX8_init_438 : decode cX8_init 438 = .ok (.bipush 39, 2) := by decide +kernel
theorem dX8_init_440 : decode cX8_init 440 = .ok (.bipush 116, 2) := by decide +kernel
theorem dX8_init_442 : decode cX8_init 442 = .ok (.iastore, 1) := by decide +kernel
theorem dX8_init_443 : decode cX8_init 443 = .ok (.dup, 1) := by decide +kernel
theorem dX8_init_444 : decode cX8_init 444 = .ok (.bipush 40, 2) := by decide +kernel
theorem dX8_init_446 : decode cX8_init 446 = .ok (.bipush 111, 2) := by decide +kernel
theorem dX8_init_448 : decode cX8_init 448 = .ok (.iastore, 1) := by decide +kernel
theorem dX8_init_449 : decode cX8_init 449 = .ok (.dup, 1) := by decide +kernel
theorem dX8_init_450 : decode cX8_init 450 = .ok (.bipush 41, 2) := by decide +kernel
theorem dX8_init_452 : decode cX8_init 452 = .ok (.bipush 119, 2) := by decide +kernel
theorem dX8_init_454 : decode cX8_init 454 = .ok (.iastore, 1) := by decide +kernel
theorem dX8_init_455 : decode cX8_init 455 = .ok (.dup, 1) := by decide +kernel
theorem dX8_init_456 : decode cX8_init 456 = .ok (.bipush 42, 2) := by decide +kernel
theorem dX8_init_458 : decode cX8_init 458 = .ok (.bipush 110, 2) := by decide +kernel
theorem dX8_init_460 : decode cX8_init 460 = .ok (.iastore, 1) := by decide +kernel
theorem dX8_init_461 : decode cX8_init 461 = .ok (.dup, 1) := by decide +kernel
theorem dX8_init_462 : decode cX8_init 462 = .ok (.bipush 43, 2) := by decide +kernel
theorem dX8_init_464 : decode cX8_init 464 = .ok (.bipush 115, 2) := by decide +kernel
theorem dX8_init_466 : decode cX8_init 466 = .ok (.iastore, 1) := by decide +kernel
theorem dX8_init_467 : decode cX8_init 467 = .ok (.dup, 1) := by decide +kernel
theorem dX8_init_468 : decode cX8_init 468 = .ok (.bipush 44, 2) := by decide +kernel
theorem dX8_init_470 : decode cX8_init 470 = .ok (.bipush 105, 2) := by decide +kernel
theorem dX8_init_472 : decode cX8_init 472 = .ok (.iastore, 1) := by decide +kernel
theorem dX8_init_473 : decode cX8_init 473 = .ok (.dup, 1) := by decide +kernel
theorem dX8_init_474 : decode cX8_init 474 = .ok (.bipush 45, 2) := by decide +kernel
theorem dX8_init_476 : decode cX8_init 476 = .ok (.bipush 103, 2) := by decide +kernel
theorem dX8_init_478 : decode cX8_init 478 = .ok (.iastore, 1) := by decide +kernel
theorem dX8_init_479 : decode cX8_init 479 = .ok (.dup, 1) := by decide +kernel
theorem dX8_init_480 : decode cX8_init 480 = .ok (.bipush 46, 2) := by decide +kernel
theorem dX8_init_482 : decode cX8_init 482 = .ok (.bipush 110, 2) := by decide +kernel
theorem dX8_init_484 : decode cX8_init 484 = .ok (.iastore, 1) := by decide +kernel
theorem dX8_init_485 : decode cX8_init 485 = .ok (.dup, 1) := by decide +kernel
theorem dX8_init_486 : decode cX8_init 486 = .ok (.bipush 47, 2) := by decide +kernel
theorem dX8_init_488 : decode cX8_init 488 = .ok (.bipush 97, 2) := by decide +kernel
theorem dX8_init_490 : decode cX8_init 490 = .ok (.iastore, 1) := by decide +kernel
theorem dX8_init_491 : decode cX8_init 491 = .ok (.dup, 1) := by decide +kernel
theorem dX8_init_492 : decode cX8_init 492 = .ok (.bipush 48, 2) := by decide +kernel
theorem dX8_init_494 : decode cX8_init 494 = .ok (.bipush 108, 2) := by decide +kernel
theorem dX8_init_496 : decode cX8_init 496 = .ok (.iastore, 1) := by decide +kernel
theorem dX8_init_497 : decode cX8_init 497 = .ok (.dup, 1) := by decide +kernel
theorem dX8_init_498 : decode cX8_init 498 = .ok (.bipush 49, 2) := by decide +kernel
theorem dX8_init_500 : decode cX8_init 500 = .ok (.bipush 116, 2) := by decide +kernel
theorem dX8_init_502 : decode cX8_init 502 = .ok (.iastore, 1) := by decide +kernel
theorem dX8_init_503 : decode cX8_init 503 = .ok (.dup, 1) := by decide +kernel
theorem dX8_init_504 : decode cX8_init 504 = .ok (.bipush 50, 2) := by decide +kernel
theorem dX8_init_506 : decode cX8_init 506 = .ok (.bipush 114, 2) := by decide +kernel
theorem dX8_init_508 : decode cX8_init 508 = .ok (.iastore, 1) := by decide +kernel
theorem dX8_init_509 : decode cX8_init 509 = .ok (.dup, 1) := by decide +kernel
theorem dX8_init_510 : decode cX8_init 510 = .ok (.bipush 51, 2) := by decide +kernel
theorem dX8_init_512 : decode cX8_init 512 = .ok (.bipush 117, 2) := by decide +kernel
theorem dX8_init_514 : decode cX8_init 514 = .ok (.iastore, 1) := by decide +kernel
theorem dX8_init_515 : decode cX8_init 515 = .ok (.dup, 1) := by decide +kernel
theorem dX8_init_516 : decode cX8_init 516 = .ok (.bipush 52, 2) := by decide +kernel
theorem dX8_init_518 : decode cX8_init 518 = .ok (.bipush 101, 2) := by decide +kernel
theorem dX8_init_520 : decode cX8_init 520 = .ok (.iastore, 1) := by decide +kernel
theorem dX8_init_521 : decode cX8_init 521 = .ok (.dup, 1) := by decide +kernel
theorem dX8_init_522 : decode cX8_init 522 = .ok (.bipush 53, 2) := by decide +kernel
theorem dX8_init_524 : decode cX8_init 524 = .ok (.bipush 108, 2) := by decide +kernel
theorem dX8_init_526 : decode cX8_init 526 = .ok (.iastore, 1) := by decide +kernel
theorem dX8_init_527 : decode cX8_init 527 = .ok (.dup, 1) := by decide +kernel
theorem dX8_init_528 : decode cX8_init 528 = .ok (.bipush 54, 2) := by decide +kernel
theorem dX8_init_530 : decode cX8_init 530 = .ok (.bipush 105, 2) := by decide +kernel
theorem dX8_init_532 : decode cX8_init 532 = .ok (.iastore, 1) := by decide +kernel
theorem dX8_init_533 : decode cX8_init 533 = .ok (.dup, 1) := by decide +kernel
theorem dX8_init_534 : decode cX8_init 534 = .ok (.bipush 55, 2) := by decide +kernel
theorem dX8_init_536 : decode cX8_init 536 = .ok (.bipush 103, 2) := by decide +kernel
theorem dX8_init_538 : decode cX8_init 538 = .ok (.iastore, 1) := by decide +kernel
theorem dX8_init_539 : decode cX8_init 539 = .ok (.dup, 1) := by decide +kernel
theorem dX8_init_540 : decode cX8_init 540 = .ok (.bipush 56, 2) := by decide +kernel
theorem dX8_init_542 : decode cX8_init 542 = .ok (.bipush 104, 2) := by decide +kernel
theorem dX8_init_544 : decode cX8_init 544 = .ok (.iastore, 1) := by decide +kernel
theorem dX8_init_545 : decode cX8_init 545 = .ok (.dup, 1) := by decide +kernel
theorem dX8_init_546 : decode cX8_init 546 = .ok (.bipush 57, 2) := by decide +kernel
theorem dX8_init_548 : decode cX8_init 548 = .ok (.bipush 116, 2) := by decide +kernel
theorem dX8_init_550 : decode cX8_init 550 = .ok (.iastore, 1) := by decide +kernel
theorem dX8_init_551 : decode cX8_init 551 = .ok (.dup, 1) := by decide +kernel
theorem dX8_init_552 : decode cX8_init 552 = .ok (.bipush 58, 2) := by decide +kernel
theorem dX8_init_554 : decode cX8_init 554 = .ok (.bipush 104, 2) := by decide +kernel
theorem dX8_init_556 : decode cX8_init 556 = .ok (.iastore, 1) := by decide +kernel
theorem dX8_init_557 : decode cX8_init 557 = .ok (.dup, 1) := by decide +kernel
theorem dX8_init_558 : decode cX8_init 558 = .ok (.bipush 59, 2) := by decide +kernel
theorem dX8_init_560 : decode cX8_init 560 = .ok (.bipush 101, 2) := by decide +kernel
theorem dX8_init_562 : decode cX8_init 562 = .ok (.iastore, 1) := by decide +kernel
theorem dX8_init_563 : decode cX8_init 563 = .ok (.dup, 1) := by decide +kernel
theorem dX8_init_564 : decode cX8_init 564 = .ok (.bipush 60, 2) := by decide +kernel
theorem dX8_init_566 : decode cX8_init 566 = .ok (.bipush 97, 2) := by decide +kernel
theorem dX8_init_568 : decode cX8_init 568 = .ok (.iastore, 1) := by decide +kernel
theorem dX8_init_569 : decode cX8_init 569 = .ok (.dup, 1) := by decide +kernel
theorem dX8_init_570 : decode cX8_init 570 = .ok (.bipush 61, 2) := by decide +kernel
theorem dX8_init_572 : decode cX8_init 572 = .ok (.bipush 118, 2) := by decide +kernel
theorem dX8_init_574 : decode cX8_init 574 = .ok (.iastore, 1) := by decide +kernel
theorem dX8_init_575 : decode cX8_init 575 = .ok (.dup, 1) := by decide +kernel
theorem dX8_init_576 : decode cX8_init 576 = .ok (.bipush 62, 2) := by decide +kernel
theorem dX8_init_578 : decode cX8_init 578 = .ok (.bipush 121, 2) := by decide +kernel
theorem dX8_init_580 : decode cX8_init 580 = .ok (.iastore, 1) := by decide +kernel
theorem dX8_init_581 : decode cX8_init 581 = .ok (.dup, 1) := by decide +kernel
theorem dX8_init_582 : decode cX8_init 582 = .ok (.bipush 63, 2) := by decide +kernel
theorem dX8_init_584 : decode cX8_init 584 = .ok (.bipush 100, 2) := by decide +kernel
theorem dX8_init_586 : decode cX8_init 586 = .ok (.iastore, 1) := by decide +kernel
theorem dX8_init_587 : decode cX8_init 587 = .ok (.dup, 1) := by decide +kernel
theorem dX8_init_588 : decode cX8_init 588 = .ok (.bipush 64, 2) := by decide +kernel
theorem dX8_init_590 : decode cX8_init 590 = .ok (.bipush 111, 2) := by decide +kernel
theorem dX8_init_592 : decode cX8_init 592 = .ok (.iastore, 1) := by decide +kernel
theorem dX8_init_593 : decode cX8_init 593 = .ok (.dup, 1) := by decide +kernel
theorem dX8_init_594 : decode cX8_init 594 = .ok (.bipush 65, 2) := by decide +kernel
theorem dX8_init_596 : decode cX8_init 596 = .ok (.bipush 117, 2) := by decide +kernel
theorem dX8_init_598 : decode cX8_init 598 = .ok (.iastore, 1) := by decide +kernel
theorem dX8_init_599 : decode cX8_init 599 = .ok (.dup, 1) := by decide +kernel
theorem dX8_init_600 : decode cX8_init 600 = .ok (.bipush 66, 2) := by decide +kernel
theorem dX8_init_602 : decode cX8_init 602 = .ok (.bipush 98, 2) := by decide +kernel
theorem dX8_init_604 : decode cX8_init 604 = .ok (.iastore, 1) := by decide +kernel
theorem dX8_init_605 : decode cX8_init 605 = .ok (.dup, 1) := by decide +kernel
theorem dX8_init_606 : decode cX8_init 606 = .ok (.bipush 67, 2) := by decide +kernel
theorem dX8_init_608 : decode cX8_init 608 = .ok (.bipush 108, 2) := by decide +kernel
theorem dX8_init_610 : decode cX8_init 610 = .ok (.iastore, 1) := by decide +kernel
theorem dX8_init_611 : decode cX8_init 611 = .ok (.dup, 1) := by decide +kernel
theorem dX8_init_612 : decode cX8_init 612 = .ok (.bipush 68, 2) := by decide +kernel
theorem dX8_init_614 : decode cX8_init 614 = .ok (.bipush 101, 2) := by decide +kernel
theorem dX8_init_616 : decode cX8_init 616 = .ok (.iastore, 1) := by decide +kernel
theorem dX8_init_617 : decode cX8_init 617 = .ok (.dup, 1) := by decide +kernel
theorem dX8_init_618 : decode cX8_init 618 = .ok (.bipush 69, 2) := by decide +kernel
theorem dX8_init_620 : decode cX8_init 620 = .ok (.bipush 108, 2) := by decide +kernel
theorem dX8_init_622 : decode cX8_init 622 = .ok (.iastore, 1) := by decide +kernel
theorem dX8_init_623 : decode cX8_init 623 = .ok (.dup, 1) := by decide +kernel
theorem dX8_init_624 : decode cX8_init 624 = .ok (.bipush 70, 2) := by decide +kernel
theorem dX8_init_626 : decode cX8_init 626 = .ok (.bipush 111, 2) := by decide +kernel
theorem dX8_init_628 : decode cX8_init 628 = .ok (.iastore, 1) := by decide +kernel
theorem dX8_init_629 : decode cX8_init 629 = .ok (.dup, 1) := by decide +kernel
theorem dX8_init_630 : decode cX8_init 630 = .ok (.bipush 71, 2) := by decide +kernel
theorem dX8_init_632 : decode cX8_init 632 = .ok (.bipush 119, 2) := by decide +kernel
theorem dX8_init_634 : decode cX8_init 634 = .ok (.iastore, 1) := by decide +kernel
theorem dX8_init_635 : decode cX8_init 635 = .ok (.putfield 50, 3) := by decide +kernel
theorem dX8_init_638 : decode cX8_init 638 = .ok (.aload_n 0, 1) := by decide +kernel
theorem dX8_init_639 : decode cX8_init 639 = .ok (.bipush 12, 2) := by decide +kernel
theorem dX8_init_641 : decode cX8_init 641 = .ok (.newarray .int, 2) := by decide +kernel
theorem dX8_init_643 : decode cX8_init 643 = .ok (.putfield 53, 3) := by decide +kernel
theorem dX8_init_646 : decode cX8_init 646 = .ok (.aload_n 0, 1) := by decide +kernel
theorem dX8_init_647 : decode cX8_init 647 = .ok (.iconst 2, 1) := by decide +kernel
theorem dX8_init_648 : decode cX8_init 648 = .ok (.newarray .boolean, 2) := by decide +kernel
theorem dX8_init_650 : decode cX8_init 650 = .ok (.putfield 56, 3) := by decide +kernel
theorem dX8_init_653 : decode cX8_init 653 = .ok (.aload_n 0, 1) := by decide +kernel
theorem dX8_init_654 : decode cX8_init 654 = .ok (.iconst 4, 1) := by decide +kernel
theorem dX8_init_655 : decode cX8_init 655 = .ok (.newarray .int, 2) := by decide +kernel
theorem dX8_init_657 : decode cX8_init 657 = .ok (.dup, 1) := by decide +kernel
theorem dX8_init_658 : decode cX8_init 658 = .ok (.iconst 0, 1) := by decide +kernel
theorem dX8_init_659 : decode cX8_init 659 = .ok (.bipush (-4), 2) := by decide +kernel
theorem dX8_init_661 : decode cX8_init 661 = .ok (.iastore, 1) := by decide +kernel
theorem dX8_init_662 : decode cX8_init 662 = .ok (.dup, 1) := by decide +kernel
theorem dX8_init_663 : decode cX8_init 663 = .ok (.iconst 1, 1) := by decide +kernel
theorem dX8_init_664 : decode cX8_init 664 = .ok (.bipush (-4), 2) := by decide +kernel
theorem dX8_init_666 : decode cX8_init 666 = .ok (.iastore, 1) := by decide +kernel
theorem dX8_init_667 : decode cX8_init 667 = .ok (.dup, 1) := by decide +kernel
theorem dX8_init_668 : decode cX8_init 668 = .ok (.iconst 2, 1) := by decide +kernel
theorem dX8_init_669 : decode cX8_init 669 = .ok (.bipush (-4), 2) := by decide +kernel
theorem dX8_init_671 : decode cX8_init 671 = .ok (.iastore, 1) := by decide +kernel
theorem dX8_init_672 : decode cX8_init 672 = .ok (.dup, 1) := by decide +kernel
theorem dX8_init_673 : decode cX8_init 673 = .ok (.iconst 3, 1) := by decide +kernel
theorem dX8_init_674 : decode cX8_init 674 = .ok (.bipush (-4), 2) := by decide +kernel
theorem dX8_init_676 : decode cX8_init 676 = .ok (.iastore, 1) := by decide +kernel
theorem dX8_init_677 : decode cX8_init 677 = .ok (.putfield 60, 3) := by decide +kernel
theorem dX8_init_680 : decode cX8_init 680 = .ok (.aload_n 0, 1) := by decide +kernel
theorem dX8_init_681 : decode cX8_init 681 = .ok (.iconst 4, 1) := by decide +kernel
theorem dX8_init_682 : decode cX8_init 682 = .ok (.newarray .int, 2) := by decide +kernel
theorem dX8_init_684 : decode cX8_init 684 = .ok (.putfield 63, 3) := by decide +kernel
theorem dX8_init_687 : decode cX8_init 687 = .ok (.aload_n 0, 1) := by decide +kernel
theorem dX8_init_688 : decode cX8_init 688 = .ok (.sipush 160, 3) := by decide +kernel
theorem dX8_init_691 : decode cX8_init 691 = .ok (.newarray .int, 2) := by decide +kernel
theorem dX8_init_693 : decode cX8_init 693 = .ok (.putfield 66, 3) := by decide +kernel
theorem dX8_init_696 : decode cX8_init 696 = .ok (.return_, 1) := by decide +kernel
theorem dX8_in_0 : decode cX8_in 0 = .ok (.lload_n 0, 1) := by decide +kernel
theorem dX8_in_1 : decode cX8_in 1 = .ok (.lload_n 2, 1) := by decide +kernel
theorem dX8_in_2 : decode cX8_in 2 = .ok (.lcmp, 1) := by decide +kernel
theorem dX8_in_3 : decode cX8_in 3 = .ok (.ifCond .lt 14, 3) := by decide +kernel
theorem dX8_in_6 : decode cX8_in 6 = .ok (.lload_n 0, 1) := by decide +kernel
theorem dX8_in_7 : decode cX8_in 7 = .ok (.lload 4, 2) := by decide +kernel
theorem dX8_in_9 : decode cX8_in 9 = .ok (.lcmp, 1) := by decide +kernel
theorem dX8_in_10 : decode cX8_in 10 = .ok (.ifCond .gt 7, 3) := by decide +kernel
theorem dX8_in_13 : decode cX8_in 13 = .ok (.iconst 1, 1) := by decide +kernel
theorem dX8_in_14 : decode cX8_in 14 = .ok (.goto 4, 3) := by decide +kernel
theorem dX8_in_17 : decode cX8_in 17 = .ok (.iconst 0, 1) := by decide +kernel
theorem dX8_in_18 : decode cX8_in 18 = .ok (.ireturn, 1) := by decide +kernel
theorem dX8_feed_0 : decode cX8_feed 0 = .ok (.iload_n 1, 1) := by decide +kernel
theorem dX8_feed_1 : decode cX8_feed 1 = .ok (.i2l, 1) := by decide +kernel
theorem dX8_feed_2 : decode cX8_feed 2 = .ok (.lconst 0, 1) := by decide +kernel
theorem dX8_feed_3 : decode cX8_feed 3 = .ok (.ldc2_w 69, 3) := by decide +kernel
theorem dX8_feed_6 : decode cX8_feed 6 = .ok (.invokestatic 71, 3) := by decide +kernel
theorem dX8_feed_9 : decode cX8_feed 9 = .ok (.ifCond .ne 5, 3) := by decide +kernel
theorem dX8_feed_12 : decode cX8_feed 12 = .ok (.iconst (-1), 1) := by decide +kernel
theorem dX8_feed_13 : decode cX8_feed 13 = .ok (.ireturn, 1) := by decide +kernel
theorem dX8_feed_14 : decode cX8_feed 14 = .ok (.aload_n 0, 1) := by decide +kernel
theorem dX8_feed_15 : decode cX8_feed 15 = .ok (.getfield 75, 3) := by decide +kernel
theorem dX8_feed_18 : decode cX8_feed 18 = .ok (.sipush 160, 3) := by decide +kernel
theorem dX8_feed_21 : decode cX8_feed 21 = .ok (.if_icmp .ne 6, 3) := by decide +kernel
theorem dX8_feed_24 : decode cX8_feed 24 = .ok (.bipush (-3), 2) := by decide +kernel
theorem dX8_feed_26 : decode cX8_feed 26 = .ok (.ireturn, 1) := by decide +kernel
theorem dX8_feed_27 : decode cX8_feed 27 = .ok (.aload_n 0, 1) := by decide +kernel
theorem dX8_feed_28 : decode cX8_feed 28 = .ok (.getfield 44, 3) := by decide +kernel
theorem dX8_feed_31 : decode cX8_feed 31 = .ok (.aload_n 0, 1) := by decide +kernel
theorem dX8_feed_32 : decode cX8_feed 32 = .ok (.getfield 75, 3) := by decide +kernel
theorem dX8_feed_35 : decode cX8_feed 35 = .ok (.iload_n 1, 1) := by decide +kernel
theorem dX8_feed_36 : decode cX8_feed 36 = .ok (.iastore, 1) := by decide +kernel
theorem dX8_feed_37 : decode cX8_feed 37 = .ok (.aload_n 0, 1) := by decide +kernel
theorem dX8_feed_38 : decode cX8_feed 38 = .ok (.dup, 1) := by decide +kernel
theorem dX8_feed_39 : decode cX8_feed 39 = .ok (.getfield 75, 3) := by decide +kernel
theorem dX8_feed_42 : decode cX8_feed 42 = .ok (.iconst 1, 1) := by decide +kernel
theorem dX8_feed_43 : decode cX8_feed 43 = .ok (.iadd, 1) := by decide +kernel
theorem dX8_feed_44 : decode cX8_feed 44 = .ok (.putfield 75, 3) := by decide +kernel
theorem dX8_feed_47 : decode cX8_feed 47 = .ok (.aload_n 0, 1) := by decide +kernel
theorem dX8_feed_48 : decode cX8_feed 48 = .ok (.getfield 75, 3) := by decide +kernel
theorem dX8_feed_51 : decode cX8_feed 51 = .ok (.ireturn, 1) := by decide +kernel
theorem dX8_end_0 : decode cX8_end 0 = .ok (.iload_n 1, 1) := by decide +kernel
theorem dX8_end_1 : decode cX8_end 1 = .ok (.i2l, 1) := by decide +kernel
theorem dX8_end_2 : decode cX8_end 2 = .ok (.lconst 0, 1) := by decide +kernel
theorem dX8_end_3 : decode cX8_end 3 = .ok (.aload_n 0, 1) := by decide +kernel
theorem dX8_end_4 : decode cX8_end 4 = .ok (.getfield 75, 3) := by decide +kernel
theorem dX8_end_7 : decode cX8_end 7 = .ok (.i2l, 1) := by decide +kernel
theorem dX8_end_8 : decode cX8_end 8 = .ok (.invokestatic 71, 3) := by decide +kernel
theorem dX8_end_11 : decode cX8_end 11 = .ok (.ifCond .ne 5, 3) := by decide +kernel
theorem dX8_end_14 : decode cX8_end 14 = .ok (.iconst (-1), 1) := by decide +kernel
