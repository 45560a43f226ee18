theorem dX4_settledList_72 : decode cX4_settledList 72 = .ok (.invokestatic 105, 3) := by decide +kernel
theorem dX4_settledList_75 : decode cX4_settledList 75 = .ok (.ifCond .eq 10, 3) := by decide +kernel
theorem dX4_settledList_78 : decode cX4_settledList 78 = .ok (.aload_n 0, 1) := by decide +kernel
theorem dX4_settledList_79 : decode cX4_settledList 79 = .ok (.getfield 28, 3) := by decide +kernel
theorem dX4_settledList_82 : decode cX4_settledList 82 = .ok (.goto 7, 3) := by decide +kernel
theorem dX4_settledList_85 : decode cX4_settledList 85 = .ok (.aload_n 0, 1) := by decide +kernel
theorem dX4_settledList_86 : decode cX4_settledList 86 = .ok (.getfield 25, 3) := by decide +kernel
theorem dX4_settledList_89 : decode cX4_settledList 89 = .ok (.areturn, 1) := by decide +kernel
theorem dX4_fieldOf_0 : decode cX4_fieldOf 0 = .ok (.iload_n 1, 1) := by decide +kernel
theorem dX4_fieldOf_1 : decode cX4_fieldOf 1 = .ok (.iconst (-1), 1) := by decide +kernel
theorem dX4_fieldOf_2 : decode cX4_fieldOf 2 = .ok (.if_icmp .ne 7, 3) := by decide +kernel
theorem dX4_fieldOf_5 : decode cX4_fieldOf 5 = .ok (.ldc2_w 109, 3) := by decide +kernel
theorem dX4_fieldOf_8 : decode cX4_fieldOf 8 = .ok (.lreturn, 1) := by decide +kernel
theorem dX4_fieldOf_9 : decode cX4_fieldOf 9 = .ok (.iload_n 2, 1) := by decide +kernel
theorem dX4_fieldOf_10 : decode cX4_fieldOf 10 = .ok (.iconst 1, 1) := by decide +kernel
theorem dX4_fieldOf_11 : decode cX4_fieldOf 11 = .ok (.if_icmp .ne 10, 3) := by decide +kernel
theorem dX4_fieldOf_14 : decode cX4_fieldOf 14 = .ok (.aload_n 0, 1) := by decide +kernel
theorem dX4_fieldOf_15 : decode cX4_fieldOf 15 = .ok (.getfield 111, 3) := by decide +kernel
theorem dX4_fieldOf_18 : decode cX4_fieldOf 18 = .ok (.iload_n 1, 1) := by decide +kernel
theorem dX4_fieldOf_19 : decode cX4_fieldOf 19 = .ok (.laload, 1) := by decide +kernel
theorem dX4_fieldOf_20 : decode cX4_fieldOf 20 = .ok (.lreturn, 1) := by decide +kernel
theorem dX4_fieldOf_21 : decode cX4_fieldOf 21 = .ok (.iload_n 2, 1) := by decide +kernel
theorem dX4_fieldOf_22 : decode cX4_fieldOf 22 = .ok (.iconst 2, 1) := by decide +kernel
theorem dX4_fieldOf_23 : decode cX4_fieldOf 23 = .ok (.if_icmp .ne 12, 3) := by decide +kernel
theorem dX4_fieldOf_26 : decode cX4_fieldOf 26 = .ok (.aload_n 0, 1) := by decide +kernel
theorem dX4_fieldOf_27 : decode cX4_fieldOf 27 = .ok (.getfield 80, 3) := by decide +kernel
theorem dX4_fieldOf_30 : decode cX4_fieldOf 30 = .ok (.iload_n 1, 1) := by decide +kernel
theorem dX4_fieldOf_31 : decode cX4_fieldOf 31 = .ok (.laload, 1) := by decide +kernel
theorem dX4_fieldOf_32 : decode cX4_fieldOf 32 = .ok (.goto 10, 3) := by decide +kernel
theorem dX4_fieldOf_35 : decode cX4_fieldOf 35 = .ok (.aload_n 0, 1) := by decide +kernel
theorem dX4_fieldOf_36 : decode cX4_fieldOf 36 = .ok (.getfield 114, 3) := by decide +kernel
theorem dX4_fieldOf_39 : decode cX4_fieldOf 39 = .ok (.iload_n 1, 1) := by decide +kernel
theorem dX4_fieldOf_40 : decode cX4_fieldOf 40 = .ok (.iaload, 1) := by decide +kernel
theorem dX4_fieldOf_41 : decode cX4_fieldOf 41 = .ok (.i2l, 1) := by decide +kernel
theorem dX4_fieldOf_42 : decode cX4_fieldOf 42 = .ok (.lreturn, 1) := by decide +kernel
theorem dX4_isSameList_0 : decode cX4_isSameList 0 = .ok (.iload_n 1, 1) := by decide +kernel
theorem dX4_isSameList_1 : decode cX4_isSameList 1 = .ok (.iconst (-1), 1) := by decide +kernel
theorem dX4_isSameList_2 : decode cX4_isSameList 2 = .ok (.if_icmp .eq 8, 3) := by decide +kernel
theorem dX4_isSameList_5 : decode cX4_isSameList 5 = .ok (.iload_n 3, 1) := by decide +kernel
theorem dX4_isSameList_6 : decode cX4_isSameList 6 = .ok (.iconst (-1), 1) := by decide +kernel
theorem dX4_isSameList_7 : decode cX4_isSameList 7 = .ok (.if_icmp .ne 5, 3) := by decide +kernel
theorem dX4_isSameList_10 : decode cX4_isSameList 10 = .ok (.iconst 0, 1) := by decide +kernel
theorem dX4_isSameList_11 : decode cX4_isSameList 11 = .ok (.ireturn, 1) := by decide +kernel
theorem dX4_isSameList_12 : decode cX4_isSameList 12 = .ok (.aload_n 0, 1) := by decide +kernel
theorem dX4_isSameList_13 : decode cX4_isSameList 13 = .ok (.iload_n 1, 1) := by decide +kernel
theorem dX4_isSameList_14 : decode cX4_isSameList 14 = .ok (.iload_n 1, 1) := by decide +kernel
theorem dX4_isSameList_15 : decode cX4_isSameList 15 = .ok (.invokevirtual 117, 3) := by decide +kernel
theorem dX4_isSameList_18 : decode cX4_isSameList 18 = .ok (.istore 4, 2) := by decide +kernel
theorem dX4_isSameList_20 : decode cX4_isSameList 20 = .ok (.aload_n 2, 1) := by decide +kernel
theorem dX4_isSameList_21 : decode cX4_isSameList 21 = .ok (.iload_n 3, 1) := by decide +kernel
theorem dX4_isSameList_22 : decode cX4_isSameList 22 = .ok (.iload_n 3, 1) := by decide +kernel
theorem dX4_isSameList_23 : decode cX4_isSameList 23 = .ok (.invokevirtual 117, 3) := by decide +kernel
theorem dX4_isSameList_26 : decode cX4_isSameList 26 = .ok (.istore 5, 2) := by decide +kernel
theorem dX4_isSameList_28 : decode cX4_isSameList 28 = .ok (.iconst 0, 1) := by decide +kernel
theorem dX4_isSameList_29 : decode cX4_isSameList 29 = .ok (.istore 6, 2) := by decide +kernel
theorem dX4_isSameList_31 : decode cX4_isSameList 31 = .ok (.iload 6, 2) := by decide +kernel
theorem dX4_isSameList_33 : decode cX4_isSameList 33 = .ok (.bipush 30, 2) := by decide +kernel
theorem dX4_isSameList_35 : decode cX4_isSameList 35 = .ok (.if_icmp .ge 66, 3) := by decide +kernel
theorem dX4_isSameList_38 : decode cX4_isSameList 38 = .ok (.iload 4, 2) := by decide +kernel
theorem dX4_isSameList_40 : decode cX4_isSameList 40 = .ok (.aload_n 0, 1) := by decide +kernel
theorem dX4_isSameList_41 : decode cX4_isSameList 41 = .ok (.iload_n 1, 1) := by decide +kernel
theorem dX4_isSameList_42 : decode cX4_isSameList 42 = .ok (.invokevirtual 95, 3) := by decide +kernel
theorem dX4_isSameList_45 : decode cX4_isSameList 45 = .ok (.if_icmp .ge 56, 3) := by decide +kernel
theorem dX4_isSameList_48 : decode cX4_isSameList 48 = .ok (.iload 5, 2) := by decide +kernel
theorem dX4_isSameList_50 : decode cX4_isSameList 50 = .ok (.aload_n 2, 1) := by decide +kernel
theorem dX4_isSameList_51 : decode cX4_isSameList 51 = .ok (.iload_n 3, 1) := by decide +kernel
theorem dX4_isSameList_52 : decode cX4_isSameList 52 = .ok (.invokevirtual 95, 3) := by decide +kernel
theorem dX4_isSameList_55 : decode cX4_isSameList 55 = .ok (.if_icmp .ge 46, 3) := by decide +kernel
theorem dX4_isSameList_58 : decode cX4_isSameList 58 = .ok (.aload_n 0, 1) := by decide +kernel
theorem dX4_isSameList_59 : decode cX4_isSameList 59 = .ok (.getfield 44, 3) := by decide +kernel
theorem dX4_isSameList_62 : decode cX4_isSameList 62 = .ok (.iload 4, 2) := by decide +kernel
theorem dX4_isSameList_64 : decode cX4_isSameList 64 = .ok (.iaload, 1) := by decide +kernel
theorem dX4_isSameList_65 : decode cX4_isSameList 65 = .ok (.aload_n 2, 1) := by decide +kernel
theorem dX4_isSameList_66 : decode cX4_isSameList 66 = .ok (.getfield 44, 3) := by decide +kernel
theorem dX4_isSameList_69 : decode cX4_isSameList 69 = .ok (.iload 5, 2) := by decide +kernel
theorem dX4_isSameList_71 : decode cX4_isSameList 71 = .ok (.iaload, 1) := by decide +kernel
theorem dX4_isSameList_72 : decode cX4_isSameList 72 = .ok (.if_icmp .eq 5, 3) := by decide +kernel
theorem dX4_isSameList_75 : decode cX4_isSameList 75 = .ok (.iconst 0, 1) := by decide +kernel
theorem dX4_isSameList_76 : decode cX4_isSameList 76 = .ok (.ireturn, 1) := by decide +kernel
theorem dX4_isSameList_77 : decode cX4_isSameList 77 = .ok (.aload_n 0, 1) := by decide +kernel
theorem dX4_isSameList_78 : decode cX4_isSameList 78 = .ok (.iload_n 1, 1) := by decide +kernel
theorem dX4_isSameList_79 : decode cX4_isSameList 79 = .ok (.iload 4, 2) := by decide +kernel
theorem dX4_isSameList_81 : decode cX4_isSameList 81 = .ok (.invokevirtual 117, 3) := by decide +kernel
theorem dX4_isSameList_84 : decode cX4_isSameList 84 = .ok (.istore 4, 2) := by decide +kernel
theorem dX4_isSameList_86 : decode cX4_isSameList 86 = .ok (.aload_n 2, 1) := by decide +kernel
theorem dX4_isSameList_87 : decode cX4_isSameList 87 = .ok (.iload_n 3, 1) := by decide +kernel
theorem dX4_isSameList_88 : decode cX4_isSameList 88 = .ok (.iload 5, 2) := by decide +kernel
theorem dX4_isSameList_90 : decode cX4_isSameList 90 = .ok (.invokevirtual 117, 3) := by decide +kernel
theorem dX4_isSameList_93 : decode cX4_isSameList 93 = .ok (.istore 5, 2) := by decide +kernel
theorem dX4_isSameList_95 : decode cX4_isSameList 95 = .ok (.iinc 6 1, 3) := by decide +kernel
theorem dX4_isSameList_98 : decode cX4_isSameList 98 = .ok (.goto (-67), 3) := by decide +kernel
theorem dX4_isSameList_101 : decode cX4_isSameList 101 = .ok (.iload 4, 2) := by decide +kernel
theorem dX4_isSameList_103 : decode cX4_isSameList 103 = .ok (.aload_n 0, 1) := by decide +kernel
theorem dX4_isSameList_104 : decode cX4_isSameList 104 = .ok (.iload_n 1, 1) := by decide +kernel
theorem dX4_isSameList_105 : decode cX4_isSameList 105 = .ok (.invokevirtual 95, 3) := by decide +kernel
theorem dX4_isSameList_108 : decode cX4_isSameList 108 = .ok (.if_icmp .ne 17, 3) := by decide +kernel
theorem dX4_isSameList_111 : decode cX4_isSameList 111 = .ok (.iload 5, 2) := by decide +kernel
theorem dX4_isSameList_113 : decode cX4_isSameList 113 = .ok (.aload_n 2, 1) := by decide +kernel
theorem dX4_isSameList_114 : decode cX4_isSameList 114 = .ok (.iload_n 3, 1) := by decide +kernel
theorem dX4_isSameList_115 : decode cX4_isSameList 115 = .ok (.invokevirtual 95, 3) := by decide +kernel
theorem dX4_isSameList_118 : decode cX4_isSameList 118 = .ok (.if_icmp .ne 7, 3) := by decide +kernel
theorem dX4_isSameList_121 : decode cX4_isSameList 121 = .ok (.iconst 1, 1) := by decide +kernel
theorem dX4_isSameList_122 : decode cX4_isSameList 122 = .ok (.goto 4, 3) := by decide +kernel
theorem dX4_isSameList_125 : decode cX4_isSameList 125 = .ok (.iconst 0, 1) := by decide +kernel
theorem dX4_isSameList_126 : decode cX4_isSameList 126 = .ok (.ireturn, 1) := by decide +kernel
theorem dX4_tellClashes_0 : decode cX4_tellClashes 0 = .ok (.aload_n 0, 1) := by decide +kernel
theorem dX4_tellClashes_1 : decode cX4_tellClashes 1 = .ok (.invokevirtual 121, 3) := by decide +kernel
theorem dX4_tellClashes_4 : decode cX4_tellClashes 4 = .ok (.istore_n 1, 1) := by decide +kernel
theorem dX4_tellClashes_5 : decode cX4_tellClashes 5 = .ok (.iconst 0, 1) := by decide +kernel
theorem dX4_tellClashes_6 : decode cX4_tellClashes 6 = .ok (.istore_n 2, 1) := by decide +kernel
theorem dX4_tellClashes_7 : decode cX4_tellClashes 7 = .ok (.iload_n 2, 1) := by decide +kernel
theorem dX4_tellClashes_8 : decode cX4_tellClashes 8 = .ok (.iload_n 1, 1) := by decide +kernel
theorem dX4_tellClashes_9 : decode cX4_tellClashes 9 = .ok (.if_icmp .ge 19, 3) := by decide +kernel
theorem dX4_tellClashes_12 : decode cX4_tellClashes 12 = .ok (.aload_n 0, 1) := by decide +kernel
theorem dX4_tellClashes_13 : decode cX4_tellClashes 13 = .ok (.aload_n 0, 1) := by decide +kernel
theorem dX4_tellClashes_14 : decode cX4_tellClashes 14 = .ok (.getfield 34, 3) := by decide +kernel
theorem dX4_tellClashes_17 : decode cX4_tellClashes 17 = .ok (.iload_n 2, 1) := by decide +kernel
theorem dX4_tellClashes_18 : decode cX4_tellClashes 18 = .ok (.iaload, 1) := by decide +kernel
theorem dX4_tellClashes_19 : decode cX4_tellClashes 19 = .ok (.invokevirtual 125, 3) := by decide +kernel
theorem dX4_tellClashes_22 : decode cX4_tellClashes 22 = .ok (.iinc 2 1, 3) := by decide +kernel
theorem dX4_tellClashes_25 : decode cX4_tellClashes 25 = .ok (.goto (-18), 3) := by decide +kernel
theorem dX4_tellClashes_28 : decode cX4_tellClashes 28 = .ok (.return_, 1) := by decide +kernel
theorem dX4_gatherCommon_0 : decode cX4_gatherCommon 0 = .ok (.iconst 0, 1) := by decide +kernel
theorem dX4_gatherCommon_1 : decode cX4_gatherCommon 1 = .ok (.istore_n 1, 1) := by decide +kernel
theorem dX4_gatherCommon_2 : decode cX4_gatherCommon 2 = .ok (.iconst 0, 1) := by decide +kernel
theorem dX4_gatherCommon_3 : decode cX4_gatherCommon 3 = .ok (.istore_n 2, 1) := by decide +kernel
theorem dX4_gatherCommon_4 : decode cX4_gatherCommon 4 = .ok (.iload_n 2, 1) := by decide +kernel
theorem dX4_gatherCommon_5 : decode cX4_gatherCommon 5 = .ok (.aload_n 0, 1) := by decide +kernel
theorem dX4_gatherCommon_6 : decode cX4_gatherCommon 6 = .ok (.getfield 28, 3) := by decide +kernel
theorem dX4_gatherCommon_9 : decode cX4_gatherCommon 9 = .ok (.getfield 41, 3) := by decide +kernel
theorem dX4_gatherCommon_12 : decode cX4_gatherCommon 12 = .ok (.if_icmp .ge 85, 3) := by decide +kernel
theorem dX4_gatherCommon_15 : decode cX4_gatherCommon 15 = .ok (.aload_n 0, 1) := by decide +kernel
theorem dX4_gatherCommon_16 : decode cX4_gatherCommon 16 = .ok (.getfield 28, 3) := by decide +kernel
theorem dX4_gatherCommon_19 : decode cX4_gatherCommon 19 = .ok (.getfield 44, 3) := by decide +kernel
theorem dX4_gatherCommon_22 : decode cX4_gatherCommon 22 = .ok (.iload_n 2, 1) := by decide +kernel
theorem dX4_gatherCommon_23 : decode cX4_gatherCommon 23 = .ok (.iaload, 1) := by decide +kernel
theorem dX4_gatherCommon_24 : decode cX4_gatherCommon 24 = .ok (.istore_n 3, 1) := by decide +kernel
theorem dX4_gatherCommon_25 : decode cX4_gatherCommon 25 = .ok (.aload_n 0, 1) := by decide +kernel
theorem dX4_gatherCommon_26 : decode cX4_gatherCommon 26 = .ok (.getfield 31, 3) := by decide +kernel
theorem dX4_gatherCommon_29 : decode cX4_gatherCommon 29 = .ok (.iload_n 3, 1) := by decide +kernel
theorem dX4_gatherCommon_30 : decode cX4_gatherCommon 30 = .ok (.invokevirtual 65, 3) := by decide +kernel
theorem dX4_gatherCommon_33 : decode cX4_gatherCommon 33 = .ok (.iconst (-1), 1) := by decide +kernel
theorem dX4_gatherCommon_34 : decode cX4_gatherCommon 34 = .ok (.if_icmp .eq 57, 3) := by decide +kernel
theorem dX4_gatherCommon_37 : decode cX4_gatherCommon 37 = .ok (.iload_n 1, 1) := by decide +kernel
theorem dX4_gatherCommon_38 : decode cX4_gatherCommon 38 = .ok (.istore 4, 2) := by decide +kernel
theorem dX4_gatherCommon_40 : decode cX4_gatherCommon 40 = .ok (.iload 4, 2) := by decide +kernel
theorem dX4_gatherCommon_42 : decode cX4_gatherCommon 42 = .ok (.ifCond .le 38, 3) := by decide +kernel
theorem dX4_gatherCommon_45 : decode cX4_gatherCommon 45 = .ok (.aload_n 0, 1) := by decide +kernel
theorem dX4_gatherCommon_46 : decode cX4_gatherCommon 46 = .ok (.getfield 34, 3) := by decide +kernel
theorem dX4_gatherCommon_49 : decode cX4_gatherCommon 49 = .ok (.iload 4, 2) := by decide +kernel
theorem dX4_gatherCommon_51 : decode cX4_gatherCommon 51 = .ok (.iconst 1, 1) := by decide +kernel
theorem dX4_gatherCommon_52 : decode cX4_gatherCommon 52 = .ok (.isub, 1) := by decide +kernel
theorem dX4_gatherCommon_53 : decode cX4_gatherCommon 53 = .ok (.iaload, 1) := by decide +kernel
theorem dX4_gatherCommon_54 : decode cX4_gatherCommon 54 = .ok (.iload_n 3, 1) := by decide +kernel
theorem dX4_gatherCommon_55 : decode cX4_gatherCommon 55 = .ok (.if_icmp .le 25, 3) := by decide +kernel
theorem dX4_gatherCommon_58 : decode cX4_gatherCommon 58 = .ok (.aload_n 0, 1) := by decide +kernel
theorem dX4_gatherCommon_59 : decode cX4_gatherCommon 59 = .ok (.getfield 34, 3) := by decide +kernel
theorem dX4_gatherCommon_62 : decode cX4_gatherCommon 62 = .ok (.iload 4, 2) := by decide +kernel
theorem dX4_gatherCommon_64 : decode cX4_gatherCommon 64 = .ok (.aload_n 0, 1) := by decide +kernel
theorem dX4_gatherCommon_65 : decode cX4_gatherCommon 65 = .ok (.getfield 34, 3) := by decide +kernel
theorem dX4_gatherCommon_68 : decode cX4_gatherCommon 68 = .ok (.iload 4, 2) := by decide +kernel
theorem dX4_gatherCommon_70 : decode cX4_gatherCommon 70 = .ok (.iconst 1, 1) := by decide +kernel
theorem dX4_gatherCommon_71 : decode cX4_gatherCommon 71 = .ok (.isub, 1) := by decide +kernel
theorem dX4_gatherCommon_72 : decode cX4_gatherCommon 72 = .ok (.iaload, 1) := by decide +kernel
theorem dX4_gatherCommon_73 : decode cX4_gatherCommon 73 = .ok (.iastore, 1) := by decide +kernel
theorem dX4_gatherCommon_74 : decode cX4_gatherCommon 74 = .ok (.iinc 4 (-1), 3) := by decide +kernel
theorem dX4_gatherCommon_77 : decode cX4_gatherCommon 77 = .ok (.goto (-37), 3) := by decide +kernel
theorem dX4_gatherCommon_80 : decode cX4_gatherCommon 80 = .ok (.aload_n 0, 1) := by decide +kernel
theorem dX4_gatherCommon_81 : decode cX4_gatherCommon 81 = .ok (.getfield 34, 3) := by decide +kernel
theorem dX4_gatherCommon_84 : decode cX4_gatherCommon 84 = .ok (.iload 4, 2) := by decide +kernel
theorem dX4_gatherCommon_86 : decode cX4_gatherCommon 86 = .ok (.iload_n 3, 1) := by decide +kernel
theorem dX4_gatherCommon_87 : decode cX4_gatherCommon 87 = .ok (.iastore, 1) := by decide +kernel
theorem dX4_gatherCommon_88 : decode cX4_gatherCommon 88 = .ok (.iinc 1 1, 3) := by decide +kernel
theorem dX4_gatherCommon_91 : decode cX4_gatherCommon 91 = .ok (.iinc 2 1, 3) := by decide +kernel
theorem dX4_gatherCommon_94 : decode cX4_gatherCommon 94 = .ok (.goto (-90), 3) := by decide +kernel
theorem dX4_gatherCommon_97 : decode cX4_gatherCommon 97 = .ok (.iload_n 1, 1) := by decide +kernel
theorem dX4_gatherCommon_98 : decode cX4_gatherCommon 98 = .ok (.ireturn, 1) := by decide +kernel
theorem dX4_tellClashesOf_0 : decode cX4_tellClashesOf 0 = .ok (.aload_n 0, 1) := by decide +kernel
theorem dX4_tellClashesOf_1 : decode cX4_tellClashesOf 1 = .ok (.getfield 25, 3) := by decide +kernel
theorem dX4_tellClashesOf_4 : decode cX4_tellClashesOf 4 = .ok (.iload_n 1, 1) := by decide +kernel
theorem dX4_tellClashesOf_5 : decode cX4_tellClashesOf 5 = .ok (.invokevirtual 65, 3) := by decide +kernel
theorem dX4_tellClashesOf_8 : decode cX4_tellClashesOf 8 = .ok (.istore_n 2, 1) := by decide +kernel
theorem dX4_tellClashesOf_9 : decode cX4_tellClashesOf 9 = .ok (.aload_n 0, 1) := by decide +kernel
theorem dX4_tellClashesOf_10 : decode cX4_tellClashesOf 10 = .ok (.getfield 28, 3) := by decide +kernel
theorem dX4_tellClashesOf_13 : decode cX4_tellClashesOf 13 = .ok (.iload_n 1, 1) := by decide +kernel
theorem dX4_tellClashesOf_14 : decode cX4_tellClashesOf 14 = .ok (.invokevirtual 65, 3) := by decide +kernel
theorem dX4_tellClashesOf_17 : decode cX4_tellClashesOf 17 = .ok (.istore_n 3, 1) := by decide +kernel
theorem dX4_tellClashesOf_18 : decode cX4_tellClashesOf 18 = .ok (.aload_n 0, 1) := by decide +kernel
theorem dX4_tellClashesOf_19 : decode cX4_tellClashesOf 19 = .ok (.getfield 31, 3) := by decide +kernel
theorem dX4_tellClashesOf_22 : decode cX4_tellClashesOf 22 = .ok (.iload_n 1, 1) := by decide +kernel
theorem dX4_tellClashesOf_23 : decode cX4_tellClashesOf 23 = .ok (.invokevirtual 65, 3) := by decide +kernel
theorem dX4_tellClashesOf_26 : decode cX4_tellClashesOf 26 = .ok (.istore 4, 2) := by decide +kernel
theorem dX4_tellClashesOf_28 : decode cX4_tellClashesOf 28 = .ok (.iconst 0, 1) := by decide +kernel
theorem dX4_tellClashesOf_29 : decode cX4_tellClashesOf 29 = .ok (.istore 5, 2) := by decide +kernel
theorem dX4_tellClashesOf_31 : decode cX4_tellClashesOf 31 = .ok (.iload 5, 2) := by decide +kernel
theorem dX4_tellClashesOf_33 : decode cX4_tellClashesOf 33 = .ok (.iconst 2, 1) := by decide +kernel
theorem dX4_tellClashesOf_34 : decode cX4_tellClashesOf 34 = .ok (.if_icmp .gt 77, 3) := by decide +kernel
theorem dX4_tellClashesOf_37 : decode cX4_tellClashesOf 37 = .ok (.aload_n 0, 1) := by decide +kernel
theorem dX4_tellClashesOf_38 : decode cX4_tellClashesOf 38 = .ok (.getfield 25, 3) := by decide +kernel
theorem dX4_tellClashesOf_41 : decode cX4_tellClashesOf 41 = .ok (.iload_n 2, 1) := by decide +kernel
theorem dX4_tellClashesOf_42 : decode cX4_tellClashesOf 42 = .ok (.iload 5, 2) := by decide +kernel
theorem dX4_tellClashesOf_44 : decode cX4_tellClashesOf 44 = .ok (.invokestatic 101, 3) := by decide +kernel
theorem dX4_tellClashesOf_47 : decode cX4_tellClashesOf 47 = .ok (.lstore 6, 2) := by decide +kernel
theorem dX4_tellClashesOf_49 : decode cX4_tellClashesOf 49 = .ok (.aload_n 0, 1) := by decide +kernel
theorem dX4_tellClashesOf_50 : decode cX4_tellClashesOf 50 = .ok (.getfield 28, 3) := by decide +kernel
theorem dX4_tellClashesOf_53 : decode cX4_tellClashesOf 53 = .ok (.iload_n 3, 1) := by decide +kernel
theorem dX4_tellClashesOf_54 : decode cX4_tellClashesOf 54 = .ok (.iload 5, 2) := by decide +kernel
theorem dX4_tellClashesOf_56 : decode cX4_tellClashesOf 56 = .ok (.invokestatic 101, 3) := by decide +kernel
theorem dX4_tellClashesOf_59 : decode cX4_tellClashesOf 59 = .ok (.lstore 8, 2) := by decide +kernel
theorem dX4_tellClashesOf_61 : decode cX4_tellClashesOf 61 = .ok (.aload_n 0, 1) := by decide +kernel
theorem dX4_tellClashesOf_62 : decode cX4_tellClashesOf 62 = .ok (.getfield 31, 3) := by decide +kernel
theorem dX4_tellClashesOf_65 : decode cX4_tellClashesOf 65 = .ok (.iload 4, 2) := by decide +kernel
theorem dX4_tellClashesOf_67 : decode cX4_tellClashesOf 67 = .ok (.iload 5, 2) := by decide +kernel
theorem dX4_tellClashesOf_69 : decode cX4_tellClashesOf 69 = .ok (.invokestatic 101, 3) := by decide +kernel
theorem dX4_tellClashesOf_72 : decode cX4_tellClashesOf 72 = .ok (.lstore 10, 2) := by decide +kernel
theorem dX4_tellClashesOf_74 : decode cX4_tellClashesOf 74 = .ok (.lload 8, 2) := by decide +kernel
theorem dX4_tellClashesOf_76 : decode cX4_tellClashesOf 76 = .ok (.lload 10, 2) := by decide +kernel
theorem dX4_tellClashesOf_78 : decode cX4_tellClashesOf 78 = .ok (.lcmp, 1) := by decide +kernel
theorem dX4_tellClashesOf_79 : decode cX4_tellClashesOf 79 = .ok (.ifCond .eq 26, 3) := by decide +kernel
theorem dX4_tellClashesOf_82 : decode cX4_tellClashesOf 82 = .ok (.lload 8, 2) := by decide +kernel
theorem dX4_tellClashesOf_84 : decode cX4_tellClashesOf 84 = .ok (.lload 6, 2) := by decide +kernel
theorem dX4_tellClashesOf_86 : decode cX4_tellClashesOf 86 = .ok (.lcmp, 1) := by decide +kernel
theorem dX4_tellClashesOf_87 : decode cX4_tellClashesOf 87 = .ok (.ifCond .eq 18, 3) := by decide +kernel
theorem dX4_tellClashesOf_90 : decode cX4_tellClashesOf 90 = .ok (.lload 10, 2) := by decide +kernel
theorem dX4_tellClashesOf_92 : decode cX4_tellClashesOf 92 = .ok (.lload 6, 2) := by decide +kernel
theorem dX4_tellClashesOf_94 : decode cX4_tellClashesOf 94 = .ok (.lcmp, 1) := by decide +kernel
theorem dX4_tellClashesOf_95 : decode cX4_tellClashesOf 95 = .ok (.ifCond .eq 10, 3) := by decide +kernel
theorem dX4_tellClashesOf_98 : decode cX4_tellClashesOf 98 = .ok (.aload_n 0, 1) := by decide +kernel
theorem dX4_tellClashesOf_99 : decode cX4_tellClashesOf 99 = .ok (.iload_n 1, 1) := by decide +kernel
theorem dX4_tellClashesOf_100 : decode cX4_tellClashesOf 100 = .ok (.iload 5, 2) := by decide +kernel
theorem dX4_tellClashesOf_102 : decode cX4_tellClashesOf 102 = .ok (.invokevirtual 47, 3) := by decide +kernel
theorem dX4_tellClashesOf_105 : decode cX4_tellClashesOf 105 = .ok (.iinc 5 1, 3) := by decide +kernel
theorem dX4_tellClashesOf_108 : decode cX4_tellClashesOf 108 = .ok (.goto (-77), 3) := by decide +kernel
theorem dX4_tellClashesOf_111 : decode cX4_tellClashesOf 111 = .ok (.aload_n 0, 1) := by decide +kernel
theorem dX4_tellClashesOf_112 : decode cX4_tellClashesOf 112 = .ok (.getfield 28, 3) := by decide +kernel
theorem dX4_tellClashesOf_115 : decode cX4_tellClashesOf 115 = .ok (.iload_n 3, 1) := by decide +kernel
theorem dX4_tellClashesOf_116 : decode cX4_tellClashesOf 116 = .ok (.aload_n 0, 1) := by decide +kernel
theorem dX4_tellClashesOf_117 : decode cX4_tellClashesOf 117 = .ok (.getfield 31, 3) := by decide +kernel
theorem dX4_tellClashesOf_120 : decode cX4_tellClashesOf 120 = .ok (.iload 4, 2) := by decide +kernel
theorem dX4_tellClashesOf_122 : decode cX4_tellClashesOf 122 = .ok (.invokestatic 105, 3) := by decide +kernel
theorem dX4_tellClashesOf_125 : decode cX4_tellClashesOf 125 = .ok (.ifCond .ne 42, 3) := by decide +kernel
theorem dX4_tellClashesOf_128 : decode cX4_tellClashesOf 128 = .ok (.aload_n 0, 1) := by decide +kernel
theorem dX4_tellClashesOf_129 : decode cX4_tellClashesOf 129 = .ok (.getfield 28, 3) := by decide +kernel
theorem dX4_tellClashesOf_132 : decode cX4_tellClashesOf 132 = .ok (.iload_n 3, 1) := by decide +kernel
theorem dX4_tellClashesOf_133 : decode cX4_tellClashesOf 133 = .ok (.aload_n 0, 1) := by decide +kernel
theorem dX4_tellClashesOf_134 : decode cX4_tellClashesOf 134 = .ok (.getfield 25, 3) := by decide +kernel
theorem dX4_tellClashesOf_137 : decode cX4_tellClashesOf 137 = .ok (.iload_n 2, 1) := by decide +kernel
theorem dX4_tellClashesOf_138 : decode cX4_tellClashesOf 138 = .ok (.invokestatic 105, 3) := by decide +kernel
theorem dX4_tellClashesOf_141 : decode cX4_tellClashesOf 141 = .ok (.ifCond .ne 26, 3) := by decide +kernel
theorem dX4_tellClashesOf_144 : decode cX4_tellClashesOf 144 = .ok (.aload_n 0, 1) := by decide +kernel
theorem dX4_tellClashesOf_145 : decode cX4_tellClashesOf 145 = .ok (.getfield 31, 3) := by decide +kernel
theorem dX4_tellClashesOf_148 : decode cX4_tellClashesOf 148 = .ok (.iload 4, 2) := by decide +kernel
theorem dX4_tellClashesOf_150 : decode cX4_tellClashesOf 150 = .ok (.aload_n 0, 1) := by decide +kernel
theorem dX4_tellClashesOf_151 : decode cX4_tellClashesOf 151 = .ok (.getfield 25, 3) := by decide +kernel
theorem dX4_tellClashesOf_154 : decode cX4_tellClashesOf 154 = .ok (.iload_n 2, 1) := by decide +kernel
theorem dX4_tellClashesOf_155 : decode cX4_tellClashesOf 155 = .ok (.invokestatic 105, 3) := by decide +kernel
theorem dX4_tellClashesOf_158 : decode cX4_tellClashesOf 158 = .ok (.ifCond .ne 9, 3) := by decide +kernel
theorem dX4_tellClashesOf_161 : decode cX4_tellClashesOf 161 = .ok (.aload_n 0, 1) := by decide +kernel
theorem dX4_tellClashesOf_162 : decode cX4_tellClashesOf 162 = .ok (.iload_n 1, 1) := by decide +kernel
theorem dX4_tellClashesOf_163 : decode cX4_tellClashesOf 163 = .ok (.iconst 3, 1) := by decide +kernel
theorem dX4_tellClashesOf_164 : decode cX4_tellClashesOf 164 = .ok (.invokevirtual 47, 3) := by decide +kernel
theorem dX4_tellClashesOf_167 : decode cX4_tellClashesOf 167 = .ok (.return_, 1) := by decide +kernel
theorem dX4_addClash_0 : decode cX4_addClash 0 = .ok (.aload_n 0, 1) := by decide +kernel
theorem dX4_addClash_1 : decode cX4_addClash 1 = .ok (.getfield 37, 3) := by decide +kernel
theorem dX4_addClash_4 : decode cX4_addClash 4 = .ok (.bipush 121, 2) := by decide +kernel
theorem dX4_addClash_6 : decode cX4_addClash 6 = .ok (.if_icmp .ge 33, 3) := by decide +kernel
theorem dX4_addClash_9 : decode cX4_addClash 9 = .ok (.aload_n 0, 1) := by decide +kernel
theorem dX4_addClash_10 : decode cX4_addClash 10 = .ok (.getfield 18, 3) := by decide +kernel
theorem dX4_addClash_13 : decode cX4_addClash 13 = .ok (.aload_n 0, 1) := by decide +kernel
theorem dX4_addClash_14 : decode cX4_addClash 14 = .ok (.getfield 37, 3) := by decide +kernel
theorem dX4_addClash_17 : decode cX4_addClash 17 = .ok (.iload_n 1, 1) := by decide +kernel
theorem dX4_addClash_18 : decode cX4_addClash 18 = .ok (.iastore, 1) := by decide +kernel
theorem dX4_addClash_19 : decode cX4_addClash 19 = .ok (.aload_n 0, 1) := by decide +kernel
theorem dX4_addClash_20 : decode cX4_addClash 20 = .ok (.getfield 22, 3) := by decide +kernel
theorem dX4_addClash_23 : decode cX4_addClash 23 = .ok (.aload_n 0, 1) := by decide +kernel
theorem dX4_addClash_24 : decode cX4_addClash 24 = .ok (.getfield 37, 3) := by decide +kernel
theorem dX4_addClash_27 : decode cX4_addClash 27 = .ok (.iload_n 2, 1) := by decide +kernel
theorem dX4_addClash_28 : decode cX4_addClash 28 = .ok (.iastore, 1) := by decide +kernel
theorem dX4_addClash_29 : decode cX4_addClash 29 = .ok (.aload_n 0, 1) := by decide +kernel
theorem dX4_addClash_30 : decode cX4_addClash 30 = .ok (.dup, 1) := by decide +kernel
theorem dX4_addClash_31 : decode cX4_addClash 31 = .ok (.getfield 37, 3) := by decide +kernel
theorem dX4_addClash_34 : decode cX4_addClash 34 = .ok (.iconst 1, 1) := by decide +kernel
theorem dX4_addClash_35 : decode cX4_addClash 35 = .ok (.iadd, 1) := by decide +kernel
theorem dX4_addClash_36 : decode cX4_addClash 36 = .ok (.putfield 37, 3) := by decide +kernel
theorem dX4_addClash_39 : decode cX4_addClash 39 = .ok (.return_, 1) := by decide +kernel
theorem dX5_init_0 : decode cX5_init 0 = .ok (.aload_n 0, 1) := by decide +kernel
theorem dX5_init_1 : decode cX5_init 1 = .ok (.invokespecial 3, 3) := by decide +kernel
theorem dX5_init_4 : decode cX5_init 4 = .ok (.aload_n 0, 1) := by decide +kernel
theorem dX5_init_5 : decode cX5_init 5 = .ok (.new 9, 3) := by decide +kernel
theorem dX5_init_8 : decode cX5_init 8 = .ok (.dup, 1) := by decide +kernel
theorem dX5_init_9 : decode cX5_init 9 = .ok (.invokespecial 11, 3) := by decide +kernel
theorem dX5_init_12 : decode cX5_init 12 = .ok (.putfield 12, 3) := by decide +kernel
theorem dX5_init_15 : decode cX5_init 15 = .ok (.aload_n 0, 1) := by decide +kernel
theorem dX5_init_16 : decode cX5_init 16 = .ok (.new 18, 3) := by decide +kernel
theorem dX5_init_19 : decode cX5_init 19 = .ok (.dup, 1) := by decide +kernel
theorem dX5_init_20 : decode cX5_init 20 = .ok (.invokespecial 20, 3) := by decide +kernel
theorem dX5_init_23 : decode cX5_init 23 = .ok (.putfield 21, 3) := by decide +kernel
theorem dX5_init_26 : decode cX5_init 26 = .ok (.aload_n 0, 1) := by decide +kernel
theorem dX5_init_27 : decode cX5_init 27 = .ok (.bipush 12, 2) := by decide +kernel
theorem dX5_init_29 : decode cX5_init 29 = .ok (.newarray .int, 2) := by decide +kernel
theorem dX5_init_31 : decode cX5_init 31 = .ok (.putfield 25, 3) := by decide +kernel
theorem dX5_init_34 : decode cX5_init 34 = .ok (.return_, 1) := by decide +kernel
theorem dX5_parse_0 : decode cX5_parse 0 = .ok (.aload_n 0, 1) := by decide +kernel
theorem dX5_parse_1 : decode cX5_parse 1 = .ok (.iconst 0, 1) := by decide +kernel
theorem dX5_parse_2 : decode cX5_parse 2 = .ok (.putfield 29, 3) := by decide +kernel
theorem dX5_parse_5 : decode cX5_parse 5 = .ok (.aload_n 0, 1) := by decide +kernel
theorem dX5_parse_6 : decode cX5_parse 6 = .ok (.getfield 21, 3) := by decide +kernel
theorem dX5_parse_9 : decode cX5_parse 9 = .ok (.iconst 0, 1) := by decide +kernel
theorem dX5_parse_10 : decode cX5_parse 10 = .ok (.putfield 33, 3) := by decide +kernel
theorem dX5_parse_13 : decode cX5_parse 13 = .ok (.iconst 0, 1) := by decide +kernel
theorem dX5_parse_14 : decode cX5_parse 14 = .ok (.istore_n 1, 1) := by decide +kernel
theorem dX5_parse_15 : decode cX5_parse 15 = .ok (.iconst 0, 1) := by decide +kernel
theorem dX5_parse_16 : decode cX5_parse 16 = .ok (.istore_n 2, 1) := by decide +kernel
theorem dX5_parse_17 : decode cX5_parse 17 = .ok (.iload_n 2, 1) := by decide +kernel
theorem dX5_parse_18 : decode cX5_parse 18 = .ok (.bipush 30, 2) := by decide +kernel
theorem dX5_parse_20 : decode cX5_parse 20 = .ok (.if_icmp .gt 32, 3) := by decide +kernel
theorem dX5_parse_23 : decode cX5_parse 23 = .ok (.iload_n 1, 1) := by decide +kernel
theorem dX5_parse_24 : decode cX5_parse 24 = .ok (.ifCond .lt 28, 3) := by decide +kernel
theorem dX5_parse_27 : decode cX5_parse 27 = .ok (.aload_n 0, 1) := by decide +kernel
theorem dX5_parse_28 : decode cX5_parse 28 = .ok (.iload_n 1, 1) := by decide +kernel
theorem dX5_parse_29 : decode cX5_parse 29 = .ok (.invokevirtual 36, 3) := by decide +kernel
theorem dX5_parse_32 : decode cX5_parse 32 = .ok (.ifCond .eq 11, 3) := by decide +kernel
theorem dX5_parse_35 : decode cX5_parse 35 = .ok (.aload_n 0, 1) := by decide +kernel
theorem dX5_parse_36 : decode cX5_parse 36 = .ok (.iload_n 1, 1) := by decide +kernel
theorem dX5_parse_37 : decode cX5_parse 37 = .ok (.invokevirtual 40, 3) := by decide +kernel
theorem dX5_parse_40 : decode cX5_parse 40 = .ok (.goto 5, 3) := by decide +kernel
theorem dX5_parse_43 : decode cX5_parse 43 = .ok (.bipush (-2), 2) := by decide +kernel
theorem dX5_parse_45 : decode cX5_parse 45 = .ok (.istore_n 1, 1) := by decide +kernel
theorem dX5_parse_46 : decode cX5_parse 46 = .ok (.iinc 2 1, 3) := by decide +kernel
theorem dX5_parse_49 : decode cX5_parse 49 = .ok (.goto (-32), 3) := by decide +kernel
theorem dX5_parse_52 : decode cX5_parse 52 = .ok (.iload_n 1, 1) := by decide +kernel
theorem dX5_parse_53 : decode cX5_parse 53 = .ok (.iconst (-1), 1) := by decide +kernel
theorem dX5_parse_54 : decode cX5_parse 54 = .ok (.if_icmp .ne 17, 3) := by decide +kernel
theorem dX5_parse_57 : decode cX5_parse 57 = .ok (.aload_n 0, 1) := by decide +kernel
theorem dX5_parse_58 : decode cX5_parse 58 = .ok (.getfield 29, 3) := by decide +kernel
theorem dX5_parse_61 : decode cX5_parse 61 = .ok (.aload_n 0, 1) := by decide +kernel
theorem dX5_parse_62 : decode cX5_parse 62 = .ok (.getfield 12, 3) := by decide +kernel
theorem dX5_parse_65 : decode cX5_parse 65 = .ok (.getfield 44, 3) := by decide +kernel
theorem dX5_parse_68 : decode cX5_parse 68 = .ok (.if_icmp .ge 8, 3) := by decide +kernel
theorem dX5_parse_71 : decode cX5_parse 71 = .ok (.aload_n 0, 1) := by decide +kernel
theorem dX5_parse_72 : decode cX5_parse 72 = .ok (.getfield 29, 3) := by decide +kernel
theorem dX5_parse_75 : decode cX5_parse 75 = .ok (.ireturn, 1) := by decide +kernel
theorem dX5_parse_76 : decode cX5_parse 76 = .ok (.aload_n 0, 1) := by decide +kernel
theorem dX5_parse_77 : decode cX5_parse 77 = .ok (.getfield 21, 3) := by decide +kernel
theorem dX5_parse_80 : decode cX5_parse 80 = .ok (.invokevirtual 47, 3) := by decide +kernel
theorem dX5_parse_83 : decode cX5_parse 83 = .ok (.iconst (-1), 1) := by decide +kernel
theorem dX5_parse_84 : decode cX5_parse 84 = .ok (.ireturn, 1) := by decide +kernel
theorem dX5_readNode_0 : decode cX5_readNode 0 = .ok (.iload_n 1, 1) := by decide +kernel
theorem dX5_readNode_1 : decode cX5_readNode 1 = .ok (.bipush 11, 2) := by decide +kernel
theorem dX5_readNode_3 : decode cX5_readNode 3 = .ok (.if_icmp .gt 15, 3) := by decide +kernel
theorem dX5_readNode_6 : decode cX5_readNode 6 = .ok (.aload_n 0, 1) := by decide +kernel
theorem dX5_readNode_7 : decode cX5_readNode 7 = .ok (.getfield 21, 3) := by decide +kernel
theorem dX5_readNode_10 : decode cX5_readNode 10 = .ok (.getfield 33, 3) := by decide +kernel
theorem dX5_readNode_13 : decode cX5_readNode 13 = .ok (.bipush 30, 2) := by decide +kernel
theorem dX5_readNode_15 : decode cX5_readNode 15 = .ok (.if_icmp .ne 5, 3) := by decide +kernel
theorem dX5_readNode_18 : decode cX5_readNode 18 = .ok (.iconst 0, 1) := by decide +kernel
theorem dX5_readNode_19 : decode cX5_readNode 19 = .ok (.ireturn, 1) := by decide +kernel
theorem dX5_readNode_20 : decode cX5_readNode 20 = .ok (.aload_n 0, 1) := by decide +kernel
theorem dX5_readNode_21 : decode cX5_readNode 21 = .ok (.getfield 29, 3) := by decide +kernel
theorem dX5_readNode_24 : decode cX5_readNode 24 = .ok (.istore_n 2, 1) := by decide +kernel
theorem dX5_readNode_25 : decode cX5_readNode 25 = .ok (.aload_n 0, 1) := by decide +kernel
theorem dX5_readNode_26 : decode cX5_readNode 26 = .ok (.invokevirtual 50, 3) := by decide +kernel
theorem dX5_readNode_29 : decode cX5_readNode 29 = .ok (.ifCond .ne 5, 3) := by decide +kernel
theorem dX5_readNode_32 : decode cX5_readNode 32 = .ok (.iconst 0, 1) := by decide +kernel
theorem dX5_readNode_33 : decode cX5_readNode 33 = .ok (.ireturn, 1) := by decide +kernel
theorem dX5_readNode_34 : decode cX5_readNode 34 = .ok (.aload_n 0, 1) := by decide +kernel
theorem dX5_readNode_35 : decode cX5_readNode 35 = .ok (.getfield 12, 3) := by decide +kernel
theorem dX5_readNode_38 : decode cX5_readNode 38 = .ok (.iload_n 2, 1) := by decide +kernel
theorem dX5_readNode_39 : decode cX5_readNode 39 = .ok (.aload_n 0, 1) := by decide +kernel
theorem dX5_readNode_40 : decode cX5_readNode 40 = .ok (.getfield 29, 3) := by decide +kernel
theorem dX5_readNode_43 : decode cX5_readNode 43 = .ok (.iload_n 2, 1) := by decide +kernel
theorem dX5_readNode_44 : decode cX5_readNode 44 = .ok (.isub, 1) := by decide +kernel
theorem dX5_readNode_45 : decode cX5_readNode 45 = .ok (.invokevirtual 54, 3) := by decide +kernel
theorem dX5_readNode_48 : decode cX5_readNode 48 = .ok (.lstore_n 3, 1) := by decide +kernel
theorem dX5_readNode_49 : decode cX5_readNode 49 = .ok (.iload_n 1, 1) := by decide +kernel
theorem dX5_readNode_50 : decode cX5_readNode 50 = .ok (.ifCond .le 26, 3) := by decide +kernel
theorem dX5_readNode_53 : decode cX5_readNode 53 = .ok (.aload_n 0, 1) := by decide +kernel
theorem dX5_readNode_54 : decode cX5_readNode 54 = .ok (.aload_n 0, 1) := by decide +kernel
theorem dX5_readNode_55 : decode cX5_readNode 55 = .ok (.getfield 25, 3) := by decide +kernel
theorem dX5_readNode_58 : decode cX5_readNode 58 = .ok (.iload_n 1, 1) := by decide +kernel
theorem dX5_readNode_59 : decode cX5_readNode 59 = .ok (.iconst 1, 1) := by decide +kernel
theorem dX5_readNode_60 : decode cX5_readNode 60 = .ok (.isub, 1) := by decide +kernel
theorem dX5_readNode_61 : decode cX5_readNode 61 = .ok (.iaload, 1) := by decide +kernel
theorem dX5_readNode_62 : decode cX5_readNode 62 = .ok (.lload_n 3, 1) := by decide +kernel
theorem dX5_readNode_63 : decode cX5_readNode 63 = .ok (.invokevirtual 58, 3) := by decide +kernel
theorem dX5_readNode_66 : decode cX5_readNode 66 = .ok (.ifCond .eq 10, 3) := by decide +kernel
theorem dX5_readNode_69 : decode cX5_readNode 69 = .ok (.aload_n 0, 1) := by decide +kernel
theorem dX5_readNode_70 : decode cX5_readNode 70 = .ok (.iload_n 2, 1) := by decide +kernel
theorem dX5_readNode_71 : decode cX5_readNode 71 = .ok (.putfield 29, 3) := by decide +kernel
theorem dX5_readNode_74 : decode cX5_readNode 74 = .ok (.iconst 0, 1) := by decide +kernel
theorem dX5_readNode_75 : decode cX5_readNode 75 = .ok (.ireturn, 1) := by decide +kernel
theorem dX5_readNode_76 : decode cX5_readNode 76 = .ok (.aload_n 0, 1) := by decide +kernel
theorem dX5_readNode_77 : decode cX5_readNode 77 = .ok (.getfield 21, 3) := by decide +kernel
theorem dX5_readNode_80 : decode cX5_readNode 80 = .ok (.iload_n 1, 1) := by decide +kernel
theorem dX5_readNode_81 : decode cX5_readNode 81 = .ok (.invokevirtual 62, 3) := by decide +kernel
theorem dX5_readNode_84 : decode cX5_readNode 84 = .ok (.istore 5, 2) := by decide +kernel
theorem dX5_readNode_86 : decode cX5_readNode 86 = .ok (.aload_n 0, 1) := by decide +kernel
theorem dX5_readNode_87 : decode cX5_readNode 87 = .ok (.getfield 25, 3) := by decide +kernel
theorem dX5_readNode_90 : decode cX5_readNode 90 = .ok (.iload_n 1, 1) := by decide +kernel
theorem dX5_readNode_91 : decode cX5_readNode 91 = .ok (.iload 5, 2) := by decide +kernel
theorem dX5_readNode_93 : decode cX5_readNode 93 = .ok (.iastore, 1) := by decide +kernel
theorem dX5_readNode_94 : decode cX5_readNode 94 = .ok (.aload_n 0, 1) := by decide +kernel
theorem dX5_readNode_95 : decode cX5_readNode 95 = .ok (.getfield 21, 3) := by decide +kernel
theorem dX5_readNode_98 : decode cX5_readNode 98 = .ok (.iload 5, 2) := by decide +kernel
theorem dX5_readNode_100 : decode cX5_readNode 100 = .ok (.iconst 0, 1) := by decide +kernel
theorem dX5_readNode_101 : decode cX5_readNode 101 = .ok (.iconst 0, 1) := by decide +kernel
theorem dX5_readNode_102 : decode cX5_readNode 102 = .ok (.lload_n 3, 1) := by decide +kernel
theorem dX5_readNode_103 : decode cX5_readNode 103 = .ok (.invokevirtual 65, 3) := by decide +kernel
theorem dX5_readNode_106 : decode cX5_readNode 106 = .ok (.aload_n 0, 1) := by decide +kernel
theorem dX5_readNode_107 : decode cX5_readNode 107 = .ok (.iload 5, 2) := by decide +kernel
theorem dX5_readNode_109 : decode cX5_readNode 109 = .ok (.invokevirtual 69, 3) := by decide +kernel
theorem dX5_readNode_112 : decode cX5_readNode 112 = .ok (.ifCond .ne 5, 3) := by decide +kernel
theorem dX5_readNode_115 : decode cX5_readNode 115 = .ok (.iconst 0, 1) := by decide +kernel
theorem dX5_readNode_116 : decode cX5_readNode 116 = .ok (.ireturn, 1) := by decide +kernel
theorem dX5_readNode_117 : decode cX5_readNode 117 = .ok (.aload_n 0, 1) := by decide +kernel
theorem dX5_readNode_118 : decode cX5_readNode 118 = .ok (.iload 5, 2) := by decide +kernel
theorem dX5_readNode_120 : decode cX5_readNode 120 = .ok (.invokevirtual 72, 3) := by decide +kernel
theorem dX5_readNode_123 : decode cX5_readNode 123 = .ok (.iconst 1, 1) := by decide +kernel
theorem dX5_readNode_124 : decode cX5_readNode 124 = .ok (.ireturn, 1) := by decide +kernel
theorem dX5_isTwin_0 : decode cX5_isTwin 0 = .ok (.aload_n 0, 1) := by decide +kernel
theorem dX5_isTwin_1 : decode cX5_isTwin 1 = .ok (.getfield 21, 3) := by decide +kernel
theorem dX5_isTwin_4 : decode cX5_isTwin 4 = .ok (.getfield 76, 3) := by decide +kernel
theorem dX5_isTwin_7 : decode cX5_isTwin 7 = .ok (.iload_n 1, 1) := by decide +kernel
theorem dX5_isTwin_8 : decode cX5_isTwin 8 = .ok (.iaload, 1) := by decide +kernel
theorem dX5_isTwin_9 : decode cX5_isTwin 9 = .ok (.iconst 2, 1) := by decide +kernel
theorem dX5_isTwin_10 : decode cX5_isTwin 10 = .ok (.if_icmp .ne 29, 3) := by decide +kernel
theorem dX5_isTwin_13 : decode cX5_isTwin 13 = .ok (.aload_n 0, 1) := by decide +kernel
theorem dX5_isTwin_14 : decode cX5_isTwin 14 = .ok (.getfield 21, 3) := by decide +kernel
theorem dX5_isTwin_17 : decode cX5_isTwin 17 = .ok (.iload_n 1, 1) := by decide +kernel
theorem dX5_isTwin_18 : decode cX5_isTwin 18 = .ok (.iload_n 1, 1) := by decide +kernel
theorem dX5_isTwin_19 : decode cX5_isTwin 19 = .ok (.iconst 1, 1) := by decide +kernel
theorem dX5_isTwin_20 : decode cX5_isTwin 20 = .ok (.iadd, 1) := by decide +kernel
theorem dX5_isTwin_21 : decode cX5_isTwin 21 = .ok (.aload_n 0, 1) := by decide +kernel
theorem dX5_isTwin_22 : decode cX5_isTwin 22 = .ok (.getfield 21, 3) := by decide +kernel
theorem dX5_isTwin_25 : decode cX5_isTwin 25 = .ok (.getfield 33, 3) := by decide +kernel
theorem dX5_isTwin_28 : decode cX5_isTwin 28 = .ok (.lload_n 2, 1) := by decide +kernel
theorem dX5_isTwin_29 : decode cX5_isTwin 29 = .ok (.invokevirtual 79, 3) := by decide +kernel
theorem dX5_isTwin_32 : decode cX5_isTwin 32 = .ok (.ifCond .eq 7, 3) := by decide +kernel
theorem dX5_isTwin_35 : decode cX5_isTwin 35 = .ok (.iconst 1, 1) := by decide +kernel
theorem dX5_isTwin_36 : decode cX5_isTwin 36 = .ok (.goto 4, 3) := by decide +kernel
theorem dX5_isTwin_39 : decode cX5_isTwin 39 = .ok (.iconst 0, 1) := by decide +kernel
theorem dX5_isTwin_40 : decode cX5_isTwin 40 = .ok (.ireturn, 1) := by decide +kernel
theorem dX5_passLabel_0 : decode cX5_passLabel 0 = .ok (.aload_n 0, 1) := by decide +kernel
theorem dX5_passLabel_1 : decode cX5_passLabel 1 = .ok (.getfield 12, 3) := by decide +kernel
theorem dX5_passLabel_4 : decode cX5_passLabel 4 = .ok (.aload_n 0, 1) := by decide +kernel
theorem dX5_passLabel_5 : decode cX5_passLabel 5 = .ok (.getfield 29, 3) := by decide +kernel
theorem dX5_passLabel_8 : decode cX5_passLabel 8 = .ok (.invokevirtual 83, 3) := by decide +kernel
theorem dX5_passLabel_11 : decode cX5_passLabel 11 = .ok (.istore_n 1, 1) := by decide +kernel
theorem dX5_passLabel_12 : decode cX5_passLabel 12 = .ok (.aload_n 0, 1) := by decide +kernel
theorem dX5_passLabel_13 : decode cX5_passLabel 13 = .ok (.dup, 1) := by decide +kernel
theorem dX5_passLabel_14 : decode cX5_passLabel 14 = .ok (.getfield 29, 3) := by decide +kernel
theorem dX5_passLabel_17 : decode cX5_passLabel 17 = .ok (.iload_n 1, 1) := by decide +kernel
theorem dX5_passLabel_18 : decode cX5_passLabel 18 = .ok (.iadd, 1) := by decide +kernel
theorem dX5_passLabel_19 : decode cX5_passLabel 19 = .ok (.putfield 29, 3) := by decide +kernel
theorem dX5_passLabel_22 : decode cX5_passLabel 22 = .ok (.iload_n 1, 1) := by decide +kernel
theorem dX5_passLabel_23 : decode cX5_passLabel 23 = .ok (.ifCond .le 24, 3) := by decide +kernel
theorem dX5_passLabel_26 : decode cX5_passLabel 26 = .ok (.aload_n 0, 1) := by decide +kernel
theorem dX5_passLabel_27 : decode cX5_passLabel 27 = .ok (.getfield 12, 3) := by decide +kernel
theorem dX5_passLabel_30 : decode cX5_passLabel 30 = .ok (.aload_n 0, 1) := by decide +kernel
theorem dX5_passLabel_31 : decode cX5_passLabel 31 = .ok (.getfield 29, 3) := by decide +kernel
theorem dX5_passLabel_34 : decode cX5_passLabel 34 = .ok (.invokevirtual 86, 3) := by decide +kernel
theorem dX5_passLabel_37 : decode cX5_passLabel 37 = .ok (.invokestatic 89, 3) := by decide +kernel
theorem dX5_passLabel_40 : decode cX5_passLabel 40 = .ok (.ifCond .ne 7, 3) := by decide +kernel
theorem dX5_passLabel_43 : decode cX5_passLabel 43 = .ok (.iconst 1, 1) := by decide +kernel
theorem dX5_passLabel_44 : decode cX5_passLabel 44 = .ok (.goto 4, 3) := by decide +kernel
theorem dX5_passLabel_47 : decode cX5_passLabel 47 = .ok (.iconst 0, 1) := by decide +kernel
theorem dX5_passLabel_48 : decode cX5_passLabel 48 = .ok (.ireturn, 1) := by decide +kernel
theorem dX5_readText_0 : decode cX5_readText 0 = .ok (.aload_n 0, 1) := by decide +kernel
theorem dX5_readText_1 : decode cX5_readText 1 = .ok (.bipush 61, 2) := by decide +kernel
theorem dX5_readText_3 : decode cX5_readText 3 = .ok (.invokevirtual 92, 3) := by decide +kernel
theorem dX5_readText_6 : decode cX5_readText 6 = .ok (.ifCond .ne 5, 3) := by decide +kernel
theorem dX5_readText_9 : decode cX5_readText 9 = .ok (.iconst 1, 1) := by decide +kernel
theorem dX5_readText_10 : decode cX5_readText 10 = .ok (.ireturn, 1) := by decide +kernel
theorem dX5_readText_11 : decode cX5_readText 11 = .ok (.aload_n 0, 1) := by decide +kernel
theorem dX5_readText_12 : decode cX5_readText 12 = .ok (.getfield 12, 3) := by decide +kernel
theorem dX5_readText_15 : decode cX5_readText 15 = .ok (.aload_n 0, 1) := by decide +kernel
theorem dX5_readText_16 : decode cX5_readText 16 = .ok (.getfield 29, 3) := by decide +kernel
theorem dX5_readText_19 : decode cX5_readText 19 = .ok (.invokevirtual 95, 3) := by decide +kernel
theorem dX5_readText_22 : decode cX5_readText 22 = .ok (.istore_n 2, 1) := by decide +kernel
theorem dX5_readText_23 : decode cX5_readText 23 = .ok (.aload_n 0, 1) := by decide +kernel
theorem dX5_readText_24 : decode cX5_readText 24 = .ok (.getfield 21, 3) := by decide +kernel
theorem dX5_readText_27 : decode cX5_readText 27 = .ok (.getfield 98, 3) := by decide +kernel
theorem dX5_readText_30 : decode cX5_readText 30 = .ok (.iload_n 1, 1) := by decide +kernel
theorem dX5_readText_31 : decode cX5_readText 31 = .ok (.aload_n 0, 1) := by decide +kernel
theorem dX5_readText_32 : decode cX5_readText 32 = .ok (.getfield 12, 3) := by decide +kernel
theorem dX5_readText_35 : decode cX5_readText 35 = .ok (.aload_n 0, 1) := by decide +kernel
theorem dX5_readText_36 : decode cX5_readText 36 = .ok (.getfield 29, 3) := by decide +kernel
theorem dX5_readText_39 : decode cX5_readText 39 = .ok (.iload_n 2, 1) := by decide +kernel
theorem dX5_readText_40 : decode cX5_readText 40 = .ok (.invokevirtual 54, 3) := by decide +kernel
theorem dX5_readText_43 : decode cX5_readText 43 = .ok (.lastore, 1) := by decide +kernel
theorem dX5_readText_44 : decode cX5_readText 44 = .ok (.aload_n 0, 1) := by decide +kernel
theorem dX5_readText_45 : decode cX5_readText 45 = .ok (.dup, 1) := by decide +kernel
theorem dX5_readText_46 : decode cX5_readText 46 = .ok (.getfield 29, 3) := by decide +kernel
theorem dX5_readText_49 : decode cX5_readText 49 = .ok (.iload_n 2, 1) := by decide +kernel
theorem dX5_readText_50 : decode cX5_readText 50 = .ok (.iadd, 1) := by decide +kernel
theorem dX5_readText_51 : decode cX5_readText 51 = .ok (.putfield 29, 3) := by decide +kernel
theorem dX5_readText_54 : decode cX5_readText 54 = .ok (.iload_n 2, 1) := by decide +kernel
theorem dX5_readText_55 : decode cX5_readText 55 = .ok (.ifCond .le 24, 3) := by decide +kernel
theorem dX5_readText_58 : decode cX5_readText 58 = .ok (.aload_n 0, 1) := by decide +kernel
theorem dX5_readText_59 : decode cX5_readText 59 = .ok (.getfield 12, 3) := by decide +kernel
theorem dX5_readText_62 : decode cX5_readText 62 = .ok (.aload_n 0, 1) := by decide +kernel
theorem dX5_readText_63 : decode cX5_readText 63 = .ok (.getfield 29, 3) := by decide +kernel
theorem dX5_readText_66 : decode cX5_readText 66 = .ok (.invokevirtual 86, 3) := by decide +kernel
theorem dX5_readText_69 : decode cX5_readText 69 = .ok (.invokestatic 102, 3) := by decide +kernel
theorem dX5_readText_72 : decode cX5_readText 72 = .ok (.ifCond .ne 7, 3) := by decide +kernel
theorem dX5_readText_75 : decode cX5_readText 75 = .ok (.iconst 1, 1) := by decide +kernel
theorem dX5_readText_76 : decode cX5_readText 76 = .ok (.goto 4, 3) := by decide +kernel
theorem dX5_readText_79 : decode cX5_readText 79 = .ok (.iconst 0, 1) := by decide +kernel
theorem dX5_readText_80 : decode cX5_readText 80 = .ok (.ireturn, 1) := by decide +kernel
theorem dX5_readMark_0 : decode cX5_readMark 0 = .ok (.aload_n 0, 1) := by decide +kernel
theorem dX5_readMark_1 : decode cX5_readMark 1 = .ok (.iconst 0, 1) := by decide +kernel
theorem dX5_readMark_2 : decode cX5_readMark 2 = .ok (.putfield 105, 3) := by decide +kernel
theorem dX5_readMark_5 : decode cX5_readMark 5 = .ok (.aload_n 0, 1) := by decide +kernel
theorem dX5_readMark_6 : decode cX5_readMark 6 = .ok (.bipush 33, 2) := by decide +kernel
theorem dX5_readMark_8 : decode cX5_readMark 8 = .ok (.invokevirtual 92, 3) := by decide +kernel
theorem dX5_readMark_11 : decode cX5_readMark 11 = .ok (.ifCond .eq 16, 3) := by decide +kernel
theorem dX5_readMark_14 : decode cX5_readMark 14 = .ok (.aload_n 0, 1) := by decide +kernel
theorem dX5_readMark_15 : decode cX5_readMark 15 = .ok (.getfield 21, 3) := by decide +kernel
theorem dX5_readMark_18 : decode cX5_readMark 18 = .ok (.getfield 76, 3) := by decide +kernel
theorem dX5_readMark_21 : decode cX5_readMark 21 = .ok (.iload_n 1, 1) := by decide +kernel
theorem dX5_readMark_22 : decode cX5_readMark 22 = .ok (.iconst 3, 1) := by decide +kernel
theorem dX5_readMark_23 : decode cX5_readMark 23 = .ok (.iastore, 1) := by decide +kernel
theorem dX5_readMark_24 : decode cX5_readMark 24 = .ok (.goto 97, 3) := by decide +kernel
theorem dX5_readMark_27 : decode cX5_readMark 27 = .ok (.aload_n 0, 1) := by decide +kernel
theorem dX5_readMark_28 : decode cX5_readMark 28 = .ok (.bipush 40, 2) := by decide +kernel
theorem dX5_readMark_30 : decode cX5_readMark 30 = .ok (.invokevirtual 92, 3) := by decide +kernel
theorem dX5_readMark_33 : decode cX5_readMark 33 = .ok (.ifCond .eq 11, 3) := by decide +kernel
theorem dX5_readMark_36 : decode cX5_readMark 36 = .ok (.aload_n 0, 1) := by decide +kernel
theorem dX5_readMark_37 : decode cX5_readMark 37 = .ok (.iconst 1, 1) := by decide +kernel
theorem dX5_readMark_38 : decode cX5_readMark 38 = .ok (.putfield 105, 3) := by decide +kernel
theorem dX5_readMark_41 : decode cX5_readMark 41 = .ok (.goto 80, 3) := by decide +kernel
theorem dX5_readMark_44 : decode cX5_readMark 44 = .ok (.aload_n 0, 1) := by decide +kernel
theorem dX5_readMark_45 : decode cX5_readMark 45 = .ok (.bipush 123, 2) := by decide +kernel
theorem dX5_readMark_47 : decode cX5_readMark 47 = .ok (.invokevirtual 92, 3) := by decide +kernel
theorem dX5_readMark_50 : decode cX5_readMark 50 = .ok (.ifCond .eq 34, 3) := by decide +kernel
theorem dX5_readMark_53 : decode cX5_readMark 53 = .ok (.aload_n 0, 1) := by decide +kernel
theorem dX5_readMark_54 : decode cX5_readMark 54 = .ok (.getfield 21, 3) := by decide +kernel
theorem dX5_readMark_57 : decode cX5_readMark 57 = .ok (.getfield 76, 3) := by decide +kernel
theorem dX5_readMark_60 : decode cX5_readMark 60 = .ok (.iload_n 1, 1) := by decide +kernel
theorem dX5_readMark_61 : decode cX5_readMark 61 = .ok (.iconst 1, 1) := by decide +kernel
theorem dX5_readMark_62 : decode cX5_readMark 62 = .ok (.iastore, 1) := by decide +kernel
theorem dX5_readMark_63 : decode cX5_readMark 63 = .ok (.aload_n 0, 1) := by decide +kernel
theorem dX5_readMark_64 : decode cX5_readMark 64 = .ok (.aload_n 0, 1) := by decide +kernel
theorem dX5_readMark_65 : decode cX5_readMark 65 = .ok (.bipush 125, 2) := by decide +kernel
theorem dX5_readMark_67 : decode cX5_readMark 67 = .ok (.invokevirtual 92, 3) := by decide +kernel
theorem dX5_readMark_70 : decode cX5_readMark 70 = .ok (.ifCond .ne 7, 3) := by decide +kernel
theorem dX5_readMark_73 : decode cX5_readMark 73 = .ok (.iconst 1, 1) := by decide +kernel
theorem dX5_readMark_74 : decode cX5_readMark 74 = .ok (.goto 4, 3) := by decide +kernel
theorem dX5_readMark_77 : decode cX5_readMark 77 = .ok (.iconst 0, 1) := by decide +kernel
theorem dX5_readMark_78 : decode cX5_readMark 78 = .ok (.putfield 105, 3) := by decide +kernel
theorem dX5_readMark_81 : decode cX5_readMark 81 = .ok (.goto 40, 3) := by decide +kernel
theorem dX5_readMark_84 : decode cX5_readMark 84 = .ok (.aload_n 0, 1) := by decide +kernel
theorem dX5_readMark_85 : decode cX5_readMark 85 = .ok (.bipush 60, 2) := by decide +kernel
theorem dX5_readMark_87 : decode cX5_readMark 87 = .ok (.invokevirtual 92, 3) := by decide +kernel
theorem dX5_readMark_90 : decode cX5_readMark 90 = .ok (.ifCond .eq 31, 3) := by decide +kernel
theorem dX5_readMark_93 : decode cX5_readMark 93 = .ok (.aload_n 0, 1) := by decide +kernel
theorem dX5_readMark_94 : decode cX5_readMark 94 = .ok (.getfield 21, 3) := by decide +kernel
theorem dX5_readMark_97 : decode cX5_readMark 97 = .ok (.getfield 76, 3) := by decide +kernel
theorem dX5_readMark_100 : decode cX5_readMark 100 = .ok (.iload_n 1, 1) := by decide +kernel
theorem dX5_readMark_101 : decode cX5_readMark 101 = .ok (.iconst 2, 1) := by decide +kernel
theorem dX5_readMark_102 : decode cX5_readMark 102 = .ok (.iastore, 1) := by decide +kernel
theorem dX5_readMark_103 : decode cX5_readMark 103 = .ok (.aload_n 0, 1) := by decide +kernel
theorem dX5_readMark_104 : decode cX5_readMark 104 = .ok (.aload_n 0, 1) := by decide +kernel
theorem dX5_readMark_105 : decode cX5_readMark 105 = .ok (.bipush 62, 2) := by decide +kernel
theorem dX5_readMark_107 : decode cX5_readMark 107 = .ok (.invokevirtual 92, 3) := by decide +kernel
theorem dX5_readMark_110 : decode cX5_readMark 110 = .ok (.ifCond .ne 7, 3) := by decide +kernel
theorem dX5_readMark_113 : decode cX5_readMark 113 = .ok (.iconst 1, 1) := by decide +kernel
theorem dX5_readMark_114 : decode cX5_readMark 114 = .ok (.goto 4, 3) := by decide +kernel
theorem dX5_readMark_117 : decode cX5_readMark 117 = .ok (.iconst 0, 1) := by decide +kernel
theorem dX5_readMark_118 : decode cX5_readMark 118 = .ok (.putfield 105, 3) := by decide +kernel
theorem dX5_readMark_121 : decode cX5_readMark 121 = .ok (.return_, 1) := by decide +kernel
theorem dX5_nextDepth_0 : decode cX5_nextDepth 0 = .ok (.aload_n 0, 1) := by decide +kernel
theorem dX5_nextDepth_1 : decode cX5_nextDepth 1 = .ok (.getfield 105, 3) := by decide +kernel
theorem dX5_nextDepth_4 : decode cX5_nextDepth 4 = .ok (.ifCond .eq 7, 3) := by decide +kernel
theorem dX5_nextDepth_7 : decode cX5_nextDepth 7 = .ok (.iload_n 1, 1) := by decide +kernel
theorem dX5_nextDepth_8 : decode cX5_nextDepth 8 = .ok (.iconst 1, 1) := by decide +kernel
theorem dX5_nextDepth_9 : decode cX5_nextDepth 9 = .ok (.iadd, 1) := by decide +kernel
theorem dX5_nextDepth_10 : decode cX5_nextDepth 10 = .ok (.ireturn, 1) := by decide +kernel
theorem dX5_nextDepth_11 : decode cX5_nextDepth 11 = .ok (.iload_n 1, 1) := by decide +kernel
theorem dX5_nextDepth_12 : decode cX5_nextDepth 12 = .ok (.istore_n 2, 1) := by decide +kernel
theorem dX5_nextDepth_13 : decode cX5_nextDepth 13 = .ok (.iload_n 2, 1) := by decide +kernel
theorem dX5_nextDepth_14 : decode cX5_nextDepth 14 = .ok (.ifCond .le 49, 3) := by decide +kernel
theorem dX5_nextDepth_17 : decode cX5_nextDepth 17 = .ok (.aload_n 0, 1) := by decide +kernel
theorem dX5_nextDepth_18 : decode cX5_nextDepth 18 = .ok (.bipush 44, 2) := by decide +kernel
theorem dX5_nextDepth_20 : decode cX5_nextDepth 20 = .ok (.invokevirtual 92, 3) := by decide +kernel
theorem dX5_nextDepth_23 : decode cX5_nextDepth 23 = .ok (.ifCond .eq 5, 3) := by decide +kernel
theorem dX5_nextDepth_26 : decode cX5_nextDepth 26 = .ok (.iload_n 2, 1) := by decide +kernel
theorem dX5_nextDepth_27 : decode cX5_nextDepth 27 = .ok (.ireturn, 1) := by decide +kernel
theorem dX5_nextDepth_28 : decode cX5_nextDepth 28 = .ok (.aload_n 0, 1) := by decide +kernel
theorem dX5_nextDepth_29 : decode cX5_nextDepth 29 = .ok (.aload_n 0, 1) := by decide +kernel
theorem dX5_nextDepth_30 : decode cX5_nextDepth 30 = .ok (.getfield 21, 3) := by decide +kernel
theorem dX5_nextDepth_33 : decode cX5_nextDepth 33 = .ok (.getfield 76, 3) := by decide +kernel
theorem dX5_nextDepth_36 : decode cX5_nextDepth 36 = .ok (.aload_n 0, 1) := by decide +kernel
theorem dX5_nextDepth_37 : decode cX5_nextDepth 37 = .ok (.getfield 25, 3) := by decide +kernel
theorem dX5_nextDepth_40 : decode cX5_nextDepth 40 = .ok (.iload_n 2, 1) := by decide +kernel
theorem dX5_nextDepth_41 : decode cX5_nextDepth 41 = .ok (.iconst 1, 1) := by decide +kernel
theorem dX5_nextDepth_42 : decode cX5_nextDepth 42 = .ok (.isub, 1) := by decide +kernel
theorem dX5_nextDepth_43 : decode cX5_nextDepth 43 = .ok (.iaload, 1) := by decide +kernel
theorem dX5_nextDepth_44 : decode cX5_nextDepth 44 = .ok (.iaload, 1) := by decide +kernel
theorem dX5_nextDepth_45 : decode cX5_nextDepth 45 = .ok (.invokestatic 109, 3) := by decide +kernel
theorem dX5_nextDepth_48 : decode cX5_nextDepth 48 = .ok (.invokevirtual 92, 3) := by decide +kernel
theorem dX5_nextDepth_51 : decode cX5_nextDepth 51 = .ok (.ifCond .ne 6, 3) := by decide +kernel
theorem dX5_nextDepth_54 : decode cX5_nextDepth 54 = .ok (.bipush (-2), 2) := by decide +kernel
theorem dX5_nextDepth_56 : decode cX5_nextDepth 56 = .ok (.ireturn, 1) := by decide +kernel
theorem dX5_nextDepth_57 : decode cX5_nextDepth 57 = .ok (.iinc 2 (-1), 3) := by decide +kernel
theorem dX5_nextDepth_60 : decode cX5_nextDepth 60 = .ok (.goto (-47), 3) := by decide +kernel
theorem dX5_nextDepth_63 : decode cX5_nextDepth 63 = .ok (.iconst (-1), 1) := by decide +kernel
theorem dX5_nextDepth_64 : decode cX5_nextDepth 64 = .ok (.ireturn, 1) := by decide +kernel
theorem dX5_pass_0 : decode cX5_pass 0 = .ok (.aload_n 0, 1) := by decide +kernel
theorem dX5_pass_1 : decode cX5_pass 1 = .ok (.getfield 12, 3) := by decide +kernel
theorem dX5_pass_4 : decode cX5_pass 4 = .ok (.aload_n 0, 1) := by decide +kernel
theorem dX5_pass_5 : decode cX5_pass 5 = .ok (.getfield 29, 3) := by decide +kernel
theorem dX5_pass_8 : decode cX5_pass 8 = .ok (.invokevirtual 86, 3) := by decide +kernel
theorem dX5_pass_11 : decode cX5_pass 11 = .ok (.iload_n 1, 1) := by decide +kernel
theorem dX5_pass_12 : decode cX5_pass 12 = .ok (.if_icmp .eq 5, 3) := by decide +kernel
theorem dX5_pass_15 : decode cX5_pass 15 = .ok (.iconst 0, 1) := by decide +kernel
theorem dX5_pass_16 : decode cX5_pass 16 = .ok (.ireturn, 1) := by decide +kernel
theorem dX5_pass_17 : decode cX5_pass 17 = .ok (.aload_n 0, 1) := by decide +kernel
theorem dX5_pass_18 : decode cX5_pass 18 = .ok (.dup, 1) := by decide +kernel
theorem dX5_pass_19 : decode cX5_pass 19 = .ok (.getfield 29, 3) := by decide +kernel
theorem dX5_pass_22 : decode cX5_pass 22 = .ok (.iconst 1, 1) := by decide +kernel
theorem dX5_pass_23 : decode cX5_pass 23 = .ok (.iadd, 1) := by decide +kernel
theorem dX5_pass_24 : decode cX5_pass 24 = .ok (.putfield 29, 3) := by decide +kernel
theorem dX5_pass_27 : decode cX5_pass 27 = .ok (.iconst 1, 1) := by decide +kernel
theorem dX5_pass_28 : decode cX5_pass 28 = .ok (.ireturn, 1) := by decide +kernel
theorem dX6_init_0 : decode cX6_init 0 = .ok (.aload_n 0, 1) := by decide +kernel
theorem dX6_init_1 : decode cX6_init 1 = .ok (.invokespecial 3, 3) := by decide +kernel
theorem dX6_init_4 : decode cX6_init 4 = .ok (.aload_n 0, 1) := by decide +kernel
theorem dX6_init_5 : decode cX6_init 5 = .ok (.sipush 400, 3) := by decide +kernel
theorem dX6_init_8 : decode cX6_init 8 = .ok (.newarray .int, 2) := by decide +kernel
theorem dX6_init_10 : decode cX6_init 10 = .ok (.putfield 9, 3) := by decide +kernel
theorem dX6_init_13 : decode cX6_init 13 = .ok (.return_, 1) := by decide +kernel
theorem dX6_append_0 : decode cX6_append 0 = .ok (.aload_n 0, 1) := by decide +kernel
theorem dX6_append_1 : decode cX6_append 1 = .ok (.getfield 15, 3) := by decide +kernel
theorem dX6_append_4 : decode cX6_append 4 = .ok (.sipush 400, 3) := by decide +kernel
theorem dX6_append_7 : decode cX6_append 7 = .ok (.if_icmp .ge 23, 3) := by decide +kernel
theorem dX6_append_10 : decode cX6_append 10 = .ok (.aload_n 0, 1) := by decide +kernel
theorem dX6_append_11 : decode cX6_append 11 = .ok (.getfield 9, 3) := by decide +kernel
theorem dX6_append_14 : decode cX6_append 14 = .ok (.aload_n 0, 1) := by decide +kernel
theorem dX6_append_15 : decode cX6_append 15 = .ok (.getfield 15, 3) := by decide +kernel
theorem dX6_append_18 : decode cX6_append 18 = .ok (.iload_n 1, 1) := by decide +kernel
theorem dX6_append_19 : decode cX6_append 19 = .ok (.iastore, 1) := by decide +kernel
theorem dX6_append_20 : decode cX6_append 20 = .ok (.aload_n 0, 1) := by decide +kernel
theorem dX6_append_21 : decode cX6_append 21 = .ok (.dup, 1) := by decide +kernel
theorem dX6_append_22 : decode cX6_append 22 = .ok (.getfield 15, 3) := by decide +kernel
theorem dX6_append_25 : decode cX6_append 25 = .ok (.iconst 1, 1) := by decide +kernel
theorem dX6_append_26 : decode cX6_append 26 = .ok (.iadd, 1) := by decide +kernel
theorem dX6_append_27 : decode cX6_append 27 = .ok (.putfield 15, 3) := by decide +kernel
theorem dX6_append_30 : decode cX6_append 30 = .ok (.return_, 1) := by decide +kernel
theorem dX6_signOn_0 : decode cX6_signOn 0 = .ok (.iload_n 1, 1) := by decide +kernel
theorem dX6_signOn_1 : decode cX6_signOn 1 = .ok (.ifCond .lt 20, 3) := by decide +kernel
theorem dX6_signOn_4 : decode cX6_signOn 4 = .ok (.iload_n 1, 1) := by decide +kernel
theorem dX6_signOn_5 : decode cX6_signOn 5 = .ok (.aload_n 0, 1) := by decide +kernel
theorem dX6_signOn_6 : decode cX6_signOn 6 = .ok (.getfield 15, 3) := by decide +kernel
theorem dX6_signOn_9 : decode cX6_signOn 9 = .ok (.if_icmp .ge 12, 3) := by decide +kernel
theorem dX6_signOn_12 : decode cX6_signOn 12 = .ok (.aload_n 0, 1) := by decide +kernel
theorem dX6_signOn_13 : decode cX6_signOn 13 = .ok (.getfield 9, 3) := by decide +kernel
theorem dX6_signOn_16 : decode cX6_signOn 16 = .ok (.iload_n 1, 1) := by decide +kernel
theorem dX6_signOn_17 : decode cX6_signOn 17 = .ok (.iaload, 1) := by decide +kernel
theorem dX6_signOn_18 : decode cX6_signOn 18 = .ok (.goto 4, 3) := by decide +kernel
theorem dX6_signOn_21 : decode cX6_signOn 21 = .ok (.iconst (-1), 1) := by decide +kernel
theorem dX6_signOn_22 : decode cX6_signOn 22 = .ok (.ireturn, 1) := by decide +kernel
theorem dX6_lettersFrom_0 : decode cX6_lettersFrom 0 = .ok (.iconst 0, 1) := by decide +kernel
theorem dX6_lettersFrom_1 : decode cX6_lettersFrom 1 = .ok (.istore_n 2, 1) := by decide +kernel
theorem dX6_lettersFrom_2 : decode cX6_lettersFrom 2 = .ok (.iload_n 2, 1) := by decide +kernel
theorem dX6_lettersFrom_3 : decode cX6_lettersFrom 3 = .ok (.bipush 6, 2) := by decide +kernel
theorem dX6_lettersFrom_5 : decode cX6_lettersFrom 5 = .ok (.if_icmp .ge 22, 3) := by decide +kernel
theorem dX6_lettersFrom_8 : decode cX6_lettersFrom 8 = .ok (.aload_n 0, 1) := by decide +kernel
theorem dX6_lettersFrom_9 : decode cX6_lettersFrom 9 = .ok (.iload_n 1, 1) := by decide +kernel
theorem dX6_lettersFrom_10 : decode cX6_lettersFrom 10 = .ok (.iload_n 2, 1) := by decide +kernel
theorem dX6_lettersFrom_11 : decode cX6_lettersFrom 11 = .ok (.iadd, 1) := by decide +kernel
theorem dX6_lettersFrom_12 : decode cX6_lettersFrom 12 = .ok (.invokevirtual 19, 3) := by decide +kernel
theorem dX6_lettersFrom_15 : decode cX6_lettersFrom 15 = .ok (.invokestatic 23, 3) := by decide +kernel
theorem dX6_lettersFrom_18 : decode cX6_lettersFrom 18 = .ok (.ifCond .eq 9, 3) := by decide +kernel
theorem dX6_lettersFrom_21 : decode cX6_lettersFrom 21 = .ok (.iinc 2 1, 3) := by decide +kernel
theorem dX6_lettersFrom_24 : decode cX6_lettersFrom 24 = .ok (.goto (-22), 3) := by decide +kernel
theorem dX6_lettersFrom_27 : decode cX6_lettersFrom 27 = .ok (.iload_n 2, 1) := by decide +kernel
theorem dX6_lettersFrom_28 : decode cX6_lettersFrom 28 = .ok (.ireturn, 1) := by decide +kernel
theorem dX6_textSignsFrom_0 : decode cX6_textSignsFrom 0 = .ok (.iconst 0, 1) := by decide +kernel
theorem dX6_textSignsFrom_1 : decode cX6_textSignsFrom 1 = .ok (.istore_n 2, 1) := by decide +kernel
theorem dX6_textSignsFrom_2 : decode cX6_textSignsFrom 2 = .ok (.iload_n 2, 1) := by decide +kernel
theorem dX6_textSignsFrom_3 : decode cX6_textSignsFrom 3 = .ok (.bipush 8, 2) := by decide +kernel
theorem dX6_textSignsFrom_5 : decode cX6_textSignsFrom 5 = .ok (.if_icmp .ge 22, 3) := by decide +kernel
theorem dX6_textSignsFrom_8 : decode cX6_textSignsFrom 8 = .ok (.aload_n 0, 1) := by decide +kernel
theorem dX6_textSignsFrom_9 : decode cX6_textSignsFrom 9 = .ok (.iload_n 1, 1) := by decide +kernel
theorem dX6_textSignsFrom_10 : decode cX6_textSignsFrom 10 = .ok (.iload_n 2, 1) := by decide +kernel
theorem dX6_textSignsFrom_11 : decode cX6_textSignsFrom 11 = .ok (.iadd, 1) := by decide +kernel
theorem dX6_textSignsFrom_12 : decode cX6_textSignsFrom 12 = .ok (.invokevirtual 19, 3) := by decide +kernel
theorem dX6_textSignsFrom_15 : decode cX6_textSignsFrom 15 = .ok (.invokestatic 27, 3) := by decide +kernel
theorem dX6_textSignsFrom_18 : decode cX6_textSignsFrom 18 = .ok (.ifCond .eq 9, 3) := by decide +kernel
theorem dX6_textSignsFrom_21 : decode cX6_textSignsFrom 21 = .ok (.iinc 2 1, 3) := by decide +kernel
theorem dX6_textSignsFrom_24 : decode cX6_textSignsFrom 24 = .ok (.goto (-22), 3) := by decide +kernel
theorem dX6_textSignsFrom_27 : decode cX6_textSignsFrom 27 = .ok (.iload_n 2, 1) := by decide +kernel
theorem dX6_textSignsFrom_28 : decode cX6_textSignsFrom 28 = .ok (.ireturn, 1) := by decide +kernel
theorem dX6_word_0 : decode cX6_word 0 = .ok (.lconst 0, 1) := by decide +kernel
theorem dX6_word_1 : decode cX6_word 1 = .ok (.lstore_n 3, 1) := by decide +kernel
theorem dX6_word_2 : decode cX6_word 2 = .ok (.iconst 0, 1) := by decide +kernel
theorem dX6_word_3 : decode cX6_word 3 = .ok (.istore 5, 2) := by decide +kernel
theorem dX6_word_5 : decode cX6_word 5 = .ok (.iload 5, 2) := by decide +kernel
theorem dX6_word_7 : decode cX6_word 7 = .ok (.iload_n 2, 1) := by decide +kernel
theorem dX6_word_8 : decode cX6_word 8 = .ok (.if_icmp .ge 38, 3) := by decide +kernel
theorem dX6_word_11 : decode cX6_word 11 = .ok (.iload 5, 2) := by decide +kernel
theorem dX6_word_13 : decode cX6_word 13 = .ok (.bipush 8, 2) := by decide +kernel
theorem dX6_word_15 : decode cX6_word 15 = .ok (.if_icmp .ge 31, 3) := by decide +kernel
theorem dX6_word_18 : decode cX6_word 18 = .ok (.lload_n 3, 1) := by decide +kernel
theorem dX6_word_19 : decode cX6_word 19 = .ok (.aload_n 0, 1) := by decide +kernel
theorem dX6_word_20 : decode cX6_word 20 = .ok (.iload_n 1, 1) := by decide +kernel
theorem dX6_word_21 : decode cX6_word 21 = .ok (.iload 5, 2) := by decide +kernel
theorem dX6_word_23 : decode cX6_word 23 = .ok (.iadd, 1) := by decide +kernel
theorem dX6_word_24 : decode cX6_word 24 = .ok (.invokevirtual 19, 3) := by decide +kernel
theorem dX6_word_27 : decode cX6_word 27 = .ok (.i2l, 1) := by decide +kernel
theorem dX6_word_28 : decode cX6_word 28 = .ok (.ldc2_w 30, 3) := by decide +kernel
theorem dX6_word_31 : decode cX6_word 31 = .ok (.land, 1) := by decide +kernel
theorem dX6_word_32 : decode cX6_word 32 = .ok (.bipush 8, 2) := by decide +kernel
theorem dX6_word_34 : decode cX6_word 34 = .ok (.iload 5, 2) := by decide +kernel
theorem dX6_word_36 : decode cX6_word 36 = .ok (.imul, 1) := by decide +kernel
theorem dX6_word_37 : decode cX6_word 37 = .ok (.lshl, 1) := by decide +kernel
theorem dX6_word_38 : decode cX6_word 38 = .ok (.lor, 1) := by decide +kernel
theorem dX6_word_39 : decode cX6_word 39 = .ok (.lstore_n 3, 1) := by decide +kernel
theorem dX6_word_40 : decode cX6_word 40 = .ok (.iinc 5 1, 3) := by decide +kernel
theorem dX6_word_43 : decode cX6_word 43 = .ok (.goto (-38), 3) := by decide +kernel
theorem dX6_word_46 : decode cX6_word 46 = .ok (.lload_n 3, 1) := by decide +kernel
theorem dX6_word_47 : decode cX6_word 47 = .ok (.lreturn, 1) := by decide +kernel
theorem dX6_asLabel_0 : decode cX6_asLabel 0 = .ok (.aload_n 0, 1) := by decide +kernel
theorem dX6_asLabel_1 : decode cX6_asLabel 1 = .ok (.iconst 0, 1) := by decide +kernel
theorem dX6_asLabel_2 : decode cX6_asLabel 2 = .ok (.invokevirtual 32, 3) := by decide +kernel
theorem dX6_asLabel_5 : decode cX6_asLabel 5 = .ok (.istore_n 1, 1) := by decide +kernel
theorem dX6_asLabel_6 : decode cX6_asLabel 6 = .ok (.iload_n 1, 1) := by decide +kernel
theorem dX6_asLabel_7 : decode cX6_asLabel 7 = .ok (.ifCond .le 20, 3) := by decide +kernel
theorem dX6_asLabel_10 : decode cX6_asLabel 10 = .ok (.iload_n 1, 1) := by decide +kernel
theorem dX6_asLabel_11 : decode cX6_asLabel 11 = .ok (.aload_n 0, 1) := by decide +kernel
theorem dX6_asLabel_12 : decode cX6_asLabel 12 = .ok (.getfield 15, 3) := by decide +kernel
theorem dX6_asLabel_15 : decode cX6_asLabel 15 = .ok (.if_icmp .ne 12, 3) := by decide +kernel
theorem dX6_asLabel_18 : decode cX6_asLabel 18 = .ok (.aload_n 0, 1) := by decide +kernel
theorem dX6_asLabel_19 : decode cX6_asLabel 19 = .ok (.iconst 0, 1) := by decide +kernel
theorem dX6_asLabel_20 : decode cX6_asLabel 20 = .ok (.iload_n 1, 1) := by decide +kernel
theorem dX6_asLabel_21 : decode cX6_asLabel 21 = .ok (.invokevirtual 35, 3) := by decide +kernel
theorem dX6_asLabel_24 : decode cX6_asLabel 24 = .ok (.goto 6, 3) := by decide +kernel
theorem dX6_asLabel_27 : decode cX6_asLabel 27 = .ok (.ldc2_w 39, 3) := by decide +kernel
theorem dX6_asLabel_30 : decode cX6_asLabel 30 = .ok (.lreturn, 1) := by decide +kernel
theorem dX6_asText_0 : decode cX6_asText 0 = .ok (.aload_n 0, 1) := by decide +kernel
theorem dX6_asText_1 : decode cX6_asText 1 = .ok (.iconst 0, 1) := by decide +kernel
theorem dX6_asText_2 : decode cX6_asText 2 = .ok (.invokevirtual 41, 3) := by decide +kernel
theorem dX6_asText_5 : decode cX6_asText 5 = .ok (.istore_n 1, 1) := by decide +kernel
theorem dX6_asText_6 : decode cX6_asText 6 = .ok (.iload_n 1, 1) := by decide +kernel
theorem dX6_asText_7 : decode cX6_asText 7 = .ok (.aload_n 0, 1) := by decide +kernel
theorem dX6_asText_8 : decode cX6_asText 8 = .ok (.getfield 15, 3) := by decide +kernel
theorem dX6_asText_11 : decode cX6_asText 11 = .ok (.if_icmp .ne 12, 3) := by decide +kernel
theorem dX6_asText_14 : decode cX6_asText 14 = .ok (.aload_n 0, 1) := by decide +kernel
theorem dX6_asText_15 : decode cX6_asText 15 = .ok (.iconst 0, 1) := by decide +kernel
theorem dX6_asText_16 : decode cX6_asText 16 = .ok (.iload_n 1, 1) := by decide +kernel
theorem dX6_asText_17 : decode cX6_asText 17 = .ok (.invokevirtual 35, 3) := by decide +kernel
theorem dX6_asText_20 : decode cX6_asText 20 = .ok (.goto 6, 3) := by decide +kernel
theorem dX6_asText_23 : decode cX6_asText 23 = .ok (.ldc2_w 39, 3) := by decide +kernel
theorem dX6_asText_26 : decode cX6_asText 26 = .ok (.lreturn, 1) := by decide +kernel
theorem dX7_init_0 : decode cX7_init 0 = .ok (.aload_n 0, 1) := by decide +kernel
theorem dX7_init_1 : decode cX7_init 1 = .ok (.invokespecial 3, 3) := by decide +kernel
theorem dX7_init_4 : decode cX7_init 4 = .ok (.aload_n 0, 1) := by decide +kernel
theorem dX7_init_5 : decode cX7_init 5 = .ok (.bipush 30, 2) := by decide +kernel
theorem dX7_init_7 : decode cX7_init 7 = .ok (.newarray .int, 2) := by decide +kernel
theorem dX7_init_9 : decode cX7_init 9 = .ok (.putfield 9, 3) := by decide +kernel
theorem dX7_init_12 : decode cX7_init 12 = .ok (.aload_n 0, 1) := by decide +kernel
theorem dX7_init_13 : decode cX7_init 13 = .ok (.bipush 30, 2) := by decide +kernel
theorem dX7_init_15 : decode cX7_init 15 = .ok (.newarray .int, 2) := by decide +kernel
theorem dX7_init_17 : decode cX7_init 17 = .ok (.putfield 15, 3) := by decide +kernel
theorem dX7_init_20 : decode cX7_init 20 = .ok (.aload_n 0, 1) := by decide +kernel
theorem dX7_init_21 : decode cX7_init 21 = .ok (.bipush 30, 2) := by decide +kernel
theorem dX7_init_23 : decode cX7_init 23 = .ok (.newarray .int, 2) := by decide +kernel
theorem dX7_init_25 : decode cX7_init 25 = .ok (.putfield 18, 3) := by decide +kernel
theorem dX7_init_28 : decode cX7_init 28 = .ok (.aload_n 0, 1) := by decide +kernel
theorem dX7_init_29 : decode cX7_init 29 = .ok (.bipush 30, 2) := by decide +kernel
theorem dX7_init_31 : decode cX7_init 31 = .ok (.newarray .int, 2) := by decide +kernel
theorem dX7_init_33 : decode cX7_init 33 = .ok (.putfield 21, 3) := by decide +kernel
theorem dX7_init_36 : decode cX7_init 36 = .ok (.aload_n 0, 1) := by decide +kernel
theorem dX7_init_37 : decode cX7_init 37 = .ok (.bipush 30, 2) := by decide +kernel
theorem dX7_init_39 : decode cX7_init 39 = .ok (.newarray .long, 2) := by decide +kernel
theorem dX7_init_41 : decode cX7_init 41 = .ok (.putfield 24, 3) := by decide +kernel
theorem dX7_init_44 : decode cX7_init 44 = .ok (.aload_n 0, 1) := by decide +kernel
theorem dX7_init_45 : decode cX7_init 45 = .ok (.bipush 30, 2) := by decide +kernel
theorem dX7_init_47 : decode cX7_init 47 = .ok (.newarray .long, 2) := by decide +kernel
theorem dX7_init_49 : decode cX7_init 49 = .ok (.putfield 28, 3) := by decide +kernel
theorem dX7_init_52 : decode cX7_init 52 = .ok (.return_, 1) := by decide +kernel
theorem dX7_become_0 : decode cX7_become 0 = .ok (.aload_n 0, 1) := by decide +kernel
theorem dX7_become_1 : decode cX7_become 1 = .ok (.aload_n 1, 1) := by decide +kernel
theorem dX7_become_2 : decode cX7_become 2 = .ok (.iconst 0, 1) := by decide +kernel
theorem dX7_become_3 : decode cX7_become 3 = .ok (.iconst 0, 1) := by decide +kernel
theorem dX7_become_4 : decode cX7_become 4 = .ok (.aload_n 1, 1) := by decide +kernel
theorem dX7_become_5 : decode cX7_become 5 = .ok (.getfield 31, 3) := by decide +kernel
theorem dX7_become_8 : decode cX7_become 8 = .ok (.invokevirtual 35, 3) := by decide +kernel
theorem dX7_become_11 : decode cX7_become 11 = .ok (.aload_n 0, 1) := by decide +kernel
theorem dX7_become_12 : decode cX7_become 12 = .ok (.aload_n 1, 1) := by decide +kernel
theorem dX7_become_13 : decode cX7_become 13 = .ok (.getfield 31, 3) := by decide +kernel
theorem dX7_become_16 : decode cX7_become 16 = .ok (.putfield 31, 3) := by decide +kernel
theorem dX7_become_19 : decode cX7_become 19 = .ok (.aload_n 0, 1) := by decide +kernel
theorem dX7_become_20 : decode cX7_become 20 = .ok (.invokevirtual 39, 3) := by decide +kernel
theorem dX7_become_23 : decode cX7_become 23 = .ok (.return_, 1) := by decide +kernel
theorem dX7_copyRows_0 : decode cX7_copyRows 0 = .ok (.iload_n 2, 1) := by decide +kernel
theorem dX7_copyRows_1 : decode cX7_copyRows 1 = .ok (.ifCond .lt 31, 3) := by decide +kernel
theorem dX7_copyRows_4 : decode cX7_copyRows 4 = .ok (.iload_n 3, 1) := by decide +kernel
theorem dX7_copyRows_5 : decode cX7_copyRows 5 = .ok (.ifCond .lt 27, 3) := by decide +kernel
theorem dX7_copyRows_8 : decode cX7_copyRows 8 = .ok (.iload 4, 2) := by decide +kernel
theorem dX7_copyRows_10 : decode cX7_copyRows 10 = .ok (.iconst 1, 1) := by decide +kernel
theorem dX7_copyRows_11 : decode cX7_copyRows 11 = .ok (.if_icmp .lt 21, 3) := by decide +kernel
theorem dX7_copyRows_14 : decode cX7_copyRows 14 = .ok (.iload 4, 2) := by decide +kernel
theorem dX7_copyRows_16 : decode cX7_copyRows 16 = .ok (.bipush 30, 2) := by decide +kernel
theorem dX7_copyRows_18 : decode cX7_copyRows 18 = .ok (.iload_n 2, 1) := by decide +kernel
theorem dX7_copyRows_19 : decode cX7_copyRows 19 = .ok (.isub, 1) := by decide +kernel
theorem dX7_copyRows_20 : decode cX7_copyRows 20 = .ok (.if_icmp .gt 12, 3) := by decide +kernel
theorem dX7_copyRows_23 : decode cX7_copyRows 23 = .ok (.iload 4, 2) := by decide +kernel
theorem dX7_copyRows_25 : decode cX7_copyRows 25 = .ok (.bipush 30, 2) := by decide +kernel
theorem dX7_copyRows_27 : decode cX7_copyRows 27 = .ok (.iload_n 3, 1) := by decide +kernel
theorem dX7_copyRows_28 : decode cX7_copyRows 28 = .ok (.isub, 1) := by decide +kernel
theorem dX7_copyRows_29 : decode cX7_copyRows 29 = .ok (.if_icmp .le 4, 3) := by decide +kernel
theorem dX7_copyRows_32 : decode cX7_copyRows 32 = .ok (.return_, 1) := by decide +kernel
theorem dX7_copyRows_33 : decode cX7_copyRows 33 = .ok (.aload_n 1, 1) := by decide +kernel
theorem dX7_copyRows_34 : decode cX7_copyRows 34 = .ok (.getfield 9, 3) := by decide +kernel
theorem dX7_copyRows_37 : decode cX7_copyRows 37 = .ok (.iload_n 2, 1) := by decide +kernel
theorem dX7_copyRows_38 : decode cX7_copyRows 38 = .ok (.aload_n 0, 1) := by decide +kernel
theorem dX7_copyRows_39 : decode cX7_copyRows 39 = .ok (.getfield 9, 3) := by decide +kernel
theorem dX7_copyRows_42 : decode cX7_copyRows 42 = .ok (.iload_n 3, 1) := by decide +kernel
theorem dX7_copyRows_43 : decode cX7_copyRows 43 = .ok (.iload 4, 2) := by decide +kernel
theorem dX7_copyRows_45 : decode cX7_copyRows 45 = .ok (.invokestatic 42, 3) := by decide +kernel
theorem dX7_copyRows_48 : decode cX7_copyRows 48 = .ok (.aload_n 1, 1) := by decide +kernel
theorem dX7_copyRows_49 : decode cX7_copyRows 49 = .ok (.getfield 15, 3) := by decide +kernel
theorem dX7_copyRows_52 : decode cX7_copyRows 52 = .ok (.iload_n 2, 1) := by decide +kernel
theorem dX7_copyRows_53 : decode cX7_copyRows 53 = .ok (.aload_n 0, 1) := by decide +kernel
theorem dX7_copyRows_54 : decode cX7_copyRows 54 = .ok (.getfield 15, 3) := by decide +kernel
theorem dX7_copyRows_57 : decode cX7_copyRows 57 = .ok (.iload_n 3, 1) := by decide +kernel
theorem dX7_copyRows_58 : decode cX7_copyRows 58 = .ok (.iload 4, 2) := by decide +kernel
theorem dX7_copyRows_60 : decode cX7_copyRows 60 = .ok (.invokestatic 42, 3) := by decide +kernel
theorem dX7_copyRows_63 : decode cX7_copyRows 63 = .ok (.aload_n 1, 1) := by decide +kernel
theorem dX7_copyRows_64 : decode cX7_copyRows 64 = .ok (.getfield 18, 3) := by decide +kernel
theorem dX7_copyRows_67 : decode cX7_copyRows 67 = .ok (.iload_n 2, 1) := by decide +kernel
theorem dX7_copyRows_68 : decode cX7_copyRows 68 = .ok (.aload_n 0, 1) := by decide +kernel
theorem dX7_copyRows_69 : decode cX7_copyRows 69 = .ok (.getfield 18, 3) := by decide +kernel
theorem dX7_copyRows_72 : decode cX7_copyRows 72 = .ok (.iload_n 3, 1) := by decide +kernel
theorem dX7_copyRows_73 : decode cX7_copyRows 73 = .ok (.iload 4, 2) := by decide +kernel
theorem dX7_copyRows_75 : decode cX7_copyRows 75 = .ok (.invokestatic 42, 3) := by decide +kernel
theorem dX7_copyRows_78 : decode cX7_copyRows 78 = .ok (.aload_n 1, 1) := by decide +kernel
theorem dX7_copyRows_79 : decode cX7_copyRows 79 = .ok (.getfield 24, 3) := by decide +kernel
theorem dX7_copyRows_82 : decode cX7_copyRows 82 = .ok (.iload_n 2, 1) := by decide +kernel
theorem dX7_copyRows_83 : decode cX7_copyRows 83 = .ok (.aload_n 0, 1) := by decide +kernel
theorem dX7_copyRows_84 : decode cX7_copyRows 84 = .ok (.getfield 24, 3) := by decide +kernel
theorem dX7_copyRows_87 : decode cX7_copyRows 87 = .ok (.iload_n 3, 1) := by decide +kernel
theorem dX7_copyRows_88 : decode cX7_copyRows 88 = .ok (.iload 4, 2) := by decide +kernel
theorem dX7_copyRows_90 : decode cX7_copyRows 90 = .ok (.invokestatic 42, 3) := by decide +kernel
theorem dX7_copyRows_93 : decode cX7_copyRows 93 = .ok (.aload_n 1, 1) := by decide +kernel
theorem dX7_copyRows_94 : decode cX7_copyRows 94 = .ok (.getfield 28, 3) := by decide +kernel
theorem dX7_copyRows_97 : decode cX7_copyRows 97 = .ok (.iload_n 2, 1) := by decide +kernel
theorem dX7_copyRows_98 : decode cX7_copyRows 98 = .ok (.aload_n 0, 1) := by decide +kernel
theorem dX7_copyRows_99 : decode cX7_copyRows 99 = .ok (.getfield 28, 3) := by decide +kernel
theorem dX7_copyRows_102 : decode cX7_copyRows 102 = .ok (.iload_n 3, 1) := by decide +kernel
theorem dX7_copyRows_103 : decode cX7_copyRows 103 = .ok (.iload 4, 2) := by decide +kernel
theorem dX7_copyRows_105 : decode cX7_copyRows 105 = .ok (.invokestatic 42, 3) := by decide +kernel
theorem dX7_copyRows_108 : decode cX7_copyRows 108 = .ok (.return_, 1) := by decide +kernel
theorem dX7_measure_0 : decode cX7_measure 0 = .ok (.iconst 0, 1) := by decide +kernel
theorem dX7_measure_1 : decode cX7_measure 1 = .ok (.istore_n 1, 1) := by decide +kernel
theorem dX7_measure_2 : decode cX7_measure 2 = .ok (.iload_n 1, 1) := by decide +kernel
theorem dX7_measure_3 : decode cX7_measure 3 = .ok (.aload_n 0, 1) := by decide +kernel
theorem dX7_measure_4 : decode cX7_measure 4 = .ok (.getfield 31, 3) := by decide +kernel
theorem dX7_measure_7 : decode cX7_measure 7 = .ok (.if_icmp .ge 51, 3) := by decide +kernel
theorem dX7_measure_10 : decode cX7_measure 10 = .ok (.iload_n 1, 1) := by decide +kernel
theorem dX7_measure_11 : decode cX7_measure 11 = .ok (.iconst 1, 1) := by decide +kernel
theorem dX7_measure_12 : decode cX7_measure 12 = .ok (.iadd, 1) := by decide +kernel
theorem dX7_measure_13 : decode cX7_measure 13 = .ok (.istore_n 2, 1) := by decide +kernel
theorem dX7_measure_14 : decode cX7_measure 14 = .ok (.iload_n 2, 1) := by decide +kernel
theorem dX7_measure_15 : decode cX7_measure 15 = .ok (.aload_n 0, 1) := by decide +kernel
theorem dX7_measure_16 : decode cX7_measure 16 = .ok (.getfield 31, 3) := by decide +kernel
theorem dX7_measure_19 : decode cX7_measure 19 = .ok (.if_icmp .ge 24, 3) := by decide +kernel
theorem dX7_measure_22 : decode cX7_measure 22 = .ok (.aload_n 0, 1) := by decide +kernel
theorem dX7_measure_23 : decode cX7_measure 23 = .ok (.getfield 18, 3) := by decide +kernel
theorem dX7_measure_26 : decode cX7_measure 26 = .ok (.iload_n 2, 1) := by decide +kernel
theorem dX7_measure_27 : decode cX7_measure 27 = .ok (.iaload, 1) := by decide +kernel
theorem dX7_measure_28 : decode cX7_measure 28 = .ok (.aload_n 0, 1) := by decide +kernel
theorem dX7_measure_29 : decode cX7_measure 29 = .ok (.getfield 18, 3) := by decide +kernel
theorem dX7_measure_32 : decode cX7_measure 32 = .ok (.iload_n 1, 1) := by decide +kernel
theorem dX7_measure_33 : decode cX7_measure 33 = .ok (.iaload, 1) := by decide +kernel
theorem dX7_measure_34 : decode cX7_measure 34 = .ok (.if_icmp .le 9, 3) := by decide +kernel
theorem dX7_measure_37 : decode cX7_measure 37 = .ok (.iinc 2 1, 3) := by decide +kernel
theorem dX7_measure_40 : decode cX7_measure 40 = .ok (.goto (-26), 3) := by decide +kernel
theorem dX7_measure_43 : decode cX7_measure 43 = .ok (.aload_n 0, 1) := by decide +kernel
theorem dX7_measure_44 : decode cX7_measure 44 = .ok (.getfield 21, 3) := by decide +kernel
theorem dX7_measure_47 : decode cX7_measure 47 = .ok (.iload_n 1, 1) := by decide +kernel
theorem dX7_measure_48 : decode cX7_measure 48 = .ok (.iload_n 2, 1) := by decide +kernel
theorem dX7_measure_49 : decode cX7_measure 49 = .ok (.iload_n 1, 1) := by decide +kernel
theorem dX7_measure_50 : decode cX7_measure 50 = .ok (.isub, 1) := by decide +kernel
theorem dX7_measure_51 : decode cX7_measure 51 = .ok (.iastore, 1) := by decide +kernel
theorem dX7_measure_52 : decode cX7_measure 52 = .ok (.iinc 1 1, 3) := by decide +kernel
theorem dX7_measure_55 : decode cX7_measure 55 = .ok (.goto (-53), 3) := by decide +kernel
theorem dX7_measure_58 : decode cX7_measure 58 = .ok (.return_, 1) := by decide +kernel
theorem dX7_addRow_0 : decode cX7_addRow 0 = .ok (.aload_n 0, 1) := by decide +kernel
theorem dX7_addRow_1 : decode cX7_addRow 1 = .ok (.getfield 31, 3) := by decide +kernel
theorem dX7_addRow_4 : decode cX7_addRow 4 = .ok (.bipush 30, 2) := by decide +kernel
theorem dX7_addRow_6 : decode cX7_addRow 6 = .ok (.if_icmp .lt 5, 3) := by decide +kernel
theorem dX7_addRow_9 : decode cX7_addRow 9 = .ok (.iconst (-1), 1) := by decide +kernel
theorem dX7_addRow_10 : decode cX7_addRow 10 = .ok (.ireturn, 1) := by decide +kernel
theorem dX7_addRow_11 : decode cX7_addRow 11 = .ok (.aload_n 0, 1) := by decide +kernel
theorem dX7_addRow_12 : decode cX7_addRow 12 = .ok (.getfield 18, 3) := by decide +kernel
theorem dX7_addRow_15 : decode cX7_addRow 15 = .ok (.aload_n 0, 1) := by decide +kernel
theorem dX7_addRow_16 : decode cX7_addRow 16 = .ok (.getfield 31, 3) := by decide +kernel
theorem dX7_addRow_19 : decode cX7_addRow 19 = .ok (.iload_n 1, 1) := by decide +kernel
theorem dX7_addRow_20 : decode cX7_addRow 20 = .ok (.iastore, 1) := by decide +kernel
theorem dX7_addRow_21 : decode cX7_addRow 21 = .ok (.aload_n 0, 1) := by decide +kernel
theorem dX7_addRow_22 : decode cX7_addRow 22 = .ok (.dup, 1) := by decide +kernel
theorem dX7_addRow_23 : decode cX7_addRow 23 = .ok (.getfield 31, 3) := by decide +kernel
theorem dX7_addRow_26 : decode cX7_addRow 26 = .ok (.iconst 1, 1) := by decide +kernel
theorem dX7_addRow_27 : decode cX7_addRow 27 = .ok (.iadd, 1) := by decide +kernel
theorem dX7_addRow_28 : decode cX7_addRow 28 = .ok (.putfield 31, 3) := by decide +kernel
theorem dX7_addRow_31 : decode cX7_addRow 31 = .ok (.aload_n 0, 1) := by decide +kernel
theorem dX7_addRow_32 : decode cX7_addRow 32 = .ok (.getfield 31, 3) := by decide +kernel
theorem dX7_addRow_35 : decode cX7_addRow 35 = .ok (.iconst 1, 1) := by decide +kernel
theorem dX7_addRow_36 : decode cX7_addRow 36 = .ok (.isub, 1) := by decide +kernel
theorem dX7_addRow_37 : decode cX7_addRow 37 = .ok (.ireturn, 1) := by decide +kernel
theorem dX7_setRow_0 : decode cX7_setRow 0 = .ok (.aload_n 0, 1) := by decide +kernel
theorem dX7_setRow_1 : decode cX7_setRow 1 = .ok (.getfield 9, 3) := by decide +kernel
theorem dX7_setRow_4 : decode cX7_setRow 4 = .ok (.iload_n 1, 1) := by decide +kernel
theorem dX7_setRow_5 : decode cX7_setRow 5 = .ok (.iload_n 2, 1) := by decide +kernel
theorem dX7_setRow_6 : decode cX7_setRow 6 = .ok (.iastore, 1) := by decide +kernel
theorem dX7_setRow_7 : decode cX7_setRow 7 = .ok (.aload_n 0, 1) := by decide +kernel
theorem dX7_setRow_8 : decode cX7_setRow 8 = .ok (.getfield 15, 3) := by decide +kernel
theorem dX7_setRow_11 : decode cX7_setRow 11 = .ok (.iload_n 1, 1) := by decide +kernel
theorem dX7_setRow_12 : decode cX7_setRow 12 = .ok (.iload_n 3, 1) := by decide +kernel
theorem dX7_setRow_13 : decode cX7_setRow 13 = .ok (.iastore, 1) := by decide +kernel
theorem dX7_setRow_14 : decode cX7_setRow 14 = .ok (.aload_n 0, 1) := by decide +kernel
theorem dX7_setRow_15 : decode cX7_setRow 15 = .ok (.getfield 24, 3) := by decide +kernel
theorem dX7_setRow_18 : decode cX7_setRow 18 = .ok (.iload_n 1, 1) := by decide +kernel
theorem dX7_setRow_19 : decode cX7_setRow 19 = .ok (.lload 4, 2) := by decide +kernel
theorem dX7_setRow_21 : decode cX7_setRow 21 = .ok (.lastore, 1) := by decide +kernel
theorem dX7_setRow_22 : decode cX7_setRow 22 = .ok (.aload_n 0, 1) := by decide +kernel
theorem dX7_setRow_23 : decode cX7_setRow 23 = .ok (.getfield 28, 3) := by decide +kernel
theorem dX7_setRow_26 : decode cX7_setRow 26 = .ok (.iload_n 1, 1) := by decide +kernel
theorem dX7_setRow_27 : decode cX7_setRow 27 = .ok (.lconst 0, 1) := by decide +kernel
theorem dX7_setRow_28 : decode cX7_setRow 28 = .ok (.lastore, 1) := by decide +kernel
theorem dX7_setRow_29 : decode cX7_setRow 29 = .ok (.return_, 1) := by decide +kernel
theorem dX7_rowOf_0 : decode cX7_rowOf 0 = .ok (.iconst 0, 1) := by decide +kernel
theorem dX7_rowOf_1 : decode cX7_rowOf 1 = .ok (.istore_n 2, 1) := by decide +kernel
theorem dX7_rowOf_2 : decode cX7_rowOf 2 = .ok (.iload_n 2, 1) := by decide +kernel
theorem dX7_rowOf_3 : decode cX7_rowOf 3 = .ok (.aload_n 0, 1) := by decide +kernel
theorem dX7_rowOf_4 : decode cX7_rowOf 4 = .ok (.getfield 31, 3) := by decide +kernel
theorem dX7_rowOf_7 : decode cX7_rowOf 7 = .ok (.if_icmp .ge 21, 3) := by decide +kernel
theorem dX7_rowOf_10 : decode cX7_rowOf 10 = .ok (.aload_n 0, 1) := by decide +kernel
theorem dX7_rowOf_11 : decode cX7_rowOf 11 = .ok (.getfield 9, 3) := by decide +kernel
theorem dX7_rowOf_14 : decode cX7_rowOf 14 = .ok (.iload_n 2, 1) := by decide +kernel
theorem dX7_rowOf_15 : decode cX7_rowOf 15 = .ok (.iaload, 1) := by decide +kernel
theorem dX7_rowOf_16 : decode cX7_rowOf 16 = .ok (.iload_n 1, 1) := by decide +kernel
theorem dX7_rowOf_17 : decode cX7_rowOf 17 = .ok (.if_icmp .ne 5, 3) := by decide +kernel
theorem dX7_rowOf_20 : decode cX7_rowOf 20 = .ok (.iload_n 2, 1) := by decide +kernel
theorem dX7_rowOf_21 : decode cX7_rowOf 21 = .ok (.ireturn, 1) := by decide +kernel
theorem dX7_rowOf_22 : decode cX7_rowOf 22 = .ok (.iinc 2 1, 3) := by decide +kernel
theorem dX7_rowOf_25 : decode cX7_rowOf 25 = .ok (.goto (-23), 3) := by decide +kernel
theorem dX7_rowOf_28 : decode cX7_rowOf 28 = .ok (.iconst (-1), 1) := by decide +kernel
theorem dX7_rowOf_29 : decode cX7_rowOf 29 = .ok (.ireturn, 1) := by decide +kernel
theorem dX7_endOf_0 : decode cX7_endOf 0 = .ok (.iload_n 1, 1) := by decide +kernel
theorem dX7_endOf_1 : decode cX7_endOf 1 = .ok (.aload_n 0, 1) := by decide +kernel
theorem dX7_endOf_2 : decode cX7_endOf 2 = .ok (.getfield 21, 3) := by decide +kernel
theorem dX7_endOf_5 : decode cX7_endOf 5 = .ok (.iload_n 1, 1) := by decide +kernel
theorem dX7_endOf_6 : decode cX7_endOf 6 = .ok (.iaload, 1) := by decide +kernel
theorem dX7_endOf_7 : decode cX7_endOf 7 = .ok (.iadd, 1) := by decide +kernel
theorem dX7_endOf_8 : decode cX7_endOf 8 = .ok (.ireturn, 1) := by decide +kernel
theorem dX7_isChild_0 : decode cX7_isChild 0 = .ok (.aload_n 0, 1) := by decide +kernel
theorem dX7_isChild_1 : decode cX7_isChild 1 = .ok (.getfield 18, 3) := by decide +kernel
theorem dX7_isChild_4 : decode cX7_isChild 4 = .ok (.iload_n 1, 1) := by decide +kernel
theorem dX7_isChild_5 : decode cX7_isChild 5 = .ok (.iaload, 1) := by decide +kernel
theorem dX7_isChild_6 : decode cX7_isChild 6 = .ok (.aload_n 0, 1) := by decide +kernel
theorem dX7_isChild_7 : decode cX7_isChild 7 = .ok (.getfield 18, 3) := by decide +kernel
theorem dX7_isChild_10 : decode cX7_isChild 10 = .ok (.iload_n 2, 1) := by decide +kernel
theorem dX7_isChild_11 : decode cX7_isChild 11 = .ok (.iaload, 1) := by decide +kernel
theorem dX7_isChild_12 : decode cX7_isChild 12 = .ok (.iconst 1, 1) := by decide +kernel
theorem dX7_isChild_13 : decode cX7_isChild 13 = .ok (.iadd, 1) := by decide +kernel
theorem dX7_isChild_14 : decode cX7_isChild 14 = .ok (.if_icmp .ne 7, 3) := by decide +kernel
theorem dX7_isChild_17 : decode cX7_isChild 17 = .ok (.iconst 1, 1) := by decide +kernel
theorem dX7_isChild_18 : decode cX7_isChild 18 = .ok (.goto 4, 3) := by decide +kernel
theorem dX7_isChild_21 : decode cX7_isChild 21 = .ok (.iconst 0, 1) := by decide +kernel
theorem dX7_isChild_22 : decode cX7_isChild 22 = .ok (.ireturn, 1) := by decide +kernel
theorem dX7_childrenOf_0 : decode cX7_childrenOf 0 = .ok (.iconst 0, 1) := by decide +kernel
theorem dX7_childrenOf_1 : decode cX7_childrenOf 1 = .ok (.istore_n 2, 1) := by decide +kernel
theorem dX7_childrenOf_2 : decode cX7_childrenOf 2 = .ok (.iload_n 1, 1) := by decide +kernel
theorem dX7_childrenOf_3 : decode cX7_childrenOf 3 = .ok (.iconst 1, 1) := by decide +kernel
theorem dX7_childrenOf_4 : decode cX7_childrenOf 4 = .ok (.iadd, 1) := by decide +kernel
theorem dX7_childrenOf_5 : decode cX7_childrenOf 5 = .ok (.istore_n 3, 1) := by decide +kernel
theorem dX7_childrenOf_6 : decode cX7_childrenOf 6 = .ok (.iload_n 3, 1) := by decide +kernel
theorem dX7_childrenOf_7 : decode cX7_childrenOf 7 = .ok (.aload_n 0, 1) := by decide +kernel
theorem dX7_childrenOf_8 : decode cX7_childrenOf 8 = .ok (.iload_n 1, 1) := by decide +kernel
theorem dX7_childrenOf_9 : decode cX7_childrenOf 9 = .ok (.invokevirtual 48, 3) := by decide +kernel
theorem dX7_childrenOf_12 : decode cX7_childrenOf 12 = .ok (.if_icmp .ge 21, 3) := by decide +kernel
theorem dX7_childrenOf_15 : decode cX7_childrenOf 15 = .ok (.aload_n 0, 1) := by decide +kernel
theorem dX7_childrenOf_16 : decode cX7_childrenOf 16 = .ok (.iload_n 3, 1) := by decide +kernel
theorem dX7_childrenOf_17 : decode cX7_childrenOf 17 = .ok (.iload_n 1, 1) := by decide +kernel
theorem dX7_childrenOf_18 : decode cX7_childrenOf 18 = .ok (.invokevirtual 52, 3) := by decide +kernel
theorem dX7_childrenOf_21 : decode cX7_childrenOf 21 = .ok (.ifCond .eq 6, 3) := by decide +kernel
theorem dX7_childrenOf_24 : decode cX7_childrenOf 24 = .ok (.iinc 2 1, 3) := by decide +kernel
theorem dX7_childrenOf_27 : decode cX7_childrenOf 27 = .ok (.iinc 3 1, 3) := by decide +kernel
theorem dX7_childrenOf_30 : decode cX7_childrenOf 30 = .ok (.goto (-24), 3) := by decide +kernel
theorem dX7_childrenOf_33 : decode cX7_childrenOf 33 = .ok (.iload_n 2, 1) := by decide +kernel
theorem dX7_childrenOf_34 : decode cX7_childrenOf 34 = .ok (.ireturn, 1) := by decide +kernel
theorem dX7_childAfter_0 : decode cX7_childAfter 0 = .ok (.iload_n 2, 1) := by decide +kernel
theorem dX7_childAfter_1 : decode cX7_childAfter 1 = .ok (.iconst 1, 1) := by decide +kernel
theorem dX7_childAfter_2 : decode cX7_childAfter 2 = .ok (.iadd, 1) := by decide +kernel
theorem dX7_childAfter_3 : decode cX7_childAfter 3 = .ok (.istore_n 3, 1) := by decide +kernel
theorem dX7_childAfter_4 : decode cX7_childAfter 4 = .ok (.iload_n 3, 1) := by decide +kernel
theorem dX7_childAfter_5 : decode cX7_childAfter 5 = .ok (.aload_n 0, 1) := by decide +kernel
theorem dX7_childAfter_6 : decode cX7_childAfter 6 = .ok (.iload_n 1, 1) := by decide +kernel
theorem dX7_childAfter_7 : decode cX7_childAfter 7 = .ok (.invokevirtual 48, 3) := by decide +kernel
theorem dX7_childAfter_10 : decode cX7_childAfter 10 = .ok (.if_icmp .ge 20, 3) := by decide +kernel
theorem dX7_childAfter_13 : decode cX7_childAfter 13 = .ok (.aload_n 0, 1) := by decide +kernel
theorem dX7_childAfter_14 : decode cX7_childAfter 14 = .ok (.iload_n 3, 1) := by decide +kernel
theorem dX7_childAfter_15 : decode cX7_childAfter 15 = .ok (.iload_n 1, 1) := by decide +kernel
theorem dX7_childAfter_16 : decode cX7_childAfter 16 = .ok (.invokevirtual 52, 3) := by decide +kernel
theorem dX7_childAfter_19 : decode cX7_childAfter 19 = .ok (.ifCond .eq 5, 3) := by decide +kernel
theorem dX7_childAfter_22 : decode cX7_childAfter 22 = .ok (.iload_n 3, 1) := by decide +kernel
theorem dX7_childAfter_23 : decode cX7_childAfter 23 = .ok (.ireturn, 1) := by decide +kernel
theorem dX7_childAfter_24 : decode cX7_childAfter 24 = .ok (.iinc 3 1, 3) := by decide +kernel
theorem dX7_childAfter_27 : decode cX7_childAfter 27 = .ok (.goto (-23), 3) := by decide +kernel
theorem dX7_childAfter_30 : decode cX7_childAfter 30 = .ok (.aload_n 0, 1) := by decide +kernel
theorem dX7_childAfter_31 : decode cX7_childAfter 31 = .ok (.iload_n 1, 1) := by decide +kernel
theorem dX7_childAfter_32 : decode cX7_childAfter 32 = .ok (.invokevirtual 48, 3) := by decide +kernel
theorem dX7_childAfter_35 : decode cX7_childAfter 35 = .ok (.ireturn, 1) := by decide +kernel
theorem dX7_childAt_0 : decode cX7_childAt 0 = .ok (.aload_n 0, 1) := by decide +kernel
theorem dX7_childAt_1 : decode cX7_childAt 1 = .ok (.iload_n 1, 1) := by decide +kernel
theorem dX7_childAt_2 : decode cX7_childAt 2 = .ok (.iload_n 1, 1) := by decide +kernel
theorem dX7_childAt_3 : decode cX7_childAt 3 = .ok (.invokevirtual 56, 3) := by decide +kernel
theorem dX7_childAt_6 : decode cX7_childAt 6 = .ok (.istore_n 3, 1) := by decide +kernel
theorem dX7_childAt_7 : decode cX7_childAt 7 = .ok (.iconst 0, 1) := by decide +kernel
theorem dX7_childAt_8 : decode cX7_childAt 8 = .ok (.istore 4, 2) := by decide +kernel
theorem dX7_childAt_10 : decode cX7_childAt 10 = .ok (.iload 4, 2) := by decide +kernel
theorem dX7_childAt_12 : decode cX7_childAt 12 = .ok (.iload_n 2, 1) := by decide +kernel
theorem dX7_childAt_13 : decode cX7_childAt 13 = .ok (.if_icmp .ge 25, 3) := by decide +kernel
theorem dX7_childAt_16 : decode cX7_childAt 16 = .ok (.iload_n 3, 1) := by decide +kernel
theorem dX7_childAt_17 : decode cX7_childAt 17 = .ok (.aload_n 0, 1) := by decide +kernel
theorem dX7_childAt_18 : decode cX7_childAt 18 = .ok (.iload_n 1, 1) := by decide +kernel
theorem dX7_childAt_19 : decode cX7_childAt 19 = .ok (.invokevirtual 48, 3) := by decide +kernel
theorem dX7_childAt_22 : decode cX7_childAt 22 = .ok (.if_icmp .ge 16, 3) := by decide +kernel
theorem dX7_childAt_25 : decode cX7_childAt 25 = .ok (.aload_n 0, 1) := by decide +kernel
theorem dX7_childAt_26 : decode cX7_childAt 26 = .ok (.iload_n 1, 1) := by decide +kernel
theorem dX7_childAt_27 : decode cX7_childAt 27 = .ok (.iload_n 3, 1) := by decide +kernel
theorem dX7_childAt_28 : decode cX7_childAt 28 = .ok (.invokevirtual 56, 3) := by decide +kernel
theorem dX7_childAt_31 : decode cX7_childAt 31 = .ok (.istore_n 3, 1) := by decide +kernel
theorem dX7_childAt_32 : decode cX7_childAt 32 = .ok (.iinc 4 1, 3) := by decide +kernel
theorem dX7_childAt_35 : decode cX7_childAt 35 = .ok (.goto (-25), 3) := by decide +kernel
theorem dX7_childAt_38 : decode cX7_childAt 38 = .ok (.iload_n 3, 1) := by decide +kernel
theorem dX7_childAt_39 : decode cX7_childAt 39 = .ok (.ireturn, 1) := by decide +kernel
theorem dX7_parentOf_0 : decode cX7_parentOf 0 = .ok (.iload_n 1, 1) := by decide +kernel
theorem dX7_parentOf_1 : decode cX7_parentOf 1 = .ok (.iconst 1, 1) := by decide +kernel
theorem dX7_parentOf_2 : decode cX7_parentOf 2 = .ok (.isub, 1) := by decide +kernel
theorem dX7_parentOf_3 : decode cX7_parentOf 3 = .ok (.istore_n 2, 1) := by decide +kernel
theorem dX7_parentOf_4 : decode cX7_parentOf 4 = .ok (.iload_n 2, 1) := by decide +kernel
theorem dX7_parentOf_5 : decode cX7_parentOf 5 = .ok (.ifCond .lt 26, 3) := by decide +kernel
theorem dX7_parentOf_8 : decode cX7_parentOf 8 = .ok (.aload_n 0, 1) := by decide +kernel
theorem dX7_parentOf_9 : decode cX7_parentOf 9 = .ok (.getfield 18, 3) := by decide +kernel
theorem dX7_parentOf_12 : decode cX7_parentOf 12 = .ok (.iload_n 2, 1) := by decide +kernel
theorem dX7_parentOf_13 : decode cX7_parentOf 13 = .ok (.iaload, 1) := by decide +kernel
theorem dX7_parentOf_14 : decode cX7_parentOf 14 = .ok (.aload_n 0, 1) := by decide +kernel
theorem dX7_parentOf_15 : decode cX7_parentOf 15 = .ok (.getfield 18, 3) := by decide +kernel
theorem dX7_parentOf_18 : decode cX7_parentOf 18 = .ok (.iload_n 1, 1) := by decide +kernel
theorem dX7_parentOf_19 : decode cX7_parentOf 19 = .ok (.iaload, 1) := by decide +kernel
theorem dX7_parentOf_20 : decode cX7_parentOf 20 = .ok (.if_icmp .ge 5, 3) := by decide +kernel
theorem dX7_parentOf_23 : decode cX7_parentOf 23 = .ok (.iload_n 2, 1) := by decide +kernel
theorem dX7_parentOf_24 : decode cX7_parentOf 24 = .ok (.ireturn, 1) := by decide +kernel
theorem dX7_parentOf_25 : decode cX7_parentOf 25 = .ok (.iinc 2 (-1), 3) := by decide +kernel
theorem dX7_parentOf_28 : decode cX7_parentOf 28 = .ok (.goto (-24), 3) := by decide +kernel
theorem dX7_parentOf_31 : decode cX7_parentOf 31 = .ok (.iconst (-1), 1) := by decide +kernel
theorem dX7_parentOf_32 : decode cX7_parentOf 32 = .ok (.ireturn, 1) := by decide +kernel
theorem dX7_behind_0 : decode cX7_behind 0 = .ok (.iload_n 1, 1) := by decide +kernel
theorem dX7_behind_1 : decode cX7_behind 1 = .ok (.aload_n 0, 1) := by decide +kernel
theorem dX7_behind_2 : decode cX7_behind 2 = .ok (.getfield 18, 3) := by decide +kernel
theorem dX7_behind_5 : decode cX7_behind 5 = .ok (.iload_n 1, 1) := by decide +kernel
theorem dX7_behind_6 : decode cX7_behind 6 = .ok (.iaload, 1) := by decide +kernel
theorem dX7_behind_7 : decode cX7_behind 7 = .ok (.isub, 1) := by decide +kernel
theorem dX7_behind_8 : decode cX7_behind 8 = .ok (.aload_n 0, 1) := by decide +kernel
theorem dX7_behind_9 : decode cX7_behind 9 = .ok (.getfield 21, 3) := by decide +kernel
theorem dX7_behind_12 : decode cX7_behind 12 = .ok (.iload_n 1, 1) := by decide +kernel
theorem dX7_behind_13 : decode cX7_behind 13 = .ok (.iaload, 1) := by decide +kernel
theorem dX7_behind_14 : decode cX7_behind 14 = .ok (.iadd, 1) := by decide +kernel
theorem dX7_behind_15 : decode cX7_behind 15 = .ok (.iconst 1, 1) := by decide +kernel
theorem dX7_behind_16 : decode cX7_behind 16 = .ok (.isub, 1) := by decide +kernel
theorem dX7_behind_17 : decode cX7_behind 17 = .ok (.ireturn, 1) := by decide +kernel
theorem dX7_isTooDeep_0 : decode cX7_isTooDeep 0 = .ok (.iconst 0, 1) := by decide +kernel
theorem dX7_isTooDeep_1 : decode cX7_isTooDeep 1 = .ok (.istore_n 1, 1) := by decide +kernel
theorem dX7_isTooDeep_2 : decode cX7_isTooDeep 2 = .ok (.iload_n 1, 1) := by decide +kernel
theorem dX7_isTooDeep_3 : decode cX7_isTooDeep 3 = .ok (.aload_n 0, 1) := by decide +kernel
theorem dX7_isTooDeep_4 : decode cX7_isTooDeep 4 = .ok (.getfield 31, 3) := by decide +kernel
theorem dX7_isTooDeep_7 : decode cX7_isTooDeep 7 = .ok (.if_icmp .ge 22, 3) := by decide +kernel
theorem dX7_isTooDeep_10 : decode cX7_isTooDeep 10 = .ok (.aload_n 0, 1) := by decide +kernel
theorem dX7_isTooDeep_11 : decode cX7_isTooDeep 11 = .ok (.getfield 18, 3) := by decide +kernel
theorem dX7_isTooDeep_14 : decode cX7_isTooDeep 14 = .ok (.iload_n 1, 1) := by decide +kernel
theorem dX7_isTooDeep_15 : decode cX7_isTooDeep 15 = .ok (.iaload, 1) := by decide +kernel
theorem dX7_isTooDeep_16 : decode cX7_isTooDeep 16 = .ok (.bipush 11, 2) := by decide +kernel
theorem dX7_isTooDeep_18 : decode cX7_isTooDeep 18 = .ok (.if_icmp .le 5, 3) := by decide +kernel
theorem dX7_isTooDeep_21 : decode cX7_isTooDeep 21 = .ok (.iconst 1, 1) := by decide +kernel
theorem dX7_isTooDeep_22 : decode cX7_isTooDeep 22 = .ok (.ireturn, 1) := by decide +kernel
theorem dX7_isTooDeep_23 : decode cX7_isTooDeep 23 = .ok (.iinc 1 1, 3) := by decide +kernel
theorem dX7_isTooDeep_26 : decode cX7_isTooDeep 26 = .ok (.goto (-24), 3) := by decide +kernel
theorem dX7_isTooDeep_29 : decode cX7_isTooDeep 29 = .ok (.iconst 0, 1) := by decide +kernel
theorem dX7_isTooDeep_30 : decode cX7_isTooDeep 30 = .ok (.ireturn, 1) := by decide +kernel
theorem dX7_hasTwins_0 : decode cX7_hasTwins 0 = .ok (.iconst 0, 1) := by decide +kernel
theorem dX7_hasTwins_1 : decode cX7_hasTwins 1 = .ok (.istore_n 1, 1) := by decide +kernel
theorem dX7_hasTwins_2 : decode cX7_hasTwins 2 = .ok (.iload_n 1, 1) := by decide +kernel
theorem dX7_hasTwins_3 : decode cX7_hasTwins 3 = .ok (.aload_n 0, 1) := by decide +kernel
theorem dX7_hasTwins_4 : decode cX7_hasTwins 4 = .ok (.getfield 31, 3) := by decide +kernel
theorem dX7_hasTwins_7 : decode cX7_hasTwins 7 = .ok (.if_icmp .ge 29, 3) := by decide +kernel
theorem dX7_hasTwins_10 : decode cX7_hasTwins 10 = .ok (.aload_n 0, 1) := by decide +kernel
theorem dX7_hasTwins_11 : decode cX7_hasTwins 11 = .ok (.getfield 15, 3) := by decide +kernel
theorem dX7_hasTwins_14 : decode cX7_hasTwins 14 = .ok (.iload_n 1, 1) := by decide +kernel
theorem dX7_hasTwins_15 : decode cX7_hasTwins 15 = .ok (.iaload, 1) := by decide +kernel
theorem dX7_hasTwins_16 : decode cX7_hasTwins 16 = .ok (.iconst 2, 1) := by decide +kernel
theorem dX7_hasTwins_17 : decode cX7_hasTwins 17 = .ok (.if_icmp .ne 13, 3) := by decide +kernel
theorem dX7_hasTwins_20 : decode cX7_hasTwins 20 = .ok (.aload_n 0, 1) := by decide +kernel
theorem dX7_hasTwins_21 : decode cX7_hasTwins 21 = .ok (.iload_n 1, 1) := by decide +kernel
theorem dX7_hasTwins_22 : decode cX7_hasTwins 22 = .ok (.invokevirtual 60, 3) := by decide +kernel
theorem dX7_hasTwins_25 : decode cX7_hasTwins 25 = .ok (.ifCond .eq 5, 3) := by decide +kernel
theorem dX7_hasTwins_28 : decode cX7_hasTwins 28 = .ok (.iconst 1, 1) := by decide +kernel
theorem dX7_hasTwins_29 : decode cX7_hasTwins 29 = .ok (.ireturn, 1) := by decide +kernel
theorem dX7_hasTwins_30 : decode cX7_hasTwins 30 = .ok (.iinc 1 1, 3) := by decide +kernel
theorem dX7_hasTwins_33 : decode cX7_hasTwins 33 = .ok (.goto (-31), 3) := by decide +kernel
theorem dX7_hasTwins_36 : decode cX7_hasTwins 36 = .ok (.iconst 0, 1) := by decide +kernel
theorem dX7_hasTwins_37 : decode cX7_hasTwins 37 = .ok (.ireturn, 1) := by decide +kernel
theorem dX7_hasTwinsUnder_0 : decode cX7_hasTwinsUnder 0 = .ok (.iload_n 1, 1) := by decide +kernel
theorem dX7_hasTwinsUnder_1 : decode cX7_hasTwinsUnder 1 = .ok (.iconst 1, 1) := by decide +kernel
theorem dX7_hasTwinsUnder_2 : decode cX7_hasTwinsUnder 2 = .ok (.iadd, 1) := by decide +kernel
theorem dX7_hasTwinsUnder_3 : decode cX7_hasTwinsUnder 3 = .ok (.istore_n 2, 1) := by decide +kernel
theorem dX7_hasTwinsUnder_4 : decode cX7_hasTwinsUnder 4 = .ok (.iload_n 2, 1) := by decide +kernel
theorem dX7_hasTwinsUnder_5 : decode cX7_hasTwinsUnder 5 = .ok (.aload_n 0, 1) := by decide +kernel
theorem dX7_hasTwinsUnder_6 : decode cX7_hasTwinsUnder 6 = .ok (.iload_n 1, 1) := by decide +kernel
theorem dX7_hasTwinsUnder_7 : decode cX7_hasTwinsUnder 7 = .ok (.invokevirtual 48, 3) := by decide +kernel
theorem dX7_hasTwinsUnder_10 : decode cX7_hasTwinsUnder 10 = .ok (.if_icmp .ge 42, 3) := by decide +kernel
theorem dX7_hasTwinsUnder_13 : decode cX7_hasTwinsUnder 13 = .ok (.aload_n 0, 1) := by decide +kernel
theorem dX7_hasTwinsUnder_14 : decode cX7_hasTwinsUnder 14 = .ok (.iload_n 2, 1) := by decide +kernel
theorem dX7_hasTwinsUnder_15 : decode cX7_hasTwinsUnder 15 = .ok (.iload_n 1, 1) := by decide +kernel
theorem dX7_hasTwinsUnder_16 : decode cX7_hasTwinsUnder 16 = .ok (.invokevirtual 52, 3) := by decide +kernel
theorem dX7_hasTwinsUnder_19 : decode cX7_hasTwinsUnder 19 = .ok (.ifCond .eq 27, 3) := by decide +kernel
theorem dX7_hasTwinsUnder_22 : decode cX7_hasTwinsUnder 22 = .ok (.aload_n 0, 1) := by decide +kernel
theorem dX7_hasTwinsUnder_23 : decode cX7_hasTwinsUnder 23 = .ok (.iload_n 1, 1) := by decide +kernel
theorem dX7_hasTwinsUnder_24 : decode cX7_hasTwinsUnder 24 = .ok (.iload_n 2, 1) := by decide +kernel
theorem dX7_hasTwinsUnder_25 : decode cX7_hasTwinsUnder 25 = .ok (.iconst 1, 1) := by decide +kernel
theorem dX7_hasTwinsUnder_26 : decode cX7_hasTwinsUnder 26 = .ok (.iadd, 1) := by decide +kernel
theorem dX7_hasTwinsUnder_27 : decode cX7_hasTwinsUnder 27 = .ok (.aload_n 0, 1) := by decide +kernel
theorem dX7_hasTwinsUnder_28 : decode cX7_hasTwinsUnder 28 = .ok (.iload_n 1, 1) := by decide +kernel
theorem dX7_hasTwinsUnder_29 : decode cX7_hasTwinsUnder 29 = .ok (.invokevirtual 48, 3) := by decide +kernel
theorem dX7_hasTwinsUnder_32 : decode cX7_hasTwinsUnder 32 = .ok (.aload_n 0, 1) := by decide +kernel
theorem dX7_hasTwinsUnder_33 : decode cX7_hasTwinsUnder 33 = .ok (.getfield 24, 3) := by decide +kernel
theorem dX7_hasTwinsUnder_36 : decode cX7_hasTwinsUnder 36 = .ok (.iload_n 2, 1) := by decide +kernel
theorem dX7_hasTwinsUnder_37 : decode cX7_hasTwinsUnder 37 = .ok (.laload, 1) := by decide +kernel
theorem dX7_hasTwinsUnder_38 : decode cX7_hasTwinsUnder 38 = .ok (.invokevirtual 64, 3) := by decide +kernel
theorem dX7_hasTwinsUnder_41 : decode cX7_hasTwinsUnder 41 = .ok (.ifCond .eq 5, 3) := by decide +kernel
theorem dX7_hasTwinsUnder_44 : decode cX7_hasTwinsUnder 44 = .ok (.iconst 1, 1) := by decide +kernel
theorem dX7_hasTwinsUnder_45 : decode cX7_hasTwinsUnder 45 = .ok (.ireturn, 1) := by decide +kernel
theorem dX7_hasTwinsUnder_46 : decode cX7_hasTwinsUnder 46 = .ok (.iinc 2 1, 3) := by decide +kernel
theorem dX7_hasTwinsUnder_49 : decode cX7_hasTwinsUnder 49 = .ok (.goto (-45), 3) := by decide +kernel
theorem dX7_hasTwinsUnder_52 : decode cX7_hasTwinsUnder 52 = .ok (.iconst 0, 1) := by decide +kernel
theorem dX7_hasTwinsUnder_53 : decode cX7_hasTwinsUnder 53 = .ok (.ireturn, 1) := by decide +kernel
theorem dX7_isLabelUnder_0 : decode cX7_isLabelUnder 0 = .ok (.iload_n 2, 1) := by decide +kernel
theorem dX7_isLabelUnder_1 : decode cX7_isLabelUnder 1 = .ok (.istore 6, 2) := by decide +kernel
theorem dX7_isLabelUnder_3 : decode cX7_isLabelUnder 3 = .ok (.iload 6, 2) := by decide +kernel
theorem dX7_isLabelUnder_5 : decode cX7_isLabelUnder 5 = .ok (.iload_n 3, 1) := by decide +kernel
theorem dX7_isLabelUnder_6 : decode cX7_isLabelUnder 6 = .ok (.if_icmp .ge 34, 3) := by decide +kernel
theorem dX7_isLabelUnder_9 : decode cX7_isLabelUnder 9 = .ok (.aload_n 0, 1) := by decide +kernel
theorem dX7_isLabelUnder_10 : decode cX7_isLabelUnder 10 = .ok (.iload 6, 2) := by decide +kernel
theorem dX7_isLabelUnder_12 : decode cX7_isLabelUnder 12 = .ok (.iload_n 1, 1) := by decide +kernel
theorem dX7_isLabelUnder_13 : decode cX7_isLabelUnder 13 = .ok (.invokevirtual 52, 3) := by decide +kernel
theorem dX7_isLabelUnder_16 : decode cX7_isLabelUnder 16 = .ok (.ifCond .eq 18, 3) := by decide +kernel
theorem dX7_isLabelUnder_19 : decode cX7_isLabelUnder 19 = .ok (.aload_n 0, 1) := by decide +kernel
theorem dX7_isLabelUnder_20 : decode cX7_isLabelUnder 20 = .ok (.getfield 24, 3) := by decide +kernel
theorem dX7_isLabelUnder_23 : decode cX7_isLabelUnder 23 = .ok (.iload 6, 2) := by decide +kernel
theorem dX7_isLabelUnder_25 : decode cX7_isLabelUnder 25 = .ok (.laload, 1) := by decide +kernel
theorem dX7_isLabelUnder_26 : decode cX7_isLabelUnder 26 = .ok (.lload 4, 2) := by decide +kernel
theorem dX7_isLabelUnder_28 : decode cX7_isLabelUnder 28 = .ok (.lcmp, 1) := by decide +kernel
theorem dX7_isLabelUnder_29 : decode cX7_isLabelUnder 29 = .ok (.ifCond .ne 5, 3) := by decide +kernel
theorem dX7_isLabelUnder_32 : decode cX7_isLabelUnder 32 = .ok (.iconst 1, 1) := by decide +kernel
theorem dX7_isLabelUnder_33 : decode cX7_isLabelUnder 33 = .ok (.ireturn, 1) := by decide +kernel
theorem dX7_isLabelUnder_34 : decode cX7_isLabelUnder 34 = .ok (.iinc 6 1, 3) := by decide +kernel
theorem dX7_isLabelUnder_37 : decode cX7_isLabelUnder 37 = .ok (.goto (-34), 3) := by decide +kernel
theorem dX7_isLabelUnder_40 : decode cX7_isLabelUnder 40 = .ok (.iconst 0, 1) := by decide +kernel
theorem dX7_isLabelUnder_41 : decode cX7_isLabelUnder 41 = .ok (.ireturn, 1) := by decide +kernel
theorem dX7_shiftDepths_0 : decode cX7_shiftDepths 0 = .ok (.iload_n 1, 1) := by decide +kernel
theorem dX7_shiftDepths_1 : decode cX7_shiftDepths 1 = .ok (.istore 4, 2) := by decide +kernel
theorem dX7_shiftDepths_3 : decode cX7_shiftDepths 3 = .ok (.iload 4, 2) := by decide +kernel
theorem dX7_shiftDepths_5 : decode cX7_shiftDepths 5 = .ok (.iload_n 2, 1) := by decide +kernel
theorem dX7_shiftDepths_6 : decode cX7_shiftDepths 6 = .ok (.if_icmp .ge 20, 3) := by decide +kernel
theorem dX7_shiftDepths_9 : decode cX7_shiftDepths 9 = .ok (.aload_n 0, 1) := by decide +kernel
theorem dX7_shiftDepths_10 : decode cX7_shiftDepths 10 = .ok (.getfield 18, 3) := by decide +kernel
theorem dX7_shiftDepths_13 : decode cX7_shiftDepths 13 = .ok (.iload 4, 2) := by decide +kernel
theorem dX7_shiftDepths_15 : decode cX7_shiftDepths 15 = .ok (.dup2, 1) := by decide +kernel
theorem dX7_shiftDepths_16 : decode cX7_shiftDepths 16 = .ok (.iaload, 1) := by decide +kernel
theorem dX7_shiftDepths_17 : decode cX7_shiftDepths 17 = .ok (.iload_n 3, 1) := by decide +kernel
theorem dX7_shiftDepths_18 : decode cX7_shiftDepths 18 = .ok (.iadd, 1) := by decide +kernel
theorem dX7_shiftDepths_19 : decode cX7_shiftDepths 19 = .ok (.iastore, 1) := by decide +kernel
theorem dX7_shiftDepths_20 : decode cX7_shiftDepths 20 = .ok (.iinc 4 1, 3) := by decide +kernel
theorem dX7_shiftDepths_23 : decode cX7_shiftDepths 23 = .ok (.goto (-20), 3) := by decide +kernel
theorem dX7_shiftDepths_26 : decode cX7_shiftDepths 26 = .ok (.return_, 1) := by decide +kernel
theorem dX7_wrap_0 : decode cX7_wrap 0 = .ok (.aload_n 0, 1) := by decide +kernel
theorem dX7_wrap_1 : decode cX7_wrap 1 = .ok (.iload_n 1, 1) := by decide +kernel
theorem dX7_wrap_2 : decode cX7_wrap 2 = .ok (.iload_n 2, 1) := by decide +kernel
theorem dX7_wrap_3 : decode cX7_wrap 3 = .ok (.invokevirtual 68, 3) := by decide +kernel
theorem dX7_wrap_6 : decode cX7_wrap 6 = .ok (.istore 4, 2) := by decide +kernel
theorem dX7_wrap_8 : decode cX7_wrap 8 = .ok (.aload_n 0, 1) := by decide +kernel
theorem dX7_wrap_9 : decode cX7_wrap 9 = .ok (.iload_n 1, 1) := by decide +kernel
theorem dX7_wrap_10 : decode cX7_wrap 10 = .ok (.iload_n 2, 1) := by decide +kernel
theorem dX7_wrap_11 : decode cX7_wrap 11 = .ok (.iload_n 3, 1) := by decide +kernel
theorem dX7_wrap_12 : decode cX7_wrap 12 = .ok (.iadd, 1) := by decide +kernel
theorem dX7_wrap_13 : decode cX7_wrap 13 = .ok (.invokevirtual 68, 3) := by decide +kernel
theorem dX7_wrap_16 : decode cX7_wrap 16 = .ok (.istore 5, 2) := by decide +kernel
theorem dX7_wrap_18 : decode cX7_wrap 18 = .ok (.aload_n 0, 1) := by decide +kernel
theorem dX7_wrap_19 : decode cX7_wrap 19 = .ok (.aload_n 0, 1) := by decide +kernel
theorem dX7_wrap_20 : decode cX7_wrap 20 = .ok (.iload 4, 2) := by decide +kernel
theorem dX7_wrap_22 : decode cX7_wrap 22 = .ok (.iload 4, 2) := by decide +kernel
theorem dX7_wrap_24 : decode cX7_wrap 24 = .ok (.iconst 1, 1) := by decide +kernel
theorem dX7_wrap_25 : decode cX7_wrap 25 = .ok (.iadd, 1) := by decide +kernel
theorem dX7_wrap_26 : decode cX7_wrap 26 = .ok (.aload_n 0, 1) := by decide +kernel
theorem dX7_wrap_27 : decode cX7_wrap 27 = .ok (.getfield 31, 3) := by decide +kernel
theorem dX7_wrap_30 : decode cX7_wrap 30 = .ok (.iload 4, 2) := by decide +kernel
theorem dX7_wrap_32 : decode cX7_wrap 32 = .ok (.isub, 1) := by decide +kernel
theorem dX7_wrap_33 : decode cX7_wrap 33 = .ok (.invokevirtual 35, 3) := by decide +kernel
theorem dX7_wrap_36 : decode cX7_wrap 36 = .ok (.aload_n 0, 1) := by decide +kernel
theorem dX7_wrap_37 : decode cX7_wrap 37 = .ok (.dup, 1) := by decide +kernel
theorem dX7_wrap_38 : decode cX7_wrap 38 = .ok (.getfield 31, 3) := by decide +kernel
theorem dX7_wrap_41 : decode cX7_wrap 41 = .ok (.iconst 1, 1) := by decide +kernel
theorem dX7_wrap_42 : decode cX7_wrap 42 = .ok (.iadd, 1) := by decide +kernel
theorem dX7_wrap_43 : decode cX7_wrap 43 = .ok (.putfield 31, 3) := by decide +kernel
theorem dX7_wrap_46 : decode cX7_wrap 46 = .ok (.aload_n 0, 1) := by decide +kernel
theorem dX7_wrap_47 : decode cX7_wrap 47 = .ok (.getfield 18, 3) := by decide +kernel
theorem dX7_wrap_50 : decode cX7_wrap 50 = .ok (.iload 4, 2) := by decide +kernel
theorem dX7_wrap_52 : decode cX7_wrap 52 = .ok (.aload_n 0, 1) := by decide +kernel
theorem dX7_wrap_53 : decode cX7_wrap 53 = .ok (.getfield 18, 3) := by decide +kernel
theorem dX7_wrap_56 : decode cX7_wrap 56 = .ok (.iload_n 1, 1) := by decide +kernel
theorem dX7_wrap_57 : decode cX7_wrap 57 = .ok (.iaload, 1) := by decide +kernel
theorem dX7_wrap_58 : decode cX7_wrap 58 = .ok (.iconst 1, 1) := by decide +kernel
theorem dX7_wrap_59 : decode cX7_wrap 59 = .ok (.iadd, 1) := by decide +kernel
theorem dX7_wrap_60 : decode cX7_wrap 60 = .ok (.iastore, 1) := by decide +kernel
theorem dX7_wrap_61 : decode cX7_wrap 61 = .ok (.aload_n 0, 1) := by decide +kernel
theorem dX7_wrap_62 : decode cX7_wrap 62 = .ok (.iload 4, 2) := by decide +kernel
theorem dX7_wrap_64 : decode cX7_wrap 64 = .ok (.iconst 1, 1) := by decide +kernel
theorem dX7_wrap_65 : decode cX7_wrap 65 = .ok (.iadd, 1) := by decide +kernel
theorem dX7_wrap_66 : decode cX7_wrap 66 = .ok (.iload 5, 2) := by decide +kernel
theorem dX7_wrap_68 : decode cX7_wrap 68 = .ok (.iconst 1, 1) := by decide +kernel
theorem dX7_wrap_69 : decode cX7_wrap 69 = .ok (.iadd, 1) := by decide +kernel
theorem dX7_wrap_70 : decode cX7_wrap 70 = .ok (.iconst 1, 1) := by decide +kernel
theorem dX7_wrap_71 : decode cX7_wrap 71 = .ok (.invokevirtual 71, 3) := by decide +kernel
theorem dX7_wrap_74 : decode cX7_wrap 74 = .ok (.aload_n 0, 1) := by decide +kernel
theorem dX7_wrap_75 : decode cX7_wrap 75 = .ok (.invokevirtual 39, 3) := by decide +kernel
theorem dX7_wrap_78 : decode cX7_wrap 78 = .ok (.iload 4, 2) := by decide +kernel
theorem dX7_wrap_80 : decode cX7_wrap 80 = .ok (.ireturn, 1) := by decide +kernel
theorem dX7_dissolve_0 : decode cX7_dissolve 0 = .ok (.aload_n 0, 1) := by decide +kernel
theorem dX7_dissolve_1 : decode cX7_dissolve 1 = .ok (.iload_n 1, 1) := by decide +kernel
theorem dX7_dissolve_2 : decode cX7_dissolve 2 = .ok (.iconst 1, 1) := by decide +kernel
theorem dX7_dissolve_3 : decode cX7_dissolve 3 = .ok (.iadd, 1) := by decide +kernel
theorem dX7_dissolve_4 : decode cX7_dissolve 4 = .ok (.aload_n 0, 1) := by decide +kernel
theorem dX7_dissolve_5 : decode cX7_dissolve 5 = .ok (.iload_n 1, 1) := by decide +kernel
theorem dX7_dissolve_6 : decode cX7_dissolve 6 = .ok (.invokevirtual 48, 3) := by decide +kernel
theorem dX7_dissolve_9 : decode cX7_dissolve 9 = .ok (.iconst (-1), 1) := by decide +kernel
theorem dX7_dissolve_10 : decode cX7_dissolve 10 = .ok (.invokevirtual 71, 3) := by decide +kernel
theorem dX7_dissolve_13 : decode cX7_dissolve 13 = .ok (.aload_n 0, 1) := by decide +kernel
theorem dX7_dissolve_14 : decode cX7_dissolve 14 = .ok (.aload_n 0, 1) := by decide +kernel
theorem dX7_dissolve_15 : decode cX7_dissolve 15 = .ok (.iload_n 1, 1) := by decide +kernel
theorem dX7_dissolve_16 : decode cX7_dissolve 16 = .ok (.iconst 1, 1) := by decide +kernel
theorem dX7_dissolve_17 : decode cX7_dissolve 17 = .ok (.iadd, 1) := by decide +kernel
theorem dX7_dissolve_18 : decode cX7_dissolve 18 = .ok (.iload_n 1, 1) := by decide +kernel
theorem dX7_dissolve_19 : decode cX7_dissolve 19 = .ok (.aload_n 0, 1) := by decide +kernel
theorem dX7_dissolve_20 : decode cX7_dissolve 20 = .ok (.getfield 31, 3) := by decide +kernel
theorem dX7_dissolve_23 : decode cX7_dissolve 23 = .ok (.iload_n 1, 1) := by decide +kernel
theorem dX7_dissolve_24 : decode cX7_dissolve 24 = .ok (.isub, 1) := by decide +kernel
theorem dX7_dissolve_25 : decode cX7_dissolve 25 = .ok (.iconst 1, 1) := by decide +kernel
theorem dX7_dissolve_26 : decode cX7_dissolve 26 = .ok (.isub, 1) := by decide +kernel
theorem dX7_dissolve_27 : decode cX7_dissolve 27 = .ok (.invokevirtual 35, 3) := by decide +kernel
theorem dX7_dissolve_30 : decode cX7_dissolve 30 = .ok (.aload_n 0, 1) := by decide +kernel
theorem dX7_dissolve_31 : decode cX7_dissolve 31 = .ok (.dup, 1) := by decide +kernel
theorem dX7_dissolve_32 : decode cX7_dissolve 32 = .ok (.getfield 31, 3) := by decide +kernel
theorem dX7_dissolve_35 : decode cX7_dissolve 35 = .ok (.iconst 1, 1) := by decide +kernel
theorem dX7_dissolve_36 : decode cX7_dissolve 36 = .ok (.isub, 1) := by decide +kernel
theorem dX7_dissolve_37 : decode cX7_dissolve 37 = .ok (.putfield 31, 3) := by decide +kernel
theorem dX7_dissolve_40 : decode cX7_dissolve 40 = .ok (.aload_n 0, 1) := by decide +kernel
theorem dX7_dissolve_41 : decode cX7_dissolve 41 = .ok (.invokevirtual 39, 3) := by decide +kernel
theorem dX7_dissolve_44 : decode cX7_dissolve 44 = .ok (.return_, 1) := by decide +kernel
theorem dX7_cutOut_0 : decode cX7_cutOut 0 = .ok (.aload_n 0, 1) := by decide +kernel
theorem dX7_cutOut_1 : decode cX7_cutOut 1 = .ok (.getfield 21, 3) := by decide +kernel
theorem dX7_cutOut_4 : decode cX7_cutOut 4 = .ok (.iload_n 1, 1) := by decide +kernel
theorem dX7_cutOut_5 : decode cX7_cutOut 5 = .ok (.iaload, 1) := by decide +kernel
theorem dX7_cutOut_6 : decode cX7_cutOut 6 = .ok (.istore_n 2, 1) := by decide +kernel
theorem dX7_cutOut_7 : decode cX7_cutOut 7 = .ok (.aload_n 0, 1) := by decide +kernel
theorem dX7_cutOut_8 : decode cX7_cutOut 8 = .ok (.aload_n 0, 1) := by decide +kernel
theorem dX7_cutOut_9 : decode cX7_cutOut 9 = .ok (.iload_n 1, 1) := by decide +kernel
theorem dX7_cutOut_10 : decode cX7_cutOut 10 = .ok (.iload_n 2, 1) := by decide +kernel
theorem dX7_cutOut_11 : decode cX7_cutOut 11 = .ok (.iadd, 1) := by decide +kernel
theorem dX7_cutOut_12 : decode cX7_cutOut 12 = .ok (.iload_n 1, 1) := by decide +kernel
theorem dX7_cutOut_13 : decode cX7_cutOut 13 = .ok (.aload_n 0, 1) := by decide +kernel
theorem dX7_cutOut_14 : decode cX7_cutOut 14 = .ok (.getfield 31, 3) := by decide +kernel
theorem dX7_cutOut_17 : decode cX7_cutOut 17 = .ok (.iload_n 1, 1) := by decide +kernel
theorem dX7_cutOut_18 : decode cX7_cutOut 18 = .ok (.isub, 1) := by decide +kernel
theorem dX7_cutOut_19 : decode cX7_cutOut 19 = .ok (.iload_n 2, 1) := by decide +kernel
theorem dX7_cutOut_20 : decode cX7_cutOut 20 = .ok (.isub, 1) := by decide +kernel
theorem dX7_cutOut_21 : decode cX7_cutOut 21 = .ok (.invokevirtual 35, 3) := by decide +kernel
theorem dX7_cutOut_24 : decode cX7_cutOut 24 = .ok (.aload_n 0, 1) := by decide +kernel
theorem dX7_cutOut_25 : decode cX7_cutOut 25 = .ok (.dup, 1) := by decide +kernel
theorem dX7_cutOut_26 : decode cX7_cutOut 26 = .ok (.getfield 31, 3) := by decide +kernel
theorem dX7_cutOut_29 : decode cX7_cutOut 29 = .ok (.iload_n 2, 1) := by decide +kernel
theorem dX7_cutOut_30 : decode cX7_cutOut 30 = .ok (.isub, 1) := by decide +kernel
theorem dX7_cutOut_31 : decode cX7_cutOut 31 = .ok (.putfield 31, 3) := by decide +kernel
theorem dX7_cutOut_34 : decode cX7_cutOut 34 = .ok (.aload_n 0, 1) := by decide +kernel
theorem dX7_cutOut_35 : decode cX7_cutOut 35 = .ok (.invokevirtual 39, 3) := by decide +kernel
theorem dX7_cutOut_38 : decode cX7_cutOut 38 = .ok (.return_, 1) := by decide +kernel
theorem dX7_graft_0 : decode cX7_graft 0 = .ok (.aload_n 0, 1) := by decide +kernel
theorem dX7_graft_1 : decode cX7_graft 1 = .ok (.iload_n 3, 1) := by decide +kernel
theorem dX7_graft_2 : decode cX7_graft 2 = .ok (.iload 4, 2) := by decide +kernel
theorem dX7_graft_4 : decode cX7_graft 4 = .ok (.invokevirtual 68, 3) := by decide +kernel
theorem dX7_graft_7 : decode cX7_graft 7 = .ok (.istore 5, 2) := by decide +kernel
theorem dX7_graft_9 : decode cX7_graft 9 = .ok (.aload_n 1, 1) := by decide +kernel
theorem dX7_graft_10 : decode cX7_graft 10 = .ok (.getfield 21, 3) := by decide +kernel
theorem dX7_graft_13 : decode cX7_graft 13 = .ok (.iload_n 2, 1) := by decide +kernel
theorem dX7_graft_14 : decode cX7_graft 14 = .ok (.iaload, 1) := by decide +kernel
theorem dX7_graft_15 : decode cX7_graft 15 = .ok (.istore 6, 2) := by decide +kernel
theorem dX7_graft_17 : decode cX7_graft 17 = .ok (.aload_n 0, 1) := by decide +kernel
theorem dX7_graft_18 : decode cX7_graft 18 = .ok (.aload_n 0, 1) := by decide +kernel
theorem dX7_graft_19 : decode cX7_graft 19 = .ok (.iload 5, 2) := by decide +kernel
theorem dX7_graft_21 : decode cX7_graft 21 = .ok (.iload 5, 2) := by decide +kernel
theorem dX7_graft_23 : decode cX7_graft 23 = .ok (.iload 6, 2) := by decide +kernel
theorem dX7_graft_25 : decode cX7_graft 25 = .ok (.iadd, 1) := by decide +kernel
theorem dX7_graft_26 : decode cX7_graft 26 = .ok (.aload_n 0, 1) := by decide +kernel
theorem dX7_graft_27 : decode cX7_graft 27 = .ok (.getfield 31, 3) := by decide +kernel
theorem dX7_graft_30 : decode cX7_graft 30 = .ok (.iload 5, 2) := by decide +kernel
theorem dX7_graft_32 : decode cX7_graft 32 = .ok (.isub, 1) := by decide +kernel
theorem dX7_graft_33 : decode cX7_graft 33 = .ok (.invokevirtual 35, 3) := by decide +kernel
theorem dX7_graft_36 : decode cX7_graft 36 = .ok (.aload_n 0, 1) := by decide +kernel
theorem dX7_graft_37 : decode cX7_graft 37 = .ok (.aload_n 1, 1) := by decide +kernel
theorem dX7_graft_38 : decode cX7_graft 38 = .ok (.iload_n 2, 1) := by decide +kernel
theorem dX7_graft_39 : decode cX7_graft 39 = .ok (.iload 5, 2) := by decide +kernel
theorem dX7_graft_41 : decode cX7_graft 41 = .ok (.iload 6, 2) := by decide +kernel
theorem dX7_graft_43 : decode cX7_graft 43 = .ok (.invokevirtual 35, 3) := by decide +kernel
theorem dX7_graft_46 : decode cX7_graft 46 = .ok (.aload_n 0, 1) := by decide +kernel
theorem dX7_graft_47 : decode cX7_graft 47 = .ok (.dup, 1) := by decide +kernel
theorem dX7_graft_48 : decode cX7_graft 48 = .ok (.getfield 31, 3) := by decide +kernel
theorem dX7_graft_51 : decode cX7_graft 51 = .ok (.iload 6, 2) := by decide +kernel
theorem dX7_graft_53 : decode cX7_graft 53 = .ok (.iadd, 1) := by decide +kernel
theorem dX7_graft_54 : decode cX7_graft 54 = .ok (.putfield 31, 3) := by decide +kernel
theorem dX7_graft_57 : decode cX7_graft 57 = .ok (.aload_n 0, 1) := by decide +kernel
theorem dX7_graft_58 : decode cX7_graft 58 = .ok (.iload 5, 2) := by decide +kernel
theorem dX7_graft_60 : decode cX7_graft 60 = .ok (.iload 5, 2) := by decide +kernel
theorem dX7_graft_62 : decode cX7_graft 62 = .ok (.iload 6, 2) := by decide +kernel
theorem dX7_graft_64 : decode cX7_graft 64 = .ok (.iadd, 1) := by decide +kernel
theorem dX7_graft_65 : decode cX7_graft 65 = .ok (.aload_n 0, 1) := by decide +kernel
theorem dX7_graft_66 : decode cX7_graft 66 = .ok (.getfield 18, 3) := by decide +kernel
theorem dX7_graft_69 : decode cX7_graft 69 = .ok (.iload_n 3, 1) := by decide +kernel
theorem dX7_graft_70 : decode cX7_graft 70 = .ok (.iaload, 1) := by decide +kernel
theorem dX7_graft_71 : decode cX7_graft 71 = .ok (.iconst 1, 1) := by decide +kernel
theorem dX7_graft_72 : decode cX7_graft 72 = .ok (.iadd, 1) := by decide +kernel
theorem dX7_graft_73 : decode cX7_graft 73 = .ok (.aload_n 1, 1) := by decide +kernel
theorem dX7_graft_74 : decode cX7_graft 74 = .ok (.getfield 18, 3) := by decide +kernel
theorem dX7_graft_77 : decode cX7_graft 77 = .ok (.iload_n 2, 1) := by decide +kernel
theorem dX7_graft_78 : decode cX7_graft 78 = .ok (.iaload, 1) := by decide +kernel
theorem dX7_graft_79 : decode cX7_graft 79 = .ok (.isub, 1) := by decide +kernel
theorem dX7_graft_80 : decode cX7_graft 80 = .ok (.invokevirtual 71, 3) := by decide +kernel
theorem dX7_graft_83 : decode cX7_graft 83 = .ok (.aload_n 0, 1) := by decide +kernel
theorem dX7_graft_84 : decode cX7_graft 84 = .ok (.invokevirtual 39, 3) := by decide +kernel
theorem dX7_graft_87 : decode cX7_graft 87 = .ok (.return_, 1) := by decide +kernel
theorem dX8_init_0 : decode cX8_init 0 = .ok (.aload_n 0, 1) := by decide +kernel
theorem dX8_init_1 : decode cX8_init 1 = .ok (.invokespecial 3, 3) := by decide +kernel
theorem dX8_init_4 : decode cX8_init 4 = .ok (.aload_n 0, 1) := by decide +kernel
theorem dX8_init_5 : decode cX8_init 5 = .ok (.sipush 540, 3) := by decide +kernel
theorem dX8_init_8 : decode cX8_init 8 = .ok (.newarray .int, 2) := by decide +kernel
theorem dX8_init_10 : decode cX8_init 10 = .ok (.putfield 11, 3) := by decide +kernel
theorem dX8_init_13 : decode cX8_init 13 = .ok (.aload_n 0, 1) := by decide +kernel
theorem dX8_init_14 : decode cX8_init 14 = .ok (.bipush 12, 2) := by decide +kernel
theorem dX8_init_16 : decode cX8_init 16 = .ok (.newarray .int, 2) := by decide +kernel
theorem dX8_init_18 : decode cX8_init 18 = .ok (.putfield 15, 3) := by decide +kernel
theorem dX8_init_21 : decode cX8_init 21 = .ok (.return_, 1) := by decide +kernel
theorem dX8_spell_0 : decode cX8_spell 0 = .ok (.aload_n 0, 1) := by decide +kernel
theorem dX8_spell_1 : decode cX8_spell 1 = .ok (.iconst 0, 1) := by decide +kernel
theorem dX8_spell_2 : decode cX8_spell 2 = .ok (.putfield 18, 3) := by decide +kernel
theorem dX8_spell_5 : decode cX8_spell 5 = .ok (.iconst 0, 1) := by decide +kernel
theorem dX8_spell_6 : decode cX8_spell 6 = .ok (.istore_n 2, 1) := by decide +kernel
theorem dX8_spell_7 : decode cX8_spell 7 = .ok (.iload_n 2, 1) := by decide +kernel
theorem dX8_spell_8 : decode cX8_spell 8 = .ok (.aload_n 1, 1) := by decide +kernel
theorem dX8_spell_9 : decode cX8_spell 9 = .ok (.getfield 22, 3) := by decide +kernel
theorem dX8_spell_12 : decode cX8_spell 12 = .ok (.if_icmp .ge 31, 3) := by decide +kernel
theorem dX8_spell_15 : decode cX8_spell 15 = .ok (.aload_n 0, 1) := by decide +kernel
theorem dX8_spell_16 : decode cX8_spell 16 = .ok (.aload_n 1, 1) := by decide +kernel
theorem dX8_spell_17 : decode cX8_spell 17 = .ok (.iload_n 2, 1) := by decide +kernel
theorem dX8_spell_18 : decode cX8_spell 18 = .ok (.invokevirtual 27, 3) := by decide +kernel
theorem dX8_spell_21 : decode cX8_spell 21 = .ok (.aload_n 1, 1) := by decide +kernel
theorem dX8_spell_22 : decode cX8_spell 22 = .ok (.getfield 31, 3) := by decide +kernel
theorem dX8_spell_25 : decode cX8_spell 25 = .ok (.iload_n 2, 1) := by decide +kernel
theorem dX8_spell_26 : decode cX8_spell 26 = .ok (.iaload, 1) := by decide +kernel
theorem dX8_spell_27 : decode cX8_spell 27 = .ok (.iconst 1, 1) := by decide +kernel
theorem dX8_spell_28 : decode cX8_spell 28 = .ok (.if_icmp .ne 9, 3) := by decide +kernel
theorem dX8_spell_31 : decode cX8_spell 31 = .ok (.aload_n 0, 1) := by decide +kernel
theorem dX8_spell_32 : decode cX8_spell 32 = .ok (.aload_n 1, 1) := by decide +kernel
theorem dX8_spell_33 : decode cX8_spell 33 = .ok (.iload_n 2, 1) := by decide +kernel
theorem dX8_spell_34 : decode cX8_spell 34 = .ok (.invokevirtual 34, 3) := by decide +kernel
theorem dX8_spell_37 : decode cX8_spell 37 = .ok (.iinc 2 1, 3) := by decide +kernel
theorem dX8_spell_40 : decode cX8_spell 40 = .ok (.goto (-33), 3) := by decide +kernel
theorem dX8_spell_43 : decode cX8_spell 43 = .ok (.return_, 1) := by decide +kernel
theorem dX8_spellNode_0 : decode cX8_spellNode 0 = .ok (.aload_n 1, 1) := by decide +kernel
theorem dX8_spellNode_1 : decode cX8_spellNode 1 = .ok (.getfield 37, 3) := by decide +kernel
theorem dX8_spellNode_4 : decode cX8_spellNode 4 = .ok (.iload_n 2, 1) := by decide +kernel
theorem dX8_spellNode_5 : decode cX8_spellNode 5 = .ok (.iaload, 1) := by decide +kernel
theorem dX8_spellNode_6 : decode cX8_spellNode 6 = .ok (.istore_n 3, 1) := by decide +kernel
theorem dX8_spellNode_7 : decode cX8_spellNode 7 = .ok (.aload_n 0, 1) := by decide +kernel
theorem dX8_spellNode_8 : decode cX8_spellNode 8 = .ok (.aload_n 1, 1) := by decide +kernel
theorem dX8_spellNode_9 : decode cX8_spellNode 9 = .ok (.getfield 40, 3) := by decide +kernel
theorem dX8_spellNode_12 : decode cX8_spellNode 12 = .ok (.iload_n 2, 1) := by decide +kernel
theorem dX8_spellNode_13 : decode cX8_spellNode 13 = .ok (.laload, 1) := by decide +kernel
theorem dX8_spellNode_14 : decode cX8_spellNode 14 = .ok (.invokevirtual 44, 3) := by decide +kernel
theorem dX8_spellNode_17 : decode cX8_spellNode 17 = .ok (.aload_n 1, 1) := by decide +kernel
theorem dX8_spellNode_18 : decode cX8_spellNode 18 = .ok (.getfield 48, 3) := by decide +kernel
theorem dX8_spellNode_21 : decode cX8_spellNode 21 = .ok (.iload_n 2, 1) := by decide +kernel
theorem dX8_spellNode_22 : decode cX8_spellNode 22 = .ok (.laload, 1) := by decide +kernel
theorem dX8_spellNode_23 : decode cX8_spellNode 23 = .ok (.lconst 0, 1) := by decide +kernel
theorem dX8_spellNode_24 : decode cX8_spellNode 24 = .ok (.lcmp, 1) := by decide +kernel
theorem dX8_spellNode_25 : decode cX8_spellNode 25 = .ok (.ifCond .eq 19, 3) := by decide +kernel
theorem dX8_spellNode_28 : decode cX8_spellNode 28 = .ok (.aload_n 0, 1) := by decide +kernel
theorem dX8_spellNode_29 : decode cX8_spellNode 29 = .ok (.bipush 61, 2) := by decide +kernel
theorem dX8_spellNode_31 : decode cX8_spellNode 31 = .ok (.invokevirtual 51, 3) := by decide +kernel
theorem dX8_spellNode_34 : decode cX8_spellNode 34 = .ok (.aload_n 0, 1) := by decide +kernel
theorem dX8_spellNode_35 : decode cX8_spellNode 35 = .ok (.aload_n 1, 1) := by decide +kernel
theorem dX8_spellNode_36 : decode cX8_spellNode 36 = .ok (.getfield 48, 3) := by decide +kernel
theorem dX8_spellNode_39 : decode cX8_spellNode 39 = .ok (.iload_n 2, 1) := by decide +kernel
theorem dX8_spellNode_40 : decode cX8_spellNode 40 = .ok (.laload, 1) := by decide +kernel
theorem dX8_spellNode_41 : decode cX8_spellNode 41 = .ok (.invokevirtual 44, 3) := by decide +kernel
theorem dX8_spellNode_44 : decode cX8_spellNode 44 = .ok (.iload_n 3, 1) := by decide +kernel
theorem dX8_spellNode_45 : decode cX8_spellNode 45 = .ok (.iconst 3, 1) := by decide +kernel
theorem dX8_spellNode_46 : decode cX8_spellNode 46 = .ok (.if_icmp .ne 12, 3) := by decide +kernel
theorem dX8_spellNode_49 : decode cX8_spellNode 49 = .ok (.aload_n 0, 1) := by decide +kernel
theorem dX8_spellNode_50 : decode cX8_spellNode 50 = .ok (.bipush 33, 2) := by decide +kernel
theorem dX8_spellNode_52 : decode cX8_spellNode 52 = .ok (.invokevirtual 51, 3) := by decide +kernel
theorem dX8_spellNode_55 : decode cX8_spellNode 55 = .ok (.goto 56, 3) := by decide +kernel
theorem dX8_spellNode_58 : decode cX8_spellNode 58 = .ok (.aload_n 1, 1) := by decide +kernel
theorem dX8_spellNode_59 : decode cX8_spellNode 59 = .ok (.getfield 31, 3) := by decide +kernel
theorem dX8_spellNode_62 : decode cX8_spellNode 62 = .ok (.iload_n 2, 1) := by decide +kernel
theorem dX8_spellNode_63 : decode cX8_spellNode 63 = .ok (.iaload, 1) := by decide +kernel
theorem dX8_spellNode_64 : decode cX8_spellNode 64 = .ok (.iconst 1, 1) := by decide +kernel
theorem dX8_spellNode_65 : decode cX8_spellNode 65 = .ok (.if_icmp .le 26, 3) := by decide +kernel
theorem dX8_spellNode_68 : decode cX8_spellNode 68 = .ok (.aload_n 0, 1) := by decide +kernel
theorem dX8_spellNode_69 : decode cX8_spellNode 69 = .ok (.iload_n 3, 1) := by decide +kernel
theorem dX8_spellNode_70 : decode cX8_spellNode 70 = .ok (.invokestatic 55, 3) := by decide +kernel
theorem dX8_spellNode_73 : decode cX8_spellNode 73 = .ok (.invokevirtual 51, 3) := by decide +kernel
theorem dX8_spellNode_76 : decode cX8_spellNode 76 = .ok (.aload_n 0, 1) := by decide +kernel
theorem dX8_spellNode_77 : decode cX8_spellNode 77 = .ok (.getfield 15, 3) := by decide +kernel
theorem dX8_spellNode_80 : decode cX8_spellNode 80 = .ok (.aload_n 1, 1) := by decide +kernel
theorem dX8_spellNode_81 : decode cX8_spellNode 81 = .ok (.getfield 59, 3) := by decide +kernel
theorem dX8_spellNode_84 : decode cX8_spellNode 84 = .ok (.iload_n 2, 1) := by decide +kernel
theorem dX8_spellNode_85 : decode cX8_spellNode 85 = .ok (.iaload, 1) := by decide +kernel
theorem dX8_spellNode_86 : decode cX8_spellNode 86 = .ok (.iload_n 3, 1) := by decide +kernel
theorem dX8_spellNode_87 : decode cX8_spellNode 87 = .ok (.iastore, 1) := by decide +kernel
theorem dX8_spellNode_88 : decode cX8_spellNode 88 = .ok (.goto 23, 3) := by decide +kernel
theorem dX8_spellNode_91 : decode cX8_spellNode 91 = .ok (.iload_n 3, 1) := by decide +kernel
theorem dX8_spellNode_92 : decode cX8_spellNode 92 = .ok (.ifCond .eq 19, 3) := by decide +kernel
theorem dX8_spellNode_95 : decode cX8_spellNode 95 = .ok (.aload_n 0, 1) := by decide +kernel
theorem dX8_spellNode_96 : decode cX8_spellNode 96 = .ok (.iload_n 3, 1) := by decide +kernel
theorem dX8_spellNode_97 : decode cX8_spellNode 97 = .ok (.invokestatic 55, 3) := by decide +kernel
theorem dX8_spellNode_100 : decode cX8_spellNode 100 = .ok (.invokevirtual 51, 3) := by decide +kernel
theorem dX8_spellNode_103 : decode cX8_spellNode 103 = .ok (.aload_n 0, 1) := by decide +kernel
theorem dX8_spellNode_104 : decode cX8_spellNode 104 = .ok (.iload_n 3, 1) := by decide +kernel
theorem dX8_spellNode_105 : decode cX8_spellNode 105 = .ok (.invokestatic 62, 3) := by decide +kernel
theorem dX8_spellNode_108 : decode cX8_spellNode 108 = .ok (.invokevirtual 51, 3) := by decide +kernel
theorem dX8_spellNode_111 : decode cX8_spellNode 111 = .ok (.return_, 1) := by decide +kernel
theorem dX8_leaveBranches_0 : decode cX8_leaveBranches 0 = .ok (.iload_n 2, 1) := by decide +kernel
theorem dX8_leaveBranches_1 : decode cX8_leaveBranches 1 = .ok (.iconst 1, 1) := by decide +kernel
theorem dX8_leaveBranches_2 : decode cX8_leaveBranches 2 = .ok (.iadd, 1) := by decide +kernel
theorem dX8_leaveBranches_3 : decode cX8_leaveBranches 3 = .ok (.aload_n 1, 1) := by decide +kernel
theorem dX8_leaveBranches_4 : decode cX8_leaveBranches 4 = .ok (.getfield 22, 3) := by decide +kernel
theorem dX8_leaveBranches_7 : decode cX8_leaveBranches 7 = .ok (.if_icmp .ne 7, 3) := by decide +kernel
theorem dX8_leaveBranches_10 : decode cX8_leaveBranches 10 = .ok (.iconst 1, 1) := by decide +kernel
theorem dX8_leaveBranches_11 : decode cX8_leaveBranches 11 = .ok (.goto 4, 3) := by decide +kernel
theorem dX8_leaveBranches_14 : decode cX8_leaveBranches 14 = .ok (.iconst 0, 1) := by decide +kernel
theorem dX8_leaveBranches_15 : decode cX8_leaveBranches 15 = .ok (.istore_n 3, 1) := by decide +kernel
theorem dX8_leaveBranches_16 : decode cX8_leaveBranches 16 = .ok (.iload_n 3, 1) := by decide +kernel
theorem dX8_leaveBranches_17 : decode cX8_leaveBranches 17 = .ok (.ifCond .eq 7, 3) := by decide +kernel
theorem dX8_leaveBranches_20 : decode cX8_leaveBranches 20 = .ok (.iconst 0, 1) := by decide +kernel
theorem dX8_leaveBranches_21 : decode cX8_leaveBranches 21 = .ok (.goto 11, 3) := by decide +kernel
theorem dX8_leaveBranches_24 : decode cX8_leaveBranches 24 = .ok (.aload_n 1, 1) := by decide +kernel
theorem dX8_leaveBranches_25 : decode cX8_leaveBranches 25 = .ok (.getfield 59, 3) := by decide +kernel
theorem dX8_leaveBranches_28 : decode cX8_leaveBranches 28 = .ok (.iload_n 2, 1) := by decide +kernel
theorem dX8_leaveBranches_29 : decode cX8_leaveBranches 29 = .ok (.iconst 1, 1) := by decide +kernel
theorem dX8_leaveBranches_30 : decode cX8_leaveBranches 30 = .ok (.iadd, 1) := by decide +kernel
theorem dX8_leaveBranches_31 : decode cX8_leaveBranches 31 = .ok (.iaload, 1) := by decide +kernel
theorem dX8_leaveBranches_32 : decode cX8_leaveBranches 32 = .ok (.istore 4, 2) := by decide +kernel
theorem dX8_leaveBranches_34 : decode cX8_leaveBranches 34 = .ok (.aload_n 1, 1) := by decide +kernel
theorem dX8_leaveBranches_35 : decode cX8_leaveBranches 35 = .ok (.getfield 59, 3) := by decide +kernel
theorem dX8_leaveBranches_38 : decode cX8_leaveBranches 38 = .ok (.iload_n 2, 1) := by decide +kernel
theorem dX8_leaveBranches_39 : decode cX8_leaveBranches 39 = .ok (.iaload, 1) := by decide +kernel
theorem dX8_leaveBranches_40 : decode cX8_leaveBranches 40 = .ok (.istore 5, 2) := by decide +kernel
theorem dX8_leaveBranches_42 : decode cX8_leaveBranches 42 = .ok (.iload 5, 2) := by decide +kernel
theorem dX8_leaveBranches_44 : decode cX8_leaveBranches 44 = .ok (.iload 4, 2) := by decide +kernel
theorem dX8_leaveBranches_46 : decode cX8_leaveBranches 46 = .ok (.if_icmp .le 25, 3) := by decide +kernel
theorem dX8_leaveBranches_49 : decode cX8_leaveBranches 49 = .ok (.aload_n 0, 1) := by decide +kernel
theorem dX8_leaveBranches_50 : decode cX8_leaveBranches 50 = .ok (.aload_n 0, 1) := by decide +kernel
theorem dX8_leaveBranches_51 : decode cX8_leaveBranches 51 = .ok (.getfield 15, 3) := by decide +kernel
theorem dX8_leaveBranches_54 : decode cX8_leaveBranches 54 = .ok (.iload 5, 2) := by decide +kernel
theorem dX8_leaveBranches_56 : decode cX8_leaveBranches 56 = .ok (.iconst 1, 1) := by decide +kernel
theorem dX8_leaveBranches_57 : decode cX8_leaveBranches 57 = .ok (.isub, 1) := by decide +kernel
theorem dX8_leaveBranches_58 : decode cX8_leaveBranches 58 = .ok (.iaload, 1) := by decide +kernel
theorem dX8_leaveBranches_59 : decode cX8_leaveBranches 59 = .ok (.invokestatic 62, 3) := by decide +kernel
theorem dX8_leaveBranches_62 : decode cX8_leaveBranches 62 = .ok (.invokevirtual 51, 3) := by decide +kernel
theorem dX8_leaveBranches_65 : decode cX8_leaveBranches 65 = .ok (.iinc 5 (-1), 3) := by decide +kernel
theorem dX8_leaveBranches_68 : decode cX8_leaveBranches 68 = .ok (.goto (-26), 3) := by decide +kernel
theorem dX8_leaveBranches_71 : decode cX8_leaveBranches 71 = .ok (.iload_n 3, 1) := by decide +kernel
theorem dX8_leaveBranches_72 : decode cX8_leaveBranches 72 = .ok (.ifCond .ne 9, 3) := by decide +kernel
theorem dX8_leaveBranches_75 : decode cX8_leaveBranches 75 = .ok (.aload_n 0, 1) := by decide +kernel
theorem dX8_leaveBranches_76 : decode cX8_leaveBranches 76 = .ok (.bipush 44, 2) := by decide +kernel
theorem dX8_leaveBranches_78 : decode cX8_leaveBranches 78 = .ok (.invokevirtual 51, 3) := by decide +kernel
theorem dX8_leaveBranches_81 : decode cX8_leaveBranches 81 = .ok (.return_, 1) := by decide +kernel
theorem dX8_addWord_0 : decode cX8_addWord 0 = .ok (.iconst 0, 1) := by decide +kernel
theorem dX8_addWord_1 : decode cX8_addWord 1 = .ok (.istore_n 3, 1) := by decide +kernel
theorem dX8_addWord_2 : decode cX8_addWord 2 = .ok (.iload_n 3, 1) := by decide +kernel
theorem dX8_addWord_3 : decode cX8_addWord 3 = .ok (.lload_n 1, 1) := by decide +kernel
theorem dX8_addWord_4 : decode cX8_addWord 4 = .ok (.invokestatic 65, 3) := by decide +kernel
theorem dX8_addWord_7 : decode cX8_addWord 7 = .ok (.if_icmp .ge 18, 3) := by decide +kernel
theorem dX8_addWord_10 : decode cX8_addWord 10 = .ok (.aload_n 0, 1) := by decide +kernel
theorem dX8_addWord_11 : decode cX8_addWord 11 = .ok (.lload_n 1, 1) := by decide +kernel
theorem dX8_addWord_12 : decode cX8_addWord 12 = .ok (.iload_n 3, 1) := by decide +kernel
theorem dX8_addWord_13 : decode cX8_addWord 13 = .ok (.invokestatic 69, 3) := by decide +kernel
theorem dX8_addWord_16 : decode cX8_addWord 16 = .ok (.invokevirtual 51, 3) := by decide +kernel
theorem dX8_addWord_19 : decode cX8_addWord 19 = .ok (.iinc 3 1, 3) := by decide +kernel
theorem dX8_addWord_22 : decode cX8_addWord 22 = .ok (.goto (-20), 3) := by decide +kernel
theorem dX8_addWord_25 : decode cX8_addWord 25 = .ok (.return_, 1) := by decide +kernel
theorem dX8_add_0 : decode cX8_add 0 = .ok (.aload_n 0, 1) := by decide +kernel
theorem dX8_add_1 : decode cX8_add 1 = .ok (.getfield 18, 3) := by decide +kernel
theorem dX8_add_4 : decode cX8_add 4 = .ok (.sipush 540, 3) := by decide +kernel
theorem dX8_add_7 : decode cX8_add 7 = .ok (.if_icmp .ge 23, 3) := by decide +kernel
theorem dX8_add_10 : decode cX8_add 10 = .ok (.aload_n 0, 1) := by decide +kernel
theorem dX8_add_11 : decode cX8_add 11 = .ok (.getfield 11, 3) := by decide +kernel
theorem dX8_add_14 : decode cX8_add 14 = .ok (.aload_n 0, 1) := by decide +kernel
theorem dX8_add_15 : decode cX8_add 15 = .ok (.getfield 18, 3) := by decide +kernel
theorem dX8_add_18 : decode cX8_add 18 = .ok (.iload_n 1, 1) := by decide +kernel
theorem dX8_add_19 : decode cX8_add 19 = .ok (.iastore, 1) := by decide +kernel
theorem dX8_add_20 : decode cX8_add 20 = .ok (.aload_n 0, 1) := by decide +kernel
theorem dX8_add_21 : decode cX8_add 21 = .ok (.dup, 1) := by decide +kernel
theorem dX8_add_22 : decode cX8_add 22 = .ok (.getfield 18, 3) := by decide +kernel
theorem dX8_add_25 : decode cX8_add 25 = .ok (.iconst 1, 1) := by decide +kernel
theorem dX8_add_26 : decode cX8_add 26 = .ok (.iadd, 1) := by decide +kernel
theorem dX8_add_27 : decode cX8_add 27 = .ok (.putfield 18, 3) := by decide +kernel
theorem dX8_add_30 : decode cX8_add 30 = .ok (.return_, 1) := by decide +kernel
theorem dX9_init_0 : decode cX9_init 0 = .ok (.aload_n 0, 1) := by decide +kernel
theorem dX9_init_1 : decode cX9_init 1 = .ok (.invokespecial 1, 3) := by decide +kernel
theorem dX9_init_4 : decode cX9_init 4 = .ok (.aload_n 0, 1) := by decide +kernel
theorem dX9_init_5 : decode cX9_init 5 = .ok (.bipush 8, 2) := by decide +kernel
theorem dX9_init_7 : decode cX9_init 7 = .ok (.anewarray 9, 3) := by decide +kernel
theorem dX9_init_10 : decode cX9_init 10 = .ok (.putfield 11, 3) := by decide +kernel
theorem dX9_init_13 : decode cX9_init 13 = .ok (.aload_n 0, 1) := by decide +kernel
theorem dX9_init_14 : decode cX9_init 14 = .ok (.new 15, 3) := by decide +kernel
theorem dX9_init_17 : decode cX9_init 17 = .ok (.dup, 1) := by decide +kernel
theorem dX9_init_18 : decode cX9_init 18 = .ok (.invokespecial 17, 3) := by decide +kernel
theorem dX9_init_21 : decode cX9_init 21 = .ok (.putfield 18, 3) := by decide +kernel
theorem dX9_init_24 : decode cX9_init 24 = .ok (.aload_n 0, 1) := by decide +kernel
theorem dX9_init_25 : decode cX9_init 25 = .ok (.aload_n 0, 1) := by decide +kernel
theorem dX9_init_26 : decode cX9_init 26 = .ok (.getfield 18, 3) := by decide +kernel
theorem dX9_init_29 : decode cX9_init 29 = .ok (.getfield 22, 3) := by decide +kernel
theorem dX9_init_32 : decode cX9_init 32 = .ok (.putfield 26, 3) := by decide +kernel
theorem dX9_init_35 : decode cX9_init 35 = .ok (.aload_n 0, 1) := by decide +kernel
theorem dX9_init_36 : decode cX9_init 36 = .ok (.aload_n 0, 1) := by decide +kernel
theorem dX9_init_37 : decode cX9_init 37 = .ok (.getfield 18, 3) := by decide +kernel
theorem dX9_init_40 : decode cX9_init 40 = .ok (.getfield 27, 3) := by decide +kernel
theorem dX9_init_43 : decode cX9_init 43 = .ok (.putfield 31, 3) := by decide +kernel
theorem dX9_init_46 : decode cX9_init 46 = .ok (.aload_n 0, 1) := by decide +kernel
theorem dX9_init_47 : decode cX9_init 47 = .ok (.new 34, 3) := by decide +kernel
theorem dX9_init_50 : decode cX9_init 50 = .ok (.dup, 1) := by decide +kernel
theorem dX9_init_51 : decode cX9_init 51 = .ok (.invokespecial 36, 3) := by decide +kernel
theorem dX9_init_54 : decode cX9_init 54 = .ok (.putfield 37, 3) := by decide +kernel
theorem dX9_init_57 : decode cX9_init 57 = .ok (.aload_n 0, 1) := by decide +kernel
theorem dX9_init_58 : decode cX9_init 58 = .ok (.iconst 4, 1) := by decide +kernel
theorem dX9_init_59 : decode cX9_init 59 = .ok (.newarray .int, 2) := by decide +kernel
theorem dX9_init_61 : decode cX9_init 61 = .ok (.dup, 1) := by decide +kernel
theorem dX9_init_62 : decode cX9_init 62 = .ok (.iconst 0, 1) := by decide +kernel
theorem dX9_init_63 : decode cX9_init 63 = .ok (.iconst 2, 1) := by decide +kernel
theorem dX9_init_64 : decode cX9_init 64 = .ok (.iastore, 1) := by decide +kernel
theorem dX9_init_65 : decode cX9_init 65 = .ok (.dup, 1) := by decide +kernel
theorem dX9_init_66 : decode cX9_init 66 = .ok (.iconst 1, 1) := by decide +kernel
theorem dX9_init_67 : decode cX9_init 67 = .ok (.iconst 1, 1) := by decide +kernel
theorem dX9_init_68 : decode cX9_init 68 = .ok (.iastore, 1) := by decide +kernel
theorem dX9_init_69 : decode cX9_init 69 = .ok (.dup, 1) := by decide +kernel
theorem dX9_init_70 : decode cX9_init 70 = .ok (.iconst 2, 1) := by decide +kernel
theorem dX9_init_71 : decode cX9_init 71 = .ok (.iconst 3, 1) := by decide +kernel
theorem dX9_init_72 : decode cX9_init 72 = .ok (.iastore, 1) := by decide +kernel
theorem dX9_init_73 : decode cX9_init 73 = .ok (.dup, 1) := by decide +kernel
theorem dX9_init_74 : decode cX9_init 74 = .ok (.iconst 3, 1) := by decide +kernel
theorem dX9_init_75 : decode cX9_init 75 = .ok (.iconst 3, 1) := by decide +kernel
theorem dX9_init_76 : decode cX9_init 76 = .ok (.iastore, 1) := by decide +kernel
theorem dX9_init_77 : decode cX9_init 77 = .ok (.putfield 41, 3) := by decide +kernel
theorem dX9_init_80 : decode cX9_init 80 = .ok (.aload_n 0, 1) := by decide +kernel
theorem dX9_init_81 : decode cX9_init 81 = .ok (.new 45, 3) := by decide +kernel
theorem dX9_init_84 : decode cX9_init 84 = .ok (.dup, 1) := by decide +kernel
theorem dX9_init_85 : decode cX9_init 85 = .ok (.invokespecial 47, 3) := by decide +kernel
theorem dX9_init_88 : decode cX9_init 88 = .ok (.putfield 48, 3) := by decide +kernel
theorem dX9_init_91 : decode cX9_init 91 = .ok (.aload_n 0, 1) := by decide +kernel
theorem dX9_init_92 : decode cX9_init 92 = .ok (.new 52, 3) := by decide +kernel
theorem dX9_init_95 : decode cX9_init 95 = .ok (.dup, 1) := by decide +kernel
theorem dX9_init_96 : decode cX9_init 96 = .ok (.invokespecial 54, 3) := by decide +kernel
theorem dX9_init_99 : decode cX9_init 99 = .ok (.putfield 55, 3) := by decide +kernel
theorem dX9_init_102 : decode cX9_init 102 = .ok (.aload_n 0, 1) := by decide +kernel
theorem dX9_init_103 : decode cX9_init 103 = .ok (.new 59, 3) := by decide +kernel
theorem dX9_init_106 : decode cX9_init 106 = .ok (.dup, 1) := by decide +kernel
theorem dX9_init_107 : decode cX9_init 107 = .ok (.invokespecial 61, 3) := by decide +kernel
theorem dX9_init_110 : decode cX9_init 110 = .ok (.putfield 62, 3) := by decide +kernel
theorem dX9_init_113 : decode cX9_init 113 = .ok (.aload_n 0, 1) := by decide +kernel
theorem dX9_init_114 : decode cX9_init 114 = .ok (.new 66, 3) := by decide +kernel
theorem dX9_init_117 : decode cX9_init 117 = .ok (.dup, 1) := by decide +kernel
theorem dX9_init_118 : decode cX9_init 118 = .ok (.invokespecial 68, 3) := by decide +kernel
theorem dX9_init_121 : decode cX9_init 121 = .ok (.putfield 69, 3) := by decide +kernel
theorem dX9_init_124 : decode cX9_init 124 = .ok (.aload_n 0, 1) := by decide +kernel
theorem dX9_init_125 : decode cX9_init 125 = .ok (.bipush 10, 2) := by decide +kernel
theorem dX9_init_127 : decode cX9_init 127 = .ok (.newarray .int, 2) := by decide +kernel
theorem dX9_init_129 : decode cX9_init 129 = .ok (.putfield 73, 3) := by decide +kernel
