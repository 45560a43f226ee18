theorem dX10_shared_78 : decode cX10_shared 78 = .ok (.getfield 81, 3) := by decide +kernel
theorem dX10_shared_81 : decode cX10_shared 81 = .ok (.bipush 30, 2) := by decide +kernel
theorem dX10_shared_83 : decode cX10_shared 83 = .ok (.iload 7, 2) := by decide +kernel
theorem dX10_shared_85 : decode cX10_shared 85 = .ok (.iadd, 1) := by decide +kernel
theorem dX10_shared_86 : decode cX10_shared 86 = .ok (.iaload, 1) := by decide +kernel
theorem dX10_shared_87 : decode cX10_shared 87 = .ok (.aload_n 0, 1) := by decide +kernel
theorem dX10_shared_88 : decode cX10_shared 88 = .ok (.getfield 81, 3) := by decide +kernel
theorem dX10_shared_91 : decode cX10_shared 91 = .ok (.iload 5, 2) := by decide +kernel
theorem dX10_shared_93 : decode cX10_shared 93 = .ok (.iaload, 1) := by decide +kernel
theorem dX10_shared_94 : decode cX10_shared 94 = .ok (.if_icmp .ne 7, 3) := by decide +kernel
theorem dX10_shared_97 : decode cX10_shared 97 = .ok (.iconst 1, 1) := by decide +kernel
theorem dX10_shared_98 : decode cX10_shared 98 = .ok (.goto 4, 3) := by decide +kernel
theorem dX10_shared_101 : decode cX10_shared 101 = .ok (.iconst 0, 1) := by decide +kernel
theorem dX10_shared_102 : decode cX10_shared 102 = .ok (.istore 6, 2) := by decide +kernel
theorem dX10_shared_104 : decode cX10_shared 104 = .ok (.iinc 7 1, 3) := by decide +kernel
theorem dX10_shared_107 : decode cX10_shared 107 = .ok (.goto (-46), 3) := by decide +kernel
theorem dX10_shared_110 : decode cX10_shared 110 = .ok (.iload 4, 2) := by decide +kernel
theorem dX10_shared_112 : decode cX10_shared 112 = .ok (.iload 6, 2) := by decide +kernel
theorem dX10_shared_114 : decode cX10_shared 114 = .ok (.ifCond .eq 7, 3) := by decide +kernel
theorem dX10_shared_117 : decode cX10_shared 117 = .ok (.iconst 1, 1) := by decide +kernel
theorem dX10_shared_118 : decode cX10_shared 118 = .ok (.goto 4, 3) := by decide +kernel
theorem dX10_shared_121 : decode cX10_shared 121 = .ok (.iconst 0, 1) := by decide +kernel
theorem dX10_shared_122 : decode cX10_shared 122 = .ok (.iadd, 1) := by decide +kernel
theorem dX10_shared_123 : decode cX10_shared 123 = .ok (.istore 4, 2) := by decide +kernel
theorem dX10_shared_125 : decode cX10_shared 125 = .ok (.iinc 5 1, 3) := by decide +kernel
theorem dX10_shared_128 : decode cX10_shared 128 = .ok (.goto (-84), 3) := by decide +kernel
theorem dX10_shared_131 : decode cX10_shared 131 = .ok (.iload 4, 2) := by decide +kernel
theorem dX10_shared_133 : decode cX10_shared 133 = .ok (.ireturn, 1) := by decide +kernel
theorem dX10_clashed_0 : decode cX10_clashed 0 = .ok (.aload_n 0, 1) := by decide +kernel
theorem dX10_clashed_1 : decode cX10_clashed 1 = .ok (.getfield 84, 3) := by decide +kernel
theorem dX10_clashed_4 : decode cX10_clashed 4 = .ok (.aload_n 0, 1) := by decide +kernel
theorem dX10_clashed_5 : decode cX10_clashed 5 = .ok (.getfield 237, 3) := by decide +kernel
theorem dX10_clashed_8 : decode cX10_clashed 8 = .ok (.iload_n 1, 1) := by decide +kernel
theorem dX10_clashed_9 : decode cX10_clashed 9 = .ok (.iastore, 1) := by decide +kernel
theorem dX10_clashed_10 : decode cX10_clashed 10 = .ok (.aload_n 0, 1) := by decide +kernel
theorem dX10_clashed_11 : decode cX10_clashed 11 = .ok (.getfield 87, 3) := by decide +kernel
theorem dX10_clashed_14 : decode cX10_clashed 14 = .ok (.aload_n 0, 1) := by decide +kernel
theorem dX10_clashed_15 : decode cX10_clashed 15 = .ok (.getfield 237, 3) := by decide +kernel
theorem dX10_clashed_18 : decode cX10_clashed 18 = .ok (.iload_n 2, 1) := by decide +kernel
theorem dX10_clashed_19 : decode cX10_clashed 19 = .ok (.iastore, 1) := by decide +kernel
theorem dX10_clashed_20 : decode cX10_clashed 20 = .ok (.aload_n 0, 1) := by decide +kernel
theorem dX10_clashed_21 : decode cX10_clashed 21 = .ok (.dup, 1) := by decide +kernel
theorem dX10_clashed_22 : decode cX10_clashed 22 = .ok (.getfield 237, 3) := by decide +kernel
theorem dX10_clashed_25 : decode cX10_clashed 25 = .ok (.iconst 1, 1) := by decide +kernel
theorem dX10_clashed_26 : decode cX10_clashed 26 = .ok (.iadd, 1) := by decide +kernel
theorem dX10_clashed_27 : decode cX10_clashed 27 = .ok (.putfield 237, 3) := by decide +kernel
theorem dX10_clashed_30 : decode cX10_clashed 30 = .ok (.return_, 1) := by decide +kernel
theorem dX10_isField_0 : decode cX10_isField 0 = .ok (.iload 5, 2) := by decide +kernel
theorem dX10_isField_2 : decode cX10_isField 2 = .ok (.ifCond .ne 27, 3) := by decide +kernel
theorem dX10_isField_5 : decode cX10_isField 5 = .ok (.aload_n 0, 1) := by decide +kernel
theorem dX10_isField_6 : decode cX10_isField 6 = .ok (.iload_n 1, 1) := by decide +kernel
theorem dX10_isField_7 : decode cX10_isField 7 = .ok (.iload_n 2, 1) := by decide +kernel
theorem dX10_isField_8 : decode cX10_isField 8 = .ok (.iconst 1, 1) := by decide +kernel
theorem dX10_isField_9 : decode cX10_isField 9 = .ok (.invokevirtual 104, 3) := by decide +kernel
theorem dX10_isField_12 : decode cX10_isField 12 = .ok (.aload_n 0, 1) := by decide +kernel
theorem dX10_isField_13 : decode cX10_isField 13 = .ok (.iload_n 3, 1) := by decide +kernel
theorem dX10_isField_14 : decode cX10_isField 14 = .ok (.iload 4, 2) := by decide +kernel
theorem dX10_isField_16 : decode cX10_isField 16 = .ok (.iconst 1, 1) := by decide +kernel
theorem dX10_isField_17 : decode cX10_isField 17 = .ok (.invokevirtual 104, 3) := by decide +kernel
theorem dX10_isField_20 : decode cX10_isField 20 = .ok (.if_icmp .ne 7, 3) := by decide +kernel
theorem dX10_isField_23 : decode cX10_isField 23 = .ok (.iconst 1, 1) := by decide +kernel
theorem dX10_isField_24 : decode cX10_isField 24 = .ok (.goto 4, 3) := by decide +kernel
theorem dX10_isField_27 : decode cX10_isField 27 = .ok (.iconst 0, 1) := by decide +kernel
theorem dX10_isField_28 : decode cX10_isField 28 = .ok (.ireturn, 1) := by decide +kernel
theorem dX10_isField_29 : decode cX10_isField 29 = .ok (.iload 5, 2) := by decide +kernel
theorem dX10_isField_31 : decode cX10_isField 31 = .ok (.iconst 3, 1) := by decide +kernel
theorem dX10_isField_32 : decode cX10_isField 32 = .ok (.if_icmp .ge 25, 3) := by decide +kernel
theorem dX10_isField_35 : decode cX10_isField 35 = .ok (.aload_n 0, 1) := by decide +kernel
theorem dX10_isField_36 : decode cX10_isField 36 = .ok (.iload_n 1, 1) := by decide +kernel
theorem dX10_isField_37 : decode cX10_isField 37 = .ok (.iload_n 2, 1) := by decide +kernel
theorem dX10_isField_38 : decode cX10_isField 38 = .ok (.iload_n 3, 1) := by decide +kernel
theorem dX10_isField_39 : decode cX10_isField 39 = .ok (.iload 4, 2) := by decide +kernel
theorem dX10_isField_41 : decode cX10_isField 41 = .ok (.iload 5, 2) := by decide +kernel
theorem dX10_isField_43 : decode cX10_isField 43 = .ok (.iconst 1, 1) := by decide +kernel
theorem dX10_isField_44 : decode cX10_isField 44 = .ok (.if_icmp .ne 7, 3) := by decide +kernel
theorem dX10_isField_47 : decode cX10_isField 47 = .ok (.iconst 3, 1) := by decide +kernel
theorem dX10_isField_48 : decode cX10_isField 48 = .ok (.goto 5, 3) := by decide +kernel
theorem dX10_isField_51 : decode cX10_isField 51 = .ok (.bipush 10, 2) := by decide +kernel
theorem dX10_isField_53 : decode cX10_isField 53 = .ok (.invokevirtual 122, 3) := by decide +kernel
theorem dX10_isField_56 : decode cX10_isField 56 = .ok (.ireturn, 1) := by decide +kernel
theorem dX10_isField_57 : decode cX10_isField 57 = .ok (.aload_n 0, 1) := by decide +kernel
theorem dX10_isField_58 : decode cX10_isField 58 = .ok (.iload_n 1, 1) := by decide +kernel
theorem dX10_isField_59 : decode cX10_isField 59 = .ok (.iload_n 2, 1) := by decide +kernel
theorem dX10_isField_60 : decode cX10_isField 60 = .ok (.invokevirtual 175, 3) := by decide +kernel
theorem dX10_isField_63 : decode cX10_isField 63 = .ok (.aload_n 0, 1) := by decide +kernel
theorem dX10_isField_64 : decode cX10_isField 64 = .ok (.iload_n 3, 1) := by decide +kernel
theorem dX10_isField_65 : decode cX10_isField 65 = .ok (.iload 4, 2) := by decide +kernel
theorem dX10_isField_67 : decode cX10_isField 67 = .ok (.invokevirtual 175, 3) := by decide +kernel
theorem dX10_isField_70 : decode cX10_isField 70 = .ok (.if_icmp .eq 5, 3) := by decide +kernel
theorem dX10_isField_73 : decode cX10_isField 73 = .ok (.iconst 0, 1) := by decide +kernel
theorem dX10_isField_74 : decode cX10_isField 74 = .ok (.ireturn, 1) := by decide +kernel
theorem dX10_isField_75 : decode cX10_isField 75 = .ok (.iload 4, 2) := by decide +kernel
theorem dX10_isField_77 : decode cX10_isField 77 = .ok (.iconst 1, 1) := by decide +kernel
theorem dX10_isField_78 : decode cX10_isField 78 = .ok (.iadd, 1) := by decide +kernel
theorem dX10_isField_79 : decode cX10_isField 79 = .ok (.istore 6, 2) := by decide +kernel
theorem dX10_isField_81 : decode cX10_isField 81 = .ok (.iload_n 2, 1) := by decide +kernel
theorem dX10_isField_82 : decode cX10_isField 82 = .ok (.iconst 1, 1) := by decide +kernel
theorem dX10_isField_83 : decode cX10_isField 83 = .ok (.iadd, 1) := by decide +kernel
theorem dX10_isField_84 : decode cX10_isField 84 = .ok (.istore 7, 2) := by decide +kernel
theorem dX10_isField_86 : decode cX10_isField 86 = .ok (.iload 7, 2) := by decide +kernel
theorem dX10_isField_88 : decode cX10_isField 88 = .ok (.aload_n 0, 1) := by decide +kernel
theorem dX10_isField_89 : decode cX10_isField 89 = .ok (.iload_n 1, 1) := by decide +kernel
theorem dX10_isField_90 : decode cX10_isField 90 = .ok (.iload_n 2, 1) := by decide +kernel
theorem dX10_isField_91 : decode cX10_isField 91 = .ok (.invokevirtual 119, 3) := by decide +kernel
theorem dX10_isField_94 : decode cX10_isField 94 = .ok (.if_icmp .ge 45, 3) := by decide +kernel
theorem dX10_isField_97 : decode cX10_isField 97 = .ok (.aload_n 0, 1) := by decide +kernel
theorem dX10_isField_98 : decode cX10_isField 98 = .ok (.iload_n 1, 1) := by decide +kernel
theorem dX10_isField_99 : decode cX10_isField 99 = .ok (.iload 7, 2) := by decide +kernel
theorem dX10_isField_101 : decode cX10_isField 101 = .ok (.iconst 0, 1) := by decide +kernel
theorem dX10_isField_102 : decode cX10_isField 102 = .ok (.invokevirtual 104, 3) := by decide +kernel
theorem dX10_isField_105 : decode cX10_isField 105 = .ok (.aload_n 0, 1) := by decide +kernel
theorem dX10_isField_106 : decode cX10_isField 106 = .ok (.iload_n 3, 1) := by decide +kernel
theorem dX10_isField_107 : decode cX10_isField 107 = .ok (.iload 6, 2) := by decide +kernel
theorem dX10_isField_109 : decode cX10_isField 109 = .ok (.iconst 0, 1) := by decide +kernel
theorem dX10_isField_110 : decode cX10_isField 110 = .ok (.invokevirtual 104, 3) := by decide +kernel
theorem dX10_isField_113 : decode cX10_isField 113 = .ok (.if_icmp .eq 5, 3) := by decide +kernel
theorem dX10_isField_116 : decode cX10_isField 116 = .ok (.iconst 0, 1) := by decide +kernel
theorem dX10_isField_117 : decode cX10_isField 117 = .ok (.ireturn, 1) := by decide +kernel
theorem dX10_isField_118 : decode cX10_isField 118 = .ok (.aload_n 0, 1) := by decide +kernel
theorem dX10_isField_119 : decode cX10_isField 119 = .ok (.iload_n 3, 1) := by decide +kernel
theorem dX10_isField_120 : decode cX10_isField 120 = .ok (.iload 6, 2) := by decide +kernel
theorem dX10_isField_122 : decode cX10_isField 122 = .ok (.invokevirtual 119, 3) := by decide +kernel
theorem dX10_isField_125 : decode cX10_isField 125 = .ok (.istore 6, 2) := by decide +kernel
theorem dX10_isField_127 : decode cX10_isField 127 = .ok (.aload_n 0, 1) := by decide +kernel
theorem dX10_isField_128 : decode cX10_isField 128 = .ok (.iload_n 1, 1) := by decide +kernel
theorem dX10_isField_129 : decode cX10_isField 129 = .ok (.iload 7, 2) := by decide +kernel
theorem dX10_isField_131 : decode cX10_isField 131 = .ok (.invokevirtual 119, 3) := by decide +kernel
theorem dX10_isField_134 : decode cX10_isField 134 = .ok (.istore 7, 2) := by decide +kernel
theorem dX10_isField_136 : decode cX10_isField 136 = .ok (.goto (-50), 3) := by decide +kernel
theorem dX10_isField_139 : decode cX10_isField 139 = .ok (.iconst 1, 1) := by decide +kernel
theorem dX10_isField_140 : decode cX10_isField 140 = .ok (.ireturn, 1) := by decide +kernel
theorem dX10_whose_0 : decode cX10_whose 0 = .ok (.aload_n 0, 1) := by decide +kernel
theorem dX10_whose_1 : decode cX10_whose 1 = .ok (.iload_n 1, 1) := by decide +kernel
theorem dX10_whose_2 : decode cX10_whose 2 = .ok (.iload 4, 2) := by decide +kernel
theorem dX10_whose_4 : decode cX10_whose 4 = .ok (.invokevirtual 181, 3) := by decide +kernel
theorem dX10_whose_7 : decode cX10_whose 7 = .ok (.istore 6, 2) := by decide +kernel
theorem dX10_whose_9 : decode cX10_whose 9 = .ok (.aload_n 0, 1) := by decide +kernel
theorem dX10_whose_10 : decode cX10_whose 10 = .ok (.iload_n 2, 1) := by decide +kernel
theorem dX10_whose_11 : decode cX10_whose 11 = .ok (.iload 4, 2) := by decide +kernel
theorem dX10_whose_13 : decode cX10_whose 13 = .ok (.invokevirtual 181, 3) := by decide +kernel
theorem dX10_whose_16 : decode cX10_whose 16 = .ok (.istore 7, 2) := by decide +kernel
theorem dX10_whose_18 : decode cX10_whose 18 = .ok (.aload_n 0, 1) := by decide +kernel
theorem dX10_whose_19 : decode cX10_whose 19 = .ok (.iload_n 3, 1) := by decide +kernel
theorem dX10_whose_20 : decode cX10_whose 20 = .ok (.iload 4, 2) := by decide +kernel
theorem dX10_whose_22 : decode cX10_whose 22 = .ok (.invokevirtual 181, 3) := by decide +kernel
theorem dX10_whose_25 : decode cX10_whose 25 = .ok (.istore 8, 2) := by decide +kernel
theorem dX10_whose_27 : decode cX10_whose 27 = .ok (.aload_n 0, 1) := by decide +kernel
theorem dX10_whose_28 : decode cX10_whose 28 = .ok (.iconst 0, 1) := by decide +kernel
theorem dX10_whose_29 : decode cX10_whose 29 = .ok (.putfield 240, 3) := by decide +kernel
theorem dX10_whose_32 : decode cX10_whose 32 = .ok (.iload 7, 2) := by decide +kernel
theorem dX10_whose_34 : decode cX10_whose 34 = .ok (.ifCond .lt 69, 3) := by decide +kernel
theorem dX10_whose_37 : decode cX10_whose 37 = .ok (.iload 8, 2) := by decide +kernel
theorem dX10_whose_39 : decode cX10_whose 39 = .ok (.ifCond .lt 64, 3) := by decide +kernel
theorem dX10_whose_42 : decode cX10_whose 42 = .ok (.iload 6, 2) := by decide +kernel
theorem dX10_whose_44 : decode cX10_whose 44 = .ok (.ifCond .lt 59, 3) := by decide +kernel
theorem dX10_whose_47 : decode cX10_whose 47 = .ok (.aload_n 0, 1) := by decide +kernel
theorem dX10_whose_48 : decode cX10_whose 48 = .ok (.iload_n 2, 1) := by decide +kernel
theorem dX10_whose_49 : decode cX10_whose 49 = .ok (.iload 7, 2) := by decide +kernel
theorem dX10_whose_51 : decode cX10_whose 51 = .ok (.iload_n 1, 1) := by decide +kernel
theorem dX10_whose_52 : decode cX10_whose 52 = .ok (.iload 6, 2) := by decide +kernel
theorem dX10_whose_54 : decode cX10_whose 54 = .ok (.iload 5, 2) := by decide +kernel
theorem dX10_whose_56 : decode cX10_whose 56 = .ok (.invokevirtual 244, 3) := by decide +kernel
theorem dX10_whose_59 : decode cX10_whose 59 = .ok (.ifCond .eq 5, 3) := by decide +kernel
theorem dX10_whose_62 : decode cX10_whose 62 = .ok (.iload_n 3, 1) := by decide +kernel
theorem dX10_whose_63 : decode cX10_whose 63 = .ok (.ireturn, 1) := by decide +kernel
theorem dX10_whose_64 : decode cX10_whose 64 = .ok (.aload_n 0, 1) := by decide +kernel
theorem dX10_whose_65 : decode cX10_whose 65 = .ok (.iload_n 3, 1) := by decide +kernel
theorem dX10_whose_66 : decode cX10_whose 66 = .ok (.iload 8, 2) := by decide +kernel
theorem dX10_whose_68 : decode cX10_whose 68 = .ok (.iload_n 1, 1) := by decide +kernel
theorem dX10_whose_69 : decode cX10_whose 69 = .ok (.iload 6, 2) := by decide +kernel
theorem dX10_whose_71 : decode cX10_whose 71 = .ok (.iload 5, 2) := by decide +kernel
theorem dX10_whose_73 : decode cX10_whose 73 = .ok (.invokevirtual 244, 3) := by decide +kernel
theorem dX10_whose_76 : decode cX10_whose 76 = .ok (.ifCond .ne 18, 3) := by decide +kernel
theorem dX10_whose_79 : decode cX10_whose 79 = .ok (.aload_n 0, 1) := by decide +kernel
theorem dX10_whose_80 : decode cX10_whose 80 = .ok (.iload_n 2, 1) := by decide +kernel
theorem dX10_whose_81 : decode cX10_whose 81 = .ok (.iload 7, 2) := by decide +kernel
theorem dX10_whose_83 : decode cX10_whose 83 = .ok (.iload_n 3, 1) := by decide +kernel
theorem dX10_whose_84 : decode cX10_whose 84 = .ok (.iload 8, 2) := by decide +kernel
theorem dX10_whose_86 : decode cX10_whose 86 = .ok (.iload 5, 2) := by decide +kernel
theorem dX10_whose_88 : decode cX10_whose 88 = .ok (.invokevirtual 244, 3) := by decide +kernel
theorem dX10_whose_91 : decode cX10_whose 91 = .ok (.ifCond .eq 5, 3) := by decide +kernel
theorem dX10_whose_94 : decode cX10_whose 94 = .ok (.iload_n 2, 1) := by decide +kernel
theorem dX10_whose_95 : decode cX10_whose 95 = .ok (.ireturn, 1) := by decide +kernel
theorem dX10_whose_96 : decode cX10_whose 96 = .ok (.aload_n 0, 1) := by decide +kernel
theorem dX10_whose_97 : decode cX10_whose 97 = .ok (.iconst 1, 1) := by decide +kernel
theorem dX10_whose_98 : decode cX10_whose 98 = .ok (.putfield 240, 3) := by decide +kernel
theorem dX10_whose_101 : decode cX10_whose 101 = .ok (.iload_n 1, 1) := by decide +kernel
theorem dX10_whose_102 : decode cX10_whose 102 = .ok (.ireturn, 1) := by decide +kernel
theorem dX10_whose_103 : decode cX10_whose 103 = .ok (.iload 7, 2) := by decide +kernel
theorem dX10_whose_105 : decode cX10_whose 105 = .ok (.ifCond .lt 34, 3) := by decide +kernel
theorem dX10_whose_108 : decode cX10_whose 108 = .ok (.iload 8, 2) := by decide +kernel
theorem dX10_whose_110 : decode cX10_whose 110 = .ok (.ifCond .lt 29, 3) := by decide +kernel
theorem dX10_whose_113 : decode cX10_whose 113 = .ok (.aload_n 0, 1) := by decide +kernel
theorem dX10_whose_114 : decode cX10_whose 114 = .ok (.aload_n 0, 1) := by decide +kernel
theorem dX10_whose_115 : decode cX10_whose 115 = .ok (.iload_n 2, 1) := by decide +kernel
theorem dX10_whose_116 : decode cX10_whose 116 = .ok (.iload 7, 2) := by decide +kernel
theorem dX10_whose_118 : decode cX10_whose 118 = .ok (.iload_n 3, 1) := by decide +kernel
theorem dX10_whose_119 : decode cX10_whose 119 = .ok (.iload 8, 2) := by decide +kernel
theorem dX10_whose_121 : decode cX10_whose 121 = .ok (.iload 5, 2) := by decide +kernel
theorem dX10_whose_123 : decode cX10_whose 123 = .ok (.invokevirtual 244, 3) := by decide +kernel
theorem dX10_whose_126 : decode cX10_whose 126 = .ok (.ifCond .ne 7, 3) := by decide +kernel
theorem dX10_whose_129 : decode cX10_whose 129 = .ok (.iconst 1, 1) := by decide +kernel
theorem dX10_whose_130 : decode cX10_whose 130 = .ok (.goto 4, 3) := by decide +kernel
theorem dX10_whose_133 : decode cX10_whose 133 = .ok (.iconst 0, 1) := by decide +kernel
theorem dX10_whose_134 : decode cX10_whose 134 = .ok (.putfield 240, 3) := by decide +kernel
theorem dX10_whose_137 : decode cX10_whose 137 = .ok (.iload_n 2, 1) := by decide +kernel
theorem dX10_whose_138 : decode cX10_whose 138 = .ok (.ireturn, 1) := by decide +kernel
theorem dX10_whose_139 : decode cX10_whose 139 = .ok (.iload 7, 2) := by decide +kernel
theorem dX10_whose_141 : decode cX10_whose 141 = .ok (.ifCond .lt 7, 3) := by decide +kernel
theorem dX10_whose_144 : decode cX10_whose 144 = .ok (.iload_n 2, 1) := by decide +kernel
theorem dX10_whose_145 : decode cX10_whose 145 = .ok (.goto 13, 3) := by decide +kernel
theorem dX10_whose_148 : decode cX10_whose 148 = .ok (.iload 8, 2) := by decide +kernel
theorem dX10_whose_150 : decode cX10_whose 150 = .ok (.ifCond .lt 7, 3) := by decide +kernel
theorem dX10_whose_153 : decode cX10_whose 153 = .ok (.iload_n 3, 1) := by decide +kernel
theorem dX10_whose_154 : decode cX10_whose 154 = .ok (.goto 4, 3) := by decide +kernel
theorem dX10_whose_157 : decode cX10_whose 157 = .ok (.iconst (-1), 1) := by decide +kernel
theorem dX10_whose_158 : decode cX10_whose 158 = .ok (.ireturn, 1) := by decide +kernel
theorem dX10_merges_0 : decode cX10_merges 0 = .ok (.aload_n 0, 1) := by decide +kernel
theorem dX10_merges_1 : decode cX10_merges 1 = .ok (.getfield 13, 3) := by decide +kernel
theorem dX10_merges_4 : decode cX10_merges 4 = .ok (.bipush 9, 2) := by decide +kernel
theorem dX10_merges_6 : decode cX10_merges 6 = .ok (.iconst 0, 1) := by decide +kernel
theorem dX10_merges_7 : decode cX10_merges 7 = .ok (.iastore, 1) := by decide +kernel
theorem dX10_merges_8 : decode cX10_merges 8 = .ok (.iconst 1, 1) := by decide +kernel
theorem dX10_merges_9 : decode cX10_merges 9 = .ok (.istore 4, 2) := by decide +kernel
theorem dX10_merges_11 : decode cX10_merges 11 = .ok (.aload_n 0, 1) := by decide +kernel
theorem dX10_merges_12 : decode cX10_merges 12 = .ok (.getfield 90, 3) := by decide +kernel
theorem dX10_merges_15 : decode cX10_merges 15 = .ok (.iconst 0, 1) := by decide +kernel
theorem dX10_merges_16 : decode cX10_merges 16 = .ok (.aload_n 0, 1) := by decide +kernel
theorem dX10_merges_17 : decode cX10_merges 17 = .ok (.iload_n 1, 1) := by decide +kernel
theorem dX10_merges_18 : decode cX10_merges 18 = .ok (.iconst 0, 1) := by decide +kernel
theorem dX10_merges_19 : decode cX10_merges 19 = .ok (.iconst 0, 1) := by decide +kernel
theorem dX10_merges_20 : decode cX10_merges 20 = .ok (.invokevirtual 104, 3) := by decide +kernel
theorem dX10_merges_23 : decode cX10_merges 23 = .ok (.iastore, 1) := by decide +kernel
theorem dX10_merges_24 : decode cX10_merges 24 = .ok (.aload_n 0, 1) := by decide +kernel
theorem dX10_merges_25 : decode cX10_merges 25 = .ok (.getfield 93, 3) := by decide +kernel
theorem dX10_merges_28 : decode cX10_merges 28 = .ok (.iconst 0, 1) := by decide +kernel
theorem dX10_merges_29 : decode cX10_merges 29 = .ok (.iconst 0, 1) := by decide +kernel
theorem dX10_merges_30 : decode cX10_merges 30 = .ok (.iastore, 1) := by decide +kernel
theorem dX10_merges_31 : decode cX10_merges 31 = .ok (.iload 4, 2) := by decide +kernel
theorem dX10_merges_33 : decode cX10_merges 33 = .ok (.ifCond .le 353, 3) := by decide +kernel
theorem dX10_merges_36 : decode cX10_merges 36 = .ok (.iinc 4 (-1), 3) := by decide +kernel
theorem dX10_merges_39 : decode cX10_merges 39 = .ok (.aload_n 0, 1) := by decide +kernel
theorem dX10_merges_40 : decode cX10_merges 40 = .ok (.getfield 90, 3) := by decide +kernel
theorem dX10_merges_43 : decode cX10_merges 43 = .ok (.iload 4, 2) := by decide +kernel
theorem dX10_merges_45 : decode cX10_merges 45 = .ok (.iaload, 1) := by decide +kernel
theorem dX10_merges_46 : decode cX10_merges 46 = .ok (.istore 5, 2) := by decide +kernel
theorem dX10_merges_48 : decode cX10_merges 48 = .ok (.aload_n 0, 1) := by decide +kernel
theorem dX10_merges_49 : decode cX10_merges 49 = .ok (.getfield 93, 3) := by decide +kernel
theorem dX10_merges_52 : decode cX10_merges 52 = .ok (.iload 4, 2) := by decide +kernel
theorem dX10_merges_54 : decode cX10_merges 54 = .ok (.iaload, 1) := by decide +kernel
theorem dX10_merges_55 : decode cX10_merges 55 = .ok (.istore 6, 2) := by decide +kernel
theorem dX10_merges_57 : decode cX10_merges 57 = .ok (.aload_n 0, 1) := by decide +kernel
theorem dX10_merges_58 : decode cX10_merges 58 = .ok (.getfield 13, 3) := by decide +kernel
theorem dX10_merges_61 : decode cX10_merges 61 = .ok (.bipush 9, 2) := by decide +kernel
theorem dX10_merges_63 : decode cX10_merges 63 = .ok (.iaload, 1) := by decide +kernel
theorem dX10_merges_64 : decode cX10_merges 64 = .ok (.istore 7, 2) := by decide +kernel
theorem dX10_merges_66 : decode cX10_merges 66 = .ok (.aload_n 0, 1) := by decide +kernel
theorem dX10_merges_67 : decode cX10_merges 67 = .ok (.iload_n 1, 1) := by decide +kernel
theorem dX10_merges_68 : decode cX10_merges 68 = .ok (.iload_n 2, 1) := by decide +kernel
theorem dX10_merges_69 : decode cX10_merges 69 = .ok (.iload_n 3, 1) := by decide +kernel
theorem dX10_merges_70 : decode cX10_merges 70 = .ok (.iload 5, 2) := by decide +kernel
theorem dX10_merges_72 : decode cX10_merges 72 = .ok (.iconst 0, 1) := by decide +kernel
theorem dX10_merges_73 : decode cX10_merges 73 = .ok (.invokevirtual 247, 3) := by decide +kernel
theorem dX10_merges_76 : decode cX10_merges 76 = .ok (.istore 8, 2) := by decide +kernel
theorem dX10_merges_78 : decode cX10_merges 78 = .ok (.aload_n 0, 1) := by decide +kernel
theorem dX10_merges_79 : decode cX10_merges 79 = .ok (.bipush 9, 2) := by decide +kernel
theorem dX10_merges_81 : decode cX10_merges 81 = .ok (.iload 5, 2) := by decide +kernel
theorem dX10_merges_83 : decode cX10_merges 83 = .ok (.invokevirtual 181, 3) := by decide +kernel
theorem dX10_merges_86 : decode cX10_merges 86 = .ok (.ifCond .ge 22, 3) := by decide +kernel
theorem dX10_merges_89 : decode cX10_merges 89 = .ok (.iload 8, 2) := by decide +kernel
theorem dX10_merges_91 : decode cX10_merges 91 = .ok (.ifCond .lt 17, 3) := by decide +kernel
theorem dX10_merges_94 : decode cX10_merges 94 = .ok (.iload 7, 2) := by decide +kernel
theorem dX10_merges_96 : decode cX10_merges 96 = .ok (.bipush 30, 2) := by decide +kernel
theorem dX10_merges_98 : decode cX10_merges 98 = .ok (.if_icmp .eq 10, 3) := by decide +kernel
theorem dX10_merges_101 : decode cX10_merges 101 = .ok (.iload 6, 2) := by decide +kernel
theorem dX10_merges_103 : decode cX10_merges 103 = .ok (.bipush 12, 2) := by decide +kernel
theorem dX10_merges_105 : decode cX10_merges 105 = .ok (.if_icmp .lt 5, 3) := by decide +kernel
theorem dX10_merges_108 : decode cX10_merges 108 = .ok (.iconst 0, 1) := by decide +kernel
theorem dX10_merges_109 : decode cX10_merges 109 = .ok (.ireturn, 1) := by decide +kernel
theorem dX10_merges_110 : decode cX10_merges 110 = .ok (.aload_n 0, 1) := by decide +kernel
theorem dX10_merges_111 : decode cX10_merges 111 = .ok (.iload_n 1, 1) := by decide +kernel
theorem dX10_merges_112 : decode cX10_merges 112 = .ok (.iload_n 2, 1) := by decide +kernel
theorem dX10_merges_113 : decode cX10_merges 113 = .ok (.iload_n 3, 1) := by decide +kernel
theorem dX10_merges_114 : decode cX10_merges 114 = .ok (.iload 5, 2) := by decide +kernel
theorem dX10_merges_116 : decode cX10_merges 116 = .ok (.iconst 1, 1) := by decide +kernel
theorem dX10_merges_117 : decode cX10_merges 117 = .ok (.invokevirtual 247, 3) := by decide +kernel
theorem dX10_merges_120 : decode cX10_merges 120 = .ok (.istore 9, 2) := by decide +kernel
theorem dX10_merges_122 : decode cX10_merges 122 = .ok (.aload_n 0, 1) := by decide +kernel
theorem dX10_merges_123 : decode cX10_merges 123 = .ok (.iload_n 1, 1) := by decide +kernel
theorem dX10_merges_124 : decode cX10_merges 124 = .ok (.iload_n 2, 1) := by decide +kernel
theorem dX10_merges_125 : decode cX10_merges 125 = .ok (.iload_n 3, 1) := by decide +kernel
theorem dX10_merges_126 : decode cX10_merges 126 = .ok (.iload 5, 2) := by decide +kernel
theorem dX10_merges_128 : decode cX10_merges 128 = .ok (.iconst 2, 1) := by decide +kernel
theorem dX10_merges_129 : decode cX10_merges 129 = .ok (.invokevirtual 247, 3) := by decide +kernel
theorem dX10_merges_132 : decode cX10_merges 132 = .ok (.istore 10, 2) := by decide +kernel
theorem dX10_merges_134 : decode cX10_merges 134 = .ok (.aload_n 0, 1) := by decide +kernel
theorem dX10_merges_135 : decode cX10_merges 135 = .ok (.iload_n 1, 1) := by decide +kernel
theorem dX10_merges_136 : decode cX10_merges 136 = .ok (.iload_n 2, 1) := by decide +kernel
theorem dX10_merges_137 : decode cX10_merges 137 = .ok (.iload_n 3, 1) := by decide +kernel
theorem dX10_merges_138 : decode cX10_merges 138 = .ok (.iload 5, 2) := by decide +kernel
theorem dX10_merges_140 : decode cX10_merges 140 = .ok (.iconst 3, 1) := by decide +kernel
theorem dX10_merges_141 : decode cX10_merges 141 = .ok (.invokevirtual 247, 3) := by decide +kernel
theorem dX10_merges_144 : decode cX10_merges 144 = .ok (.istore 11, 2) := by decide +kernel
theorem dX10_merges_146 : decode cX10_merges 146 = .ok (.aload_n 0, 1) := by decide +kernel
theorem dX10_merges_147 : decode cX10_merges 147 = .ok (.bipush 9, 2) := by decide +kernel
theorem dX10_merges_149 : decode cX10_merges 149 = .ok (.iload 7, 2) := by decide +kernel
theorem dX10_merges_151 : decode cX10_merges 151 = .ok (.iconst 0, 1) := by decide +kernel
theorem dX10_merges_152 : decode cX10_merges 152 = .ok (.iload 5, 2) := by decide +kernel
theorem dX10_merges_154 : decode cX10_merges 154 = .ok (.invokevirtual 108, 3) := by decide +kernel
theorem dX10_merges_157 : decode cX10_merges 157 = .ok (.aload_n 0, 1) := by decide +kernel
theorem dX10_merges_158 : decode cX10_merges 158 = .ok (.bipush 9, 2) := by decide +kernel
theorem dX10_merges_160 : decode cX10_merges 160 = .ok (.iload 7, 2) := by decide +kernel
theorem dX10_merges_162 : decode cX10_merges 162 = .ok (.iconst 1, 1) := by decide +kernel
theorem dX10_merges_163 : decode cX10_merges 163 = .ok (.aload_n 0, 1) := by decide +kernel
theorem dX10_merges_164 : decode cX10_merges 164 = .ok (.iload 8, 2) := by decide +kernel
theorem dX10_merges_166 : decode cX10_merges 166 = .ok (.aload_n 0, 1) := by decide +kernel
theorem dX10_merges_167 : decode cX10_merges 167 = .ok (.iload 8, 2) := by decide +kernel
theorem dX10_merges_169 : decode cX10_merges 169 = .ok (.iload 5, 2) := by decide +kernel
theorem dX10_merges_171 : decode cX10_merges 171 = .ok (.invokevirtual 181, 3) := by decide +kernel
theorem dX10_merges_174 : decode cX10_merges 174 = .ok (.iconst 1, 1) := by decide +kernel
theorem dX10_merges_175 : decode cX10_merges 175 = .ok (.invokevirtual 104, 3) := by decide +kernel
theorem dX10_merges_178 : decode cX10_merges 178 = .ok (.invokevirtual 108, 3) := by decide +kernel
theorem dX10_merges_181 : decode cX10_merges 181 = .ok (.aload_n 0, 1) := by decide +kernel
theorem dX10_merges_182 : decode cX10_merges 182 = .ok (.bipush 9, 2) := by decide +kernel
theorem dX10_merges_184 : decode cX10_merges 184 = .ok (.iload 7, 2) := by decide +kernel
theorem dX10_merges_186 : decode cX10_merges 186 = .ok (.iconst 2, 1) := by decide +kernel
theorem dX10_merges_187 : decode cX10_merges 187 = .ok (.iload 6, 2) := by decide +kernel
theorem dX10_merges_189 : decode cX10_merges 189 = .ok (.invokevirtual 108, 3) := by decide +kernel
theorem dX10_merges_192 : decode cX10_merges 192 = .ok (.iconst 3, 1) := by decide +kernel
theorem dX10_merges_193 : decode cX10_merges 193 = .ok (.istore 12, 2) := by decide +kernel
theorem dX10_merges_195 : decode cX10_merges 195 = .ok (.iload 12, 2) := by decide +kernel
theorem dX10_merges_197 : decode cX10_merges 197 = .ok (.bipush 10, 2) := by decide +kernel
theorem dX10_merges_199 : decode cX10_merges 199 = .ok (.if_icmp .ge 35, 3) := by decide +kernel
theorem dX10_merges_202 : decode cX10_merges 202 = .ok (.aload_n 0, 1) := by decide +kernel
theorem dX10_merges_203 : decode cX10_merges 203 = .ok (.bipush 9, 2) := by decide +kernel
theorem dX10_merges_205 : decode cX10_merges 205 = .ok (.iload 7, 2) := by decide +kernel
theorem dX10_merges_207 : decode cX10_merges 207 = .ok (.iload 12, 2) := by decide +kernel
theorem dX10_merges_209 : decode cX10_merges 209 = .ok (.aload_n 0, 1) := by decide +kernel
theorem dX10_merges_210 : decode cX10_merges 210 = .ok (.iload 9, 2) := by decide +kernel
theorem dX10_merges_212 : decode cX10_merges 212 = .ok (.aload_n 0, 1) := by decide +kernel
theorem dX10_merges_213 : decode cX10_merges 213 = .ok (.iload 9, 2) := by decide +kernel
theorem dX10_merges_215 : decode cX10_merges 215 = .ok (.iload 5, 2) := by decide +kernel
theorem dX10_merges_217 : decode cX10_merges 217 = .ok (.invokevirtual 181, 3) := by decide +kernel
theorem dX10_merges_220 : decode cX10_merges 220 = .ok (.iload 12, 2) := by decide +kernel
theorem dX10_merges_222 : decode cX10_merges 222 = .ok (.invokevirtual 104, 3) := by decide +kernel
theorem dX10_merges_225 : decode cX10_merges 225 = .ok (.invokevirtual 108, 3) := by decide +kernel
theorem dX10_merges_228 : decode cX10_merges 228 = .ok (.iinc 12 1, 3) := by decide +kernel
theorem dX10_merges_231 : decode cX10_merges 231 = .ok (.goto (-36), 3) := by decide +kernel
theorem dX10_merges_234 : decode cX10_merges 234 = .ok (.bipush 10, 2) := by decide +kernel
theorem dX10_merges_236 : decode cX10_merges 236 = .ok (.istore 12, 2) := by decide +kernel
theorem dX10_merges_238 : decode cX10_merges 238 = .ok (.iload 12, 2) := by decide +kernel
theorem dX10_merges_240 : decode cX10_merges 240 = .ok (.bipush 19, 2) := by decide +kernel
theorem dX10_merges_242 : decode cX10_merges 242 = .ok (.if_icmp .ge 35, 3) := by decide +kernel
theorem dX10_merges_245 : decode cX10_merges 245 = .ok (.aload_n 0, 1) := by decide +kernel
theorem dX10_merges_246 : decode cX10_merges 246 = .ok (.bipush 9, 2) := by decide +kernel
theorem dX10_merges_248 : decode cX10_merges 248 = .ok (.iload 7, 2) := by decide +kernel
theorem dX10_merges_250 : decode cX10_merges 250 = .ok (.iload 12, 2) := by decide +kernel
theorem dX10_merges_252 : decode cX10_merges 252 = .ok (.aload_n 0, 1) := by decide +kernel
theorem dX10_merges_253 : decode cX10_merges 253 = .ok (.iload 10, 2) := by decide +kernel
theorem dX10_merges_255 : decode cX10_merges 255 = .ok (.aload_n 0, 1) := by decide +kernel
theorem dX10_merges_256 : decode cX10_merges 256 = .ok (.iload 10, 2) := by decide +kernel
theorem dX10_merges_258 : decode cX10_merges 258 = .ok (.iload 5, 2) := by decide +kernel
theorem dX10_merges_260 : decode cX10_merges 260 = .ok (.invokevirtual 181, 3) := by decide +kernel
theorem dX10_merges_263 : decode cX10_merges 263 = .ok (.iload 12, 2) := by decide +kernel
theorem dX10_merges_265 : decode cX10_merges 265 = .ok (.invokevirtual 104, 3) := by decide +kernel
theorem dX10_merges_268 : decode cX10_merges 268 = .ok (.invokevirtual 108, 3) := by decide +kernel
theorem dX10_merges_271 : decode cX10_merges 271 = .ok (.iinc 12 1, 3) := by decide +kernel
theorem dX10_merges_274 : decode cX10_merges 274 = .ok (.goto (-36), 3) := by decide +kernel
theorem dX10_merges_277 : decode cX10_merges 277 = .ok (.aload_n 0, 1) := by decide +kernel
theorem dX10_merges_278 : decode cX10_merges 278 = .ok (.getfield 13, 3) := by decide +kernel
theorem dX10_merges_281 : decode cX10_merges 281 = .ok (.bipush 9, 2) := by decide +kernel
theorem dX10_merges_283 : decode cX10_merges 283 = .ok (.dup2, 1) := by decide +kernel
theorem dX10_merges_284 : decode cX10_merges 284 = .ok (.iaload, 1) := by decide +kernel
theorem dX10_merges_285 : decode cX10_merges 285 = .ok (.iconst 1, 1) := by decide +kernel
theorem dX10_merges_286 : decode cX10_merges 286 = .ok (.iadd, 1) := by decide +kernel
theorem dX10_merges_287 : decode cX10_merges 287 = .ok (.iastore, 1) := by decide +kernel
theorem dX10_merges_288 : decode cX10_merges 288 = .ok (.aload_n 0, 1) := by decide +kernel
theorem dX10_merges_289 : decode cX10_merges 289 = .ok (.iload 11, 2) := by decide +kernel
theorem dX10_merges_291 : decode cX10_merges 291 = .ok (.iload 5, 2) := by decide +kernel
theorem dX10_merges_293 : decode cX10_merges 293 = .ok (.invokevirtual 181, 3) := by decide +kernel
theorem dX10_merges_296 : decode cX10_merges 296 = .ok (.istore 12, 2) := by decide +kernel
theorem dX10_merges_298 : decode cX10_merges 298 = .ok (.aload_n 0, 1) := by decide +kernel
theorem dX10_merges_299 : decode cX10_merges 299 = .ok (.iload 11, 2) := by decide +kernel
theorem dX10_merges_301 : decode cX10_merges 301 = .ok (.iload 12, 2) := by decide +kernel
theorem dX10_merges_303 : decode cX10_merges 303 = .ok (.invokevirtual 175, 3) := by decide +kernel
theorem dX10_merges_306 : decode cX10_merges 306 = .ok (.istore 13, 2) := by decide +kernel
theorem dX10_merges_308 : decode cX10_merges 308 = .ok (.iload 13, 2) := by decide +kernel
theorem dX10_merges_310 : decode cX10_merges 310 = .ok (.ifCond .le 18, 3) := by decide +kernel
theorem dX10_merges_313 : decode cX10_merges 313 = .ok (.aload_n 0, 1) := by decide +kernel
theorem dX10_merges_314 : decode cX10_merges 314 = .ok (.bipush 9, 2) := by decide +kernel
theorem dX10_merges_316 : decode cX10_merges 316 = .ok (.iload 7, 2) := by decide +kernel
theorem dX10_merges_318 : decode cX10_merges 318 = .ok (.iconst 1, 1) := by decide +kernel
theorem dX10_merges_319 : decode cX10_merges 319 = .ok (.invokevirtual 104, 3) := by decide +kernel
theorem dX10_merges_322 : decode cX10_merges 322 = .ok (.iconst 3, 1) := by decide +kernel
theorem dX10_merges_323 : decode cX10_merges 323 = .ok (.if_icmp .ne 5, 3) := by decide +kernel
theorem dX10_merges_326 : decode cX10_merges 326 = .ok (.iconst 0, 1) := by decide +kernel
theorem dX10_merges_327 : decode cX10_merges 327 = .ok (.ireturn, 1) := by decide +kernel
theorem dX10_merges_328 : decode cX10_merges 328 = .ok (.iload 13, 2) := by decide +kernel
theorem dX10_merges_330 : decode cX10_merges 330 = .ok (.iconst 1, 1) := by decide +kernel
theorem dX10_merges_331 : decode cX10_merges 331 = .ok (.isub, 1) := by decide +kernel
theorem dX10_merges_332 : decode cX10_merges 332 = .ok (.istore 14, 2) := by decide +kernel
theorem dX10_merges_334 : decode cX10_merges 334 = .ok (.iload 14, 2) := by decide +kernel
theorem dX10_merges_336 : decode cX10_merges 336 = .ok (.ifCond .lt 47, 3) := by decide +kernel
theorem dX10_merges_339 : decode cX10_merges 339 = .ok (.aload_n 0, 1) := by decide +kernel
theorem dX10_merges_340 : decode cX10_merges 340 = .ok (.getfield 90, 3) := by decide +kernel
theorem dX10_merges_343 : decode cX10_merges 343 = .ok (.iload 4, 2) := by decide +kernel
theorem dX10_merges_345 : decode cX10_merges 345 = .ok (.aload_n 0, 1) := by decide +kernel
theorem dX10_merges_346 : decode cX10_merges 346 = .ok (.iload 11, 2) := by decide +kernel
theorem dX10_merges_348 : decode cX10_merges 348 = .ok (.aload_n 0, 1) := by decide +kernel
theorem dX10_merges_349 : decode cX10_merges 349 = .ok (.iload 11, 2) := by decide +kernel
theorem dX10_merges_351 : decode cX10_merges 351 = .ok (.iload 12, 2) := by decide +kernel
theorem dX10_merges_353 : decode cX10_merges 353 = .ok (.iload 14, 2) := by decide +kernel
theorem dX10_merges_355 : decode cX10_merges 355 = .ok (.invokevirtual 188, 3) := by decide +kernel
theorem dX10_merges_358 : decode cX10_merges 358 = .ok (.iconst 0, 1) := by decide +kernel
theorem dX10_merges_359 : decode cX10_merges 359 = .ok (.invokevirtual 104, 3) := by decide +kernel
theorem dX10_merges_362 : decode cX10_merges 362 = .ok (.iastore, 1) := by decide +kernel
theorem dX10_merges_363 : decode cX10_merges 363 = .ok (.aload_n 0, 1) := by decide +kernel
theorem dX10_merges_364 : decode cX10_merges 364 = .ok (.getfield 93, 3) := by decide +kernel
theorem dX10_merges_367 : decode cX10_merges 367 = .ok (.iload 4, 2) := by decide +kernel
theorem dX10_merges_369 : decode cX10_merges 369 = .ok (.iload 6, 2) := by decide +kernel
theorem dX10_merges_371 : decode cX10_merges 371 = .ok (.iconst 1, 1) := by decide +kernel
theorem dX10_merges_372 : decode cX10_merges 372 = .ok (.iadd, 1) := by decide +kernel
theorem dX10_merges_373 : decode cX10_merges 373 = .ok (.iastore, 1) := by decide +kernel
theorem dX10_merges_374 : decode cX10_merges 374 = .ok (.iinc 4 1, 3) := by decide +kernel
theorem dX10_merges_377 : decode cX10_merges 377 = .ok (.iinc 14 (-1), 3) := by decide +kernel
theorem dX10_merges_380 : decode cX10_merges 380 = .ok (.goto (-46), 3) := by decide +kernel
theorem dX10_merges_383 : decode cX10_merges 383 = .ok (.goto (-352), 3) := by decide +kernel
theorem dX10_merges_386 : decode cX10_merges 386 = .ok (.aload_n 0, 1) := by decide +kernel
theorem dX10_merges_387 : decode cX10_merges 387 = .ok (.bipush 9, 2) := by decide +kernel
theorem dX10_merges_389 : decode cX10_merges 389 = .ok (.invokevirtual 194, 3) := by decide +kernel
theorem dX10_merges_392 : decode cX10_merges 392 = .ok (.ifCond .ne 7, 3) := by decide +kernel
theorem dX10_merges_395 : decode cX10_merges 395 = .ok (.iconst 1, 1) := by decide +kernel
theorem dX10_merges_396 : decode cX10_merges 396 = .ok (.goto 4, 3) := by decide +kernel
theorem dX10_merges_399 : decode cX10_merges 399 = .ok (.iconst 0, 1) := by decide +kernel
theorem dX10_merges_400 : decode cX10_merges 400 = .ok (.ireturn, 1) := by decide +kernel
theorem dX10_merge_0 : decode cX10_merge 0 = .ok (.aload_n 0, 1) := by decide +kernel
theorem dX10_merge_1 : decode cX10_merge 1 = .ok (.iload_n 1, 1) := by decide +kernel
theorem dX10_merge_2 : decode cX10_merge 2 = .ok (.invokevirtual 161, 3) := by decide +kernel
theorem dX10_merge_5 : decode cX10_merge 5 = .ok (.istore 5, 2) := by decide +kernel
theorem dX10_merge_7 : decode cX10_merge 7 = .ok (.iload 5, 2) := by decide +kernel
theorem dX10_merge_9 : decode cX10_merge 9 = .ok (.ifCond .ne 10, 3) := by decide +kernel
theorem dX10_merge_12 : decode cX10_merge 12 = .ok (.aload_n 0, 1) := by decide +kernel
theorem dX10_merge_13 : decode cX10_merge 13 = .ok (.iload_n 2, 1) := by decide +kernel
theorem dX10_merge_14 : decode cX10_merge 14 = .ok (.invokevirtual 161, 3) := by decide +kernel
theorem dX10_merge_17 : decode cX10_merge 17 = .ok (.istore 5, 2) := by decide +kernel
theorem dX10_merge_19 : decode cX10_merge 19 = .ok (.iload 5, 2) := by decide +kernel
theorem dX10_merge_21 : decode cX10_merge 21 = .ok (.ifCond .ne 10, 3) := by decide +kernel
theorem dX10_merge_24 : decode cX10_merge 24 = .ok (.aload_n 0, 1) := by decide +kernel
theorem dX10_merge_25 : decode cX10_merge 25 = .ok (.iload_n 3, 1) := by decide +kernel
theorem dX10_merge_26 : decode cX10_merge 26 = .ok (.invokevirtual 161, 3) := by decide +kernel
theorem dX10_merge_29 : decode cX10_merge 29 = .ok (.istore 5, 2) := by decide +kernel
theorem dX10_merge_31 : decode cX10_merge 31 = .ok (.iload 5, 2) := by decide +kernel
theorem dX10_merge_33 : decode cX10_merge 33 = .ok (.ifCond .ge 10, 3) := by decide +kernel
theorem dX10_merge_36 : decode cX10_merge 36 = .ok (.aload_n 0, 1) := by decide +kernel
theorem dX10_merge_37 : decode cX10_merge 37 = .ok (.iload 5, 2) := by decide +kernel
theorem dX10_merge_39 : decode cX10_merge 39 = .ok (.invokevirtual 126, 3) := by decide +kernel
theorem dX10_merge_42 : decode cX10_merge 42 = .ok (.ireturn, 1) := by decide +kernel
theorem dX10_merge_43 : decode cX10_merge 43 = .ok (.iload 4, 2) := by decide +kernel
theorem dX10_merge_45 : decode cX10_merge 45 = .ok (.invokestatic 100, 3) := by decide +kernel
theorem dX10_merge_48 : decode cX10_merge 48 = .ok (.ifCond .ne 9, 3) := by decide +kernel
theorem dX10_merge_51 : decode cX10_merge 51 = .ok (.aload_n 0, 1) := by decide +kernel
theorem dX10_merge_52 : decode cX10_merge 52 = .ok (.iconst (-1), 1) := by decide +kernel
theorem dX10_merge_53 : decode cX10_merge 53 = .ok (.invokevirtual 126, 3) := by decide +kernel
theorem dX10_merge_56 : decode cX10_merge 56 = .ok (.ireturn, 1) := by decide +kernel
theorem dX10_merge_57 : decode cX10_merge 57 = .ok (.aload_n 0, 1) := by decide +kernel
theorem dX10_merge_58 : decode cX10_merge 58 = .ok (.iconst 0, 1) := by decide +kernel
theorem dX10_merge_59 : decode cX10_merge 59 = .ok (.putfield 237, 3) := by decide +kernel
theorem dX10_merge_62 : decode cX10_merge 62 = .ok (.aload_n 0, 1) := by decide +kernel
theorem dX10_merge_63 : decode cX10_merge 63 = .ok (.iconst 0, 1) := by decide +kernel
theorem dX10_merge_64 : decode cX10_merge 64 = .ok (.putfield 250, 3) := by decide +kernel
theorem dX10_merge_67 : decode cX10_merge 67 = .ok (.aload_n 0, 1) := by decide +kernel
theorem dX10_merge_68 : decode cX10_merge 68 = .ok (.iload_n 1, 1) := by decide +kernel
theorem dX10_merge_69 : decode cX10_merge 69 = .ok (.iconst 0, 1) := by decide +kernel
theorem dX10_merge_70 : decode cX10_merge 70 = .ok (.iconst 0, 1) := by decide +kernel
theorem dX10_merge_71 : decode cX10_merge 71 = .ok (.invokevirtual 104, 3) := by decide +kernel
theorem dX10_merge_74 : decode cX10_merge 74 = .ok (.istore 6, 2) := by decide +kernel
theorem dX10_merge_76 : decode cX10_merge 76 = .ok (.aload_n 0, 1) := by decide +kernel
theorem dX10_merge_77 : decode cX10_merge 77 = .ok (.iload_n 2, 1) := by decide +kernel
theorem dX10_merge_78 : decode cX10_merge 78 = .ok (.iconst 0, 1) := by decide +kernel
theorem dX10_merge_79 : decode cX10_merge 79 = .ok (.iconst 0, 1) := by decide +kernel
theorem dX10_merge_80 : decode cX10_merge 80 = .ok (.invokevirtual 104, 3) := by decide +kernel
theorem dX10_merge_83 : decode cX10_merge 83 = .ok (.iload 6, 2) := by decide +kernel
theorem dX10_merge_85 : decode cX10_merge 85 = .ok (.if_icmp .ne 15, 3) := by decide +kernel
theorem dX10_merge_88 : decode cX10_merge 88 = .ok (.aload_n 0, 1) := by decide +kernel
theorem dX10_merge_89 : decode cX10_merge 89 = .ok (.iload_n 3, 1) := by decide +kernel
theorem dX10_merge_90 : decode cX10_merge 90 = .ok (.iconst 0, 1) := by decide +kernel
theorem dX10_merge_91 : decode cX10_merge 91 = .ok (.iconst 0, 1) := by decide +kernel
theorem dX10_merge_92 : decode cX10_merge 92 = .ok (.invokevirtual 104, 3) := by decide +kernel
theorem dX10_merge_95 : decode cX10_merge 95 = .ok (.iload 6, 2) := by decide +kernel
theorem dX10_merge_97 : decode cX10_merge 97 = .ok (.if_icmp .eq 14, 3) := by decide +kernel
theorem dX10_merge_100 : decode cX10_merge 100 = .ok (.aload_n 0, 1) := by decide +kernel
theorem dX10_merge_101 : decode cX10_merge 101 = .ok (.iconst (-1), 1) := by decide +kernel
theorem dX10_merge_102 : decode cX10_merge 102 = .ok (.iconst 4, 1) := by decide +kernel
theorem dX10_merge_103 : decode cX10_merge 103 = .ok (.invokevirtual 253, 3) := by decide +kernel
theorem dX10_merge_106 : decode cX10_merge 106 = .ok (.aload_n 0, 1) := by decide +kernel
theorem dX10_merge_107 : decode cX10_merge 107 = .ok (.getfield 237, 3) := by decide +kernel
theorem dX10_merge_110 : decode cX10_merge 110 = .ok (.ireturn, 1) := by decide +kernel
theorem dX10_merge_111 : decode cX10_merge 111 = .ok (.aload_n 0, 1) := by decide +kernel
theorem dX10_merge_112 : decode cX10_merge 112 = .ok (.iload_n 1, 1) := by decide +kernel
theorem dX10_merge_113 : decode cX10_merge 113 = .ok (.iload_n 2, 1) := by decide +kernel
theorem dX10_merge_114 : decode cX10_merge 114 = .ok (.iload_n 3, 1) := by decide +kernel
theorem dX10_merge_115 : decode cX10_merge 115 = .ok (.invokevirtual 256, 3) := by decide +kernel
theorem dX10_merge_118 : decode cX10_merge 118 = .ok (.istore 7, 2) := by decide +kernel
theorem dX10_merge_120 : decode cX10_merge 120 = .ok (.iload 7, 2) := by decide +kernel
theorem dX10_merge_122 : decode cX10_merge 122 = .ok (.ifCond .ne 9, 3) := by decide +kernel
theorem dX10_merge_125 : decode cX10_merge 125 = .ok (.aload_n 0, 1) := by decide +kernel
theorem dX10_merge_126 : decode cX10_merge 126 = .ok (.iconst (-1), 1) := by decide +kernel
theorem dX10_merge_127 : decode cX10_merge 127 = .ok (.iconst 5, 1) := by decide +kernel
theorem dX10_merge_128 : decode cX10_merge 128 = .ok (.invokevirtual 253, 3) := by decide +kernel
theorem dX10_merge_131 : decode cX10_merge 131 = .ok (.aload_n 0, 1) := by decide +kernel
theorem dX10_merge_132 : decode cX10_merge 132 = .ok (.iload_n 2, 1) := by decide +kernel
theorem dX10_merge_133 : decode cX10_merge 133 = .ok (.iload_n 3, 1) := by decide +kernel
theorem dX10_merge_134 : decode cX10_merge 134 = .ok (.iconst (-1), 1) := by decide +kernel
theorem dX10_merge_135 : decode cX10_merge 135 = .ok (.invokevirtual 259, 3) := by decide +kernel
theorem dX10_merge_138 : decode cX10_merge 138 = .ok (.istore 8, 2) := by decide +kernel
theorem dX10_merge_140 : decode cX10_merge 140 = .ok (.iload 8, 2) := by decide +kernel
theorem dX10_merge_142 : decode cX10_merge 142 = .ok (.ifCond .lt 59, 3) := by decide +kernel
theorem dX10_merge_145 : decode cX10_merge 145 = .ok (.iconst 0, 1) := by decide +kernel
theorem dX10_merge_146 : decode cX10_merge 146 = .ok (.istore 9, 2) := by decide +kernel
theorem dX10_merge_148 : decode cX10_merge 148 = .ok (.iload 9, 2) := by decide +kernel
theorem dX10_merge_150 : decode cX10_merge 150 = .ok (.iconst 4, 1) := by decide +kernel
theorem dX10_merge_151 : decode cX10_merge 151 = .ok (.if_icmp .ge 37, 3) := by decide +kernel
theorem dX10_merge_154 : decode cX10_merge 154 = .ok (.aload_n 0, 1) := by decide +kernel
theorem dX10_merge_155 : decode cX10_merge 155 = .ok (.iload_n 1, 1) := by decide +kernel
theorem dX10_merge_156 : decode cX10_merge 156 = .ok (.iload_n 2, 1) := by decide +kernel
theorem dX10_merge_157 : decode cX10_merge 157 = .ok (.iload_n 3, 1) := by decide +kernel
theorem dX10_merge_158 : decode cX10_merge 158 = .ok (.iload 8, 2) := by decide +kernel
theorem dX10_merge_160 : decode cX10_merge 160 = .ok (.iload 9, 2) := by decide +kernel
theorem dX10_merge_162 : decode cX10_merge 162 = .ok (.invokevirtual 247, 3) := by decide +kernel
theorem dX10_merge_165 : decode cX10_merge 165 = .ok (.istore 10, 2) := by decide +kernel
theorem dX10_merge_167 : decode cX10_merge 167 = .ok (.aload_n 0, 1) := by decide +kernel
theorem dX10_merge_168 : decode cX10_merge 168 = .ok (.getfield 240, 3) := by decide +kernel
theorem dX10_merge_171 : decode cX10_merge 171 = .ok (.ifCond .eq 11, 3) := by decide +kernel
theorem dX10_merge_174 : decode cX10_merge 174 = .ok (.aload_n 0, 1) := by decide +kernel
theorem dX10_merge_175 : decode cX10_merge 175 = .ok (.iload 8, 2) := by decide +kernel
theorem dX10_merge_177 : decode cX10_merge 177 = .ok (.iload 9, 2) := by decide +kernel
theorem dX10_merge_179 : decode cX10_merge 179 = .ok (.invokevirtual 253, 3) := by decide +kernel
theorem dX10_merge_182 : decode cX10_merge 182 = .ok (.iinc 9 1, 3) := by decide +kernel
theorem dX10_merge_185 : decode cX10_merge 185 = .ok (.goto (-37), 3) := by decide +kernel
theorem dX10_merge_188 : decode cX10_merge 188 = .ok (.aload_n 0, 1) := by decide +kernel
theorem dX10_merge_189 : decode cX10_merge 189 = .ok (.iload_n 2, 1) := by decide +kernel
theorem dX10_merge_190 : decode cX10_merge 190 = .ok (.iload_n 3, 1) := by decide +kernel
theorem dX10_merge_191 : decode cX10_merge 191 = .ok (.iload 8, 2) := by decide +kernel
theorem dX10_merge_193 : decode cX10_merge 193 = .ok (.invokevirtual 259, 3) := by decide +kernel
theorem dX10_merge_196 : decode cX10_merge 196 = .ok (.istore 8, 2) := by decide +kernel
theorem dX10_merge_198 : decode cX10_merge 198 = .ok (.goto (-58), 3) := by decide +kernel
theorem dX10_merge_201 : decode cX10_merge 201 = .ok (.iload 7, 2) := by decide +kernel
theorem dX10_merge_203 : decode cX10_merge 203 = .ok (.ifCond .eq 22, 3) := by decide +kernel
theorem dX10_merge_206 : decode cX10_merge 206 = .ok (.aload_n 0, 1) := by decide +kernel
theorem dX10_merge_207 : decode cX10_merge 207 = .ok (.aload_n 0, 1) := by decide +kernel
theorem dX10_merge_208 : decode cX10_merge 208 = .ok (.getfield 13, 3) := by decide +kernel
theorem dX10_merge_211 : decode cX10_merge 211 = .ok (.bipush 9, 2) := by decide +kernel
theorem dX10_merge_213 : decode cX10_merge 213 = .ok (.iaload, 1) := by decide +kernel
theorem dX10_merge_214 : decode cX10_merge 214 = .ok (.putfield 250, 3) := by decide +kernel
theorem dX10_merge_217 : decode cX10_merge 217 = .ok (.aload_n 0, 1) := by decide +kernel
theorem dX10_merge_218 : decode cX10_merge 218 = .ok (.bipush 9, 2) := by decide +kernel
theorem dX10_merge_220 : decode cX10_merge 220 = .ok (.iload 4, 2) := by decide +kernel
theorem dX10_merge_222 : decode cX10_merge 222 = .ok (.invokevirtual 151, 3) := by decide +kernel
theorem dX10_merge_225 : decode cX10_merge 225 = .ok (.aload_n 0, 1) := by decide +kernel
theorem dX10_merge_226 : decode cX10_merge 226 = .ok (.getfield 237, 3) := by decide +kernel
theorem dX10_merge_229 : decode cX10_merge 229 = .ok (.ireturn, 1) := by decide +kernel
theorem dX10_least_0 : decode cX10_least 0 = .ok (.iconst (-1), 1) := by decide +kernel
theorem dX10_least_1 : decode cX10_least 1 = .ok (.istore 4, 2) := by decide +kernel
theorem dX10_least_3 : decode cX10_least 3 = .ok (.iconst 0, 1) := by decide +kernel
theorem dX10_least_4 : decode cX10_least 4 = .ok (.istore 5, 2) := by decide +kernel
theorem dX10_least_6 : decode cX10_least 6 = .ok (.iload 5, 2) := by decide +kernel
theorem dX10_least_8 : decode cX10_least 8 = .ok (.aload_n 0, 1) := by decide +kernel
theorem dX10_least_9 : decode cX10_least 9 = .ok (.getfield 13, 3) := by decide +kernel
theorem dX10_least_12 : decode cX10_least 12 = .ok (.iload_n 1, 1) := by decide +kernel
theorem dX10_least_13 : decode cX10_least 13 = .ok (.iaload, 1) := by decide +kernel
theorem dX10_least_14 : decode cX10_least 14 = .ok (.if_icmp .ge 51, 3) := by decide +kernel
theorem dX10_least_17 : decode cX10_least 17 = .ok (.aload_n 0, 1) := by decide +kernel
theorem dX10_least_18 : decode cX10_least 18 = .ok (.iload_n 1, 1) := by decide +kernel
theorem dX10_least_19 : decode cX10_least 19 = .ok (.iload 5, 2) := by decide +kernel
theorem dX10_least_21 : decode cX10_least 21 = .ok (.iconst 0, 1) := by decide +kernel
theorem dX10_least_22 : decode cX10_least 22 = .ok (.invokevirtual 104, 3) := by decide +kernel
theorem dX10_least_25 : decode cX10_least 25 = .ok (.istore 6, 2) := by decide +kernel
theorem dX10_least_27 : decode cX10_least 27 = .ok (.iload 6, 2) := by decide +kernel
theorem dX10_least_29 : decode cX10_least 29 = .ok (.iload_n 3, 1) := by decide +kernel
theorem dX10_least_30 : decode cX10_least 30 = .ok (.if_icmp .le 29, 3) := by decide +kernel
theorem dX10_least_33 : decode cX10_least 33 = .ok (.aload_n 0, 1) := by decide +kernel
theorem dX10_least_34 : decode cX10_least 34 = .ok (.iload_n 2, 1) := by decide +kernel
theorem dX10_least_35 : decode cX10_least 35 = .ok (.iload 6, 2) := by decide +kernel
theorem dX10_least_37 : decode cX10_least 37 = .ok (.invokevirtual 181, 3) := by decide +kernel
theorem dX10_least_40 : decode cX10_least 40 = .ok (.ifCond .lt 19, 3) := by decide +kernel
theorem dX10_least_43 : decode cX10_least 43 = .ok (.iload 4, 2) := by decide +kernel
theorem dX10_least_45 : decode cX10_least 45 = .ok (.ifCond .lt 10, 3) := by decide +kernel
theorem dX10_least_48 : decode cX10_least 48 = .ok (.iload 6, 2) := by decide +kernel
theorem dX10_least_50 : decode cX10_least 50 = .ok (.iload 4, 2) := by decide +kernel
theorem dX10_least_52 : decode cX10_least 52 = .ok (.if_icmp .ge 7, 3) := by decide +kernel
theorem dX10_least_55 : decode cX10_least 55 = .ok (.iload 6, 2) := by decide +kernel
theorem dX10_least_57 : decode cX10_least 57 = .ok (.istore 4, 2) := by decide +kernel
theorem dX10_least_59 : decode cX10_least 59 = .ok (.iinc 5 1, 3) := by decide +kernel
theorem dX10_least_62 : decode cX10_least 62 = .ok (.goto (-56), 3) := by decide +kernel
theorem dX10_least_65 : decode cX10_least 65 = .ok (.iload 4, 2) := by decide +kernel
theorem dX10_least_67 : decode cX10_least 67 = .ok (.ireturn, 1) := by decide +kernel
theorem dX10_merged_0 : decode cX10_merged 0 = .ok (.aload_n 0, 1) := by decide +kernel
theorem dX10_merged_1 : decode cX10_merged 1 = .ok (.getfield 250, 3) := by decide +kernel
theorem dX10_merged_4 : decode cX10_merged 4 = .ok (.ireturn, 1) := by decide +kernel
theorem dX10_clash_0 : decode cX10_clash 0 = .ok (.iload_n 1, 1) := by decide +kernel
theorem dX10_clash_1 : decode cX10_clash 1 = .ok (.iconst 0, 1) := by decide +kernel
theorem dX10_clash_2 : decode cX10_clash 2 = .ok (.aload_n 0, 1) := by decide +kernel
theorem dX10_clash_3 : decode cX10_clash 3 = .ok (.getfield 237, 3) := by decide +kernel
theorem dX10_clash_6 : decode cX10_clash 6 = .ok (.iconst 1, 1) := by decide +kernel
theorem dX10_clash_7 : decode cX10_clash 7 = .ok (.isub, 1) := by decide +kernel
theorem dX10_clash_8 : decode cX10_clash 8 = .ok (.invokestatic 96, 3) := by decide +kernel
theorem dX10_clash_11 : decode cX10_clash 11 = .ok (.ifCond .ne 10, 3) := by decide +kernel
theorem dX10_clash_14 : decode cX10_clash 14 = .ok (.aload_n 0, 1) := by decide +kernel
theorem dX10_clash_15 : decode cX10_clash 15 = .ok (.bipush (-6), 2) := by decide +kernel
theorem dX10_clash_17 : decode cX10_clash 17 = .ok (.invokevirtual 126, 3) := by decide +kernel
theorem dX10_clash_20 : decode cX10_clash 20 = .ok (.ireturn, 1) := by decide +kernel
theorem dX10_clash_21 : decode cX10_clash 21 = .ok (.iload_n 2, 1) := by decide +kernel
theorem dX10_clash_22 : decode cX10_clash 22 = .ok (.ifCond .ne 12, 3) := by decide +kernel
theorem dX10_clash_25 : decode cX10_clash 25 = .ok (.aload_n 0, 1) := by decide +kernel
theorem dX10_clash_26 : decode cX10_clash 26 = .ok (.getfield 84, 3) := by decide +kernel
theorem dX10_clash_29 : decode cX10_clash 29 = .ok (.iload_n 1, 1) := by decide +kernel
theorem dX10_clash_30 : decode cX10_clash 30 = .ok (.iaload, 1) := by decide +kernel
theorem dX10_clash_31 : decode cX10_clash 31 = .ok (.goto 22, 3) := by decide +kernel
theorem dX10_clash_34 : decode cX10_clash 34 = .ok (.iload_n 2, 1) := by decide +kernel
theorem dX10_clash_35 : decode cX10_clash 35 = .ok (.iconst 1, 1) := by decide +kernel
theorem dX10_clash_36 : decode cX10_clash 36 = .ok (.if_icmp .ne 12, 3) := by decide +kernel
theorem dX10_clash_39 : decode cX10_clash 39 = .ok (.aload_n 0, 1) := by decide +kernel
theorem dX10_clash_40 : decode cX10_clash 40 = .ok (.getfield 87, 3) := by decide +kernel
theorem dX10_clash_43 : decode cX10_clash 43 = .ok (.iload_n 1, 1) := by decide +kernel
theorem dX10_clash_44 : decode cX10_clash 44 = .ok (.iaload, 1) := by decide +kernel
theorem dX10_clash_45 : decode cX10_clash 45 = .ok (.goto 8, 3) := by decide +kernel
theorem dX10_clash_48 : decode cX10_clash 48 = .ok (.aload_n 0, 1) := by decide +kernel
theorem dX10_clash_49 : decode cX10_clash 49 = .ok (.iconst (-1), 1) := by decide +kernel
theorem dX10_clash_50 : decode cX10_clash 50 = .ok (.invokevirtual 126, 3) := by decide +kernel
theorem dX10_clash_53 : decode cX10_clash 53 = .ok (.ireturn, 1) := by decide +kernel
theorem dX10_found_0 : decode cX10_found 0 = .ok (.iload_n 1, 1) := by decide +kernel
theorem dX10_found_1 : decode cX10_found 1 = .ok (.bipush (-7), 2) := by decide +kernel
theorem dX10_found_3 : decode cX10_found 3 = .ok (.iconst (-1), 1) := by decide +kernel
theorem dX10_found_4 : decode cX10_found 4 = .ok (.invokestatic 96, 3) := by decide +kernel
theorem dX10_found_7 : decode cX10_found 7 = .ok (.ifCond .ne 9, 3) := by decide +kernel
theorem dX10_found_10 : decode cX10_found 10 = .ok (.iload_n 1, 1) := by decide +kernel
theorem dX10_found_11 : decode cX10_found 11 = .ok (.bipush (-9), 2) := by decide +kernel
theorem dX10_found_13 : decode cX10_found 13 = .ok (.if_icmp .ne 13, 3) := by decide +kernel
theorem dX10_found_16 : decode cX10_found 16 = .ok (.aload_n 0, 1) := by decide +kernel
theorem dX10_found_17 : decode cX10_found 17 = .ok (.getfield 25, 3) := by decide +kernel
theorem dX10_found_20 : decode cX10_found 20 = .ok (.iload_n 1, 1) := by decide +kernel
theorem dX10_found_21 : decode cX10_found 21 = .ok (.ineg, 1) := by decide +kernel
theorem dX10_found_22 : decode cX10_found 22 = .ok (.iaload, 1) := by decide +kernel
theorem dX10_found_23 : decode cX10_found 23 = .ok (.goto 8, 3) := by decide +kernel
theorem dX10_found_26 : decode cX10_found 26 = .ok (.aload_n 0, 1) := by decide +kernel
theorem dX10_found_27 : decode cX10_found 27 = .ok (.iconst (-1), 1) := by decide +kernel
theorem dX10_found_28 : decode cX10_found 28 = .ok (.invokevirtual 126, 3) := by decide +kernel
theorem dX10_found_31 : decode cX10_found 31 = .ok (.ireturn, 1) := by decide +kernel
theorem dL_law_0 : decode cL_law 0 = .ok (.new 7, 3) := by decide +kernel
theorem dL_law_3 : decode cL_law 3 = .ok (.dup, 1) := by decide +kernel
theorem dL_law_4 : decode cL_law 4 = .ok (.invokespecial 9, 3) := by decide +kernel
theorem dL_law_7 : decode cL_law 7 = .ok (.astore_n 1, 1) := by decide +kernel
theorem dL_law_8 : decode cL_law 8 = .ok (.new 10, 3) := by decide +kernel
theorem dL_law_11 : decode cL_law 11 = .ok (.dup, 1) := by decide +kernel
theorem dL_law_12 : decode cL_law 12 = .ok (.invokespecial 12, 3) := by decide +kernel
theorem dL_law_15 : decode cL_law 15 = .ok (.astore_n 2, 1) := by decide +kernel
theorem dL_law_16 : decode cL_law 16 = .ok (.iconst 0, 1) := by decide +kernel
theorem dL_law_17 : decode cL_law 17 = .ok (.istore_n 3, 1) := by decide +kernel
theorem dL_law_18 : decode cL_law 18 = .ok (.iload_n 3, 1) := by decide +kernel
theorem dL_law_19 : decode cL_law 19 = .ok (.aload_n 0, 1) := by decide +kernel
theorem dL_law_20 : decode cL_law 20 = .ok (.arraylength, 1) := by decide +kernel
theorem dL_law_21 : decode cL_law 21 = .ok (.bipush 6, 2) := by decide +kernel
theorem dL_law_23 : decode cL_law 23 = .ok (.isub, 1) := by decide +kernel
theorem dL_law_24 : decode cL_law 24 = .ok (.if_icmp .gt 1009, 3) := by decide +kernel
theorem dL_law_27 : decode cL_law 27 = .ok (.aload_n 0, 1) := by decide +kernel
theorem dL_law_28 : decode cL_law 28 = .ok (.iload_n 3, 1) := by decide +kernel
theorem dL_law_29 : decode cL_law 29 = .ok (.iaload, 1) := by decide +kernel
theorem dL_law_30 : decode cL_law 30 = .ok (.bipush 31, 2) := by decide +kernel
theorem dL_law_32 : decode cL_law 32 = .ok (.iand, 1) := by decide +kernel
theorem dL_law_33 : decode cL_law 33 = .ok (.tableswitch 994 0 26 #[123, 186, 209, 232, 255, 288, 311, 354, 377, 410, 443, 506, 539, 592, 625, 658, 691, 724, 737, 770, 783, 816, 839, 872, 925, 938, 971], 123) := by decide +kernel
theorem dL_law_156 : decode cL_law 156 = .ok (.aload_n 1, 1) := by decide +kernel
theorem dL_law_157 : decode cL_law 157 = .ok (.aload_n 0, 1) := by decide +kernel
theorem dL_law_158 : decode cL_law 158 = .ok (.iload_n 3, 1) := by decide +kernel
theorem dL_law_159 : decode cL_law 159 = .ok (.iconst 1, 1) := by decide +kernel
theorem dL_law_160 : decode cL_law 160 = .ok (.iadd, 1) := by decide +kernel
theorem dL_law_161 : decode cL_law 161 = .ok (.iaload, 1) := by decide +kernel
theorem dL_law_162 : decode cL_law 162 = .ok (.i2l, 1) := by decide +kernel
theorem dL_law_163 : decode cL_law 163 = .ok (.bipush 32, 2) := by decide +kernel
theorem dL_law_165 : decode cL_law 165 = .ok (.lshl, 1) := by decide +kernel
theorem dL_law_166 : decode cL_law 166 = .ok (.aload_n 0, 1) := by decide +kernel
theorem dL_law_167 : decode cL_law 167 = .ok (.iload_n 3, 1) := by decide +kernel
theorem dL_law_168 : decode cL_law 168 = .ok (.iconst 2, 1) := by decide +kernel
theorem dL_law_169 : decode cL_law 169 = .ok (.iadd, 1) := by decide +kernel
theorem dL_law_170 : decode cL_law 170 = .ok (.iaload, 1) := by decide +kernel
theorem dL_law_171 : decode cL_law 171 = .ok (.i2l, 1) := by decide +kernel
theorem dL_law_172 : decode cL_law 172 = .ok (.ldc2_w 13, 3) := by decide +kernel
theorem dL_law_175 : decode cL_law 175 = .ok (.land, 1) := by decide +kernel
theorem dL_law_176 : decode cL_law 176 = .ok (.lor, 1) := by decide +kernel
theorem dL_law_177 : decode cL_law 177 = .ok (.aload_n 0, 1) := by decide +kernel
theorem dL_law_178 : decode cL_law 178 = .ok (.iload_n 3, 1) := by decide +kernel
theorem dL_law_179 : decode cL_law 179 = .ok (.iconst 3, 1) := by decide +kernel
theorem dL_law_180 : decode cL_law 180 = .ok (.iadd, 1) := by decide +kernel
theorem dL_law_181 : decode cL_law 181 = .ok (.iaload, 1) := by decide +kernel
theorem dL_law_182 : decode cL_law 182 = .ok (.invokevirtual 15, 3) := by decide +kernel
theorem dL_law_185 : decode cL_law 185 = .ok (.aload_n 2, 1) := by decide +kernel
theorem dL_law_186 : decode cL_law 186 = .ok (.aload_n 0, 1) := by decide +kernel
theorem dL_law_187 : decode cL_law 187 = .ok (.iload_n 3, 1) := by decide +kernel
theorem dL_law_188 : decode cL_law 188 = .ok (.iconst 1, 1) := by decide +kernel
theorem dL_law_189 : decode cL_law 189 = .ok (.iadd, 1) := by decide +kernel
theorem dL_law_190 : decode cL_law 190 = .ok (.iaload, 1) := by decide +kernel
theorem dL_law_191 : decode cL_law 191 = .ok (.i2l, 1) := by decide +kernel
theorem dL_law_192 : decode cL_law 192 = .ok (.bipush 32, 2) := by decide +kernel
theorem dL_law_194 : decode cL_law 194 = .ok (.lshl, 1) := by decide +kernel
theorem dL_law_195 : decode cL_law 195 = .ok (.aload_n 0, 1) := by decide +kernel
theorem dL_law_196 : decode cL_law 196 = .ok (.iload_n 3, 1) := by decide +kernel
theorem dL_law_197 : decode cL_law 197 = .ok (.iconst 2, 1) := by decide +kernel
theorem dL_law_198 : decode cL_law 198 = .ok (.iadd, 1) := by decide +kernel
theorem dL_law_199 : decode cL_law 199 = .ok (.iaload, 1) := by decide +kernel
theorem dL_law_200 : decode cL_law 200 = .ok (.i2l, 1) := by decide +kernel
theorem dL_law_201 : decode cL_law 201 = .ok (.ldc2_w 13, 3) := by decide +kernel
theorem dL_law_204 : decode cL_law 204 = .ok (.land, 1) := by decide +kernel
theorem dL_law_205 : decode cL_law 205 = .ok (.lor, 1) := by decide +kernel
theorem dL_law_206 : decode cL_law 206 = .ok (.aload_n 0, 1) := by decide +kernel
theorem dL_law_207 : decode cL_law 207 = .ok (.iload_n 3, 1) := by decide +kernel
theorem dL_law_208 : decode cL_law 208 = .ok (.iconst 3, 1) := by decide +kernel
theorem dL_law_209 : decode cL_law 209 = .ok (.iadd, 1) := by decide +kernel
theorem dL_law_210 : decode cL_law 210 = .ok (.iaload, 1) := by decide +kernel
theorem dL_law_211 : decode cL_law 211 = .ok (.invokevirtual 19, 3) := by decide +kernel
theorem dL_law_214 : decode cL_law 214 = .ok (.if_icmp .eq 813, 3) := by decide +kernel
theorem dL_law_217 : decode cL_law 217 = .ok (.iconst 0, 1) := by decide +kernel
theorem dL_law_218 : decode cL_law 218 = .ok (.ireturn, 1) := by decide +kernel
theorem dL_law_219 : decode cL_law 219 = .ok (.aload_n 1, 1) := by decide +kernel
theorem dL_law_220 : decode cL_law 220 = .ok (.aload_n 0, 1) := by decide +kernel
theorem dL_law_221 : decode cL_law 221 = .ok (.iload_n 3, 1) := by decide +kernel
theorem dL_law_222 : decode cL_law 222 = .ok (.iconst 1, 1) := by decide +kernel
theorem dL_law_223 : decode cL_law 223 = .ok (.iadd, 1) := by decide +kernel
theorem dL_law_224 : decode cL_law 224 = .ok (.iaload, 1) := by decide +kernel
theorem dL_law_225 : decode cL_law 225 = .ok (.invokevirtual 20, 3) := by decide +kernel
theorem dL_law_228 : decode cL_law 228 = .ok (.aload_n 2, 1) := by decide +kernel
theorem dL_law_229 : decode cL_law 229 = .ok (.aload_n 0, 1) := by decide +kernel
theorem dL_law_230 : decode cL_law 230 = .ok (.iload_n 3, 1) := by decide +kernel
theorem dL_law_231 : decode cL_law 231 = .ok (.iconst 1, 1) := by decide +kernel
theorem dL_law_232 : decode cL_law 232 = .ok (.iadd, 1) := by decide +kernel
theorem dL_law_233 : decode cL_law 233 = .ok (.iaload, 1) := by decide +kernel
theorem dL_law_234 : decode cL_law 234 = .ok (.invokevirtual 24, 3) := by decide +kernel
theorem dL_law_237 : decode cL_law 237 = .ok (.if_icmp .eq 790, 3) := by decide +kernel
theorem dL_law_240 : decode cL_law 240 = .ok (.iconst 0, 1) := by decide +kernel
theorem dL_law_241 : decode cL_law 241 = .ok (.ireturn, 1) := by decide +kernel
theorem dL_law_242 : decode cL_law 242 = .ok (.aload_n 1, 1) := by decide +kernel
theorem dL_law_243 : decode cL_law 243 = .ok (.aload_n 0, 1) := by decide +kernel
theorem dL_law_244 : decode cL_law 244 = .ok (.iload_n 3, 1) := by decide +kernel
theorem dL_law_245 : decode cL_law 245 = .ok (.iconst 1, 1) := by decide +kernel
theorem dL_law_246 : decode cL_law 246 = .ok (.iadd, 1) := by decide +kernel
theorem dL_law_247 : decode cL_law 247 = .ok (.iaload, 1) := by decide +kernel
theorem dL_law_248 : decode cL_law 248 = .ok (.invokevirtual 25, 3) := by decide +kernel
theorem dL_law_251 : decode cL_law 251 = .ok (.aload_n 2, 1) := by decide +kernel
theorem dL_law_252 : decode cL_law 252 = .ok (.aload_n 0, 1) := by decide +kernel
theorem dL_law_253 : decode cL_law 253 = .ok (.iload_n 3, 1) := by decide +kernel
theorem dL_law_254 : decode cL_law 254 = .ok (.iconst 1, 1) := by decide +kernel
theorem dL_law_255 : decode cL_law 255 = .ok (.iadd, 1) := by decide +kernel
theorem dL_law_256 : decode cL_law 256 = .ok (.iaload, 1) := by decide +kernel
theorem dL_law_257 : decode cL_law 257 = .ok (.invokevirtual 28, 3) := by decide +kernel
theorem dL_law_260 : decode cL_law 260 = .ok (.if_icmp .eq 767, 3) := by decide +kernel
theorem dL_law_263 : decode cL_law 263 = .ok (.iconst 0, 1) := by decide +kernel
theorem dL_law_264 : decode cL_law 264 = .ok (.ireturn, 1) := by decide +kernel
theorem dL_law_265 : decode cL_law 265 = .ok (.aload_n 1, 1) := by decide +kernel
theorem dL_law_266 : decode cL_law 266 = .ok (.aload_n 0, 1) := by decide +kernel
theorem dL_law_267 : decode cL_law 267 = .ok (.iload_n 3, 1) := by decide +kernel
theorem dL_law_268 : decode cL_law 268 = .ok (.iconst 1, 1) := by decide +kernel
theorem dL_law_269 : decode cL_law 269 = .ok (.iadd, 1) := by decide +kernel
theorem dL_law_270 : decode cL_law 270 = .ok (.iaload, 1) := by decide +kernel
theorem dL_law_271 : decode cL_law 271 = .ok (.invokevirtual 29, 3) := by decide +kernel
theorem dL_law_274 : decode cL_law 274 = .ok (.aload_n 2, 1) := by decide +kernel
theorem dL_law_275 : decode cL_law 275 = .ok (.aload_n 0, 1) := by decide +kernel
theorem dL_law_276 : decode cL_law 276 = .ok (.iload_n 3, 1) := by decide +kernel
theorem dL_law_277 : decode cL_law 277 = .ok (.iconst 1, 1) := by decide +kernel
theorem dL_law_278 : decode cL_law 278 = .ok (.iadd, 1) := by decide +kernel
theorem dL_law_279 : decode cL_law 279 = .ok (.iaload, 1) := by decide +kernel
theorem dL_law_280 : decode cL_law 280 = .ok (.invokevirtual 32, 3) := by decide +kernel
theorem dL_law_283 : decode cL_law 283 = .ok (.if_icmp .eq 744, 3) := by decide +kernel
theorem dL_law_286 : decode cL_law 286 = .ok (.iconst 0, 1) := by decide +kernel
theorem dL_law_287 : decode cL_law 287 = .ok (.ireturn, 1) := by decide +kernel
theorem dL_law_288 : decode cL_law 288 = .ok (.aload_n 1, 1) := by decide +kernel
theorem dL_law_289 : decode cL_law 289 = .ok (.aload_n 0, 1) := by decide +kernel
theorem dL_law_290 : decode cL_law 290 = .ok (.iload_n 3, 1) := by decide +kernel
theorem dL_law_291 : decode cL_law 291 = .ok (.iconst 1, 1) := by decide +kernel
theorem dL_law_292 : decode cL_law 292 = .ok (.iadd, 1) := by decide +kernel
theorem dL_law_293 : decode cL_law 293 = .ok (.iaload, 1) := by decide +kernel
theorem dL_law_294 : decode cL_law 294 = .ok (.aload_n 0, 1) := by decide +kernel
theorem dL_law_295 : decode cL_law 295 = .ok (.iload_n 3, 1) := by decide +kernel
theorem dL_law_296 : decode cL_law 296 = .ok (.iconst 2, 1) := by decide +kernel
theorem dL_law_297 : decode cL_law 297 = .ok (.iadd, 1) := by decide +kernel
theorem dL_law_298 : decode cL_law 298 = .ok (.iaload, 1) := by decide +kernel
theorem dL_law_299 : decode cL_law 299 = .ok (.invokevirtual 33, 3) := by decide +kernel
theorem dL_law_302 : decode cL_law 302 = .ok (.aload_n 2, 1) := by decide +kernel
theorem dL_law_303 : decode cL_law 303 = .ok (.aload_n 0, 1) := by decide +kernel
theorem dL_law_304 : decode cL_law 304 = .ok (.iload_n 3, 1) := by decide +kernel
theorem dL_law_305 : decode cL_law 305 = .ok (.iconst 1, 1) := by decide +kernel
theorem dL_law_306 : decode cL_law 306 = .ok (.iadd, 1) := by decide +kernel
theorem dL_law_307 : decode cL_law 307 = .ok (.iaload, 1) := by decide +kernel
theorem dL_law_308 : decode cL_law 308 = .ok (.aload_n 0, 1) := by decide +kernel
theorem dL_law_309 : decode cL_law 309 = .ok (.iload_n 3, 1) := by decide +kernel
theorem dL_law_310 : decode cL_law 310 = .ok (.iconst 2, 1) := by decide +kernel
theorem dL_law_311 : decode cL_law 311 = .ok (.iadd, 1) := by decide +kernel
theorem dL_law_312 : decode cL_law 312 = .ok (.iaload, 1) := by decide +kernel
theorem dL_law_313 : decode cL_law 313 = .ok (.invokevirtual 37, 3) := by decide +kernel
theorem dL_law_316 : decode cL_law 316 = .ok (.if_icmp .eq 711, 3) := by decide +kernel
theorem dL_law_319 : decode cL_law 319 = .ok (.iconst 0, 1) := by decide +kernel
theorem dL_law_320 : decode cL_law 320 = .ok (.ireturn, 1) := by decide +kernel
theorem dL_law_321 : decode cL_law 321 = .ok (.aload_n 1, 1) := by decide +kernel
theorem dL_law_322 : decode cL_law 322 = .ok (.aload_n 0, 1) := by decide +kernel
theorem dL_law_323 : decode cL_law 323 = .ok (.iload_n 3, 1) := by decide +kernel
theorem dL_law_324 : decode cL_law 324 = .ok (.iconst 1, 1) := by decide +kernel
theorem dL_law_325 : decode cL_law 325 = .ok (.iadd, 1) := by decide +kernel
theorem dL_law_326 : decode cL_law 326 = .ok (.iaload, 1) := by decide +kernel
theorem dL_law_327 : decode cL_law 327 = .ok (.invokevirtual 38, 3) := by decide +kernel
theorem dL_law_330 : decode cL_law 330 = .ok (.aload_n 2, 1) := by decide +kernel
theorem dL_law_331 : decode cL_law 331 = .ok (.aload_n 0, 1) := by decide +kernel
theorem dL_law_332 : decode cL_law 332 = .ok (.iload_n 3, 1) := by decide +kernel
theorem dL_law_333 : decode cL_law 333 = .ok (.iconst 1, 1) := by decide +kernel
theorem dL_law_334 : decode cL_law 334 = .ok (.iadd, 1) := by decide +kernel
theorem dL_law_335 : decode cL_law 335 = .ok (.iaload, 1) := by decide +kernel
theorem dL_law_336 : decode cL_law 336 = .ok (.invokevirtual 41, 3) := by decide +kernel
theorem dL_law_339 : decode cL_law 339 = .ok (.if_icmp .eq 688, 3) := by decide +kernel
theorem dL_law_342 : decode cL_law 342 = .ok (.iconst 0, 1) := by decide +kernel
theorem dL_law_343 : decode cL_law 343 = .ok (.ireturn, 1) := by decide +kernel
theorem dL_law_344 : decode cL_law 344 = .ok (.aload_n 1, 1) := by decide +kernel
theorem dL_law_345 : decode cL_law 345 = .ok (.aload_n 0, 1) := by decide +kernel
theorem dL_law_346 : decode cL_law 346 = .ok (.iload_n 3, 1) := by decide +kernel
theorem dL_law_347 : decode cL_law 347 = .ok (.iconst 1, 1) := by decide +kernel
theorem dL_law_348 : decode cL_law 348 = .ok (.iadd, 1) := by decide +kernel
theorem dL_law_349 : decode cL_law 349 = .ok (.iaload, 1) := by decide +kernel
theorem dL_law_350 : decode cL_law 350 = .ok (.aload_n 0, 1) := by decide +kernel
theorem dL_law_351 : decode cL_law 351 = .ok (.iload_n 3, 1) := by decide +kernel
theorem dL_law_352 : decode cL_law 352 = .ok (.iconst 2, 1) := by decide +kernel
theorem dL_law_353 : decode cL_law 353 = .ok (.iadd, 1) := by decide +kernel
theorem dL_law_354 : decode cL_law 354 = .ok (.iaload, 1) := by decide +kernel
theorem dL_law_355 : decode cL_law 355 = .ok (.aload_n 0, 1) := by decide +kernel
theorem dL_law_356 : decode cL_law 356 = .ok (.iload_n 3, 1) := by decide +kernel
theorem dL_law_357 : decode cL_law 357 = .ok (.iconst 3, 1) := by decide +kernel
theorem dL_law_358 : decode cL_law 358 = .ok (.iadd, 1) := by decide +kernel
theorem dL_law_359 : decode cL_law 359 = .ok (.iaload, 1) := by decide +kernel
theorem dL_law_360 : decode cL_law 360 = .ok (.invokevirtual 42, 3) := by decide +kernel
theorem dL_law_363 : decode cL_law 363 = .ok (.aload_n 2, 1) := by decide +kernel
theorem dL_law_364 : decode cL_law 364 = .ok (.aload_n 0, 1) := by decide +kernel
theorem dL_law_365 : decode cL_law 365 = .ok (.iload_n 3, 1) := by decide +kernel
theorem dL_law_366 : decode cL_law 366 = .ok (.iconst 1, 1) := by decide +kernel
theorem dL_law_367 : decode cL_law 367 = .ok (.iadd, 1) := by decide +kernel
theorem dL_law_368 : decode cL_law 368 = .ok (.iaload, 1) := by decide +kernel
theorem dL_law_369 : decode cL_law 369 = .ok (.aload_n 0, 1) := by decide +kernel
theorem dL_law_370 : decode cL_law 370 = .ok (.iload_n 3, 1) := by decide +kernel
theorem dL_law_371 : decode cL_law 371 = .ok (.iconst 2, 1) := by decide +kernel
theorem dL_law_372 : decode cL_law 372 = .ok (.iadd, 1) := by decide +kernel
theorem dL_law_373 : decode cL_law 373 = .ok (.iaload, 1) := by decide +kernel
theorem dL_law_374 : decode cL_law 374 = .ok (.aload_n 0, 1) := by decide +kernel
theorem dL_law_375 : decode cL_law 375 = .ok (.iload_n 3, 1) := by decide +kernel
theorem dL_law_376 : decode cL_law 376 = .ok (.iconst 3, 1) := by decide +kernel
theorem dL_law_377 : decode cL_law 377 = .ok (.iadd, 1) := by decide +kernel
theorem dL_law_378 : decode cL_law 378 = .ok (.iaload, 1) := by decide +kernel
theorem dL_law_379 : decode cL_law 379 = .ok (.invokevirtual 46, 3) := by decide +kernel
theorem dL_law_382 : decode cL_law 382 = .ok (.if_icmp .eq 645, 3) := by decide +kernel
theorem dL_law_385 : decode cL_law 385 = .ok (.iconst 0, 1) := by decide +kernel
theorem dL_law_386 : decode cL_law 386 = .ok (.ireturn, 1) := by decide +kernel
theorem dL_law_387 : decode cL_law 387 = .ok (.aload_n 1, 1) := by decide +kernel
theorem dL_law_388 : decode cL_law 388 = .ok (.aload_n 0, 1) := by decide +kernel
theorem dL_law_389 : decode cL_law 389 = .ok (.iload_n 3, 1) := by decide +kernel
theorem dL_law_390 : decode cL_law 390 = .ok (.iconst 1, 1) := by decide +kernel
theorem dL_law_391 : decode cL_law 391 = .ok (.iadd, 1) := by decide +kernel
theorem dL_law_392 : decode cL_law 392 = .ok (.iaload, 1) := by decide +kernel
theorem dL_law_393 : decode cL_law 393 = .ok (.invokevirtual 47, 3) := by decide +kernel
theorem dL_law_396 : decode cL_law 396 = .ok (.aload_n 2, 1) := by decide +kernel
theorem dL_law_397 : decode cL_law 397 = .ok (.aload_n 0, 1) := by decide +kernel
theorem dL_law_398 : decode cL_law 398 = .ok (.iload_n 3, 1) := by decide +kernel
theorem dL_law_399 : decode cL_law 399 = .ok (.iconst 1, 1) := by decide +kernel
theorem dL_law_400 : decode cL_law 400 = .ok (.iadd, 1) := by decide +kernel
theorem dL_law_401 : decode cL_law 401 = .ok (.iaload, 1) := by decide +kernel
theorem dL_law_402 : decode cL_law 402 = .ok (.invokevirtual 50, 3) := by decide +kernel
theorem dL_law_405 : decode cL_law 405 = .ok (.if_icmp .eq 622, 3) := by decide +kernel
theorem dL_law_408 : decode cL_law 408 = .ok (.iconst 0, 1) := by decide +kernel
theorem dL_law_409 : decode cL_law 409 = .ok (.ireturn, 1) := by decide +kernel
theorem dL_law_410 : decode cL_law 410 = .ok (.aload_n 1, 1) := by decide +kernel
theorem dL_law_411 : decode cL_law 411 = .ok (.aload_n 0, 1) := by decide +kernel
theorem dL_law_412 : decode cL_law 412 = .ok (.iload_n 3, 1) := by decide +kernel
theorem dL_law_413 : decode cL_law 413 = .ok (.iconst 1, 1) := by decide +kernel
theorem dL_law_414 : decode cL_law 414 = .ok (.iadd, 1) := by decide +kernel
theorem dL_law_415 : decode cL_law 415 = .ok (.iaload, 1) := by decide +kernel
theorem dL_law_416 : decode cL_law 416 = .ok (.aload_n 0, 1) := by decide +kernel
theorem dL_law_417 : decode cL_law 417 = .ok (.iload_n 3, 1) := by decide +kernel
theorem dL_law_418 : decode cL_law 418 = .ok (.iconst 2, 1) := by decide +kernel
theorem dL_law_419 : decode cL_law 419 = .ok (.iadd, 1) := by decide +kernel
theorem dL_law_420 : decode cL_law 420 = .ok (.iaload, 1) := by decide +kernel
theorem dL_law_421 : decode cL_law 421 = .ok (.invokevirtual 51, 3) := by decide +kernel
theorem dL_law_424 : decode cL_law 424 = .ok (.aload_n 2, 1) := by decide +kernel
theorem dL_law_425 : decode cL_law 425 = .ok (.aload_n 0, 1) := by decide +kernel
theorem dL_law_426 : decode cL_law 426 = .ok (.iload_n 3, 1) := by decide +kernel
theorem dL_law_427 : decode cL_law 427 = .ok (.iconst 1, 1) := by decide +kernel
theorem dL_law_428 : decode cL_law 428 = .ok (.iadd, 1) := by decide +kernel
theorem dL_law_429 : decode cL_law 429 = .ok (.iaload, 1) := by decide +kernel
theorem dL_law_430 : decode cL_law 430 = .ok (.aload_n 0, 1) := by decide +kernel
theorem dL_law_431 : decode cL_law 431 = .ok (.iload_n 3, 1) := by decide +kernel
theorem dL_law_432 : decode cL_law 432 = .ok (.iconst 2, 1) := by decide +kernel
theorem dL_law_433 : decode cL_law 433 = .ok (.iadd, 1) := by decide +kernel
theorem dL_law_434 : decode cL_law 434 = .ok (.iaload, 1) := by decide +kernel
theorem dL_law_435 : decode cL_law 435 = .ok (.invokevirtual 54, 3) := by decide +kernel
theorem dL_law_438 : decode cL_law 438 = .ok (.if_icmp .eq 589, 3) := by decide +kernel
theorem dL_law_441 : decode cL_law 441 = .ok (.iconst 0, 1) := by decide +kernel
theorem dL_law_442 : decode cL_law 442 = .ok (.ireturn, 1) := by decide +kernel
theorem dL_law_443 : decode cL_law 443 = .ok (.aload_n 1, 1) := by decide +kernel
theorem dL_law_444 : decode cL_law 444 = .ok (.aload_n 0, 1) := by decide +kernel
theorem dL_law_445 : decode cL_law 445 = .ok (.iload_n 3, 1) := by decide +kernel
theorem dL_law_446 : decode cL_law 446 = .ok (.iconst 1, 1) := by decide +kernel
theorem dL_law_447 : decode cL_law 447 = .ok (.iadd, 1) := by decide +kernel
theorem dL_law_448 : decode cL_law 448 = .ok (.iaload, 1) := by decide +kernel
theorem dL_law_449 : decode cL_law 449 = .ok (.aload_n 0, 1) := by decide +kernel
theorem dL_law_450 : decode cL_law 450 = .ok (.iload_n 3, 1) := by decide +kernel
theorem dL_law_451 : decode cL_law 451 = .ok (.iconst 2, 1) := by decide +kernel
theorem dL_law_452 : decode cL_law 452 = .ok (.iadd, 1) := by decide +kernel
theorem dL_law_453 : decode cL_law 453 = .ok (.iaload, 1) := by decide +kernel
theorem dL_law_454 : decode cL_law 454 = .ok (.invokevirtual 55, 3) := by decide +kernel
theorem dL_law_457 : decode cL_law 457 = .ok (.aload_n 2, 1) := by decide +kernel
theorem dL_law_458 : decode cL_law 458 = .ok (.aload_n 0, 1) := by decide +kernel
theorem dL_law_459 : decode cL_law 459 = .ok (.iload_n 3, 1) := by decide +kernel
theorem dL_law_460 : decode cL_law 460 = .ok (.iconst 1, 1) := by decide +kernel
theorem dL_law_461 : decode cL_law 461 = .ok (.iadd, 1) := by decide +kernel
theorem dL_law_462 : decode cL_law 462 = .ok (.iaload, 1) := by decide +kernel
theorem dL_law_463 : decode cL_law 463 = .ok (.aload_n 0, 1) := by decide +kernel
theorem dL_law_464 : decode cL_law 464 = .ok (.iload_n 3, 1) := by decide +kernel
theorem dL_law_465 : decode cL_law 465 = .ok (.iconst 2, 1) := by decide +kernel
theorem dL_law_466 : decode cL_law 466 = .ok (.iadd, 1) := by decide +kernel
theorem dL_law_467 : decode cL_law 467 = .ok (.iaload, 1) := by decide +kernel
theorem dL_law_468 : decode cL_law 468 = .ok (.invokevirtual 58, 3) := by decide +kernel
theorem dL_law_471 : decode cL_law 471 = .ok (.if_icmp .eq 556, 3) := by decide +kernel
theorem dL_law_474 : decode cL_law 474 = .ok (.iconst 0, 1) := by decide +kernel
theorem dL_law_475 : decode cL_law 475 = .ok (.ireturn, 1) := by decide +kernel
theorem dL_law_476 : decode cL_law 476 = .ok (.aload_n 1, 1) := by decide +kernel
theorem dL_law_477 : decode cL_law 477 = .ok (.aload_n 0, 1) := by decide +kernel
theorem dL_law_478 : decode cL_law 478 = .ok (.iload_n 3, 1) := by decide +kernel
theorem dL_law_479 : decode cL_law 479 = .ok (.iconst 1, 1) := by decide +kernel
theorem dL_law_480 : decode cL_law 480 = .ok (.iadd, 1) := by decide +kernel
theorem dL_law_481 : decode cL_law 481 = .ok (.iaload, 1) := by decide +kernel
theorem dL_law_482 : decode cL_law 482 = .ok (.aload_n 0, 1) := by decide +kernel
theorem dL_law_483 : decode cL_law 483 = .ok (.iload_n 3, 1) := by decide +kernel
theorem dL_law_484 : decode cL_law 484 = .ok (.iconst 2, 1) := by decide +kernel
theorem dL_law_485 : decode cL_law 485 = .ok (.iadd, 1) := by decide +kernel
theorem dL_law_486 : decode cL_law 486 = .ok (.iaload, 1) := by decide +kernel
theorem dL_law_487 : decode cL_law 487 = .ok (.aload_n 0, 1) := by decide +kernel
theorem dL_law_488 : decode cL_law 488 = .ok (.iload_n 3, 1) := by decide +kernel
theorem dL_law_489 : decode cL_law 489 = .ok (.iconst 3, 1) := by decide +kernel
theorem dL_law_490 : decode cL_law 490 = .ok (.iadd, 1) := by decide +kernel
theorem dL_law_491 : decode cL_law 491 = .ok (.iaload, 1) := by decide +kernel
theorem dL_law_492 : decode cL_law 492 = .ok (.aload_n 0, 1) := by decide +kernel
theorem dL_law_493 : decode cL_law 493 = .ok (.iload_n 3, 1) := by decide +kernel
theorem dL_law_494 : decode cL_law 494 = .ok (.iconst 4, 1) := by decide +kernel
theorem dL_law_495 : decode cL_law 495 = .ok (.iadd, 1) := by decide +kernel
theorem dL_law_496 : decode cL_law 496 = .ok (.iaload, 1) := by decide +kernel
theorem dL_law_497 : decode cL_law 497 = .ok (.aload_n 0, 1) := by decide +kernel
theorem dL_law_498 : decode cL_law 498 = .ok (.iload_n 3, 1) := by decide +kernel
theorem dL_law_499 : decode cL_law 499 = .ok (.iconst 5, 1) := by decide +kernel
theorem dL_law_500 : decode cL_law 500 = .ok (.iadd, 1) := by decide +kernel
theorem dL_law_501 : decode cL_law 501 = .ok (.iaload, 1) := by decide +kernel
theorem dL_law_502 : decode cL_law 502 = .ok (.invokevirtual 59, 3) := by decide +kernel
theorem dL_law_505 : decode cL_law 505 = .ok (.aload_n 2, 1) := by decide +kernel
theorem dL_law_506 : decode cL_law 506 = .ok (.aload_n 0, 1) := by decide +kernel
theorem dL_law_507 : decode cL_law 507 = .ok (.iload_n 3, 1) := by decide +kernel
theorem dL_law_508 : decode cL_law 508 = .ok (.iconst 1, 1) := by decide +kernel
theorem dL_law_509 : decode cL_law 509 = .ok (.iadd, 1) := by decide +kernel
theorem dL_law_510 : decode cL_law 510 = .ok (.iaload, 1) := by decide +kernel
theorem dL_law_511 : decode cL_law 511 = .ok (.aload_n 0, 1) := by decide +kernel
theorem dL_law_512 : decode cL_law 512 = .ok (.iload_n 3, 1) := by decide +kernel
theorem dL_law_513 : decode cL_law 513 = .ok (.iconst 2, 1) := by decide +kernel
theorem dL_law_514 : decode cL_law 514 = .ok (.iadd, 1) := by decide +kernel
theorem dL_law_515 : decode cL_law 515 = .ok (.iaload, 1) := by decide +kernel
theorem dL_law_516 : decode cL_law 516 = .ok (.aload_n 0, 1) := by decide +kernel
theorem dL_law_517 : decode cL_law 517 = .ok (.iload_n 3, 1) := by decide +kernel
theorem dL_law_518 : decode cL_law 518 = .ok (.iconst 3, 1) := by decide +kernel
theorem dL_law_519 : decode cL_law 519 = .ok (.iadd, 1) := by decide +kernel
theorem dL_law_520 : decode cL_law 520 = .ok (.iaload, 1) := by decide +kernel
theorem dL_law_521 : decode cL_law 521 = .ok (.aload_n 0, 1) := by decide +kernel
theorem dL_law_522 : decode cL_law 522 = .ok (.iload_n 3, 1) := by decide +kernel
theorem dL_law_523 : decode cL_law 523 = .ok (.iconst 4, 1) := by decide +kernel
theorem dL_law_524 : decode cL_law 524 = .ok (.iadd, 1) := by decide +kernel
theorem dL_law_525 : decode cL_law 525 = .ok (.iaload, 1) := by decide +kernel
theorem dL_law_526 : decode cL_law 526 = .ok (.aload_n 0, 1) := by decide +kernel
theorem dL_law_527 : decode cL_law 527 = .ok (.iload_n 3, 1) := by decide +kernel
theorem dL_law_528 : decode cL_law 528 = .ok (.iconst 5, 1) := by decide +kernel
theorem dL_law_529 : decode cL_law 529 = .ok (.iadd, 1) := by decide +kernel
theorem dL_law_530 : decode cL_law 530 = .ok (.iaload, 1) := by decide +kernel
theorem dL_law_531 : decode cL_law 531 = .ok (.invokevirtual 63, 3) := by decide +kernel
theorem dL_law_534 : decode cL_law 534 = .ok (.if_icmp .eq 493, 3) := by decide +kernel
theorem dL_law_537 : decode cL_law 537 = .ok (.iconst 0, 1) := by decide +kernel
theorem dL_law_538 : decode cL_law 538 = .ok (.ireturn, 1) := by decide +kernel
theorem dL_law_539 : decode cL_law 539 = .ok (.aload_n 1, 1) := by decide +kernel
theorem dL_law_540 : decode cL_law 540 = .ok (.aload_n 0, 1) := by decide +kernel
theorem dL_law_541 : decode cL_law 541 = .ok (.iload_n 3, 1) := by decide +kernel
theorem dL_law_542 : decode cL_law 542 = .ok (.iconst 1, 1) := by decide +kernel
theorem dL_law_543 : decode cL_law 543 = .ok (.iadd, 1) := by decide +kernel
theorem dL_law_544 : decode cL_law 544 = .ok (.iaload, 1) := by decide +kernel
theorem dL_law_545 : decode cL_law 545 = .ok (.aload_n 0, 1) := by decide +kernel
theorem dL_law_546 : decode cL_law 546 = .ok (.iload_n 3, 1) := by decide +kernel
theorem dL_law_547 : decode cL_law 547 = .ok (.iconst 2, 1) := by decide +kernel
theorem dL_law_548 : decode cL_law 548 = .ok (.iadd, 1) := by decide +kernel
theorem dL_law_549 : decode cL_law 549 = .ok (.iaload, 1) := by decide +kernel
theorem dL_law_550 : decode cL_law 550 = .ok (.invokevirtual 64, 3) := by decide +kernel
theorem dL_law_553 : decode cL_law 553 = .ok (.aload_n 2, 1) := by decide +kernel
theorem dL_law_554 : decode cL_law 554 = .ok (.aload_n 0, 1) := by decide +kernel
theorem dL_law_555 : decode cL_law 555 = .ok (.iload_n 3, 1) := by decide +kernel
theorem dL_law_556 : decode cL_law 556 = .ok (.iconst 1, 1) := by decide +kernel
theorem dL_law_557 : decode cL_law 557 = .ok (.iadd, 1) := by decide +kernel
theorem dL_law_558 : decode cL_law 558 = .ok (.iaload, 1) := by decide +kernel
theorem dL_law_559 : decode cL_law 559 = .ok (.aload_n 0, 1) := by decide +kernel
theorem dL_law_560 : decode cL_law 560 = .ok (.iload_n 3, 1) := by decide +kernel
theorem dL_law_561 : decode cL_law 561 = .ok (.iconst 2, 1) := by decide +kernel
theorem dL_law_562 : decode cL_law 562 = .ok (.iadd, 1) := by decide +kernel
theorem dL_law_563 : decode cL_law 563 = .ok (.iaload, 1) := by decide +kernel
theorem dL_law_564 : decode cL_law 564 = .ok (.invokevirtual 67, 3) := by decide +kernel
theorem dL_law_567 : decode cL_law 567 = .ok (.if_icmp .eq 460, 3) := by decide +kernel
theorem dL_law_570 : decode cL_law 570 = .ok (.iconst 0, 1) := by decide +kernel
theorem dL_law_571 : decode cL_law 571 = .ok (.ireturn, 1) := by decide +kernel
theorem dL_law_572 : decode cL_law 572 = .ok (.aload_n 1, 1) := by decide +kernel
theorem dL_law_573 : decode cL_law 573 = .ok (.aload_n 0, 1) := by decide +kernel
theorem dL_law_574 : decode cL_law 574 = .ok (.iload_n 3, 1) := by decide +kernel
theorem dL_law_575 : decode cL_law 575 = .ok (.iconst 1, 1) := by decide +kernel
theorem dL_law_576 : decode cL_law 576 = .ok (.iadd, 1) := by decide +kernel
theorem dL_law_577 : decode cL_law 577 = .ok (.iaload, 1) := by decide +kernel
theorem dL_law_578 : decode cL_law 578 = .ok (.aload_n 0, 1) := by decide +kernel
theorem dL_law_579 : decode cL_law 579 = .ok (.iload_n 3, 1) := by decide +kernel
theorem dL_law_580 : decode cL_law 580 = .ok (.iconst 2, 1) := by decide +kernel
theorem dL_law_581 : decode cL_law 581 = .ok (.iadd, 1) := by decide +kernel
theorem dL_law_582 : decode cL_law 582 = .ok (.iaload, 1) := by decide +kernel
theorem dL_law_583 : decode cL_law 583 = .ok (.aload_n 0, 1) := by decide +kernel
theorem dL_law_584 : decode cL_law 584 = .ok (.iload_n 3, 1) := by decide +kernel
theorem dL_law_585 : decode cL_law 585 = .ok (.iconst 3, 1) := by decide +kernel
theorem dL_law_586 : decode cL_law 586 = .ok (.iadd, 1) := by decide +kernel
theorem dL_law_587 : decode cL_law 587 = .ok (.iaload, 1) := by decide +kernel
theorem dL_law_588 : decode cL_law 588 = .ok (.aload_n 0, 1) := by decide +kernel
theorem dL_law_589 : decode cL_law 589 = .ok (.iload_n 3, 1) := by decide +kernel
theorem dL_law_590 : decode cL_law 590 = .ok (.iconst 4, 1) := by decide +kernel
theorem dL_law_591 : decode cL_law 591 = .ok (.iadd, 1) := by decide +kernel
theorem dL_law_592 : decode cL_law 592 = .ok (.iaload, 1) := by decide +kernel
theorem dL_law_593 : decode cL_law 593 = .ok (.invokevirtual 68, 3) := by decide +kernel
theorem dL_law_596 : decode cL_law 596 = .ok (.aload_n 2, 1) := by decide +kernel
theorem dL_law_597 : decode cL_law 597 = .ok (.aload_n 0, 1) := by decide +kernel
theorem dL_law_598 : decode cL_law 598 = .ok (.iload_n 3, 1) := by decide +kernel
theorem dL_law_599 : decode cL_law 599 = .ok (.iconst 1, 1) := by decide +kernel
theorem dL_law_600 : decode cL_law 600 = .ok (.iadd, 1) := by decide +kernel
theorem dL_law_601 : decode cL_law 601 = .ok (.iaload, 1) := by decide +kernel
theorem dL_law_602 : decode cL_law 602 = .ok (.aload_n 0, 1) := by decide +kernel
theorem dL_law_603 : decode cL_law 603 = .ok (.iload_n 3, 1) := by decide +kernel
theorem dL_law_604 : decode cL_law 604 = .ok (.iconst 2, 1) := by decide +kernel
theorem dL_law_605 : decode cL_law 605 = .ok (.iadd, 1) := by decide +kernel
theorem dL_law_606 : decode cL_law 606 = .ok (.iaload, 1) := by decide +kernel
theorem dL_law_607 : decode cL_law 607 = .ok (.aload_n 0, 1) := by decide +kernel
theorem dL_law_608 : decode cL_law 608 = .ok (.iload_n 3, 1) := by decide +kernel
theorem dL_law_609 : decode cL_law 609 = .ok (.iconst 3, 1) := by decide +kernel
theorem dL_law_610 : decode cL_law 610 = .ok (.iadd, 1) := by decide +kernel
theorem dL_law_611 : decode cL_law 611 = .ok (.iaload, 1) := by decide +kernel
theorem dL_law_612 : decode cL_law 612 = .ok (.aload_n 0, 1) := by decide +kernel
theorem dL_law_613 : decode cL_law 613 = .ok (.iload_n 3, 1) := by decide +kernel
theorem dL_law_614 : decode cL_law 614 = .ok (.iconst 4, 1) := by decide +kernel
theorem dL_law_615 : decode cL_law 615 = .ok (.iadd, 1) := by decide +kernel
theorem dL_law_616 : decode cL_law 616 = .ok (.iaload, 1) := by decide +kernel
theorem dL_law_617 : decode cL_law 617 = .ok (.invokevirtual 72, 3) := by decide +kernel
theorem dL_law_620 : decode cL_law 620 = .ok (.if_icmp .eq 407, 3) := by decide +kernel
theorem dL_law_623 : decode cL_law 623 = .ok (.iconst 0, 1) := by decide +kernel
theorem dL_law_624 : decode cL_law 624 = .ok (.ireturn, 1) := by decide +kernel
theorem dL_law_625 : decode cL_law 625 = .ok (.aload_n 1, 1) := by decide +kernel
theorem dL_law_626 : decode cL_law 626 = .ok (.aload_n 0, 1) := by decide +kernel
theorem dL_law_627 : decode cL_law 627 = .ok (.iload_n 3, 1) := by decide +kernel
theorem dL_law_628 : decode cL_law 628 = .ok (.iconst 1, 1) := by decide +kernel
theorem dL_law_629 : decode cL_law 629 = .ok (.iadd, 1) := by decide +kernel
theorem dL_law_630 : decode cL_law 630 = .ok (.iaload, 1) := by decide +kernel
theorem dL_law_631 : decode cL_law 631 = .ok (.aload_n 0, 1) := by decide +kernel
theorem dL_law_632 : decode cL_law 632 = .ok (.iload_n 3, 1) := by decide +kernel
theorem dL_law_633 : decode cL_law 633 = .ok (.iconst 2, 1) := by decide +kernel
theorem dL_law_634 : decode cL_law 634 = .ok (.iadd, 1) := by decide +kernel
theorem dL_law_635 : decode cL_law 635 = .ok (.iaload, 1) := by decide +kernel
theorem dL_law_636 : decode cL_law 636 = .ok (.invokevirtual 73, 3) := by decide +kernel
theorem dL_law_639 : decode cL_law 639 = .ok (.aload_n 2, 1) := by decide +kernel
theorem dL_law_640 : decode cL_law 640 = .ok (.aload_n 0, 1) := by decide +kernel
theorem dL_law_641 : decode cL_law 641 = .ok (.iload_n 3, 1) := by decide +kernel
theorem dL_law_642 : decode cL_law 642 = .ok (.iconst 1, 1) := by decide +kernel
theorem dL_law_643 : decode cL_law 643 = .ok (.iadd, 1) := by decide +kernel
theorem dL_law_644 : decode cL_law 644 = .ok (.iaload, 1) := by decide +kernel
theorem dL_law_645 : decode cL_law 645 = .ok (.aload_n 0, 1) := by decide +kernel
theorem dL_law_646 : decode cL_law 646 = .ok (.iload_n 3, 1) := by decide +kernel
theorem dL_law_647 : decode cL_law 647 = .ok (.iconst 2, 1) := by decide +kernel
theorem dL_law_648 : decode cL_law 648 = .ok (.iadd, 1) := by decide +kernel
theorem dL_law_649 : decode cL_law 649 = .ok (.iaload, 1) := by decide +kernel
theorem dL_law_650 : decode cL_law 650 = .ok (.invokevirtual 76, 3) := by decide +kernel
theorem dL_law_653 : decode cL_law 653 = .ok (.if_icmp .eq 374, 3) := by decide +kernel
theorem dL_law_656 : decode cL_law 656 = .ok (.iconst 0, 1) := by decide +kernel
theorem dL_law_657 : decode cL_law 657 = .ok (.ireturn, 1) := by decide +kernel
theorem dL_law_658 : decode cL_law 658 = .ok (.aload_n 1, 1) := by decide +kernel
theorem dL_law_659 : decode cL_law 659 = .ok (.aload_n 0, 1) := by decide +kernel
theorem dL_law_660 : decode cL_law 660 = .ok (.iload_n 3, 1) := by decide +kernel
theorem dL_law_661 : decode cL_law 661 = .ok (.iconst 1, 1) := by decide +kernel
theorem dL_law_662 : decode cL_law 662 = .ok (.iadd, 1) := by decide +kernel
theorem dL_law_663 : decode cL_law 663 = .ok (.iaload, 1) := by decide +kernel
theorem dL_law_664 : decode cL_law 664 = .ok (.aload_n 0, 1) := by decide +kernel
theorem dL_law_665 : decode cL_law 665 = .ok (.iload_n 3, 1) := by decide +kernel
theorem dL_law_666 : decode cL_law 666 = .ok (.iconst 2, 1) := by decide +kernel
theorem dL_law_667 : decode cL_law 667 = .ok (.iadd, 1) := by decide +kernel
theorem dL_law_668 : decode cL_law 668 = .ok (.iaload, 1) := by decide +kernel
theorem dL_law_669 : decode cL_law 669 = .ok (.invokevirtual 77, 3) := by decide +kernel
theorem dL_law_672 : decode cL_law 672 = .ok (.aload_n 2, 1) := by decide +kernel
theorem dL_law_673 : decode cL_law 673 = .ok (.aload_n 0, 1) := by decide +kernel
theorem dL_law_674 : decode cL_law 674 = .ok (.iload_n 3, 1) := by decide +kernel
theorem dL_law_675 : decode cL_law 675 = .ok (.iconst 1, 1) := by decide +kernel
theorem dL_law_676 : decode cL_law 676 = .ok (.iadd, 1) := by decide +kernel
theorem dL_law_677 : decode cL_law 677 = .ok (.iaload, 1) := by decide +kernel
theorem dL_law_678 : decode cL_law 678 = .ok (.aload_n 0, 1) := by decide +kernel
theorem dL_law_679 : decode cL_law 679 = .ok (.iload_n 3, 1) := by decide +kernel
theorem dL_law_680 : decode cL_law 680 = .ok (.iconst 2, 1) := by decide +kernel
theorem dL_law_681 : decode cL_law 681 = .ok (.iadd, 1) := by decide +kernel
theorem dL_law_682 : decode cL_law 682 = .ok (.iaload, 1) := by decide +kernel
theorem dL_law_683 : decode cL_law 683 = .ok (.invokevirtual 80, 3) := by decide +kernel
theorem dL_law_686 : decode cL_law 686 = .ok (.if_icmp .eq 341, 3) := by decide +kernel
theorem dL_law_689 : decode cL_law 689 = .ok (.iconst 0, 1) := by decide +kernel
theorem dL_law_690 : decode cL_law 690 = .ok (.ireturn, 1) := by decide +kernel
theorem dL_law_691 : decode cL_law 691 = .ok (.aload_n 1, 1) := by decide +kernel
theorem dL_law_692 : decode cL_law 692 = .ok (.aload_n 0, 1) := by decide +kernel
theorem dL_law_693 : decode cL_law 693 = .ok (.iload_n 3, 1) := by decide +kernel
theorem dL_law_694 : decode cL_law 694 = .ok (.iconst 1, 1) := by decide +kernel
theorem dL_law_695 : decode cL_law 695 = .ok (.iadd, 1) := by decide +kernel
theorem dL_law_696 : decode cL_law 696 = .ok (.iaload, 1) := by decide +kernel
theorem dL_law_697 : decode cL_law 697 = .ok (.aload_n 0, 1) := by decide +kernel
theorem dL_law_698 : decode cL_law 698 = .ok (.iload_n 3, 1) := by decide +kernel
theorem dL_law_699 : decode cL_law 699 = .ok (.iconst 2, 1) := by decide +kernel
theorem dL_law_700 : decode cL_law 700 = .ok (.iadd, 1) := by decide +kernel
theorem dL_law_701 : decode cL_law 701 = .ok (.iaload, 1) := by decide +kernel
theorem dL_law_702 : decode cL_law 702 = .ok (.invokevirtual 81, 3) := by decide +kernel
theorem dL_law_705 : decode cL_law 705 = .ok (.aload_n 2, 1) := by decide +kernel
theorem dL_law_706 : decode cL_law 706 = .ok (.aload_n 0, 1) := by decide +kernel
theorem dL_law_707 : decode cL_law 707 = .ok (.iload_n 3, 1) := by decide +kernel
theorem dL_law_708 : decode cL_law 708 = .ok (.iconst 1, 1) := by decide +kernel
theorem dL_law_709 : decode cL_law 709 = .ok (.iadd, 1) := by decide +kernel
theorem dL_law_710 : decode cL_law 710 = .ok (.iaload, 1) := by decide +kernel
theorem dL_law_711 : decode cL_law 711 = .ok (.aload_n 0, 1) := by decide +kernel
theorem dL_law_712 : decode cL_law 712 = .ok (.iload_n 3, 1) := by decide +kernel
theorem dL_law_713 : decode cL_law 713 = .ok (.iconst 2, 1) := by decide +kernel
theorem dL_law_714 : decode cL_law 714 = .ok (.iadd, 1) := by decide +kernel
theorem dL_law_715 : decode cL_law 715 = .ok (.iaload, 1) := by decide +kernel
theorem dL_law_716 : decode cL_law 716 = .ok (.invokevirtual 84, 3) := by decide +kernel
theorem dL_law_719 : decode cL_law 719 = .ok (.if_icmp .eq 308, 3) := by decide +kernel
theorem dL_law_722 : decode cL_law 722 = .ok (.iconst 0, 1) := by decide +kernel
theorem dL_law_723 : decode cL_law 723 = .ok (.ireturn, 1) := by decide +kernel
theorem dL_law_724 : decode cL_law 724 = .ok (.aload_n 1, 1) := by decide +kernel
theorem dL_law_725 : decode cL_law 725 = .ok (.aload_n 0, 1) := by decide +kernel
theorem dL_law_726 : decode cL_law 726 = .ok (.iload_n 3, 1) := by decide +kernel
theorem dL_law_727 : decode cL_law 727 = .ok (.iconst 1, 1) := by decide +kernel
theorem dL_law_728 : decode cL_law 728 = .ok (.iadd, 1) := by decide +kernel
theorem dL_law_729 : decode cL_law 729 = .ok (.iaload, 1) := by decide +kernel
theorem dL_law_730 : decode cL_law 730 = .ok (.aload_n 0, 1) := by decide +kernel
theorem dL_law_731 : decode cL_law 731 = .ok (.iload_n 3, 1) := by decide +kernel
theorem dL_law_732 : decode cL_law 732 = .ok (.iconst 2, 1) := by decide +kernel
theorem dL_law_733 : decode cL_law 733 = .ok (.iadd, 1) := by decide +kernel
theorem dL_law_734 : decode cL_law 734 = .ok (.iaload, 1) := by decide +kernel
theorem dL_law_735 : decode cL_law 735 = .ok (.invokevirtual 85, 3) := by decide +kernel
theorem dL_law_738 : decode cL_law 738 = .ok (.aload_n 2, 1) := by decide +kernel
theorem dL_law_739 : decode cL_law 739 = .ok (.aload_n 0, 1) := by decide +kernel
theorem dL_law_740 : decode cL_law 740 = .ok (.iload_n 3, 1) := by decide +kernel
theorem dL_law_741 : decode cL_law 741 = .ok (.iconst 1, 1) := by decide +kernel
theorem dL_law_742 : decode cL_law 742 = .ok (.iadd, 1) := by decide +kernel
theorem dL_law_743 : decode cL_law 743 = .ok (.iaload, 1) := by decide +kernel
theorem dL_law_744 : decode cL_law 744 = .ok (.aload_n 0, 1) := by decide +kernel
theorem dL_law_745 : decode cL_law 745 = .ok (.iload_n 3, 1) := by decide +kernel
theorem dL_law_746 : decode cL_law 746 = .ok (.iconst 2, 1) := by decide +kernel
theorem dL_law_747 : decode cL_law 747 = .ok (.iadd, 1) := by decide +kernel
theorem dL_law_748 : decode cL_law 748 = .ok (.iaload, 1) := by decide +kernel
theorem dL_law_749 : decode cL_law 749 = .ok (.invokevirtual 88, 3) := by decide +kernel
theorem dL_law_752 : decode cL_law 752 = .ok (.if_icmp .eq 275, 3) := by decide +kernel
theorem dL_law_755 : decode cL_law 755 = .ok (.iconst 0, 1) := by decide +kernel
theorem dL_law_756 : decode cL_law 756 = .ok (.ireturn, 1) := by decide +kernel
theorem dL_law_757 : decode cL_law 757 = .ok (.aload_n 1, 1) := by decide +kernel
theorem dL_law_758 : decode cL_law 758 = .ok (.invokevirtual 89, 3) := by decide +kernel
theorem dL_law_761 : decode cL_law 761 = .ok (.aload_n 2, 1) := by decide +kernel
theorem dL_law_762 : decode cL_law 762 = .ok (.invokevirtual 93, 3) := by decide +kernel
theorem dL_law_765 : decode cL_law 765 = .ok (.if_icmp .eq 262, 3) := by decide +kernel
theorem dL_law_768 : decode cL_law 768 = .ok (.iconst 0, 1) := by decide +kernel
theorem dL_law_769 : decode cL_law 769 = .ok (.ireturn, 1) := by decide +kernel
theorem dL_law_770 : decode cL_law 770 = .ok (.aload_n 1, 1) := by decide +kernel
theorem dL_law_771 : decode cL_law 771 = .ok (.aload_n 0, 1) := by decide +kernel
theorem dL_law_772 : decode cL_law 772 = .ok (.iload_n 3, 1) := by decide +kernel
theorem dL_law_773 : decode cL_law 773 = .ok (.iconst 1, 1) := by decide +kernel
theorem dL_law_774 : decode cL_law 774 = .ok (.iadd, 1) := by decide +kernel
theorem dL_law_775 : decode cL_law 775 = .ok (.iaload, 1) := by decide +kernel
theorem dL_law_776 : decode cL_law 776 = .ok (.aload_n 0, 1) := by decide +kernel
theorem dL_law_777 : decode cL_law 777 = .ok (.iload_n 3, 1) := by decide +kernel
theorem dL_law_778 : decode cL_law 778 = .ok (.iconst 2, 1) := by decide +kernel
theorem dL_law_779 : decode cL_law 779 = .ok (.iadd, 1) := by decide +kernel
theorem dL_law_780 : decode cL_law 780 = .ok (.iaload, 1) := by decide +kernel
theorem dL_law_781 : decode cL_law 781 = .ok (.invokevirtual 94, 3) := by decide +kernel
theorem dL_law_784 : decode cL_law 784 = .ok (.aload_n 2, 1) := by decide +kernel
theorem dL_law_785 : decode cL_law 785 = .ok (.aload_n 0, 1) := by decide +kernel
theorem dL_law_786 : decode cL_law 786 = .ok (.iload_n 3, 1) := by decide +kernel
theorem dL_law_787 : decode cL_law 787 = .ok (.iconst 1, 1) := by decide +kernel
theorem dL_law_788 : decode cL_law 788 = .ok (.iadd, 1) := by decide +kernel
theorem dL_law_789 : decode cL_law 789 = .ok (.iaload, 1) := by decide +kernel
theorem dL_law_790 : decode cL_law 790 = .ok (.aload_n 0, 1) := by decide +kernel
theorem dL_law_791 : decode cL_law 791 = .ok (.iload_n 3, 1) := by decide +kernel
theorem dL_law_792 : decode cL_law 792 = .ok (.iconst 2, 1) := by decide +kernel
theorem dL_law_793 : decode cL_law 793 = .ok (.iadd, 1) := by decide +kernel
theorem dL_law_794 : decode cL_law 794 = .ok (.iaload, 1) := by decide +kernel
theorem dL_law_795 : decode cL_law 795 = .ok (.invokevirtual 97, 3) := by decide +kernel
theorem dL_law_798 : decode cL_law 798 = .ok (.if_icmp .eq 229, 3) := by decide +kernel
theorem dL_law_801 : decode cL_law 801 = .ok (.iconst 0, 1) := by decide +kernel
theorem dL_law_802 : decode cL_law 802 = .ok (.ireturn, 1) := by decide +kernel
theorem dL_law_803 : decode cL_law 803 = .ok (.aload_n 1, 1) := by decide +kernel
theorem dL_law_804 : decode cL_law 804 = .ok (.invokevirtual 98, 3) := by decide +kernel
theorem dL_law_807 : decode cL_law 807 = .ok (.aload_n 2, 1) := by decide +kernel
theorem dL_law_808 : decode cL_law 808 = .ok (.invokevirtual 101, 3) := by decide +kernel
theorem dL_law_811 : decode cL_law 811 = .ok (.if_icmp .eq 216, 3) := by decide +kernel
theorem dL_law_814 : decode cL_law 814 = .ok (.iconst 0, 1) := by decide +kernel
theorem dL_law_815 : decode cL_law 815 = .ok (.ireturn, 1) := by decide +kernel
theorem dL_law_816 : decode cL_law 816 = .ok (.aload_n 1, 1) := by decide +kernel
theorem dL_law_817 : decode cL_law 817 = .ok (.aload_n 0, 1) := by decide +kernel
theorem dL_law_818 : decode cL_law 818 = .ok (.iload_n 3, 1) := by decide +kernel
theorem dL_law_819 : decode cL_law 819 = .ok (.iconst 1, 1) := by decide +kernel
theorem dL_law_820 : decode cL_law 820 = .ok (.iadd, 1) := by decide +kernel
theorem dL_law_821 : decode cL_law 821 = .ok (.iaload, 1) := by decide +kernel
theorem dL_law_822 : decode cL_law 822 = .ok (.aload_n 0, 1) := by decide +kernel
theorem dL_law_823 : decode cL_law 823 = .ok (.iload_n 3, 1) := by decide +kernel
theorem dL_law_824 : decode cL_law 824 = .ok (.iconst 2, 1) := by decide +kernel
theorem dL_law_825 : decode cL_law 825 = .ok (.iadd, 1) := by decide +kernel
theorem dL_law_826 : decode cL_law 826 = .ok (.iaload, 1) := by decide +kernel
theorem dL_law_827 : decode cL_law 827 = .ok (.invokevirtual 102, 3) := by decide +kernel
theorem dL_law_830 : decode cL_law 830 = .ok (.aload_n 2, 1) := by decide +kernel
theorem dL_law_831 : decode cL_law 831 = .ok (.aload_n 0, 1) := by decide +kernel
theorem dL_law_832 : decode cL_law 832 = .ok (.iload_n 3, 1) := by decide +kernel
theorem dL_law_833 : decode cL_law 833 = .ok (.iconst 1, 1) := by decide +kernel
theorem dL_law_834 : decode cL_law 834 = .ok (.iadd, 1) := by decide +kernel
theorem dL_law_835 : decode cL_law 835 = .ok (.iaload, 1) := by decide +kernel
theorem dL_law_836 : decode cL_law 836 = .ok (.aload_n 0, 1) := by decide +kernel
theorem dL_law_837 : decode cL_law 837 = .ok (.iload_n 3, 1) := by decide +kernel
theorem dL_law_838 : decode cL_law 838 = .ok (.iconst 2, 1) := by decide +kernel
theorem dL_law_839 : decode cL_law 839 = .ok (.iadd, 1) := by decide +kernel
theorem dL_law_840 : decode cL_law 840 = .ok (.iaload, 1) := by decide +kernel
theorem dL_law_841 : decode cL_law 841 = .ok (.invokevirtual 105, 3) := by decide +kernel
theorem dL_law_844 : decode cL_law 844 = .ok (.if_icmp .eq 183, 3) := by decide +kernel
theorem dL_law_847 : decode cL_law 847 = .ok (.iconst 0, 1) := by decide +kernel
theorem dL_law_848 : decode cL_law 848 = .ok (.ireturn, 1) := by decide +kernel
theorem dL_law_849 : decode cL_law 849 = .ok (.aload_n 1, 1) := by decide +kernel
theorem dL_law_850 : decode cL_law 850 = .ok (.aload_n 0, 1) := by decide +kernel
theorem dL_law_851 : decode cL_law 851 = .ok (.iload_n 3, 1) := by decide +kernel
theorem dL_law_852 : decode cL_law 852 = .ok (.iconst 1, 1) := by decide +kernel
theorem dL_law_853 : decode cL_law 853 = .ok (.iadd, 1) := by decide +kernel
theorem dL_law_854 : decode cL_law 854 = .ok (.iaload, 1) := by decide +kernel
theorem dL_law_855 : decode cL_law 855 = .ok (.invokevirtual 106, 3) := by decide +kernel
theorem dL_law_858 : decode cL_law 858 = .ok (.aload_n 2, 1) := by decide +kernel
theorem dL_law_859 : decode cL_law 859 = .ok (.aload_n 0, 1) := by decide +kernel
theorem dL_law_860 : decode cL_law 860 = .ok (.iload_n 3, 1) := by decide +kernel
theorem dL_law_861 : decode cL_law 861 = .ok (.iconst 1, 1) := by decide +kernel
theorem dL_law_862 : decode cL_law 862 = .ok (.iadd, 1) := by decide +kernel
theorem dL_law_863 : decode cL_law 863 = .ok (.iaload, 1) := by decide +kernel
theorem dL_law_864 : decode cL_law 864 = .ok (.invokevirtual 109, 3) := by decide +kernel
theorem dL_law_867 : decode cL_law 867 = .ok (.if_icmp .eq 160, 3) := by decide +kernel
theorem dL_law_870 : decode cL_law 870 = .ok (.iconst 0, 1) := by decide +kernel
theorem dL_law_871 : decode cL_law 871 = .ok (.ireturn, 1) := by decide +kernel
theorem dL_law_872 : decode cL_law 872 = .ok (.aload_n 1, 1) := by decide +kernel
theorem dL_law_873 : decode cL_law 873 = .ok (.aload_n 0, 1) := by decide +kernel
theorem dL_law_874 : decode cL_law 874 = .ok (.iload_n 3, 1) := by decide +kernel
theorem dL_law_875 : decode cL_law 875 = .ok (.iconst 1, 1) := by decide +kernel
theorem dL_law_876 : decode cL_law 876 = .ok (.iadd, 1) := by decide +kernel
theorem dL_law_877 : decode cL_law 877 = .ok (.iaload, 1) := by decide +kernel
theorem dL_law_878 : decode cL_law 878 = .ok (.aload_n 0, 1) := by decide +kernel
theorem dL_law_879 : decode cL_law 879 = .ok (.iload_n 3, 1) := by decide +kernel
theorem dL_law_880 : decode cL_law 880 = .ok (.iconst 2, 1) := by decide +kernel
theorem dL_law_881 : decode cL_law 881 = .ok (.iadd, 1) := by decide +kernel
theorem dL_law_882 : decode cL_law 882 = .ok (.iaload, 1) := by decide +kernel
theorem dL_law_883 : decode cL_law 883 = .ok (.invokevirtual 110, 3) := by decide +kernel
theorem dL_law_886 : decode cL_law 886 = .ok (.aload_n 2, 1) := by decide +kernel
theorem dL_law_887 : decode cL_law 887 = .ok (.aload_n 0, 1) := by decide +kernel
theorem dL_law_888 : decode cL_law 888 = .ok (.iload_n 3, 1) := by decide +kernel
theorem dL_law_889 : decode cL_law 889 = .ok (.iconst 1, 1) := by decide +kernel
theorem dL_law_890 : decode cL_law 890 = .ok (.iadd, 1) := by decide +kernel
theorem dL_law_891 : decode cL_law 891 = .ok (.iaload, 1) := by decide +kernel
theorem dL_law_892 : decode cL_law 892 = .ok (.aload_n 0, 1) := by decide +kernel
theorem dL_law_893 : decode cL_law 893 = .ok (.iload_n 3, 1) := by decide +kernel
theorem dL_law_894 : decode cL_law 894 = .ok (.iconst 2, 1) := by decide +kernel
theorem dL_law_895 : decode cL_law 895 = .ok (.iadd, 1) := by decide +kernel
theorem dL_law_896 : decode cL_law 896 = .ok (.iaload, 1) := by decide +kernel
theorem dL_law_897 : decode cL_law 897 = .ok (.invokevirtual 113, 3) := by decide +kernel
theorem dL_law_900 : decode cL_law 900 = .ok (.if_icmp .eq 127, 3) := by decide +kernel
theorem dL_law_903 : decode cL_law 903 = .ok (.iconst 0, 1) := by decide +kernel
theorem dL_law_904 : decode cL_law 904 = .ok (.ireturn, 1) := by decide +kernel
theorem dL_law_905 : decode cL_law 905 = .ok (.aload_n 1, 1) := by decide +kernel
theorem dL_law_906 : decode cL_law 906 = .ok (.aload_n 0, 1) := by decide +kernel
theorem dL_law_907 : decode cL_law 907 = .ok (.iload_n 3, 1) := by decide +kernel
theorem dL_law_908 : decode cL_law 908 = .ok (.iconst 1, 1) := by decide +kernel
theorem dL_law_909 : decode cL_law 909 = .ok (.iadd, 1) := by decide +kernel
theorem dL_law_910 : decode cL_law 910 = .ok (.iaload, 1) := by decide +kernel
theorem dL_law_911 : decode cL_law 911 = .ok (.aload_n 0, 1) := by decide +kernel
theorem dL_law_912 : decode cL_law 912 = .ok (.iload_n 3, 1) := by decide +kernel
theorem dL_law_913 : decode cL_law 913 = .ok (.iconst 2, 1) := by decide +kernel
theorem dL_law_914 : decode cL_law 914 = .ok (.iadd, 1) := by decide +kernel
theorem dL_law_915 : decode cL_law 915 = .ok (.iaload, 1) := by decide +kernel
theorem dL_law_916 : decode cL_law 916 = .ok (.aload_n 0, 1) := by decide +kernel
theorem dL_law_917 : decode cL_law 917 = .ok (.iload_n 3, 1) := by decide +kernel
theorem dL_law_918 : decode cL_law 918 = .ok (.iconst 3, 1) := by decide +kernel
theorem dL_law_919 : decode cL_law 919 = .ok (.iadd, 1) := by decide +kernel
theorem dL_law_920 : decode cL_law 920 = .ok (.iaload, 1) := by decide +kernel
theorem dL_law_921 : decode cL_law 921 = .ok (.aload_n 0, 1) := by decide +kernel
theorem dL_law_922 : decode cL_law 922 = .ok (.iload_n 3, 1) := by decide +kernel
theorem dL_law_923 : decode cL_law 923 = .ok (.iconst 4, 1) := by decide +kernel
theorem dL_law_924 : decode cL_law 924 = .ok (.iadd, 1) := by decide +kernel
theorem dL_law_925 : decode cL_law 925 = .ok (.iaload, 1) := by decide +kernel
theorem dL_law_926 : decode cL_law 926 = .ok (.invokevirtual 114, 3) := by decide +kernel
theorem dL_law_929 : decode cL_law 929 = .ok (.aload_n 2, 1) := by decide +kernel
theorem dL_law_930 : decode cL_law 930 = .ok (.aload_n 0, 1) := by decide +kernel
theorem dL_law_931 : decode cL_law 931 = .ok (.iload_n 3, 1) := by decide +kernel
theorem dL_law_932 : decode cL_law 932 = .ok (.iconst 1, 1) := by decide +kernel
theorem dL_law_933 : decode cL_law 933 = .ok (.iadd, 1) := by decide +kernel
theorem dL_law_934 : decode cL_law 934 = .ok (.iaload, 1) := by decide +kernel
theorem dL_law_935 : decode cL_law 935 = .ok (.aload_n 0, 1) := by decide +kernel
theorem dL_law_936 : decode cL_law 936 = .ok (.iload_n 3, 1) := by decide +kernel
theorem dL_law_937 : decode cL_law 937 = .ok (.iconst 2, 1) := by decide +kernel
theorem dL_law_938 : decode cL_law 938 = .ok (.iadd, 1) := by decide +kernel
theorem dL_law_939 : decode cL_law 939 = .ok (.iaload, 1) := by decide +kernel
theorem dL_law_940 : decode cL_law 940 = .ok (.aload_n 0, 1) := by decide +kernel
theorem dL_law_941 : decode cL_law 941 = .ok (.iload_n 3, 1) := by decide +kernel
theorem dL_law_942 : decode cL_law 942 = .ok (.iconst 3, 1) := by decide +kernel
theorem dL_law_943 : decode cL_law 943 = .ok (.iadd, 1) := by decide +kernel
theorem dL_law_944 : decode cL_law 944 = .ok (.iaload, 1) := by decide +kernel
theorem dL_law_945 : decode cL_law 945 = .ok (.aload_n 0, 1) := by decide +kernel
theorem dL_law_946 : decode cL_law 946 = .ok (.iload_n 3, 1) := by decide +kernel
theorem dL_law_947 : decode cL_law 947 = .ok (.iconst 4, 1) := by decide +kernel
theorem dL_law_948 : decode cL_law 948 = .ok (.iadd, 1) := by decide +kernel
theorem dL_law_949 : decode cL_law 949 = .ok (.iaload, 1) := by decide +kernel
theorem dL_law_950 : decode cL_law 950 = .ok (.invokevirtual 117, 3) := by decide +kernel
theorem dL_law_953 : decode cL_law 953 = .ok (.if_icmp .eq 74, 3) := by decide +kernel
theorem dL_law_956 : decode cL_law 956 = .ok (.iconst 0, 1) := by decide +kernel
theorem dL_law_957 : decode cL_law 957 = .ok (.ireturn, 1) := by decide +kernel
theorem dL_law_958 : decode cL_law 958 = .ok (.aload_n 1, 1) := by decide +kernel
theorem dL_law_959 : decode cL_law 959 = .ok (.invokevirtual 118, 3) := by decide +kernel
theorem dL_law_962 : decode cL_law 962 = .ok (.aload_n 2, 1) := by decide +kernel
theorem dL_law_963 : decode cL_law 963 = .ok (.invokevirtual 121, 3) := by decide +kernel
theorem dL_law_966 : decode cL_law 966 = .ok (.if_icmp .eq 61, 3) := by decide +kernel
theorem dL_law_969 : decode cL_law 969 = .ok (.iconst 0, 1) := by decide +kernel
theorem dL_law_970 : decode cL_law 970 = .ok (.ireturn, 1) := by decide +kernel
theorem dL_law_971 : decode cL_law 971 = .ok (.aload_n 1, 1) := by decide +kernel
theorem dL_law_972 : decode cL_law 972 = .ok (.aload_n 0, 1) := by decide +kernel
theorem dL_law_973 : decode cL_law 973 = .ok (.iload_n 3, 1) := by decide +kernel
theorem dL_law_974 : decode cL_law 974 = .ok (.iconst 1, 1) := by decide +kernel
theorem dL_law_975 : decode cL_law 975 = .ok (.iadd, 1) := by decide +kernel
theorem dL_law_976 : decode cL_law 976 = .ok (.iaload, 1) := by decide +kernel
theorem dL_law_977 : decode cL_law 977 = .ok (.aload_n 0, 1) := by decide +kernel
theorem dL_law_978 : decode cL_law 978 = .ok (.iload_n 3, 1) := by decide +kernel
theorem dL_law_979 : decode cL_law 979 = .ok (.iconst 2, 1) := by decide +kernel
theorem dL_law_980 : decode cL_law 980 = .ok (.iadd, 1) := by decide +kernel
theorem dL_law_981 : decode cL_law 981 = .ok (.iaload, 1) := by decide +kernel
theorem dL_law_982 : decode cL_law 982 = .ok (.invokevirtual 122, 3) := by decide +kernel
theorem dL_law_985 : decode cL_law 985 = .ok (.aload_n 2, 1) := by decide +kernel
theorem dL_law_986 : decode cL_law 986 = .ok (.aload_n 0, 1) := by decide +kernel
theorem dL_law_987 : decode cL_law 987 = .ok (.iload_n 3, 1) := by decide +kernel
theorem dL_law_988 : decode cL_law 988 = .ok (.iconst 1, 1) := by decide +kernel
theorem dL_law_989 : decode cL_law 989 = .ok (.iadd, 1) := by decide +kernel
theorem dL_law_990 : decode cL_law 990 = .ok (.iaload, 1) := by decide +kernel
theorem dL_law_991 : decode cL_law 991 = .ok (.aload_n 0, 1) := by decide +kernel
theorem dL_law_992 : decode cL_law 992 = .ok (.iload_n 3, 1) := by decide +kernel
theorem dL_law_993 : decode cL_law 993 = .ok (.iconst 2, 1) := by decide +kernel
theorem dL_law_994 : decode cL_law 994 = .ok (.iadd, 1) := by decide +kernel
theorem dL_law_995 : decode cL_law 995 = .ok (.iaload, 1) := by decide +kernel
theorem dL_law_996 : decode cL_law 996 = .ok (.invokevirtual 125, 3) := by decide +kernel
theorem dL_law_999 : decode cL_law 999 = .ok (.if_icmp .eq 28, 3) := by decide +kernel
theorem dL_law_1002 : decode cL_law 1002 = .ok (.iconst 0, 1) := by decide +kernel
theorem dL_law_1003 : decode cL_law 1003 = .ok (.ireturn, 1) := by decide +kernel
theorem dL_law_1004 : decode cL_law 1004 = .ok (.aload_n 1, 1) := by decide +kernel
theorem dL_law_1005 : decode cL_law 1005 = .ok (.aload_n 0, 1) := by decide +kernel
theorem dL_law_1006 : decode cL_law 1006 = .ok (.iload_n 3, 1) := by decide +kernel
theorem dL_law_1007 : decode cL_law 1007 = .ok (.iconst 1, 1) := by decide +kernel
theorem dL_law_1008 : decode cL_law 1008 = .ok (.iadd, 1) := by decide +kernel
theorem dL_law_1009 : decode cL_law 1009 = .ok (.iaload, 1) := by decide +kernel
theorem dL_law_1010 : decode cL_law 1010 = .ok (.invokevirtual 126, 3) := by decide +kernel
theorem dL_law_1013 : decode cL_law 1013 = .ok (.aload_n 2, 1) := by decide +kernel
theorem dL_law_1014 : decode cL_law 1014 = .ok (.aload_n 0, 1) := by decide +kernel
theorem dL_law_1015 : decode cL_law 1015 = .ok (.iload_n 3, 1) := by decide +kernel
theorem dL_law_1016 : decode cL_law 1016 = .ok (.iconst 1, 1) := by decide +kernel
theorem dL_law_1017 : decode cL_law 1017 = .ok (.iadd, 1) := by decide +kernel
theorem dL_law_1018 : decode cL_law 1018 = .ok (.iaload, 1) := by decide +kernel
theorem dL_law_1019 : decode cL_law 1019 = .ok (.invokevirtual 129, 3) := by decide +kernel
theorem dL_law_1022 : decode cL_law 1022 = .ok (.if_icmp .eq 5, 3) := by decide +kernel
theorem dL_law_1025 : decode cL_law 1025 = .ok (.iconst 0, 1) := by decide +kernel
theorem dL_law_1026 : decode cL_law 1026 = .ok (.ireturn, 1) := by decide +kernel
theorem dL_law_1027 : decode cL_law 1027 = .ok (.iinc 3 6, 3) := by decide +kernel
theorem dL_law_1030 : decode cL_law 1030 = .ok (.goto (-1012), 3) := by decide +kernel
theorem dL_law_1033 : decode cL_law 1033 = .ok (.iconst 1, 1) := by decide +kernel
theorem dL_law_1034 : decode cL_law 1034 = .ok (.ireturn, 1) := by decide +kernel
