theorem dX0_init_0 : decode cX0_init 0 = .ok (.aload_n 0, 1) := by decide +kernel
theorem dX0_init_1 : decode cX0_init 1 = .ok (.invokespecial 3, 3) := by decide +kernel
theorem dX0_init_4 : decode cX0_init 4 = .ok (.aload_n 0, 1) := by decide +kernel
theorem dX0_init_5 : decode cX0_init 5 = .ok (.new 9, 3) := by decide +kernel
theorem dX0_init_8 : decode cX0_init 8 = .ok (.dup, 1) := by decide +kernel
theorem dX0_init_9 : decode cX0_init 9 = .ok (.invokespecial 11, 3) := by decide +kernel
theorem dX0_init_12 : decode cX0_init 12 = .ok (.putfield 12, 3) := by decide +kernel
theorem dX0_init_15 : decode cX0_init 15 = .ok (.aload_n 0, 1) := by decide +kernel
theorem dX0_init_16 : decode cX0_init 16 = .ok (.new 9, 3) := by decide +kernel
theorem dX0_init_19 : decode cX0_init 19 = .ok (.dup, 1) := by decide +kernel
theorem dX0_init_20 : decode cX0_init 20 = .ok (.invokespecial 11, 3) := by decide +kernel
theorem dX0_init_23 : decode cX0_init 23 = .ok (.putfield 18, 3) := by decide +kernel
theorem dX0_init_26 : decode cX0_init 26 = .ok (.aload_n 0, 1) := by decide +kernel
theorem dX0_init_27 : decode cX0_init 27 = .ok (.bipush 30, 2) := by decide +kernel
theorem dX0_init_29 : decode cX0_init 29 = .ok (.newarray .int, 2) := by decide +kernel
theorem dX0_init_31 : decode cX0_init 31 = .ok (.putfield 21, 3) := by decide +kernel
theorem dX0_init_34 : decode cX0_init 34 = .ok (.aload_n 0, 1) := by decide +kernel
theorem dX0_init_35 : decode cX0_init 35 = .ok (.bipush 30, 2) := by decide +kernel
theorem dX0_init_37 : decode cX0_init 37 = .ok (.newarray .int, 2) := by decide +kernel
theorem dX0_init_39 : decode cX0_init 39 = .ok (.putfield 25, 3) := by decide +kernel
theorem dX0_init_42 : decode cX0_init 42 = .ok (.aload_n 0, 1) := by decide +kernel
theorem dX0_init_43 : decode cX0_init 43 = .ok (.bipush 31, 2) := by decide +kernel
theorem dX0_init_45 : decode cX0_init 45 = .ok (.bipush 31, 2) := by decide +kernel
theorem dX0_init_47 : decode cX0_init 47 = .ok (.multianewarray 28 2, 4) := by decide +kernel
theorem dX0_init_51 : decode cX0_init 51 = .ok (.putfield 30, 3) := by decide +kernel
theorem dX0_init_54 : decode cX0_init 54 = .ok (.aload_n 0, 1) := by decide +kernel
theorem dX0_init_55 : decode cX0_init 55 = .ok (.bipush 31, 2) := by decide +kernel
theorem dX0_init_57 : decode cX0_init 57 = .ok (.bipush 31, 2) := by decide +kernel
theorem dX0_init_59 : decode cX0_init 59 = .ok (.multianewarray 28 2, 4) := by decide +kernel
theorem dX0_init_63 : decode cX0_init 63 = .ok (.putfield 33, 3) := by decide +kernel
theorem dX0_init_66 : decode cX0_init 66 = .ok (.aload_n 0, 1) := by decide +kernel
theorem dX0_init_67 : decode cX0_init 67 = .ok (.bipush 31, 2) := by decide +kernel
theorem dX0_init_69 : decode cX0_init 69 = .ok (.bipush 31, 2) := by decide +kernel
theorem dX0_init_71 : decode cX0_init 71 = .ok (.multianewarray 28 2, 4) := by decide +kernel
theorem dX0_init_75 : decode cX0_init 75 = .ok (.putfield 36, 3) := by decide +kernel
theorem dX0_init_78 : decode cX0_init 78 = .ok (.return_, 1) := by decide +kernel
theorem dX0_align_0 : decode cX0_align 0 = .ok (.aload_n 0, 1) := by decide +kernel
theorem dX0_align_1 : decode cX0_align 1 = .ok (.getfield 12, 3) := by decide +kernel
theorem dX0_align_4 : decode cX0_align 4 = .ok (.aload_n 1, 1) := by decide +kernel
theorem dX0_align_5 : decode cX0_align 5 = .ok (.invokevirtual 39, 3) := by decide +kernel
theorem dX0_align_8 : decode cX0_align 8 = .ok (.aload_n 0, 1) := by decide +kernel
theorem dX0_align_9 : decode cX0_align 9 = .ok (.getfield 18, 3) := by decide +kernel
theorem dX0_align_12 : decode cX0_align 12 = .ok (.aload_n 2, 1) := by decide +kernel
theorem dX0_align_13 : decode cX0_align 13 = .ok (.invokevirtual 39, 3) := by decide +kernel
theorem dX0_align_16 : decode cX0_align 16 = .ok (.aload_n 0, 1) := by decide +kernel
theorem dX0_align_17 : decode cX0_align 17 = .ok (.aload_n 3, 1) := by decide +kernel
theorem dX0_align_18 : decode cX0_align 18 = .ok (.iconst 3, 1) := by decide +kernel
theorem dX0_align_19 : decode cX0_align 19 = .ok (.iaload, 1) := by decide +kernel
theorem dX0_align_20 : decode cX0_align 20 = .ok (.putfield 43, 3) := by decide +kernel
theorem dX0_align_23 : decode cX0_align 23 = .ok (.aload_n 0, 1) := by decide +kernel
theorem dX0_align_24 : decode cX0_align 24 = .ok (.aload_n 3, 1) := by decide +kernel
theorem dX0_align_25 : decode cX0_align 25 = .ok (.iconst 2, 1) := by decide +kernel
theorem dX0_align_26 : decode cX0_align 26 = .ok (.iaload, 1) := by decide +kernel
theorem dX0_align_27 : decode cX0_align 27 = .ok (.putfield 47, 3) := by decide +kernel
theorem dX0_align_30 : decode cX0_align 30 = .ok (.aload_n 0, 1) := by decide +kernel
theorem dX0_align_31 : decode cX0_align 31 = .ok (.aload_n 1, 1) := by decide +kernel
theorem dX0_align_32 : decode cX0_align 32 = .ok (.aload_n 2, 1) := by decide +kernel
theorem dX0_align_33 : decode cX0_align 33 = .ok (.aload_n 3, 1) := by decide +kernel
theorem dX0_align_34 : decode cX0_align 34 = .ok (.invokevirtual 50, 3) := by decide +kernel
theorem dX0_align_37 : decode cX0_align 37 = .ok (.iconst 1, 1) := by decide +kernel
theorem dX0_align_38 : decode cX0_align 38 = .ok (.istore 4, 2) := by decide +kernel
theorem dX0_align_40 : decode cX0_align 40 = .ok (.iload 4, 2) := by decide +kernel
theorem dX0_align_42 : decode cX0_align 42 = .ok (.aload_n 0, 1) := by decide +kernel
theorem dX0_align_43 : decode cX0_align 43 = .ok (.getfield 12, 3) := by decide +kernel
theorem dX0_align_46 : decode cX0_align 46 = .ok (.getfield 54, 3) := by decide +kernel
theorem dX0_align_49 : decode cX0_align 49 = .ok (.if_icmp .gt 64, 3) := by decide +kernel
theorem dX0_align_52 : decode cX0_align 52 = .ok (.iconst 1, 1) := by decide +kernel
theorem dX0_align_53 : decode cX0_align 53 = .ok (.istore 5, 2) := by decide +kernel
theorem dX0_align_55 : decode cX0_align 55 = .ok (.iload 5, 2) := by decide +kernel
theorem dX0_align_57 : decode cX0_align 57 = .ok (.aload_n 0, 1) := by decide +kernel
theorem dX0_align_58 : decode cX0_align 58 = .ok (.getfield 18, 3) := by decide +kernel
theorem dX0_align_61 : decode cX0_align 61 = .ok (.getfield 54, 3) := by decide +kernel
theorem dX0_align_64 : decode cX0_align 64 = .ok (.if_icmp .gt 43, 3) := by decide +kernel
theorem dX0_align_67 : decode cX0_align 67 = .ok (.aload_n 0, 1) := by decide +kernel
theorem dX0_align_68 : decode cX0_align 68 = .ok (.getfield 12, 3) := by decide +kernel
theorem dX0_align_71 : decode cX0_align 71 = .ok (.getfield 57, 3) := by decide +kernel
theorem dX0_align_74 : decode cX0_align 74 = .ok (.iload 4, 2) := by decide +kernel
theorem dX0_align_76 : decode cX0_align 76 = .ok (.baload, 1) := by decide +kernel
theorem dX0_align_77 : decode cX0_align 77 = .ok (.ifCond .eq 24, 3) := by decide +kernel
theorem dX0_align_80 : decode cX0_align 80 = .ok (.aload_n 0, 1) := by decide +kernel
theorem dX0_align_81 : decode cX0_align 81 = .ok (.getfield 18, 3) := by decide +kernel
theorem dX0_align_84 : decode cX0_align 84 = .ok (.getfield 57, 3) := by decide +kernel
theorem dX0_align_87 : decode cX0_align 87 = .ok (.iload 5, 2) := by decide +kernel
theorem dX0_align_89 : decode cX0_align 89 = .ok (.baload, 1) := by decide +kernel
theorem dX0_align_90 : decode cX0_align 90 = .ok (.ifCond .eq 11, 3) := by decide +kernel
theorem dX0_align_93 : decode cX0_align 93 = .ok (.aload_n 0, 1) := by decide +kernel
theorem dX0_align_94 : decode cX0_align 94 = .ok (.iload 4, 2) := by decide +kernel
theorem dX0_align_96 : decode cX0_align 96 = .ok (.iload 5, 2) := by decide +kernel
theorem dX0_align_98 : decode cX0_align 98 = .ok (.invokevirtual 61, 3) := by decide +kernel
theorem dX0_align_101 : decode cX0_align 101 = .ok (.iinc 5 1, 3) := by decide +kernel
theorem dX0_align_104 : decode cX0_align 104 = .ok (.goto (-49), 3) := by decide +kernel
theorem dX0_align_107 : decode cX0_align 107 = .ok (.iinc 4 1, 3) := by decide +kernel
theorem dX0_align_110 : decode cX0_align 110 = .ok (.goto (-70), 3) := by decide +kernel
theorem dX0_align_113 : decode cX0_align 113 = .ok (.aload_n 0, 1) := by decide +kernel
theorem dX0_align_114 : decode cX0_align 114 = .ok (.getfield 30, 3) := by decide +kernel
theorem dX0_align_117 : decode cX0_align 117 = .ok (.aload_n 0, 1) := by decide +kernel
theorem dX0_align_118 : decode cX0_align 118 = .ok (.getfield 12, 3) := by decide +kernel
theorem dX0_align_121 : decode cX0_align 121 = .ok (.getfield 54, 3) := by decide +kernel
theorem dX0_align_124 : decode cX0_align 124 = .ok (.aaload, 1) := by decide +kernel
theorem dX0_align_125 : decode cX0_align 125 = .ok (.aload_n 0, 1) := by decide +kernel
theorem dX0_align_126 : decode cX0_align 126 = .ok (.getfield 18, 3) := by decide +kernel
theorem dX0_align_129 : decode cX0_align 129 = .ok (.getfield 54, 3) := by decide +kernel
theorem dX0_align_132 : decode cX0_align 132 = .ok (.iaload, 1) := by decide +kernel
theorem dX0_align_133 : decode cX0_align 133 = .ok (.ireturn, 1) := by decide +kernel
theorem dX0_pricePairs_0 : decode cX0_pricePairs 0 = .ok (.iconst 1, 1) := by decide +kernel
theorem dX0_pricePairs_1 : decode cX0_pricePairs 1 = .ok (.istore 4, 2) := by decide +kernel
theorem dX0_pricePairs_3 : decode cX0_pricePairs 3 = .ok (.iload 4, 2) := by decide +kernel
theorem dX0_pricePairs_5 : decode cX0_pricePairs 5 = .ok (.aload_n 0, 1) := by decide +kernel
theorem dX0_pricePairs_6 : decode cX0_pricePairs 6 = .ok (.getfield 12, 3) := by decide +kernel
theorem dX0_pricePairs_9 : decode cX0_pricePairs 9 = .ok (.getfield 54, 3) := by decide +kernel
theorem dX0_pricePairs_12 : decode cX0_pricePairs 12 = .ok (.if_icmp .gt 66, 3) := by decide +kernel
theorem dX0_pricePairs_15 : decode cX0_pricePairs 15 = .ok (.iconst 1, 1) := by decide +kernel
theorem dX0_pricePairs_16 : decode cX0_pricePairs 16 = .ok (.istore 5, 2) := by decide +kernel
theorem dX0_pricePairs_18 : decode cX0_pricePairs 18 = .ok (.iload 5, 2) := by decide +kernel
theorem dX0_pricePairs_20 : decode cX0_pricePairs 20 = .ok (.aload_n 0, 1) := by decide +kernel
theorem dX0_pricePairs_21 : decode cX0_pricePairs 21 = .ok (.getfield 18, 3) := by decide +kernel
theorem dX0_pricePairs_24 : decode cX0_pricePairs 24 = .ok (.getfield 54, 3) := by decide +kernel
theorem dX0_pricePairs_27 : decode cX0_pricePairs 27 = .ok (.if_icmp .gt 45, 3) := by decide +kernel
theorem dX0_pricePairs_30 : decode cX0_pricePairs 30 = .ok (.aload_n 0, 1) := by decide +kernel
theorem dX0_pricePairs_31 : decode cX0_pricePairs 31 = .ok (.getfield 36, 3) := by decide +kernel
theorem dX0_pricePairs_34 : decode cX0_pricePairs 34 = .ok (.iload 4, 2) := by decide +kernel
theorem dX0_pricePairs_36 : decode cX0_pricePairs 36 = .ok (.aaload, 1) := by decide +kernel
theorem dX0_pricePairs_37 : decode cX0_pricePairs 37 = .ok (.iload 5, 2) := by decide +kernel
theorem dX0_pricePairs_39 : decode cX0_pricePairs 39 = .ok (.aload_n 1, 1) := by decide +kernel
theorem dX0_pricePairs_40 : decode cX0_pricePairs 40 = .ok (.aload_n 0, 1) := by decide +kernel
theorem dX0_pricePairs_41 : decode cX0_pricePairs 41 = .ok (.getfield 12, 3) := by decide +kernel
theorem dX0_pricePairs_44 : decode cX0_pricePairs 44 = .ok (.getfield 65, 3) := by decide +kernel
theorem dX0_pricePairs_47 : decode cX0_pricePairs 47 = .ok (.iload 4, 2) := by decide +kernel
theorem dX0_pricePairs_49 : decode cX0_pricePairs 49 = .ok (.iaload, 1) := by decide +kernel
theorem dX0_pricePairs_50 : decode cX0_pricePairs 50 = .ok (.aload_n 2, 1) := by decide +kernel
theorem dX0_pricePairs_51 : decode cX0_pricePairs 51 = .ok (.aload_n 0, 1) := by decide +kernel
theorem dX0_pricePairs_52 : decode cX0_pricePairs 52 = .ok (.getfield 18, 3) := by decide +kernel
theorem dX0_pricePairs_55 : decode cX0_pricePairs 55 = .ok (.getfield 65, 3) := by decide +kernel
theorem dX0_pricePairs_58 : decode cX0_pricePairs 58 = .ok (.iload 5, 2) := by decide +kernel
theorem dX0_pricePairs_60 : decode cX0_pricePairs 60 = .ok (.iaload, 1) := by decide +kernel
theorem dX0_pricePairs_61 : decode cX0_pricePairs 61 = .ok (.aload_n 3, 1) := by decide +kernel
theorem dX0_pricePairs_62 : decode cX0_pricePairs 62 = .ok (.invokestatic 68, 3) := by decide +kernel
theorem dX0_pricePairs_65 : decode cX0_pricePairs 65 = .ok (.iastore, 1) := by decide +kernel
theorem dX0_pricePairs_66 : decode cX0_pricePairs 66 = .ok (.iinc 5 1, 3) := by decide +kernel
theorem dX0_pricePairs_69 : decode cX0_pricePairs 69 = .ok (.goto (-51), 3) := by decide +kernel
theorem dX0_pricePairs_72 : decode cX0_pricePairs 72 = .ok (.iinc 4 1, 3) := by decide +kernel
theorem dX0_pricePairs_75 : decode cX0_pricePairs 75 = .ok (.goto (-72), 3) := by decide +kernel
theorem dX0_pricePairs_78 : decode cX0_pricePairs 78 = .ok (.return_, 1) := by decide +kernel
theorem dX0_pairPrice_0 : decode cX0_pairPrice 0 = .ok (.aload_n 0, 1) := by decide +kernel
theorem dX0_pairPrice_1 : decode cX0_pairPrice 1 = .ok (.getfield 72, 3) := by decide +kernel
theorem dX0_pairPrice_4 : decode cX0_pairPrice 4 = .ok (.iload_n 1, 1) := by decide +kernel
theorem dX0_pairPrice_5 : decode cX0_pairPrice 5 = .ok (.laload, 1) := by decide +kernel
theorem dX0_pairPrice_6 : decode cX0_pairPrice 6 = .ok (.aload_n 2, 1) := by decide +kernel
theorem dX0_pairPrice_7 : decode cX0_pairPrice 7 = .ok (.getfield 72, 3) := by decide +kernel
theorem dX0_pairPrice_10 : decode cX0_pairPrice 10 = .ok (.iload_n 3, 1) := by decide +kernel
theorem dX0_pairPrice_11 : decode cX0_pairPrice 11 = .ok (.laload, 1) := by decide +kernel
theorem dX0_pairPrice_12 : decode cX0_pairPrice 12 = .ok (.lcmp, 1) := by decide +kernel
theorem dX0_pairPrice_13 : decode cX0_pairPrice 13 = .ok (.ifCond .eq 7, 3) := by decide +kernel
theorem dX0_pairPrice_16 : decode cX0_pairPrice 16 = .ok (.iconst 1, 1) := by decide +kernel
theorem dX0_pairPrice_17 : decode cX0_pairPrice 17 = .ok (.goto 4, 3) := by decide +kernel
theorem dX0_pairPrice_20 : decode cX0_pairPrice 20 = .ok (.iconst 0, 1) := by decide +kernel
theorem dX0_pairPrice_21 : decode cX0_pairPrice 21 = .ok (.istore 5, 2) := by decide +kernel
theorem dX0_pairPrice_23 : decode cX0_pairPrice 23 = .ok (.aload_n 0, 1) := by decide +kernel
theorem dX0_pairPrice_24 : decode cX0_pairPrice 24 = .ok (.getfield 78, 3) := by decide +kernel
theorem dX0_pairPrice_27 : decode cX0_pairPrice 27 = .ok (.iload_n 1, 1) := by decide +kernel
theorem dX0_pairPrice_28 : decode cX0_pairPrice 28 = .ok (.laload, 1) := by decide +kernel
theorem dX0_pairPrice_29 : decode cX0_pairPrice 29 = .ok (.aload_n 2, 1) := by decide +kernel
theorem dX0_pairPrice_30 : decode cX0_pairPrice 30 = .ok (.getfield 78, 3) := by decide +kernel
theorem dX0_pairPrice_33 : decode cX0_pairPrice 33 = .ok (.iload_n 3, 1) := by decide +kernel
theorem dX0_pairPrice_34 : decode cX0_pairPrice 34 = .ok (.laload, 1) := by decide +kernel
theorem dX0_pairPrice_35 : decode cX0_pairPrice 35 = .ok (.lcmp, 1) := by decide +kernel
theorem dX0_pairPrice_36 : decode cX0_pairPrice 36 = .ok (.ifCond .eq 7, 3) := by decide +kernel
theorem dX0_pairPrice_39 : decode cX0_pairPrice 39 = .ok (.iconst 1, 1) := by decide +kernel
theorem dX0_pairPrice_40 : decode cX0_pairPrice 40 = .ok (.goto 4, 3) := by decide +kernel
theorem dX0_pairPrice_43 : decode cX0_pairPrice 43 = .ok (.iconst 0, 1) := by decide +kernel
theorem dX0_pairPrice_44 : decode cX0_pairPrice 44 = .ok (.istore 6, 2) := by decide +kernel
theorem dX0_pairPrice_46 : decode cX0_pairPrice 46 = .ok (.aload_n 0, 1) := by decide +kernel
theorem dX0_pairPrice_47 : decode cX0_pairPrice 47 = .ok (.getfield 81, 3) := by decide +kernel
theorem dX0_pairPrice_50 : decode cX0_pairPrice 50 = .ok (.iload_n 1, 1) := by decide +kernel
theorem dX0_pairPrice_51 : decode cX0_pairPrice 51 = .ok (.iaload, 1) := by decide +kernel
theorem dX0_pairPrice_52 : decode cX0_pairPrice 52 = .ok (.aload_n 2, 1) := by decide +kernel
theorem dX0_pairPrice_53 : decode cX0_pairPrice 53 = .ok (.getfield 81, 3) := by decide +kernel
theorem dX0_pairPrice_56 : decode cX0_pairPrice 56 = .ok (.iload_n 3, 1) := by decide +kernel
theorem dX0_pairPrice_57 : decode cX0_pairPrice 57 = .ok (.iaload, 1) := by decide +kernel
theorem dX0_pairPrice_58 : decode cX0_pairPrice 58 = .ok (.if_icmp .eq 6, 3) := by decide +kernel
theorem dX0_pairPrice_61 : decode cX0_pairPrice 61 = .ok (.ldc 84, 2) := by decide +kernel
theorem dX0_pairPrice_63 : decode cX0_pairPrice 63 = .ok (.ireturn, 1) := by decide +kernel
theorem dX0_pairPrice_64 : decode cX0_pairPrice 64 = .ok (.aload_n 0, 1) := by decide +kernel
theorem dX0_pairPrice_65 : decode cX0_pairPrice 65 = .ok (.getfield 81, 3) := by decide +kernel
theorem dX0_pairPrice_68 : decode cX0_pairPrice 68 = .ok (.iload_n 1, 1) := by decide +kernel
theorem dX0_pairPrice_69 : decode cX0_pairPrice 69 = .ok (.iaload, 1) := by decide +kernel
theorem dX0_pairPrice_70 : decode cX0_pairPrice 70 = .ok (.iconst 3, 1) := by decide +kernel
theorem dX0_pairPrice_71 : decode cX0_pairPrice 71 = .ok (.if_icmp .ne 16, 3) := by decide +kernel
theorem dX0_pairPrice_74 : decode cX0_pairPrice 74 = .ok (.iload 5, 2) := by decide +kernel
theorem dX0_pairPrice_76 : decode cX0_pairPrice 76 = .ok (.ifCond .ne 8, 3) := by decide +kernel
theorem dX0_pairPrice_79 : decode cX0_pairPrice 79 = .ok (.iload 6, 2) := by decide +kernel
theorem dX0_pairPrice_81 : decode cX0_pairPrice 81 = .ok (.ifCond .eq 6, 3) := by decide +kernel
theorem dX0_pairPrice_84 : decode cX0_pairPrice 84 = .ok (.ldc 84, 2) := by decide +kernel
theorem dX0_pairPrice_86 : decode cX0_pairPrice 86 = .ok (.ireturn, 1) := by decide +kernel
theorem dX0_pairPrice_87 : decode cX0_pairPrice 87 = .ok (.iload 5, 2) := by decide +kernel
theorem dX0_pairPrice_89 : decode cX0_pairPrice 89 = .ok (.ifCond .eq 10, 3) := by decide +kernel
theorem dX0_pairPrice_92 : decode cX0_pairPrice 92 = .ok (.aload 4, 2) := by decide +kernel
theorem dX0_pairPrice_94 : decode cX0_pairPrice 94 = .ok (.iconst 0, 1) := by decide +kernel
theorem dX0_pairPrice_95 : decode cX0_pairPrice 95 = .ok (.iaload, 1) := by decide +kernel
theorem dX0_pairPrice_96 : decode cX0_pairPrice 96 = .ok (.goto 4, 3) := by decide +kernel
theorem dX0_pairPrice_99 : decode cX0_pairPrice 99 = .ok (.iconst 0, 1) := by decide +kernel
theorem dX0_pairPrice_100 : decode cX0_pairPrice 100 = .ok (.iload 6, 2) := by decide +kernel
theorem dX0_pairPrice_102 : decode cX0_pairPrice 102 = .ok (.ifCond .eq 10, 3) := by decide +kernel
theorem dX0_pairPrice_105 : decode cX0_pairPrice 105 = .ok (.aload 4, 2) := by decide +kernel
theorem dX0_pairPrice_107 : decode cX0_pairPrice 107 = .ok (.iconst 1, 1) := by decide +kernel
theorem dX0_pairPrice_108 : decode cX0_pairPrice 108 = .ok (.iaload, 1) := by decide +kernel
theorem dX0_pairPrice_109 : decode cX0_pairPrice 109 = .ok (.goto 4, 3) := by decide +kernel
theorem dX0_pairPrice_112 : decode cX0_pairPrice 112 = .ok (.iconst 0, 1) := by decide +kernel
theorem dX0_pairPrice_113 : decode cX0_pairPrice 113 = .ok (.iadd, 1) := by decide +kernel
theorem dX0_pairPrice_114 : decode cX0_pairPrice 114 = .ok (.ireturn, 1) := by decide +kernel
theorem dX0_fillForests_0 : decode cX0_fillForests 0 = .ok (.aload_n 0, 1) := by decide +kernel
theorem dX0_fillForests_1 : decode cX0_fillForests 1 = .ok (.getfield 12, 3) := by decide +kernel
theorem dX0_fillForests_4 : decode cX0_fillForests 4 = .ok (.getfield 85, 3) := by decide +kernel
theorem dX0_fillForests_7 : decode cX0_fillForests 7 = .ok (.iload_n 1, 1) := by decide +kernel
theorem dX0_fillForests_8 : decode cX0_fillForests 8 = .ok (.iaload, 1) := by decide +kernel
theorem dX0_fillForests_9 : decode cX0_fillForests 9 = .ok (.iconst 1, 1) := by decide +kernel
theorem dX0_fillForests_10 : decode cX0_fillForests 10 = .ok (.isub, 1) := by decide +kernel
theorem dX0_fillForests_11 : decode cX0_fillForests 11 = .ok (.istore_n 3, 1) := by decide +kernel
theorem dX0_fillForests_12 : decode cX0_fillForests 12 = .ok (.aload_n 0, 1) := by decide +kernel
theorem dX0_fillForests_13 : decode cX0_fillForests 13 = .ok (.getfield 18, 3) := by decide +kernel
theorem dX0_fillForests_16 : decode cX0_fillForests 16 = .ok (.getfield 85, 3) := by decide +kernel
theorem dX0_fillForests_19 : decode cX0_fillForests 19 = .ok (.iload_n 2, 1) := by decide +kernel
theorem dX0_fillForests_20 : decode cX0_fillForests 20 = .ok (.iaload, 1) := by decide +kernel
theorem dX0_fillForests_21 : decode cX0_fillForests 21 = .ok (.iconst 1, 1) := by decide +kernel
theorem dX0_fillForests_22 : decode cX0_fillForests 22 = .ok (.isub, 1) := by decide +kernel
theorem dX0_fillForests_23 : decode cX0_fillForests 23 = .ok (.istore 4, 2) := by decide +kernel
theorem dX0_fillForests_25 : decode cX0_fillForests 25 = .ok (.aload_n 0, 1) := by decide +kernel
theorem dX0_fillForests_26 : decode cX0_fillForests 26 = .ok (.getfield 30, 3) := by decide +kernel
theorem dX0_fillForests_29 : decode cX0_fillForests 29 = .ok (.iload_n 3, 1) := by decide +kernel
theorem dX0_fillForests_30 : decode cX0_fillForests 30 = .ok (.aaload, 1) := by decide +kernel
theorem dX0_fillForests_31 : decode cX0_fillForests 31 = .ok (.iload 4, 2) := by decide +kernel
theorem dX0_fillForests_33 : decode cX0_fillForests 33 = .ok (.iconst 0, 1) := by decide +kernel
theorem dX0_fillForests_34 : decode cX0_fillForests 34 = .ok (.iastore, 1) := by decide +kernel
theorem dX0_fillForests_35 : decode cX0_fillForests 35 = .ok (.iload 4, 2) := by decide +kernel
theorem dX0_fillForests_37 : decode cX0_fillForests 37 = .ok (.iconst 1, 1) := by decide +kernel
theorem dX0_fillForests_38 : decode cX0_fillForests 38 = .ok (.iadd, 1) := by decide +kernel
theorem dX0_fillForests_39 : decode cX0_fillForests 39 = .ok (.istore 5, 2) := by decide +kernel
theorem dX0_fillForests_41 : decode cX0_fillForests 41 = .ok (.iload 5, 2) := by decide +kernel
theorem dX0_fillForests_43 : decode cX0_fillForests 43 = .ok (.iload_n 2, 1) := by decide +kernel
theorem dX0_fillForests_44 : decode cX0_fillForests 44 = .ok (.if_icmp .gt 34, 3) := by decide +kernel
theorem dX0_fillForests_47 : decode cX0_fillForests 47 = .ok (.aload_n 0, 1) := by decide +kernel
theorem dX0_fillForests_48 : decode cX0_fillForests 48 = .ok (.getfield 30, 3) := by decide +kernel
theorem dX0_fillForests_51 : decode cX0_fillForests 51 = .ok (.iload_n 3, 1) := by decide +kernel
theorem dX0_fillForests_52 : decode cX0_fillForests 52 = .ok (.aaload, 1) := by decide +kernel
theorem dX0_fillForests_53 : decode cX0_fillForests 53 = .ok (.iload 5, 2) := by decide +kernel
theorem dX0_fillForests_55 : decode cX0_fillForests 55 = .ok (.aload_n 0, 1) := by decide +kernel
theorem dX0_fillForests_56 : decode cX0_fillForests 56 = .ok (.getfield 30, 3) := by decide +kernel
theorem dX0_fillForests_59 : decode cX0_fillForests 59 = .ok (.iload_n 3, 1) := by decide +kernel
theorem dX0_fillForests_60 : decode cX0_fillForests 60 = .ok (.aaload, 1) := by decide +kernel
theorem dX0_fillForests_61 : decode cX0_fillForests 61 = .ok (.iload 5, 2) := by decide +kernel
theorem dX0_fillForests_63 : decode cX0_fillForests 63 = .ok (.iconst 1, 1) := by decide +kernel
theorem dX0_fillForests_64 : decode cX0_fillForests 64 = .ok (.isub, 1) := by decide +kernel
theorem dX0_fillForests_65 : decode cX0_fillForests 65 = .ok (.iaload, 1) := by decide +kernel
theorem dX0_fillForests_66 : decode cX0_fillForests 66 = .ok (.aload_n 0, 1) := by decide +kernel
theorem dX0_fillForests_67 : decode cX0_fillForests 67 = .ok (.getfield 47, 3) := by decide +kernel
theorem dX0_fillForests_70 : decode cX0_fillForests 70 = .ok (.iadd, 1) := by decide +kernel
theorem dX0_fillForests_71 : decode cX0_fillForests 71 = .ok (.iastore, 1) := by decide +kernel
theorem dX0_fillForests_72 : decode cX0_fillForests 72 = .ok (.iinc 5 1, 3) := by decide +kernel
theorem dX0_fillForests_75 : decode cX0_fillForests 75 = .ok (.goto (-34), 3) := by decide +kernel
theorem dX0_fillForests_78 : decode cX0_fillForests 78 = .ok (.iload_n 3, 1) := by decide +kernel
theorem dX0_fillForests_79 : decode cX0_fillForests 79 = .ok (.iconst 1, 1) := by decide +kernel
theorem dX0_fillForests_80 : decode cX0_fillForests 80 = .ok (.iadd, 1) := by decide +kernel
theorem dX0_fillForests_81 : decode cX0_fillForests 81 = .ok (.istore 5, 2) := by decide +kernel
theorem dX0_fillForests_83 : decode cX0_fillForests 83 = .ok (.iload 5, 2) := by decide +kernel
theorem dX0_fillForests_85 : decode cX0_fillForests 85 = .ok (.iload_n 1, 1) := by decide +kernel
theorem dX0_fillForests_86 : decode cX0_fillForests 86 = .ok (.if_icmp .gt 76, 3) := by decide +kernel
theorem dX0_fillForests_89 : decode cX0_fillForests 89 = .ok (.aload_n 0, 1) := by decide +kernel
theorem dX0_fillForests_90 : decode cX0_fillForests 90 = .ok (.getfield 30, 3) := by decide +kernel
theorem dX0_fillForests_93 : decode cX0_fillForests 93 = .ok (.iload 5, 2) := by decide +kernel
theorem dX0_fillForests_95 : decode cX0_fillForests 95 = .ok (.aaload, 1) := by decide +kernel
theorem dX0_fillForests_96 : decode cX0_fillForests 96 = .ok (.iload 4, 2) := by decide +kernel
theorem dX0_fillForests_98 : decode cX0_fillForests 98 = .ok (.aload_n 0, 1) := by decide +kernel
theorem dX0_fillForests_99 : decode cX0_fillForests 99 = .ok (.getfield 30, 3) := by decide +kernel
theorem dX0_fillForests_102 : decode cX0_fillForests 102 = .ok (.iload 5, 2) := by decide +kernel
theorem dX0_fillForests_104 : decode cX0_fillForests 104 = .ok (.iconst 1, 1) := by decide +kernel
theorem dX0_fillForests_105 : decode cX0_fillForests 105 = .ok (.isub, 1) := by decide +kernel
theorem dX0_fillForests_106 : decode cX0_fillForests 106 = .ok (.aaload, 1) := by decide +kernel
theorem dX0_fillForests_107 : decode cX0_fillForests 107 = .ok (.iload 4, 2) := by decide +kernel
theorem dX0_fillForests_109 : decode cX0_fillForests 109 = .ok (.iaload, 1) := by decide +kernel
theorem dX0_fillForests_110 : decode cX0_fillForests 110 = .ok (.aload_n 0, 1) := by decide +kernel
theorem dX0_fillForests_111 : decode cX0_fillForests 111 = .ok (.getfield 43, 3) := by decide +kernel
theorem dX0_fillForests_114 : decode cX0_fillForests 114 = .ok (.iadd, 1) := by decide +kernel
theorem dX0_fillForests_115 : decode cX0_fillForests 115 = .ok (.iastore, 1) := by decide +kernel
theorem dX0_fillForests_116 : decode cX0_fillForests 116 = .ok (.aload_n 0, 1) := by decide +kernel
theorem dX0_fillForests_117 : decode cX0_fillForests 117 = .ok (.getfield 12, 3) := by decide +kernel
theorem dX0_fillForests_120 : decode cX0_fillForests 120 = .ok (.getfield 85, 3) := by decide +kernel
theorem dX0_fillForests_123 : decode cX0_fillForests 123 = .ok (.iload 5, 2) := by decide +kernel
theorem dX0_fillForests_125 : decode cX0_fillForests 125 = .ok (.iaload, 1) := by decide +kernel
theorem dX0_fillForests_126 : decode cX0_fillForests 126 = .ok (.aload_n 0, 1) := by decide +kernel
theorem dX0_fillForests_127 : decode cX0_fillForests 127 = .ok (.getfield 12, 3) := by decide +kernel
theorem dX0_fillForests_130 : decode cX0_fillForests 130 = .ok (.getfield 85, 3) := by decide +kernel
theorem dX0_fillForests_133 : decode cX0_fillForests 133 = .ok (.iload_n 1, 1) := by decide +kernel
theorem dX0_fillForests_134 : decode cX0_fillForests 134 = .ok (.iaload, 1) := by decide +kernel
theorem dX0_fillForests_135 : decode cX0_fillForests 135 = .ok (.if_icmp .ne 12, 3) := by decide +kernel
theorem dX0_fillForests_138 : decode cX0_fillForests 138 = .ok (.aload_n 0, 1) := by decide +kernel
theorem dX0_fillForests_139 : decode cX0_fillForests 139 = .ok (.iload 5, 2) := by decide +kernel
theorem dX0_fillForests_141 : decode cX0_fillForests 141 = .ok (.iload_n 2, 1) := by decide +kernel
theorem dX0_fillForests_142 : decode cX0_fillForests 142 = .ok (.iload 4, 2) := by decide +kernel
theorem dX0_fillForests_144 : decode cX0_fillForests 144 = .ok (.invokevirtual 88, 3) := by decide +kernel
theorem dX0_fillForests_147 : decode cX0_fillForests 147 = .ok (.aload_n 0, 1) := by decide +kernel
theorem dX0_fillForests_148 : decode cX0_fillForests 148 = .ok (.iload 5, 2) := by decide +kernel
theorem dX0_fillForests_150 : decode cX0_fillForests 150 = .ok (.iload_n 2, 1) := by decide +kernel
theorem dX0_fillForests_151 : decode cX0_fillForests 151 = .ok (.iload 4, 2) := by decide +kernel
theorem dX0_fillForests_153 : decode cX0_fillForests 153 = .ok (.invokevirtual 92, 3) := by decide +kernel
theorem dX0_fillForests_156 : decode cX0_fillForests 156 = .ok (.iinc 5 1, 3) := by decide +kernel
theorem dX0_fillForests_159 : decode cX0_fillForests 159 = .ok (.goto (-76), 3) := by decide +kernel
theorem dX0_fillForests_162 : decode cX0_fillForests 162 = .ok (.return_, 1) := by decide +kernel
theorem dX0_keepUnder_0 : decode cX0_keepUnder 0 = .ok (.iload_n 3, 1) := by decide +kernel
theorem dX0_keepUnder_1 : decode cX0_keepUnder 1 = .ok (.iconst 1, 1) := by decide +kernel
theorem dX0_keepUnder_2 : decode cX0_keepUnder 2 = .ok (.iadd, 1) := by decide +kernel
theorem dX0_keepUnder_3 : decode cX0_keepUnder 3 = .ok (.istore 4, 2) := by decide +kernel
theorem dX0_keepUnder_5 : decode cX0_keepUnder 5 = .ok (.iload 4, 2) := by decide +kernel
theorem dX0_keepUnder_7 : decode cX0_keepUnder 7 = .ok (.iload_n 2, 1) := by decide +kernel
theorem dX0_keepUnder_8 : decode cX0_keepUnder 8 = .ok (.if_icmp .gt 53, 3) := by decide +kernel
theorem dX0_keepUnder_11 : decode cX0_keepUnder 11 = .ok (.aload_n 0, 1) := by decide +kernel
theorem dX0_keepUnder_12 : decode cX0_keepUnder 12 = .ok (.getfield 18, 3) := by decide +kernel
theorem dX0_keepUnder_15 : decode cX0_keepUnder 15 = .ok (.getfield 85, 3) := by decide +kernel
theorem dX0_keepUnder_18 : decode cX0_keepUnder 18 = .ok (.iload 4, 2) := by decide +kernel
theorem dX0_keepUnder_20 : decode cX0_keepUnder 20 = .ok (.iaload, 1) := by decide +kernel
theorem dX0_keepUnder_21 : decode cX0_keepUnder 21 = .ok (.aload_n 0, 1) := by decide +kernel
theorem dX0_keepUnder_22 : decode cX0_keepUnder 22 = .ok (.getfield 18, 3) := by decide +kernel
theorem dX0_keepUnder_25 : decode cX0_keepUnder 25 = .ok (.getfield 85, 3) := by decide +kernel
theorem dX0_keepUnder_28 : decode cX0_keepUnder 28 = .ok (.iload_n 2, 1) := by decide +kernel
theorem dX0_keepUnder_29 : decode cX0_keepUnder 29 = .ok (.iaload, 1) := by decide +kernel
theorem dX0_keepUnder_30 : decode cX0_keepUnder 30 = .ok (.if_icmp .ne 25, 3) := by decide +kernel
theorem dX0_keepUnder_33 : decode cX0_keepUnder 33 = .ok (.aload_n 0, 1) := by decide +kernel
theorem dX0_keepUnder_34 : decode cX0_keepUnder 34 = .ok (.getfield 33, 3) := by decide +kernel
theorem dX0_keepUnder_37 : decode cX0_keepUnder 37 = .ok (.iload_n 1, 1) := by decide +kernel
theorem dX0_keepUnder_38 : decode cX0_keepUnder 38 = .ok (.aaload, 1) := by decide +kernel
theorem dX0_keepUnder_39 : decode cX0_keepUnder 39 = .ok (.iload 4, 2) := by decide +kernel
theorem dX0_keepUnder_41 : decode cX0_keepUnder 41 = .ok (.aload_n 0, 1) := by decide +kernel
theorem dX0_keepUnder_42 : decode cX0_keepUnder 42 = .ok (.getfield 30, 3) := by decide +kernel
theorem dX0_keepUnder_45 : decode cX0_keepUnder 45 = .ok (.iload_n 1, 1) := by decide +kernel
theorem dX0_keepUnder_46 : decode cX0_keepUnder 46 = .ok (.iconst 1, 1) := by decide +kernel
theorem dX0_keepUnder_47 : decode cX0_keepUnder 47 = .ok (.isub, 1) := by decide +kernel
theorem dX0_keepUnder_48 : decode cX0_keepUnder 48 = .ok (.aaload, 1) := by decide +kernel
theorem dX0_keepUnder_49 : decode cX0_keepUnder 49 = .ok (.iload 4, 2) := by decide +kernel
theorem dX0_keepUnder_51 : decode cX0_keepUnder 51 = .ok (.iconst 1, 1) := by decide +kernel
theorem dX0_keepUnder_52 : decode cX0_keepUnder 52 = .ok (.isub, 1) := by decide +kernel
theorem dX0_keepUnder_53 : decode cX0_keepUnder 53 = .ok (.iaload, 1) := by decide +kernel
theorem dX0_keepUnder_54 : decode cX0_keepUnder 54 = .ok (.iastore, 1) := by decide +kernel
theorem dX0_keepUnder_55 : decode cX0_keepUnder 55 = .ok (.iinc 4 1, 3) := by decide +kernel
theorem dX0_keepUnder_58 : decode cX0_keepUnder 58 = .ok (.goto (-53), 3) := by decide +kernel
theorem dX0_keepUnder_61 : decode cX0_keepUnder 61 = .ok (.return_, 1) := by decide +kernel
theorem dX0_fillLine_0 : decode cX0_fillLine 0 = .ok (.aload_n 0, 1) := by decide +kernel
theorem dX0_fillLine_1 : decode cX0_fillLine 1 = .ok (.getfield 30, 3) := by decide +kernel
theorem dX0_fillLine_4 : decode cX0_fillLine 4 = .ok (.iload_n 1, 1) := by decide +kernel
theorem dX0_fillLine_5 : decode cX0_fillLine 5 = .ok (.aaload, 1) := by decide +kernel
theorem dX0_fillLine_6 : decode cX0_fillLine 6 = .ok (.astore 4, 2) := by decide +kernel
theorem dX0_fillLine_8 : decode cX0_fillLine 8 = .ok (.aload_n 0, 1) := by decide +kernel
theorem dX0_fillLine_9 : decode cX0_fillLine 9 = .ok (.getfield 30, 3) := by decide +kernel
theorem dX0_fillLine_12 : decode cX0_fillLine 12 = .ok (.iload_n 1, 1) := by decide +kernel
theorem dX0_fillLine_13 : decode cX0_fillLine 13 = .ok (.iconst 1, 1) := by decide +kernel
theorem dX0_fillLine_14 : decode cX0_fillLine 14 = .ok (.isub, 1) := by decide +kernel
theorem dX0_fillLine_15 : decode cX0_fillLine 15 = .ok (.aaload, 1) := by decide +kernel
theorem dX0_fillLine_16 : decode cX0_fillLine 16 = .ok (.astore 5, 2) := by decide +kernel
theorem dX0_fillLine_18 : decode cX0_fillLine 18 = .ok (.aload_n 0, 1) := by decide +kernel
theorem dX0_fillLine_19 : decode cX0_fillLine 19 = .ok (.getfield 30, 3) := by decide +kernel
theorem dX0_fillLine_22 : decode cX0_fillLine 22 = .ok (.aload_n 0, 1) := by decide +kernel
theorem dX0_fillLine_23 : decode cX0_fillLine 23 = .ok (.getfield 12, 3) := by decide +kernel
theorem dX0_fillLine_26 : decode cX0_fillLine 26 = .ok (.getfield 85, 3) := by decide +kernel
theorem dX0_fillLine_29 : decode cX0_fillLine 29 = .ok (.iload_n 1, 1) := by decide +kernel
theorem dX0_fillLine_30 : decode cX0_fillLine 30 = .ok (.iaload, 1) := by decide +kernel
theorem dX0_fillLine_31 : decode cX0_fillLine 31 = .ok (.iconst 1, 1) := by decide +kernel
theorem dX0_fillLine_32 : decode cX0_fillLine 32 = .ok (.isub, 1) := by decide +kernel
theorem dX0_fillLine_33 : decode cX0_fillLine 33 = .ok (.aaload, 1) := by decide +kernel
theorem dX0_fillLine_34 : decode cX0_fillLine 34 = .ok (.astore 6, 2) := by decide +kernel
theorem dX0_fillLine_36 : decode cX0_fillLine 36 = .ok (.aload_n 0, 1) := by decide +kernel
theorem dX0_fillLine_37 : decode cX0_fillLine 37 = .ok (.getfield 33, 3) := by decide +kernel
theorem dX0_fillLine_40 : decode cX0_fillLine 40 = .ok (.iload_n 1, 1) := by decide +kernel
theorem dX0_fillLine_41 : decode cX0_fillLine 41 = .ok (.aaload, 1) := by decide +kernel
theorem dX0_fillLine_42 : decode cX0_fillLine 42 = .ok (.astore 7, 2) := by decide +kernel
theorem dX0_fillLine_44 : decode cX0_fillLine 44 = .ok (.aload_n 0, 1) := by decide +kernel
theorem dX0_fillLine_45 : decode cX0_fillLine 45 = .ok (.getfield 36, 3) := by decide +kernel
theorem dX0_fillLine_48 : decode cX0_fillLine 48 = .ok (.iload_n 1, 1) := by decide +kernel
theorem dX0_fillLine_49 : decode cX0_fillLine 49 = .ok (.aaload, 1) := by decide +kernel
theorem dX0_fillLine_50 : decode cX0_fillLine 50 = .ok (.astore 8, 2) := by decide +kernel
theorem dX0_fillLine_52 : decode cX0_fillLine 52 = .ok (.aload_n 0, 1) := by decide +kernel
theorem dX0_fillLine_53 : decode cX0_fillLine 53 = .ok (.getfield 18, 3) := by decide +kernel
theorem dX0_fillLine_56 : decode cX0_fillLine 56 = .ok (.getfield 85, 3) := by decide +kernel
theorem dX0_fillLine_59 : decode cX0_fillLine 59 = .ok (.astore 9, 2) := by decide +kernel
theorem dX0_fillLine_61 : decode cX0_fillLine 61 = .ok (.iload_n 3, 1) := by decide +kernel
theorem dX0_fillLine_62 : decode cX0_fillLine 62 = .ok (.iconst 1, 1) := by decide +kernel
theorem dX0_fillLine_63 : decode cX0_fillLine 63 = .ok (.iadd, 1) := by decide +kernel
theorem dX0_fillLine_64 : decode cX0_fillLine 64 = .ok (.istore 10, 2) := by decide +kernel
theorem dX0_fillLine_66 : decode cX0_fillLine 66 = .ok (.iload 10, 2) := by decide +kernel
theorem dX0_fillLine_68 : decode cX0_fillLine 68 = .ok (.iload_n 2, 1) := by decide +kernel
theorem dX0_fillLine_69 : decode cX0_fillLine 69 = .ok (.if_icmp .gt 72, 3) := by decide +kernel
theorem dX0_fillLine_72 : decode cX0_fillLine 72 = .ok (.aload 6, 2) := by decide +kernel
theorem dX0_fillLine_74 : decode cX0_fillLine 74 = .ok (.aload 9, 2) := by decide +kernel
theorem dX0_fillLine_76 : decode cX0_fillLine 76 = .ok (.iload 10, 2) := by decide +kernel
theorem dX0_fillLine_78 : decode cX0_fillLine 78 = .ok (.iaload, 1) := by decide +kernel
theorem dX0_fillLine_79 : decode cX0_fillLine 79 = .ok (.iconst 1, 1) := by decide +kernel
theorem dX0_fillLine_80 : decode cX0_fillLine 80 = .ok (.isub, 1) := by decide +kernel
theorem dX0_fillLine_81 : decode cX0_fillLine 81 = .ok (.iaload, 1) := by decide +kernel
theorem dX0_fillLine_82 : decode cX0_fillLine 82 = .ok (.aload 7, 2) := by decide +kernel
theorem dX0_fillLine_84 : decode cX0_fillLine 84 = .ok (.iload 10, 2) := by decide +kernel
theorem dX0_fillLine_86 : decode cX0_fillLine 86 = .ok (.iaload, 1) := by decide +kernel
theorem dX0_fillLine_87 : decode cX0_fillLine 87 = .ok (.iadd, 1) := by decide +kernel
theorem dX0_fillLine_88 : decode cX0_fillLine 88 = .ok (.aload 8, 2) := by decide +kernel
theorem dX0_fillLine_90 : decode cX0_fillLine 90 = .ok (.iload 10, 2) := by decide +kernel
theorem dX0_fillLine_92 : decode cX0_fillLine 92 = .ok (.iaload, 1) := by decide +kernel
theorem dX0_fillLine_93 : decode cX0_fillLine 93 = .ok (.iadd, 1) := by decide +kernel
theorem dX0_fillLine_94 : decode cX0_fillLine 94 = .ok (.istore 11, 2) := by decide +kernel
theorem dX0_fillLine_96 : decode cX0_fillLine 96 = .ok (.aload 5, 2) := by decide +kernel
theorem dX0_fillLine_98 : decode cX0_fillLine 98 = .ok (.iload 10, 2) := by decide +kernel
theorem dX0_fillLine_100 : decode cX0_fillLine 100 = .ok (.iaload, 1) := by decide +kernel
theorem dX0_fillLine_101 : decode cX0_fillLine 101 = .ok (.aload_n 0, 1) := by decide +kernel
theorem dX0_fillLine_102 : decode cX0_fillLine 102 = .ok (.getfield 43, 3) := by decide +kernel
theorem dX0_fillLine_105 : decode cX0_fillLine 105 = .ok (.iadd, 1) := by decide +kernel
theorem dX0_fillLine_106 : decode cX0_fillLine 106 = .ok (.aload 4, 2) := by decide +kernel
theorem dX0_fillLine_108 : decode cX0_fillLine 108 = .ok (.iload 10, 2) := by decide +kernel
theorem dX0_fillLine_110 : decode cX0_fillLine 110 = .ok (.iconst 1, 1) := by decide +kernel
theorem dX0_fillLine_111 : decode cX0_fillLine 111 = .ok (.isub, 1) := by decide +kernel
theorem dX0_fillLine_112 : decode cX0_fillLine 112 = .ok (.iaload, 1) := by decide +kernel
theorem dX0_fillLine_113 : decode cX0_fillLine 113 = .ok (.aload_n 0, 1) := by decide +kernel
theorem dX0_fillLine_114 : decode cX0_fillLine 114 = .ok (.getfield 47, 3) := by decide +kernel
theorem dX0_fillLine_117 : decode cX0_fillLine 117 = .ok (.iadd, 1) := by decide +kernel
theorem dX0_fillLine_118 : decode cX0_fillLine 118 = .ok (.invokestatic 95, 3) := by decide +kernel
theorem dX0_fillLine_121 : decode cX0_fillLine 121 = .ok (.istore 12, 2) := by decide +kernel
theorem dX0_fillLine_123 : decode cX0_fillLine 123 = .ok (.aload 4, 2) := by decide +kernel
theorem dX0_fillLine_125 : decode cX0_fillLine 125 = .ok (.iload 10, 2) := by decide +kernel
theorem dX0_fillLine_127 : decode cX0_fillLine 127 = .ok (.iload 11, 2) := by decide +kernel
theorem dX0_fillLine_129 : decode cX0_fillLine 129 = .ok (.iload 12, 2) := by decide +kernel
theorem dX0_fillLine_131 : decode cX0_fillLine 131 = .ok (.invokestatic 95, 3) := by decide +kernel
theorem dX0_fillLine_134 : decode cX0_fillLine 134 = .ok (.iastore, 1) := by decide +kernel
theorem dX0_fillLine_135 : decode cX0_fillLine 135 = .ok (.iinc 10 1, 3) := by decide +kernel
theorem dX0_fillLine_138 : decode cX0_fillLine 138 = .ok (.goto (-72), 3) := by decide +kernel
theorem dX0_fillLine_141 : decode cX0_fillLine 141 = .ok (.return_, 1) := by decide +kernel
theorem dX0_costOfPairing_0 : decode cX0_costOfPairing 0 = .ok (.aload_n 0, 1) := by decide +kernel
theorem dX0_costOfPairing_1 : decode cX0_costOfPairing 1 = .ok (.getfield 30, 3) := by decide +kernel
theorem dX0_costOfPairing_4 : decode cX0_costOfPairing 4 = .ok (.aload_n 0, 1) := by decide +kernel
theorem dX0_costOfPairing_5 : decode cX0_costOfPairing 5 = .ok (.getfield 12, 3) := by decide +kernel
theorem dX0_costOfPairing_8 : decode cX0_costOfPairing 8 = .ok (.getfield 85, 3) := by decide +kernel
theorem dX0_costOfPairing_11 : decode cX0_costOfPairing 11 = .ok (.iload_n 1, 1) := by decide +kernel
theorem dX0_costOfPairing_12 : decode cX0_costOfPairing 12 = .ok (.iaload, 1) := by decide +kernel
theorem dX0_costOfPairing_13 : decode cX0_costOfPairing 13 = .ok (.iconst 1, 1) := by decide +kernel
theorem dX0_costOfPairing_14 : decode cX0_costOfPairing 14 = .ok (.isub, 1) := by decide +kernel
theorem dX0_costOfPairing_15 : decode cX0_costOfPairing 15 = .ok (.aaload, 1) := by decide +kernel
theorem dX0_costOfPairing_16 : decode cX0_costOfPairing 16 = .ok (.aload_n 0, 1) := by decide +kernel
theorem dX0_costOfPairing_17 : decode cX0_costOfPairing 17 = .ok (.getfield 18, 3) := by decide +kernel
theorem dX0_costOfPairing_20 : decode cX0_costOfPairing 20 = .ok (.getfield 85, 3) := by decide +kernel
theorem dX0_costOfPairing_23 : decode cX0_costOfPairing 23 = .ok (.iload_n 2, 1) := by decide +kernel
theorem dX0_costOfPairing_24 : decode cX0_costOfPairing 24 = .ok (.iaload, 1) := by decide +kernel
theorem dX0_costOfPairing_25 : decode cX0_costOfPairing 25 = .ok (.iconst 1, 1) := by decide +kernel
theorem dX0_costOfPairing_26 : decode cX0_costOfPairing 26 = .ok (.isub, 1) := by decide +kernel
theorem dX0_costOfPairing_27 : decode cX0_costOfPairing 27 = .ok (.iaload, 1) := by decide +kernel
theorem dX0_costOfPairing_28 : decode cX0_costOfPairing 28 = .ok (.aload_n 0, 1) := by decide +kernel
theorem dX0_costOfPairing_29 : decode cX0_costOfPairing 29 = .ok (.getfield 33, 3) := by decide +kernel
theorem dX0_costOfPairing_32 : decode cX0_costOfPairing 32 = .ok (.iload_n 1, 1) := by decide +kernel
theorem dX0_costOfPairing_33 : decode cX0_costOfPairing 33 = .ok (.aaload, 1) := by decide +kernel
theorem dX0_costOfPairing_34 : decode cX0_costOfPairing 34 = .ok (.iload_n 2, 1) := by decide +kernel
theorem dX0_costOfPairing_35 : decode cX0_costOfPairing 35 = .ok (.iaload, 1) := by decide +kernel
theorem dX0_costOfPairing_36 : decode cX0_costOfPairing 36 = .ok (.iadd, 1) := by decide +kernel
theorem dX0_costOfPairing_37 : decode cX0_costOfPairing 37 = .ok (.aload_n 0, 1) := by decide +kernel
theorem dX0_costOfPairing_38 : decode cX0_costOfPairing 38 = .ok (.getfield 36, 3) := by decide +kernel
theorem dX0_costOfPairing_41 : decode cX0_costOfPairing 41 = .ok (.iload_n 1, 1) := by decide +kernel
theorem dX0_costOfPairing_42 : decode cX0_costOfPairing 42 = .ok (.aaload, 1) := by decide +kernel
theorem dX0_costOfPairing_43 : decode cX0_costOfPairing 43 = .ok (.iload_n 2, 1) := by decide +kernel
theorem dX0_costOfPairing_44 : decode cX0_costOfPairing 44 = .ok (.iaload, 1) := by decide +kernel
theorem dX0_costOfPairing_45 : decode cX0_costOfPairing 45 = .ok (.iadd, 1) := by decide +kernel
theorem dX0_costOfPairing_46 : decode cX0_costOfPairing 46 = .ok (.ireturn, 1) := by decide +kernel
theorem dX0_choosePairs_0 : decode cX0_choosePairs 0 = .ok (.aload_n 0, 1) := by decide +kernel
theorem dX0_choosePairs_1 : decode cX0_choosePairs 1 = .ok (.iconst 0, 1) := by decide +kernel
theorem dX0_choosePairs_2 : decode cX0_choosePairs 2 = .ok (.putfield 101, 3) := by decide +kernel
theorem dX0_choosePairs_5 : decode cX0_choosePairs 5 = .ok (.aload_n 0, 1) := by decide +kernel
theorem dX0_choosePairs_6 : decode cX0_choosePairs 6 = .ok (.aload_n 0, 1) := by decide +kernel
theorem dX0_choosePairs_7 : decode cX0_choosePairs 7 = .ok (.getfield 12, 3) := by decide +kernel
theorem dX0_choosePairs_10 : decode cX0_choosePairs 10 = .ok (.getfield 54, 3) := by decide +kernel
theorem dX0_choosePairs_13 : decode cX0_choosePairs 13 = .ok (.aload_n 0, 1) := by decide +kernel
theorem dX0_choosePairs_14 : decode cX0_choosePairs 14 = .ok (.getfield 18, 3) := by decide +kernel
theorem dX0_choosePairs_17 : decode cX0_choosePairs 17 = .ok (.getfield 54, 3) := by decide +kernel
theorem dX0_choosePairs_20 : decode cX0_choosePairs 20 = .ok (.iconst 0, 1) := by decide +kernel
theorem dX0_choosePairs_21 : decode cX0_choosePairs 21 = .ok (.iconst 0, 1) := by decide +kernel
theorem dX0_choosePairs_22 : decode cX0_choosePairs 22 = .ok (.invokevirtual 104, 3) := by decide +kernel
theorem dX0_choosePairs_25 : decode cX0_choosePairs 25 = .ok (.iconst 0, 1) := by decide +kernel
theorem dX0_choosePairs_26 : decode cX0_choosePairs 26 = .ok (.istore_n 1, 1) := by decide +kernel
theorem dX0_choosePairs_27 : decode cX0_choosePairs 27 = .ok (.iload_n 1, 1) := by decide +kernel
theorem dX0_choosePairs_28 : decode cX0_choosePairs 28 = .ok (.aload_n 0, 1) := by decide +kernel
theorem dX0_choosePairs_29 : decode cX0_choosePairs 29 = .ok (.getfield 101, 3) := by decide +kernel
theorem dX0_choosePairs_32 : decode cX0_choosePairs 32 = .ok (.if_icmp .ge 93, 3) := by decide +kernel
theorem dX0_choosePairs_35 : decode cX0_choosePairs 35 = .ok (.iload_n 1, 1) := by decide +kernel
theorem dX0_choosePairs_36 : decode cX0_choosePairs 36 = .ok (.bipush 30, 2) := by decide +kernel
theorem dX0_choosePairs_38 : decode cX0_choosePairs 38 = .ok (.if_icmp .ge 87, 3) := by decide +kernel
theorem dX0_choosePairs_41 : decode cX0_choosePairs 41 = .ok (.aload_n 0, 1) := by decide +kernel
theorem dX0_choosePairs_42 : decode cX0_choosePairs 42 = .ok (.getfield 21, 3) := by decide +kernel
theorem dX0_choosePairs_45 : decode cX0_choosePairs 45 = .ok (.iload_n 1, 1) := by decide +kernel
theorem dX0_choosePairs_46 : decode cX0_choosePairs 46 = .ok (.iaload, 1) := by decide +kernel
theorem dX0_choosePairs_47 : decode cX0_choosePairs 47 = .ok (.istore_n 2, 1) := by decide +kernel
theorem dX0_choosePairs_48 : decode cX0_choosePairs 48 = .ok (.aload_n 0, 1) := by decide +kernel
theorem dX0_choosePairs_49 : decode cX0_choosePairs 49 = .ok (.getfield 25, 3) := by decide +kernel
theorem dX0_choosePairs_52 : decode cX0_choosePairs 52 = .ok (.iload_n 1, 1) := by decide +kernel
theorem dX0_choosePairs_53 : decode cX0_choosePairs 53 = .ok (.iaload, 1) := by decide +kernel
theorem dX0_choosePairs_54 : decode cX0_choosePairs 54 = .ok (.istore_n 3, 1) := by decide +kernel
theorem dX0_choosePairs_55 : decode cX0_choosePairs 55 = .ok (.aload_n 0, 1) := by decide +kernel
theorem dX0_choosePairs_56 : decode cX0_choosePairs 56 = .ok (.getfield 12, 3) := by decide +kernel
theorem dX0_choosePairs_59 : decode cX0_choosePairs 59 = .ok (.getfield 85, 3) := by decide +kernel
theorem dX0_choosePairs_62 : decode cX0_choosePairs 62 = .ok (.iload_n 2, 1) := by decide +kernel
theorem dX0_choosePairs_63 : decode cX0_choosePairs 63 = .ok (.iaload, 1) := by decide +kernel
theorem dX0_choosePairs_64 : decode cX0_choosePairs 64 = .ok (.iload_n 2, 1) := by decide +kernel
theorem dX0_choosePairs_65 : decode cX0_choosePairs 65 = .ok (.if_icmp .ge 54, 3) := by decide +kernel
theorem dX0_choosePairs_68 : decode cX0_choosePairs 68 = .ok (.aload_n 0, 1) := by decide +kernel
theorem dX0_choosePairs_69 : decode cX0_choosePairs 69 = .ok (.getfield 18, 3) := by decide +kernel
theorem dX0_choosePairs_72 : decode cX0_choosePairs 72 = .ok (.getfield 85, 3) := by decide +kernel
theorem dX0_choosePairs_75 : decode cX0_choosePairs 75 = .ok (.iload_n 3, 1) := by decide +kernel
theorem dX0_choosePairs_76 : decode cX0_choosePairs 76 = .ok (.iaload, 1) := by decide +kernel
theorem dX0_choosePairs_77 : decode cX0_choosePairs 77 = .ok (.iload_n 3, 1) := by decide +kernel
theorem dX0_choosePairs_78 : decode cX0_choosePairs 78 = .ok (.if_icmp .ge 41, 3) := by decide +kernel
theorem dX0_choosePairs_81 : decode cX0_choosePairs 81 = .ok (.aload_n 0, 1) := by decide +kernel
theorem dX0_choosePairs_82 : decode cX0_choosePairs 82 = .ok (.iload_n 2, 1) := by decide +kernel
theorem dX0_choosePairs_83 : decode cX0_choosePairs 83 = .ok (.iload_n 3, 1) := by decide +kernel
theorem dX0_choosePairs_84 : decode cX0_choosePairs 84 = .ok (.invokevirtual 61, 3) := by decide +kernel
theorem dX0_choosePairs_87 : decode cX0_choosePairs 87 = .ok (.aload_n 0, 1) := by decide +kernel
theorem dX0_choosePairs_88 : decode cX0_choosePairs 88 = .ok (.iload_n 2, 1) := by decide +kernel
theorem dX0_choosePairs_89 : decode cX0_choosePairs 89 = .ok (.iconst 1, 1) := by decide +kernel
theorem dX0_choosePairs_90 : decode cX0_choosePairs 90 = .ok (.isub, 1) := by decide +kernel
theorem dX0_choosePairs_91 : decode cX0_choosePairs 91 = .ok (.iload_n 3, 1) := by decide +kernel
theorem dX0_choosePairs_92 : decode cX0_choosePairs 92 = .ok (.iconst 1, 1) := by decide +kernel
theorem dX0_choosePairs_93 : decode cX0_choosePairs 93 = .ok (.isub, 1) := by decide +kernel
theorem dX0_choosePairs_94 : decode cX0_choosePairs 94 = .ok (.aload_n 0, 1) := by decide +kernel
theorem dX0_choosePairs_95 : decode cX0_choosePairs 95 = .ok (.getfield 12, 3) := by decide +kernel
theorem dX0_choosePairs_98 : decode cX0_choosePairs 98 = .ok (.getfield 85, 3) := by decide +kernel
theorem dX0_choosePairs_101 : decode cX0_choosePairs 101 = .ok (.iload_n 2, 1) := by decide +kernel
theorem dX0_choosePairs_102 : decode cX0_choosePairs 102 = .ok (.iaload, 1) := by decide +kernel
theorem dX0_choosePairs_103 : decode cX0_choosePairs 103 = .ok (.iconst 1, 1) := by decide +kernel
theorem dX0_choosePairs_104 : decode cX0_choosePairs 104 = .ok (.isub, 1) := by decide +kernel
theorem dX0_choosePairs_105 : decode cX0_choosePairs 105 = .ok (.aload_n 0, 1) := by decide +kernel
theorem dX0_choosePairs_106 : decode cX0_choosePairs 106 = .ok (.getfield 18, 3) := by decide +kernel
theorem dX0_choosePairs_109 : decode cX0_choosePairs 109 = .ok (.getfield 85, 3) := by decide +kernel
theorem dX0_choosePairs_112 : decode cX0_choosePairs 112 = .ok (.iload_n 3, 1) := by decide +kernel
theorem dX0_choosePairs_113 : decode cX0_choosePairs 113 = .ok (.iaload, 1) := by decide +kernel
theorem dX0_choosePairs_114 : decode cX0_choosePairs 114 = .ok (.iconst 1, 1) := by decide +kernel
theorem dX0_choosePairs_115 : decode cX0_choosePairs 115 = .ok (.isub, 1) := by decide +kernel
theorem dX0_choosePairs_116 : decode cX0_choosePairs 116 = .ok (.invokevirtual 104, 3) := by decide +kernel
theorem dX0_choosePairs_119 : decode cX0_choosePairs 119 = .ok (.iinc 1 1, 3) := by decide +kernel
theorem dX0_choosePairs_122 : decode cX0_choosePairs 122 = .ok (.goto (-95), 3) := by decide +kernel
theorem dX0_choosePairs_125 : decode cX0_choosePairs 125 = .ok (.return_, 1) := by decide +kernel
theorem dX0_walkBack_0 : decode cX0_walkBack 0 = .ok (.iload_n 1, 1) := by decide +kernel
theorem dX0_walkBack_1 : decode cX0_walkBack 1 = .ok (.istore 5, 2) := by decide +kernel
theorem dX0_walkBack_3 : decode cX0_walkBack 3 = .ok (.iload_n 2, 1) := by decide +kernel
theorem dX0_walkBack_4 : decode cX0_walkBack 4 = .ok (.istore 6, 2) := by decide +kernel
theorem dX0_walkBack_6 : decode cX0_walkBack 6 = .ok (.iconst 0, 1) := by decide +kernel
theorem dX0_walkBack_7 : decode cX0_walkBack 7 = .ok (.istore 7, 2) := by decide +kernel
theorem dX0_walkBack_9 : decode cX0_walkBack 9 = .ok (.iload 7, 2) := by decide +kernel
theorem dX0_walkBack_11 : decode cX0_walkBack 11 = .ok (.bipush 60, 2) := by decide +kernel
theorem dX0_walkBack_13 : decode cX0_walkBack 13 = .ok (.if_icmp .ge 121, 3) := by decide +kernel
theorem dX0_walkBack_16 : decode cX0_walkBack 16 = .ok (.iload 5, 2) := by decide +kernel
theorem dX0_walkBack_18 : decode cX0_walkBack 18 = .ok (.iload_n 3, 1) := by decide +kernel
theorem dX0_walkBack_19 : decode cX0_walkBack 19 = .ok (.if_icmp .le 115, 3) := by decide +kernel
theorem dX0_walkBack_22 : decode cX0_walkBack 22 = .ok (.iload 6, 2) := by decide +kernel
theorem dX0_walkBack_24 : decode cX0_walkBack 24 = .ok (.iload 4, 2) := by decide +kernel
theorem dX0_walkBack_26 : decode cX0_walkBack 26 = .ok (.if_icmp .le 108, 3) := by decide +kernel
theorem dX0_walkBack_29 : decode cX0_walkBack 29 = .ok (.aload_n 0, 1) := by decide +kernel
theorem dX0_walkBack_30 : decode cX0_walkBack 30 = .ok (.iload 5, 2) := by decide +kernel
theorem dX0_walkBack_32 : decode cX0_walkBack 32 = .ok (.iload 6, 2) := by decide +kernel
theorem dX0_walkBack_34 : decode cX0_walkBack 34 = .ok (.invokevirtual 108, 3) := by decide +kernel
theorem dX0_walkBack_37 : decode cX0_walkBack 37 = .ok (.aload_n 0, 1) := by decide +kernel
theorem dX0_walkBack_38 : decode cX0_walkBack 38 = .ok (.getfield 30, 3) := by decide +kernel
theorem dX0_walkBack_41 : decode cX0_walkBack 41 = .ok (.iload 5, 2) := by decide +kernel
theorem dX0_walkBack_43 : decode cX0_walkBack 43 = .ok (.aaload, 1) := by decide +kernel
theorem dX0_walkBack_44 : decode cX0_walkBack 44 = .ok (.iload 6, 2) := by decide +kernel
theorem dX0_walkBack_46 : decode cX0_walkBack 46 = .ok (.iaload, 1) := by decide +kernel
theorem dX0_walkBack_47 : decode cX0_walkBack 47 = .ok (.if_icmp .ne 42, 3) := by decide +kernel
theorem dX0_walkBack_50 : decode cX0_walkBack 50 = .ok (.aload_n 0, 1) := by decide +kernel
theorem dX0_walkBack_51 : decode cX0_walkBack 51 = .ok (.iload 5, 2) := by decide +kernel
theorem dX0_walkBack_53 : decode cX0_walkBack 53 = .ok (.iload 6, 2) := by decide +kernel
theorem dX0_walkBack_55 : decode cX0_walkBack 55 = .ok (.invokevirtual 111, 3) := by decide +kernel
theorem dX0_walkBack_58 : decode cX0_walkBack 58 = .ok (.aload_n 0, 1) := by decide +kernel
theorem dX0_walkBack_59 : decode cX0_walkBack 59 = .ok (.getfield 12, 3) := by decide +kernel
theorem dX0_walkBack_62 : decode cX0_walkBack 62 = .ok (.getfield 85, 3) := by decide +kernel
theorem dX0_walkBack_65 : decode cX0_walkBack 65 = .ok (.iload 5, 2) := by decide +kernel
theorem dX0_walkBack_67 : decode cX0_walkBack 67 = .ok (.iaload, 1) := by decide +kernel
theorem dX0_walkBack_68 : decode cX0_walkBack 68 = .ok (.iconst 1, 1) := by decide +kernel
theorem dX0_walkBack_69 : decode cX0_walkBack 69 = .ok (.isub, 1) := by decide +kernel
theorem dX0_walkBack_70 : decode cX0_walkBack 70 = .ok (.istore 5, 2) := by decide +kernel
theorem dX0_walkBack_72 : decode cX0_walkBack 72 = .ok (.aload_n 0, 1) := by decide +kernel
theorem dX0_walkBack_73 : decode cX0_walkBack 73 = .ok (.getfield 18, 3) := by decide +kernel
theorem dX0_walkBack_76 : decode cX0_walkBack 76 = .ok (.getfield 85, 3) := by decide +kernel
theorem dX0_walkBack_79 : decode cX0_walkBack 79 = .ok (.iload 6, 2) := by decide +kernel
theorem dX0_walkBack_81 : decode cX0_walkBack 81 = .ok (.iaload, 1) := by decide +kernel
theorem dX0_walkBack_82 : decode cX0_walkBack 82 = .ok (.iconst 1, 1) := by decide +kernel
theorem dX0_walkBack_83 : decode cX0_walkBack 83 = .ok (.isub, 1) := by decide +kernel
theorem dX0_walkBack_84 : decode cX0_walkBack 84 = .ok (.istore 6, 2) := by decide +kernel
theorem dX0_walkBack_86 : decode cX0_walkBack 86 = .ok (.goto 42, 3) := by decide +kernel
theorem dX0_walkBack_89 : decode cX0_walkBack 89 = .ok (.aload_n 0, 1) := by decide +kernel
theorem dX0_walkBack_90 : decode cX0_walkBack 90 = .ok (.getfield 30, 3) := by decide +kernel
theorem dX0_walkBack_93 : decode cX0_walkBack 93 = .ok (.iload 5, 2) := by decide +kernel
theorem dX0_walkBack_95 : decode cX0_walkBack 95 = .ok (.iconst 1, 1) := by decide +kernel
theorem dX0_walkBack_96 : decode cX0_walkBack 96 = .ok (.isub, 1) := by decide +kernel
theorem dX0_walkBack_97 : decode cX0_walkBack 97 = .ok (.aaload, 1) := by decide +kernel
theorem dX0_walkBack_98 : decode cX0_walkBack 98 = .ok (.iload 6, 2) := by decide +kernel
theorem dX0_walkBack_100 : decode cX0_walkBack 100 = .ok (.iaload, 1) := by decide +kernel
theorem dX0_walkBack_101 : decode cX0_walkBack 101 = .ok (.aload_n 0, 1) := by decide +kernel
theorem dX0_walkBack_102 : decode cX0_walkBack 102 = .ok (.getfield 43, 3) := by decide +kernel
theorem dX0_walkBack_105 : decode cX0_walkBack 105 = .ok (.iadd, 1) := by decide +kernel
theorem dX0_walkBack_106 : decode cX0_walkBack 106 = .ok (.aload_n 0, 1) := by decide +kernel
theorem dX0_walkBack_107 : decode cX0_walkBack 107 = .ok (.getfield 30, 3) := by decide +kernel
theorem dX0_walkBack_110 : decode cX0_walkBack 110 = .ok (.iload 5, 2) := by decide +kernel
theorem dX0_walkBack_112 : decode cX0_walkBack 112 = .ok (.aaload, 1) := by decide +kernel
theorem dX0_walkBack_113 : decode cX0_walkBack 113 = .ok (.iload 6, 2) := by decide +kernel
theorem dX0_walkBack_115 : decode cX0_walkBack 115 = .ok (.iaload, 1) := by decide +kernel
theorem dX0_walkBack_116 : decode cX0_walkBack 116 = .ok (.if_icmp .ne 9, 3) := by decide +kernel
theorem dX0_walkBack_119 : decode cX0_walkBack 119 = .ok (.iinc 5 (-1), 3) := by decide +kernel
theorem dX0_walkBack_122 : decode cX0_walkBack 122 = .ok (.goto 6, 3) := by decide +kernel
theorem dX0_walkBack_125 : decode cX0_walkBack 125 = .ok (.iinc 6 (-1), 3) := by decide +kernel
theorem dX0_walkBack_128 : decode cX0_walkBack 128 = .ok (.iinc 7 1, 3) := by decide +kernel
theorem dX0_walkBack_131 : decode cX0_walkBack 131 = .ok (.goto (-122), 3) := by decide +kernel
theorem dX0_walkBack_134 : decode cX0_walkBack 134 = .ok (.return_, 1) := by decide +kernel
theorem dX0_addPair_0 : decode cX0_addPair 0 = .ok (.aload_n 0, 1) := by decide +kernel
theorem dX0_addPair_1 : decode cX0_addPair 1 = .ok (.getfield 101, 3) := by decide +kernel
theorem dX0_addPair_4 : decode cX0_addPair 4 = .ok (.bipush 30, 2) := by decide +kernel
theorem dX0_addPair_6 : decode cX0_addPair 6 = .ok (.if_icmp .ge 33, 3) := by decide +kernel
theorem dX0_addPair_9 : decode cX0_addPair 9 = .ok (.aload_n 0, 1) := by decide +kernel
theorem dX0_addPair_10 : decode cX0_addPair 10 = .ok (.getfield 21, 3) := by decide +kernel
theorem dX0_addPair_13 : decode cX0_addPair 13 = .ok (.aload_n 0, 1) := by decide +kernel
theorem dX0_addPair_14 : decode cX0_addPair 14 = .ok (.getfield 101, 3) := by decide +kernel
theorem dX0_addPair_17 : decode cX0_addPair 17 = .ok (.iload_n 1, 1) := by decide +kernel
theorem dX0_addPair_18 : decode cX0_addPair 18 = .ok (.iastore, 1) := by decide +kernel
theorem dX0_addPair_19 : decode cX0_addPair 19 = .ok (.aload_n 0, 1) := by decide +kernel
theorem dX0_addPair_20 : decode cX0_addPair 20 = .ok (.getfield 25, 3) := by decide +kernel
theorem dX0_addPair_23 : decode cX0_addPair 23 = .ok (.aload_n 0, 1) := by decide +kernel
theorem dX0_addPair_24 : decode cX0_addPair 24 = .ok (.getfield 101, 3) := by decide +kernel
theorem dX0_addPair_27 : decode cX0_addPair 27 = .ok (.iload_n 2, 1) := by decide +kernel
theorem dX0_addPair_28 : decode cX0_addPair 28 = .ok (.iastore, 1) := by decide +kernel
theorem dX0_addPair_29 : decode cX0_addPair 29 = .ok (.aload_n 0, 1) := by decide +kernel
theorem dX0_addPair_30 : decode cX0_addPair 30 = .ok (.dup, 1) := by decide +kernel
theorem dX0_addPair_31 : decode cX0_addPair 31 = .ok (.getfield 101, 3) := by decide +kernel
theorem dX0_addPair_34 : decode cX0_addPair 34 = .ok (.iconst 1, 1) := by decide +kernel
theorem dX0_addPair_35 : decode cX0_addPair 35 = .ok (.iadd, 1) := by decide +kernel
theorem dX0_addPair_36 : decode cX0_addPair 36 = .ok (.putfield 101, 3) := by decide +kernel
theorem dX0_addPair_39 : decode cX0_addPair 39 = .ok (.return_, 1) := by decide +kernel
theorem dX1_init_0 : decode cX1_init 0 = .ok (.aload_n 0, 1) := by decide +kernel
theorem dX1_init_1 : decode cX1_init 1 = .ok (.invokespecial 3, 3) := by decide +kernel
theorem dX1_init_4 : decode cX1_init 4 = .ok (.aload_n 0, 1) := by decide +kernel
theorem dX1_init_5 : decode cX1_init 5 = .ok (.bipush 31, 2) := by decide +kernel
theorem dX1_init_7 : decode cX1_init 7 = .ok (.newarray .int, 2) := by decide +kernel
theorem dX1_init_9 : decode cX1_init 9 = .ok (.putfield 9, 3) := by decide +kernel
theorem dX1_init_12 : decode cX1_init 12 = .ok (.aload_n 0, 1) := by decide +kernel
theorem dX1_init_13 : decode cX1_init 13 = .ok (.bipush 31, 2) := by decide +kernel
theorem dX1_init_15 : decode cX1_init 15 = .ok (.newarray .int, 2) := by decide +kernel
theorem dX1_init_17 : decode cX1_init 17 = .ok (.putfield 15, 3) := by decide +kernel
theorem dX1_init_20 : decode cX1_init 20 = .ok (.aload_n 0, 1) := by decide +kernel
theorem dX1_init_21 : decode cX1_init 21 = .ok (.bipush 31, 2) := by decide +kernel
theorem dX1_init_23 : decode cX1_init 23 = .ok (.newarray .boolean, 2) := by decide +kernel
theorem dX1_init_25 : decode cX1_init 25 = .ok (.putfield 18, 3) := by decide +kernel
theorem dX1_init_28 : decode cX1_init 28 = .ok (.return_, 1) := by decide +kernel
theorem dX1_arrange_0 : decode cX1_arrange 0 = .ok (.aload_n 0, 1) := by decide +kernel
theorem dX1_arrange_1 : decode cX1_arrange 1 = .ok (.aload_n 1, 1) := by decide +kernel
theorem dX1_arrange_2 : decode cX1_arrange 2 = .ok (.getfield 22, 3) := by decide +kernel
theorem dX1_arrange_5 : decode cX1_arrange 5 = .ok (.putfield 28, 3) := by decide +kernel
theorem dX1_arrange_8 : decode cX1_arrange 8 = .ok (.iconst 0, 1) := by decide +kernel
theorem dX1_arrange_9 : decode cX1_arrange 9 = .ok (.istore_n 2, 1) := by decide +kernel
theorem dX1_arrange_10 : decode cX1_arrange 10 = .ok (.iload_n 2, 1) := by decide +kernel
theorem dX1_arrange_11 : decode cX1_arrange 11 = .ok (.aload_n 0, 1) := by decide +kernel
theorem dX1_arrange_12 : decode cX1_arrange 12 = .ok (.getfield 28, 3) := by decide +kernel
theorem dX1_arrange_15 : decode cX1_arrange 15 = .ok (.if_icmp .ge 66, 3) := by decide +kernel
theorem dX1_arrange_18 : decode cX1_arrange 18 = .ok (.aload_n 1, 1) := by decide +kernel
theorem dX1_arrange_19 : decode cX1_arrange 19 = .ok (.iload_n 2, 1) := by decide +kernel
theorem dX1_arrange_20 : decode cX1_arrange 20 = .ok (.invokevirtual 29, 3) := by decide +kernel
theorem dX1_arrange_23 : decode cX1_arrange 23 = .ok (.iconst 1, 1) := by decide +kernel
theorem dX1_arrange_24 : decode cX1_arrange 24 = .ok (.iadd, 1) := by decide +kernel
theorem dX1_arrange_25 : decode cX1_arrange 25 = .ok (.istore_n 3, 1) := by decide +kernel
theorem dX1_arrange_26 : decode cX1_arrange 26 = .ok (.aload_n 0, 1) := by decide +kernel
theorem dX1_arrange_27 : decode cX1_arrange 27 = .ok (.getfield 9, 3) := by decide +kernel
theorem dX1_arrange_30 : decode cX1_arrange 30 = .ok (.iload_n 3, 1) := by decide +kernel
theorem dX1_arrange_31 : decode cX1_arrange 31 = .ok (.iload_n 2, 1) := by decide +kernel
theorem dX1_arrange_32 : decode cX1_arrange 32 = .ok (.iastore, 1) := by decide +kernel
theorem dX1_arrange_33 : decode cX1_arrange 33 = .ok (.aload_n 0, 1) := by decide +kernel
theorem dX1_arrange_34 : decode cX1_arrange 34 = .ok (.getfield 15, 3) := by decide +kernel
theorem dX1_arrange_37 : decode cX1_arrange 37 = .ok (.iload_n 3, 1) := by decide +kernel
theorem dX1_arrange_38 : decode cX1_arrange 38 = .ok (.iload_n 3, 1) := by decide +kernel
theorem dX1_arrange_39 : decode cX1_arrange 39 = .ok (.aload_n 1, 1) := by decide +kernel
theorem dX1_arrange_40 : decode cX1_arrange 40 = .ok (.getfield 33, 3) := by decide +kernel
theorem dX1_arrange_43 : decode cX1_arrange 43 = .ok (.iload_n 2, 1) := by decide +kernel
theorem dX1_arrange_44 : decode cX1_arrange 44 = .ok (.iaload, 1) := by decide +kernel
theorem dX1_arrange_45 : decode cX1_arrange 45 = .ok (.isub, 1) := by decide +kernel
theorem dX1_arrange_46 : decode cX1_arrange 46 = .ok (.iconst 1, 1) := by decide +kernel
theorem dX1_arrange_47 : decode cX1_arrange 47 = .ok (.iadd, 1) := by decide +kernel
theorem dX1_arrange_48 : decode cX1_arrange 48 = .ok (.iastore, 1) := by decide +kernel
theorem dX1_arrange_49 : decode cX1_arrange 49 = .ok (.aload_n 0, 1) := by decide +kernel
theorem dX1_arrange_50 : decode cX1_arrange 50 = .ok (.getfield 18, 3) := by decide +kernel
theorem dX1_arrange_53 : decode cX1_arrange 53 = .ok (.iload_n 3, 1) := by decide +kernel
theorem dX1_arrange_54 : decode cX1_arrange 54 = .ok (.iload_n 2, 1) := by decide +kernel
theorem dX1_arrange_55 : decode cX1_arrange 55 = .ok (.ifCond .eq 14, 3) := by decide +kernel
theorem dX1_arrange_58 : decode cX1_arrange 58 = .ok (.aload_n 1, 1) := by decide +kernel
theorem dX1_arrange_59 : decode cX1_arrange 59 = .ok (.iload_n 2, 1) := by decide +kernel
theorem dX1_arrange_60 : decode cX1_arrange 60 = .ok (.iload_n 2, 1) := by decide +kernel
theorem dX1_arrange_61 : decode cX1_arrange 61 = .ok (.iconst 1, 1) := by decide +kernel
theorem dX1_arrange_62 : decode cX1_arrange 62 = .ok (.isub, 1) := by decide +kernel
theorem dX1_arrange_63 : decode cX1_arrange 63 = .ok (.invokevirtual 36, 3) := by decide +kernel
theorem dX1_arrange_66 : decode cX1_arrange 66 = .ok (.ifCond .ne 7, 3) := by decide +kernel
theorem dX1_arrange_69 : decode cX1_arrange 69 = .ok (.iconst 1, 1) := by decide +kernel
theorem dX1_arrange_70 : decode cX1_arrange 70 = .ok (.goto 4, 3) := by decide +kernel
theorem dX1_arrange_73 : decode cX1_arrange 73 = .ok (.iconst 0, 1) := by decide +kernel
theorem dX1_arrange_74 : decode cX1_arrange 74 = .ok (.bastore, 1) := by decide +kernel
theorem dX1_arrange_75 : decode cX1_arrange 75 = .ok (.iinc 2 1, 3) := by decide +kernel
theorem dX1_arrange_78 : decode cX1_arrange 78 = .ok (.goto (-68), 3) := by decide +kernel
theorem dX1_arrange_81 : decode cX1_arrange 81 = .ok (.return_, 1) := by decide +kernel
theorem dX2_init_0 : decode cX2_init 0 = .ok (.aload_n 0, 1) := by decide +kernel
theorem dX2_init_1 : decode cX2_init 1 = .ok (.invokespecial 3, 3) := by decide +kernel
theorem dX2_init_4 : decode cX2_init 4 = .ok (.aload_n 0, 1) := by decide +kernel
theorem dX2_init_5 : decode cX2_init 5 = .ok (.bipush 30, 2) := by decide +kernel
theorem dX2_init_7 : decode cX2_init 7 = .ok (.newarray .int, 2) := by decide +kernel
theorem dX2_init_9 : decode cX2_init 9 = .ok (.putfield 9, 3) := by decide +kernel
theorem dX2_init_12 : decode cX2_init 12 = .ok (.aload_n 0, 1) := by decide +kernel
theorem dX2_init_13 : decode cX2_init 13 = .ok (.bipush 60, 2) := by decide +kernel
theorem dX2_init_15 : decode cX2_init 15 = .ok (.newarray .int, 2) := by decide +kernel
theorem dX2_init_17 : decode cX2_init 17 = .ok (.putfield 15, 3) := by decide +kernel
theorem dX2_init_20 : decode cX2_init 20 = .ok (.aload_n 0, 1) := by decide +kernel
theorem dX2_init_21 : decode cX2_init 21 = .ok (.bipush 60, 2) := by decide +kernel
theorem dX2_init_23 : decode cX2_init 23 = .ok (.newarray .long, 2) := by decide +kernel
theorem dX2_init_25 : decode cX2_init 25 = .ok (.putfield 18, 3) := by decide +kernel
theorem dX2_init_28 : decode cX2_init 28 = .ok (.aload_n 0, 1) := by decide +kernel
theorem dX2_init_29 : decode cX2_init 29 = .ok (.bipush 60, 2) := by decide +kernel
theorem dX2_init_31 : decode cX2_init 31 = .ok (.newarray .long, 2) := by decide +kernel
theorem dX2_init_33 : decode cX2_init 33 = .ok (.putfield 22, 3) := by decide +kernel
theorem dX2_init_36 : decode cX2_init 36 = .ok (.aload_n 0, 1) := by decide +kernel
theorem dX2_init_37 : decode cX2_init 37 = .ok (.bipush 60, 2) := by decide +kernel
theorem dX2_init_39 : decode cX2_init 39 = .ok (.newarray .int, 2) := by decide +kernel
theorem dX2_init_41 : decode cX2_init 41 = .ok (.putfield 25, 3) := by decide +kernel
theorem dX2_init_44 : decode cX2_init 44 = .ok (.aload_n 0, 1) := by decide +kernel
theorem dX2_init_45 : decode cX2_init 45 = .ok (.bipush 60, 2) := by decide +kernel
theorem dX2_init_47 : decode cX2_init 47 = .ok (.newarray .int, 2) := by decide +kernel
theorem dX2_init_49 : decode cX2_init 49 = .ok (.putfield 28, 3) := by decide +kernel
theorem dX2_init_52 : decode cX2_init 52 = .ok (.aload_n 0, 1) := by decide +kernel
theorem dX2_init_53 : decode cX2_init 53 = .ok (.bipush 60, 2) := by decide +kernel
theorem dX2_init_55 : decode cX2_init 55 = .ok (.newarray .int, 2) := by decide +kernel
theorem dX2_init_57 : decode cX2_init 57 = .ok (.putfield 31, 3) := by decide +kernel
theorem dX2_init_60 : decode cX2_init 60 = .ok (.return_, 1) := by decide +kernel
theorem dX2_forget_0 : decode cX2_forget 0 = .ok (.aload_n 0, 1) := by decide +kernel
theorem dX2_forget_1 : decode cX2_forget 1 = .ok (.iconst 0, 1) := by decide +kernel
theorem dX2_forget_2 : decode cX2_forget 2 = .ok (.putfield 34, 3) := by decide +kernel
theorem dX2_forget_5 : decode cX2_forget 5 = .ok (.aload_n 0, 1) := by decide +kernel
theorem dX2_forget_6 : decode cX2_forget 6 = .ok (.iconst 0, 1) := by decide +kernel
theorem dX2_forget_7 : decode cX2_forget 7 = .ok (.putfield 38, 3) := by decide +kernel
theorem dX2_forget_10 : decode cX2_forget 10 = .ok (.return_, 1) := by decide +kernel
theorem dX2_groupAll_0 : decode cX2_groupAll 0 = .ok (.aload_n 1, 1) := by decide +kernel
theorem dX2_groupAll_1 : decode cX2_groupAll 1 = .ok (.getfield 41, 3) := by decide +kernel
theorem dX2_groupAll_4 : decode cX2_groupAll 4 = .ok (.iconst 1, 1) := by decide +kernel
theorem dX2_groupAll_5 : decode cX2_groupAll 5 = .ok (.isub, 1) := by decide +kernel
theorem dX2_groupAll_6 : decode cX2_groupAll 6 = .ok (.istore_n 2, 1) := by decide +kernel
theorem dX2_groupAll_7 : decode cX2_groupAll 7 = .ok (.iload_n 2, 1) := by decide +kernel
theorem dX2_groupAll_8 : decode cX2_groupAll 8 = .ok (.ifCond .lt 21, 3) := by decide +kernel
theorem dX2_groupAll_11 : decode cX2_groupAll 11 = .ok (.aload_n 0, 1) := by decide +kernel
theorem dX2_groupAll_12 : decode cX2_groupAll 12 = .ok (.getfield 9, 3) := by decide +kernel
theorem dX2_groupAll_15 : decode cX2_groupAll 15 = .ok (.iload_n 2, 1) := by decide +kernel
theorem dX2_groupAll_16 : decode cX2_groupAll 16 = .ok (.aload_n 0, 1) := by decide +kernel
theorem dX2_groupAll_17 : decode cX2_groupAll 17 = .ok (.aload_n 1, 1) := by decide +kernel
theorem dX2_groupAll_18 : decode cX2_groupAll 18 = .ok (.iload_n 2, 1) := by decide +kernel
theorem dX2_groupAll_19 : decode cX2_groupAll 19 = .ok (.invokevirtual 46, 3) := by decide +kernel
theorem dX2_groupAll_22 : decode cX2_groupAll 22 = .ok (.iastore, 1) := by decide +kernel
theorem dX2_groupAll_23 : decode cX2_groupAll 23 = .ok (.iinc 2 (-1), 3) := by decide +kernel
theorem dX2_groupAll_26 : decode cX2_groupAll 26 = .ok (.goto (-19), 3) := by decide +kernel
theorem dX2_groupAll_29 : decode cX2_groupAll 29 = .ok (.return_, 1) := by decide +kernel
theorem dX2_groupFor_0 : decode cX2_groupFor 0 = .ok (.aload_n 0, 1) := by decide +kernel
theorem dX2_groupFor_1 : decode cX2_groupFor 1 = .ok (.aload_n 1, 1) := by decide +kernel
theorem dX2_groupFor_2 : decode cX2_groupFor 2 = .ok (.iload_n 2, 1) := by decide +kernel
theorem dX2_groupFor_3 : decode cX2_groupFor 3 = .ok (.invokevirtual 50, 3) := by decide +kernel
theorem dX2_groupFor_6 : decode cX2_groupFor 6 = .ok (.istore_n 3, 1) := by decide +kernel
theorem dX2_groupFor_7 : decode cX2_groupFor 7 = .ok (.iconst 0, 1) := by decide +kernel
theorem dX2_groupFor_8 : decode cX2_groupFor 8 = .ok (.istore 4, 2) := by decide +kernel
theorem dX2_groupFor_10 : decode cX2_groupFor 10 = .ok (.iload 4, 2) := by decide +kernel
theorem dX2_groupFor_12 : decode cX2_groupFor 12 = .ok (.aload_n 0, 1) := by decide +kernel
theorem dX2_groupFor_13 : decode cX2_groupFor 13 = .ok (.getfield 34, 3) := by decide +kernel
theorem dX2_groupFor_16 : decode cX2_groupFor 16 = .ok (.if_icmp .ge 24, 3) := by decide +kernel
theorem dX2_groupFor_19 : decode cX2_groupFor 19 = .ok (.aload_n 0, 1) := by decide +kernel
theorem dX2_groupFor_20 : decode cX2_groupFor 20 = .ok (.iload 4, 2) := by decide +kernel
theorem dX2_groupFor_22 : decode cX2_groupFor 22 = .ok (.aload_n 1, 1) := by decide +kernel
theorem dX2_groupFor_23 : decode cX2_groupFor 23 = .ok (.iload_n 2, 1) := by decide +kernel
theorem dX2_groupFor_24 : decode cX2_groupFor 24 = .ok (.iload_n 3, 1) := by decide +kernel
theorem dX2_groupFor_25 : decode cX2_groupFor 25 = .ok (.invokevirtual 53, 3) := by decide +kernel
theorem dX2_groupFor_28 : decode cX2_groupFor 28 = .ok (.ifCond .eq 6, 3) := by decide +kernel
theorem dX2_groupFor_31 : decode cX2_groupFor 31 = .ok (.iload 4, 2) := by decide +kernel
theorem dX2_groupFor_33 : decode cX2_groupFor 33 = .ok (.ireturn, 1) := by decide +kernel
theorem dX2_groupFor_34 : decode cX2_groupFor 34 = .ok (.iinc 4 1, 3) := by decide +kernel
theorem dX2_groupFor_37 : decode cX2_groupFor 37 = .ok (.goto (-27), 3) := by decide +kernel
theorem dX2_groupFor_40 : decode cX2_groupFor 40 = .ok (.aload_n 0, 1) := by decide +kernel
theorem dX2_groupFor_41 : decode cX2_groupFor 41 = .ok (.getfield 34, 3) := by decide +kernel
theorem dX2_groupFor_44 : decode cX2_groupFor 44 = .ok (.bipush 60, 2) := by decide +kernel
theorem dX2_groupFor_46 : decode cX2_groupFor 46 = .ok (.if_icmp .lt 5, 3) := by decide +kernel
theorem dX2_groupFor_49 : decode cX2_groupFor 49 = .ok (.iconst (-1), 1) := by decide +kernel
theorem dX2_groupFor_50 : decode cX2_groupFor 50 = .ok (.ireturn, 1) := by decide +kernel
theorem dX2_groupFor_51 : decode cX2_groupFor 51 = .ok (.aload_n 0, 1) := by decide +kernel
theorem dX2_groupFor_52 : decode cX2_groupFor 52 = .ok (.getfield 15, 3) := by decide +kernel
theorem dX2_groupFor_55 : decode cX2_groupFor 55 = .ok (.aload_n 0, 1) := by decide +kernel
theorem dX2_groupFor_56 : decode cX2_groupFor 56 = .ok (.getfield 34, 3) := by decide +kernel
theorem dX2_groupFor_59 : decode cX2_groupFor 59 = .ok (.aload_n 1, 1) := by decide +kernel
theorem dX2_groupFor_60 : decode cX2_groupFor 60 = .ok (.getfield 57, 3) := by decide +kernel
theorem dX2_groupFor_63 : decode cX2_groupFor 63 = .ok (.iload_n 2, 1) := by decide +kernel
theorem dX2_groupFor_64 : decode cX2_groupFor 64 = .ok (.iaload, 1) := by decide +kernel
theorem dX2_groupFor_65 : decode cX2_groupFor 65 = .ok (.iastore, 1) := by decide +kernel
theorem dX2_groupFor_66 : decode cX2_groupFor 66 = .ok (.aload_n 0, 1) := by decide +kernel
theorem dX2_groupFor_67 : decode cX2_groupFor 67 = .ok (.getfield 18, 3) := by decide +kernel
theorem dX2_groupFor_70 : decode cX2_groupFor 70 = .ok (.aload_n 0, 1) := by decide +kernel
theorem dX2_groupFor_71 : decode cX2_groupFor 71 = .ok (.getfield 34, 3) := by decide +kernel
theorem dX2_groupFor_74 : decode cX2_groupFor 74 = .ok (.aload_n 1, 1) := by decide +kernel
theorem dX2_groupFor_75 : decode cX2_groupFor 75 = .ok (.getfield 58, 3) := by decide +kernel
theorem dX2_groupFor_78 : decode cX2_groupFor 78 = .ok (.iload_n 2, 1) := by decide +kernel
theorem dX2_groupFor_79 : decode cX2_groupFor 79 = .ok (.laload, 1) := by decide +kernel
theorem dX2_groupFor_80 : decode cX2_groupFor 80 = .ok (.lastore, 1) := by decide +kernel
theorem dX2_groupFor_81 : decode cX2_groupFor 81 = .ok (.aload_n 0, 1) := by decide +kernel
theorem dX2_groupFor_82 : decode cX2_groupFor 82 = .ok (.getfield 22, 3) := by decide +kernel
theorem dX2_groupFor_85 : decode cX2_groupFor 85 = .ok (.aload_n 0, 1) := by decide +kernel
theorem dX2_groupFor_86 : decode cX2_groupFor 86 = .ok (.getfield 34, 3) := by decide +kernel
theorem dX2_groupFor_89 : decode cX2_groupFor 89 = .ok (.aload_n 1, 1) := by decide +kernel
theorem dX2_groupFor_90 : decode cX2_groupFor 90 = .ok (.getfield 59, 3) := by decide +kernel
theorem dX2_groupFor_93 : decode cX2_groupFor 93 = .ok (.iload_n 2, 1) := by decide +kernel
theorem dX2_groupFor_94 : decode cX2_groupFor 94 = .ok (.laload, 1) := by decide +kernel
theorem dX2_groupFor_95 : decode cX2_groupFor 95 = .ok (.lastore, 1) := by decide +kernel
theorem dX2_groupFor_96 : decode cX2_groupFor 96 = .ok (.aload_n 0, 1) := by decide +kernel
theorem dX2_groupFor_97 : decode cX2_groupFor 97 = .ok (.getfield 25, 3) := by decide +kernel
theorem dX2_groupFor_100 : decode cX2_groupFor 100 = .ok (.aload_n 0, 1) := by decide +kernel
theorem dX2_groupFor_101 : decode cX2_groupFor 101 = .ok (.getfield 34, 3) := by decide +kernel
theorem dX2_groupFor_104 : decode cX2_groupFor 104 = .ok (.aload_n 0, 1) := by decide +kernel
theorem dX2_groupFor_105 : decode cX2_groupFor 105 = .ok (.getfield 38, 3) := by decide +kernel
theorem dX2_groupFor_108 : decode cX2_groupFor 108 = .ok (.iastore, 1) := by decide +kernel
theorem dX2_groupFor_109 : decode cX2_groupFor 109 = .ok (.aload_n 0, 1) := by decide +kernel
theorem dX2_groupFor_110 : decode cX2_groupFor 110 = .ok (.getfield 28, 3) := by decide +kernel
theorem dX2_groupFor_113 : decode cX2_groupFor 113 = .ok (.aload_n 0, 1) := by decide +kernel
theorem dX2_groupFor_114 : decode cX2_groupFor 114 = .ok (.getfield 34, 3) := by decide +kernel
theorem dX2_groupFor_117 : decode cX2_groupFor 117 = .ok (.iload_n 3, 1) := by decide +kernel
theorem dX2_groupFor_118 : decode cX2_groupFor 118 = .ok (.iastore, 1) := by decide +kernel
theorem dX2_groupFor_119 : decode cX2_groupFor 119 = .ok (.aload_n 0, 1) := by decide +kernel
theorem dX2_groupFor_120 : decode cX2_groupFor 120 = .ok (.dup, 1) := by decide +kernel
theorem dX2_groupFor_121 : decode cX2_groupFor 121 = .ok (.getfield 38, 3) := by decide +kernel
theorem dX2_groupFor_124 : decode cX2_groupFor 124 = .ok (.iload_n 3, 1) := by decide +kernel
theorem dX2_groupFor_125 : decode cX2_groupFor 125 = .ok (.iadd, 1) := by decide +kernel
theorem dX2_groupFor_126 : decode cX2_groupFor 126 = .ok (.putfield 38, 3) := by decide +kernel
theorem dX2_groupFor_129 : decode cX2_groupFor 129 = .ok (.aload_n 0, 1) := by decide +kernel
theorem dX2_groupFor_130 : decode cX2_groupFor 130 = .ok (.dup, 1) := by decide +kernel
theorem dX2_groupFor_131 : decode cX2_groupFor 131 = .ok (.getfield 34, 3) := by decide +kernel
theorem dX2_groupFor_134 : decode cX2_groupFor 134 = .ok (.iconst 1, 1) := by decide +kernel
theorem dX2_groupFor_135 : decode cX2_groupFor 135 = .ok (.iadd, 1) := by decide +kernel
theorem dX2_groupFor_136 : decode cX2_groupFor 136 = .ok (.putfield 34, 3) := by decide +kernel
theorem dX2_groupFor_139 : decode cX2_groupFor 139 = .ok (.aload_n 0, 1) := by decide +kernel
theorem dX2_groupFor_140 : decode cX2_groupFor 140 = .ok (.getfield 34, 3) := by decide +kernel
theorem dX2_groupFor_143 : decode cX2_groupFor 143 = .ok (.iconst 1, 1) := by decide +kernel
theorem dX2_groupFor_144 : decode cX2_groupFor 144 = .ok (.isub, 1) := by decide +kernel
theorem dX2_groupFor_145 : decode cX2_groupFor 145 = .ok (.ireturn, 1) := by decide +kernel
theorem dX2_gatherKids_0 : decode cX2_gatherKids 0 = .ok (.iconst 0, 1) := by decide +kernel
theorem dX2_gatherKids_1 : decode cX2_gatherKids 1 = .ok (.istore_n 3, 1) := by decide +kernel
theorem dX2_gatherKids_2 : decode cX2_gatherKids 2 = .ok (.iload_n 2, 1) := by decide +kernel
theorem dX2_gatherKids_3 : decode cX2_gatherKids 3 = .ok (.iconst 1, 1) := by decide +kernel
theorem dX2_gatherKids_4 : decode cX2_gatherKids 4 = .ok (.iadd, 1) := by decide +kernel
theorem dX2_gatherKids_5 : decode cX2_gatherKids 5 = .ok (.istore 4, 2) := by decide +kernel
theorem dX2_gatherKids_7 : decode cX2_gatherKids 7 = .ok (.iload 4, 2) := by decide +kernel
theorem dX2_gatherKids_9 : decode cX2_gatherKids 9 = .ok (.aload_n 1, 1) := by decide +kernel
theorem dX2_gatherKids_10 : decode cX2_gatherKids 10 = .ok (.iload_n 2, 1) := by decide +kernel
theorem dX2_gatherKids_11 : decode cX2_gatherKids 11 = .ok (.invokevirtual 60, 3) := by decide +kernel
theorem dX2_gatherKids_14 : decode cX2_gatherKids 14 = .ok (.if_icmp .ge 65, 3) := by decide +kernel
theorem dX2_gatherKids_17 : decode cX2_gatherKids 17 = .ok (.aload_n 1, 1) := by decide +kernel
theorem dX2_gatherKids_18 : decode cX2_gatherKids 18 = .ok (.iload 4, 2) := by decide +kernel
theorem dX2_gatherKids_20 : decode cX2_gatherKids 20 = .ok (.iload_n 2, 1) := by decide +kernel
theorem dX2_gatherKids_21 : decode cX2_gatherKids 21 = .ok (.invokevirtual 64, 3) := by decide +kernel
theorem dX2_gatherKids_24 : decode cX2_gatherKids 24 = .ok (.ifCond .eq 49, 3) := by decide +kernel
theorem dX2_gatherKids_27 : decode cX2_gatherKids 27 = .ok (.aload_n 0, 1) := by decide +kernel
theorem dX2_gatherKids_28 : decode cX2_gatherKids 28 = .ok (.getfield 38, 3) := by decide +kernel
theorem dX2_gatherKids_31 : decode cX2_gatherKids 31 = .ok (.iload_n 3, 1) := by decide +kernel
theorem dX2_gatherKids_32 : decode cX2_gatherKids 32 = .ok (.iadd, 1) := by decide +kernel
theorem dX2_gatherKids_33 : decode cX2_gatherKids 33 = .ok (.bipush 60, 2) := by decide +kernel
theorem dX2_gatherKids_35 : decode cX2_gatherKids 35 = .ok (.if_icmp .ge 38, 3) := by decide +kernel
theorem dX2_gatherKids_38 : decode cX2_gatherKids 38 = .ok (.aload_n 0, 1) := by decide +kernel
theorem dX2_gatherKids_39 : decode cX2_gatherKids 39 = .ok (.getfield 31, 3) := by decide +kernel
theorem dX2_gatherKids_42 : decode cX2_gatherKids 42 = .ok (.aload_n 0, 1) := by decide +kernel
theorem dX2_gatherKids_43 : decode cX2_gatherKids 43 = .ok (.getfield 38, 3) := by decide +kernel
theorem dX2_gatherKids_46 : decode cX2_gatherKids 46 = .ok (.iload_n 3, 1) := by decide +kernel
theorem dX2_gatherKids_47 : decode cX2_gatherKids 47 = .ok (.iadd, 1) := by decide +kernel
theorem dX2_gatherKids_48 : decode cX2_gatherKids 48 = .ok (.aload_n 0, 1) := by decide +kernel
theorem dX2_gatherKids_49 : decode cX2_gatherKids 49 = .ok (.getfield 9, 3) := by decide +kernel
theorem dX2_gatherKids_52 : decode cX2_gatherKids 52 = .ok (.iload 4, 2) := by decide +kernel
theorem dX2_gatherKids_54 : decode cX2_gatherKids 54 = .ok (.iaload, 1) := by decide +kernel
theorem dX2_gatherKids_55 : decode cX2_gatherKids 55 = .ok (.iastore, 1) := by decide +kernel
theorem dX2_gatherKids_56 : decode cX2_gatherKids 56 = .ok (.iinc 3 1, 3) := by decide +kernel
theorem dX2_gatherKids_59 : decode cX2_gatherKids 59 = .ok (.aload_n 1, 1) := by decide +kernel
theorem dX2_gatherKids_60 : decode cX2_gatherKids 60 = .ok (.getfield 57, 3) := by decide +kernel
theorem dX2_gatherKids_63 : decode cX2_gatherKids 63 = .ok (.iload_n 2, 1) := by decide +kernel
theorem dX2_gatherKids_64 : decode cX2_gatherKids 64 = .ok (.iaload, 1) := by decide +kernel
theorem dX2_gatherKids_65 : decode cX2_gatherKids 65 = .ok (.ifCond .eq 8, 3) := by decide +kernel
theorem dX2_gatherKids_68 : decode cX2_gatherKids 68 = .ok (.aload_n 0, 1) := by decide +kernel
theorem dX2_gatherKids_69 : decode cX2_gatherKids 69 = .ok (.iload_n 3, 1) := by decide +kernel
theorem dX2_gatherKids_70 : decode cX2_gatherKids 70 = .ok (.invokevirtual 68, 3) := by decide +kernel
theorem dX2_gatherKids_73 : decode cX2_gatherKids 73 = .ok (.iinc 4 1, 3) := by decide +kernel
theorem dX2_gatherKids_76 : decode cX2_gatherKids 76 = .ok (.goto (-69), 3) := by decide +kernel
theorem dX2_gatherKids_79 : decode cX2_gatherKids 79 = .ok (.iload_n 3, 1) := by decide +kernel
theorem dX2_gatherKids_80 : decode cX2_gatherKids 80 = .ok (.ireturn, 1) := by decide +kernel
theorem dX2_sinkLastKid_0 : decode cX2_sinkLastKid 0 = .ok (.aload_n 0, 1) := by decide +kernel
theorem dX2_sinkLastKid_1 : decode cX2_sinkLastKid 1 = .ok (.getfield 38, 3) := by decide +kernel
theorem dX2_sinkLastKid_4 : decode cX2_sinkLastKid 4 = .ok (.iload_n 1, 1) := by decide +kernel
theorem dX2_sinkLastKid_5 : decode cX2_sinkLastKid 5 = .ok (.iadd, 1) := by decide +kernel
theorem dX2_sinkLastKid_6 : decode cX2_sinkLastKid 6 = .ok (.iconst 1, 1) := by decide +kernel
theorem dX2_sinkLastKid_7 : decode cX2_sinkLastKid 7 = .ok (.isub, 1) := by decide +kernel
theorem dX2_sinkLastKid_8 : decode cX2_sinkLastKid 8 = .ok (.istore_n 2, 1) := by decide +kernel
theorem dX2_sinkLastKid_9 : decode cX2_sinkLastKid 9 = .ok (.iload_n 2, 1) := by decide +kernel
theorem dX2_sinkLastKid_10 : decode cX2_sinkLastKid 10 = .ok (.aload_n 0, 1) := by decide +kernel
theorem dX2_sinkLastKid_11 : decode cX2_sinkLastKid 11 = .ok (.getfield 38, 3) := by decide +kernel
theorem dX2_sinkLastKid_14 : decode cX2_sinkLastKid 14 = .ok (.if_icmp .le 56, 3) := by decide +kernel
theorem dX2_sinkLastKid_17 : decode cX2_sinkLastKid 17 = .ok (.aload_n 0, 1) := by decide +kernel
theorem dX2_sinkLastKid_18 : decode cX2_sinkLastKid 18 = .ok (.getfield 31, 3) := by decide +kernel
theorem dX2_sinkLastKid_21 : decode cX2_sinkLastKid 21 = .ok (.iload_n 2, 1) := by decide +kernel
theorem dX2_sinkLastKid_22 : decode cX2_sinkLastKid 22 = .ok (.iconst 1, 1) := by decide +kernel
theorem dX2_sinkLastKid_23 : decode cX2_sinkLastKid 23 = .ok (.isub, 1) := by decide +kernel
theorem dX2_sinkLastKid_24 : decode cX2_sinkLastKid 24 = .ok (.iaload, 1) := by decide +kernel
theorem dX2_sinkLastKid_25 : decode cX2_sinkLastKid 25 = .ok (.aload_n 0, 1) := by decide +kernel
theorem dX2_sinkLastKid_26 : decode cX2_sinkLastKid 26 = .ok (.getfield 31, 3) := by decide +kernel
theorem dX2_sinkLastKid_29 : decode cX2_sinkLastKid 29 = .ok (.iload_n 2, 1) := by decide +kernel
theorem dX2_sinkLastKid_30 : decode cX2_sinkLastKid 30 = .ok (.iaload, 1) := by decide +kernel
theorem dX2_sinkLastKid_31 : decode cX2_sinkLastKid 31 = .ok (.if_icmp .le 39, 3) := by decide +kernel
theorem dX2_sinkLastKid_34 : decode cX2_sinkLastKid 34 = .ok (.aload_n 0, 1) := by decide +kernel
theorem dX2_sinkLastKid_35 : decode cX2_sinkLastKid 35 = .ok (.getfield 31, 3) := by decide +kernel
theorem dX2_sinkLastKid_38 : decode cX2_sinkLastKid 38 = .ok (.iload_n 2, 1) := by decide +kernel
theorem dX2_sinkLastKid_39 : decode cX2_sinkLastKid 39 = .ok (.iconst 1, 1) := by decide +kernel
theorem dX2_sinkLastKid_40 : decode cX2_sinkLastKid 40 = .ok (.isub, 1) := by decide +kernel
theorem dX2_sinkLastKid_41 : decode cX2_sinkLastKid 41 = .ok (.iaload, 1) := by decide +kernel
theorem dX2_sinkLastKid_42 : decode cX2_sinkLastKid 42 = .ok (.istore_n 3, 1) := by decide +kernel
theorem dX2_sinkLastKid_43 : decode cX2_sinkLastKid 43 = .ok (.aload_n 0, 1) := by decide +kernel
theorem dX2_sinkLastKid_44 : decode cX2_sinkLastKid 44 = .ok (.getfield 31, 3) := by decide +kernel
theorem dX2_sinkLastKid_47 : decode cX2_sinkLastKid 47 = .ok (.iload_n 2, 1) := by decide +kernel
theorem dX2_sinkLastKid_48 : decode cX2_sinkLastKid 48 = .ok (.iconst 1, 1) := by decide +kernel
theorem dX2_sinkLastKid_49 : decode cX2_sinkLastKid 49 = .ok (.isub, 1) := by decide +kernel
theorem dX2_sinkLastKid_50 : decode cX2_sinkLastKid 50 = .ok (.aload_n 0, 1) := by decide +kernel
theorem dX2_sinkLastKid_51 : decode cX2_sinkLastKid 51 = .ok (.getfield 31, 3) := by decide +kernel
theorem dX2_sinkLastKid_54 : decode cX2_sinkLastKid 54 = .ok (.iload_n 2, 1) := by decide +kernel
theorem dX2_sinkLastKid_55 : decode cX2_sinkLastKid 55 = .ok (.iaload, 1) := by decide +kernel
theorem dX2_sinkLastKid_56 : decode cX2_sinkLastKid 56 = .ok (.iastore, 1) := by decide +kernel
theorem dX2_sinkLastKid_57 : decode cX2_sinkLastKid 57 = .ok (.aload_n 0, 1) := by decide +kernel
theorem dX2_sinkLastKid_58 : decode cX2_sinkLastKid 58 = .ok (.getfield 31, 3) := by decide +kernel
theorem dX2_sinkLastKid_61 : decode cX2_sinkLastKid 61 = .ok (.iload_n 2, 1) := by decide +kernel
theorem dX2_sinkLastKid_62 : decode cX2_sinkLastKid 62 = .ok (.iload_n 3, 1) := by decide +kernel
theorem dX2_sinkLastKid_63 : decode cX2_sinkLastKid 63 = .ok (.iastore, 1) := by decide +kernel
theorem dX2_sinkLastKid_64 : decode cX2_sinkLastKid 64 = .ok (.iinc 2 (-1), 3) := by decide +kernel
theorem dX2_sinkLastKid_67 : decode cX2_sinkLastKid 67 = .ok (.goto (-58), 3) := by decide +kernel
theorem dX2_sinkLastKid_70 : decode cX2_sinkLastKid 70 = .ok (.return_, 1) := by decide +kernel
theorem dX2_isOf_0 : decode cX2_isOf 0 = .ok (.aload_n 0, 1) := by decide +kernel
theorem dX2_isOf_1 : decode cX2_isOf 1 = .ok (.getfield 15, 3) := by decide +kernel
theorem dX2_isOf_4 : decode cX2_isOf 4 = .ok (.iload_n 1, 1) := by decide +kernel
theorem dX2_isOf_5 : decode cX2_isOf 5 = .ok (.iaload, 1) := by decide +kernel
theorem dX2_isOf_6 : decode cX2_isOf 6 = .ok (.aload_n 2, 1) := by decide +kernel
theorem dX2_isOf_7 : decode cX2_isOf 7 = .ok (.getfield 57, 3) := by decide +kernel
theorem dX2_isOf_10 : decode cX2_isOf 10 = .ok (.iload_n 3, 1) := by decide +kernel
theorem dX2_isOf_11 : decode cX2_isOf 11 = .ok (.iaload, 1) := by decide +kernel
theorem dX2_isOf_12 : decode cX2_isOf 12 = .ok (.if_icmp .ne 19, 3) := by decide +kernel
theorem dX2_isOf_15 : decode cX2_isOf 15 = .ok (.aload_n 0, 1) := by decide +kernel
theorem dX2_isOf_16 : decode cX2_isOf 16 = .ok (.getfield 18, 3) := by decide +kernel
theorem dX2_isOf_19 : decode cX2_isOf 19 = .ok (.iload_n 1, 1) := by decide +kernel
theorem dX2_isOf_20 : decode cX2_isOf 20 = .ok (.laload, 1) := by decide +kernel
theorem dX2_isOf_21 : decode cX2_isOf 21 = .ok (.aload_n 2, 1) := by decide +kernel
theorem dX2_isOf_22 : decode cX2_isOf 22 = .ok (.getfield 58, 3) := by decide +kernel
theorem dX2_isOf_25 : decode cX2_isOf 25 = .ok (.iload_n 3, 1) := by decide +kernel
theorem dX2_isOf_26 : decode cX2_isOf 26 = .ok (.laload, 1) := by decide +kernel
theorem dX2_isOf_27 : decode cX2_isOf 27 = .ok (.lcmp, 1) := by decide +kernel
theorem dX2_isOf_28 : decode cX2_isOf 28 = .ok (.ifCond .eq 5, 3) := by decide +kernel
theorem dX2_isOf_31 : decode cX2_isOf 31 = .ok (.iconst 0, 1) := by decide +kernel
theorem dX2_isOf_32 : decode cX2_isOf 32 = .ok (.ireturn, 1) := by decide +kernel
theorem dX2_isOf_33 : decode cX2_isOf 33 = .ok (.aload_n 0, 1) := by decide +kernel
theorem dX2_isOf_34 : decode cX2_isOf 34 = .ok (.getfield 22, 3) := by decide +kernel
theorem dX2_isOf_37 : decode cX2_isOf 37 = .ok (.iload_n 1, 1) := by decide +kernel
theorem dX2_isOf_38 : decode cX2_isOf 38 = .ok (.laload, 1) := by decide +kernel
theorem dX2_isOf_39 : decode cX2_isOf 39 = .ok (.aload_n 2, 1) := by decide +kernel
theorem dX2_isOf_40 : decode cX2_isOf 40 = .ok (.getfield 59, 3) := by decide +kernel
theorem dX2_isOf_43 : decode cX2_isOf 43 = .ok (.iload_n 3, 1) := by decide +kernel
theorem dX2_isOf_44 : decode cX2_isOf 44 = .ok (.laload, 1) := by decide +kernel
theorem dX2_isOf_45 : decode cX2_isOf 45 = .ok (.lcmp, 1) := by decide +kernel
theorem dX2_isOf_46 : decode cX2_isOf 46 = .ok (.ifCond .ne 14, 3) := by decide +kernel
theorem dX2_isOf_49 : decode cX2_isOf 49 = .ok (.aload_n 0, 1) := by decide +kernel
theorem dX2_isOf_50 : decode cX2_isOf 50 = .ok (.getfield 28, 3) := by decide +kernel
theorem dX2_isOf_53 : decode cX2_isOf 53 = .ok (.iload_n 1, 1) := by decide +kernel
theorem dX2_isOf_54 : decode cX2_isOf 54 = .ok (.iaload, 1) := by decide +kernel
theorem dX2_isOf_55 : decode cX2_isOf 55 = .ok (.iload 4, 2) := by decide +kernel
theorem dX2_isOf_57 : decode cX2_isOf 57 = .ok (.if_icmp .eq 5, 3) := by decide +kernel
theorem dX2_isOf_60 : decode cX2_isOf 60 = .ok (.iconst 0, 1) := by decide +kernel
theorem dX2_isOf_61 : decode cX2_isOf 61 = .ok (.ireturn, 1) := by decide +kernel
theorem dX2_isOf_62 : decode cX2_isOf 62 = .ok (.iconst 0, 1) := by decide +kernel
theorem dX2_isOf_63 : decode cX2_isOf 63 = .ok (.istore 5, 2) := by decide +kernel
theorem dX2_isOf_65 : decode cX2_isOf 65 = .ok (.iload 5, 2) := by decide +kernel
theorem dX2_isOf_67 : decode cX2_isOf 67 = .ok (.iload 4, 2) := by decide +kernel
theorem dX2_isOf_69 : decode cX2_isOf 69 = .ok (.if_icmp .ge 40, 3) := by decide +kernel
theorem dX2_isOf_72 : decode cX2_isOf 72 = .ok (.aload_n 0, 1) := by decide +kernel
theorem dX2_isOf_73 : decode cX2_isOf 73 = .ok (.getfield 31, 3) := by decide +kernel
theorem dX2_isOf_76 : decode cX2_isOf 76 = .ok (.aload_n 0, 1) := by decide +kernel
theorem dX2_isOf_77 : decode cX2_isOf 77 = .ok (.getfield 25, 3) := by decide +kernel
theorem dX2_isOf_80 : decode cX2_isOf 80 = .ok (.iload_n 1, 1) := by decide +kernel
theorem dX2_isOf_81 : decode cX2_isOf 81 = .ok (.iaload, 1) := by decide +kernel
theorem dX2_isOf_82 : decode cX2_isOf 82 = .ok (.iload 5, 2) := by decide +kernel
theorem dX2_isOf_84 : decode cX2_isOf 84 = .ok (.iadd, 1) := by decide +kernel
theorem dX2_isOf_85 : decode cX2_isOf 85 = .ok (.iaload, 1) := by decide +kernel
theorem dX2_isOf_86 : decode cX2_isOf 86 = .ok (.aload_n 0, 1) := by decide +kernel
theorem dX2_isOf_87 : decode cX2_isOf 87 = .ok (.getfield 31, 3) := by decide +kernel
theorem dX2_isOf_90 : decode cX2_isOf 90 = .ok (.aload_n 0, 1) := by decide +kernel
theorem dX2_isOf_91 : decode cX2_isOf 91 = .ok (.getfield 38, 3) := by decide +kernel
theorem dX2_isOf_94 : decode cX2_isOf 94 = .ok (.iload 5, 2) := by decide +kernel
theorem dX2_isOf_96 : decode cX2_isOf 96 = .ok (.iadd, 1) := by decide +kernel
theorem dX2_isOf_97 : decode cX2_isOf 97 = .ok (.iaload, 1) := by decide +kernel
theorem dX2_isOf_98 : decode cX2_isOf 98 = .ok (.if_icmp .eq 5, 3) := by decide +kernel
theorem dX2_isOf_101 : decode cX2_isOf 101 = .ok (.iconst 0, 1) := by decide +kernel
theorem dX2_isOf_102 : decode cX2_isOf 102 = .ok (.ireturn, 1) := by decide +kernel
theorem dX2_isOf_103 : decode cX2_isOf 103 = .ok (.iinc 5 1, 3) := by decide +kernel
theorem dX2_isOf_106 : decode cX2_isOf 106 = .ok (.goto (-41), 3) := by decide +kernel
theorem dX2_isOf_109 : decode cX2_isOf 109 = .ok (.iconst 1, 1) := by decide +kernel
theorem dX2_isOf_110 : decode cX2_isOf 110 = .ok (.ireturn, 1) := by decide +kernel
theorem dX3_init_0 : decode cX3_init 0 = .ok (.aload_n 0, 1) := by decide +kernel
theorem dX3_init_1 : decode cX3_init 1 = .ok (.invokespecial 3, 3) := by decide +kernel
theorem dX3_init_4 : decode cX3_init 4 = .ok (.aload_n 0, 1) := by decide +kernel
theorem dX3_init_5 : decode cX3_init 5 = .ok (.bipush 30, 2) := by decide +kernel
theorem dX3_init_7 : decode cX3_init 7 = .ok (.newarray .int, 2) := by decide +kernel
theorem dX3_init_9 : decode cX3_init 9 = .ok (.putfield 9, 3) := by decide +kernel
theorem dX3_init_12 : decode cX3_init 12 = .ok (.aload_n 0, 1) := by decide +kernel
theorem dX3_init_13 : decode cX3_init 13 = .ok (.bipush 30, 2) := by decide +kernel
theorem dX3_init_15 : decode cX3_init 15 = .ok (.newarray .int, 2) := by decide +kernel
theorem dX3_init_17 : decode cX3_init 17 = .ok (.putfield 15, 3) := by decide +kernel
theorem dX3_init_20 : decode cX3_init 20 = .ok (.aload_n 0, 1) := by decide +kernel
theorem dX3_init_21 : decode cX3_init 21 = .ok (.bipush 60, 2) := by decide +kernel
theorem dX3_init_23 : decode cX3_init 23 = .ok (.newarray .int, 2) := by decide +kernel
theorem dX3_init_25 : decode cX3_init 25 = .ok (.putfield 18, 3) := by decide +kernel
theorem dX3_init_28 : decode cX3_init 28 = .ok (.aload_n 0, 1) := by decide +kernel
theorem dX3_init_29 : decode cX3_init 29 = .ok (.bipush 60, 2) := by decide +kernel
theorem dX3_init_31 : decode cX3_init 31 = .ok (.newarray .int, 2) := by decide +kernel
theorem dX3_init_33 : decode cX3_init 33 = .ok (.putfield 21, 3) := by decide +kernel
theorem dX3_init_36 : decode cX3_init 36 = .ok (.aload_n 0, 1) := by decide +kernel
theorem dX3_init_37 : decode cX3_init 37 = .ok (.bipush 60, 2) := by decide +kernel
theorem dX3_init_39 : decode cX3_init 39 = .ok (.newarray .int, 2) := by decide +kernel
theorem dX3_init_41 : decode cX3_init 41 = .ok (.putfield 24, 3) := by decide +kernel
theorem dX3_init_44 : decode cX3_init 44 = .ok (.aload_n 0, 1) := by decide +kernel
theorem dX3_init_45 : decode cX3_init 45 = .ok (.bipush 30, 2) := by decide +kernel
theorem dX3_init_47 : decode cX3_init 47 = .ok (.newarray .int, 2) := by decide +kernel
theorem dX3_init_49 : decode cX3_init 49 = .ok (.putfield 27, 3) := by decide +kernel
theorem dX3_init_52 : decode cX3_init 52 = .ok (.aload_n 0, 1) := by decide +kernel
theorem dX3_init_53 : decode cX3_init 53 = .ok (.bipush 30, 2) := by decide +kernel
theorem dX3_init_55 : decode cX3_init 55 = .ok (.newarray .boolean, 2) := by decide +kernel
theorem dX3_init_57 : decode cX3_init 57 = .ok (.putfield 30, 3) := by decide +kernel
theorem dX3_init_60 : decode cX3_init 60 = .ok (.return_, 1) := by decide +kernel
theorem dX3_plan_0 : decode cX3_plan 0 = .ok (.aload_n 0, 1) := by decide +kernel
theorem dX3_plan_1 : decode cX3_plan 1 = .ok (.aload_n 1, 1) := by decide +kernel
theorem dX3_plan_2 : decode cX3_plan 2 = .ok (.getfield 34, 3) := by decide +kernel
theorem dX3_plan_5 : decode cX3_plan 5 = .ok (.aload_n 2, 1) := by decide +kernel
theorem dX3_plan_6 : decode cX3_plan 6 = .ok (.getfield 34, 3) := by decide +kernel
theorem dX3_plan_9 : decode cX3_plan 9 = .ok (.iadd, 1) := by decide +kernel
theorem dX3_plan_10 : decode cX3_plan 10 = .ok (.putfield 40, 3) := by decide +kernel
theorem dX3_plan_13 : decode cX3_plan 13 = .ok (.aload_n 0, 1) := by decide +kernel
theorem dX3_plan_14 : decode cX3_plan 14 = .ok (.iconst 0, 1) := by decide +kernel
theorem dX3_plan_15 : decode cX3_plan 15 = .ok (.putfield 43, 3) := by decide +kernel
theorem dX3_plan_18 : decode cX3_plan 18 = .ok (.aload_n 0, 1) := by decide +kernel
theorem dX3_plan_19 : decode cX3_plan 19 = .ok (.iconst 0, 1) := by decide +kernel
theorem dX3_plan_20 : decode cX3_plan 20 = .ok (.putfield 46, 3) := by decide +kernel
theorem dX3_plan_23 : decode cX3_plan 23 = .ok (.aload_n 0, 1) := by decide +kernel
theorem dX3_plan_24 : decode cX3_plan 24 = .ok (.aload_n 3, 1) := by decide +kernel
theorem dX3_plan_25 : decode cX3_plan 25 = .ok (.invokevirtual 49, 3) := by decide +kernel
theorem dX3_plan_28 : decode cX3_plan 28 = .ok (.aload_n 0, 1) := by decide +kernel
theorem dX3_plan_29 : decode cX3_plan 29 = .ok (.aload_n 1, 1) := by decide +kernel
theorem dX3_plan_30 : decode cX3_plan 30 = .ok (.aload 4, 2) := by decide +kernel
theorem dX3_plan_32 : decode cX3_plan 32 = .ok (.iconst 3, 1) := by decide +kernel
theorem dX3_plan_33 : decode cX3_plan 33 = .ok (.iaload, 1) := by decide +kernel
theorem dX3_plan_34 : decode cX3_plan 34 = .ok (.invokevirtual 53, 3) := by decide +kernel
theorem dX3_plan_37 : decode cX3_plan 37 = .ok (.aload_n 0, 1) := by decide +kernel
theorem dX3_plan_38 : decode cX3_plan 38 = .ok (.aload_n 1, 1) := by decide +kernel
theorem dX3_plan_39 : decode cX3_plan 39 = .ok (.aload_n 2, 1) := by decide +kernel
theorem dX3_plan_40 : decode cX3_plan 40 = .ok (.aload 4, 2) := by decide +kernel
theorem dX3_plan_42 : decode cX3_plan 42 = .ok (.invokevirtual 57, 3) := by decide +kernel
theorem dX3_plan_45 : decode cX3_plan 45 = .ok (.aload_n 0, 1) := by decide +kernel
theorem dX3_plan_46 : decode cX3_plan 46 = .ok (.aload_n 2, 1) := by decide +kernel
theorem dX3_plan_47 : decode cX3_plan 47 = .ok (.aload_n 3, 1) := by decide +kernel
theorem dX3_plan_48 : decode cX3_plan 48 = .ok (.getfield 61, 3) := by decide +kernel
theorem dX3_plan_51 : decode cX3_plan 51 = .ok (.aload 4, 2) := by decide +kernel
theorem dX3_plan_53 : decode cX3_plan 53 = .ok (.iconst 2, 1) := by decide +kernel
theorem dX3_plan_54 : decode cX3_plan 54 = .ok (.iaload, 1) := by decide +kernel
theorem dX3_plan_55 : decode cX3_plan 55 = .ok (.invokevirtual 67, 3) := by decide +kernel
theorem dX3_plan_58 : decode cX3_plan 58 = .ok (.return_, 1) := by decide +kernel
theorem dX3_matchRows_0 : decode cX3_matchRows 0 = .ok (.iconst 0, 1) := by decide +kernel
theorem dX3_matchRows_1 : decode cX3_matchRows 1 = .ok (.istore_n 2, 1) := by decide +kernel
theorem dX3_matchRows_2 : decode cX3_matchRows 2 = .ok (.iload_n 2, 1) := by decide +kernel
theorem dX3_matchRows_3 : decode cX3_matchRows 3 = .ok (.bipush 30, 2) := by decide +kernel
theorem dX3_matchRows_5 : decode cX3_matchRows 5 = .ok (.if_icmp .ge 23, 3) := by decide +kernel
theorem dX3_matchRows_8 : decode cX3_matchRows 8 = .ok (.aload_n 0, 1) := by decide +kernel
theorem dX3_matchRows_9 : decode cX3_matchRows 9 = .ok (.getfield 27, 3) := by decide +kernel
theorem dX3_matchRows_12 : decode cX3_matchRows 12 = .ok (.iload_n 2, 1) := by decide +kernel
theorem dX3_matchRows_13 : decode cX3_matchRows 13 = .ok (.iconst (-1), 1) := by decide +kernel
theorem dX3_matchRows_14 : decode cX3_matchRows 14 = .ok (.iastore, 1) := by decide +kernel
theorem dX3_matchRows_15 : decode cX3_matchRows 15 = .ok (.aload_n 0, 1) := by decide +kernel
theorem dX3_matchRows_16 : decode cX3_matchRows 16 = .ok (.getfield 30, 3) := by decide +kernel
theorem dX3_matchRows_19 : decode cX3_matchRows 19 = .ok (.iload_n 2, 1) := by decide +kernel
theorem dX3_matchRows_20 : decode cX3_matchRows 20 = .ok (.iconst 0, 1) := by decide +kernel
theorem dX3_matchRows_21 : decode cX3_matchRows 21 = .ok (.bastore, 1) := by decide +kernel
theorem dX3_matchRows_22 : decode cX3_matchRows 22 = .ok (.iinc 2 1, 3) := by decide +kernel
theorem dX3_matchRows_25 : decode cX3_matchRows 25 = .ok (.goto (-23), 3) := by decide +kernel
theorem dX3_matchRows_28 : decode cX3_matchRows 28 = .ok (.iconst 0, 1) := by decide +kernel
theorem dX3_matchRows_29 : decode cX3_matchRows 29 = .ok (.istore_n 2, 1) := by decide +kernel
theorem dX3_matchRows_30 : decode cX3_matchRows 30 = .ok (.iload_n 2, 1) := by decide +kernel
theorem dX3_matchRows_31 : decode cX3_matchRows 31 = .ok (.aload_n 1, 1) := by decide +kernel
theorem dX3_matchRows_32 : decode cX3_matchRows 32 = .ok (.getfield 71, 3) := by decide +kernel
theorem dX3_matchRows_35 : decode cX3_matchRows 35 = .ok (.if_icmp .ge 51, 3) := by decide +kernel
theorem dX3_matchRows_38 : decode cX3_matchRows 38 = .ok (.aload_n 1, 1) := by decide +kernel
theorem dX3_matchRows_39 : decode cX3_matchRows 39 = .ok (.getfield 61, 3) := by decide +kernel
theorem dX3_matchRows_42 : decode cX3_matchRows 42 = .ok (.getfield 72, 3) := by decide +kernel
theorem dX3_matchRows_45 : decode cX3_matchRows 45 = .ok (.aload_n 1, 1) := by decide +kernel
theorem dX3_matchRows_46 : decode cX3_matchRows 46 = .ok (.getfield 77, 3) := by decide +kernel
theorem dX3_matchRows_49 : decode cX3_matchRows 49 = .ok (.iload_n 2, 1) := by decide +kernel
theorem dX3_matchRows_50 : decode cX3_matchRows 50 = .ok (.iaload, 1) := by decide +kernel
theorem dX3_matchRows_51 : decode cX3_matchRows 51 = .ok (.iaload, 1) := by decide +kernel
theorem dX3_matchRows_52 : decode cX3_matchRows 52 = .ok (.istore_n 3, 1) := by decide +kernel
theorem dX3_matchRows_53 : decode cX3_matchRows 53 = .ok (.aload_n 0, 1) := by decide +kernel
theorem dX3_matchRows_54 : decode cX3_matchRows 54 = .ok (.getfield 27, 3) := by decide +kernel
theorem dX3_matchRows_57 : decode cX3_matchRows 57 = .ok (.aload_n 1, 1) := by decide +kernel
theorem dX3_matchRows_58 : decode cX3_matchRows 58 = .ok (.getfield 80, 3) := by decide +kernel
theorem dX3_matchRows_61 : decode cX3_matchRows 61 = .ok (.getfield 72, 3) := by decide +kernel
theorem dX3_matchRows_64 : decode cX3_matchRows 64 = .ok (.aload_n 1, 1) := by decide +kernel
theorem dX3_matchRows_65 : decode cX3_matchRows 65 = .ok (.getfield 83, 3) := by decide +kernel
theorem dX3_matchRows_68 : decode cX3_matchRows 68 = .ok (.iload_n 2, 1) := by decide +kernel
theorem dX3_matchRows_69 : decode cX3_matchRows 69 = .ok (.iaload, 1) := by decide +kernel
theorem dX3_matchRows_70 : decode cX3_matchRows 70 = .ok (.iaload, 1) := by decide +kernel
theorem dX3_matchRows_71 : decode cX3_matchRows 71 = .ok (.iload_n 3, 1) := by decide +kernel
theorem dX3_matchRows_72 : decode cX3_matchRows 72 = .ok (.iastore, 1) := by decide +kernel
theorem dX3_matchRows_73 : decode cX3_matchRows 73 = .ok (.aload_n 0, 1) := by decide +kernel
theorem dX3_matchRows_74 : decode cX3_matchRows 74 = .ok (.getfield 30, 3) := by decide +kernel
theorem dX3_matchRows_77 : decode cX3_matchRows 77 = .ok (.iload_n 3, 1) := by decide +kernel
theorem dX3_matchRows_78 : decode cX3_matchRows 78 = .ok (.iconst 1, 1) := by decide +kernel
theorem dX3_matchRows_79 : decode cX3_matchRows 79 = .ok (.bastore, 1) := by decide +kernel
theorem dX3_matchRows_80 : decode cX3_matchRows 80 = .ok (.iinc 2 1, 3) := by decide +kernel
theorem dX3_matchRows_83 : decode cX3_matchRows 83 = .ok (.goto (-53), 3) := by decide +kernel
theorem dX3_matchRows_86 : decode cX3_matchRows 86 = .ok (.return_, 1) := by decide +kernel
theorem dX3_takeLonely_0 : decode cX3_takeLonely 0 = .ok (.iconst 0, 1) := by decide +kernel
theorem dX3_takeLonely_1 : decode cX3_takeLonely 1 = .ok (.istore_n 3, 1) := by decide +kernel
theorem dX3_takeLonely_2 : decode cX3_takeLonely 2 = .ok (.iload_n 3, 1) := by decide +kernel
theorem dX3_takeLonely_3 : decode cX3_takeLonely 3 = .ok (.aload_n 1, 1) := by decide +kernel
theorem dX3_takeLonely_4 : decode cX3_takeLonely 4 = .ok (.getfield 34, 3) := by decide +kernel
theorem dX3_takeLonely_7 : decode cX3_takeLonely 7 = .ok (.if_icmp .ge 31, 3) := by decide +kernel
theorem dX3_takeLonely_10 : decode cX3_takeLonely 10 = .ok (.aload_n 0, 1) := by decide +kernel
theorem dX3_takeLonely_11 : decode cX3_takeLonely 11 = .ok (.getfield 27, 3) := by decide +kernel
theorem dX3_takeLonely_14 : decode cX3_takeLonely 14 = .ok (.iload_n 3, 1) := by decide +kernel
theorem dX3_takeLonely_15 : decode cX3_takeLonely 15 = .ok (.iaload, 1) := by decide +kernel
theorem dX3_takeLonely_16 : decode cX3_takeLonely 16 = .ok (.iconst (-1), 1) := by decide +kernel
theorem dX3_takeLonely_17 : decode cX3_takeLonely 17 = .ok (.if_icmp .ne 15, 3) := by decide +kernel
theorem dX3_takeLonely_20 : decode cX3_takeLonely 20 = .ok (.aload_n 0, 1) := by decide +kernel
theorem dX3_takeLonely_21 : decode cX3_takeLonely 21 = .ok (.iconst 3, 1) := by decide +kernel
theorem dX3_takeLonely_22 : decode cX3_takeLonely 22 = .ok (.aload_n 1, 1) := by decide +kernel
theorem dX3_takeLonely_23 : decode cX3_takeLonely 23 = .ok (.getfield 86, 3) := by decide +kernel
theorem dX3_takeLonely_26 : decode cX3_takeLonely 26 = .ok (.iload_n 3, 1) := by decide +kernel
theorem dX3_takeLonely_27 : decode cX3_takeLonely 27 = .ok (.iaload, 1) := by decide +kernel
theorem dX3_takeLonely_28 : decode cX3_takeLonely 28 = .ok (.iload_n 2, 1) := by decide +kernel
theorem dX3_takeLonely_29 : decode cX3_takeLonely 29 = .ok (.invokevirtual 89, 3) := by decide +kernel
theorem dX3_takeLonely_32 : decode cX3_takeLonely 32 = .ok (.iinc 3 1, 3) := by decide +kernel
theorem dX3_takeLonely_35 : decode cX3_takeLonely 35 = .ok (.goto (-33), 3) := by decide +kernel
theorem dX3_takeLonely_38 : decode cX3_takeLonely 38 = .ok (.return_, 1) := by decide +kernel
theorem dX3_mendPairs_0 : decode cX3_mendPairs 0 = .ok (.iconst 0, 1) := by decide +kernel
theorem dX3_mendPairs_1 : decode cX3_mendPairs 1 = .ok (.istore 4, 2) := by decide +kernel
theorem dX3_mendPairs_3 : decode cX3_mendPairs 3 = .ok (.iload 4, 2) := by decide +kernel
theorem dX3_mendPairs_5 : decode cX3_mendPairs 5 = .ok (.aload_n 1, 1) := by decide +kernel
theorem dX3_mendPairs_6 : decode cX3_mendPairs 6 = .ok (.getfield 34, 3) := by decide +kernel
theorem dX3_mendPairs_9 : decode cX3_mendPairs 9 = .ok (.if_icmp .ge 135, 3) := by decide +kernel
theorem dX3_mendPairs_12 : decode cX3_mendPairs 12 = .ok (.aload_n 0, 1) := by decide +kernel
theorem dX3_mendPairs_13 : decode cX3_mendPairs 13 = .ok (.getfield 27, 3) := by decide +kernel
theorem dX3_mendPairs_16 : decode cX3_mendPairs 16 = .ok (.iload 4, 2) := by decide +kernel
theorem dX3_mendPairs_18 : decode cX3_mendPairs 18 = .ok (.iaload, 1) := by decide +kernel
theorem dX3_mendPairs_19 : decode cX3_mendPairs 19 = .ok (.istore 5, 2) := by decide +kernel
theorem dX3_mendPairs_21 : decode cX3_mendPairs 21 = .ok (.iload 5, 2) := by decide +kernel
theorem dX3_mendPairs_23 : decode cX3_mendPairs 23 = .ok (.iconst (-1), 1) := by decide +kernel
theorem dX3_mendPairs_24 : decode cX3_mendPairs 24 = .ok (.if_icmp .ne 6, 3) := by decide +kernel
theorem dX3_mendPairs_27 : decode cX3_mendPairs 27 = .ok (.goto 111, 3) := by decide +kernel
theorem dX3_mendPairs_30 : decode cX3_mendPairs 30 = .ok (.aload_n 0, 1) := by decide +kernel
theorem dX3_mendPairs_31 : decode cX3_mendPairs 31 = .ok (.getfield 9, 3) := by decide +kernel
theorem dX3_mendPairs_34 : decode cX3_mendPairs 34 = .ok (.aload_n 0, 1) := by decide +kernel
theorem dX3_mendPairs_35 : decode cX3_mendPairs 35 = .ok (.getfield 43, 3) := by decide +kernel
theorem dX3_mendPairs_38 : decode cX3_mendPairs 38 = .ok (.aload_n 1, 1) := by decide +kernel
theorem dX3_mendPairs_39 : decode cX3_mendPairs 39 = .ok (.getfield 86, 3) := by decide +kernel
theorem dX3_mendPairs_42 : decode cX3_mendPairs 42 = .ok (.iload 4, 2) := by decide +kernel
theorem dX3_mendPairs_44 : decode cX3_mendPairs 44 = .ok (.iaload, 1) := by decide +kernel
theorem dX3_mendPairs_45 : decode cX3_mendPairs 45 = .ok (.iastore, 1) := by decide +kernel
theorem dX3_mendPairs_46 : decode cX3_mendPairs 46 = .ok (.aload_n 0, 1) := by decide +kernel
theorem dX3_mendPairs_47 : decode cX3_mendPairs 47 = .ok (.getfield 15, 3) := by decide +kernel
theorem dX3_mendPairs_50 : decode cX3_mendPairs 50 = .ok (.aload_n 0, 1) := by decide +kernel
theorem dX3_mendPairs_51 : decode cX3_mendPairs 51 = .ok (.getfield 43, 3) := by decide +kernel
theorem dX3_mendPairs_54 : decode cX3_mendPairs 54 = .ok (.aload_n 2, 1) := by decide +kernel
theorem dX3_mendPairs_55 : decode cX3_mendPairs 55 = .ok (.getfield 86, 3) := by decide +kernel
theorem dX3_mendPairs_58 : decode cX3_mendPairs 58 = .ok (.iload 5, 2) := by decide +kernel
theorem dX3_mendPairs_60 : decode cX3_mendPairs 60 = .ok (.iaload, 1) := by decide +kernel
theorem dX3_mendPairs_61 : decode cX3_mendPairs 61 = .ok (.iastore, 1) := by decide +kernel
theorem dX3_mendPairs_62 : decode cX3_mendPairs 62 = .ok (.aload_n 0, 1) := by decide +kernel
theorem dX3_mendPairs_63 : decode cX3_mendPairs 63 = .ok (.dup, 1) := by decide +kernel
theorem dX3_mendPairs_64 : decode cX3_mendPairs 64 = .ok (.getfield 43, 3) := by decide +kernel
theorem dX3_mendPairs_67 : decode cX3_mendPairs 67 = .ok (.iconst 1, 1) := by decide +kernel
theorem dX3_mendPairs_68 : decode cX3_mendPairs 68 = .ok (.iadd, 1) := by decide +kernel
theorem dX3_mendPairs_69 : decode cX3_mendPairs 69 = .ok (.putfield 43, 3) := by decide +kernel
theorem dX3_mendPairs_72 : decode cX3_mendPairs 72 = .ok (.aload_n 1, 1) := by decide +kernel
theorem dX3_mendPairs_73 : decode cX3_mendPairs 73 = .ok (.getfield 93, 3) := by decide +kernel
theorem dX3_mendPairs_76 : decode cX3_mendPairs 76 = .ok (.iload 4, 2) := by decide +kernel
theorem dX3_mendPairs_78 : decode cX3_mendPairs 78 = .ok (.laload, 1) := by decide +kernel
theorem dX3_mendPairs_79 : decode cX3_mendPairs 79 = .ok (.aload_n 2, 1) := by decide +kernel
theorem dX3_mendPairs_80 : decode cX3_mendPairs 80 = .ok (.getfield 93, 3) := by decide +kernel
theorem dX3_mendPairs_83 : decode cX3_mendPairs 83 = .ok (.iload 5, 2) := by decide +kernel
theorem dX3_mendPairs_85 : decode cX3_mendPairs 85 = .ok (.laload, 1) := by decide +kernel
theorem dX3_mendPairs_86 : decode cX3_mendPairs 86 = .ok (.lcmp, 1) := by decide +kernel
theorem dX3_mendPairs_87 : decode cX3_mendPairs 87 = .ok (.ifCond .eq 18, 3) := by decide +kernel
theorem dX3_mendPairs_90 : decode cX3_mendPairs 90 = .ok (.aload_n 0, 1) := by decide +kernel
theorem dX3_mendPairs_91 : decode cX3_mendPairs 91 = .ok (.iconst 0, 1) := by decide +kernel
theorem dX3_mendPairs_92 : decode cX3_mendPairs 92 = .ok (.aload_n 1, 1) := by decide +kernel
theorem dX3_mendPairs_93 : decode cX3_mendPairs 93 = .ok (.getfield 86, 3) := by decide +kernel
theorem dX3_mendPairs_96 : decode cX3_mendPairs 96 = .ok (.iload 4, 2) := by decide +kernel
theorem dX3_mendPairs_98 : decode cX3_mendPairs 98 = .ok (.iaload, 1) := by decide +kernel
theorem dX3_mendPairs_99 : decode cX3_mendPairs 99 = .ok (.aload_n 3, 1) := by decide +kernel
theorem dX3_mendPairs_100 : decode cX3_mendPairs 100 = .ok (.iconst 0, 1) := by decide +kernel
theorem dX3_mendPairs_101 : decode cX3_mendPairs 101 = .ok (.iaload, 1) := by decide +kernel
theorem dX3_mendPairs_102 : decode cX3_mendPairs 102 = .ok (.invokevirtual 89, 3) := by decide +kernel
theorem dX3_mendPairs_105 : decode cX3_mendPairs 105 = .ok (.aload_n 1, 1) := by decide +kernel
theorem dX3_mendPairs_106 : decode cX3_mendPairs 106 = .ok (.getfield 97, 3) := by decide +kernel
theorem dX3_mendPairs_109 : decode cX3_mendPairs 109 = .ok (.iload 4, 2) := by decide +kernel
theorem dX3_mendPairs_111 : decode cX3_mendPairs 111 = .ok (.laload, 1) := by decide +kernel
theorem dX3_mendPairs_112 : decode cX3_mendPairs 112 = .ok (.aload_n 2, 1) := by decide +kernel
theorem dX3_mendPairs_113 : decode cX3_mendPairs 113 = .ok (.getfield 97, 3) := by decide +kernel
theorem dX3_mendPairs_116 : decode cX3_mendPairs 116 = .ok (.iload 5, 2) := by decide +kernel
theorem dX3_mendPairs_118 : decode cX3_mendPairs 118 = .ok (.laload, 1) := by decide +kernel
theorem dX3_mendPairs_119 : decode cX3_mendPairs 119 = .ok (.lcmp, 1) := by decide +kernel
theorem dX3_mendPairs_120 : decode cX3_mendPairs 120 = .ok (.ifCond .eq 18, 3) := by decide +kernel
theorem dX3_mendPairs_123 : decode cX3_mendPairs 123 = .ok (.aload_n 0, 1) := by decide +kernel
theorem dX3_mendPairs_124 : decode cX3_mendPairs 124 = .ok (.iconst 1, 1) := by decide +kernel
theorem dX3_mendPairs_125 : decode cX3_mendPairs 125 = .ok (.aload_n 1, 1) := by decide +kernel
theorem dX3_mendPairs_126 : decode cX3_mendPairs 126 = .ok (.getfield 86, 3) := by decide +kernel
theorem dX3_mendPairs_129 : decode cX3_mendPairs 129 = .ok (.iload 4, 2) := by decide +kernel
theorem dX3_mendPairs_131 : decode cX3_mendPairs 131 = .ok (.iaload, 1) := by decide +kernel
theorem dX3_mendPairs_132 : decode cX3_mendPairs 132 = .ok (.aload_n 3, 1) := by decide +kernel
theorem dX3_mendPairs_133 : decode cX3_mendPairs 133 = .ok (.iconst 1, 1) := by decide +kernel
theorem dX3_mendPairs_134 : decode cX3_mendPairs 134 = .ok (.iaload, 1) := by decide +kernel
theorem dX3_mendPairs_135 : decode cX3_mendPairs 135 = .ok (.invokevirtual 89, 3) := by decide +kernel
theorem dX3_mendPairs_138 : decode cX3_mendPairs 138 = .ok (.iinc 4 1, 3) := by decide +kernel
theorem dX3_mendPairs_141 : decode cX3_mendPairs 141 = .ok (.goto (-138), 3) := by decide +kernel
theorem dX3_mendPairs_144 : decode cX3_mendPairs 144 = .ok (.return_, 1) := by decide +kernel
theorem dX3_putLonely_0 : decode cX3_putLonely 0 = .ok (.iconst 1, 1) := by decide +kernel
theorem dX3_putLonely_1 : decode cX3_putLonely 1 = .ok (.istore 4, 2) := by decide +kernel
theorem dX3_putLonely_3 : decode cX3_putLonely 3 = .ok (.iload 4, 2) := by decide +kernel
theorem dX3_putLonely_5 : decode cX3_putLonely 5 = .ok (.aload_n 2, 1) := by decide +kernel
theorem dX3_putLonely_6 : decode cX3_putLonely 6 = .ok (.getfield 100, 3) := by decide +kernel
theorem dX3_putLonely_9 : decode cX3_putLonely 9 = .ok (.if_icmp .gt 41, 3) := by decide +kernel
theorem dX3_putLonely_12 : decode cX3_putLonely 12 = .ok (.aload_n 2, 1) := by decide +kernel
theorem dX3_putLonely_13 : decode cX3_putLonely 13 = .ok (.getfield 72, 3) := by decide +kernel
theorem dX3_putLonely_16 : decode cX3_putLonely 16 = .ok (.iload 4, 2) := by decide +kernel
theorem dX3_putLonely_18 : decode cX3_putLonely 18 = .ok (.iaload, 1) := by decide +kernel
theorem dX3_putLonely_19 : decode cX3_putLonely 19 = .ok (.istore 5, 2) := by decide +kernel
theorem dX3_putLonely_21 : decode cX3_putLonely 21 = .ok (.aload_n 0, 1) := by decide +kernel
theorem dX3_putLonely_22 : decode cX3_putLonely 22 = .ok (.getfield 30, 3) := by decide +kernel
theorem dX3_putLonely_25 : decode cX3_putLonely 25 = .ok (.iload 5, 2) := by decide +kernel
theorem dX3_putLonely_27 : decode cX3_putLonely 27 = .ok (.baload, 1) := by decide +kernel
theorem dX3_putLonely_28 : decode cX3_putLonely 28 = .ok (.ifCond .ne 16, 3) := by decide +kernel
theorem dX3_putLonely_31 : decode cX3_putLonely 31 = .ok (.aload_n 0, 1) := by decide +kernel
theorem dX3_putLonely_32 : decode cX3_putLonely 32 = .ok (.iconst 2, 1) := by decide +kernel
theorem dX3_putLonely_33 : decode cX3_putLonely 33 = .ok (.aload_n 1, 1) := by decide +kernel
theorem dX3_putLonely_34 : decode cX3_putLonely 34 = .ok (.getfield 86, 3) := by decide +kernel
theorem dX3_putLonely_37 : decode cX3_putLonely 37 = .ok (.iload 5, 2) := by decide +kernel
theorem dX3_putLonely_39 : decode cX3_putLonely 39 = .ok (.iaload, 1) := by decide +kernel
theorem dX3_putLonely_40 : decode cX3_putLonely 40 = .ok (.iload_n 3, 1) := by decide +kernel
theorem dX3_putLonely_41 : decode cX3_putLonely 41 = .ok (.invokevirtual 89, 3) := by decide +kernel
theorem dX3_putLonely_44 : decode cX3_putLonely 44 = .ok (.iinc 4 1, 3) := by decide +kernel
theorem dX3_putLonely_47 : decode cX3_putLonely 47 = .ok (.goto (-44), 3) := by decide +kernel
theorem dX3_putLonely_50 : decode cX3_putLonely 50 = .ok (.return_, 1) := by decide +kernel
theorem dX3_addAct_0 : decode cX3_addAct 0 = .ok (.aload_n 0, 1) := by decide +kernel
theorem dX3_addAct_1 : decode cX3_addAct 1 = .ok (.getfield 46, 3) := by decide +kernel
theorem dX3_addAct_4 : decode cX3_addAct 4 = .ok (.bipush 60, 2) := by decide +kernel
theorem dX3_addAct_6 : decode cX3_addAct 6 = .ok (.if_icmp .ge 43, 3) := by decide +kernel
theorem dX3_addAct_9 : decode cX3_addAct 9 = .ok (.aload_n 0, 1) := by decide +kernel
theorem dX3_addAct_10 : decode cX3_addAct 10 = .ok (.getfield 18, 3) := by decide +kernel
theorem dX3_addAct_13 : decode cX3_addAct 13 = .ok (.aload_n 0, 1) := by decide +kernel
theorem dX3_addAct_14 : decode cX3_addAct 14 = .ok (.getfield 46, 3) := by decide +kernel
theorem dX3_addAct_17 : decode cX3_addAct 17 = .ok (.iload_n 1, 1) := by decide +kernel
theorem dX3_addAct_18 : decode cX3_addAct 18 = .ok (.iastore, 1) := by decide +kernel
theorem dX3_addAct_19 : decode cX3_addAct 19 = .ok (.aload_n 0, 1) := by decide +kernel
theorem dX3_addAct_20 : decode cX3_addAct 20 = .ok (.getfield 21, 3) := by decide +kernel
theorem dX3_addAct_23 : decode cX3_addAct 23 = .ok (.aload_n 0, 1) := by decide +kernel
theorem dX3_addAct_24 : decode cX3_addAct 24 = .ok (.getfield 46, 3) := by decide +kernel
theorem dX3_addAct_27 : decode cX3_addAct 27 = .ok (.iload_n 2, 1) := by decide +kernel
theorem dX3_addAct_28 : decode cX3_addAct 28 = .ok (.iastore, 1) := by decide +kernel
theorem dX3_addAct_29 : decode cX3_addAct 29 = .ok (.aload_n 0, 1) := by decide +kernel
theorem dX3_addAct_30 : decode cX3_addAct 30 = .ok (.getfield 24, 3) := by decide +kernel
theorem dX3_addAct_33 : decode cX3_addAct 33 = .ok (.aload_n 0, 1) := by decide +kernel
theorem dX3_addAct_34 : decode cX3_addAct 34 = .ok (.getfield 46, 3) := by decide +kernel
theorem dX3_addAct_37 : decode cX3_addAct 37 = .ok (.iload_n 3, 1) := by decide +kernel
theorem dX3_addAct_38 : decode cX3_addAct 38 = .ok (.iastore, 1) := by decide +kernel
theorem dX3_addAct_39 : decode cX3_addAct 39 = .ok (.aload_n 0, 1) := by decide +kernel
theorem dX3_addAct_40 : decode cX3_addAct 40 = .ok (.dup, 1) := by decide +kernel
theorem dX3_addAct_41 : decode cX3_addAct 41 = .ok (.getfield 46, 3) := by decide +kernel
theorem dX3_addAct_44 : decode cX3_addAct 44 = .ok (.iconst 1, 1) := by decide +kernel
theorem dX3_addAct_45 : decode cX3_addAct 45 = .ok (.iadd, 1) := by decide +kernel
theorem dX3_addAct_46 : decode cX3_addAct 46 = .ok (.putfield 46, 3) := by decide +kernel
theorem dX3_addAct_49 : decode cX3_addAct 49 = .ok (.return_, 1) := by decide +kernel
theorem dX4_init_0 : decode cX4_init 0 = .ok (.aload_n 0, 1) := by decide +kernel
theorem dX4_init_1 : decode cX4_init 1 = .ok (.invokespecial 3, 3) := by decide +kernel
theorem dX4_init_4 : decode cX4_init 4 = .ok (.aload_n 0, 1) := by decide +kernel
theorem dX4_init_5 : decode cX4_init 5 = .ok (.new 9, 3) := by decide +kernel
theorem dX4_init_8 : decode cX4_init 8 = .ok (.dup, 1) := by decide +kernel
theorem dX4_init_9 : decode cX4_init 9 = .ok (.invokespecial 11, 3) := by decide +kernel
theorem dX4_init_12 : decode cX4_init 12 = .ok (.putfield 12, 3) := by decide +kernel
theorem dX4_init_15 : decode cX4_init 15 = .ok (.aload_n 0, 1) := by decide +kernel
theorem dX4_init_16 : decode cX4_init 16 = .ok (.bipush 121, 2) := by decide +kernel
theorem dX4_init_18 : decode cX4_init 18 = .ok (.newarray .int, 2) := by decide +kernel
theorem dX4_init_20 : decode cX4_init 20 = .ok (.putfield 18, 3) := by decide +kernel
theorem dX4_init_23 : decode cX4_init 23 = .ok (.aload_n 0, 1) := by decide +kernel
theorem dX4_init_24 : decode cX4_init 24 = .ok (.bipush 121, 2) := by decide +kernel
theorem dX4_init_26 : decode cX4_init 26 = .ok (.newarray .int, 2) := by decide +kernel
theorem dX4_init_28 : decode cX4_init 28 = .ok (.putfield 22, 3) := by decide +kernel
theorem dX4_init_31 : decode cX4_init 31 = .ok (.aload_n 0, 1) := by decide +kernel
theorem dX4_init_32 : decode cX4_init 32 = .ok (.aload_n 0, 1) := by decide +kernel
theorem dX4_init_33 : decode cX4_init 33 = .ok (.getfield 12, 3) := by decide +kernel
theorem dX4_init_36 : decode cX4_init 36 = .ok (.putfield 25, 3) := by decide +kernel
theorem dX4_init_39 : decode cX4_init 39 = .ok (.aload_n 0, 1) := by decide +kernel
theorem dX4_init_40 : decode cX4_init 40 = .ok (.aload_n 0, 1) := by decide +kernel
theorem dX4_init_41 : decode cX4_init 41 = .ok (.getfield 12, 3) := by decide +kernel
theorem dX4_init_44 : decode cX4_init 44 = .ok (.putfield 28, 3) := by decide +kernel
theorem dX4_init_47 : decode cX4_init 47 = .ok (.aload_n 0, 1) := by decide +kernel
theorem dX4_init_48 : decode cX4_init 48 = .ok (.aload_n 0, 1) := by decide +kernel
theorem dX4_init_49 : decode cX4_init 49 = .ok (.getfield 12, 3) := by decide +kernel
theorem dX4_init_52 : decode cX4_init 52 = .ok (.putfield 31, 3) := by decide +kernel
theorem dX4_init_55 : decode cX4_init 55 = .ok (.aload_n 0, 1) := by decide +kernel
theorem dX4_init_56 : decode cX4_init 56 = .ok (.bipush 30, 2) := by decide +kernel
theorem dX4_init_58 : decode cX4_init 58 = .ok (.newarray .int, 2) := by decide +kernel
theorem dX4_init_60 : decode cX4_init 60 = .ok (.putfield 34, 3) := by decide +kernel
theorem dX4_init_63 : decode cX4_init 63 = .ok (.return_, 1) := by decide +kernel
theorem dX4_layTogether_0 : decode cX4_layTogether 0 = .ok (.aload_n 0, 1) := by decide +kernel
theorem dX4_layTogether_1 : decode cX4_layTogether 1 = .ok (.aload_n 1, 1) := by decide +kernel
theorem dX4_layTogether_2 : decode cX4_layTogether 2 = .ok (.putfield 25, 3) := by decide +kernel
theorem dX4_layTogether_5 : decode cX4_layTogether 5 = .ok (.aload_n 0, 1) := by decide +kernel
theorem dX4_layTogether_6 : decode cX4_layTogether 6 = .ok (.aload_n 2, 1) := by decide +kernel
theorem dX4_layTogether_7 : decode cX4_layTogether 7 = .ok (.putfield 28, 3) := by decide +kernel
theorem dX4_layTogether_10 : decode cX4_layTogether 10 = .ok (.aload_n 0, 1) := by decide +kernel
theorem dX4_layTogether_11 : decode cX4_layTogether 11 = .ok (.aload_n 3, 1) := by decide +kernel
theorem dX4_layTogether_12 : decode cX4_layTogether 12 = .ok (.putfield 31, 3) := by decide +kernel
theorem dX4_layTogether_15 : decode cX4_layTogether 15 = .ok (.aload_n 0, 1) := by decide +kernel
theorem dX4_layTogether_16 : decode cX4_layTogether 16 = .ok (.iconst 0, 1) := by decide +kernel
theorem dX4_layTogether_17 : decode cX4_layTogether 17 = .ok (.putfield 37, 3) := by decide +kernel
theorem dX4_layTogether_20 : decode cX4_layTogether 20 = .ok (.aload_n 0, 1) := by decide +kernel
theorem dX4_layTogether_21 : decode cX4_layTogether 21 = .ok (.getfield 12, 3) := by decide +kernel
theorem dX4_layTogether_24 : decode cX4_layTogether 24 = .ok (.iconst 0, 1) := by decide +kernel
theorem dX4_layTogether_25 : decode cX4_layTogether 25 = .ok (.putfield 41, 3) := by decide +kernel
theorem dX4_layTogether_28 : decode cX4_layTogether 28 = .ok (.aload_n 2, 1) := by decide +kernel
theorem dX4_layTogether_29 : decode cX4_layTogether 29 = .ok (.getfield 44, 3) := by decide +kernel
theorem dX4_layTogether_32 : decode cX4_layTogether 32 = .ok (.iconst 0, 1) := by decide +kernel
theorem dX4_layTogether_33 : decode cX4_layTogether 33 = .ok (.iaload, 1) := by decide +kernel
theorem dX4_layTogether_34 : decode cX4_layTogether 34 = .ok (.aload_n 1, 1) := by decide +kernel
theorem dX4_layTogether_35 : decode cX4_layTogether 35 = .ok (.getfield 44, 3) := by decide +kernel
theorem dX4_layTogether_38 : decode cX4_layTogether 38 = .ok (.iconst 0, 1) := by decide +kernel
theorem dX4_layTogether_39 : decode cX4_layTogether 39 = .ok (.iaload, 1) := by decide +kernel
theorem dX4_layTogether_40 : decode cX4_layTogether 40 = .ok (.if_icmp .ne 18, 3) := by decide +kernel
theorem dX4_layTogether_43 : decode cX4_layTogether 43 = .ok (.aload_n 3, 1) := by decide +kernel
theorem dX4_layTogether_44 : decode cX4_layTogether 44 = .ok (.getfield 44, 3) := by decide +kernel
theorem dX4_layTogether_47 : decode cX4_layTogether 47 = .ok (.iconst 0, 1) := by decide +kernel
theorem dX4_layTogether_48 : decode cX4_layTogether 48 = .ok (.iaload, 1) := by decide +kernel
theorem dX4_layTogether_49 : decode cX4_layTogether 49 = .ok (.aload_n 1, 1) := by decide +kernel
theorem dX4_layTogether_50 : decode cX4_layTogether 50 = .ok (.getfield 44, 3) := by decide +kernel
theorem dX4_layTogether_53 : decode cX4_layTogether 53 = .ok (.iconst 0, 1) := by decide +kernel
theorem dX4_layTogether_54 : decode cX4_layTogether 54 = .ok (.iaload, 1) := by decide +kernel
theorem dX4_layTogether_55 : decode cX4_layTogether 55 = .ok (.if_icmp .eq 10, 3) := by decide +kernel
theorem dX4_layTogether_58 : decode cX4_layTogether 58 = .ok (.aload_n 0, 1) := by decide +kernel
theorem dX4_layTogether_59 : decode cX4_layTogether 59 = .ok (.iconst (-1), 1) := by decide +kernel
theorem dX4_layTogether_60 : decode cX4_layTogether 60 = .ok (.iconst 4, 1) := by decide +kernel
theorem dX4_layTogether_61 : decode cX4_layTogether 61 = .ok (.invokevirtual 47, 3) := by decide +kernel
theorem dX4_layTogether_64 : decode cX4_layTogether 64 = .ok (.return_, 1) := by decide +kernel
theorem dX4_layTogether_65 : decode cX4_layTogether 65 = .ok (.aload_n 0, 1) := by decide +kernel
theorem dX4_layTogether_66 : decode cX4_layTogether 66 = .ok (.aload_n 1, 1) := by decide +kernel
theorem dX4_layTogether_67 : decode cX4_layTogether 67 = .ok (.getfield 44, 3) := by decide +kernel
theorem dX4_layTogether_70 : decode cX4_layTogether 70 = .ok (.iconst 0, 1) := by decide +kernel
theorem dX4_layTogether_71 : decode cX4_layTogether 71 = .ok (.iaload, 1) := by decide +kernel
theorem dX4_layTogether_72 : decode cX4_layTogether 72 = .ok (.iconst 0, 1) := by decide +kernel
theorem dX4_layTogether_73 : decode cX4_layTogether 73 = .ok (.invokevirtual 51, 3) := by decide +kernel
theorem dX4_layTogether_76 : decode cX4_layTogether 76 = .ok (.istore 4, 2) := by decide +kernel
theorem dX4_layTogether_78 : decode cX4_layTogether 78 = .ok (.aload_n 0, 1) := by decide +kernel
theorem dX4_layTogether_79 : decode cX4_layTogether 79 = .ok (.getfield 12, 3) := by decide +kernel
theorem dX4_layTogether_82 : decode cX4_layTogether 82 = .ok (.invokevirtual 55, 3) := by decide +kernel
theorem dX4_layTogether_85 : decode cX4_layTogether 85 = .ok (.iload 4, 2) := by decide +kernel
theorem dX4_layTogether_87 : decode cX4_layTogether 87 = .ok (.ifCond .eq 13, 3) := by decide +kernel
theorem dX4_layTogether_90 : decode cX4_layTogether 90 = .ok (.aload_n 0, 1) := by decide +kernel
theorem dX4_layTogether_91 : decode cX4_layTogether 91 = .ok (.getfield 12, 3) := by decide +kernel
theorem dX4_layTogether_94 : decode cX4_layTogether 94 = .ok (.invokevirtual 58, 3) := by decide +kernel
theorem dX4_layTogether_97 : decode cX4_layTogether 97 = .ok (.ifCond .eq 17, 3) := by decide +kernel
theorem dX4_layTogether_100 : decode cX4_layTogether 100 = .ok (.aload_n 0, 1) := by decide +kernel
theorem dX4_layTogether_101 : decode cX4_layTogether 101 = .ok (.getfield 12, 3) := by decide +kernel
theorem dX4_layTogether_104 : decode cX4_layTogether 104 = .ok (.iconst 0, 1) := by decide +kernel
theorem dX4_layTogether_105 : decode cX4_layTogether 105 = .ok (.putfield 41, 3) := by decide +kernel
theorem dX4_layTogether_108 : decode cX4_layTogether 108 = .ok (.aload_n 0, 1) := by decide +kernel
theorem dX4_layTogether_109 : decode cX4_layTogether 109 = .ok (.iconst (-1), 1) := by decide +kernel
theorem dX4_layTogether_110 : decode cX4_layTogether 110 = .ok (.iconst 5, 1) := by decide +kernel
theorem dX4_layTogether_111 : decode cX4_layTogether 111 = .ok (.invokevirtual 47, 3) := by decide +kernel
theorem dX4_layTogether_114 : decode cX4_layTogether 114 = .ok (.aload_n 0, 1) := by decide +kernel
theorem dX4_layTogether_115 : decode cX4_layTogether 115 = .ok (.invokevirtual 62, 3) := by decide +kernel
theorem dX4_layTogether_118 : decode cX4_layTogether 118 = .ok (.return_, 1) := by decide +kernel
theorem dX4_comeTo_0 : decode cX4_comeTo 0 = .ok (.aload_n 0, 1) := by decide +kernel
theorem dX4_comeTo_1 : decode cX4_comeTo 1 = .ok (.getfield 25, 3) := by decide +kernel
theorem dX4_comeTo_4 : decode cX4_comeTo 4 = .ok (.iload_n 1, 1) := by decide +kernel
theorem dX4_comeTo_5 : decode cX4_comeTo 5 = .ok (.invokevirtual 65, 3) := by decide +kernel
theorem dX4_comeTo_8 : decode cX4_comeTo 8 = .ok (.istore_n 3, 1) := by decide +kernel
theorem dX4_comeTo_9 : decode cX4_comeTo 9 = .ok (.aload_n 0, 1) := by decide +kernel
theorem dX4_comeTo_10 : decode cX4_comeTo 10 = .ok (.getfield 28, 3) := by decide +kernel
theorem dX4_comeTo_13 : decode cX4_comeTo 13 = .ok (.iload_n 1, 1) := by decide +kernel
theorem dX4_comeTo_14 : decode cX4_comeTo 14 = .ok (.invokevirtual 65, 3) := by decide +kernel
theorem dX4_comeTo_17 : decode cX4_comeTo 17 = .ok (.istore 4, 2) := by decide +kernel
theorem dX4_comeTo_19 : decode cX4_comeTo 19 = .ok (.aload_n 0, 1) := by decide +kernel
theorem dX4_comeTo_20 : decode cX4_comeTo 20 = .ok (.getfield 31, 3) := by decide +kernel
theorem dX4_comeTo_23 : decode cX4_comeTo 23 = .ok (.iload_n 1, 1) := by decide +kernel
theorem dX4_comeTo_24 : decode cX4_comeTo 24 = .ok (.invokevirtual 65, 3) := by decide +kernel
theorem dX4_comeTo_27 : decode cX4_comeTo 27 = .ok (.istore 5, 2) := by decide +kernel
theorem dX4_comeTo_29 : decode cX4_comeTo 29 = .ok (.iload_n 2, 1) := by decide +kernel
theorem dX4_comeTo_30 : decode cX4_comeTo 30 = .ok (.bipush 11, 2) := by decide +kernel
theorem dX4_comeTo_32 : decode cX4_comeTo 32 = .ok (.if_icmp .gt 27, 3) := by decide +kernel
theorem dX4_comeTo_35 : decode cX4_comeTo 35 = .ok (.iload 4, 2) := by decide +kernel
theorem dX4_comeTo_37 : decode cX4_comeTo 37 = .ok (.iconst (-1), 1) := by decide +kernel
theorem dX4_comeTo_38 : decode cX4_comeTo 38 = .ok (.if_icmp .ne 9, 3) := by decide +kernel
theorem dX4_comeTo_41 : decode cX4_comeTo 41 = .ok (.iload 5, 2) := by decide +kernel
theorem dX4_comeTo_43 : decode cX4_comeTo 43 = .ok (.iconst (-1), 1) := by decide +kernel
theorem dX4_comeTo_44 : decode cX4_comeTo 44 = .ok (.if_icmp .eq 15, 3) := by decide +kernel
theorem dX4_comeTo_47 : decode cX4_comeTo 47 = .ok (.aload_n 0, 1) := by decide +kernel
theorem dX4_comeTo_48 : decode cX4_comeTo 48 = .ok (.getfield 12, 3) := by decide +kernel
theorem dX4_comeTo_51 : decode cX4_comeTo 51 = .ok (.iload_n 1, 1) := by decide +kernel
theorem dX4_comeTo_52 : decode cX4_comeTo 52 = .ok (.invokevirtual 65, 3) := by decide +kernel
theorem dX4_comeTo_55 : decode cX4_comeTo 55 = .ok (.iconst (-1), 1) := by decide +kernel
theorem dX4_comeTo_56 : decode cX4_comeTo 56 = .ok (.if_icmp .eq 5, 3) := by decide +kernel
theorem dX4_comeTo_59 : decode cX4_comeTo 59 = .ok (.iconst 0, 1) := by decide +kernel
theorem dX4_comeTo_60 : decode cX4_comeTo 60 = .ok (.ireturn, 1) := by decide +kernel
theorem dX4_comeTo_61 : decode cX4_comeTo 61 = .ok (.aload_n 0, 1) := by decide +kernel
theorem dX4_comeTo_62 : decode cX4_comeTo 62 = .ok (.getfield 12, 3) := by decide +kernel
theorem dX4_comeTo_65 : decode cX4_comeTo 65 = .ok (.iload_n 2, 1) := by decide +kernel
theorem dX4_comeTo_66 : decode cX4_comeTo 66 = .ok (.invokevirtual 69, 3) := by decide +kernel
theorem dX4_comeTo_69 : decode cX4_comeTo 69 = .ok (.istore 6, 2) := by decide +kernel
theorem dX4_comeTo_71 : decode cX4_comeTo 71 = .ok (.iload 6, 2) := by decide +kernel
theorem dX4_comeTo_73 : decode cX4_comeTo 73 = .ok (.iconst (-1), 1) := by decide +kernel
theorem dX4_comeTo_74 : decode cX4_comeTo 74 = .ok (.if_icmp .ne 5, 3) := by decide +kernel
theorem dX4_comeTo_77 : decode cX4_comeTo 77 = .ok (.iconst 0, 1) := by decide +kernel
theorem dX4_comeTo_78 : decode cX4_comeTo 78 = .ok (.ireturn, 1) := by decide +kernel
theorem dX4_comeTo_79 : decode cX4_comeTo 79 = .ok (.aload_n 0, 1) := by decide +kernel
theorem dX4_comeTo_80 : decode cX4_comeTo 80 = .ok (.iconst 0, 1) := by decide +kernel
theorem dX4_comeTo_81 : decode cX4_comeTo 81 = .ok (.iload_n 3, 1) := by decide +kernel
theorem dX4_comeTo_82 : decode cX4_comeTo 82 = .ok (.iload 4, 2) := by decide +kernel
theorem dX4_comeTo_84 : decode cX4_comeTo 84 = .ok (.iload 5, 2) := by decide +kernel
theorem dX4_comeTo_86 : decode cX4_comeTo 86 = .ok (.invokevirtual 72, 3) := by decide +kernel
theorem dX4_comeTo_89 : decode cX4_comeTo 89 = .ok (.l2i, 1) := by decide +kernel
theorem dX4_comeTo_90 : decode cX4_comeTo 90 = .ok (.istore 7, 2) := by decide +kernel
theorem dX4_comeTo_92 : decode cX4_comeTo 92 = .ok (.aload_n 0, 1) := by decide +kernel
theorem dX4_comeTo_93 : decode cX4_comeTo 93 = .ok (.getfield 12, 3) := by decide +kernel
theorem dX4_comeTo_96 : decode cX4_comeTo 96 = .ok (.iload 6, 2) := by decide +kernel
theorem dX4_comeTo_98 : decode cX4_comeTo 98 = .ok (.iload_n 1, 1) := by decide +kernel
theorem dX4_comeTo_99 : decode cX4_comeTo 99 = .ok (.iload 7, 2) := by decide +kernel
theorem dX4_comeTo_101 : decode cX4_comeTo 101 = .ok (.aload_n 0, 1) := by decide +kernel
theorem dX4_comeTo_102 : decode cX4_comeTo 102 = .ok (.iconst 1, 1) := by decide +kernel
theorem dX4_comeTo_103 : decode cX4_comeTo 103 = .ok (.iload_n 3, 1) := by decide +kernel
theorem dX4_comeTo_104 : decode cX4_comeTo 104 = .ok (.iload 4, 2) := by decide +kernel
theorem dX4_comeTo_106 : decode cX4_comeTo 106 = .ok (.iload 5, 2) := by decide +kernel
theorem dX4_comeTo_108 : decode cX4_comeTo 108 = .ok (.invokevirtual 72, 3) := by decide +kernel
theorem dX4_comeTo_111 : decode cX4_comeTo 111 = .ok (.invokevirtual 76, 3) := by decide +kernel
theorem dX4_comeTo_114 : decode cX4_comeTo 114 = .ok (.aload_n 0, 1) := by decide +kernel
theorem dX4_comeTo_115 : decode cX4_comeTo 115 = .ok (.getfield 12, 3) := by decide +kernel
theorem dX4_comeTo_118 : decode cX4_comeTo 118 = .ok (.getfield 80, 3) := by decide +kernel
theorem dX4_comeTo_121 : decode cX4_comeTo 121 = .ok (.iload 6, 2) := by decide +kernel
theorem dX4_comeTo_123 : decode cX4_comeTo 123 = .ok (.aload_n 0, 1) := by decide +kernel
theorem dX4_comeTo_124 : decode cX4_comeTo 124 = .ok (.iconst 2, 1) := by decide +kernel
theorem dX4_comeTo_125 : decode cX4_comeTo 125 = .ok (.iload_n 3, 1) := by decide +kernel
theorem dX4_comeTo_126 : decode cX4_comeTo 126 = .ok (.iload 4, 2) := by decide +kernel
theorem dX4_comeTo_128 : decode cX4_comeTo 128 = .ok (.iload 5, 2) := by decide +kernel
theorem dX4_comeTo_130 : decode cX4_comeTo 130 = .ok (.invokevirtual 72, 3) := by decide +kernel
theorem dX4_comeTo_133 : decode cX4_comeTo 133 = .ok (.lastore, 1) := by decide +kernel
theorem dX4_comeTo_134 : decode cX4_comeTo 134 = .ok (.aload_n 0, 1) := by decide +kernel
theorem dX4_comeTo_135 : decode cX4_comeTo 135 = .ok (.iload_n 3, 1) := by decide +kernel
theorem dX4_comeTo_136 : decode cX4_comeTo 136 = .ok (.iload 4, 2) := by decide +kernel
theorem dX4_comeTo_138 : decode cX4_comeTo 138 = .ok (.iload 5, 2) := by decide +kernel
theorem dX4_comeTo_140 : decode cX4_comeTo 140 = .ok (.invokevirtual 84, 3) := by decide +kernel
theorem dX4_comeTo_143 : decode cX4_comeTo 143 = .ok (.astore 8, 2) := by decide +kernel
theorem dX4_comeTo_145 : decode cX4_comeTo 145 = .ok (.aload 8, 2) := by decide +kernel
theorem dX4_comeTo_147 : decode cX4_comeTo 147 = .ok (.iload_n 1, 1) := by decide +kernel
theorem dX4_comeTo_148 : decode cX4_comeTo 148 = .ok (.invokevirtual 65, 3) := by decide +kernel
theorem dX4_comeTo_151 : decode cX4_comeTo 151 = .ok (.istore 9, 2) := by decide +kernel
theorem dX4_comeTo_153 : decode cX4_comeTo 153 = .ok (.iload 9, 2) := by decide +kernel
theorem dX4_comeTo_155 : decode cX4_comeTo 155 = .ok (.iconst (-1), 1) := by decide +kernel
theorem dX4_comeTo_156 : decode cX4_comeTo 156 = .ok (.if_icmp .eq 21, 3) := by decide +kernel
theorem dX4_comeTo_159 : decode cX4_comeTo 159 = .ok (.iload 7, 2) := by decide +kernel
theorem dX4_comeTo_161 : decode cX4_comeTo 161 = .ok (.iconst 3, 1) := by decide +kernel
theorem dX4_comeTo_162 : decode cX4_comeTo 162 = .ok (.if_icmp .ne 17, 3) := by decide +kernel
theorem dX4_comeTo_165 : decode cX4_comeTo 165 = .ok (.aload 8, 2) := by decide +kernel
theorem dX4_comeTo_167 : decode cX4_comeTo 167 = .ok (.getfield 88, 3) := by decide +kernel
theorem dX4_comeTo_170 : decode cX4_comeTo 170 = .ok (.iload 9, 2) := by decide +kernel
theorem dX4_comeTo_172 : decode cX4_comeTo 172 = .ok (.iaload, 1) := by decide +kernel
theorem dX4_comeTo_173 : decode cX4_comeTo 173 = .ok (.iconst 1, 1) := by decide +kernel
theorem dX4_comeTo_174 : decode cX4_comeTo 174 = .ok (.if_icmp .le 5, 3) := by decide +kernel
theorem dX4_comeTo_177 : decode cX4_comeTo 177 = .ok (.iconst 0, 1) := by decide +kernel
theorem dX4_comeTo_178 : decode cX4_comeTo 178 = .ok (.ireturn, 1) := by decide +kernel
theorem dX4_comeTo_179 : decode cX4_comeTo 179 = .ok (.aload_n 0, 1) := by decide +kernel
theorem dX4_comeTo_180 : decode cX4_comeTo 180 = .ok (.aload 8, 2) := by decide +kernel
theorem dX4_comeTo_182 : decode cX4_comeTo 182 = .ok (.iload 9, 2) := by decide +kernel
theorem dX4_comeTo_184 : decode cX4_comeTo 184 = .ok (.iload_n 2, 1) := by decide +kernel
theorem dX4_comeTo_185 : decode cX4_comeTo 185 = .ok (.iconst 1, 1) := by decide +kernel
theorem dX4_comeTo_186 : decode cX4_comeTo 186 = .ok (.iadd, 1) := by decide +kernel
theorem dX4_comeTo_187 : decode cX4_comeTo 187 = .ok (.invokevirtual 91, 3) := by decide +kernel
theorem dX4_comeTo_190 : decode cX4_comeTo 190 = .ok (.ireturn, 1) := by decide +kernel
theorem dX4_comeToChildren_0 : decode cX4_comeToChildren 0 = .ok (.iload_n 2, 1) := by decide +kernel
theorem dX4_comeToChildren_1 : decode cX4_comeToChildren 1 = .ok (.iconst 1, 1) := by decide +kernel
theorem dX4_comeToChildren_2 : decode cX4_comeToChildren 2 = .ok (.iadd, 1) := by decide +kernel
theorem dX4_comeToChildren_3 : decode cX4_comeToChildren 3 = .ok (.istore 4, 2) := by decide +kernel
theorem dX4_comeToChildren_5 : decode cX4_comeToChildren 5 = .ok (.iload 4, 2) := by decide +kernel
theorem dX4_comeToChildren_7 : decode cX4_comeToChildren 7 = .ok (.aload_n 1, 1) := by decide +kernel
theorem dX4_comeToChildren_8 : decode cX4_comeToChildren 8 = .ok (.iload_n 2, 1) := by decide +kernel
theorem dX4_comeToChildren_9 : decode cX4_comeToChildren 9 = .ok (.invokevirtual 95, 3) := by decide +kernel
theorem dX4_comeToChildren_12 : decode cX4_comeToChildren 12 = .ok (.if_icmp .ge 36, 3) := by decide +kernel
theorem dX4_comeToChildren_15 : decode cX4_comeToChildren 15 = .ok (.aload_n 1, 1) := by decide +kernel
theorem dX4_comeToChildren_16 : decode cX4_comeToChildren 16 = .ok (.iload 4, 2) := by decide +kernel
theorem dX4_comeToChildren_18 : decode cX4_comeToChildren 18 = .ok (.iload_n 2, 1) := by decide +kernel
theorem dX4_comeToChildren_19 : decode cX4_comeToChildren 19 = .ok (.invokevirtual 98, 3) := by decide +kernel
theorem dX4_comeToChildren_22 : decode cX4_comeToChildren 22 = .ok (.ifCond .eq 20, 3) := by decide +kernel
theorem dX4_comeToChildren_25 : decode cX4_comeToChildren 25 = .ok (.aload_n 0, 1) := by decide +kernel
theorem dX4_comeToChildren_26 : decode cX4_comeToChildren 26 = .ok (.aload_n 1, 1) := by decide +kernel
theorem dX4_comeToChildren_27 : decode cX4_comeToChildren 27 = .ok (.getfield 44, 3) := by decide +kernel
theorem dX4_comeToChildren_30 : decode cX4_comeToChildren 30 = .ok (.iload 4, 2) := by decide +kernel
theorem dX4_comeToChildren_32 : decode cX4_comeToChildren 32 = .ok (.iaload, 1) := by decide +kernel
theorem dX4_comeToChildren_33 : decode cX4_comeToChildren 33 = .ok (.iload_n 3, 1) := by decide +kernel
theorem dX4_comeToChildren_34 : decode cX4_comeToChildren 34 = .ok (.invokevirtual 51, 3) := by decide +kernel
theorem dX4_comeToChildren_37 : decode cX4_comeToChildren 37 = .ok (.ifCond .ne 5, 3) := by decide +kernel
theorem dX4_comeToChildren_40 : decode cX4_comeToChildren 40 = .ok (.iconst 0, 1) := by decide +kernel
theorem dX4_comeToChildren_41 : decode cX4_comeToChildren 41 = .ok (.ireturn, 1) := by decide +kernel
theorem dX4_comeToChildren_42 : decode cX4_comeToChildren 42 = .ok (.iinc 4 1, 3) := by decide +kernel
theorem dX4_comeToChildren_45 : decode cX4_comeToChildren 45 = .ok (.goto (-40), 3) := by decide +kernel
theorem dX4_comeToChildren_48 : decode cX4_comeToChildren 48 = .ok (.iconst 1, 1) := by decide +kernel
theorem dX4_comeToChildren_49 : decode cX4_comeToChildren 49 = .ok (.ireturn, 1) := by decide +kernel
theorem dX4_settledField_0 : decode cX4_settledField 0 = .ok (.aload_n 0, 1) := by decide +kernel
theorem dX4_settledField_1 : decode cX4_settledField 1 = .ok (.getfield 28, 3) := by decide +kernel
theorem dX4_settledField_4 : decode cX4_settledField 4 = .ok (.iload_n 3, 1) := by decide +kernel
theorem dX4_settledField_5 : decode cX4_settledField 5 = .ok (.iload_n 1, 1) := by decide +kernel
theorem dX4_settledField_6 : decode cX4_settledField 6 = .ok (.invokestatic 101, 3) := by decide +kernel
theorem dX4_settledField_9 : decode cX4_settledField 9 = .ok (.lstore 5, 2) := by decide +kernel
theorem dX4_settledField_11 : decode cX4_settledField 11 = .ok (.aload_n 0, 1) := by decide +kernel
theorem dX4_settledField_12 : decode cX4_settledField 12 = .ok (.getfield 31, 3) := by decide +kernel
theorem dX4_settledField_15 : decode cX4_settledField 15 = .ok (.iload 4, 2) := by decide +kernel
theorem dX4_settledField_17 : decode cX4_settledField 17 = .ok (.iload_n 1, 1) := by decide +kernel
theorem dX4_settledField_18 : decode cX4_settledField 18 = .ok (.invokestatic 101, 3) := by decide +kernel
theorem dX4_settledField_21 : decode cX4_settledField 21 = .ok (.lstore 7, 2) := by decide +kernel
theorem dX4_settledField_23 : decode cX4_settledField 23 = .ok (.iload_n 3, 1) := by decide +kernel
theorem dX4_settledField_24 : decode cX4_settledField 24 = .ok (.iconst (-1), 1) := by decide +kernel
theorem dX4_settledField_25 : decode cX4_settledField 25 = .ok (.if_icmp .ne 6, 3) := by decide +kernel
theorem dX4_settledField_28 : decode cX4_settledField 28 = .ok (.lload 7, 2) := by decide +kernel
theorem dX4_settledField_30 : decode cX4_settledField 30 = .ok (.lreturn, 1) := by decide +kernel
theorem dX4_settledField_31 : decode cX4_settledField 31 = .ok (.iload 4, 2) := by decide +kernel
theorem dX4_settledField_33 : decode cX4_settledField 33 = .ok (.iconst (-1), 1) := by decide +kernel
theorem dX4_settledField_34 : decode cX4_settledField 34 = .ok (.if_icmp .eq 16, 3) := by decide +kernel
theorem dX4_settledField_37 : decode cX4_settledField 37 = .ok (.iload_n 2, 1) := by decide +kernel
theorem dX4_settledField_38 : decode cX4_settledField 38 = .ok (.iconst (-1), 1) := by decide +kernel
theorem dX4_settledField_39 : decode cX4_settledField 39 = .ok (.if_icmp .eq 11, 3) := by decide +kernel
theorem dX4_settledField_42 : decode cX4_settledField 42 = .ok (.lload 5, 2) := by decide +kernel
theorem dX4_settledField_44 : decode cX4_settledField 44 = .ok (.lload 7, 2) := by decide +kernel
theorem dX4_settledField_46 : decode cX4_settledField 46 = .ok (.lcmp, 1) := by decide +kernel
theorem dX4_settledField_47 : decode cX4_settledField 47 = .ok (.ifCond .ne 6, 3) := by decide +kernel
theorem dX4_settledField_50 : decode cX4_settledField 50 = .ok (.lload 5, 2) := by decide +kernel
theorem dX4_settledField_52 : decode cX4_settledField 52 = .ok (.lreturn, 1) := by decide +kernel
theorem dX4_settledField_53 : decode cX4_settledField 53 = .ok (.aload_n 0, 1) := by decide +kernel
theorem dX4_settledField_54 : decode cX4_settledField 54 = .ok (.getfield 25, 3) := by decide +kernel
theorem dX4_settledField_57 : decode cX4_settledField 57 = .ok (.iload_n 2, 1) := by decide +kernel
theorem dX4_settledField_58 : decode cX4_settledField 58 = .ok (.iload_n 1, 1) := by decide +kernel
theorem dX4_settledField_59 : decode cX4_settledField 59 = .ok (.invokestatic 101, 3) := by decide +kernel
theorem dX4_settledField_62 : decode cX4_settledField 62 = .ok (.lstore 9, 2) := by decide +kernel
theorem dX4_settledField_64 : decode cX4_settledField 64 = .ok (.lload 5, 2) := by decide +kernel
theorem dX4_settledField_66 : decode cX4_settledField 66 = .ok (.lload 9, 2) := by decide +kernel
theorem dX4_settledField_68 : decode cX4_settledField 68 = .ok (.lcmp, 1) := by decide +kernel
theorem dX4_settledField_69 : decode cX4_settledField 69 = .ok (.ifCond .ne 6, 3) := by decide +kernel
theorem dX4_settledField_72 : decode cX4_settledField 72 = .ok (.lload 7, 2) := by decide +kernel
theorem dX4_settledField_74 : decode cX4_settledField 74 = .ok (.lreturn, 1) := by decide +kernel
theorem dX4_settledField_75 : decode cX4_settledField 75 = .ok (.lload 7, 2) := by decide +kernel
theorem dX4_settledField_77 : decode cX4_settledField 77 = .ok (.lload 9, 2) := by decide +kernel
theorem dX4_settledField_79 : decode cX4_settledField 79 = .ok (.lcmp, 1) := by decide +kernel
theorem dX4_settledField_80 : decode cX4_settledField 80 = .ok (.ifCond .ne 8, 3) := by decide +kernel
theorem dX4_settledField_83 : decode cX4_settledField 83 = .ok (.lload 5, 2) := by decide +kernel
theorem dX4_settledField_85 : decode cX4_settledField 85 = .ok (.goto 5, 3) := by decide +kernel
theorem dX4_settledField_88 : decode cX4_settledField 88 = .ok (.lload 9, 2) := by decide +kernel
theorem dX4_settledField_90 : decode cX4_settledField 90 = .ok (.lreturn, 1) := by decide +kernel
theorem dX4_settledList_0 : decode cX4_settledList 0 = .ok (.iload_n 2, 1) := by decide +kernel
theorem dX4_settledList_1 : decode cX4_settledList 1 = .ok (.iconst (-1), 1) := by decide +kernel
theorem dX4_settledList_2 : decode cX4_settledList 2 = .ok (.if_icmp .ne 8, 3) := by decide +kernel
theorem dX4_settledList_5 : decode cX4_settledList 5 = .ok (.aload_n 0, 1) := by decide +kernel
theorem dX4_settledList_6 : decode cX4_settledList 6 = .ok (.getfield 31, 3) := by decide +kernel
theorem dX4_settledList_9 : decode cX4_settledList 9 = .ok (.areturn, 1) := by decide +kernel
theorem dX4_settledList_10 : decode cX4_settledList 10 = .ok (.iload_n 3, 1) := by decide +kernel
theorem dX4_settledList_11 : decode cX4_settledList 11 = .ok (.iconst (-1), 1) := by decide +kernel
theorem dX4_settledList_12 : decode cX4_settledList 12 = .ok (.if_icmp .eq 24, 3) := by decide +kernel
theorem dX4_settledList_15 : decode cX4_settledList 15 = .ok (.iload_n 1, 1) := by decide +kernel
theorem dX4_settledList_16 : decode cX4_settledList 16 = .ok (.iconst (-1), 1) := by decide +kernel
theorem dX4_settledList_17 : decode cX4_settledList 17 = .ok (.if_icmp .eq 19, 3) := by decide +kernel
theorem dX4_settledList_20 : decode cX4_settledList 20 = .ok (.aload_n 0, 1) := by decide +kernel
theorem dX4_settledList_21 : decode cX4_settledList 21 = .ok (.getfield 28, 3) := by decide +kernel
theorem dX4_settledList_24 : decode cX4_settledList 24 = .ok (.iload_n 2, 1) := by decide +kernel
theorem dX4_settledList_25 : decode cX4_settledList 25 = .ok (.aload_n 0, 1) := by decide +kernel
theorem dX4_settledList_26 : decode cX4_settledList 26 = .ok (.getfield 31, 3) := by decide +kernel
theorem dX4_settledList_29 : decode cX4_settledList 29 = .ok (.iload_n 3, 1) := by decide +kernel
theorem dX4_settledList_30 : decode cX4_settledList 30 = .ok (.invokestatic 105, 3) := by decide +kernel
theorem dX4_settledList_33 : decode cX4_settledList 33 = .ok (.ifCond .eq 8, 3) := by decide +kernel
theorem dX4_settledList_36 : decode cX4_settledList 36 = .ok (.aload_n 0, 1) := by decide +kernel
theorem dX4_settledList_37 : decode cX4_settledList 37 = .ok (.getfield 28, 3) := by decide +kernel
theorem dX4_settledList_40 : decode cX4_settledList 40 = .ok (.areturn, 1) := by decide +kernel
theorem dX4_settledList_41 : decode cX4_settledList 41 = .ok (.aload_n 0, 1) := by decide +kernel
theorem dX4_settledList_42 : decode cX4_settledList 42 = .ok (.getfield 28, 3) := by decide +kernel
theorem dX4_settledList_45 : decode cX4_settledList 45 = .ok (.iload_n 2, 1) := by decide +kernel
theorem dX4_settledList_46 : decode cX4_settledList 46 = .ok (.aload_n 0, 1) := by decide +kernel
theorem dX4_settledList_47 : decode cX4_settledList 47 = .ok (.getfield 25, 3) := by decide +kernel
theorem dX4_settledList_50 : decode cX4_settledList 50 = .ok (.iload_n 1, 1) := by decide +kernel
theorem dX4_settledList_51 : decode cX4_settledList 51 = .ok (.invokestatic 105, 3) := by decide +kernel
theorem dX4_settledList_54 : decode cX4_settledList 54 = .ok (.ifCond .eq 8, 3) := by decide +kernel
theorem dX4_settledList_57 : decode cX4_settledList 57 = .ok (.aload_n 0, 1) := by decide +kernel
theorem dX4_settledList_58 : decode cX4_settledList 58 = .ok (.getfield 31, 3) := by decide +kernel
theorem dX4_settledList_61 : decode cX4_settledList 61 = .ok (.areturn, 1) := by decide +kernel
theorem dX4_settledList_62 : decode cX4_settledList 62 = .ok (.aload_n 0, 1) := by decide +kernel
theorem dX4_settledList_63 : decode cX4_settledList 63 = .ok (.getfield 31, 3) := by decide +kernel
theorem dX4_settledList_66 : decode cX4_settledList 66 = .ok (.iload_n 3, 1) := by decide +kernel
theorem dX4_settledList_67 : decode cX4_settledList 67 = .ok (.aload_n 0, 1) := by decide +kernel
theorem dX4_settledList_68 : decode cX4_settledList 68 = .ok (.getfield 25, 3) := by decide +kernel
theorem dX4_settledList_71 : decode cX4_settledList 71 = .ok (.iload_n 1, 1) := by decide +kernel
