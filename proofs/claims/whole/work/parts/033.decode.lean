theorem dX10_children_23 : decode cX10_children 23 = .ok (.iload 4, 2) := by decide +kernel
theorem dX10_children_25 : decode cX10_children 25 = .ok (.invokevirtual 119, 3) := by decide +kernel
theorem dX10_children_28 : decode cX10_children 28 = .ok (.istore 4, 2) := by decide +kernel
theorem dX10_children_30 : decode cX10_children 30 = .ok (.goto (-23), 3) := by decide +kernel
theorem dX10_children_33 : decode cX10_children 33 = .ok (.iload_n 3, 1) := by decide +kernel
theorem dX10_children_34 : decode cX10_children 34 = .ok (.ireturn, 1) := by decide +kernel
theorem dX10_named_0 : decode cX10_named 0 = .ok (.iconst 0, 1) := by decide +kernel
theorem dX10_named_1 : decode cX10_named 1 = .ok (.istore_n 3, 1) := by decide +kernel
theorem dX10_named_2 : decode cX10_named 2 = .ok (.iload_n 3, 1) := by decide +kernel
theorem dX10_named_3 : decode cX10_named 3 = .ok (.aload_n 0, 1) := by decide +kernel
theorem dX10_named_4 : decode cX10_named 4 = .ok (.getfield 13, 3) := by decide +kernel
theorem dX10_named_7 : decode cX10_named 7 = .ok (.iload_n 1, 1) := by decide +kernel
theorem dX10_named_8 : decode cX10_named 8 = .ok (.iaload, 1) := by decide +kernel
theorem dX10_named_9 : decode cX10_named 9 = .ok (.if_icmp .ge 22, 3) := by decide +kernel
theorem dX10_named_12 : decode cX10_named 12 = .ok (.aload_n 0, 1) := by decide +kernel
theorem dX10_named_13 : decode cX10_named 13 = .ok (.iload_n 1, 1) := by decide +kernel
theorem dX10_named_14 : decode cX10_named 14 = .ok (.iload_n 3, 1) := by decide +kernel
theorem dX10_named_15 : decode cX10_named 15 = .ok (.iconst 0, 1) := by decide +kernel
theorem dX10_named_16 : decode cX10_named 16 = .ok (.invokevirtual 104, 3) := by decide +kernel
theorem dX10_named_19 : decode cX10_named 19 = .ok (.iload_n 2, 1) := by decide +kernel
theorem dX10_named_20 : decode cX10_named 20 = .ok (.if_icmp .ne 5, 3) := by decide +kernel
theorem dX10_named_23 : decode cX10_named 23 = .ok (.iload_n 3, 1) := by decide +kernel
theorem dX10_named_24 : decode cX10_named 24 = .ok (.ireturn, 1) := by decide +kernel
theorem dX10_named_25 : decode cX10_named 25 = .ok (.iinc 3 1, 3) := by decide +kernel
theorem dX10_named_28 : decode cX10_named 28 = .ok (.goto (-26), 3) := by decide +kernel
theorem dX10_named_31 : decode cX10_named 31 = .ok (.iconst (-1), 1) := by decide +kernel
theorem dX10_named_32 : decode cX10_named 32 = .ok (.ireturn, 1) := by decide +kernel
theorem dX10_isLike_0 : decode cX10_isLike 0 = .ok (.aload_n 0, 1) := by decide +kernel
theorem dX10_isLike_1 : decode cX10_isLike 1 = .ok (.iload_n 1, 1) := by decide +kernel
theorem dX10_isLike_2 : decode cX10_isLike 2 = .ok (.iload_n 2, 1) := by decide +kernel
theorem dX10_isLike_3 : decode cX10_isLike 3 = .ok (.iload 5, 2) := by decide +kernel
theorem dX10_isLike_5 : decode cX10_isLike 5 = .ok (.invokevirtual 104, 3) := by decide +kernel
theorem dX10_isLike_8 : decode cX10_isLike 8 = .ok (.istore 6, 2) := by decide +kernel
theorem dX10_isLike_10 : decode cX10_isLike 10 = .ok (.aload_n 0, 1) := by decide +kernel
theorem dX10_isLike_11 : decode cX10_isLike 11 = .ok (.iload_n 3, 1) := by decide +kernel
theorem dX10_isLike_12 : decode cX10_isLike 12 = .ok (.iload 4, 2) := by decide +kernel
theorem dX10_isLike_14 : decode cX10_isLike 14 = .ok (.iload 5, 2) := by decide +kernel
theorem dX10_isLike_16 : decode cX10_isLike 16 = .ok (.invokevirtual 104, 3) := by decide +kernel
theorem dX10_isLike_19 : decode cX10_isLike 19 = .ok (.iload 6, 2) := by decide +kernel
theorem dX10_isLike_21 : decode cX10_isLike 21 = .ok (.if_icmp .eq 5, 3) := by decide +kernel
theorem dX10_isLike_24 : decode cX10_isLike 24 = .ok (.iconst 0, 1) := by decide +kernel
theorem dX10_isLike_25 : decode cX10_isLike 25 = .ok (.ireturn, 1) := by decide +kernel
theorem dX10_isLike_26 : decode cX10_isLike 26 = .ok (.iconst 1, 1) := by decide +kernel
theorem dX10_isLike_27 : decode cX10_isLike 27 = .ok (.istore 7, 2) := by decide +kernel
theorem dX10_isLike_29 : decode cX10_isLike 29 = .ok (.iload 7, 2) := by decide +kernel
theorem dX10_isLike_31 : decode cX10_isLike 31 = .ok (.iload 6, 2) := by decide +kernel
theorem dX10_isLike_33 : decode cX10_isLike 33 = .ok (.if_icmp .gt 37, 3) := by decide +kernel
theorem dX10_isLike_36 : decode cX10_isLike 36 = .ok (.aload_n 0, 1) := by decide +kernel
theorem dX10_isLike_37 : decode cX10_isLike 37 = .ok (.iload_n 1, 1) := by decide +kernel
theorem dX10_isLike_38 : decode cX10_isLike 38 = .ok (.iload_n 2, 1) := by decide +kernel
theorem dX10_isLike_39 : decode cX10_isLike 39 = .ok (.iload 5, 2) := by decide +kernel
theorem dX10_isLike_41 : decode cX10_isLike 41 = .ok (.iload 7, 2) := by decide +kernel
theorem dX10_isLike_43 : decode cX10_isLike 43 = .ok (.iadd, 1) := by decide +kernel
theorem dX10_isLike_44 : decode cX10_isLike 44 = .ok (.invokevirtual 104, 3) := by decide +kernel
theorem dX10_isLike_47 : decode cX10_isLike 47 = .ok (.aload_n 0, 1) := by decide +kernel
theorem dX10_isLike_48 : decode cX10_isLike 48 = .ok (.iload_n 3, 1) := by decide +kernel
theorem dX10_isLike_49 : decode cX10_isLike 49 = .ok (.iload 4, 2) := by decide +kernel
theorem dX10_isLike_51 : decode cX10_isLike 51 = .ok (.iload 5, 2) := by decide +kernel
theorem dX10_isLike_53 : decode cX10_isLike 53 = .ok (.iload 7, 2) := by decide +kernel
theorem dX10_isLike_55 : decode cX10_isLike 55 = .ok (.iadd, 1) := by decide +kernel
theorem dX10_isLike_56 : decode cX10_isLike 56 = .ok (.invokevirtual 104, 3) := by decide +kernel
theorem dX10_isLike_59 : decode cX10_isLike 59 = .ok (.if_icmp .eq 5, 3) := by decide +kernel
theorem dX10_isLike_62 : decode cX10_isLike 62 = .ok (.iconst 0, 1) := by decide +kernel
theorem dX10_isLike_63 : decode cX10_isLike 63 = .ok (.ireturn, 1) := by decide +kernel
theorem dX10_isLike_64 : decode cX10_isLike 64 = .ok (.iinc 7 1, 3) := by decide +kernel
theorem dX10_isLike_67 : decode cX10_isLike 67 = .ok (.goto (-38), 3) := by decide +kernel
theorem dX10_isLike_70 : decode cX10_isLike 70 = .ok (.iconst 1, 1) := by decide +kernel
theorem dX10_isLike_71 : decode cX10_isLike 71 = .ok (.ireturn, 1) := by decide +kernel
theorem dX10_hasTwice_0 : decode cX10_hasTwice 0 = .ok (.iconst 0, 1) := by decide +kernel
theorem dX10_hasTwice_1 : decode cX10_hasTwice 1 = .ok (.istore_n 2, 1) := by decide +kernel
theorem dX10_hasTwice_2 : decode cX10_hasTwice 2 = .ok (.iload_n 2, 1) := by decide +kernel
theorem dX10_hasTwice_3 : decode cX10_hasTwice 3 = .ok (.aload_n 0, 1) := by decide +kernel
theorem dX10_hasTwice_4 : decode cX10_hasTwice 4 = .ok (.getfield 13, 3) := by decide +kernel
theorem dX10_hasTwice_7 : decode cX10_hasTwice 7 = .ok (.iload_n 1, 1) := by decide +kernel
theorem dX10_hasTwice_8 : decode cX10_hasTwice 8 = .ok (.iaload, 1) := by decide +kernel
theorem dX10_hasTwice_9 : decode cX10_hasTwice 9 = .ok (.if_icmp .ge 85, 3) := by decide +kernel
theorem dX10_hasTwice_12 : decode cX10_hasTwice 12 = .ok (.aload_n 0, 1) := by decide +kernel
theorem dX10_hasTwice_13 : decode cX10_hasTwice 13 = .ok (.iload_n 1, 1) := by decide +kernel
theorem dX10_hasTwice_14 : decode cX10_hasTwice 14 = .ok (.iload_n 2, 1) := by decide +kernel
theorem dX10_hasTwice_15 : decode cX10_hasTwice 15 = .ok (.iconst 1, 1) := by decide +kernel
theorem dX10_hasTwice_16 : decode cX10_hasTwice 16 = .ok (.invokevirtual 104, 3) := by decide +kernel
theorem dX10_hasTwice_19 : decode cX10_hasTwice 19 = .ok (.iconst 2, 1) := by decide +kernel
theorem dX10_hasTwice_20 : decode cX10_hasTwice 20 = .ok (.if_icmp .eq 6, 3) := by decide +kernel
theorem dX10_hasTwice_23 : decode cX10_hasTwice 23 = .ok (.goto 65, 3) := by decide +kernel
theorem dX10_hasTwice_26 : decode cX10_hasTwice 26 = .ok (.iload_n 2, 1) := by decide +kernel
theorem dX10_hasTwice_27 : decode cX10_hasTwice 27 = .ok (.iconst 1, 1) := by decide +kernel
theorem dX10_hasTwice_28 : decode cX10_hasTwice 28 = .ok (.iadd, 1) := by decide +kernel
theorem dX10_hasTwice_29 : decode cX10_hasTwice 29 = .ok (.istore_n 3, 1) := by decide +kernel
theorem dX10_hasTwice_30 : decode cX10_hasTwice 30 = .ok (.iload_n 3, 1) := by decide +kernel
theorem dX10_hasTwice_31 : decode cX10_hasTwice 31 = .ok (.aload_n 0, 1) := by decide +kernel
theorem dX10_hasTwice_32 : decode cX10_hasTwice 32 = .ok (.iload_n 1, 1) := by decide +kernel
theorem dX10_hasTwice_33 : decode cX10_hasTwice 33 = .ok (.iload_n 2, 1) := by decide +kernel
theorem dX10_hasTwice_34 : decode cX10_hasTwice 34 = .ok (.invokevirtual 119, 3) := by decide +kernel
theorem dX10_hasTwice_37 : decode cX10_hasTwice 37 = .ok (.if_icmp .ge 51, 3) := by decide +kernel
theorem dX10_hasTwice_40 : decode cX10_hasTwice 40 = .ok (.iload_n 2, 1) := by decide +kernel
theorem dX10_hasTwice_41 : decode cX10_hasTwice 41 = .ok (.iconst 1, 1) := by decide +kernel
theorem dX10_hasTwice_42 : decode cX10_hasTwice 42 = .ok (.iadd, 1) := by decide +kernel
theorem dX10_hasTwice_43 : decode cX10_hasTwice 43 = .ok (.istore 4, 2) := by decide +kernel
theorem dX10_hasTwice_45 : decode cX10_hasTwice 45 = .ok (.iload 4, 2) := by decide +kernel
theorem dX10_hasTwice_47 : decode cX10_hasTwice 47 = .ok (.iload_n 3, 1) := by decide +kernel
theorem dX10_hasTwice_48 : decode cX10_hasTwice 48 = .ok (.if_icmp .ge 30, 3) := by decide +kernel
theorem dX10_hasTwice_51 : decode cX10_hasTwice 51 = .ok (.aload_n 0, 1) := by decide +kernel
theorem dX10_hasTwice_52 : decode cX10_hasTwice 52 = .ok (.iload_n 1, 1) := by decide +kernel
theorem dX10_hasTwice_53 : decode cX10_hasTwice 53 = .ok (.iload_n 3, 1) := by decide +kernel
theorem dX10_hasTwice_54 : decode cX10_hasTwice 54 = .ok (.iload_n 1, 1) := by decide +kernel
theorem dX10_hasTwice_55 : decode cX10_hasTwice 55 = .ok (.iload 4, 2) := by decide +kernel
theorem dX10_hasTwice_57 : decode cX10_hasTwice 57 = .ok (.iconst 3, 1) := by decide +kernel
theorem dX10_hasTwice_58 : decode cX10_hasTwice 58 = .ok (.invokevirtual 122, 3) := by decide +kernel
theorem dX10_hasTwice_61 : decode cX10_hasTwice 61 = .ok (.ifCond .eq 5, 3) := by decide +kernel
theorem dX10_hasTwice_64 : decode cX10_hasTwice 64 = .ok (.iconst 1, 1) := by decide +kernel
theorem dX10_hasTwice_65 : decode cX10_hasTwice 65 = .ok (.ireturn, 1) := by decide +kernel
theorem dX10_hasTwice_66 : decode cX10_hasTwice 66 = .ok (.aload_n 0, 1) := by decide +kernel
theorem dX10_hasTwice_67 : decode cX10_hasTwice 67 = .ok (.iload_n 1, 1) := by decide +kernel
theorem dX10_hasTwice_68 : decode cX10_hasTwice 68 = .ok (.iload 4, 2) := by decide +kernel
theorem dX10_hasTwice_70 : decode cX10_hasTwice 70 = .ok (.invokevirtual 119, 3) := by decide +kernel
theorem dX10_hasTwice_73 : decode cX10_hasTwice 73 = .ok (.istore 4, 2) := by decide +kernel
theorem dX10_hasTwice_75 : decode cX10_hasTwice 75 = .ok (.goto (-30), 3) := by decide +kernel
theorem dX10_hasTwice_78 : decode cX10_hasTwice 78 = .ok (.aload_n 0, 1) := by decide +kernel
theorem dX10_hasTwice_79 : decode cX10_hasTwice 79 = .ok (.iload_n 1, 1) := by decide +kernel
theorem dX10_hasTwice_80 : decode cX10_hasTwice 80 = .ok (.iload_n 3, 1) := by decide +kernel
theorem dX10_hasTwice_81 : decode cX10_hasTwice 81 = .ok (.invokevirtual 119, 3) := by decide +kernel
theorem dX10_hasTwice_84 : decode cX10_hasTwice 84 = .ok (.istore_n 3, 1) := by decide +kernel
theorem dX10_hasTwice_85 : decode cX10_hasTwice 85 = .ok (.goto (-55), 3) := by decide +kernel
theorem dX10_hasTwice_88 : decode cX10_hasTwice 88 = .ok (.iinc 2 1, 3) := by decide +kernel
theorem dX10_hasTwice_91 : decode cX10_hasTwice 91 = .ok (.goto (-89), 3) := by decide +kernel
theorem dX10_hasTwice_94 : decode cX10_hasTwice 94 = .ok (.iconst 0, 1) := by decide +kernel
theorem dX10_hasTwice_95 : decode cX10_hasTwice 95 = .ok (.ireturn, 1) := by decide +kernel
theorem dX10_isTooDeep_0 : decode cX10_isTooDeep 0 = .ok (.iconst 0, 1) := by decide +kernel
theorem dX10_isTooDeep_1 : decode cX10_isTooDeep 1 = .ok (.istore_n 2, 1) := by decide +kernel
theorem dX10_isTooDeep_2 : decode cX10_isTooDeep 2 = .ok (.iload_n 2, 1) := by decide +kernel
theorem dX10_isTooDeep_3 : decode cX10_isTooDeep 3 = .ok (.aload_n 0, 1) := by decide +kernel
theorem dX10_isTooDeep_4 : decode cX10_isTooDeep 4 = .ok (.getfield 13, 3) := by decide +kernel
theorem dX10_isTooDeep_7 : decode cX10_isTooDeep 7 = .ok (.iload_n 1, 1) := by decide +kernel
theorem dX10_isTooDeep_8 : decode cX10_isTooDeep 8 = .ok (.iaload, 1) := by decide +kernel
theorem dX10_isTooDeep_9 : decode cX10_isTooDeep 9 = .ok (.if_icmp .ge 22, 3) := by decide +kernel
theorem dX10_isTooDeep_12 : decode cX10_isTooDeep 12 = .ok (.aload_n 0, 1) := by decide +kernel
theorem dX10_isTooDeep_13 : decode cX10_isTooDeep 13 = .ok (.iload_n 1, 1) := by decide +kernel
theorem dX10_isTooDeep_14 : decode cX10_isTooDeep 14 = .ok (.iload_n 2, 1) := by decide +kernel
theorem dX10_isTooDeep_15 : decode cX10_isTooDeep 15 = .ok (.invokevirtual 115, 3) := by decide +kernel
theorem dX10_isTooDeep_18 : decode cX10_isTooDeep 18 = .ok (.bipush 12, 2) := by decide +kernel
theorem dX10_isTooDeep_20 : decode cX10_isTooDeep 20 = .ok (.if_icmp .lt 5, 3) := by decide +kernel
theorem dX10_isTooDeep_23 : decode cX10_isTooDeep 23 = .ok (.iconst 1, 1) := by decide +kernel
theorem dX10_isTooDeep_24 : decode cX10_isTooDeep 24 = .ok (.ireturn, 1) := by decide +kernel
theorem dX10_isTooDeep_25 : decode cX10_isTooDeep 25 = .ok (.iinc 2 1, 3) := by decide +kernel
theorem dX10_isTooDeep_28 : decode cX10_isTooDeep 28 = .ok (.goto (-26), 3) := by decide +kernel
theorem dX10_isTooDeep_31 : decode cX10_isTooDeep 31 = .ok (.iconst 0, 1) := by decide +kernel
theorem dX10_isTooDeep_32 : decode cX10_isTooDeep 32 = .ok (.ireturn, 1) := by decide +kernel
theorem dX10_feed_0 : decode cX10_feed 0 = .ok (.iload_n 3, 1) := by decide +kernel
theorem dX10_feed_1 : decode cX10_feed 1 = .ok (.iconst 1, 1) := by decide +kernel
theorem dX10_feed_2 : decode cX10_feed 2 = .ok (.bipush 8, 2) := by decide +kernel
theorem dX10_feed_4 : decode cX10_feed 4 = .ok (.invokestatic 96, 3) := by decide +kernel
theorem dX10_feed_7 : decode cX10_feed 7 = .ok (.ifCond .ne 9, 3) := by decide +kernel
theorem dX10_feed_10 : decode cX10_feed 10 = .ok (.aload_n 0, 1) := by decide +kernel
theorem dX10_feed_11 : decode cX10_feed 11 = .ok (.iconst (-1), 1) := by decide +kernel
theorem dX10_feed_12 : decode cX10_feed 12 = .ok (.invokevirtual 126, 3) := by decide +kernel
theorem dX10_feed_15 : decode cX10_feed 15 = .ok (.ireturn, 1) := by decide +kernel
theorem dX10_feed_16 : decode cX10_feed 16 = .ok (.aload_n 0, 1) := by decide +kernel
theorem dX10_feed_17 : decode cX10_feed 17 = .ok (.getfield 130, 3) := by decide +kernel
theorem dX10_feed_20 : decode cX10_feed 20 = .ok (.iload_n 3, 1) := by decide +kernel
theorem dX10_feed_21 : decode cX10_feed 21 = .ok (.iadd, 1) := by decide +kernel
theorem dX10_feed_22 : decode cX10_feed 22 = .ok (.sipush 400, 3) := by decide +kernel
theorem dX10_feed_25 : decode cX10_feed 25 = .ok (.if_icmp .le 10, 3) := by decide +kernel
theorem dX10_feed_28 : decode cX10_feed 28 = .ok (.aload_n 0, 1) := by decide +kernel
theorem dX10_feed_29 : decode cX10_feed 29 = .ok (.bipush (-5), 2) := by decide +kernel
theorem dX10_feed_31 : decode cX10_feed 31 = .ok (.invokevirtual 126, 3) := by decide +kernel
theorem dX10_feed_34 : decode cX10_feed 34 = .ok (.ireturn, 1) := by decide +kernel
theorem dX10_feed_35 : decode cX10_feed 35 = .ok (.iconst 0, 1) := by decide +kernel
theorem dX10_feed_36 : decode cX10_feed 36 = .ok (.istore 4, 2) := by decide +kernel
theorem dX10_feed_38 : decode cX10_feed 38 = .ok (.iload 4, 2) := by decide +kernel
theorem dX10_feed_40 : decode cX10_feed 40 = .ok (.iload_n 3, 1) := by decide +kernel
theorem dX10_feed_41 : decode cX10_feed 41 = .ok (.if_icmp .ge 33, 3) := by decide +kernel
theorem dX10_feed_44 : decode cX10_feed 44 = .ok (.aload_n 0, 1) := by decide +kernel
theorem dX10_feed_45 : decode cX10_feed 45 = .ok (.getfield 16, 3) := by decide +kernel
theorem dX10_feed_48 : decode cX10_feed 48 = .ok (.aload_n 0, 1) := by decide +kernel
theorem dX10_feed_49 : decode cX10_feed 49 = .ok (.getfield 130, 3) := by decide +kernel
theorem dX10_feed_52 : decode cX10_feed 52 = .ok (.iload 4, 2) := by decide +kernel
theorem dX10_feed_54 : decode cX10_feed 54 = .ok (.iadd, 1) := by decide +kernel
theorem dX10_feed_55 : decode cX10_feed 55 = .ok (.lload_n 1, 1) := by decide +kernel
theorem dX10_feed_56 : decode cX10_feed 56 = .ok (.bipush 8, 2) := by decide +kernel
theorem dX10_feed_58 : decode cX10_feed 58 = .ok (.iload 4, 2) := by decide +kernel
theorem dX10_feed_60 : decode cX10_feed 60 = .ok (.imul, 1) := by decide +kernel
theorem dX10_feed_61 : decode cX10_feed 61 = .ok (.lshr, 1) := by decide +kernel
theorem dX10_feed_62 : decode cX10_feed 62 = .ok (.ldc2_w 133, 3) := by decide +kernel
theorem dX10_feed_65 : decode cX10_feed 65 = .ok (.land, 1) := by decide +kernel
theorem dX10_feed_66 : decode cX10_feed 66 = .ok (.l2i, 1) := by decide +kernel
theorem dX10_feed_67 : decode cX10_feed 67 = .ok (.iastore, 1) := by decide +kernel
theorem dX10_feed_68 : decode cX10_feed 68 = .ok (.iinc 4 1, 3) := by decide +kernel
theorem dX10_feed_71 : decode cX10_feed 71 = .ok (.goto (-33), 3) := by decide +kernel
theorem dX10_feed_74 : decode cX10_feed 74 = .ok (.aload_n 0, 1) := by decide +kernel
theorem dX10_feed_75 : decode cX10_feed 75 = .ok (.dup, 1) := by decide +kernel
theorem dX10_feed_76 : decode cX10_feed 76 = .ok (.getfield 130, 3) := by decide +kernel
theorem dX10_feed_79 : decode cX10_feed 79 = .ok (.iload_n 3, 1) := by decide +kernel
theorem dX10_feed_80 : decode cX10_feed 80 = .ok (.iadd, 1) := by decide +kernel
theorem dX10_feed_81 : decode cX10_feed 81 = .ok (.putfield 130, 3) := by decide +kernel
theorem dX10_feed_84 : decode cX10_feed 84 = .ok (.aload_n 0, 1) := by decide +kernel
theorem dX10_feed_85 : decode cX10_feed 85 = .ok (.getfield 130, 3) := by decide +kernel
theorem dX10_feed_88 : decode cX10_feed 88 = .ok (.ireturn, 1) := by decide +kernel
theorem dX10_isLetter_0 : decode cX10_isLetter 0 = .ok (.iload_n 0, 1) := by decide +kernel
theorem dX10_isLetter_1 : decode cX10_isLetter 1 = .ok (.bipush 97, 2) := by decide +kernel
theorem dX10_isLetter_3 : decode cX10_isLetter 3 = .ok (.if_icmp .lt 13, 3) := by decide +kernel
theorem dX10_isLetter_6 : decode cX10_isLetter 6 = .ok (.iload_n 0, 1) := by decide +kernel
theorem dX10_isLetter_7 : decode cX10_isLetter 7 = .ok (.bipush 122, 2) := by decide +kernel
theorem dX10_isLetter_9 : decode cX10_isLetter 9 = .ok (.if_icmp .gt 7, 3) := by decide +kernel
theorem dX10_isLetter_12 : decode cX10_isLetter 12 = .ok (.iconst 1, 1) := by decide +kernel
theorem dX10_isLetter_13 : decode cX10_isLetter 13 = .ok (.goto 4, 3) := by decide +kernel
theorem dX10_isLetter_16 : decode cX10_isLetter 16 = .ok (.iconst 0, 1) := by decide +kernel
theorem dX10_isLetter_17 : decode cX10_isLetter 17 = .ok (.ireturn, 1) := by decide +kernel
theorem dX10_isSign_0 : decode cX10_isSign 0 = .ok (.iload_n 0, 1) := by decide +kernel
theorem dX10_isSign_1 : decode cX10_isSign 1 = .ok (.invokestatic 135, 3) := by decide +kernel
theorem dX10_isSign_4 : decode cX10_isSign 4 = .ok (.ifCond .ne 15, 3) := by decide +kernel
theorem dX10_isSign_7 : decode cX10_isSign 7 = .ok (.iload_n 0, 1) := by decide +kernel
theorem dX10_isSign_8 : decode cX10_isSign 8 = .ok (.bipush 48, 2) := by decide +kernel
theorem dX10_isSign_10 : decode cX10_isSign 10 = .ok (.if_icmp .lt 13, 3) := by decide +kernel
theorem dX10_isSign_13 : decode cX10_isSign 13 = .ok (.iload_n 0, 1) := by decide +kernel
theorem dX10_isSign_14 : decode cX10_isSign 14 = .ok (.bipush 57, 2) := by decide +kernel
theorem dX10_isSign_16 : decode cX10_isSign 16 = .ok (.if_icmp .gt 7, 3) := by decide +kernel
theorem dX10_isSign_19 : decode cX10_isSign 19 = .ok (.iconst 1, 1) := by decide +kernel
theorem dX10_isSign_20 : decode cX10_isSign 20 = .ok (.goto 4, 3) := by decide +kernel
theorem dX10_isSign_23 : decode cX10_isSign 23 = .ok (.iconst 0, 1) := by decide +kernel
theorem dX10_isSign_24 : decode cX10_isSign 24 = .ok (.ireturn, 1) := by decide +kernel
theorem dX10_at_0 : decode cX10_at 0 = .ok (.iload_n 1, 1) := by decide +kernel
theorem dX10_at_1 : decode cX10_at 1 = .ok (.iload_n 2, 1) := by decide +kernel
theorem dX10_at_2 : decode cX10_at 2 = .ok (.if_icmp .ge 12, 3) := by decide +kernel
theorem dX10_at_5 : decode cX10_at 5 = .ok (.aload_n 0, 1) := by decide +kernel
theorem dX10_at_6 : decode cX10_at 6 = .ok (.getfield 16, 3) := by decide +kernel
theorem dX10_at_9 : decode cX10_at 9 = .ok (.iload_n 1, 1) := by decide +kernel
theorem dX10_at_10 : decode cX10_at 10 = .ok (.iaload, 1) := by decide +kernel
theorem dX10_at_11 : decode cX10_at 11 = .ok (.goto 4, 3) := by decide +kernel
theorem dX10_at_14 : decode cX10_at 14 = .ok (.iconst (-1), 1) := by decide +kernel
theorem dX10_at_15 : decode cX10_at 15 = .ok (.ireturn, 1) := by decide +kernel
theorem dX10_signs_0 : decode cX10_signs 0 = .ok (.iload_n 2, 1) := by decide +kernel
theorem dX10_signs_1 : decode cX10_signs 1 = .ok (.istore 6, 2) := by decide +kernel
theorem dX10_signs_3 : decode cX10_signs 3 = .ok (.iload 4, 2) := by decide +kernel
theorem dX10_signs_5 : decode cX10_signs 5 = .ok (.iconst 3, 1) := by decide +kernel
theorem dX10_signs_6 : decode cX10_signs 6 = .ok (.if_icmp .ne 19, 3) := by decide +kernel
theorem dX10_signs_9 : decode cX10_signs 9 = .ok (.aload_n 0, 1) := by decide +kernel
theorem dX10_signs_10 : decode cX10_signs 10 = .ok (.iload 6, 2) := by decide +kernel
theorem dX10_signs_12 : decode cX10_signs 12 = .ok (.iload_n 3, 1) := by decide +kernel
theorem dX10_signs_13 : decode cX10_signs 13 = .ok (.invokevirtual 138, 3) := by decide +kernel
theorem dX10_signs_16 : decode cX10_signs 16 = .ok (.invokestatic 135, 3) := by decide +kernel
theorem dX10_signs_19 : decode cX10_signs 19 = .ok (.ifCond .eq 62, 3) := by decide +kernel
theorem dX10_signs_22 : decode cX10_signs 22 = .ok (.goto 16, 3) := by decide +kernel
theorem dX10_signs_25 : decode cX10_signs 25 = .ok (.aload_n 0, 1) := by decide +kernel
theorem dX10_signs_26 : decode cX10_signs 26 = .ok (.iload 6, 2) := by decide +kernel
theorem dX10_signs_28 : decode cX10_signs 28 = .ok (.iload_n 3, 1) := by decide +kernel
theorem dX10_signs_29 : decode cX10_signs 29 = .ok (.invokevirtual 138, 3) := by decide +kernel
theorem dX10_signs_32 : decode cX10_signs 32 = .ok (.invokestatic 141, 3) := by decide +kernel
theorem dX10_signs_35 : decode cX10_signs 35 = .ok (.ifCond .eq 46, 3) := by decide +kernel
theorem dX10_signs_38 : decode cX10_signs 38 = .ok (.iload 6, 2) := by decide +kernel
theorem dX10_signs_40 : decode cX10_signs 40 = .ok (.iload_n 2, 1) := by decide +kernel
theorem dX10_signs_41 : decode cX10_signs 41 = .ok (.isub, 1) := by decide +kernel
theorem dX10_signs_42 : decode cX10_signs 42 = .ok (.iload 5, 2) := by decide +kernel
theorem dX10_signs_44 : decode cX10_signs 44 = .ok (.if_icmp .ne 8, 3) := by decide +kernel
theorem dX10_signs_47 : decode cX10_signs 47 = .ok (.iconst (-1), 1) := by decide +kernel
theorem dX10_signs_48 : decode cX10_signs 48 = .ok (.iload 6, 2) := by decide +kernel
theorem dX10_signs_50 : decode cX10_signs 50 = .ok (.isub, 1) := by decide +kernel
theorem dX10_signs_51 : decode cX10_signs 51 = .ok (.ireturn, 1) := by decide +kernel
theorem dX10_signs_52 : decode cX10_signs 52 = .ok (.aload_n 0, 1) := by decide +kernel
theorem dX10_signs_53 : decode cX10_signs 53 = .ok (.bipush 8, 2) := by decide +kernel
theorem dX10_signs_55 : decode cX10_signs 55 = .ok (.iload_n 1, 1) := by decide +kernel
theorem dX10_signs_56 : decode cX10_signs 56 = .ok (.iload 4, 2) := by decide +kernel
theorem dX10_signs_58 : decode cX10_signs 58 = .ok (.iconst 1, 1) := by decide +kernel
theorem dX10_signs_59 : decode cX10_signs 59 = .ok (.iadd, 1) := by decide +kernel
theorem dX10_signs_60 : decode cX10_signs 60 = .ok (.iload 6, 2) := by decide +kernel
theorem dX10_signs_62 : decode cX10_signs 62 = .ok (.iadd, 1) := by decide +kernel
theorem dX10_signs_63 : decode cX10_signs 63 = .ok (.iload_n 2, 1) := by decide +kernel
theorem dX10_signs_64 : decode cX10_signs 64 = .ok (.isub, 1) := by decide +kernel
theorem dX10_signs_65 : decode cX10_signs 65 = .ok (.aload_n 0, 1) := by decide +kernel
theorem dX10_signs_66 : decode cX10_signs 66 = .ok (.getfield 16, 3) := by decide +kernel
theorem dX10_signs_69 : decode cX10_signs 69 = .ok (.iload 6, 2) := by decide +kernel
theorem dX10_signs_71 : decode cX10_signs 71 = .ok (.iaload, 1) := by decide +kernel
theorem dX10_signs_72 : decode cX10_signs 72 = .ok (.invokevirtual 108, 3) := by decide +kernel
theorem dX10_signs_75 : decode cX10_signs 75 = .ok (.iinc 6 1, 3) := by decide +kernel
theorem dX10_signs_78 : decode cX10_signs 78 = .ok (.goto (-75), 3) := by decide +kernel
theorem dX10_signs_81 : decode cX10_signs 81 = .ok (.aload_n 0, 1) := by decide +kernel
theorem dX10_signs_82 : decode cX10_signs 82 = .ok (.bipush 8, 2) := by decide +kernel
theorem dX10_signs_84 : decode cX10_signs 84 = .ok (.iload_n 1, 1) := by decide +kernel
theorem dX10_signs_85 : decode cX10_signs 85 = .ok (.iload 4, 2) := by decide +kernel
theorem dX10_signs_87 : decode cX10_signs 87 = .ok (.iload 6, 2) := by decide +kernel
theorem dX10_signs_89 : decode cX10_signs 89 = .ok (.iload_n 2, 1) := by decide +kernel
theorem dX10_signs_90 : decode cX10_signs 90 = .ok (.isub, 1) := by decide +kernel
theorem dX10_signs_91 : decode cX10_signs 91 = .ok (.invokevirtual 108, 3) := by decide +kernel
theorem dX10_signs_94 : decode cX10_signs 94 = .ok (.iload 6, 2) := by decide +kernel
theorem dX10_signs_96 : decode cX10_signs 96 = .ok (.iload_n 2, 1) := by decide +kernel
theorem dX10_signs_97 : decode cX10_signs 97 = .ok (.if_icmp .ne 10, 3) := by decide +kernel
theorem dX10_signs_100 : decode cX10_signs 100 = .ok (.iconst (-1), 1) := by decide +kernel
theorem dX10_signs_101 : decode cX10_signs 101 = .ok (.iload 6, 2) := by decide +kernel
theorem dX10_signs_103 : decode cX10_signs 103 = .ok (.isub, 1) := by decide +kernel
theorem dX10_signs_104 : decode cX10_signs 104 = .ok (.goto 5, 3) := by decide +kernel
theorem dX10_signs_107 : decode cX10_signs 107 = .ok (.iload 6, 2) := by decide +kernel
theorem dX10_signs_109 : decode cX10_signs 109 = .ok (.ireturn, 1) := by decide +kernel
theorem dX10_reads_0 : decode cX10_reads 0 = .ok (.aload_n 0, 1) := by decide +kernel
theorem dX10_reads_1 : decode cX10_reads 1 = .ok (.getfield 13, 3) := by decide +kernel
theorem dX10_reads_4 : decode cX10_reads 4 = .ok (.bipush 8, 2) := by decide +kernel
theorem dX10_reads_6 : decode cX10_reads 6 = .ok (.iconst 0, 1) := by decide +kernel
theorem dX10_reads_7 : decode cX10_reads 7 = .ok (.iastore, 1) := by decide +kernel
theorem dX10_reads_8 : decode cX10_reads 8 = .ok (.iconst 0, 1) := by decide +kernel
theorem dX10_reads_9 : decode cX10_reads 9 = .ok (.istore_n 2, 1) := by decide +kernel
theorem dX10_reads_10 : decode cX10_reads 10 = .ok (.iconst 0, 1) := by decide +kernel
theorem dX10_reads_11 : decode cX10_reads 11 = .ok (.istore_n 3, 1) := by decide +kernel
theorem dX10_reads_12 : decode cX10_reads 12 = .ok (.iconst 1, 1) := by decide +kernel
theorem dX10_reads_13 : decode cX10_reads 13 = .ok (.istore 4, 2) := by decide +kernel
theorem dX10_reads_15 : decode cX10_reads 15 = .ok (.iload 4, 2) := by decide +kernel
theorem dX10_reads_17 : decode cX10_reads 17 = .ok (.ifCond .eq 438, 3) := by decide +kernel
theorem dX10_reads_20 : decode cX10_reads 20 = .ok (.aload_n 0, 1) := by decide +kernel
theorem dX10_reads_21 : decode cX10_reads 21 = .ok (.getfield 13, 3) := by decide +kernel
theorem dX10_reads_24 : decode cX10_reads 24 = .ok (.bipush 8, 2) := by decide +kernel
theorem dX10_reads_26 : decode cX10_reads 26 = .ok (.iaload, 1) := by decide +kernel
theorem dX10_reads_27 : decode cX10_reads 27 = .ok (.istore 5, 2) := by decide +kernel
theorem dX10_reads_29 : decode cX10_reads 29 = .ok (.aload_n 0, 1) := by decide +kernel
theorem dX10_reads_30 : decode cX10_reads 30 = .ok (.iload_n 3, 1) := by decide +kernel
theorem dX10_reads_31 : decode cX10_reads 31 = .ok (.iload_n 1, 1) := by decide +kernel
theorem dX10_reads_32 : decode cX10_reads 32 = .ok (.invokevirtual 138, 3) := by decide +kernel
theorem dX10_reads_35 : decode cX10_reads 35 = .ok (.invokestatic 135, 3) := by decide +kernel
theorem dX10_reads_38 : decode cX10_reads 38 = .ok (.ifCond .eq 16, 3) := by decide +kernel
theorem dX10_reads_41 : decode cX10_reads 41 = .ok (.iload 5, 2) := by decide +kernel
theorem dX10_reads_43 : decode cX10_reads 43 = .ok (.bipush 30, 2) := by decide +kernel
theorem dX10_reads_45 : decode cX10_reads 45 = .ok (.if_icmp .eq 9, 3) := by decide +kernel
theorem dX10_reads_48 : decode cX10_reads 48 = .ok (.iload_n 2, 1) := by decide +kernel
theorem dX10_reads_49 : decode cX10_reads 49 = .ok (.bipush 12, 2) := by decide +kernel
theorem dX10_reads_51 : decode cX10_reads 51 = .ok (.if_icmp .lt 5, 3) := by decide +kernel
theorem dX10_reads_54 : decode cX10_reads 54 = .ok (.iload_n 3, 1) := by decide +kernel
theorem dX10_reads_55 : decode cX10_reads 55 = .ok (.ireturn, 1) := by decide +kernel
theorem dX10_reads_56 : decode cX10_reads 56 = .ok (.iload_n 3, 1) := by decide +kernel
theorem dX10_reads_57 : decode cX10_reads 57 = .ok (.istore 6, 2) := by decide +kernel
theorem dX10_reads_59 : decode cX10_reads 59 = .ok (.aload_n 0, 1) := by decide +kernel
theorem dX10_reads_60 : decode cX10_reads 60 = .ok (.bipush 8, 2) := by decide +kernel
theorem dX10_reads_62 : decode cX10_reads 62 = .ok (.iload 5, 2) := by decide +kernel
theorem dX10_reads_64 : decode cX10_reads 64 = .ok (.iconst 1, 1) := by decide +kernel
theorem dX10_reads_65 : decode cX10_reads 65 = .ok (.iconst 0, 1) := by decide +kernel
theorem dX10_reads_66 : decode cX10_reads 66 = .ok (.invokevirtual 108, 3) := by decide +kernel
theorem dX10_reads_69 : decode cX10_reads 69 = .ok (.aload_n 0, 1) := by decide +kernel
theorem dX10_reads_70 : decode cX10_reads 70 = .ok (.bipush 8, 2) := by decide +kernel
theorem dX10_reads_72 : decode cX10_reads 72 = .ok (.iload 5, 2) := by decide +kernel
theorem dX10_reads_74 : decode cX10_reads 74 = .ok (.iconst 2, 1) := by decide +kernel
theorem dX10_reads_75 : decode cX10_reads 75 = .ok (.iload_n 2, 1) := by decide +kernel
theorem dX10_reads_76 : decode cX10_reads 76 = .ok (.invokevirtual 108, 3) := by decide +kernel
theorem dX10_reads_79 : decode cX10_reads 79 = .ok (.aload_n 0, 1) := by decide +kernel
theorem dX10_reads_80 : decode cX10_reads 80 = .ok (.bipush 8, 2) := by decide +kernel
theorem dX10_reads_82 : decode cX10_reads 82 = .ok (.iload 5, 2) := by decide +kernel
theorem dX10_reads_84 : decode cX10_reads 84 = .ok (.bipush 10, 2) := by decide +kernel
theorem dX10_reads_86 : decode cX10_reads 86 = .ok (.iconst 0, 1) := by decide +kernel
theorem dX10_reads_87 : decode cX10_reads 87 = .ok (.invokevirtual 108, 3) := by decide +kernel
theorem dX10_reads_90 : decode cX10_reads 90 = .ok (.aload_n 0, 1) := by decide +kernel
theorem dX10_reads_91 : decode cX10_reads 91 = .ok (.iload 5, 2) := by decide +kernel
theorem dX10_reads_93 : decode cX10_reads 93 = .ok (.iload_n 3, 1) := by decide +kernel
theorem dX10_reads_94 : decode cX10_reads 94 = .ok (.iload_n 1, 1) := by decide +kernel
theorem dX10_reads_95 : decode cX10_reads 95 = .ok (.iconst 3, 1) := by decide +kernel
theorem dX10_reads_96 : decode cX10_reads 96 = .ok (.bipush 6, 2) := by decide +kernel
theorem dX10_reads_98 : decode cX10_reads 98 = .ok (.invokevirtual 144, 3) := by decide +kernel
theorem dX10_reads_101 : decode cX10_reads 101 = .ok (.istore_n 3, 1) := by decide +kernel
theorem dX10_reads_102 : decode cX10_reads 102 = .ok (.iload_n 3, 1) := by decide +kernel
theorem dX10_reads_103 : decode cX10_reads 103 = .ok (.ifCond .ge 7, 3) := by decide +kernel
theorem dX10_reads_106 : decode cX10_reads 106 = .ok (.iconst (-1), 1) := by decide +kernel
theorem dX10_reads_107 : decode cX10_reads 107 = .ok (.iload_n 3, 1) := by decide +kernel
theorem dX10_reads_108 : decode cX10_reads 108 = .ok (.isub, 1) := by decide +kernel
theorem dX10_reads_109 : decode cX10_reads 109 = .ok (.ireturn, 1) := by decide +kernel
theorem dX10_reads_110 : decode cX10_reads 110 = .ok (.aload_n 0, 1) := by decide +kernel
theorem dX10_reads_111 : decode cX10_reads 111 = .ok (.getfield 13, 3) := by decide +kernel
theorem dX10_reads_114 : decode cX10_reads 114 = .ok (.bipush 8, 2) := by decide +kernel
theorem dX10_reads_116 : decode cX10_reads 116 = .ok (.dup2, 1) := by decide +kernel
theorem dX10_reads_117 : decode cX10_reads 117 = .ok (.iaload, 1) := by decide +kernel
theorem dX10_reads_118 : decode cX10_reads 118 = .ok (.iconst 1, 1) := by decide +kernel
theorem dX10_reads_119 : decode cX10_reads 119 = .ok (.iadd, 1) := by decide +kernel
theorem dX10_reads_120 : decode cX10_reads 120 = .ok (.iastore, 1) := by decide +kernel
theorem dX10_reads_121 : decode cX10_reads 121 = .ok (.iload_n 2, 1) := by decide +kernel
theorem dX10_reads_122 : decode cX10_reads 122 = .ok (.ifCond .le 73, 3) := by decide +kernel
theorem dX10_reads_125 : decode cX10_reads 125 = .ok (.aload_n 0, 1) := by decide +kernel
theorem dX10_reads_126 : decode cX10_reads 126 = .ok (.bipush 8, 2) := by decide +kernel
theorem dX10_reads_128 : decode cX10_reads 128 = .ok (.aload_n 0, 1) := by decide +kernel
theorem dX10_reads_129 : decode cX10_reads 129 = .ok (.getfield 28, 3) := by decide +kernel
theorem dX10_reads_132 : decode cX10_reads 132 = .ok (.iload_n 2, 1) := by decide +kernel
theorem dX10_reads_133 : decode cX10_reads 133 = .ok (.iconst 1, 1) := by decide +kernel
theorem dX10_reads_134 : decode cX10_reads 134 = .ok (.isub, 1) := by decide +kernel
theorem dX10_reads_135 : decode cX10_reads 135 = .ok (.iaload, 1) := by decide +kernel
theorem dX10_reads_136 : decode cX10_reads 136 = .ok (.iconst 1, 1) := by decide +kernel
theorem dX10_reads_137 : decode cX10_reads 137 = .ok (.invokevirtual 104, 3) := by decide +kernel
theorem dX10_reads_140 : decode cX10_reads 140 = .ok (.iconst 2, 1) := by decide +kernel
theorem dX10_reads_141 : decode cX10_reads 141 = .ok (.if_icmp .ne 54, 3) := by decide +kernel
theorem dX10_reads_144 : decode cX10_reads 144 = .ok (.aload_n 0, 1) := by decide +kernel
theorem dX10_reads_145 : decode cX10_reads 145 = .ok (.getfield 28, 3) := by decide +kernel
theorem dX10_reads_148 : decode cX10_reads 148 = .ok (.iload_n 2, 1) := by decide +kernel
theorem dX10_reads_149 : decode cX10_reads 149 = .ok (.iconst 1, 1) := by decide +kernel
theorem dX10_reads_150 : decode cX10_reads 150 = .ok (.isub, 1) := by decide +kernel
theorem dX10_reads_151 : decode cX10_reads 151 = .ok (.iaload, 1) := by decide +kernel
theorem dX10_reads_152 : decode cX10_reads 152 = .ok (.iconst 1, 1) := by decide +kernel
theorem dX10_reads_153 : decode cX10_reads 153 = .ok (.iadd, 1) := by decide +kernel
theorem dX10_reads_154 : decode cX10_reads 154 = .ok (.istore 7, 2) := by decide +kernel
theorem dX10_reads_156 : decode cX10_reads 156 = .ok (.iload 7, 2) := by decide +kernel
theorem dX10_reads_158 : decode cX10_reads 158 = .ok (.iload 5, 2) := by decide +kernel
theorem dX10_reads_160 : decode cX10_reads 160 = .ok (.if_icmp .ge 35, 3) := by decide +kernel
theorem dX10_reads_163 : decode cX10_reads 163 = .ok (.aload_n 0, 1) := by decide +kernel
theorem dX10_reads_164 : decode cX10_reads 164 = .ok (.bipush 8, 2) := by decide +kernel
theorem dX10_reads_166 : decode cX10_reads 166 = .ok (.iload 7, 2) := by decide +kernel
theorem dX10_reads_168 : decode cX10_reads 168 = .ok (.bipush 8, 2) := by decide +kernel
theorem dX10_reads_170 : decode cX10_reads 170 = .ok (.iload 5, 2) := by decide +kernel
theorem dX10_reads_172 : decode cX10_reads 172 = .ok (.iconst 3, 1) := by decide +kernel
theorem dX10_reads_173 : decode cX10_reads 173 = .ok (.invokevirtual 122, 3) := by decide +kernel
theorem dX10_reads_176 : decode cX10_reads 176 = .ok (.ifCond .eq 6, 3) := by decide +kernel
theorem dX10_reads_179 : decode cX10_reads 179 = .ok (.iload 6, 2) := by decide +kernel
theorem dX10_reads_181 : decode cX10_reads 181 = .ok (.ireturn, 1) := by decide +kernel
theorem dX10_reads_182 : decode cX10_reads 182 = .ok (.aload_n 0, 1) := by decide +kernel
theorem dX10_reads_183 : decode cX10_reads 183 = .ok (.bipush 8, 2) := by decide +kernel
theorem dX10_reads_185 : decode cX10_reads 185 = .ok (.iload 7, 2) := by decide +kernel
theorem dX10_reads_187 : decode cX10_reads 187 = .ok (.invokevirtual 119, 3) := by decide +kernel
theorem dX10_reads_190 : decode cX10_reads 190 = .ok (.istore 7, 2) := by decide +kernel
theorem dX10_reads_192 : decode cX10_reads 192 = .ok (.goto (-36), 3) := by decide +kernel
theorem dX10_reads_195 : decode cX10_reads 195 = .ok (.aload_n 0, 1) := by decide +kernel
theorem dX10_reads_196 : decode cX10_reads 196 = .ok (.iload_n 3, 1) := by decide +kernel
theorem dX10_reads_197 : decode cX10_reads 197 = .ok (.iload_n 1, 1) := by decide +kernel
theorem dX10_reads_198 : decode cX10_reads 198 = .ok (.invokevirtual 138, 3) := by decide +kernel
theorem dX10_reads_201 : decode cX10_reads 201 = .ok (.bipush 61, 2) := by decide +kernel
theorem dX10_reads_203 : decode cX10_reads 203 = .ok (.if_icmp .ne 26, 3) := by decide +kernel
theorem dX10_reads_206 : decode cX10_reads 206 = .ok (.aload_n 0, 1) := by decide +kernel
theorem dX10_reads_207 : decode cX10_reads 207 = .ok (.iload 5, 2) := by decide +kernel
theorem dX10_reads_209 : decode cX10_reads 209 = .ok (.iload_n 3, 1) := by decide +kernel
theorem dX10_reads_210 : decode cX10_reads 210 = .ok (.iconst 1, 1) := by decide +kernel
theorem dX10_reads_211 : decode cX10_reads 211 = .ok (.iadd, 1) := by decide +kernel
theorem dX10_reads_212 : decode cX10_reads 212 = .ok (.iload_n 1, 1) := by decide +kernel
theorem dX10_reads_213 : decode cX10_reads 213 = .ok (.bipush 10, 2) := by decide +kernel
theorem dX10_reads_215 : decode cX10_reads 215 = .ok (.bipush 8, 2) := by decide +kernel
theorem dX10_reads_217 : decode cX10_reads 217 = .ok (.invokevirtual 144, 3) := by decide +kernel
theorem dX10_reads_220 : decode cX10_reads 220 = .ok (.istore_n 3, 1) := by decide +kernel
theorem dX10_reads_221 : decode cX10_reads 221 = .ok (.iload_n 3, 1) := by decide +kernel
theorem dX10_reads_222 : decode cX10_reads 222 = .ok (.ifCond .ge 7, 3) := by decide +kernel
theorem dX10_reads_225 : decode cX10_reads 225 = .ok (.iconst (-1), 1) := by decide +kernel
theorem dX10_reads_226 : decode cX10_reads 226 = .ok (.iload_n 3, 1) := by decide +kernel
theorem dX10_reads_227 : decode cX10_reads 227 = .ok (.isub, 1) := by decide +kernel
theorem dX10_reads_228 : decode cX10_reads 228 = .ok (.ireturn, 1) := by decide +kernel
theorem dX10_reads_229 : decode cX10_reads 229 = .ok (.aload_n 0, 1) := by decide +kernel
theorem dX10_reads_230 : decode cX10_reads 230 = .ok (.iload_n 3, 1) := by decide +kernel
theorem dX10_reads_231 : decode cX10_reads 231 = .ok (.iload_n 1, 1) := by decide +kernel
theorem dX10_reads_232 : decode cX10_reads 232 = .ok (.invokevirtual 138, 3) := by decide +kernel
theorem dX10_reads_235 : decode cX10_reads 235 = .ok (.istore 7, 2) := by decide +kernel
theorem dX10_reads_237 : decode cX10_reads 237 = .ok (.iload 7, 2) := by decide +kernel
theorem dX10_reads_239 : decode cX10_reads 239 = .ok (.bipush 40, 2) := by decide +kernel
theorem dX10_reads_241 : decode cX10_reads 241 = .ok (.if_icmp .eq 17, 3) := by decide +kernel
theorem dX10_reads_244 : decode cX10_reads 244 = .ok (.iload 7, 2) := by decide +kernel
theorem dX10_reads_246 : decode cX10_reads 246 = .ok (.bipush 123, 2) := by decide +kernel
theorem dX10_reads_248 : decode cX10_reads 248 = .ok (.if_icmp .eq 10, 3) := by decide +kernel
theorem dX10_reads_251 : decode cX10_reads 251 = .ok (.iload 7, 2) := by decide +kernel
theorem dX10_reads_253 : decode cX10_reads 253 = .ok (.bipush 60, 2) := by decide +kernel
theorem dX10_reads_255 : decode cX10_reads 255 = .ok (.if_icmp .ne 117, 3) := by decide +kernel
theorem dX10_reads_258 : decode cX10_reads 258 = .ok (.aload_n 0, 1) := by decide +kernel
theorem dX10_reads_259 : decode cX10_reads 259 = .ok (.bipush 8, 2) := by decide +kernel
theorem dX10_reads_261 : decode cX10_reads 261 = .ok (.iload 5, 2) := by decide +kernel
theorem dX10_reads_263 : decode cX10_reads 263 = .ok (.iconst 1, 1) := by decide +kernel
theorem dX10_reads_264 : decode cX10_reads 264 = .ok (.iload 7, 2) := by decide +kernel
theorem dX10_reads_266 : decode cX10_reads 266 = .ok (.bipush 40, 2) := by decide +kernel
theorem dX10_reads_268 : decode cX10_reads 268 = .ok (.if_icmp .ne 7, 3) := by decide +kernel
theorem dX10_reads_271 : decode cX10_reads 271 = .ok (.iconst 0, 1) := by decide +kernel
theorem dX10_reads_272 : decode cX10_reads 272 = .ok (.goto 15, 3) := by decide +kernel
theorem dX10_reads_275 : decode cX10_reads 275 = .ok (.iload 7, 2) := by decide +kernel
theorem dX10_reads_277 : decode cX10_reads 277 = .ok (.bipush 123, 2) := by decide +kernel
theorem dX10_reads_279 : decode cX10_reads 279 = .ok (.if_icmp .ne 7, 3) := by decide +kernel
theorem dX10_reads_282 : decode cX10_reads 282 = .ok (.iconst 1, 1) := by decide +kernel
theorem dX10_reads_283 : decode cX10_reads 283 = .ok (.goto 4, 3) := by decide +kernel
theorem dX10_reads_286 : decode cX10_reads 286 = .ok (.iconst 2, 1) := by decide +kernel
theorem dX10_reads_287 : decode cX10_reads 287 = .ok (.invokevirtual 108, 3) := by decide +kernel
theorem dX10_reads_290 : decode cX10_reads 290 = .ok (.aload_n 0, 1) := by decide +kernel
theorem dX10_reads_291 : decode cX10_reads 291 = .ok (.getfield 28, 3) := by decide +kernel
theorem dX10_reads_294 : decode cX10_reads 294 = .ok (.iload_n 2, 1) := by decide +kernel
theorem dX10_reads_295 : decode cX10_reads 295 = .ok (.iload 5, 2) := by decide +kernel
theorem dX10_reads_297 : decode cX10_reads 297 = .ok (.iastore, 1) := by decide +kernel
theorem dX10_reads_298 : decode cX10_reads 298 = .ok (.aload_n 0, 1) := by decide +kernel
theorem dX10_reads_299 : decode cX10_reads 299 = .ok (.getfield 31, 3) := by decide +kernel
theorem dX10_reads_302 : decode cX10_reads 302 = .ok (.iload_n 2, 1) := by decide +kernel
theorem dX10_reads_303 : decode cX10_reads 303 = .ok (.iload 7, 2) := by decide +kernel
theorem dX10_reads_305 : decode cX10_reads 305 = .ok (.bipush 40, 2) := by decide +kernel
theorem dX10_reads_307 : decode cX10_reads 307 = .ok (.if_icmp .ne 8, 3) := by decide +kernel
theorem dX10_reads_310 : decode cX10_reads 310 = .ok (.bipush 41, 2) := by decide +kernel
theorem dX10_reads_312 : decode cX10_reads 312 = .ok (.goto 17, 3) := by decide +kernel
theorem dX10_reads_315 : decode cX10_reads 315 = .ok (.iload 7, 2) := by decide +kernel
theorem dX10_reads_317 : decode cX10_reads 317 = .ok (.bipush 123, 2) := by decide +kernel
theorem dX10_reads_319 : decode cX10_reads 319 = .ok (.if_icmp .ne 8, 3) := by decide +kernel
theorem dX10_reads_322 : decode cX10_reads 322 = .ok (.bipush 125, 2) := by decide +kernel
theorem dX10_reads_324 : decode cX10_reads 324 = .ok (.goto 5, 3) := by decide +kernel
theorem dX10_reads_327 : decode cX10_reads 327 = .ok (.bipush 62, 2) := by decide +kernel
theorem dX10_reads_329 : decode cX10_reads 329 = .ok (.iastore, 1) := by decide +kernel
theorem dX10_reads_330 : decode cX10_reads 330 = .ok (.iinc 2 1, 3) := by decide +kernel
theorem dX10_reads_333 : decode cX10_reads 333 = .ok (.iinc 3 1, 3) := by decide +kernel
theorem dX10_reads_336 : decode cX10_reads 336 = .ok (.iload 7, 2) := by decide +kernel
theorem dX10_reads_338 : decode cX10_reads 338 = .ok (.bipush 40, 2) := by decide +kernel
theorem dX10_reads_340 : decode cX10_reads 340 = .ok (.if_icmp .eq (-325), 3) := by decide +kernel
theorem dX10_reads_343 : decode cX10_reads 343 = .ok (.aload_n 0, 1) := by decide +kernel
theorem dX10_reads_344 : decode cX10_reads 344 = .ok (.iload_n 3, 1) := by decide +kernel
theorem dX10_reads_345 : decode cX10_reads 345 = .ok (.iload_n 1, 1) := by decide +kernel
theorem dX10_reads_346 : decode cX10_reads 346 = .ok (.invokevirtual 138, 3) := by decide +kernel
theorem dX10_reads_349 : decode cX10_reads 349 = .ok (.aload_n 0, 1) := by decide +kernel
theorem dX10_reads_350 : decode cX10_reads 350 = .ok (.getfield 31, 3) := by decide +kernel
theorem dX10_reads_353 : decode cX10_reads 353 = .ok (.iload_n 2, 1) := by decide +kernel
theorem dX10_reads_354 : decode cX10_reads 354 = .ok (.iconst 1, 1) := by decide +kernel
theorem dX10_reads_355 : decode cX10_reads 355 = .ok (.isub, 1) := by decide +kernel
theorem dX10_reads_356 : decode cX10_reads 356 = .ok (.iaload, 1) := by decide +kernel
theorem dX10_reads_357 : decode cX10_reads 357 = .ok (.if_icmp .eq 6, 3) := by decide +kernel
theorem dX10_reads_360 : decode cX10_reads 360 = .ok (.goto (-345), 3) := by decide +kernel
theorem dX10_reads_363 : decode cX10_reads 363 = .ok (.iinc 2 (-1), 3) := by decide +kernel
theorem dX10_reads_366 : decode cX10_reads 366 = .ok (.iinc 3 1, 3) := by decide +kernel
theorem dX10_reads_369 : decode cX10_reads 369 = .ok (.goto 23, 3) := by decide +kernel
theorem dX10_reads_372 : decode cX10_reads 372 = .ok (.iload 7, 2) := by decide +kernel
theorem dX10_reads_374 : decode cX10_reads 374 = .ok (.bipush 33, 2) := by decide +kernel
theorem dX10_reads_376 : decode cX10_reads 376 = .ok (.if_icmp .ne 16, 3) := by decide +kernel
theorem dX10_reads_379 : decode cX10_reads 379 = .ok (.aload_n 0, 1) := by decide +kernel
theorem dX10_reads_380 : decode cX10_reads 380 = .ok (.bipush 8, 2) := by decide +kernel
theorem dX10_reads_382 : decode cX10_reads 382 = .ok (.iload 5, 2) := by decide +kernel
theorem dX10_reads_384 : decode cX10_reads 384 = .ok (.iconst 1, 1) := by decide +kernel
theorem dX10_reads_385 : decode cX10_reads 385 = .ok (.iconst 3, 1) := by decide +kernel
theorem dX10_reads_386 : decode cX10_reads 386 = .ok (.invokevirtual 108, 3) := by decide +kernel
theorem dX10_reads_389 : decode cX10_reads 389 = .ok (.iinc 3 1, 3) := by decide +kernel
theorem dX10_reads_392 : decode cX10_reads 392 = .ok (.iload_n 2, 1) := by decide +kernel
theorem dX10_reads_393 : decode cX10_reads 393 = .ok (.ifCond .le 29, 3) := by decide +kernel
theorem dX10_reads_396 : decode cX10_reads 396 = .ok (.aload_n 0, 1) := by decide +kernel
theorem dX10_reads_397 : decode cX10_reads 397 = .ok (.iload_n 3, 1) := by decide +kernel
theorem dX10_reads_398 : decode cX10_reads 398 = .ok (.iload_n 1, 1) := by decide +kernel
theorem dX10_reads_399 : decode cX10_reads 399 = .ok (.invokevirtual 138, 3) := by decide +kernel
theorem dX10_reads_402 : decode cX10_reads 402 = .ok (.aload_n 0, 1) := by decide +kernel
theorem dX10_reads_403 : decode cX10_reads 403 = .ok (.getfield 31, 3) := by decide +kernel
theorem dX10_reads_406 : decode cX10_reads 406 = .ok (.iload_n 2, 1) := by decide +kernel
theorem dX10_reads_407 : decode cX10_reads 407 = .ok (.iconst 1, 1) := by decide +kernel
theorem dX10_reads_408 : decode cX10_reads 408 = .ok (.isub, 1) := by decide +kernel
theorem dX10_reads_409 : decode cX10_reads 409 = .ok (.iaload, 1) := by decide +kernel
theorem dX10_reads_410 : decode cX10_reads 410 = .ok (.if_icmp .ne 12, 3) := by decide +kernel
theorem dX10_reads_413 : decode cX10_reads 413 = .ok (.iinc 2 (-1), 3) := by decide +kernel
theorem dX10_reads_416 : decode cX10_reads 416 = .ok (.iinc 3 1, 3) := by decide +kernel
theorem dX10_reads_419 : decode cX10_reads 419 = .ok (.goto (-27), 3) := by decide +kernel
theorem dX10_reads_422 : decode cX10_reads 422 = .ok (.iload_n 2, 1) := by decide +kernel
theorem dX10_reads_423 : decode cX10_reads 423 = .ok (.ifCond .le 18, 3) := by decide +kernel
theorem dX10_reads_426 : decode cX10_reads 426 = .ok (.aload_n 0, 1) := by decide +kernel
theorem dX10_reads_427 : decode cX10_reads 427 = .ok (.iload_n 3, 1) := by decide +kernel
theorem dX10_reads_428 : decode cX10_reads 428 = .ok (.iload_n 1, 1) := by decide +kernel
theorem dX10_reads_429 : decode cX10_reads 429 = .ok (.invokevirtual 138, 3) := by decide +kernel
theorem dX10_reads_432 : decode cX10_reads 432 = .ok (.bipush 44, 2) := by decide +kernel
theorem dX10_reads_434 : decode cX10_reads 434 = .ok (.if_icmp .ne 7, 3) := by decide +kernel
theorem dX10_reads_437 : decode cX10_reads 437 = .ok (.iconst 1, 1) := by decide +kernel
theorem dX10_reads_438 : decode cX10_reads 438 = .ok (.goto 4, 3) := by decide +kernel
theorem dX10_reads_441 : decode cX10_reads 441 = .ok (.iconst 0, 1) := by decide +kernel
theorem dX10_reads_442 : decode cX10_reads 442 = .ok (.istore 4, 2) := by decide +kernel
theorem dX10_reads_444 : decode cX10_reads 444 = .ok (.iload 4, 2) := by decide +kernel
theorem dX10_reads_446 : decode cX10_reads 446 = .ok (.ifCond .eq 6, 3) := by decide +kernel
theorem dX10_reads_449 : decode cX10_reads 449 = .ok (.iinc 3 1, 3) := by decide +kernel
theorem dX10_reads_452 : decode cX10_reads 452 = .ok (.goto (-437), 3) := by decide +kernel
theorem dX10_reads_455 : decode cX10_reads 455 = .ok (.iload_n 2, 1) := by decide +kernel
theorem dX10_reads_456 : decode cX10_reads 456 = .ok (.ifCond .ne 12, 3) := by decide +kernel
theorem dX10_reads_459 : decode cX10_reads 459 = .ok (.iload_n 3, 1) := by decide +kernel
theorem dX10_reads_460 : decode cX10_reads 460 = .ok (.iload_n 1, 1) := by decide +kernel
theorem dX10_reads_461 : decode cX10_reads 461 = .ok (.if_icmp .ne 7, 3) := by decide +kernel
theorem dX10_reads_464 : decode cX10_reads 464 = .ok (.iconst (-1), 1) := by decide +kernel
theorem dX10_reads_465 : decode cX10_reads 465 = .ok (.goto 4, 3) := by decide +kernel
theorem dX10_reads_468 : decode cX10_reads 468 = .ok (.iload_n 3, 1) := by decide +kernel
theorem dX10_reads_469 : decode cX10_reads 469 = .ok (.ireturn, 1) := by decide +kernel
theorem dX10_read_0 : decode cX10_read 0 = .ok (.iload_n 1, 1) := by decide +kernel
theorem dX10_read_1 : decode cX10_read 1 = .ok (.invokestatic 100, 3) := by decide +kernel
theorem dX10_read_4 : decode cX10_read 4 = .ok (.ifCond .ne 9, 3) := by decide +kernel
theorem dX10_read_7 : decode cX10_read 7 = .ok (.aload_n 0, 1) := by decide +kernel
theorem dX10_read_8 : decode cX10_read 8 = .ok (.iconst (-1), 1) := by decide +kernel
theorem dX10_read_9 : decode cX10_read 9 = .ok (.invokevirtual 126, 3) := by decide +kernel
theorem dX10_read_12 : decode cX10_read 12 = .ok (.ireturn, 1) := by decide +kernel
theorem dX10_read_13 : decode cX10_read 13 = .ok (.aload_n 0, 1) := by decide +kernel
theorem dX10_read_14 : decode cX10_read 14 = .ok (.getfield 130, 3) := by decide +kernel
theorem dX10_read_17 : decode cX10_read 17 = .ok (.istore_n 2, 1) := by decide +kernel
theorem dX10_read_18 : decode cX10_read 18 = .ok (.aload_n 0, 1) := by decide +kernel
theorem dX10_read_19 : decode cX10_read 19 = .ok (.iconst 0, 1) := by decide +kernel
theorem dX10_read_20 : decode cX10_read 20 = .ok (.putfield 130, 3) := by decide +kernel
theorem dX10_read_23 : decode cX10_read 23 = .ok (.aload_n 0, 1) := by decide +kernel
theorem dX10_read_24 : decode cX10_read 24 = .ok (.iload_n 2, 1) := by decide +kernel
theorem dX10_read_25 : decode cX10_read 25 = .ok (.invokevirtual 148, 3) := by decide +kernel
theorem dX10_read_28 : decode cX10_read 28 = .ok (.istore_n 3, 1) := by decide +kernel
theorem dX10_read_29 : decode cX10_read 29 = .ok (.iload_n 3, 1) := by decide +kernel
theorem dX10_read_30 : decode cX10_read 30 = .ok (.ifCond .lt 19, 3) := by decide +kernel
theorem dX10_read_33 : decode cX10_read 33 = .ok (.aload_n 0, 1) := by decide +kernel
theorem dX10_read_34 : decode cX10_read 34 = .ok (.getfield 25, 3) := by decide +kernel
theorem dX10_read_37 : decode cX10_read 37 = .ok (.bipush 9, 2) := by decide +kernel
theorem dX10_read_39 : decode cX10_read 39 = .ok (.dup2, 1) := by decide +kernel
theorem dX10_read_40 : decode cX10_read 40 = .ok (.iaload, 1) := by decide +kernel
theorem dX10_read_41 : decode cX10_read 41 = .ok (.iconst 1, 1) := by decide +kernel
theorem dX10_read_42 : decode cX10_read 42 = .ok (.iadd, 1) := by decide +kernel
theorem dX10_read_43 : decode cX10_read 43 = .ok (.iastore, 1) := by decide +kernel
theorem dX10_read_44 : decode cX10_read 44 = .ok (.bipush (-10), 2) := by decide +kernel
theorem dX10_read_46 : decode cX10_read 46 = .ok (.iload_n 3, 1) := by decide +kernel
theorem dX10_read_47 : decode cX10_read 47 = .ok (.isub, 1) := by decide +kernel
theorem dX10_read_48 : decode cX10_read 48 = .ok (.ireturn, 1) := by decide +kernel
theorem dX10_read_49 : decode cX10_read 49 = .ok (.aload_n 0, 1) := by decide +kernel
theorem dX10_read_50 : decode cX10_read 50 = .ok (.bipush 8, 2) := by decide +kernel
theorem dX10_read_52 : decode cX10_read 52 = .ok (.iload_n 1, 1) := by decide +kernel
theorem dX10_read_53 : decode cX10_read 53 = .ok (.invokevirtual 151, 3) := by decide +kernel
theorem dX10_read_56 : decode cX10_read 56 = .ok (.iconst 0, 1) := by decide +kernel
theorem dX10_read_57 : decode cX10_read 57 = .ok (.istore 4, 2) := by decide +kernel
theorem dX10_read_59 : decode cX10_read 59 = .ok (.iload 4, 2) := by decide +kernel
theorem dX10_read_61 : decode cX10_read 61 = .ok (.aload_n 0, 1) := by decide +kernel
theorem dX10_read_62 : decode cX10_read 62 = .ok (.getfield 13, 3) := by decide +kernel
theorem dX10_read_65 : decode cX10_read 65 = .ok (.iload_n 1, 1) := by decide +kernel
theorem dX10_read_66 : decode cX10_read 66 = .ok (.iaload, 1) := by decide +kernel
theorem dX10_read_67 : decode cX10_read 67 = .ok (.if_icmp .ge 31, 3) := by decide +kernel
theorem dX10_read_70 : decode cX10_read 70 = .ok (.aload_n 0, 1) := by decide +kernel
theorem dX10_read_71 : decode cX10_read 71 = .ok (.iload_n 1, 1) := by decide +kernel
theorem dX10_read_72 : decode cX10_read 72 = .ok (.iload 4, 2) := by decide +kernel
theorem dX10_read_74 : decode cX10_read 74 = .ok (.iconst 0, 1) := by decide +kernel
theorem dX10_read_75 : decode cX10_read 75 = .ok (.aload_n 0, 1) := by decide +kernel
theorem dX10_read_76 : decode cX10_read 76 = .ok (.getfield 155, 3) := by decide +kernel
theorem dX10_read_79 : decode cX10_read 79 = .ok (.invokevirtual 108, 3) := by decide +kernel
theorem dX10_read_82 : decode cX10_read 82 = .ok (.aload_n 0, 1) := by decide +kernel
theorem dX10_read_83 : decode cX10_read 83 = .ok (.dup, 1) := by decide +kernel
theorem dX10_read_84 : decode cX10_read 84 = .ok (.getfield 155, 3) := by decide +kernel
theorem dX10_read_87 : decode cX10_read 87 = .ok (.iconst 1, 1) := by decide +kernel
theorem dX10_read_88 : decode cX10_read 88 = .ok (.iadd, 1) := by decide +kernel
theorem dX10_read_89 : decode cX10_read 89 = .ok (.putfield 155, 3) := by decide +kernel
theorem dX10_read_92 : decode cX10_read 92 = .ok (.iinc 4 1, 3) := by decide +kernel
theorem dX10_read_95 : decode cX10_read 95 = .ok (.goto (-36), 3) := by decide +kernel
theorem dX10_read_98 : decode cX10_read 98 = .ok (.aload_n 0, 1) := by decide +kernel
theorem dX10_read_99 : decode cX10_read 99 = .ok (.getfield 13, 3) := by decide +kernel
theorem dX10_read_102 : decode cX10_read 102 = .ok (.iload_n 1, 1) := by decide +kernel
theorem dX10_read_103 : decode cX10_read 103 = .ok (.iaload, 1) := by decide +kernel
theorem dX10_read_104 : decode cX10_read 104 = .ok (.ireturn, 1) := by decide +kernel
theorem dX10_writes_0 : decode cX10_writes 0 = .ok (.aload_n 0, 1) := by decide +kernel
theorem dX10_writes_1 : decode cX10_writes 1 = .ok (.getfield 19, 3) := by decide +kernel
theorem dX10_writes_4 : decode cX10_writes 4 = .ok (.aload_n 0, 1) := by decide +kernel
theorem dX10_writes_5 : decode cX10_writes 5 = .ok (.getfield 158, 3) := by decide +kernel
theorem dX10_writes_8 : decode cX10_writes 8 = .ok (.iload_n 1, 1) := by decide +kernel
theorem dX10_writes_9 : decode cX10_writes 9 = .ok (.iastore, 1) := by decide +kernel
theorem dX10_writes_10 : decode cX10_writes 10 = .ok (.aload_n 0, 1) := by decide +kernel
theorem dX10_writes_11 : decode cX10_writes 11 = .ok (.dup, 1) := by decide +kernel
theorem dX10_writes_12 : decode cX10_writes 12 = .ok (.getfield 158, 3) := by decide +kernel
theorem dX10_writes_15 : decode cX10_writes 15 = .ok (.iconst 1, 1) := by decide +kernel
theorem dX10_writes_16 : decode cX10_writes 16 = .ok (.iadd, 1) := by decide +kernel
theorem dX10_writes_17 : decode cX10_writes 17 = .ok (.putfield 158, 3) := by decide +kernel
theorem dX10_writes_20 : decode cX10_writes 20 = .ok (.return_, 1) := by decide +kernel
theorem dX10_write_0 : decode cX10_write 0 = .ok (.aload_n 0, 1) := by decide +kernel
theorem dX10_write_1 : decode cX10_write 1 = .ok (.iload_n 1, 1) := by decide +kernel
theorem dX10_write_2 : decode cX10_write 2 = .ok (.invokevirtual 161, 3) := by decide +kernel
theorem dX10_write_5 : decode cX10_write 5 = .ok (.istore_n 2, 1) := by decide +kernel
theorem dX10_write_6 : decode cX10_write 6 = .ok (.iload_n 2, 1) := by decide +kernel
theorem dX10_write_7 : decode cX10_write 7 = .ok (.ifCond .ge 9, 3) := by decide +kernel
theorem dX10_write_10 : decode cX10_write 10 = .ok (.aload_n 0, 1) := by decide +kernel
theorem dX10_write_11 : decode cX10_write 11 = .ok (.iload_n 2, 1) := by decide +kernel
theorem dX10_write_12 : decode cX10_write 12 = .ok (.invokevirtual 126, 3) := by decide +kernel
theorem dX10_write_15 : decode cX10_write 15 = .ok (.ireturn, 1) := by decide +kernel
theorem dX10_write_16 : decode cX10_write 16 = .ok (.aload_n 0, 1) := by decide +kernel
theorem dX10_write_17 : decode cX10_write 17 = .ok (.iconst 0, 1) := by decide +kernel
theorem dX10_write_18 : decode cX10_write 18 = .ok (.putfield 158, 3) := by decide +kernel
theorem dX10_write_21 : decode cX10_write 21 = .ok (.iconst 0, 1) := by decide +kernel
theorem dX10_write_22 : decode cX10_write 22 = .ok (.istore_n 3, 1) := by decide +kernel
theorem dX10_write_23 : decode cX10_write 23 = .ok (.iconst 0, 1) := by decide +kernel
theorem dX10_write_24 : decode cX10_write 24 = .ok (.istore 4, 2) := by decide +kernel
theorem dX10_write_26 : decode cX10_write 26 = .ok (.iload 4, 2) := by decide +kernel
theorem dX10_write_28 : decode cX10_write 28 = .ok (.aload_n 0, 1) := by decide +kernel
theorem dX10_write_29 : decode cX10_write 29 = .ok (.getfield 13, 3) := by decide +kernel
theorem dX10_write_32 : decode cX10_write 32 = .ok (.iload_n 1, 1) := by decide +kernel
theorem dX10_write_33 : decode cX10_write 33 = .ok (.iaload, 1) := by decide +kernel
theorem dX10_write_34 : decode cX10_write 34 = .ok (.if_icmp .ge 283, 3) := by decide +kernel
theorem dX10_write_37 : decode cX10_write 37 = .ok (.iload 4, 2) := by decide +kernel
theorem dX10_write_39 : decode cX10_write 39 = .ok (.ifCond .le 30, 3) := by decide +kernel
theorem dX10_write_42 : decode cX10_write 42 = .ok (.aload_n 0, 1) := by decide +kernel
theorem dX10_write_43 : decode cX10_write 43 = .ok (.iload_n 1, 1) := by decide +kernel
theorem dX10_write_44 : decode cX10_write 44 = .ok (.iload 4, 2) := by decide +kernel
theorem dX10_write_46 : decode cX10_write 46 = .ok (.invokevirtual 115, 3) := by decide +kernel
theorem dX10_write_49 : decode cX10_write 49 = .ok (.aload_n 0, 1) := by decide +kernel
theorem dX10_write_50 : decode cX10_write 50 = .ok (.iload_n 1, 1) := by decide +kernel
theorem dX10_write_51 : decode cX10_write 51 = .ok (.iload 4, 2) := by decide +kernel
theorem dX10_write_53 : decode cX10_write 53 = .ok (.iconst 1, 1) := by decide +kernel
theorem dX10_write_54 : decode cX10_write 54 = .ok (.isub, 1) := by decide +kernel
theorem dX10_write_55 : decode cX10_write 55 = .ok (.invokevirtual 115, 3) := by decide +kernel
theorem dX10_write_58 : decode cX10_write 58 = .ok (.iconst 1, 1) := by decide +kernel
theorem dX10_write_59 : decode cX10_write 59 = .ok (.iadd, 1) := by decide +kernel
theorem dX10_write_60 : decode cX10_write 60 = .ok (.if_icmp .ne 9, 3) := by decide +kernel
theorem dX10_write_63 : decode cX10_write 63 = .ok (.iinc 3 1, 3) := by decide +kernel
theorem dX10_write_66 : decode cX10_write 66 = .ok (.goto 30, 3) := by decide +kernel
theorem dX10_write_69 : decode cX10_write 69 = .ok (.iload 4, 2) := by decide +kernel
theorem dX10_write_71 : decode cX10_write 71 = .ok (.ifCond .le 25, 3) := by decide +kernel
theorem dX10_write_74 : decode cX10_write 74 = .ok (.aload_n 0, 1) := by decide +kernel
theorem dX10_write_75 : decode cX10_write 75 = .ok (.iload_n 1, 1) := by decide +kernel
theorem dX10_write_76 : decode cX10_write 76 = .ok (.iload 4, 2) := by decide +kernel
theorem dX10_write_78 : decode cX10_write 78 = .ok (.iconst 1, 1) := by decide +kernel
theorem dX10_write_79 : decode cX10_write 79 = .ok (.isub, 1) := by decide +kernel
theorem dX10_write_80 : decode cX10_write 80 = .ok (.aload_n 0, 1) := by decide +kernel
theorem dX10_write_81 : decode cX10_write 81 = .ok (.iload_n 1, 1) := by decide +kernel
theorem dX10_write_82 : decode cX10_write 82 = .ok (.iload 4, 2) := by decide +kernel
theorem dX10_write_84 : decode cX10_write 84 = .ok (.invokevirtual 115, 3) := by decide +kernel
theorem dX10_write_87 : decode cX10_write 87 = .ok (.invokevirtual 164, 3) := by decide +kernel
theorem dX10_write_90 : decode cX10_write 90 = .ok (.aload_n 0, 1) := by decide +kernel
theorem dX10_write_91 : decode cX10_write 91 = .ok (.bipush 44, 2) := by decide +kernel
theorem dX10_write_93 : decode cX10_write 93 = .ok (.invokevirtual 168, 3) := by decide +kernel
theorem dX10_write_96 : decode cX10_write 96 = .ok (.iconst 0, 1) := by decide +kernel
theorem dX10_write_97 : decode cX10_write 97 = .ok (.istore 5, 2) := by decide +kernel
theorem dX10_write_99 : decode cX10_write 99 = .ok (.iload 5, 2) := by decide +kernel
theorem dX10_write_101 : decode cX10_write 101 = .ok (.aload_n 0, 1) := by decide +kernel
theorem dX10_write_102 : decode cX10_write 102 = .ok (.iload_n 1, 1) := by decide +kernel
theorem dX10_write_103 : decode cX10_write 103 = .ok (.iload 4, 2) := by decide +kernel
theorem dX10_write_105 : decode cX10_write 105 = .ok (.iconst 3, 1) := by decide +kernel
theorem dX10_write_106 : decode cX10_write 106 = .ok (.invokevirtual 104, 3) := by decide +kernel
theorem dX10_write_109 : decode cX10_write 109 = .ok (.if_icmp .ge 24, 3) := by decide +kernel
theorem dX10_write_112 : decode cX10_write 112 = .ok (.aload_n 0, 1) := by decide +kernel
theorem dX10_write_113 : decode cX10_write 113 = .ok (.aload_n 0, 1) := by decide +kernel
theorem dX10_write_114 : decode cX10_write 114 = .ok (.iload_n 1, 1) := by decide +kernel
theorem dX10_write_115 : decode cX10_write 115 = .ok (.iload 4, 2) := by decide +kernel
theorem dX10_write_117 : decode cX10_write 117 = .ok (.iconst 4, 1) := by decide +kernel
theorem dX10_write_118 : decode cX10_write 118 = .ok (.iload 5, 2) := by decide +kernel
theorem dX10_write_120 : decode cX10_write 120 = .ok (.iadd, 1) := by decide +kernel
theorem dX10_write_121 : decode cX10_write 121 = .ok (.invokevirtual 104, 3) := by decide +kernel
theorem dX10_write_124 : decode cX10_write 124 = .ok (.invokevirtual 168, 3) := by decide +kernel
theorem dX10_write_127 : decode cX10_write 127 = .ok (.iinc 5 1, 3) := by decide +kernel
theorem dX10_write_130 : decode cX10_write 130 = .ok (.goto (-31), 3) := by decide +kernel
theorem dX10_write_133 : decode cX10_write 133 = .ok (.aload_n 0, 1) := by decide +kernel
theorem dX10_write_134 : decode cX10_write 134 = .ok (.iload_n 1, 1) := by decide +kernel
theorem dX10_write_135 : decode cX10_write 135 = .ok (.iload 4, 2) := by decide +kernel
theorem dX10_write_137 : decode cX10_write 137 = .ok (.bipush 10, 2) := by decide +kernel
theorem dX10_write_139 : decode cX10_write 139 = .ok (.invokevirtual 104, 3) := by decide +kernel
theorem dX10_write_142 : decode cX10_write 142 = .ok (.ifCond .le 9, 3) := by decide +kernel
theorem dX10_write_145 : decode cX10_write 145 = .ok (.aload_n 0, 1) := by decide +kernel
theorem dX10_write_146 : decode cX10_write 146 = .ok (.bipush 61, 2) := by decide +kernel
theorem dX10_write_148 : decode cX10_write 148 = .ok (.invokevirtual 168, 3) := by decide +kernel
theorem dX10_write_151 : decode cX10_write 151 = .ok (.iconst 0, 1) := by decide +kernel
theorem dX10_write_152 : decode cX10_write 152 = .ok (.istore 5, 2) := by decide +kernel
theorem dX10_write_154 : decode cX10_write 154 = .ok (.iload 5, 2) := by decide +kernel
theorem dX10_write_156 : decode cX10_write 156 = .ok (.aload_n 0, 1) := by decide +kernel
theorem dX10_write_157 : decode cX10_write 157 = .ok (.iload_n 1, 1) := by decide +kernel
theorem dX10_write_158 : decode cX10_write 158 = .ok (.iload 4, 2) := by decide +kernel
theorem dX10_write_160 : decode cX10_write 160 = .ok (.bipush 10, 2) := by decide +kernel
theorem dX10_write_162 : decode cX10_write 162 = .ok (.invokevirtual 104, 3) := by decide +kernel
theorem dX10_write_165 : decode cX10_write 165 = .ok (.if_icmp .ge 25, 3) := by decide +kernel
theorem dX10_write_168 : decode cX10_write 168 = .ok (.aload_n 0, 1) := by decide +kernel
theorem dX10_write_169 : decode cX10_write 169 = .ok (.aload_n 0, 1) := by decide +kernel
theorem dX10_write_170 : decode cX10_write 170 = .ok (.iload_n 1, 1) := by decide +kernel
theorem dX10_write_171 : decode cX10_write 171 = .ok (.iload 4, 2) := by decide +kernel
theorem dX10_write_173 : decode cX10_write 173 = .ok (.bipush 11, 2) := by decide +kernel
theorem dX10_write_175 : decode cX10_write 175 = .ok (.iload 5, 2) := by decide +kernel
theorem dX10_write_177 : decode cX10_write 177 = .ok (.iadd, 1) := by decide +kernel
theorem dX10_write_178 : decode cX10_write 178 = .ok (.invokevirtual 104, 3) := by decide +kernel
theorem dX10_write_181 : decode cX10_write 181 = .ok (.invokevirtual 168, 3) := by decide +kernel
theorem dX10_write_184 : decode cX10_write 184 = .ok (.iinc 5 1, 3) := by decide +kernel
theorem dX10_write_187 : decode cX10_write 187 = .ok (.goto (-33), 3) := by decide +kernel
theorem dX10_write_190 : decode cX10_write 190 = .ok (.aload_n 0, 1) := by decide +kernel
theorem dX10_write_191 : decode cX10_write 191 = .ok (.iload_n 1, 1) := by decide +kernel
theorem dX10_write_192 : decode cX10_write 192 = .ok (.iload 4, 2) := by decide +kernel
theorem dX10_write_194 : decode cX10_write 194 = .ok (.iconst 1, 1) := by decide +kernel
theorem dX10_write_195 : decode cX10_write 195 = .ok (.invokevirtual 104, 3) := by decide +kernel
theorem dX10_write_198 : decode cX10_write 198 = .ok (.istore 5, 2) := by decide +kernel
theorem dX10_write_200 : decode cX10_write 200 = .ok (.aload_n 0, 1) := by decide +kernel
theorem dX10_write_201 : decode cX10_write 201 = .ok (.iload_n 1, 1) := by decide +kernel
theorem dX10_write_202 : decode cX10_write 202 = .ok (.iload 4, 2) := by decide +kernel
theorem dX10_write_204 : decode cX10_write 204 = .ok (.invokevirtual 119, 3) := by decide +kernel
theorem dX10_write_207 : decode cX10_write 207 = .ok (.iload 4, 2) := by decide +kernel
theorem dX10_write_209 : decode cX10_write 209 = .ok (.iconst 1, 1) := by decide +kernel
theorem dX10_write_210 : decode cX10_write 210 = .ok (.iadd, 1) := by decide +kernel
theorem dX10_write_211 : decode cX10_write 211 = .ok (.if_icmp .le 7, 3) := by decide +kernel
theorem dX10_write_214 : decode cX10_write 214 = .ok (.iconst 1, 1) := by decide +kernel
theorem dX10_write_215 : decode cX10_write 215 = .ok (.goto 4, 3) := by decide +kernel
theorem dX10_write_218 : decode cX10_write 218 = .ok (.iconst 0, 1) := by decide +kernel
theorem dX10_write_219 : decode cX10_write 219 = .ok (.istore 6, 2) := by decide +kernel
theorem dX10_write_221 : decode cX10_write 221 = .ok (.iload 5, 2) := by decide +kernel
theorem dX10_write_223 : decode cX10_write 223 = .ok (.iconst 1, 1) := by decide +kernel
theorem dX10_write_224 : decode cX10_write 224 = .ok (.if_icmp .ne 12, 3) := by decide +kernel
theorem dX10_write_227 : decode cX10_write 227 = .ok (.aload_n 0, 1) := by decide +kernel
theorem dX10_write_228 : decode cX10_write 228 = .ok (.bipush 123, 2) := by decide +kernel
theorem dX10_write_230 : decode cX10_write 230 = .ok (.invokevirtual 168, 3) := by decide +kernel
theorem dX10_write_233 : decode cX10_write 233 = .ok (.goto 44, 3) := by decide +kernel
theorem dX10_write_236 : decode cX10_write 236 = .ok (.iload 5, 2) := by decide +kernel
theorem dX10_write_238 : decode cX10_write 238 = .ok (.iconst 2, 1) := by decide +kernel
theorem dX10_write_239 : decode cX10_write 239 = .ok (.if_icmp .ne 12, 3) := by decide +kernel
theorem dX10_write_242 : decode cX10_write 242 = .ok (.aload_n 0, 1) := by decide +kernel
theorem dX10_write_243 : decode cX10_write 243 = .ok (.bipush 60, 2) := by decide +kernel
theorem dX10_write_245 : decode cX10_write 245 = .ok (.invokevirtual 168, 3) := by decide +kernel
theorem dX10_write_248 : decode cX10_write 248 = .ok (.goto 29, 3) := by decide +kernel
theorem dX10_write_251 : decode cX10_write 251 = .ok (.iload 5, 2) := by decide +kernel
theorem dX10_write_253 : decode cX10_write 253 = .ok (.iconst 3, 1) := by decide +kernel
theorem dX10_write_254 : decode cX10_write 254 = .ok (.if_icmp .ne 12, 3) := by decide +kernel
theorem dX10_write_257 : decode cX10_write 257 = .ok (.aload_n 0, 1) := by decide +kernel
theorem dX10_write_258 : decode cX10_write 258 = .ok (.bipush 33, 2) := by decide +kernel
theorem dX10_write_260 : decode cX10_write 260 = .ok (.invokevirtual 168, 3) := by decide +kernel
theorem dX10_write_263 : decode cX10_write 263 = .ok (.goto 14, 3) := by decide +kernel
theorem dX10_write_266 : decode cX10_write 266 = .ok (.iload 6, 2) := by decide +kernel
theorem dX10_write_268 : decode cX10_write 268 = .ok (.ifCond .eq 9, 3) := by decide +kernel
theorem dX10_write_271 : decode cX10_write 271 = .ok (.aload_n 0, 1) := by decide +kernel
theorem dX10_write_272 : decode cX10_write 272 = .ok (.bipush 40, 2) := by decide +kernel
theorem dX10_write_274 : decode cX10_write 274 = .ok (.invokevirtual 168, 3) := by decide +kernel
theorem dX10_write_277 : decode cX10_write 277 = .ok (.iload 6, 2) := by decide +kernel
theorem dX10_write_279 : decode cX10_write 279 = .ok (.ifCond .ne 15, 3) := by decide +kernel
theorem dX10_write_282 : decode cX10_write 282 = .ok (.iload 5, 2) := by decide +kernel
theorem dX10_write_284 : decode cX10_write 284 = .ok (.iconst 1, 1) := by decide +kernel
theorem dX10_write_285 : decode cX10_write 285 = .ok (.if_icmp .ne 9, 3) := by decide +kernel
theorem dX10_write_288 : decode cX10_write 288 = .ok (.aload_n 0, 1) := by decide +kernel
theorem dX10_write_289 : decode cX10_write 289 = .ok (.bipush 125, 2) := by decide +kernel
theorem dX10_write_291 : decode cX10_write 291 = .ok (.invokevirtual 168, 3) := by decide +kernel
theorem dX10_write_294 : decode cX10_write 294 = .ok (.iload 6, 2) := by decide +kernel
theorem dX10_write_296 : decode cX10_write 296 = .ok (.ifCond .ne 15, 3) := by decide +kernel
theorem dX10_write_299 : decode cX10_write 299 = .ok (.iload 5, 2) := by decide +kernel
theorem dX10_write_301 : decode cX10_write 301 = .ok (.iconst 2, 1) := by decide +kernel
theorem dX10_write_302 : decode cX10_write 302 = .ok (.if_icmp .ne 9, 3) := by decide +kernel
theorem dX10_write_305 : decode cX10_write 305 = .ok (.aload_n 0, 1) := by decide +kernel
theorem dX10_write_306 : decode cX10_write 306 = .ok (.bipush 62, 2) := by decide +kernel
theorem dX10_write_308 : decode cX10_write 308 = .ok (.invokevirtual 168, 3) := by decide +kernel
theorem dX10_write_311 : decode cX10_write 311 = .ok (.iinc 4 1, 3) := by decide +kernel
theorem dX10_write_314 : decode cX10_write 314 = .ok (.goto (-288), 3) := by decide +kernel
theorem dX10_write_317 : decode cX10_write 317 = .ok (.aload_n 0, 1) := by decide +kernel
theorem dX10_write_318 : decode cX10_write 318 = .ok (.iload_n 1, 1) := by decide +kernel
theorem dX10_write_319 : decode cX10_write 319 = .ok (.aload_n 0, 1) := by decide +kernel
theorem dX10_write_320 : decode cX10_write 320 = .ok (.getfield 13, 3) := by decide +kernel
theorem dX10_write_323 : decode cX10_write 323 = .ok (.iload_n 1, 1) := by decide +kernel
theorem dX10_write_324 : decode cX10_write 324 = .ok (.iaload, 1) := by decide +kernel
theorem dX10_write_325 : decode cX10_write 325 = .ok (.iconst 1, 1) := by decide +kernel
theorem dX10_write_326 : decode cX10_write 326 = .ok (.isub, 1) := by decide +kernel
theorem dX10_write_327 : decode cX10_write 327 = .ok (.iconst 0, 1) := by decide +kernel
theorem dX10_write_328 : decode cX10_write 328 = .ok (.invokevirtual 164, 3) := by decide +kernel
theorem dX10_write_331 : decode cX10_write 331 = .ok (.aload_n 0, 1) := by decide +kernel
theorem dX10_write_332 : decode cX10_write 332 = .ok (.getfield 158, 3) := by decide +kernel
theorem dX10_write_335 : decode cX10_write 335 = .ok (.ireturn, 1) := by decide +kernel
theorem dX10_closes_0 : decode cX10_closes 0 = .ok (.aload_n 0, 1) := by decide +kernel
theorem dX10_closes_1 : decode cX10_closes 1 = .ok (.iload_n 1, 1) := by decide +kernel
theorem dX10_closes_2 : decode cX10_closes 2 = .ok (.iload_n 2, 1) := by decide +kernel
theorem dX10_closes_3 : decode cX10_closes 3 = .ok (.invokevirtual 172, 3) := by decide +kernel
theorem dX10_closes_6 : decode cX10_closes 6 = .ok (.istore 4, 2) := by decide +kernel
theorem dX10_closes_8 : decode cX10_closes 8 = .ok (.iload 4, 2) := by decide +kernel
theorem dX10_closes_10 : decode cX10_closes 10 = .ok (.ifCond .lt 64, 3) := by decide +kernel
theorem dX10_closes_13 : decode cX10_closes 13 = .ok (.aload_n 0, 1) := by decide +kernel
theorem dX10_closes_14 : decode cX10_closes 14 = .ok (.iload_n 1, 1) := by decide +kernel
theorem dX10_closes_15 : decode cX10_closes 15 = .ok (.iload 4, 2) := by decide +kernel
theorem dX10_closes_17 : decode cX10_closes 17 = .ok (.invokevirtual 115, 3) := by decide +kernel
theorem dX10_closes_20 : decode cX10_closes 20 = .ok (.iload_n 3, 1) := by decide +kernel
theorem dX10_closes_21 : decode cX10_closes 21 = .ok (.if_icmp .lt 53, 3) := by decide +kernel
theorem dX10_closes_24 : decode cX10_closes 24 = .ok (.aload_n 0, 1) := by decide +kernel
theorem dX10_closes_25 : decode cX10_closes 25 = .ok (.iload_n 1, 1) := by decide +kernel
theorem dX10_closes_26 : decode cX10_closes 26 = .ok (.iload 4, 2) := by decide +kernel
theorem dX10_closes_28 : decode cX10_closes 28 = .ok (.iconst 1, 1) := by decide +kernel
theorem dX10_closes_29 : decode cX10_closes 29 = .ok (.invokevirtual 104, 3) := by decide +kernel
theorem dX10_closes_32 : decode cX10_closes 32 = .ok (.istore 5, 2) := by decide +kernel
theorem dX10_closes_34 : decode cX10_closes 34 = .ok (.aload_n 0, 1) := by decide +kernel
theorem dX10_closes_35 : decode cX10_closes 35 = .ok (.iload 5, 2) := by decide +kernel
theorem dX10_closes_37 : decode cX10_closes 37 = .ok (.iconst 1, 1) := by decide +kernel
theorem dX10_closes_38 : decode cX10_closes 38 = .ok (.if_icmp .ne 8, 3) := by decide +kernel
theorem dX10_closes_41 : decode cX10_closes 41 = .ok (.bipush 125, 2) := by decide +kernel
theorem dX10_closes_43 : decode cX10_closes 43 = .ok (.goto 16, 3) := by decide +kernel
theorem dX10_closes_46 : decode cX10_closes 46 = .ok (.iload 5, 2) := by decide +kernel
theorem dX10_closes_48 : decode cX10_closes 48 = .ok (.iconst 2, 1) := by decide +kernel
theorem dX10_closes_49 : decode cX10_closes 49 = .ok (.if_icmp .ne 8, 3) := by decide +kernel
theorem dX10_closes_52 : decode cX10_closes 52 = .ok (.bipush 62, 2) := by decide +kernel
theorem dX10_closes_54 : decode cX10_closes 54 = .ok (.goto 5, 3) := by decide +kernel
theorem dX10_closes_57 : decode cX10_closes 57 = .ok (.bipush 41, 2) := by decide +kernel
theorem dX10_closes_59 : decode cX10_closes 59 = .ok (.invokevirtual 168, 3) := by decide +kernel
theorem dX10_closes_62 : decode cX10_closes 62 = .ok (.aload_n 0, 1) := by decide +kernel
theorem dX10_closes_63 : decode cX10_closes 63 = .ok (.iload_n 1, 1) := by decide +kernel
theorem dX10_closes_64 : decode cX10_closes 64 = .ok (.iload 4, 2) := by decide +kernel
theorem dX10_closes_66 : decode cX10_closes 66 = .ok (.invokevirtual 172, 3) := by decide +kernel
theorem dX10_closes_69 : decode cX10_closes 69 = .ok (.istore 4, 2) := by decide +kernel
theorem dX10_closes_71 : decode cX10_closes 71 = .ok (.goto (-63), 3) := by decide +kernel
theorem dX10_closes_74 : decode cX10_closes 74 = .ok (.return_, 1) := by decide +kernel
theorem dX10_letter_0 : decode cX10_letter 0 = .ok (.iload_n 1, 1) := by decide +kernel
theorem dX10_letter_1 : decode cX10_letter 1 = .ok (.iconst 0, 1) := by decide +kernel
theorem dX10_letter_2 : decode cX10_letter 2 = .ok (.aload_n 0, 1) := by decide +kernel
theorem dX10_letter_3 : decode cX10_letter 3 = .ok (.getfield 158, 3) := by decide +kernel
theorem dX10_letter_6 : decode cX10_letter 6 = .ok (.iconst 1, 1) := by decide +kernel
theorem dX10_letter_7 : decode cX10_letter 7 = .ok (.isub, 1) := by decide +kernel
theorem dX10_letter_8 : decode cX10_letter 8 = .ok (.invokestatic 96, 3) := by decide +kernel
theorem dX10_letter_11 : decode cX10_letter 11 = .ok (.ifCond .eq 12, 3) := by decide +kernel
theorem dX10_letter_14 : decode cX10_letter 14 = .ok (.aload_n 0, 1) := by decide +kernel
theorem dX10_letter_15 : decode cX10_letter 15 = .ok (.getfield 19, 3) := by decide +kernel
theorem dX10_letter_18 : decode cX10_letter 18 = .ok (.iload_n 1, 1) := by decide +kernel
theorem dX10_letter_19 : decode cX10_letter 19 = .ok (.iaload, 1) := by decide +kernel
theorem dX10_letter_20 : decode cX10_letter 20 = .ok (.goto 4, 3) := by decide +kernel
theorem dX10_letter_23 : decode cX10_letter 23 = .ok (.iconst (-1), 1) := by decide +kernel
theorem dX10_letter_24 : decode cX10_letter 24 = .ok (.ireturn, 1) := by decide +kernel
theorem dX10_copy_0 : decode cX10_copy 0 = .ok (.aload_n 0, 1) := by decide +kernel
theorem dX10_copy_1 : decode cX10_copy 1 = .ok (.iload_n 1, 1) := by decide +kernel
theorem dX10_copy_2 : decode cX10_copy 2 = .ok (.invokevirtual 161, 3) := by decide +kernel
theorem dX10_copy_5 : decode cX10_copy 5 = .ok (.istore_n 3, 1) := by decide +kernel
theorem dX10_copy_6 : decode cX10_copy 6 = .ok (.iload_n 3, 1) := by decide +kernel
theorem dX10_copy_7 : decode cX10_copy 7 = .ok (.ifCond .ge 9, 3) := by decide +kernel
theorem dX10_copy_10 : decode cX10_copy 10 = .ok (.aload_n 0, 1) := by decide +kernel
theorem dX10_copy_11 : decode cX10_copy 11 = .ok (.iload_n 3, 1) := by decide +kernel
theorem dX10_copy_12 : decode cX10_copy 12 = .ok (.invokevirtual 126, 3) := by decide +kernel
theorem dX10_copy_15 : decode cX10_copy 15 = .ok (.ireturn, 1) := by decide +kernel
theorem dX10_copy_16 : decode cX10_copy 16 = .ok (.iload_n 2, 1) := by decide +kernel
theorem dX10_copy_17 : decode cX10_copy 17 = .ok (.invokestatic 100, 3) := by decide +kernel
theorem dX10_copy_20 : decode cX10_copy 20 = .ok (.ifCond .ne 9, 3) := by decide +kernel
theorem dX10_copy_23 : decode cX10_copy 23 = .ok (.aload_n 0, 1) := by decide +kernel
theorem dX10_copy_24 : decode cX10_copy 24 = .ok (.iconst (-1), 1) := by decide +kernel
theorem dX10_copy_25 : decode cX10_copy 25 = .ok (.invokevirtual 126, 3) := by decide +kernel
theorem dX10_copy_28 : decode cX10_copy 28 = .ok (.ireturn, 1) := by decide +kernel
theorem dX10_copy_29 : decode cX10_copy 29 = .ok (.aload_n 0, 1) := by decide +kernel
theorem dX10_copy_30 : decode cX10_copy 30 = .ok (.iload_n 1, 1) := by decide +kernel
theorem dX10_copy_31 : decode cX10_copy 31 = .ok (.iload_n 2, 1) := by decide +kernel
theorem dX10_copy_32 : decode cX10_copy 32 = .ok (.invokevirtual 151, 3) := by decide +kernel
theorem dX10_copy_35 : decode cX10_copy 35 = .ok (.aload_n 0, 1) := by decide +kernel
theorem dX10_copy_36 : decode cX10_copy 36 = .ok (.getfield 13, 3) := by decide +kernel
theorem dX10_copy_39 : decode cX10_copy 39 = .ok (.iload_n 2, 1) := by decide +kernel
theorem dX10_copy_40 : decode cX10_copy 40 = .ok (.iaload, 1) := by decide +kernel
theorem dX10_copy_41 : decode cX10_copy 41 = .ok (.ireturn, 1) := by decide +kernel
theorem dX10_clear_0 : decode cX10_clear 0 = .ok (.iload_n 1, 1) := by decide +kernel
theorem dX10_clear_1 : decode cX10_clear 1 = .ok (.invokestatic 100, 3) := by decide +kernel
theorem dX10_clear_4 : decode cX10_clear 4 = .ok (.ifCond .ne 9, 3) := by decide +kernel
theorem dX10_clear_7 : decode cX10_clear 7 = .ok (.aload_n 0, 1) := by decide +kernel
theorem dX10_clear_8 : decode cX10_clear 8 = .ok (.iconst (-1), 1) := by decide +kernel
theorem dX10_clear_9 : decode cX10_clear 9 = .ok (.invokevirtual 126, 3) := by decide +kernel
theorem dX10_clear_12 : decode cX10_clear 12 = .ok (.ireturn, 1) := by decide +kernel
theorem dX10_clear_13 : decode cX10_clear 13 = .ok (.aload_n 0, 1) := by decide +kernel
theorem dX10_clear_14 : decode cX10_clear 14 = .ok (.getfield 13, 3) := by decide +kernel
theorem dX10_clear_17 : decode cX10_clear 17 = .ok (.iload_n 1, 1) := by decide +kernel
theorem dX10_clear_18 : decode cX10_clear 18 = .ok (.iaload, 1) := by decide +kernel
theorem dX10_clear_19 : decode cX10_clear 19 = .ok (.ifCond .le 7, 3) := by decide +kernel
theorem dX10_clear_22 : decode cX10_clear 22 = .ok (.iconst 1, 1) := by decide +kernel
theorem dX10_clear_23 : decode cX10_clear 23 = .ok (.goto 4, 3) := by decide +kernel
theorem dX10_clear_26 : decode cX10_clear 26 = .ok (.iconst 0, 1) := by decide +kernel
theorem dX10_clear_27 : decode cX10_clear 27 = .ok (.istore_n 2, 1) := by decide +kernel
theorem dX10_clear_28 : decode cX10_clear 28 = .ok (.aload_n 0, 1) := by decide +kernel
theorem dX10_clear_29 : decode cX10_clear 29 = .ok (.getfield 13, 3) := by decide +kernel
theorem dX10_clear_32 : decode cX10_clear 32 = .ok (.iload_n 1, 1) := by decide +kernel
theorem dX10_clear_33 : decode cX10_clear 33 = .ok (.iconst 0, 1) := by decide +kernel
theorem dX10_clear_34 : decode cX10_clear 34 = .ok (.iastore, 1) := by decide +kernel
theorem dX10_clear_35 : decode cX10_clear 35 = .ok (.iload_n 2, 1) := by decide +kernel
theorem dX10_clear_36 : decode cX10_clear 36 = .ok (.ireturn, 1) := by decide +kernel
theorem dX10_behind_0 : decode cX10_behind 0 = .ok (.aload_n 0, 1) := by decide +kernel
theorem dX10_behind_1 : decode cX10_behind 1 = .ok (.iload_n 1, 1) := by decide +kernel
theorem dX10_behind_2 : decode cX10_behind 2 = .ok (.iload_n 2, 1) := by decide +kernel
theorem dX10_behind_3 : decode cX10_behind 3 = .ok (.invokevirtual 119, 3) := by decide +kernel
theorem dX10_behind_6 : decode cX10_behind 6 = .ok (.iload_n 2, 1) := by decide +kernel
theorem dX10_behind_7 : decode cX10_behind 7 = .ok (.isub, 1) := by decide +kernel
theorem dX10_behind_8 : decode cX10_behind 8 = .ok (.iconst 1, 1) := by decide +kernel
theorem dX10_behind_9 : decode cX10_behind 9 = .ok (.isub, 1) := by decide +kernel
theorem dX10_behind_10 : decode cX10_behind 10 = .ok (.istore_n 3, 1) := by decide +kernel
theorem dX10_behind_11 : decode cX10_behind 11 = .ok (.iconst 0, 1) := by decide +kernel
theorem dX10_behind_12 : decode cX10_behind 12 = .ok (.istore 4, 2) := by decide +kernel
theorem dX10_behind_14 : decode cX10_behind 14 = .ok (.iload 4, 2) := by decide +kernel
theorem dX10_behind_16 : decode cX10_behind 16 = .ok (.iload_n 2, 1) := by decide +kernel
theorem dX10_behind_17 : decode cX10_behind 17 = .ok (.if_icmp .ge 28, 3) := by decide +kernel
theorem dX10_behind_20 : decode cX10_behind 20 = .ok (.iload_n 3, 1) := by decide +kernel
theorem dX10_behind_21 : decode cX10_behind 21 = .ok (.aload_n 0, 1) := by decide +kernel
theorem dX10_behind_22 : decode cX10_behind 22 = .ok (.iload_n 1, 1) := by decide +kernel
theorem dX10_behind_23 : decode cX10_behind 23 = .ok (.iload 4, 2) := by decide +kernel
theorem dX10_behind_25 : decode cX10_behind 25 = .ok (.invokevirtual 119, 3) := by decide +kernel
theorem dX10_behind_28 : decode cX10_behind 28 = .ok (.iload_n 2, 1) := by decide +kernel
theorem dX10_behind_29 : decode cX10_behind 29 = .ok (.if_icmp .le 7, 3) := by decide +kernel
theorem dX10_behind_32 : decode cX10_behind 32 = .ok (.iconst 0, 1) := by decide +kernel
theorem dX10_behind_33 : decode cX10_behind 33 = .ok (.goto 4, 3) := by decide +kernel
theorem dX10_behind_36 : decode cX10_behind 36 = .ok (.iconst 1, 1) := by decide +kernel
theorem dX10_behind_37 : decode cX10_behind 37 = .ok (.iadd, 1) := by decide +kernel
theorem dX10_behind_38 : decode cX10_behind 38 = .ok (.istore_n 3, 1) := by decide +kernel
theorem dX10_behind_39 : decode cX10_behind 39 = .ok (.iinc 4 1, 3) := by decide +kernel
theorem dX10_behind_42 : decode cX10_behind 42 = .ok (.goto (-28), 3) := by decide +kernel
theorem dX10_behind_45 : decode cX10_behind 45 = .ok (.iload_n 3, 1) := by decide +kernel
theorem dX10_behind_46 : decode cX10_behind 46 = .ok (.ireturn, 1) := by decide +kernel
theorem dX10_node_0 : decode cX10_node 0 = .ok (.aload_n 0, 1) := by decide +kernel
theorem dX10_node_1 : decode cX10_node 1 = .ok (.iload_n 1, 1) := by decide +kernel
theorem dX10_node_2 : decode cX10_node 2 = .ok (.invokevirtual 161, 3) := by decide +kernel
theorem dX10_node_5 : decode cX10_node 5 = .ok (.istore 4, 2) := by decide +kernel
theorem dX10_node_7 : decode cX10_node 7 = .ok (.iload 4, 2) := by decide +kernel
theorem dX10_node_9 : decode cX10_node 9 = .ok (.ifCond .ge 10, 3) := by decide +kernel
theorem dX10_node_12 : decode cX10_node 12 = .ok (.aload_n 0, 1) := by decide +kernel
theorem dX10_node_13 : decode cX10_node 13 = .ok (.iload 4, 2) := by decide +kernel
theorem dX10_node_15 : decode cX10_node 15 = .ok (.invokevirtual 126, 3) := by decide +kernel
theorem dX10_node_18 : decode cX10_node 18 = .ok (.ireturn, 1) := by decide +kernel
theorem dX10_node_19 : decode cX10_node 19 = .ok (.iload_n 2, 1) := by decide +kernel
theorem dX10_node_20 : decode cX10_node 20 = .ok (.iconst 0, 1) := by decide +kernel
theorem dX10_node_21 : decode cX10_node 21 = .ok (.aload_n 0, 1) := by decide +kernel
theorem dX10_node_22 : decode cX10_node 22 = .ok (.getfield 13, 3) := by decide +kernel
theorem dX10_node_25 : decode cX10_node 25 = .ok (.iload_n 1, 1) := by decide +kernel
theorem dX10_node_26 : decode cX10_node 26 = .ok (.iaload, 1) := by decide +kernel
theorem dX10_node_27 : decode cX10_node 27 = .ok (.iconst 1, 1) := by decide +kernel
theorem dX10_node_28 : decode cX10_node 28 = .ok (.isub, 1) := by decide +kernel
theorem dX10_node_29 : decode cX10_node 29 = .ok (.invokestatic 96, 3) := by decide +kernel
theorem dX10_node_32 : decode cX10_node 32 = .ok (.ifCond .eq 13, 3) := by decide +kernel
theorem dX10_node_35 : decode cX10_node 35 = .ok (.iload_n 3, 1) := by decide +kernel
theorem dX10_node_36 : decode cX10_node 36 = .ok (.iconst 0, 1) := by decide +kernel
theorem dX10_node_37 : decode cX10_node 37 = .ok (.bipush 8, 2) := by decide +kernel
theorem dX10_node_39 : decode cX10_node 39 = .ok (.invokestatic 96, 3) := by decide +kernel
theorem dX10_node_42 : decode cX10_node 42 = .ok (.ifCond .ne 9, 3) := by decide +kernel
theorem dX10_node_45 : decode cX10_node 45 = .ok (.aload_n 0, 1) := by decide +kernel
theorem dX10_node_46 : decode cX10_node 46 = .ok (.iconst (-1), 1) := by decide +kernel
theorem dX10_node_47 : decode cX10_node 47 = .ok (.invokevirtual 126, 3) := by decide +kernel
theorem dX10_node_50 : decode cX10_node 50 = .ok (.ireturn, 1) := by decide +kernel
theorem dX10_node_51 : decode cX10_node 51 = .ok (.iload_n 3, 1) := by decide +kernel
theorem dX10_node_52 : decode cX10_node 52 = .ok (.tableswitch 124 0 7 #[48, 56, 64, 71, 78, 100, 109, 116], 48) := by decide +kernel
theorem dX10_node_100 : decode cX10_node 100 = .ok (.aload_n 0, 1) := by decide +kernel
theorem dX10_node_101 : decode cX10_node 101 = .ok (.iload_n 1, 1) := by decide +kernel
theorem dX10_node_102 : decode cX10_node 102 = .ok (.iload_n 2, 1) := by decide +kernel
theorem dX10_node_103 : decode cX10_node 103 = .ok (.iconst 0, 1) := by decide +kernel
theorem dX10_node_104 : decode cX10_node 104 = .ok (.invokevirtual 104, 3) := by decide +kernel
theorem dX10_node_107 : decode cX10_node 107 = .ok (.ireturn, 1) := by decide +kernel
theorem dX10_node_108 : decode cX10_node 108 = .ok (.aload_n 0, 1) := by decide +kernel
theorem dX10_node_109 : decode cX10_node 109 = .ok (.iload_n 1, 1) := by decide +kernel
theorem dX10_node_110 : decode cX10_node 110 = .ok (.iload_n 2, 1) := by decide +kernel
theorem dX10_node_111 : decode cX10_node 111 = .ok (.iconst 1, 1) := by decide +kernel
theorem dX10_node_112 : decode cX10_node 112 = .ok (.invokevirtual 104, 3) := by decide +kernel
theorem dX10_node_115 : decode cX10_node 115 = .ok (.ireturn, 1) := by decide +kernel
theorem dX10_node_116 : decode cX10_node 116 = .ok (.aload_n 0, 1) := by decide +kernel
theorem dX10_node_117 : decode cX10_node 117 = .ok (.iload_n 1, 1) := by decide +kernel
theorem dX10_node_118 : decode cX10_node 118 = .ok (.iload_n 2, 1) := by decide +kernel
theorem dX10_node_119 : decode cX10_node 119 = .ok (.invokevirtual 175, 3) := by decide +kernel
theorem dX10_node_122 : decode cX10_node 122 = .ok (.ireturn, 1) := by decide +kernel
theorem dX10_node_123 : decode cX10_node 123 = .ok (.aload_n 0, 1) := by decide +kernel
theorem dX10_node_124 : decode cX10_node 124 = .ok (.iload_n 1, 1) := by decide +kernel
theorem dX10_node_125 : decode cX10_node 125 = .ok (.iload_n 2, 1) := by decide +kernel
theorem dX10_node_126 : decode cX10_node 126 = .ok (.invokevirtual 115, 3) := by decide +kernel
theorem dX10_node_129 : decode cX10_node 129 = .ok (.ireturn, 1) := by decide +kernel
theorem dX10_node_130 : decode cX10_node 130 = .ok (.iload_n 2, 1) := by decide +kernel
theorem dX10_node_131 : decode cX10_node 131 = .ok (.ifCond .ne 8, 3) := by decide +kernel
theorem dX10_node_134 : decode cX10_node 134 = .ok (.bipush (-8), 2) := by decide +kernel
theorem dX10_node_136 : decode cX10_node 136 = .ok (.goto 15, 3) := by decide +kernel
theorem dX10_node_139 : decode cX10_node 139 = .ok (.aload_n 0, 1) := by decide +kernel
theorem dX10_node_140 : decode cX10_node 140 = .ok (.iload_n 1, 1) := by decide +kernel
theorem dX10_node_141 : decode cX10_node 141 = .ok (.aload_n 0, 1) := by decide +kernel
theorem dX10_node_142 : decode cX10_node 142 = .ok (.iload_n 1, 1) := by decide +kernel
theorem dX10_node_143 : decode cX10_node 143 = .ok (.iload_n 2, 1) := by decide +kernel
theorem dX10_node_144 : decode cX10_node 144 = .ok (.invokevirtual 172, 3) := by decide +kernel
theorem dX10_node_147 : decode cX10_node 147 = .ok (.iconst 0, 1) := by decide +kernel
theorem dX10_node_148 : decode cX10_node 148 = .ok (.invokevirtual 104, 3) := by decide +kernel
theorem dX10_node_151 : decode cX10_node 151 = .ok (.ireturn, 1) := by decide +kernel
theorem dX10_node_152 : decode cX10_node 152 = .ok (.aload_n 0, 1) := by decide +kernel
theorem dX10_node_153 : decode cX10_node 153 = .ok (.iload_n 1, 1) := by decide +kernel
theorem dX10_node_154 : decode cX10_node 154 = .ok (.iload_n 2, 1) := by decide +kernel
theorem dX10_node_155 : decode cX10_node 155 = .ok (.invokevirtual 119, 3) := by decide +kernel
theorem dX10_node_158 : decode cX10_node 158 = .ok (.iload_n 2, 1) := by decide +kernel
theorem dX10_node_159 : decode cX10_node 159 = .ok (.isub, 1) := by decide +kernel
theorem dX10_node_160 : decode cX10_node 160 = .ok (.ireturn, 1) := by decide +kernel
theorem dX10_node_161 : decode cX10_node 161 = .ok (.aload_n 0, 1) := by decide +kernel
theorem dX10_node_162 : decode cX10_node 162 = .ok (.iload_n 1, 1) := by decide +kernel
theorem dX10_node_163 : decode cX10_node 163 = .ok (.iload_n 2, 1) := by decide +kernel
theorem dX10_node_164 : decode cX10_node 164 = .ok (.invokevirtual 178, 3) := by decide +kernel
theorem dX10_node_167 : decode cX10_node 167 = .ok (.ireturn, 1) := by decide +kernel
theorem dX10_node_168 : decode cX10_node 168 = .ok (.aload_n 0, 1) := by decide +kernel
theorem dX10_node_169 : decode cX10_node 169 = .ok (.iload_n 1, 1) := by decide +kernel
theorem dX10_node_170 : decode cX10_node 170 = .ok (.iload_n 2, 1) := by decide +kernel
theorem dX10_node_171 : decode cX10_node 171 = .ok (.iconst 3, 1) := by decide +kernel
theorem dX10_node_172 : decode cX10_node 172 = .ok (.invokevirtual 104, 3) := by decide +kernel
theorem dX10_node_175 : decode cX10_node 175 = .ok (.ireturn, 1) := by decide +kernel
theorem dX10_node_176 : decode cX10_node 176 = .ok (.aload_n 0, 1) := by decide +kernel
theorem dX10_node_177 : decode cX10_node 177 = .ok (.iload_n 1, 1) := by decide +kernel
theorem dX10_node_178 : decode cX10_node 178 = .ok (.iload_n 2, 1) := by decide +kernel
theorem dX10_node_179 : decode cX10_node 179 = .ok (.bipush 10, 2) := by decide +kernel
theorem dX10_node_181 : decode cX10_node 181 = .ok (.invokevirtual 104, 3) := by decide +kernel
theorem dX10_node_184 : decode cX10_node 184 = .ok (.ireturn, 1) := by decide +kernel
theorem dX10_size_0 : decode cX10_size 0 = .ok (.aload_n 0, 1) := by decide +kernel
theorem dX10_size_1 : decode cX10_size 1 = .ok (.iload_n 1, 1) := by decide +kernel
theorem dX10_size_2 : decode cX10_size 2 = .ok (.invokevirtual 161, 3) := by decide +kernel
theorem dX10_size_5 : decode cX10_size 5 = .ok (.istore_n 2, 1) := by decide +kernel
theorem dX10_size_6 : decode cX10_size 6 = .ok (.iload_n 2, 1) := by decide +kernel
theorem dX10_size_7 : decode cX10_size 7 = .ok (.ifCond .ge 11, 3) := by decide +kernel
theorem dX10_size_10 : decode cX10_size 10 = .ok (.aload_n 0, 1) := by decide +kernel
theorem dX10_size_11 : decode cX10_size 11 = .ok (.iload_n 2, 1) := by decide +kernel
theorem dX10_size_12 : decode cX10_size 12 = .ok (.invokevirtual 126, 3) := by decide +kernel
theorem dX10_size_15 : decode cX10_size 15 = .ok (.goto 9, 3) := by decide +kernel
theorem dX10_size_18 : decode cX10_size 18 = .ok (.aload_n 0, 1) := by decide +kernel
theorem dX10_size_19 : decode cX10_size 19 = .ok (.getfield 13, 3) := by decide +kernel
theorem dX10_size_22 : decode cX10_size 22 = .ok (.iload_n 1, 1) := by decide +kernel
theorem dX10_size_23 : decode cX10_size 23 = .ok (.iaload, 1) := by decide +kernel
theorem dX10_size_24 : decode cX10_size 24 = .ok (.ireturn, 1) := by decide +kernel
theorem dX10_takes_0 : decode cX10_takes 0 = .ok (.aload_n 0, 1) := by decide +kernel
theorem dX10_takes_1 : decode cX10_takes 1 = .ok (.getfield 130, 3) := by decide +kernel
theorem dX10_takes_4 : decode cX10_takes 4 = .ok (.istore_n 3, 1) := by decide +kernel
theorem dX10_takes_5 : decode cX10_takes 5 = .ok (.aload_n 0, 1) := by decide +kernel
theorem dX10_takes_6 : decode cX10_takes 6 = .ok (.iconst 0, 1) := by decide +kernel
theorem dX10_takes_7 : decode cX10_takes 7 = .ok (.putfield 130, 3) := by decide +kernel
theorem dX10_takes_10 : decode cX10_takes 10 = .ok (.iload_n 3, 1) := by decide +kernel
theorem dX10_takes_11 : decode cX10_takes 11 = .ok (.iload_n 2, 1) := by decide +kernel
theorem dX10_takes_12 : decode cX10_takes 12 = .ok (.iconst 3, 1) := by decide +kernel
theorem dX10_takes_13 : decode cX10_takes 13 = .ok (.if_icmp .ne 8, 3) := by decide +kernel
theorem dX10_takes_16 : decode cX10_takes 16 = .ok (.bipush 6, 2) := by decide +kernel
theorem dX10_takes_18 : decode cX10_takes 18 = .ok (.goto 5, 3) := by decide +kernel
theorem dX10_takes_21 : decode cX10_takes 21 = .ok (.bipush 8, 2) := by decide +kernel
theorem dX10_takes_23 : decode cX10_takes 23 = .ok (.if_icmp .gt 12, 3) := by decide +kernel
theorem dX10_takes_26 : decode cX10_takes 26 = .ok (.iload_n 2, 1) := by decide +kernel
theorem dX10_takes_27 : decode cX10_takes 27 = .ok (.iconst 3, 1) := by decide +kernel
theorem dX10_takes_28 : decode cX10_takes 28 = .ok (.if_icmp .ne 9, 3) := by decide +kernel
theorem dX10_takes_31 : decode cX10_takes 31 = .ok (.iload_n 3, 1) := by decide +kernel
theorem dX10_takes_32 : decode cX10_takes 32 = .ok (.ifCond .ne 5, 3) := by decide +kernel
theorem dX10_takes_35 : decode cX10_takes 35 = .ok (.iconst 0, 1) := by decide +kernel
theorem dX10_takes_36 : decode cX10_takes 36 = .ok (.ireturn, 1) := by decide +kernel
theorem dX10_takes_37 : decode cX10_takes 37 = .ok (.iconst 0, 1) := by decide +kernel
theorem dX10_takes_38 : decode cX10_takes 38 = .ok (.istore 4, 2) := by decide +kernel
theorem dX10_takes_40 : decode cX10_takes 40 = .ok (.iload 4, 2) := by decide +kernel
theorem dX10_takes_42 : decode cX10_takes 42 = .ok (.iload_n 3, 1) := by decide +kernel
theorem dX10_takes_43 : decode cX10_takes 43 = .ok (.if_icmp .ge 65, 3) := by decide +kernel
theorem dX10_takes_46 : decode cX10_takes 46 = .ok (.iload_n 2, 1) := by decide +kernel
theorem dX10_takes_47 : decode cX10_takes 47 = .ok (.iconst 3, 1) := by decide +kernel
theorem dX10_takes_48 : decode cX10_takes 48 = .ok (.if_icmp .ne 19, 3) := by decide +kernel
theorem dX10_takes_51 : decode cX10_takes 51 = .ok (.aload_n 0, 1) := by decide +kernel
theorem dX10_takes_52 : decode cX10_takes 52 = .ok (.getfield 16, 3) := by decide +kernel
theorem dX10_takes_55 : decode cX10_takes 55 = .ok (.iload 4, 2) := by decide +kernel
theorem dX10_takes_57 : decode cX10_takes 57 = .ok (.iaload, 1) := by decide +kernel
theorem dX10_takes_58 : decode cX10_takes 58 = .ok (.invokestatic 135, 3) := by decide +kernel
theorem dX10_takes_61 : decode cX10_takes 61 = .ok (.ifCond .ne 21, 3) := by decide +kernel
theorem dX10_takes_64 : decode cX10_takes 64 = .ok (.goto 16, 3) := by decide +kernel
theorem dX10_takes_67 : decode cX10_takes 67 = .ok (.aload_n 0, 1) := by decide +kernel
theorem dX10_takes_68 : decode cX10_takes 68 = .ok (.getfield 16, 3) := by decide +kernel
theorem dX10_takes_71 : decode cX10_takes 71 = .ok (.iload 4, 2) := by decide +kernel
theorem dX10_takes_73 : decode cX10_takes 73 = .ok (.iaload, 1) := by decide +kernel
theorem dX10_takes_74 : decode cX10_takes 74 = .ok (.invokestatic 141, 3) := by decide +kernel
theorem dX10_takes_77 : decode cX10_takes 77 = .ok (.ifCond .ne 5, 3) := by decide +kernel
theorem dX10_takes_80 : decode cX10_takes 80 = .ok (.iconst 0, 1) := by decide +kernel
theorem dX10_takes_81 : decode cX10_takes 81 = .ok (.ireturn, 1) := by decide +kernel
theorem dX10_takes_82 : decode cX10_takes 82 = .ok (.aload_n 0, 1) := by decide +kernel
theorem dX10_takes_83 : decode cX10_takes 83 = .ok (.bipush 8, 2) := by decide +kernel
theorem dX10_takes_85 : decode cX10_takes 85 = .ok (.iload_n 1, 1) := by decide +kernel
theorem dX10_takes_86 : decode cX10_takes 86 = .ok (.iload_n 2, 1) := by decide +kernel
theorem dX10_takes_87 : decode cX10_takes 87 = .ok (.iconst 1, 1) := by decide +kernel
theorem dX10_takes_88 : decode cX10_takes 88 = .ok (.iadd, 1) := by decide +kernel
theorem dX10_takes_89 : decode cX10_takes 89 = .ok (.iload 4, 2) := by decide +kernel
theorem dX10_takes_91 : decode cX10_takes 91 = .ok (.iadd, 1) := by decide +kernel
theorem dX10_takes_92 : decode cX10_takes 92 = .ok (.aload_n 0, 1) := by decide +kernel
theorem dX10_takes_93 : decode cX10_takes 93 = .ok (.getfield 16, 3) := by decide +kernel
theorem dX10_takes_96 : decode cX10_takes 96 = .ok (.iload 4, 2) := by decide +kernel
theorem dX10_takes_98 : decode cX10_takes 98 = .ok (.iaload, 1) := by decide +kernel
theorem dX10_takes_99 : decode cX10_takes 99 = .ok (.invokevirtual 108, 3) := by decide +kernel
theorem dX10_takes_102 : decode cX10_takes 102 = .ok (.iinc 4 1, 3) := by decide +kernel
theorem dX10_takes_105 : decode cX10_takes 105 = .ok (.goto (-65), 3) := by decide +kernel
theorem dX10_takes_108 : decode cX10_takes 108 = .ok (.aload_n 0, 1) := by decide +kernel
theorem dX10_takes_109 : decode cX10_takes 109 = .ok (.bipush 8, 2) := by decide +kernel
theorem dX10_takes_111 : decode cX10_takes 111 = .ok (.iload_n 1, 1) := by decide +kernel
theorem dX10_takes_112 : decode cX10_takes 112 = .ok (.iload_n 2, 1) := by decide +kernel
theorem dX10_takes_113 : decode cX10_takes 113 = .ok (.iload_n 3, 1) := by decide +kernel
theorem dX10_takes_114 : decode cX10_takes 114 = .ok (.invokevirtual 108, 3) := by decide +kernel
theorem dX10_takes_117 : decode cX10_takes 117 = .ok (.iconst 1, 1) := by decide +kernel
theorem dX10_takes_118 : decode cX10_takes 118 = .ok (.ireturn, 1) := by decide +kernel
theorem dX10_relabel_0 : decode cX10_relabel 0 = .ok (.aload_n 0, 1) := by decide +kernel
theorem dX10_relabel_1 : decode cX10_relabel 1 = .ok (.iload_n 1, 1) := by decide +kernel
theorem dX10_relabel_2 : decode cX10_relabel 2 = .ok (.invokevirtual 161, 3) := by decide +kernel
theorem dX10_relabel_5 : decode cX10_relabel 5 = .ok (.istore_n 3, 1) := by decide +kernel
theorem dX10_relabel_6 : decode cX10_relabel 6 = .ok (.iload_n 3, 1) := by decide +kernel
theorem dX10_relabel_7 : decode cX10_relabel 7 = .ok (.ifCond .ge 9, 3) := by decide +kernel
theorem dX10_relabel_10 : decode cX10_relabel 10 = .ok (.aload_n 0, 1) := by decide +kernel
theorem dX10_relabel_11 : decode cX10_relabel 11 = .ok (.iload_n 3, 1) := by decide +kernel
theorem dX10_relabel_12 : decode cX10_relabel 12 = .ok (.invokevirtual 126, 3) := by decide +kernel
theorem dX10_relabel_15 : decode cX10_relabel 15 = .ok (.ireturn, 1) := by decide +kernel
theorem dX10_relabel_16 : decode cX10_relabel 16 = .ok (.aload_n 0, 1) := by decide +kernel
theorem dX10_relabel_17 : decode cX10_relabel 17 = .ok (.iload_n 1, 1) := by decide +kernel
theorem dX10_relabel_18 : decode cX10_relabel 18 = .ok (.iload_n 2, 1) := by decide +kernel
theorem dX10_relabel_19 : decode cX10_relabel 19 = .ok (.invokevirtual 181, 3) := by decide +kernel
theorem dX10_relabel_22 : decode cX10_relabel 22 = .ok (.istore 4, 2) := by decide +kernel
theorem dX10_relabel_24 : decode cX10_relabel 24 = .ok (.iload 4, 2) := by decide +kernel
theorem dX10_relabel_26 : decode cX10_relabel 26 = .ok (.ifCond .ge 10, 3) := by decide +kernel
theorem dX10_relabel_29 : decode cX10_relabel 29 = .ok (.aload_n 0, 1) := by decide +kernel
theorem dX10_relabel_30 : decode cX10_relabel 30 = .ok (.bipush (-6), 2) := by decide +kernel
theorem dX10_relabel_32 : decode cX10_relabel 32 = .ok (.invokevirtual 126, 3) := by decide +kernel
theorem dX10_relabel_35 : decode cX10_relabel 35 = .ok (.ireturn, 1) := by decide +kernel
theorem dX10_relabel_36 : decode cX10_relabel 36 = .ok (.aload_n 0, 1) := by decide +kernel
theorem dX10_relabel_37 : decode cX10_relabel 37 = .ok (.iload_n 1, 1) := by decide +kernel
theorem dX10_relabel_38 : decode cX10_relabel 38 = .ok (.bipush 8, 2) := by decide +kernel
theorem dX10_relabel_40 : decode cX10_relabel 40 = .ok (.invokevirtual 151, 3) := by decide +kernel
theorem dX10_relabel_43 : decode cX10_relabel 43 = .ok (.aload_n 0, 1) := by decide +kernel
theorem dX10_relabel_44 : decode cX10_relabel 44 = .ok (.iload 4, 2) := by decide +kernel
theorem dX10_relabel_46 : decode cX10_relabel 46 = .ok (.iconst 3, 1) := by decide +kernel
theorem dX10_relabel_47 : decode cX10_relabel 47 = .ok (.invokevirtual 184, 3) := by decide +kernel
theorem dX10_relabel_50 : decode cX10_relabel 50 = .ok (.ifCond .ne 10, 3) := by decide +kernel
theorem dX10_relabel_53 : decode cX10_relabel 53 = .ok (.aload_n 0, 1) := by decide +kernel
theorem dX10_relabel_54 : decode cX10_relabel 54 = .ok (.bipush (-3), 2) := by decide +kernel
theorem dX10_relabel_56 : decode cX10_relabel 56 = .ok (.invokevirtual 126, 3) := by decide +kernel
theorem dX10_relabel_59 : decode cX10_relabel 59 = .ok (.ireturn, 1) := by decide +kernel
theorem dX10_relabel_60 : decode cX10_relabel 60 = .ok (.aload_n 0, 1) := by decide +kernel
theorem dX10_relabel_61 : decode cX10_relabel 61 = .ok (.iload_n 1, 1) := by decide +kernel
theorem dX10_relabel_62 : decode cX10_relabel 62 = .ok (.iload 4, 2) := by decide +kernel
theorem dX10_relabel_64 : decode cX10_relabel 64 = .ok (.invokevirtual 172, 3) := by decide +kernel
theorem dX10_relabel_67 : decode cX10_relabel 67 = .ok (.istore 5, 2) := by decide +kernel
theorem dX10_relabel_69 : decode cX10_relabel 69 = .ok (.iload 5, 2) := by decide +kernel
theorem dX10_relabel_71 : decode cX10_relabel 71 = .ok (.ifCond .lt 74, 3) := by decide +kernel
theorem dX10_relabel_74 : decode cX10_relabel 74 = .ok (.aload_n 0, 1) := by decide +kernel
theorem dX10_relabel_75 : decode cX10_relabel 75 = .ok (.iload_n 1, 1) := by decide +kernel
theorem dX10_relabel_76 : decode cX10_relabel 76 = .ok (.iload 5, 2) := by decide +kernel
theorem dX10_relabel_78 : decode cX10_relabel 78 = .ok (.iconst 1, 1) := by decide +kernel
theorem dX10_relabel_79 : decode cX10_relabel 79 = .ok (.invokevirtual 104, 3) := by decide +kernel
theorem dX10_relabel_82 : decode cX10_relabel 82 = .ok (.iconst 2, 1) := by decide +kernel
theorem dX10_relabel_83 : decode cX10_relabel 83 = .ok (.if_icmp .ne 62, 3) := by decide +kernel
theorem dX10_relabel_86 : decode cX10_relabel 86 = .ok (.iload 5, 2) := by decide +kernel
theorem dX10_relabel_88 : decode cX10_relabel 88 = .ok (.iconst 1, 1) := by decide +kernel
theorem dX10_relabel_89 : decode cX10_relabel 89 = .ok (.iadd, 1) := by decide +kernel
theorem dX10_relabel_90 : decode cX10_relabel 90 = .ok (.istore 6, 2) := by decide +kernel
theorem dX10_relabel_92 : decode cX10_relabel 92 = .ok (.iload 6, 2) := by decide +kernel
theorem dX10_relabel_94 : decode cX10_relabel 94 = .ok (.aload_n 0, 1) := by decide +kernel
theorem dX10_relabel_95 : decode cX10_relabel 95 = .ok (.iload_n 1, 1) := by decide +kernel
theorem dX10_relabel_96 : decode cX10_relabel 96 = .ok (.iload 5, 2) := by decide +kernel
theorem dX10_relabel_98 : decode cX10_relabel 98 = .ok (.invokevirtual 119, 3) := by decide +kernel
theorem dX10_relabel_101 : decode cX10_relabel 101 = .ok (.if_icmp .ge 44, 3) := by decide +kernel
theorem dX10_relabel_104 : decode cX10_relabel 104 = .ok (.iload 6, 2) := by decide +kernel
theorem dX10_relabel_106 : decode cX10_relabel 106 = .ok (.iload 4, 2) := by decide +kernel
theorem dX10_relabel_108 : decode cX10_relabel 108 = .ok (.if_icmp .eq 25, 3) := by decide +kernel
theorem dX10_relabel_111 : decode cX10_relabel 111 = .ok (.aload_n 0, 1) := by decide +kernel
theorem dX10_relabel_112 : decode cX10_relabel 112 = .ok (.bipush 8, 2) := by decide +kernel
theorem dX10_relabel_114 : decode cX10_relabel 114 = .ok (.iload 4, 2) := by decide +kernel
theorem dX10_relabel_116 : decode cX10_relabel 116 = .ok (.iload_n 1, 1) := by decide +kernel
theorem dX10_relabel_117 : decode cX10_relabel 117 = .ok (.iload 6, 2) := by decide +kernel
theorem dX10_relabel_119 : decode cX10_relabel 119 = .ok (.iconst 3, 1) := by decide +kernel
theorem dX10_relabel_120 : decode cX10_relabel 120 = .ok (.invokevirtual 122, 3) := by decide +kernel
theorem dX10_relabel_123 : decode cX10_relabel 123 = .ok (.ifCond .eq 10, 3) := by decide +kernel
theorem dX10_relabel_126 : decode cX10_relabel 126 = .ok (.aload_n 0, 1) := by decide +kernel
theorem dX10_relabel_127 : decode cX10_relabel 127 = .ok (.bipush (-4), 2) := by decide +kernel
theorem dX10_relabel_129 : decode cX10_relabel 129 = .ok (.invokevirtual 126, 3) := by decide +kernel
theorem dX10_relabel_132 : decode cX10_relabel 132 = .ok (.ireturn, 1) := by decide +kernel
theorem dX10_relabel_133 : decode cX10_relabel 133 = .ok (.aload_n 0, 1) := by decide +kernel
theorem dX10_relabel_134 : decode cX10_relabel 134 = .ok (.iload_n 1, 1) := by decide +kernel
theorem dX10_relabel_135 : decode cX10_relabel 135 = .ok (.iload 6, 2) := by decide +kernel
theorem dX10_relabel_137 : decode cX10_relabel 137 = .ok (.invokevirtual 119, 3) := by decide +kernel
theorem dX10_relabel_140 : decode cX10_relabel 140 = .ok (.istore 6, 2) := by decide +kernel
theorem dX10_relabel_142 : decode cX10_relabel 142 = .ok (.goto (-50), 3) := by decide +kernel
theorem dX10_relabel_145 : decode cX10_relabel 145 = .ok (.aload_n 0, 1) := by decide +kernel
theorem dX10_relabel_146 : decode cX10_relabel 146 = .ok (.bipush 8, 2) := by decide +kernel
theorem dX10_relabel_148 : decode cX10_relabel 148 = .ok (.iload_n 1, 1) := by decide +kernel
theorem dX10_relabel_149 : decode cX10_relabel 149 = .ok (.invokevirtual 151, 3) := by decide +kernel
theorem dX10_relabel_152 : decode cX10_relabel 152 = .ok (.aload_n 0, 1) := by decide +kernel
theorem dX10_relabel_153 : decode cX10_relabel 153 = .ok (.iload_n 1, 1) := by decide +kernel
theorem dX10_relabel_154 : decode cX10_relabel 154 = .ok (.iload 4, 2) := by decide +kernel
theorem dX10_relabel_156 : decode cX10_relabel 156 = .ok (.iconst 3, 1) := by decide +kernel
theorem dX10_relabel_157 : decode cX10_relabel 157 = .ok (.invokevirtual 104, 3) := by decide +kernel
theorem dX10_relabel_160 : decode cX10_relabel 160 = .ok (.ireturn, 1) := by decide +kernel
theorem dX10_retext_0 : decode cX10_retext 0 = .ok (.aload_n 0, 1) := by decide +kernel
theorem dX10_retext_1 : decode cX10_retext 1 = .ok (.iload_n 1, 1) := by decide +kernel
theorem dX10_retext_2 : decode cX10_retext 2 = .ok (.invokevirtual 161, 3) := by decide +kernel
theorem dX10_retext_5 : decode cX10_retext 5 = .ok (.istore_n 3, 1) := by decide +kernel
theorem dX10_retext_6 : decode cX10_retext 6 = .ok (.iload_n 3, 1) := by decide +kernel
theorem dX10_retext_7 : decode cX10_retext 7 = .ok (.ifCond .ge 9, 3) := by decide +kernel
theorem dX10_retext_10 : decode cX10_retext 10 = .ok (.aload_n 0, 1) := by decide +kernel
theorem dX10_retext_11 : decode cX10_retext 11 = .ok (.iload_n 3, 1) := by decide +kernel
theorem dX10_retext_12 : decode cX10_retext 12 = .ok (.invokevirtual 126, 3) := by decide +kernel
theorem dX10_retext_15 : decode cX10_retext 15 = .ok (.ireturn, 1) := by decide +kernel
theorem dX10_retext_16 : decode cX10_retext 16 = .ok (.aload_n 0, 1) := by decide +kernel
theorem dX10_retext_17 : decode cX10_retext 17 = .ok (.iload_n 1, 1) := by decide +kernel
theorem dX10_retext_18 : decode cX10_retext 18 = .ok (.iload_n 2, 1) := by decide +kernel
theorem dX10_retext_19 : decode cX10_retext 19 = .ok (.invokevirtual 181, 3) := by decide +kernel
theorem dX10_retext_22 : decode cX10_retext 22 = .ok (.istore 4, 2) := by decide +kernel
theorem dX10_retext_24 : decode cX10_retext 24 = .ok (.iload 4, 2) := by decide +kernel
theorem dX10_retext_26 : decode cX10_retext 26 = .ok (.ifCond .ge 10, 3) := by decide +kernel
theorem dX10_retext_29 : decode cX10_retext 29 = .ok (.aload_n 0, 1) := by decide +kernel
theorem dX10_retext_30 : decode cX10_retext 30 = .ok (.bipush (-6), 2) := by decide +kernel
theorem dX10_retext_32 : decode cX10_retext 32 = .ok (.invokevirtual 126, 3) := by decide +kernel
theorem dX10_retext_35 : decode cX10_retext 35 = .ok (.ireturn, 1) := by decide +kernel
theorem dX10_retext_36 : decode cX10_retext 36 = .ok (.aload_n 0, 1) := by decide +kernel
theorem dX10_retext_37 : decode cX10_retext 37 = .ok (.iload_n 1, 1) := by decide +kernel
theorem dX10_retext_38 : decode cX10_retext 38 = .ok (.bipush 8, 2) := by decide +kernel
theorem dX10_retext_40 : decode cX10_retext 40 = .ok (.invokevirtual 151, 3) := by decide +kernel
theorem dX10_retext_43 : decode cX10_retext 43 = .ok (.aload_n 0, 1) := by decide +kernel
theorem dX10_retext_44 : decode cX10_retext 44 = .ok (.iload 4, 2) := by decide +kernel
theorem dX10_retext_46 : decode cX10_retext 46 = .ok (.bipush 10, 2) := by decide +kernel
theorem dX10_retext_48 : decode cX10_retext 48 = .ok (.invokevirtual 184, 3) := by decide +kernel
theorem dX10_retext_51 : decode cX10_retext 51 = .ok (.ifCond .ne 10, 3) := by decide +kernel
theorem dX10_retext_54 : decode cX10_retext 54 = .ok (.aload_n 0, 1) := by decide +kernel
theorem dX10_retext_55 : decode cX10_retext 55 = .ok (.bipush (-3), 2) := by decide +kernel
theorem dX10_retext_57 : decode cX10_retext 57 = .ok (.invokevirtual 126, 3) := by decide +kernel
theorem dX10_retext_60 : decode cX10_retext 60 = .ok (.ireturn, 1) := by decide +kernel
theorem dX10_retext_61 : decode cX10_retext 61 = .ok (.aload_n 0, 1) := by decide +kernel
theorem dX10_retext_62 : decode cX10_retext 62 = .ok (.bipush 8, 2) := by decide +kernel
theorem dX10_retext_64 : decode cX10_retext 64 = .ok (.iload_n 1, 1) := by decide +kernel
theorem dX10_retext_65 : decode cX10_retext 65 = .ok (.invokevirtual 151, 3) := by decide +kernel
theorem dX10_retext_68 : decode cX10_retext 68 = .ok (.aload_n 0, 1) := by decide +kernel
theorem dX10_retext_69 : decode cX10_retext 69 = .ok (.iload_n 1, 1) := by decide +kernel
theorem dX10_retext_70 : decode cX10_retext 70 = .ok (.iload 4, 2) := by decide +kernel
theorem dX10_retext_72 : decode cX10_retext 72 = .ok (.bipush 10, 2) := by decide +kernel
theorem dX10_retext_74 : decode cX10_retext 74 = .ok (.invokevirtual 104, 3) := by decide +kernel
theorem dX10_retext_77 : decode cX10_retext 77 = .ok (.ireturn, 1) := by decide +kernel
theorem dX10_put_0 : decode cX10_put 0 = .ok (.aload_n 0, 1) := by decide +kernel
theorem dX10_put_1 : decode cX10_put 1 = .ok (.iload_n 1, 1) := by decide +kernel
theorem dX10_put_2 : decode cX10_put 2 = .ok (.invokevirtual 161, 3) := by decide +kernel
theorem dX10_put_5 : decode cX10_put 5 = .ok (.istore 6, 2) := by decide +kernel
theorem dX10_put_7 : decode cX10_put 7 = .ok (.iload 6, 2) := by decide +kernel
theorem dX10_put_9 : decode cX10_put 9 = .ok (.ifCond .ge 10, 3) := by decide +kernel
theorem dX10_put_12 : decode cX10_put 12 = .ok (.aload_n 0, 1) := by decide +kernel
theorem dX10_put_13 : decode cX10_put 13 = .ok (.iload 6, 2) := by decide +kernel
theorem dX10_put_15 : decode cX10_put 15 = .ok (.invokevirtual 126, 3) := by decide +kernel
theorem dX10_put_18 : decode cX10_put 18 = .ok (.ireturn, 1) := by decide +kernel
theorem dX10_put_19 : decode cX10_put 19 = .ok (.aload_n 0, 1) := by decide +kernel
theorem dX10_put_20 : decode cX10_put 20 = .ok (.iload_n 1, 1) := by decide +kernel
theorem dX10_put_21 : decode cX10_put 21 = .ok (.iload_n 2, 1) := by decide +kernel
theorem dX10_put_22 : decode cX10_put 22 = .ok (.invokevirtual 181, 3) := by decide +kernel
theorem dX10_put_25 : decode cX10_put 25 = .ok (.istore 7, 2) := by decide +kernel
theorem dX10_put_27 : decode cX10_put 27 = .ok (.iload 7, 2) := by decide +kernel
theorem dX10_put_29 : decode cX10_put 29 = .ok (.ifCond .ge 10, 3) := by decide +kernel
theorem dX10_put_32 : decode cX10_put 32 = .ok (.aload_n 0, 1) := by decide +kernel
theorem dX10_put_33 : decode cX10_put 33 = .ok (.bipush (-6), 2) := by decide +kernel
theorem dX10_put_35 : decode cX10_put 35 = .ok (.invokevirtual 126, 3) := by decide +kernel
theorem dX10_put_38 : decode cX10_put 38 = .ok (.ireturn, 1) := by decide +kernel
theorem dX10_put_39 : decode cX10_put 39 = .ok (.aload_n 0, 1) := by decide +kernel
theorem dX10_put_40 : decode cX10_put 40 = .ok (.getfield 13, 3) := by decide +kernel
theorem dX10_put_43 : decode cX10_put 43 = .ok (.bipush 8, 2) := by decide +kernel
theorem dX10_put_45 : decode cX10_put 45 = .ok (.iconst 0, 1) := by decide +kernel
theorem dX10_put_46 : decode cX10_put 46 = .ok (.iastore, 1) := by decide +kernel
theorem dX10_put_47 : decode cX10_put 47 = .ok (.aload_n 0, 1) := by decide +kernel
theorem dX10_put_48 : decode cX10_put 48 = .ok (.iconst 0, 1) := by decide +kernel
theorem dX10_put_49 : decode cX10_put 49 = .ok (.iconst 3, 1) := by decide +kernel
theorem dX10_put_50 : decode cX10_put 50 = .ok (.invokevirtual 184, 3) := by decide +kernel
theorem dX10_put_53 : decode cX10_put 53 = .ok (.istore 8, 2) := by decide +kernel
theorem dX10_put_55 : decode cX10_put 55 = .ok (.iload_n 3, 1) := by decide +kernel
theorem dX10_put_56 : decode cX10_put 56 = .ok (.iconst 0, 1) := by decide +kernel
theorem dX10_put_57 : decode cX10_put 57 = .ok (.iconst 2, 1) := by decide +kernel
theorem dX10_put_58 : decode cX10_put 58 = .ok (.invokestatic 96, 3) := by decide +kernel
theorem dX10_put_61 : decode cX10_put 61 = .ok (.ifCond .eq 20, 3) := by decide +kernel
theorem dX10_put_64 : decode cX10_put 64 = .ok (.aload_n 0, 1) := by decide +kernel
theorem dX10_put_65 : decode cX10_put 65 = .ok (.iload_n 1, 1) := by decide +kernel
theorem dX10_put_66 : decode cX10_put 66 = .ok (.iload 7, 2) := by decide +kernel
theorem dX10_put_68 : decode cX10_put 68 = .ok (.iconst 1, 1) := by decide +kernel
theorem dX10_put_69 : decode cX10_put 69 = .ok (.invokevirtual 104, 3) := by decide +kernel
theorem dX10_put_72 : decode cX10_put 72 = .ok (.iconst 3, 1) := by decide +kernel
theorem dX10_put_73 : decode cX10_put 73 = .ok (.if_icmp .eq 8, 3) := by decide +kernel
theorem dX10_put_76 : decode cX10_put 76 = .ok (.iload 8, 2) := by decide +kernel
theorem dX10_put_78 : decode cX10_put 78 = .ok (.ifCond .ne 10, 3) := by decide +kernel
theorem dX10_put_81 : decode cX10_put 81 = .ok (.aload_n 0, 1) := by decide +kernel
theorem dX10_put_82 : decode cX10_put 82 = .ok (.bipush (-3), 2) := by decide +kernel
theorem dX10_put_84 : decode cX10_put 84 = .ok (.invokevirtual 126, 3) := by decide +kernel
theorem dX10_put_87 : decode cX10_put 87 = .ok (.ireturn, 1) := by decide +kernel
theorem dX10_put_88 : decode cX10_put 88 = .ok (.iload 4, 2) := by decide +kernel
theorem dX10_put_90 : decode cX10_put 90 = .ok (.ifCond .lt 27, 3) := by decide +kernel
theorem dX10_put_93 : decode cX10_put 93 = .ok (.iload 5, 2) := by decide +kernel
theorem dX10_put_95 : decode cX10_put 95 = .ok (.ifCond .lt 22, 3) := by decide +kernel
theorem dX10_put_98 : decode cX10_put 98 = .ok (.iload 4, 2) := by decide +kernel
theorem dX10_put_100 : decode cX10_put 100 = .ok (.i2l, 1) := by decide +kernel
theorem dX10_put_101 : decode cX10_put 101 = .ok (.iload 5, 2) := by decide +kernel
theorem dX10_put_103 : decode cX10_put 103 = .ok (.i2l, 1) := by decide +kernel
theorem dX10_put_104 : decode cX10_put 104 = .ok (.ladd, 1) := by decide +kernel
theorem dX10_put_105 : decode cX10_put 105 = .ok (.aload_n 0, 1) := by decide +kernel
theorem dX10_put_106 : decode cX10_put 106 = .ok (.iload_n 1, 1) := by decide +kernel
theorem dX10_put_107 : decode cX10_put 107 = .ok (.iload 7, 2) := by decide +kernel
theorem dX10_put_109 : decode cX10_put 109 = .ok (.invokevirtual 175, 3) := by decide +kernel
theorem dX10_put_112 : decode cX10_put 112 = .ok (.i2l, 1) := by decide +kernel
theorem dX10_put_113 : decode cX10_put 113 = .ok (.lcmp, 1) := by decide +kernel
theorem dX10_put_114 : decode cX10_put 114 = .ok (.ifCond .le 9, 3) := by decide +kernel
theorem dX10_put_117 : decode cX10_put 117 = .ok (.aload_n 0, 1) := by decide +kernel
theorem dX10_put_118 : decode cX10_put 118 = .ok (.iconst (-1), 1) := by decide +kernel
theorem dX10_put_119 : decode cX10_put 119 = .ok (.invokevirtual 126, 3) := by decide +kernel
theorem dX10_put_122 : decode cX10_put 122 = .ok (.ireturn, 1) := by decide +kernel
theorem dX10_put_123 : decode cX10_put 123 = .ok (.aload_n 0, 1) := by decide +kernel
theorem dX10_put_124 : decode cX10_put 124 = .ok (.getfield 13, 3) := by decide +kernel
theorem dX10_put_127 : decode cX10_put 127 = .ok (.iload_n 1, 1) := by decide +kernel
theorem dX10_put_128 : decode cX10_put 128 = .ok (.iaload, 1) := by decide +kernel
theorem dX10_put_129 : decode cX10_put 129 = .ok (.bipush 30, 2) := by decide +kernel
theorem dX10_put_131 : decode cX10_put 131 = .ok (.if_icmp .ne 10, 3) := by decide +kernel
theorem dX10_put_134 : decode cX10_put 134 = .ok (.aload_n 0, 1) := by decide +kernel
theorem dX10_put_135 : decode cX10_put 135 = .ok (.bipush (-5), 2) := by decide +kernel
theorem dX10_put_137 : decode cX10_put 137 = .ok (.invokevirtual 126, 3) := by decide +kernel
theorem dX10_put_140 : decode cX10_put 140 = .ok (.ireturn, 1) := by decide +kernel
theorem dX10_put_141 : decode cX10_put 141 = .ok (.aload_n 0, 1) := by decide +kernel
theorem dX10_put_142 : decode cX10_put 142 = .ok (.iload_n 1, 1) := by decide +kernel
theorem dX10_put_143 : decode cX10_put 143 = .ok (.iload 7, 2) := by decide +kernel
theorem dX10_put_145 : decode cX10_put 145 = .ok (.iload 4, 2) := by decide +kernel
theorem dX10_put_147 : decode cX10_put 147 = .ok (.invokevirtual 188, 3) := by decide +kernel
theorem dX10_put_150 : decode cX10_put 150 = .ok (.istore 9, 2) := by decide +kernel
theorem dX10_put_152 : decode cX10_put 152 = .ok (.iload 9, 2) := by decide +kernel
theorem dX10_put_154 : decode cX10_put 154 = .ok (.istore 10, 2) := by decide +kernel
theorem dX10_put_156 : decode cX10_put 156 = .ok (.iconst 0, 1) := by decide +kernel
theorem dX10_put_157 : decode cX10_put 157 = .ok (.istore 11, 2) := by decide +kernel
theorem dX10_put_159 : decode cX10_put 159 = .ok (.iload 11, 2) := by decide +kernel
theorem dX10_put_161 : decode cX10_put 161 = .ok (.iload 5, 2) := by decide +kernel
theorem dX10_put_163 : decode cX10_put 163 = .ok (.if_icmp .ge 18, 3) := by decide +kernel
theorem dX10_put_166 : decode cX10_put 166 = .ok (.aload_n 0, 1) := by decide +kernel
theorem dX10_put_167 : decode cX10_put 167 = .ok (.iload_n 1, 1) := by decide +kernel
theorem dX10_put_168 : decode cX10_put 168 = .ok (.iload 10, 2) := by decide +kernel
theorem dX10_put_170 : decode cX10_put 170 = .ok (.invokevirtual 119, 3) := by decide +kernel
theorem dX10_put_173 : decode cX10_put 173 = .ok (.istore 10, 2) := by decide +kernel
theorem dX10_put_175 : decode cX10_put 175 = .ok (.iinc 11 1, 3) := by decide +kernel
theorem dX10_put_178 : decode cX10_put 178 = .ok (.goto (-19), 3) := by decide +kernel
theorem dX10_put_181 : decode cX10_put 181 = .ok (.iconst 3, 1) := by decide +kernel
theorem dX10_put_182 : decode cX10_put 182 = .ok (.istore 11, 2) := by decide +kernel
theorem dX10_put_184 : decode cX10_put 184 = .ok (.iload 11, 2) := by decide +kernel
theorem dX10_put_186 : decode cX10_put 186 = .ok (.bipush 10, 2) := by decide +kernel
theorem dX10_put_188 : decode cX10_put 188 = .ok (.if_icmp .ge 28, 3) := by decide +kernel
theorem dX10_put_191 : decode cX10_put 191 = .ok (.aload_n 0, 1) := by decide +kernel
theorem dX10_put_192 : decode cX10_put 192 = .ok (.bipush 9, 2) := by decide +kernel
theorem dX10_put_194 : decode cX10_put 194 = .ok (.iload 9, 2) := by decide +kernel
theorem dX10_put_196 : decode cX10_put 196 = .ok (.iload 11, 2) := by decide +kernel
theorem dX10_put_198 : decode cX10_put 198 = .ok (.aload_n 0, 1) := by decide +kernel
theorem dX10_put_199 : decode cX10_put 199 = .ok (.bipush 8, 2) := by decide +kernel
theorem dX10_put_201 : decode cX10_put 201 = .ok (.iconst 0, 1) := by decide +kernel
theorem dX10_put_202 : decode cX10_put 202 = .ok (.iload 11, 2) := by decide +kernel
theorem dX10_put_204 : decode cX10_put 204 = .ok (.invokevirtual 104, 3) := by decide +kernel
theorem dX10_put_207 : decode cX10_put 207 = .ok (.invokevirtual 108, 3) := by decide +kernel
theorem dX10_put_210 : decode cX10_put 210 = .ok (.iinc 11 1, 3) := by decide +kernel
theorem dX10_put_213 : decode cX10_put 213 = .ok (.goto (-29), 3) := by decide +kernel
theorem dX10_put_216 : decode cX10_put 216 = .ok (.aload_n 0, 1) := by decide +kernel
theorem dX10_put_217 : decode cX10_put 217 = .ok (.bipush 9, 2) := by decide +kernel
theorem dX10_put_219 : decode cX10_put 219 = .ok (.iload 9, 2) := by decide +kernel
theorem dX10_put_221 : decode cX10_put 221 = .ok (.iconst 0, 1) := by decide +kernel
theorem dX10_put_222 : decode cX10_put 222 = .ok (.aload_n 0, 1) := by decide +kernel
theorem dX10_put_223 : decode cX10_put 223 = .ok (.getfield 155, 3) := by decide +kernel
theorem dX10_put_226 : decode cX10_put 226 = .ok (.invokevirtual 108, 3) := by decide +kernel
theorem dX10_put_229 : decode cX10_put 229 = .ok (.aload_n 0, 1) := by decide +kernel
theorem dX10_put_230 : decode cX10_put 230 = .ok (.bipush 9, 2) := by decide +kernel
theorem dX10_put_232 : decode cX10_put 232 = .ok (.iload 9, 2) := by decide +kernel
theorem dX10_put_234 : decode cX10_put 234 = .ok (.iconst 1, 1) := by decide +kernel
theorem dX10_put_235 : decode cX10_put 235 = .ok (.iload_n 3, 1) := by decide +kernel
theorem dX10_put_236 : decode cX10_put 236 = .ok (.invokevirtual 108, 3) := by decide +kernel
theorem dX10_put_239 : decode cX10_put 239 = .ok (.aload_n 0, 1) := by decide +kernel
theorem dX10_put_240 : decode cX10_put 240 = .ok (.bipush 9, 2) := by decide +kernel
theorem dX10_put_242 : decode cX10_put 242 = .ok (.iload 9, 2) := by decide +kernel
theorem dX10_put_244 : decode cX10_put 244 = .ok (.iconst 2, 1) := by decide +kernel
theorem dX10_put_245 : decode cX10_put 245 = .ok (.aload_n 0, 1) := by decide +kernel
theorem dX10_put_246 : decode cX10_put 246 = .ok (.iload_n 1, 1) := by decide +kernel
theorem dX10_put_247 : decode cX10_put 247 = .ok (.iload 7, 2) := by decide +kernel
theorem dX10_put_249 : decode cX10_put 249 = .ok (.invokevirtual 115, 3) := by decide +kernel
theorem dX10_put_252 : decode cX10_put 252 = .ok (.iconst 1, 1) := by decide +kernel
theorem dX10_put_253 : decode cX10_put 253 = .ok (.iadd, 1) := by decide +kernel
theorem dX10_put_254 : decode cX10_put 254 = .ok (.invokevirtual 108, 3) := by decide +kernel
theorem dX10_put_257 : decode cX10_put 257 = .ok (.aload_n 0, 1) := by decide +kernel
theorem dX10_put_258 : decode cX10_put 258 = .ok (.bipush 9, 2) := by decide +kernel
theorem dX10_put_260 : decode cX10_put 260 = .ok (.iload 9, 2) := by decide +kernel
theorem dX10_put_262 : decode cX10_put 262 = .ok (.bipush 10, 2) := by decide +kernel
theorem dX10_put_264 : decode cX10_put 264 = .ok (.iconst 0, 1) := by decide +kernel
theorem dX10_put_265 : decode cX10_put 265 = .ok (.invokevirtual 108, 3) := by decide +kernel
theorem dX10_put_268 : decode cX10_put 268 = .ok (.iconst 0, 1) := by decide +kernel
theorem dX10_put_269 : decode cX10_put 269 = .ok (.istore 11, 2) := by decide +kernel
theorem dX10_put_271 : decode cX10_put 271 = .ok (.iload 11, 2) := by decide +kernel
theorem dX10_put_273 : decode cX10_put 273 = .ok (.aload_n 0, 1) := by decide +kernel
theorem dX10_put_274 : decode cX10_put 274 = .ok (.getfield 13, 3) := by decide +kernel
theorem dX10_put_277 : decode cX10_put 277 = .ok (.iload_n 1, 1) := by decide +kernel
theorem dX10_put_278 : decode cX10_put 278 = .ok (.iaload, 1) := by decide +kernel
theorem dX10_put_279 : decode cX10_put 279 = .ok (.if_icmp .ge 70, 3) := by decide +kernel
theorem dX10_put_282 : decode cX10_put 282 = .ok (.iload 11, 2) := by decide +kernel
theorem dX10_put_284 : decode cX10_put 284 = .ok (.iload 9, 2) := by decide +kernel
theorem dX10_put_286 : decode cX10_put 286 = .ok (.if_icmp .ge 8, 3) := by decide +kernel
theorem dX10_put_289 : decode cX10_put 289 = .ok (.iload 11, 2) := by decide +kernel
theorem dX10_put_291 : decode cX10_put 291 = .ok (.goto 7, 3) := by decide +kernel
theorem dX10_put_294 : decode cX10_put 294 = .ok (.iload 11, 2) := by decide +kernel
theorem dX10_put_296 : decode cX10_put 296 = .ok (.iconst 1, 1) := by decide +kernel
theorem dX10_put_297 : decode cX10_put 297 = .ok (.iadd, 1) := by decide +kernel
theorem dX10_put_298 : decode cX10_put 298 = .ok (.istore 12, 2) := by decide +kernel
theorem dX10_put_300 : decode cX10_put 300 = .ok (.aload_n 0, 1) := by decide +kernel
theorem dX10_put_301 : decode cX10_put 301 = .ok (.iload_n 1, 1) := by decide +kernel
theorem dX10_put_302 : decode cX10_put 302 = .ok (.iload 11, 2) := by decide +kernel
theorem dX10_put_304 : decode cX10_put 304 = .ok (.bipush 9, 2) := by decide +kernel
theorem dX10_put_306 : decode cX10_put 306 = .ok (.iload 12, 2) := by decide +kernel
theorem dX10_put_308 : decode cX10_put 308 = .ok (.invokevirtual 112, 3) := by decide +kernel
theorem dX10_put_311 : decode cX10_put 311 = .ok (.iload 11, 2) := by decide +kernel
theorem dX10_put_313 : decode cX10_put 313 = .ok (.iload 9, 2) := by decide +kernel
theorem dX10_put_315 : decode cX10_put 315 = .ok (.if_icmp .lt 28, 3) := by decide +kernel
theorem dX10_put_318 : decode cX10_put 318 = .ok (.iload 11, 2) := by decide +kernel
theorem dX10_put_320 : decode cX10_put 320 = .ok (.iload 10, 2) := by decide +kernel
theorem dX10_put_322 : decode cX10_put 322 = .ok (.if_icmp .ge 21, 3) := by decide +kernel
theorem dX10_put_325 : decode cX10_put 325 = .ok (.aload_n 0, 1) := by decide +kernel
theorem dX10_put_326 : decode cX10_put 326 = .ok (.bipush 9, 2) := by decide +kernel
theorem dX10_put_328 : decode cX10_put 328 = .ok (.iload 12, 2) := by decide +kernel
theorem dX10_put_330 : decode cX10_put 330 = .ok (.iconst 2, 1) := by decide +kernel
theorem dX10_put_331 : decode cX10_put 331 = .ok (.aload_n 0, 1) := by decide +kernel
theorem dX10_put_332 : decode cX10_put 332 = .ok (.iload_n 1, 1) := by decide +kernel
theorem dX10_put_333 : decode cX10_put 333 = .ok (.iload 11, 2) := by decide +kernel
theorem dX10_put_335 : decode cX10_put 335 = .ok (.invokevirtual 115, 3) := by decide +kernel
theorem dX10_put_338 : decode cX10_put 338 = .ok (.iconst 1, 1) := by decide +kernel
theorem dX10_put_339 : decode cX10_put 339 = .ok (.iadd, 1) := by decide +kernel
theorem dX10_put_340 : decode cX10_put 340 = .ok (.invokevirtual 108, 3) := by decide +kernel
theorem dX10_put_343 : decode cX10_put 343 = .ok (.iinc 11 1, 3) := by decide +kernel
theorem dX10_put_346 : decode cX10_put 346 = .ok (.goto (-75), 3) := by decide +kernel
theorem dX10_put_349 : decode cX10_put 349 = .ok (.aload_n 0, 1) := by decide +kernel
theorem dX10_put_350 : decode cX10_put 350 = .ok (.getfield 13, 3) := by decide +kernel
theorem dX10_put_353 : decode cX10_put 353 = .ok (.bipush 9, 2) := by decide +kernel
theorem dX10_put_355 : decode cX10_put 355 = .ok (.aload_n 0, 1) := by decide +kernel
theorem dX10_put_356 : decode cX10_put 356 = .ok (.getfield 13, 3) := by decide +kernel
theorem dX10_put_359 : decode cX10_put 359 = .ok (.iload_n 1, 1) := by decide +kernel
theorem dX10_put_360 : decode cX10_put 360 = .ok (.iaload, 1) := by decide +kernel
theorem dX10_put_361 : decode cX10_put 361 = .ok (.iconst 1, 1) := by decide +kernel
theorem dX10_put_362 : decode cX10_put 362 = .ok (.iadd, 1) := by decide +kernel
theorem dX10_put_363 : decode cX10_put 363 = .ok (.iastore, 1) := by decide +kernel
theorem dX10_put_364 : decode cX10_put 364 = .ok (.aload_n 0, 1) := by decide +kernel
theorem dX10_put_365 : decode cX10_put 365 = .ok (.bipush 9, 2) := by decide +kernel
theorem dX10_put_367 : decode cX10_put 367 = .ok (.invokevirtual 191, 3) := by decide +kernel
theorem dX10_put_370 : decode cX10_put 370 = .ok (.ifCond .eq 10, 3) := by decide +kernel
theorem dX10_put_373 : decode cX10_put 373 = .ok (.aload_n 0, 1) := by decide +kernel
theorem dX10_put_374 : decode cX10_put 374 = .ok (.bipush (-5), 2) := by decide +kernel
theorem dX10_put_376 : decode cX10_put 376 = .ok (.invokevirtual 126, 3) := by decide +kernel
theorem dX10_put_379 : decode cX10_put 379 = .ok (.ireturn, 1) := by decide +kernel
theorem dX10_put_380 : decode cX10_put 380 = .ok (.aload_n 0, 1) := by decide +kernel
theorem dX10_put_381 : decode cX10_put 381 = .ok (.bipush 9, 2) := by decide +kernel
theorem dX10_put_383 : decode cX10_put 383 = .ok (.invokevirtual 194, 3) := by decide +kernel
theorem dX10_put_386 : decode cX10_put 386 = .ok (.ifCond .eq 10, 3) := by decide +kernel
theorem dX10_put_389 : decode cX10_put 389 = .ok (.aload_n 0, 1) := by decide +kernel
theorem dX10_put_390 : decode cX10_put 390 = .ok (.bipush (-4), 2) := by decide +kernel
theorem dX10_put_392 : decode cX10_put 392 = .ok (.invokevirtual 126, 3) := by decide +kernel
theorem dX10_put_395 : decode cX10_put 395 = .ok (.ireturn, 1) := by decide +kernel
theorem dX10_put_396 : decode cX10_put 396 = .ok (.aload_n 0, 1) := by decide +kernel
theorem dX10_put_397 : decode cX10_put 397 = .ok (.bipush 9, 2) := by decide +kernel
theorem dX10_put_399 : decode cX10_put 399 = .ok (.iload_n 1, 1) := by decide +kernel
theorem dX10_put_400 : decode cX10_put 400 = .ok (.invokevirtual 151, 3) := by decide +kernel
theorem dX10_put_403 : decode cX10_put 403 = .ok (.aload_n 0, 1) := by decide +kernel
theorem dX10_put_404 : decode cX10_put 404 = .ok (.dup, 1) := by decide +kernel
theorem dX10_put_405 : decode cX10_put 405 = .ok (.getfield 155, 3) := by decide +kernel
theorem dX10_put_408 : decode cX10_put 408 = .ok (.iconst 1, 1) := by decide +kernel
theorem dX10_put_409 : decode cX10_put 409 = .ok (.iadd, 1) := by decide +kernel
theorem dX10_put_410 : decode cX10_put 410 = .ok (.putfield 155, 3) := by decide +kernel
theorem dX10_put_413 : decode cX10_put 413 = .ok (.aload_n 0, 1) := by decide +kernel
theorem dX10_put_414 : decode cX10_put 414 = .ok (.getfield 155, 3) := by decide +kernel
theorem dX10_put_417 : decode cX10_put 417 = .ok (.iconst 1, 1) := by decide +kernel
theorem dX10_put_418 : decode cX10_put 418 = .ok (.isub, 1) := by decide +kernel
theorem dX10_put_419 : decode cX10_put 419 = .ok (.ireturn, 1) := by decide +kernel
theorem dX10_take_0 : decode cX10_take 0 = .ok (.aload_n 0, 1) := by decide +kernel
theorem dX10_take_1 : decode cX10_take 1 = .ok (.iload_n 1, 1) := by decide +kernel
theorem dX10_take_2 : decode cX10_take 2 = .ok (.invokevirtual 161, 3) := by decide +kernel
theorem dX10_take_5 : decode cX10_take 5 = .ok (.istore_n 3, 1) := by decide +kernel
theorem dX10_take_6 : decode cX10_take 6 = .ok (.iload_n 3, 1) := by decide +kernel
theorem dX10_take_7 : decode cX10_take 7 = .ok (.ifCond .ge 9, 3) := by decide +kernel
theorem dX10_take_10 : decode cX10_take 10 = .ok (.aload_n 0, 1) := by decide +kernel
theorem dX10_take_11 : decode cX10_take 11 = .ok (.iload_n 3, 1) := by decide +kernel
theorem dX10_take_12 : decode cX10_take 12 = .ok (.invokevirtual 126, 3) := by decide +kernel
theorem dX10_take_15 : decode cX10_take 15 = .ok (.ireturn, 1) := by decide +kernel
theorem dX10_take_16 : decode cX10_take 16 = .ok (.aload_n 0, 1) := by decide +kernel
theorem dX10_take_17 : decode cX10_take 17 = .ok (.iload_n 1, 1) := by decide +kernel
theorem dX10_take_18 : decode cX10_take 18 = .ok (.iload_n 2, 1) := by decide +kernel
theorem dX10_take_19 : decode cX10_take 19 = .ok (.invokevirtual 181, 3) := by decide +kernel
theorem dX10_take_22 : decode cX10_take 22 = .ok (.istore 4, 2) := by decide +kernel
theorem dX10_take_24 : decode cX10_take 24 = .ok (.iload 4, 2) := by decide +kernel
theorem dX10_take_26 : decode cX10_take 26 = .ok (.ifCond .ge 10, 3) := by decide +kernel
theorem dX10_take_29 : decode cX10_take 29 = .ok (.aload_n 0, 1) := by decide +kernel
theorem dX10_take_30 : decode cX10_take 30 = .ok (.bipush (-6), 2) := by decide +kernel
theorem dX10_take_32 : decode cX10_take 32 = .ok (.invokevirtual 126, 3) := by decide +kernel
theorem dX10_take_35 : decode cX10_take 35 = .ok (.ireturn, 1) := by decide +kernel
theorem dX10_take_36 : decode cX10_take 36 = .ok (.iload 4, 2) := by decide +kernel
theorem dX10_take_38 : decode cX10_take 38 = .ok (.ifCond .ne 10, 3) := by decide +kernel
theorem dX10_take_41 : decode cX10_take 41 = .ok (.aload_n 0, 1) := by decide +kernel
theorem dX10_take_42 : decode cX10_take 42 = .ok (.bipush (-7), 2) := by decide +kernel
theorem dX10_take_44 : decode cX10_take 44 = .ok (.invokevirtual 126, 3) := by decide +kernel
theorem dX10_take_47 : decode cX10_take 47 = .ok (.ireturn, 1) := by decide +kernel
theorem dX10_take_48 : decode cX10_take 48 = .ok (.aload_n 0, 1) := by decide +kernel
theorem dX10_take_49 : decode cX10_take 49 = .ok (.iload_n 1, 1) := by decide +kernel
theorem dX10_take_50 : decode cX10_take 50 = .ok (.iload 4, 2) := by decide +kernel
theorem dX10_take_52 : decode cX10_take 52 = .ok (.invokevirtual 175, 3) := by decide +kernel
theorem dX10_take_55 : decode cX10_take 55 = .ok (.istore 5, 2) := by decide +kernel
theorem dX10_take_57 : decode cX10_take 57 = .ok (.aload_n 0, 1) := by decide +kernel
theorem dX10_take_58 : decode cX10_take 58 = .ok (.iload_n 1, 1) := by decide +kernel
theorem dX10_take_59 : decode cX10_take 59 = .ok (.iload 4, 2) := by decide +kernel
theorem dX10_take_61 : decode cX10_take 61 = .ok (.invokevirtual 119, 3) := by decide +kernel
theorem dX10_take_64 : decode cX10_take 64 = .ok (.istore 6, 2) := by decide +kernel
theorem dX10_take_66 : decode cX10_take 66 = .ok (.aload_n 0, 1) := by decide +kernel
theorem dX10_take_67 : decode cX10_take 67 = .ok (.getfield 13, 3) := by decide +kernel
theorem dX10_take_70 : decode cX10_take 70 = .ok (.bipush 9, 2) := by decide +kernel
theorem dX10_take_72 : decode cX10_take 72 = .ok (.iconst 0, 1) := by decide +kernel
theorem dX10_take_73 : decode cX10_take 73 = .ok (.iastore, 1) := by decide +kernel
theorem dX10_take_74 : decode cX10_take 74 = .ok (.iconst 0, 1) := by decide +kernel
theorem dX10_take_75 : decode cX10_take 75 = .ok (.istore 7, 2) := by decide +kernel
theorem dX10_take_77 : decode cX10_take 77 = .ok (.iload 7, 2) := by decide +kernel
theorem dX10_take_79 : decode cX10_take 79 = .ok (.aload_n 0, 1) := by decide +kernel
theorem dX10_take_80 : decode cX10_take 80 = .ok (.getfield 13, 3) := by decide +kernel
theorem dX10_take_83 : decode cX10_take 83 = .ok (.iload_n 1, 1) := by decide +kernel
theorem dX10_take_84 : decode cX10_take 84 = .ok (.iaload, 1) := by decide +kernel
theorem dX10_take_85 : decode cX10_take 85 = .ok (.if_icmp .ge 83, 3) := by decide +kernel
theorem dX10_take_88 : decode cX10_take 88 = .ok (.iload 7, 2) := by decide +kernel
theorem dX10_take_90 : decode cX10_take 90 = .ok (.iload 4, 2) := by decide +kernel
theorem dX10_take_92 : decode cX10_take 92 = .ok (.if_icmp .ne 6, 3) := by decide +kernel
theorem dX10_take_95 : decode cX10_take 95 = .ok (.goto 67, 3) := by decide +kernel
theorem dX10_take_98 : decode cX10_take 98 = .ok (.aload_n 0, 1) := by decide +kernel
theorem dX10_take_99 : decode cX10_take 99 = .ok (.iload_n 1, 1) := by decide +kernel
theorem dX10_take_100 : decode cX10_take 100 = .ok (.iload 7, 2) := by decide +kernel
theorem dX10_take_102 : decode cX10_take 102 = .ok (.bipush 9, 2) := by decide +kernel
theorem dX10_take_104 : decode cX10_take 104 = .ok (.aload_n 0, 1) := by decide +kernel
theorem dX10_take_105 : decode cX10_take 105 = .ok (.getfield 13, 3) := by decide +kernel
theorem dX10_take_108 : decode cX10_take 108 = .ok (.bipush 9, 2) := by decide +kernel
theorem dX10_take_110 : decode cX10_take 110 = .ok (.iaload, 1) := by decide +kernel
theorem dX10_take_111 : decode cX10_take 111 = .ok (.invokevirtual 112, 3) := by decide +kernel
theorem dX10_take_114 : decode cX10_take 114 = .ok (.iload 7, 2) := by decide +kernel
theorem dX10_take_116 : decode cX10_take 116 = .ok (.iload 4, 2) := by decide +kernel
theorem dX10_take_118 : decode cX10_take 118 = .ok (.if_icmp .le 33, 3) := by decide +kernel
theorem dX10_take_121 : decode cX10_take 121 = .ok (.iload 7, 2) := by decide +kernel
theorem dX10_take_123 : decode cX10_take 123 = .ok (.iload 6, 2) := by decide +kernel
theorem dX10_take_125 : decode cX10_take 125 = .ok (.if_icmp .ge 26, 3) := by decide +kernel
theorem dX10_take_128 : decode cX10_take 128 = .ok (.aload_n 0, 1) := by decide +kernel
theorem dX10_take_129 : decode cX10_take 129 = .ok (.bipush 9, 2) := by decide +kernel
theorem dX10_take_131 : decode cX10_take 131 = .ok (.aload_n 0, 1) := by decide +kernel
theorem dX10_take_132 : decode cX10_take 132 = .ok (.getfield 13, 3) := by decide +kernel
theorem dX10_take_135 : decode cX10_take 135 = .ok (.bipush 9, 2) := by decide +kernel
theorem dX10_take_137 : decode cX10_take 137 = .ok (.iaload, 1) := by decide +kernel
theorem dX10_take_138 : decode cX10_take 138 = .ok (.iconst 2, 1) := by decide +kernel
theorem dX10_take_139 : decode cX10_take 139 = .ok (.aload_n 0, 1) := by decide +kernel
theorem dX10_take_140 : decode cX10_take 140 = .ok (.iload_n 1, 1) := by decide +kernel
theorem dX10_take_141 : decode cX10_take 141 = .ok (.iload 7, 2) := by decide +kernel
theorem dX10_take_143 : decode cX10_take 143 = .ok (.invokevirtual 115, 3) := by decide +kernel
theorem dX10_take_146 : decode cX10_take 146 = .ok (.iconst 1, 1) := by decide +kernel
theorem dX10_take_147 : decode cX10_take 147 = .ok (.isub, 1) := by decide +kernel
theorem dX10_take_148 : decode cX10_take 148 = .ok (.invokevirtual 108, 3) := by decide +kernel
theorem dX10_take_151 : decode cX10_take 151 = .ok (.aload_n 0, 1) := by decide +kernel
theorem dX10_take_152 : decode cX10_take 152 = .ok (.getfield 13, 3) := by decide +kernel
theorem dX10_take_155 : decode cX10_take 155 = .ok (.bipush 9, 2) := by decide +kernel
theorem dX10_take_157 : decode cX10_take 157 = .ok (.dup2, 1) := by decide +kernel
theorem dX10_take_158 : decode cX10_take 158 = .ok (.iaload, 1) := by decide +kernel
theorem dX10_take_159 : decode cX10_take 159 = .ok (.iconst 1, 1) := by decide +kernel
theorem dX10_take_160 : decode cX10_take 160 = .ok (.iadd, 1) := by decide +kernel
theorem dX10_take_161 : decode cX10_take 161 = .ok (.iastore, 1) := by decide +kernel
theorem dX10_take_162 : decode cX10_take 162 = .ok (.iinc 7 1, 3) := by decide +kernel
theorem dX10_take_165 : decode cX10_take 165 = .ok (.goto (-88), 3) := by decide +kernel
theorem dX10_take_168 : decode cX10_take 168 = .ok (.aload_n 0, 1) := by decide +kernel
theorem dX10_take_169 : decode cX10_take 169 = .ok (.bipush 9, 2) := by decide +kernel
theorem dX10_take_171 : decode cX10_take 171 = .ok (.invokevirtual 194, 3) := by decide +kernel
theorem dX10_take_174 : decode cX10_take 174 = .ok (.ifCond .eq 10, 3) := by decide +kernel
theorem dX10_take_177 : decode cX10_take 177 = .ok (.aload_n 0, 1) := by decide +kernel
theorem dX10_take_178 : decode cX10_take 178 = .ok (.bipush (-4), 2) := by decide +kernel
theorem dX10_take_180 : decode cX10_take 180 = .ok (.invokevirtual 126, 3) := by decide +kernel
theorem dX10_take_183 : decode cX10_take 183 = .ok (.ireturn, 1) := by decide +kernel
theorem dX10_take_184 : decode cX10_take 184 = .ok (.aload_n 0, 1) := by decide +kernel
theorem dX10_take_185 : decode cX10_take 185 = .ok (.bipush 9, 2) := by decide +kernel
theorem dX10_take_187 : decode cX10_take 187 = .ok (.iload_n 1, 1) := by decide +kernel
theorem dX10_take_188 : decode cX10_take 188 = .ok (.invokevirtual 151, 3) := by decide +kernel
theorem dX10_take_191 : decode cX10_take 191 = .ok (.iload 5, 2) := by decide +kernel
theorem dX10_take_193 : decode cX10_take 193 = .ok (.ireturn, 1) := by decide +kernel
theorem dX10_move_0 : decode cX10_move 0 = .ok (.aload_n 0, 1) := by decide +kernel
theorem dX10_move_1 : decode cX10_move 1 = .ok (.iload_n 1, 1) := by decide +kernel
theorem dX10_move_2 : decode cX10_move 2 = .ok (.invokevirtual 161, 3) := by decide +kernel
theorem dX10_move_5 : decode cX10_move 5 = .ok (.istore 5, 2) := by decide +kernel
theorem dX10_move_7 : decode cX10_move 7 = .ok (.iload 5, 2) := by decide +kernel
theorem dX10_move_9 : decode cX10_move 9 = .ok (.ifCond .ge 10, 3) := by decide +kernel
theorem dX10_move_12 : decode cX10_move 12 = .ok (.aload_n 0, 1) := by decide +kernel
theorem dX10_move_13 : decode cX10_move 13 = .ok (.iload 5, 2) := by decide +kernel
theorem dX10_move_15 : decode cX10_move 15 = .ok (.invokevirtual 126, 3) := by decide +kernel
theorem dX10_move_18 : decode cX10_move 18 = .ok (.ireturn, 1) := by decide +kernel
theorem dX10_move_19 : decode cX10_move 19 = .ok (.aload_n 0, 1) := by decide +kernel
theorem dX10_move_20 : decode cX10_move 20 = .ok (.iload_n 1, 1) := by decide +kernel
theorem dX10_move_21 : decode cX10_move 21 = .ok (.iload_n 2, 1) := by decide +kernel
theorem dX10_move_22 : decode cX10_move 22 = .ok (.invokevirtual 181, 3) := by decide +kernel
theorem dX10_move_25 : decode cX10_move 25 = .ok (.istore 6, 2) := by decide +kernel
theorem dX10_move_27 : decode cX10_move 27 = .ok (.iload 6, 2) := by decide +kernel
theorem dX10_move_29 : decode cX10_move 29 = .ok (.ifCond .ge 10, 3) := by decide +kernel
theorem dX10_move_32 : decode cX10_move 32 = .ok (.aload_n 0, 1) := by decide +kernel
theorem dX10_move_33 : decode cX10_move 33 = .ok (.bipush (-6), 2) := by decide +kernel
theorem dX10_move_35 : decode cX10_move 35 = .ok (.invokevirtual 126, 3) := by decide +kernel
theorem dX10_move_38 : decode cX10_move 38 = .ok (.ireturn, 1) := by decide +kernel
