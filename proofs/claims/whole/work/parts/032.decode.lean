theorem dX9_init_132 : decode cX9_init 132 = .ok (.iconst 0, 1) := by decide +kernel
theorem dX9_init_133 : decode cX9_init 133 = .ok (.istore_n 1, 1) := by decide +kernel
theorem dX9_init_134 : decode cX9_init 134 = .ok (.iload_n 1, 1) := by decide +kernel
theorem dX9_init_135 : decode cX9_init 135 = .ok (.bipush 8, 2) := by decide +kernel
theorem dX9_init_137 : decode cX9_init 137 = .ok (.if_icmp .ge 22, 3) := by decide +kernel
theorem dX9_init_140 : decode cX9_init 140 = .ok (.aload_n 0, 1) := by decide +kernel
theorem dX9_init_141 : decode cX9_init 141 = .ok (.getfield 11, 3) := by decide +kernel
theorem dX9_init_144 : decode cX9_init 144 = .ok (.iload_n 1, 1) := by decide +kernel
theorem dX9_init_145 : decode cX9_init 145 = .ok (.new 9, 3) := by decide +kernel
theorem dX9_init_148 : decode cX9_init 148 = .ok (.dup, 1) := by decide +kernel
theorem dX9_init_149 : decode cX9_init 149 = .ok (.invokespecial 76, 3) := by decide +kernel
theorem dX9_init_152 : decode cX9_init 152 = .ok (.aastore, 1) := by decide +kernel
theorem dX9_init_153 : decode cX9_init 153 = .ok (.iinc 1 1, 3) := by decide +kernel
theorem dX9_init_156 : decode cX9_init 156 = .ok (.goto (-22), 3) := by decide +kernel
theorem dX9_init_159 : decode cX9_init 159 = .ok (.return_, 1) := by decide +kernel
theorem dX9_feed_0 : decode cX9_feed 0 = .ok (.iload_n 3, 1) := by decide +kernel
theorem dX9_feed_1 : decode cX9_feed 1 = .ok (.iconst 1, 1) := by decide +kernel
theorem dX9_feed_2 : decode cX9_feed 2 = .ok (.if_icmp .lt 9, 3) := by decide +kernel
theorem dX9_feed_5 : decode cX9_feed 5 = .ok (.iload_n 3, 1) := by decide +kernel
theorem dX9_feed_6 : decode cX9_feed 6 = .ok (.bipush 8, 2) := by decide +kernel
theorem dX9_feed_8 : decode cX9_feed 8 = .ok (.if_icmp .le 9, 3) := by decide +kernel
theorem dX9_feed_11 : decode cX9_feed 11 = .ok (.aload_n 0, 1) := by decide +kernel
theorem dX9_feed_12 : decode cX9_feed 12 = .ok (.iconst (-1), 1) := by decide +kernel
theorem dX9_feed_13 : decode cX9_feed 13 = .ok (.invokevirtual 77, 3) := by decide +kernel
theorem dX9_feed_16 : decode cX9_feed 16 = .ok (.ireturn, 1) := by decide +kernel
theorem dX9_feed_17 : decode cX9_feed 17 = .ok (.aload_n 0, 1) := by decide +kernel
theorem dX9_feed_18 : decode cX9_feed 18 = .ok (.getfield 26, 3) := by decide +kernel
theorem dX9_feed_21 : decode cX9_feed 21 = .ok (.getfield 81, 3) := by decide +kernel
theorem dX9_feed_24 : decode cX9_feed 24 = .ok (.iload_n 3, 1) := by decide +kernel
theorem dX9_feed_25 : decode cX9_feed 25 = .ok (.iadd, 1) := by decide +kernel
theorem dX9_feed_26 : decode cX9_feed 26 = .ok (.sipush 400, 3) := by decide +kernel
theorem dX9_feed_29 : decode cX9_feed 29 = .ok (.if_icmp .le 10, 3) := by decide +kernel
theorem dX9_feed_32 : decode cX9_feed 32 = .ok (.aload_n 0, 1) := by decide +kernel
theorem dX9_feed_33 : decode cX9_feed 33 = .ok (.bipush (-5), 2) := by decide +kernel
theorem dX9_feed_35 : decode cX9_feed 35 = .ok (.invokevirtual 77, 3) := by decide +kernel
theorem dX9_feed_38 : decode cX9_feed 38 = .ok (.ireturn, 1) := by decide +kernel
theorem dX9_feed_39 : decode cX9_feed 39 = .ok (.iconst 0, 1) := by decide +kernel
theorem dX9_feed_40 : decode cX9_feed 40 = .ok (.istore 4, 2) := by decide +kernel
theorem dX9_feed_42 : decode cX9_feed 42 = .ok (.iload 4, 2) := by decide +kernel
theorem dX9_feed_44 : decode cX9_feed 44 = .ok (.iload_n 3, 1) := by decide +kernel
theorem dX9_feed_45 : decode cX9_feed 45 = .ok (.if_icmp .ge 22, 3) := by decide +kernel
theorem dX9_feed_48 : decode cX9_feed 48 = .ok (.aload_n 0, 1) := by decide +kernel
theorem dX9_feed_49 : decode cX9_feed 49 = .ok (.getfield 26, 3) := by decide +kernel
theorem dX9_feed_52 : decode cX9_feed 52 = .ok (.lload_n 1, 1) := by decide +kernel
theorem dX9_feed_53 : decode cX9_feed 53 = .ok (.iload 4, 2) := by decide +kernel
theorem dX9_feed_55 : decode cX9_feed 55 = .ok (.invokestatic 87, 3) := by decide +kernel
theorem dX9_feed_58 : decode cX9_feed 58 = .ok (.invokevirtual 91, 3) := by decide +kernel
theorem dX9_feed_61 : decode cX9_feed 61 = .ok (.iinc 4 1, 3) := by decide +kernel
theorem dX9_feed_64 : decode cX9_feed 64 = .ok (.goto (-22), 3) := by decide +kernel
theorem dX9_feed_67 : decode cX9_feed 67 = .ok (.aload_n 0, 1) := by decide +kernel
theorem dX9_feed_68 : decode cX9_feed 68 = .ok (.getfield 26, 3) := by decide +kernel
theorem dX9_feed_71 : decode cX9_feed 71 = .ok (.getfield 81, 3) := by decide +kernel
theorem dX9_feed_74 : decode cX9_feed 74 = .ok (.ireturn, 1) := by decide +kernel
theorem dX9_read_0 : decode cX9_read 0 = .ok (.iload_n 1, 1) := by decide +kernel
theorem dX9_read_1 : decode cX9_read 1 = .ok (.invokestatic 95, 3) := by decide +kernel
theorem dX9_read_4 : decode cX9_read 4 = .ok (.ifCond .ne 9, 3) := by decide +kernel
theorem dX9_read_7 : decode cX9_read 7 = .ok (.aload_n 0, 1) := by decide +kernel
theorem dX9_read_8 : decode cX9_read 8 = .ok (.iconst (-1), 1) := by decide +kernel
theorem dX9_read_9 : decode cX9_read 9 = .ok (.invokevirtual 77, 3) := by decide +kernel
theorem dX9_read_12 : decode cX9_read 12 = .ok (.ireturn, 1) := by decide +kernel
theorem dX9_read_13 : decode cX9_read 13 = .ok (.aload_n 0, 1) := by decide +kernel
theorem dX9_read_14 : decode cX9_read 14 = .ok (.getfield 18, 3) := by decide +kernel
theorem dX9_read_17 : decode cX9_read 17 = .ok (.invokevirtual 99, 3) := by decide +kernel
theorem dX9_read_20 : decode cX9_read 20 = .ok (.istore_n 2, 1) := by decide +kernel
theorem dX9_read_21 : decode cX9_read 21 = .ok (.aload_n 0, 1) := by decide +kernel
theorem dX9_read_22 : decode cX9_read 22 = .ok (.getfield 26, 3) := by decide +kernel
theorem dX9_read_25 : decode cX9_read 25 = .ok (.iconst 0, 1) := by decide +kernel
theorem dX9_read_26 : decode cX9_read 26 = .ok (.putfield 81, 3) := by decide +kernel
theorem dX9_read_29 : decode cX9_read 29 = .ok (.iload_n 2, 1) := by decide +kernel
theorem dX9_read_30 : decode cX9_read 30 = .ok (.ifCond .lt 19, 3) := by decide +kernel
theorem dX9_read_33 : decode cX9_read 33 = .ok (.aload_n 0, 1) := by decide +kernel
theorem dX9_read_34 : decode cX9_read 34 = .ok (.getfield 73, 3) := by decide +kernel
theorem dX9_read_37 : decode cX9_read 37 = .ok (.bipush 9, 2) := by decide +kernel
theorem dX9_read_39 : decode cX9_read 39 = .ok (.dup2, 1) := by decide +kernel
theorem dX9_read_40 : decode cX9_read 40 = .ok (.iaload, 1) := by decide +kernel
theorem dX9_read_41 : decode cX9_read 41 = .ok (.iconst 1, 1) := by decide +kernel
theorem dX9_read_42 : decode cX9_read 42 = .ok (.iadd, 1) := by decide +kernel
theorem dX9_read_43 : decode cX9_read 43 = .ok (.iastore, 1) := by decide +kernel
theorem dX9_read_44 : decode cX9_read 44 = .ok (.bipush (-10), 2) := by decide +kernel
theorem dX9_read_46 : decode cX9_read 46 = .ok (.iload_n 2, 1) := by decide +kernel
theorem dX9_read_47 : decode cX9_read 47 = .ok (.isub, 1) := by decide +kernel
theorem dX9_read_48 : decode cX9_read 48 = .ok (.ireturn, 1) := by decide +kernel
theorem dX9_read_49 : decode cX9_read 49 = .ok (.iconst 0, 1) := by decide +kernel
theorem dX9_read_50 : decode cX9_read 50 = .ok (.istore_n 3, 1) := by decide +kernel
theorem dX9_read_51 : decode cX9_read 51 = .ok (.iload_n 3, 1) := by decide +kernel
theorem dX9_read_52 : decode cX9_read 52 = .ok (.aload_n 0, 1) := by decide +kernel
theorem dX9_read_53 : decode cX9_read 53 = .ok (.getfield 31, 3) := by decide +kernel
theorem dX9_read_56 : decode cX9_read 56 = .ok (.getfield 103, 3) := by decide +kernel
theorem dX9_read_59 : decode cX9_read 59 = .ok (.if_icmp .ge 32, 3) := by decide +kernel
theorem dX9_read_62 : decode cX9_read 62 = .ok (.aload_n 0, 1) := by decide +kernel
theorem dX9_read_63 : decode cX9_read 63 = .ok (.getfield 31, 3) := by decide +kernel
theorem dX9_read_66 : decode cX9_read 66 = .ok (.getfield 106, 3) := by decide +kernel
theorem dX9_read_69 : decode cX9_read 69 = .ok (.iload_n 3, 1) := by decide +kernel
theorem dX9_read_70 : decode cX9_read 70 = .ok (.aload_n 0, 1) := by decide +kernel
theorem dX9_read_71 : decode cX9_read 71 = .ok (.getfield 109, 3) := by decide +kernel
theorem dX9_read_74 : decode cX9_read 74 = .ok (.iastore, 1) := by decide +kernel
theorem dX9_read_75 : decode cX9_read 75 = .ok (.aload_n 0, 1) := by decide +kernel
theorem dX9_read_76 : decode cX9_read 76 = .ok (.dup, 1) := by decide +kernel
theorem dX9_read_77 : decode cX9_read 77 = .ok (.getfield 109, 3) := by decide +kernel
theorem dX9_read_80 : decode cX9_read 80 = .ok (.iconst 1, 1) := by decide +kernel
theorem dX9_read_81 : decode cX9_read 81 = .ok (.iadd, 1) := by decide +kernel
theorem dX9_read_82 : decode cX9_read 82 = .ok (.putfield 109, 3) := by decide +kernel
theorem dX9_read_85 : decode cX9_read 85 = .ok (.iinc 3 1, 3) := by decide +kernel
theorem dX9_read_88 : decode cX9_read 88 = .ok (.goto (-37), 3) := by decide +kernel
theorem dX9_read_91 : decode cX9_read 91 = .ok (.aload_n 0, 1) := by decide +kernel
theorem dX9_read_92 : decode cX9_read 92 = .ok (.getfield 11, 3) := by decide +kernel
theorem dX9_read_95 : decode cX9_read 95 = .ok (.iload_n 1, 1) := by decide +kernel
theorem dX9_read_96 : decode cX9_read 96 = .ok (.aaload, 1) := by decide +kernel
theorem dX9_read_97 : decode cX9_read 97 = .ok (.aload_n 0, 1) := by decide +kernel
theorem dX9_read_98 : decode cX9_read 98 = .ok (.getfield 31, 3) := by decide +kernel
theorem dX9_read_101 : decode cX9_read 101 = .ok (.invokevirtual 112, 3) := by decide +kernel
theorem dX9_read_104 : decode cX9_read 104 = .ok (.aload_n 0, 1) := by decide +kernel
theorem dX9_read_105 : decode cX9_read 105 = .ok (.getfield 31, 3) := by decide +kernel
theorem dX9_read_108 : decode cX9_read 108 = .ok (.getfield 103, 3) := by decide +kernel
theorem dX9_read_111 : decode cX9_read 111 = .ok (.ireturn, 1) := by decide +kernel
theorem dX9_write_0 : decode cX9_write 0 = .ok (.aload_n 0, 1) := by decide +kernel
theorem dX9_write_1 : decode cX9_write 1 = .ok (.iload_n 1, 1) := by decide +kernel
theorem dX9_write_2 : decode cX9_write 2 = .ok (.invokevirtual 116, 3) := by decide +kernel
theorem dX9_write_5 : decode cX9_write 5 = .ok (.istore_n 2, 1) := by decide +kernel
theorem dX9_write_6 : decode cX9_write 6 = .ok (.iload_n 2, 1) := by decide +kernel
theorem dX9_write_7 : decode cX9_write 7 = .ok (.ifCond .ge 9, 3) := by decide +kernel
theorem dX9_write_10 : decode cX9_write 10 = .ok (.aload_n 0, 1) := by decide +kernel
theorem dX9_write_11 : decode cX9_write 11 = .ok (.iload_n 2, 1) := by decide +kernel
theorem dX9_write_12 : decode cX9_write 12 = .ok (.invokevirtual 77, 3) := by decide +kernel
theorem dX9_write_15 : decode cX9_write 15 = .ok (.ireturn, 1) := by decide +kernel
theorem dX9_write_16 : decode cX9_write 16 = .ok (.aload_n 0, 1) := by decide +kernel
theorem dX9_write_17 : decode cX9_write 17 = .ok (.getfield 37, 3) := by decide +kernel
theorem dX9_write_20 : decode cX9_write 20 = .ok (.aload_n 0, 1) := by decide +kernel
theorem dX9_write_21 : decode cX9_write 21 = .ok (.getfield 11, 3) := by decide +kernel
theorem dX9_write_24 : decode cX9_write 24 = .ok (.iload_n 1, 1) := by decide +kernel
theorem dX9_write_25 : decode cX9_write 25 = .ok (.aaload, 1) := by decide +kernel
theorem dX9_write_26 : decode cX9_write 26 = .ok (.invokevirtual 119, 3) := by decide +kernel
theorem dX9_write_29 : decode cX9_write 29 = .ok (.aload_n 0, 1) := by decide +kernel
theorem dX9_write_30 : decode cX9_write 30 = .ok (.getfield 37, 3) := by decide +kernel
theorem dX9_write_33 : decode cX9_write 33 = .ok (.getfield 122, 3) := by decide +kernel
theorem dX9_write_36 : decode cX9_write 36 = .ok (.ireturn, 1) := by decide +kernel
theorem dX9_letter_0 : decode cX9_letter 0 = .ok (.iload_n 1, 1) := by decide +kernel
theorem dX9_letter_1 : decode cX9_letter 1 = .ok (.ifCond .lt 26, 3) := by decide +kernel
theorem dX9_letter_4 : decode cX9_letter 4 = .ok (.iload_n 1, 1) := by decide +kernel
theorem dX9_letter_5 : decode cX9_letter 5 = .ok (.aload_n 0, 1) := by decide +kernel
theorem dX9_letter_6 : decode cX9_letter 6 = .ok (.getfield 37, 3) := by decide +kernel
theorem dX9_letter_9 : decode cX9_letter 9 = .ok (.getfield 122, 3) := by decide +kernel
theorem dX9_letter_12 : decode cX9_letter 12 = .ok (.if_icmp .ge 15, 3) := by decide +kernel
theorem dX9_letter_15 : decode cX9_letter 15 = .ok (.aload_n 0, 1) := by decide +kernel
theorem dX9_letter_16 : decode cX9_letter 16 = .ok (.getfield 37, 3) := by decide +kernel
theorem dX9_letter_19 : decode cX9_letter 19 = .ok (.getfield 123, 3) := by decide +kernel
theorem dX9_letter_22 : decode cX9_letter 22 = .ok (.iload_n 1, 1) := by decide +kernel
theorem dX9_letter_23 : decode cX9_letter 23 = .ok (.iaload, 1) := by decide +kernel
theorem dX9_letter_24 : decode cX9_letter 24 = .ok (.goto 4, 3) := by decide +kernel
theorem dX9_letter_27 : decode cX9_letter 27 = .ok (.iconst (-1), 1) := by decide +kernel
theorem dX9_letter_28 : decode cX9_letter 28 = .ok (.ireturn, 1) := by decide +kernel
theorem dX9_copy_0 : decode cX9_copy 0 = .ok (.aload_n 0, 1) := by decide +kernel
theorem dX9_copy_1 : decode cX9_copy 1 = .ok (.iload_n 1, 1) := by decide +kernel
theorem dX9_copy_2 : decode cX9_copy 2 = .ok (.invokevirtual 116, 3) := by decide +kernel
theorem dX9_copy_5 : decode cX9_copy 5 = .ok (.istore_n 3, 1) := by decide +kernel
theorem dX9_copy_6 : decode cX9_copy 6 = .ok (.iload_n 3, 1) := by decide +kernel
theorem dX9_copy_7 : decode cX9_copy 7 = .ok (.ifCond .ge 9, 3) := by decide +kernel
theorem dX9_copy_10 : decode cX9_copy 10 = .ok (.aload_n 0, 1) := by decide +kernel
theorem dX9_copy_11 : decode cX9_copy 11 = .ok (.iload_n 3, 1) := by decide +kernel
theorem dX9_copy_12 : decode cX9_copy 12 = .ok (.invokevirtual 77, 3) := by decide +kernel
theorem dX9_copy_15 : decode cX9_copy 15 = .ok (.ireturn, 1) := by decide +kernel
theorem dX9_copy_16 : decode cX9_copy 16 = .ok (.iload_n 2, 1) := by decide +kernel
theorem dX9_copy_17 : decode cX9_copy 17 = .ok (.invokestatic 95, 3) := by decide +kernel
theorem dX9_copy_20 : decode cX9_copy 20 = .ok (.ifCond .ne 9, 3) := by decide +kernel
theorem dX9_copy_23 : decode cX9_copy 23 = .ok (.aload_n 0, 1) := by decide +kernel
theorem dX9_copy_24 : decode cX9_copy 24 = .ok (.iconst (-1), 1) := by decide +kernel
theorem dX9_copy_25 : decode cX9_copy 25 = .ok (.invokevirtual 77, 3) := by decide +kernel
theorem dX9_copy_28 : decode cX9_copy 28 = .ok (.ireturn, 1) := by decide +kernel
theorem dX9_copy_29 : decode cX9_copy 29 = .ok (.aload_n 0, 1) := by decide +kernel
theorem dX9_copy_30 : decode cX9_copy 30 = .ok (.getfield 11, 3) := by decide +kernel
theorem dX9_copy_33 : decode cX9_copy 33 = .ok (.iload_n 2, 1) := by decide +kernel
theorem dX9_copy_34 : decode cX9_copy 34 = .ok (.aaload, 1) := by decide +kernel
theorem dX9_copy_35 : decode cX9_copy 35 = .ok (.aload_n 0, 1) := by decide +kernel
theorem dX9_copy_36 : decode cX9_copy 36 = .ok (.getfield 11, 3) := by decide +kernel
theorem dX9_copy_39 : decode cX9_copy 39 = .ok (.iload_n 1, 1) := by decide +kernel
theorem dX9_copy_40 : decode cX9_copy 40 = .ok (.aaload, 1) := by decide +kernel
theorem dX9_copy_41 : decode cX9_copy 41 = .ok (.invokevirtual 112, 3) := by decide +kernel
theorem dX9_copy_44 : decode cX9_copy 44 = .ok (.aload_n 0, 1) := by decide +kernel
theorem dX9_copy_45 : decode cX9_copy 45 = .ok (.getfield 11, 3) := by decide +kernel
theorem dX9_copy_48 : decode cX9_copy 48 = .ok (.iload_n 2, 1) := by decide +kernel
theorem dX9_copy_49 : decode cX9_copy 49 = .ok (.aaload, 1) := by decide +kernel
theorem dX9_copy_50 : decode cX9_copy 50 = .ok (.getfield 103, 3) := by decide +kernel
theorem dX9_copy_53 : decode cX9_copy 53 = .ok (.ireturn, 1) := by decide +kernel
theorem dX9_clear_0 : decode cX9_clear 0 = .ok (.iload_n 1, 1) := by decide +kernel
theorem dX9_clear_1 : decode cX9_clear 1 = .ok (.invokestatic 95, 3) := by decide +kernel
theorem dX9_clear_4 : decode cX9_clear 4 = .ok (.ifCond .ne 9, 3) := by decide +kernel
theorem dX9_clear_7 : decode cX9_clear 7 = .ok (.aload_n 0, 1) := by decide +kernel
theorem dX9_clear_8 : decode cX9_clear 8 = .ok (.iconst (-1), 1) := by decide +kernel
theorem dX9_clear_9 : decode cX9_clear 9 = .ok (.invokevirtual 77, 3) := by decide +kernel
theorem dX9_clear_12 : decode cX9_clear 12 = .ok (.ireturn, 1) := by decide +kernel
theorem dX9_clear_13 : decode cX9_clear 13 = .ok (.aload_n 0, 1) := by decide +kernel
theorem dX9_clear_14 : decode cX9_clear 14 = .ok (.getfield 11, 3) := by decide +kernel
theorem dX9_clear_17 : decode cX9_clear 17 = .ok (.iload_n 1, 1) := by decide +kernel
theorem dX9_clear_18 : decode cX9_clear 18 = .ok (.aaload, 1) := by decide +kernel
theorem dX9_clear_19 : decode cX9_clear 19 = .ok (.getfield 103, 3) := by decide +kernel
theorem dX9_clear_22 : decode cX9_clear 22 = .ok (.ifCond .le 7, 3) := by decide +kernel
theorem dX9_clear_25 : decode cX9_clear 25 = .ok (.iconst 1, 1) := by decide +kernel
theorem dX9_clear_26 : decode cX9_clear 26 = .ok (.goto 4, 3) := by decide +kernel
theorem dX9_clear_29 : decode cX9_clear 29 = .ok (.iconst 0, 1) := by decide +kernel
theorem dX9_clear_30 : decode cX9_clear 30 = .ok (.istore_n 2, 1) := by decide +kernel
theorem dX9_clear_31 : decode cX9_clear 31 = .ok (.aload_n 0, 1) := by decide +kernel
theorem dX9_clear_32 : decode cX9_clear 32 = .ok (.getfield 11, 3) := by decide +kernel
theorem dX9_clear_35 : decode cX9_clear 35 = .ok (.iload_n 1, 1) := by decide +kernel
theorem dX9_clear_36 : decode cX9_clear 36 = .ok (.aaload, 1) := by decide +kernel
theorem dX9_clear_37 : decode cX9_clear 37 = .ok (.iconst 0, 1) := by decide +kernel
theorem dX9_clear_38 : decode cX9_clear 38 = .ok (.putfield 103, 3) := by decide +kernel
theorem dX9_clear_41 : decode cX9_clear 41 = .ok (.iload_n 2, 1) := by decide +kernel
theorem dX9_clear_42 : decode cX9_clear 42 = .ok (.ireturn, 1) := by decide +kernel
theorem dX9_node_0 : decode cX9_node 0 = .ok (.aload_n 0, 1) := by decide +kernel
theorem dX9_node_1 : decode cX9_node 1 = .ok (.iload_n 1, 1) := by decide +kernel
theorem dX9_node_2 : decode cX9_node 2 = .ok (.invokevirtual 116, 3) := by decide +kernel
theorem dX9_node_5 : decode cX9_node 5 = .ok (.istore 4, 2) := by decide +kernel
theorem dX9_node_7 : decode cX9_node 7 = .ok (.iload 4, 2) := by decide +kernel
theorem dX9_node_9 : decode cX9_node 9 = .ok (.ifCond .ge 10, 3) := by decide +kernel
theorem dX9_node_12 : decode cX9_node 12 = .ok (.aload_n 0, 1) := by decide +kernel
theorem dX9_node_13 : decode cX9_node 13 = .ok (.iload 4, 2) := by decide +kernel
theorem dX9_node_15 : decode cX9_node 15 = .ok (.invokevirtual 77, 3) := by decide +kernel
theorem dX9_node_18 : decode cX9_node 18 = .ok (.ireturn, 1) := by decide +kernel
theorem dX9_node_19 : decode cX9_node 19 = .ok (.aload_n 0, 1) := by decide +kernel
theorem dX9_node_20 : decode cX9_node 20 = .ok (.getfield 11, 3) := by decide +kernel
theorem dX9_node_23 : decode cX9_node 23 = .ok (.iload_n 1, 1) := by decide +kernel
theorem dX9_node_24 : decode cX9_node 24 = .ok (.aaload, 1) := by decide +kernel
theorem dX9_node_25 : decode cX9_node 25 = .ok (.astore 5, 2) := by decide +kernel
theorem dX9_node_27 : decode cX9_node 27 = .ok (.iload_n 2, 1) := by decide +kernel
theorem dX9_node_28 : decode cX9_node 28 = .ok (.ifCond .lt 22, 3) := by decide +kernel
theorem dX9_node_31 : decode cX9_node 31 = .ok (.iload_n 2, 1) := by decide +kernel
theorem dX9_node_32 : decode cX9_node 32 = .ok (.aload 5, 2) := by decide +kernel
theorem dX9_node_34 : decode cX9_node 34 = .ok (.getfield 103, 3) := by decide +kernel
theorem dX9_node_37 : decode cX9_node 37 = .ok (.if_icmp .ge 13, 3) := by decide +kernel
theorem dX9_node_40 : decode cX9_node 40 = .ok (.iload_n 3, 1) := by decide +kernel
theorem dX9_node_41 : decode cX9_node 41 = .ok (.ifCond .lt 9, 3) := by decide +kernel
theorem dX9_node_44 : decode cX9_node 44 = .ok (.iload_n 3, 1) := by decide +kernel
theorem dX9_node_45 : decode cX9_node 45 = .ok (.bipush 8, 2) := by decide +kernel
theorem dX9_node_47 : decode cX9_node 47 = .ok (.if_icmp .le 9, 3) := by decide +kernel
theorem dX9_node_50 : decode cX9_node 50 = .ok (.aload_n 0, 1) := by decide +kernel
theorem dX9_node_51 : decode cX9_node 51 = .ok (.iconst (-1), 1) := by decide +kernel
theorem dX9_node_52 : decode cX9_node 52 = .ok (.invokevirtual 77, 3) := by decide +kernel
theorem dX9_node_55 : decode cX9_node 55 = .ok (.ireturn, 1) := by decide +kernel
theorem dX9_node_56 : decode cX9_node 56 = .ok (.aload 5, 2) := by decide +kernel
theorem dX9_node_58 : decode cX9_node 58 = .ok (.iload_n 2, 1) := by decide +kernel
theorem dX9_node_59 : decode cX9_node 59 = .ok (.iload_n 3, 1) := by decide +kernel
theorem dX9_node_60 : decode cX9_node 60 = .ok (.invokestatic 126, 3) := by decide +kernel
theorem dX9_node_63 : decode cX9_node 63 = .ok (.ireturn, 1) := by decide +kernel
theorem dX9_size_0 : decode cX9_size 0 = .ok (.aload_n 0, 1) := by decide +kernel
theorem dX9_size_1 : decode cX9_size 1 = .ok (.iload_n 1, 1) := by decide +kernel
theorem dX9_size_2 : decode cX9_size 2 = .ok (.invokevirtual 116, 3) := by decide +kernel
theorem dX9_size_5 : decode cX9_size 5 = .ok (.istore_n 2, 1) := by decide +kernel
theorem dX9_size_6 : decode cX9_size 6 = .ok (.iload_n 2, 1) := by decide +kernel
theorem dX9_size_7 : decode cX9_size 7 = .ok (.ifCond .ge 11, 3) := by decide +kernel
theorem dX9_size_10 : decode cX9_size 10 = .ok (.aload_n 0, 1) := by decide +kernel
theorem dX9_size_11 : decode cX9_size 11 = .ok (.iload_n 2, 1) := by decide +kernel
theorem dX9_size_12 : decode cX9_size 12 = .ok (.invokevirtual 77, 3) := by decide +kernel
theorem dX9_size_15 : decode cX9_size 15 = .ok (.goto 12, 3) := by decide +kernel
theorem dX9_size_18 : decode cX9_size 18 = .ok (.aload_n 0, 1) := by decide +kernel
theorem dX9_size_19 : decode cX9_size 19 = .ok (.getfield 11, 3) := by decide +kernel
theorem dX9_size_22 : decode cX9_size 22 = .ok (.iload_n 1, 1) := by decide +kernel
theorem dX9_size_23 : decode cX9_size 23 = .ok (.aaload, 1) := by decide +kernel
theorem dX9_size_24 : decode cX9_size 24 = .ok (.getfield 103, 3) := by decide +kernel
theorem dX9_size_27 : decode cX9_size 27 = .ok (.ireturn, 1) := by decide +kernel
theorem dX9_relabel_0 : decode cX9_relabel 0 = .ok (.aload_n 0, 1) := by decide +kernel
theorem dX9_relabel_1 : decode cX9_relabel 1 = .ok (.iload_n 1, 1) := by decide +kernel
theorem dX9_relabel_2 : decode cX9_relabel 2 = .ok (.iload_n 2, 1) := by decide +kernel
theorem dX9_relabel_3 : decode cX9_relabel 3 = .ok (.invokevirtual 130, 3) := by decide +kernel
theorem dX9_relabel_6 : decode cX9_relabel 6 = .ok (.istore_n 3, 1) := by decide +kernel
theorem dX9_relabel_7 : decode cX9_relabel 7 = .ok (.iload_n 3, 1) := by decide +kernel
theorem dX9_relabel_8 : decode cX9_relabel 8 = .ok (.ifCond .ge 9, 3) := by decide +kernel
theorem dX9_relabel_11 : decode cX9_relabel 11 = .ok (.aload_n 0, 1) := by decide +kernel
theorem dX9_relabel_12 : decode cX9_relabel 12 = .ok (.iload_n 3, 1) := by decide +kernel
theorem dX9_relabel_13 : decode cX9_relabel 13 = .ok (.invokevirtual 77, 3) := by decide +kernel
theorem dX9_relabel_16 : decode cX9_relabel 16 = .ok (.ireturn, 1) := by decide +kernel
theorem dX9_relabel_17 : decode cX9_relabel 17 = .ok (.aload_n 0, 1) := by decide +kernel
theorem dX9_relabel_18 : decode cX9_relabel 18 = .ok (.getfield 26, 3) := by decide +kernel
theorem dX9_relabel_21 : decode cX9_relabel 21 = .ok (.invokevirtual 134, 3) := by decide +kernel
theorem dX9_relabel_24 : decode cX9_relabel 24 = .ok (.lstore 4, 2) := by decide +kernel
theorem dX9_relabel_26 : decode cX9_relabel 26 = .ok (.aload_n 0, 1) := by decide +kernel
theorem dX9_relabel_27 : decode cX9_relabel 27 = .ok (.getfield 26, 3) := by decide +kernel
theorem dX9_relabel_30 : decode cX9_relabel 30 = .ok (.iconst 0, 1) := by decide +kernel
theorem dX9_relabel_31 : decode cX9_relabel 31 = .ok (.putfield 81, 3) := by decide +kernel
theorem dX9_relabel_34 : decode cX9_relabel 34 = .ok (.lload 4, 2) := by decide +kernel
theorem dX9_relabel_36 : decode cX9_relabel 36 = .ok (.ldc2_w 138, 3) := by decide +kernel
theorem dX9_relabel_39 : decode cX9_relabel 39 = .ok (.lcmp, 1) := by decide +kernel
theorem dX9_relabel_40 : decode cX9_relabel 40 = .ok (.ifCond .ne 10, 3) := by decide +kernel
theorem dX9_relabel_43 : decode cX9_relabel 43 = .ok (.aload_n 0, 1) := by decide +kernel
theorem dX9_relabel_44 : decode cX9_relabel 44 = .ok (.bipush (-3), 2) := by decide +kernel
theorem dX9_relabel_46 : decode cX9_relabel 46 = .ok (.invokevirtual 77, 3) := by decide +kernel
theorem dX9_relabel_49 : decode cX9_relabel 49 = .ok (.ireturn, 1) := by decide +kernel
theorem dX9_relabel_50 : decode cX9_relabel 50 = .ok (.aload_n 0, 1) := by decide +kernel
theorem dX9_relabel_51 : decode cX9_relabel 51 = .ok (.getfield 31, 3) := by decide +kernel
theorem dX9_relabel_54 : decode cX9_relabel 54 = .ok (.aload_n 0, 1) := by decide +kernel
theorem dX9_relabel_55 : decode cX9_relabel 55 = .ok (.getfield 11, 3) := by decide +kernel
theorem dX9_relabel_58 : decode cX9_relabel 58 = .ok (.iload_n 1, 1) := by decide +kernel
theorem dX9_relabel_59 : decode cX9_relabel 59 = .ok (.aaload, 1) := by decide +kernel
theorem dX9_relabel_60 : decode cX9_relabel 60 = .ok (.invokevirtual 112, 3) := by decide +kernel
theorem dX9_relabel_63 : decode cX9_relabel 63 = .ok (.aload_n 0, 1) := by decide +kernel
theorem dX9_relabel_64 : decode cX9_relabel 64 = .ok (.getfield 31, 3) := by decide +kernel
theorem dX9_relabel_67 : decode cX9_relabel 67 = .ok (.getfield 140, 3) := by decide +kernel
theorem dX9_relabel_70 : decode cX9_relabel 70 = .ok (.iload_n 3, 1) := by decide +kernel
theorem dX9_relabel_71 : decode cX9_relabel 71 = .ok (.lload 4, 2) := by decide +kernel
theorem dX9_relabel_73 : decode cX9_relabel 73 = .ok (.lastore, 1) := by decide +kernel
theorem dX9_relabel_74 : decode cX9_relabel 74 = .ok (.aload_n 0, 1) := by decide +kernel
theorem dX9_relabel_75 : decode cX9_relabel 75 = .ok (.iload_n 1, 1) := by decide +kernel
theorem dX9_relabel_76 : decode cX9_relabel 76 = .ok (.lload 4, 2) := by decide +kernel
theorem dX9_relabel_78 : decode cX9_relabel 78 = .ok (.invokestatic 144, 3) := by decide +kernel
theorem dX9_relabel_81 : decode cX9_relabel 81 = .ok (.invokevirtual 148, 3) := by decide +kernel
theorem dX9_relabel_84 : decode cX9_relabel 84 = .ok (.ireturn, 1) := by decide +kernel
theorem dX9_retext_0 : decode cX9_retext 0 = .ok (.aload_n 0, 1) := by decide +kernel
theorem dX9_retext_1 : decode cX9_retext 1 = .ok (.iload_n 1, 1) := by decide +kernel
theorem dX9_retext_2 : decode cX9_retext 2 = .ok (.iload_n 2, 1) := by decide +kernel
theorem dX9_retext_3 : decode cX9_retext 3 = .ok (.invokevirtual 130, 3) := by decide +kernel
theorem dX9_retext_6 : decode cX9_retext 6 = .ok (.istore_n 3, 1) := by decide +kernel
theorem dX9_retext_7 : decode cX9_retext 7 = .ok (.iload_n 3, 1) := by decide +kernel
theorem dX9_retext_8 : decode cX9_retext 8 = .ok (.ifCond .ge 9, 3) := by decide +kernel
theorem dX9_retext_11 : decode cX9_retext 11 = .ok (.aload_n 0, 1) := by decide +kernel
theorem dX9_retext_12 : decode cX9_retext 12 = .ok (.iload_n 3, 1) := by decide +kernel
theorem dX9_retext_13 : decode cX9_retext 13 = .ok (.invokevirtual 77, 3) := by decide +kernel
theorem dX9_retext_16 : decode cX9_retext 16 = .ok (.ireturn, 1) := by decide +kernel
theorem dX9_retext_17 : decode cX9_retext 17 = .ok (.aload_n 0, 1) := by decide +kernel
theorem dX9_retext_18 : decode cX9_retext 18 = .ok (.getfield 26, 3) := by decide +kernel
theorem dX9_retext_21 : decode cX9_retext 21 = .ok (.invokevirtual 151, 3) := by decide +kernel
theorem dX9_retext_24 : decode cX9_retext 24 = .ok (.lstore 4, 2) := by decide +kernel
theorem dX9_retext_26 : decode cX9_retext 26 = .ok (.aload_n 0, 1) := by decide +kernel
theorem dX9_retext_27 : decode cX9_retext 27 = .ok (.getfield 26, 3) := by decide +kernel
theorem dX9_retext_30 : decode cX9_retext 30 = .ok (.iconst 0, 1) := by decide +kernel
theorem dX9_retext_31 : decode cX9_retext 31 = .ok (.putfield 81, 3) := by decide +kernel
theorem dX9_retext_34 : decode cX9_retext 34 = .ok (.lload 4, 2) := by decide +kernel
theorem dX9_retext_36 : decode cX9_retext 36 = .ok (.ldc2_w 138, 3) := by decide +kernel
theorem dX9_retext_39 : decode cX9_retext 39 = .ok (.lcmp, 1) := by decide +kernel
theorem dX9_retext_40 : decode cX9_retext 40 = .ok (.ifCond .ne 10, 3) := by decide +kernel
theorem dX9_retext_43 : decode cX9_retext 43 = .ok (.aload_n 0, 1) := by decide +kernel
theorem dX9_retext_44 : decode cX9_retext 44 = .ok (.bipush (-3), 2) := by decide +kernel
theorem dX9_retext_46 : decode cX9_retext 46 = .ok (.invokevirtual 77, 3) := by decide +kernel
theorem dX9_retext_49 : decode cX9_retext 49 = .ok (.ireturn, 1) := by decide +kernel
theorem dX9_retext_50 : decode cX9_retext 50 = .ok (.aload_n 0, 1) := by decide +kernel
theorem dX9_retext_51 : decode cX9_retext 51 = .ok (.getfield 11, 3) := by decide +kernel
theorem dX9_retext_54 : decode cX9_retext 54 = .ok (.iload_n 1, 1) := by decide +kernel
theorem dX9_retext_55 : decode cX9_retext 55 = .ok (.aaload, 1) := by decide +kernel
theorem dX9_retext_56 : decode cX9_retext 56 = .ok (.getfield 154, 3) := by decide +kernel
theorem dX9_retext_59 : decode cX9_retext 59 = .ok (.iload_n 3, 1) := by decide +kernel
theorem dX9_retext_60 : decode cX9_retext 60 = .ok (.lload 4, 2) := by decide +kernel
theorem dX9_retext_62 : decode cX9_retext 62 = .ok (.lastore, 1) := by decide +kernel
theorem dX9_retext_63 : decode cX9_retext 63 = .ok (.lload 4, 2) := by decide +kernel
theorem dX9_retext_65 : decode cX9_retext 65 = .ok (.invokestatic 144, 3) := by decide +kernel
theorem dX9_retext_68 : decode cX9_retext 68 = .ok (.ireturn, 1) := by decide +kernel
theorem dX9_put_0 : decode cX9_put 0 = .ok (.aload_n 0, 1) := by decide +kernel
theorem dX9_put_1 : decode cX9_put 1 = .ok (.iload_n 1, 1) := by decide +kernel
theorem dX9_put_2 : decode cX9_put 2 = .ok (.iload_n 2, 1) := by decide +kernel
theorem dX9_put_3 : decode cX9_put 3 = .ok (.invokevirtual 130, 3) := by decide +kernel
theorem dX9_put_6 : decode cX9_put 6 = .ok (.istore 6, 2) := by decide +kernel
theorem dX9_put_8 : decode cX9_put 8 = .ok (.iload 6, 2) := by decide +kernel
theorem dX9_put_10 : decode cX9_put 10 = .ok (.ifCond .ge 10, 3) := by decide +kernel
theorem dX9_put_13 : decode cX9_put 13 = .ok (.aload_n 0, 1) := by decide +kernel
theorem dX9_put_14 : decode cX9_put 14 = .ok (.iload 6, 2) := by decide +kernel
theorem dX9_put_16 : decode cX9_put 16 = .ok (.invokevirtual 77, 3) := by decide +kernel
theorem dX9_put_19 : decode cX9_put 19 = .ok (.ireturn, 1) := by decide +kernel
theorem dX9_put_20 : decode cX9_put 20 = .ok (.aload_n 0, 1) := by decide +kernel
theorem dX9_put_21 : decode cX9_put 21 = .ok (.getfield 26, 3) := by decide +kernel
theorem dX9_put_24 : decode cX9_put 24 = .ok (.invokevirtual 134, 3) := by decide +kernel
theorem dX9_put_27 : decode cX9_put 27 = .ok (.lstore 7, 2) := by decide +kernel
theorem dX9_put_29 : decode cX9_put 29 = .ok (.aload_n 0, 1) := by decide +kernel
theorem dX9_put_30 : decode cX9_put 30 = .ok (.getfield 26, 3) := by decide +kernel
theorem dX9_put_33 : decode cX9_put 33 = .ok (.iconst 0, 1) := by decide +kernel
theorem dX9_put_34 : decode cX9_put 34 = .ok (.putfield 81, 3) := by decide +kernel
theorem dX9_put_37 : decode cX9_put 37 = .ok (.iload_n 3, 1) := by decide +kernel
theorem dX9_put_38 : decode cX9_put 38 = .ok (.ifCond .lt 33, 3) := by decide +kernel
theorem dX9_put_41 : decode cX9_put 41 = .ok (.iload_n 3, 1) := by decide +kernel
theorem dX9_put_42 : decode cX9_put 42 = .ok (.iconst 2, 1) := by decide +kernel
theorem dX9_put_43 : decode cX9_put 43 = .ok (.if_icmp .gt 28, 3) := by decide +kernel
theorem dX9_put_46 : decode cX9_put 46 = .ok (.aload_n 0, 1) := by decide +kernel
theorem dX9_put_47 : decode cX9_put 47 = .ok (.getfield 11, 3) := by decide +kernel
theorem dX9_put_50 : decode cX9_put 50 = .ok (.iload_n 1, 1) := by decide +kernel
theorem dX9_put_51 : decode cX9_put 51 = .ok (.aaload, 1) := by decide +kernel
theorem dX9_put_52 : decode cX9_put 52 = .ok (.getfield 157, 3) := by decide +kernel
theorem dX9_put_55 : decode cX9_put 55 = .ok (.iload 6, 2) := by decide +kernel
theorem dX9_put_57 : decode cX9_put 57 = .ok (.iaload, 1) := by decide +kernel
theorem dX9_put_58 : decode cX9_put 58 = .ok (.iconst 3, 1) := by decide +kernel
theorem dX9_put_59 : decode cX9_put 59 = .ok (.if_icmp .eq 12, 3) := by decide +kernel
theorem dX9_put_62 : decode cX9_put 62 = .ok (.lload 7, 2) := by decide +kernel
theorem dX9_put_64 : decode cX9_put 64 = .ok (.ldc2_w 138, 3) := by decide +kernel
theorem dX9_put_67 : decode cX9_put 67 = .ok (.lcmp, 1) := by decide +kernel
theorem dX9_put_68 : decode cX9_put 68 = .ok (.ifCond .ne 10, 3) := by decide +kernel
theorem dX9_put_71 : decode cX9_put 71 = .ok (.aload_n 0, 1) := by decide +kernel
theorem dX9_put_72 : decode cX9_put 72 = .ok (.bipush (-3), 2) := by decide +kernel
theorem dX9_put_74 : decode cX9_put 74 = .ok (.invokevirtual 77, 3) := by decide +kernel
theorem dX9_put_77 : decode cX9_put 77 = .ok (.ireturn, 1) := by decide +kernel
theorem dX9_put_78 : decode cX9_put 78 = .ok (.aload_n 0, 1) := by decide +kernel
theorem dX9_put_79 : decode cX9_put 79 = .ok (.getfield 11, 3) := by decide +kernel
theorem dX9_put_82 : decode cX9_put 82 = .ok (.iload_n 1, 1) := by decide +kernel
theorem dX9_put_83 : decode cX9_put 83 = .ok (.aaload, 1) := by decide +kernel
theorem dX9_put_84 : decode cX9_put 84 = .ok (.iload 6, 2) := by decide +kernel
theorem dX9_put_86 : decode cX9_put 86 = .ok (.invokevirtual 160, 3) := by decide +kernel
theorem dX9_put_89 : decode cX9_put 89 = .ok (.istore 9, 2) := by decide +kernel
theorem dX9_put_91 : decode cX9_put 91 = .ok (.iload 4, 2) := by decide +kernel
theorem dX9_put_93 : decode cX9_put 93 = .ok (.ifCond .lt 25, 3) := by decide +kernel
theorem dX9_put_96 : decode cX9_put 96 = .ok (.iload 5, 2) := by decide +kernel
theorem dX9_put_98 : decode cX9_put 98 = .ok (.ifCond .lt 20, 3) := by decide +kernel
theorem dX9_put_101 : decode cX9_put 101 = .ok (.iload 4, 2) := by decide +kernel
theorem dX9_put_103 : decode cX9_put 103 = .ok (.iload 9, 2) := by decide +kernel
theorem dX9_put_105 : decode cX9_put 105 = .ok (.if_icmp .gt 13, 3) := by decide +kernel
theorem dX9_put_108 : decode cX9_put 108 = .ok (.iload 5, 2) := by decide +kernel
theorem dX9_put_110 : decode cX9_put 110 = .ok (.iload 9, 2) := by decide +kernel
theorem dX9_put_112 : decode cX9_put 112 = .ok (.iload 4, 2) := by decide +kernel
theorem dX9_put_114 : decode cX9_put 114 = .ok (.isub, 1) := by decide +kernel
theorem dX9_put_115 : decode cX9_put 115 = .ok (.if_icmp .le 9, 3) := by decide +kernel
theorem dX9_put_118 : decode cX9_put 118 = .ok (.aload_n 0, 1) := by decide +kernel
theorem dX9_put_119 : decode cX9_put 119 = .ok (.iconst (-1), 1) := by decide +kernel
theorem dX9_put_120 : decode cX9_put 120 = .ok (.invokevirtual 77, 3) := by decide +kernel
theorem dX9_put_123 : decode cX9_put 123 = .ok (.ireturn, 1) := by decide +kernel
theorem dX9_put_124 : decode cX9_put 124 = .ok (.aload_n 0, 1) := by decide +kernel
theorem dX9_put_125 : decode cX9_put 125 = .ok (.getfield 11, 3) := by decide +kernel
theorem dX9_put_128 : decode cX9_put 128 = .ok (.iload_n 1, 1) := by decide +kernel
theorem dX9_put_129 : decode cX9_put 129 = .ok (.aaload, 1) := by decide +kernel
theorem dX9_put_130 : decode cX9_put 130 = .ok (.getfield 103, 3) := by decide +kernel
theorem dX9_put_133 : decode cX9_put 133 = .ok (.bipush 30, 2) := by decide +kernel
theorem dX9_put_135 : decode cX9_put 135 = .ok (.if_icmp .ne 10, 3) := by decide +kernel
theorem dX9_put_138 : decode cX9_put 138 = .ok (.aload_n 0, 1) := by decide +kernel
theorem dX9_put_139 : decode cX9_put 139 = .ok (.bipush (-5), 2) := by decide +kernel
theorem dX9_put_141 : decode cX9_put 141 = .ok (.invokevirtual 77, 3) := by decide +kernel
theorem dX9_put_144 : decode cX9_put 144 = .ok (.ireturn, 1) := by decide +kernel
theorem dX9_put_145 : decode cX9_put 145 = .ok (.aload_n 0, 1) := by decide +kernel
theorem dX9_put_146 : decode cX9_put 146 = .ok (.getfield 31, 3) := by decide +kernel
theorem dX9_put_149 : decode cX9_put 149 = .ok (.aload_n 0, 1) := by decide +kernel
theorem dX9_put_150 : decode cX9_put 150 = .ok (.getfield 11, 3) := by decide +kernel
theorem dX9_put_153 : decode cX9_put 153 = .ok (.iload_n 1, 1) := by decide +kernel
theorem dX9_put_154 : decode cX9_put 154 = .ok (.aaload, 1) := by decide +kernel
theorem dX9_put_155 : decode cX9_put 155 = .ok (.invokevirtual 112, 3) := by decide +kernel
theorem dX9_put_158 : decode cX9_put 158 = .ok (.aload_n 0, 1) := by decide +kernel
theorem dX9_put_159 : decode cX9_put 159 = .ok (.getfield 31, 3) := by decide +kernel
theorem dX9_put_162 : decode cX9_put 162 = .ok (.iload 6, 2) := by decide +kernel
theorem dX9_put_164 : decode cX9_put 164 = .ok (.iload 4, 2) := by decide +kernel
theorem dX9_put_166 : decode cX9_put 166 = .ok (.iload 5, 2) := by decide +kernel
theorem dX9_put_168 : decode cX9_put 168 = .ok (.invokevirtual 163, 3) := by decide +kernel
theorem dX9_put_171 : decode cX9_put 171 = .ok (.istore 10, 2) := by decide +kernel
theorem dX9_put_173 : decode cX9_put 173 = .ok (.aload_n 0, 1) := by decide +kernel
theorem dX9_put_174 : decode cX9_put 174 = .ok (.getfield 31, 3) := by decide +kernel
theorem dX9_put_177 : decode cX9_put 177 = .ok (.iload 10, 2) := by decide +kernel
theorem dX9_put_179 : decode cX9_put 179 = .ok (.aload_n 0, 1) := by decide +kernel
theorem dX9_put_180 : decode cX9_put 180 = .ok (.getfield 109, 3) := by decide +kernel
theorem dX9_put_183 : decode cX9_put 183 = .ok (.iload_n 3, 1) := by decide +kernel
theorem dX9_put_184 : decode cX9_put 184 = .ok (.lload 7, 2) := by decide +kernel
theorem dX9_put_186 : decode cX9_put 186 = .ok (.invokevirtual 167, 3) := by decide +kernel
theorem dX9_put_189 : decode cX9_put 189 = .ok (.aload_n 0, 1) := by decide +kernel
theorem dX9_put_190 : decode cX9_put 190 = .ok (.iload_n 1, 1) := by decide +kernel
theorem dX9_put_191 : decode cX9_put 191 = .ok (.aload_n 0, 1) := by decide +kernel
theorem dX9_put_192 : decode cX9_put 192 = .ok (.getfield 109, 3) := by decide +kernel
theorem dX9_put_195 : decode cX9_put 195 = .ok (.invokevirtual 148, 3) := by decide +kernel
theorem dX9_put_198 : decode cX9_put 198 = .ok (.istore 11, 2) := by decide +kernel
theorem dX9_put_200 : decode cX9_put 200 = .ok (.iload 11, 2) := by decide +kernel
theorem dX9_put_202 : decode cX9_put 202 = .ok (.ifCond .lt 13, 3) := by decide +kernel
theorem dX9_put_205 : decode cX9_put 205 = .ok (.aload_n 0, 1) := by decide +kernel
theorem dX9_put_206 : decode cX9_put 206 = .ok (.dup, 1) := by decide +kernel
theorem dX9_put_207 : decode cX9_put 207 = .ok (.getfield 109, 3) := by decide +kernel
theorem dX9_put_210 : decode cX9_put 210 = .ok (.iconst 1, 1) := by decide +kernel
theorem dX9_put_211 : decode cX9_put 211 = .ok (.iadd, 1) := by decide +kernel
theorem dX9_put_212 : decode cX9_put 212 = .ok (.putfield 109, 3) := by decide +kernel
theorem dX9_put_215 : decode cX9_put 215 = .ok (.iload 11, 2) := by decide +kernel
theorem dX9_put_217 : decode cX9_put 217 = .ok (.ireturn, 1) := by decide +kernel
theorem dX9_take_0 : decode cX9_take 0 = .ok (.aload_n 0, 1) := by decide +kernel
theorem dX9_take_1 : decode cX9_take 1 = .ok (.iload_n 1, 1) := by decide +kernel
theorem dX9_take_2 : decode cX9_take 2 = .ok (.iload_n 2, 1) := by decide +kernel
theorem dX9_take_3 : decode cX9_take 3 = .ok (.invokevirtual 130, 3) := by decide +kernel
theorem dX9_take_6 : decode cX9_take 6 = .ok (.istore_n 3, 1) := by decide +kernel
theorem dX9_take_7 : decode cX9_take 7 = .ok (.iload_n 3, 1) := by decide +kernel
theorem dX9_take_8 : decode cX9_take 8 = .ok (.ifCond .ge 9, 3) := by decide +kernel
theorem dX9_take_11 : decode cX9_take 11 = .ok (.aload_n 0, 1) := by decide +kernel
theorem dX9_take_12 : decode cX9_take 12 = .ok (.iload_n 3, 1) := by decide +kernel
theorem dX9_take_13 : decode cX9_take 13 = .ok (.invokevirtual 77, 3) := by decide +kernel
theorem dX9_take_16 : decode cX9_take 16 = .ok (.ireturn, 1) := by decide +kernel
theorem dX9_take_17 : decode cX9_take 17 = .ok (.iload_n 3, 1) := by decide +kernel
theorem dX9_take_18 : decode cX9_take 18 = .ok (.ifCond .ne 10, 3) := by decide +kernel
theorem dX9_take_21 : decode cX9_take 21 = .ok (.aload_n 0, 1) := by decide +kernel
theorem dX9_take_22 : decode cX9_take 22 = .ok (.bipush (-7), 2) := by decide +kernel
theorem dX9_take_24 : decode cX9_take 24 = .ok (.invokevirtual 77, 3) := by decide +kernel
theorem dX9_take_27 : decode cX9_take 27 = .ok (.ireturn, 1) := by decide +kernel
theorem dX9_take_28 : decode cX9_take 28 = .ok (.aload_n 0, 1) := by decide +kernel
theorem dX9_take_29 : decode cX9_take 29 = .ok (.getfield 31, 3) := by decide +kernel
theorem dX9_take_32 : decode cX9_take 32 = .ok (.aload_n 0, 1) := by decide +kernel
theorem dX9_take_33 : decode cX9_take 33 = .ok (.getfield 11, 3) := by decide +kernel
theorem dX9_take_36 : decode cX9_take 36 = .ok (.iload_n 1, 1) := by decide +kernel
theorem dX9_take_37 : decode cX9_take 37 = .ok (.aaload, 1) := by decide +kernel
theorem dX9_take_38 : decode cX9_take 38 = .ok (.invokevirtual 112, 3) := by decide +kernel
theorem dX9_take_41 : decode cX9_take 41 = .ok (.aload_n 0, 1) := by decide +kernel
theorem dX9_take_42 : decode cX9_take 42 = .ok (.getfield 31, 3) := by decide +kernel
theorem dX9_take_45 : decode cX9_take 45 = .ok (.iload_n 3, 1) := by decide +kernel
theorem dX9_take_46 : decode cX9_take 46 = .ok (.invokevirtual 171, 3) := by decide +kernel
theorem dX9_take_49 : decode cX9_take 49 = .ok (.aload_n 0, 1) := by decide +kernel
theorem dX9_take_50 : decode cX9_take 50 = .ok (.iload_n 1, 1) := by decide +kernel
theorem dX9_take_51 : decode cX9_take 51 = .ok (.aload_n 0, 1) := by decide +kernel
theorem dX9_take_52 : decode cX9_take 52 = .ok (.getfield 11, 3) := by decide +kernel
theorem dX9_take_55 : decode cX9_take 55 = .ok (.iload_n 1, 1) := by decide +kernel
theorem dX9_take_56 : decode cX9_take 56 = .ok (.aaload, 1) := by decide +kernel
theorem dX9_take_57 : decode cX9_take 57 = .ok (.iload_n 3, 1) := by decide +kernel
theorem dX9_take_58 : decode cX9_take 58 = .ok (.invokevirtual 160, 3) := by decide +kernel
theorem dX9_take_61 : decode cX9_take 61 = .ok (.invokevirtual 148, 3) := by decide +kernel
theorem dX9_take_64 : decode cX9_take 64 = .ok (.ireturn, 1) := by decide +kernel
theorem dX9_move_0 : decode cX9_move 0 = .ok (.aload_n 0, 1) := by decide +kernel
theorem dX9_move_1 : decode cX9_move 1 = .ok (.iload_n 1, 1) := by decide +kernel
theorem dX9_move_2 : decode cX9_move 2 = .ok (.iload_n 2, 1) := by decide +kernel
theorem dX9_move_3 : decode cX9_move 3 = .ok (.invokevirtual 130, 3) := by decide +kernel
theorem dX9_move_6 : decode cX9_move 6 = .ok (.istore 5, 2) := by decide +kernel
theorem dX9_move_8 : decode cX9_move 8 = .ok (.iload 5, 2) := by decide +kernel
theorem dX9_move_10 : decode cX9_move 10 = .ok (.ifCond .ge 10, 3) := by decide +kernel
theorem dX9_move_13 : decode cX9_move 13 = .ok (.aload_n 0, 1) := by decide +kernel
theorem dX9_move_14 : decode cX9_move 14 = .ok (.iload 5, 2) := by decide +kernel
theorem dX9_move_16 : decode cX9_move 16 = .ok (.invokevirtual 77, 3) := by decide +kernel
theorem dX9_move_19 : decode cX9_move 19 = .ok (.ireturn, 1) := by decide +kernel
theorem dX9_move_20 : decode cX9_move 20 = .ok (.aload_n 0, 1) := by decide +kernel
theorem dX9_move_21 : decode cX9_move 21 = .ok (.getfield 11, 3) := by decide +kernel
theorem dX9_move_24 : decode cX9_move 24 = .ok (.iload_n 1, 1) := by decide +kernel
theorem dX9_move_25 : decode cX9_move 25 = .ok (.aaload, 1) := by decide +kernel
theorem dX9_move_26 : decode cX9_move 26 = .ok (.iload 5, 2) := by decide +kernel
theorem dX9_move_28 : decode cX9_move 28 = .ok (.iload_n 3, 1) := by decide +kernel
theorem dX9_move_29 : decode cX9_move 29 = .ok (.invokestatic 174, 3) := by decide +kernel
theorem dX9_move_32 : decode cX9_move 32 = .ok (.istore 6, 2) := by decide +kernel
theorem dX9_move_34 : decode cX9_move 34 = .ok (.iload 6, 2) := by decide +kernel
theorem dX9_move_36 : decode cX9_move 36 = .ok (.ifCond .ge 10, 3) := by decide +kernel
theorem dX9_move_39 : decode cX9_move 39 = .ok (.aload_n 0, 1) := by decide +kernel
theorem dX9_move_40 : decode cX9_move 40 = .ok (.iload 6, 2) := by decide +kernel
theorem dX9_move_42 : decode cX9_move 42 = .ok (.invokevirtual 77, 3) := by decide +kernel
theorem dX9_move_45 : decode cX9_move 45 = .ok (.ireturn, 1) := by decide +kernel
theorem dX9_move_46 : decode cX9_move 46 = .ok (.aload_n 0, 1) := by decide +kernel
theorem dX9_move_47 : decode cX9_move 47 = .ok (.getfield 31, 3) := by decide +kernel
theorem dX9_move_50 : decode cX9_move 50 = .ok (.aload_n 0, 1) := by decide +kernel
theorem dX9_move_51 : decode cX9_move 51 = .ok (.getfield 11, 3) := by decide +kernel
theorem dX9_move_54 : decode cX9_move 54 = .ok (.iload_n 1, 1) := by decide +kernel
theorem dX9_move_55 : decode cX9_move 55 = .ok (.aaload, 1) := by decide +kernel
theorem dX9_move_56 : decode cX9_move 56 = .ok (.invokevirtual 112, 3) := by decide +kernel
theorem dX9_move_59 : decode cX9_move 59 = .ok (.aload_n 0, 1) := by decide +kernel
theorem dX9_move_60 : decode cX9_move 60 = .ok (.getfield 31, 3) := by decide +kernel
theorem dX9_move_63 : decode cX9_move 63 = .ok (.iload 5, 2) := by decide +kernel
theorem dX9_move_65 : decode cX9_move 65 = .ok (.invokevirtual 177, 3) := by decide +kernel
theorem dX9_move_68 : decode cX9_move 68 = .ok (.iload 6, 2) := by decide +kernel
theorem dX9_move_70 : decode cX9_move 70 = .ok (.iload 5, 2) := by decide +kernel
theorem dX9_move_72 : decode cX9_move 72 = .ok (.if_icmp .le 20, 3) := by decide +kernel
theorem dX9_move_75 : decode cX9_move 75 = .ok (.iload 6, 2) := by decide +kernel
theorem dX9_move_77 : decode cX9_move 77 = .ok (.aload_n 0, 1) := by decide +kernel
theorem dX9_move_78 : decode cX9_move 78 = .ok (.getfield 11, 3) := by decide +kernel
theorem dX9_move_81 : decode cX9_move 81 = .ok (.iload_n 1, 1) := by decide +kernel
theorem dX9_move_82 : decode cX9_move 82 = .ok (.aaload, 1) := by decide +kernel
theorem dX9_move_83 : decode cX9_move 83 = .ok (.getfield 180, 3) := by decide +kernel
theorem dX9_move_86 : decode cX9_move 86 = .ok (.iload 5, 2) := by decide +kernel
theorem dX9_move_88 : decode cX9_move 88 = .ok (.iaload, 1) := by decide +kernel
theorem dX9_move_89 : decode cX9_move 89 = .ok (.isub, 1) := by decide +kernel
theorem dX9_move_90 : decode cX9_move 90 = .ok (.istore 6, 2) := by decide +kernel
theorem dX9_move_92 : decode cX9_move 92 = .ok (.iload 4, 2) := by decide +kernel
theorem dX9_move_94 : decode cX9_move 94 = .ok (.ifCond .lt 17, 3) := by decide +kernel
theorem dX9_move_97 : decode cX9_move 97 = .ok (.iload 4, 2) := by decide +kernel
theorem dX9_move_99 : decode cX9_move 99 = .ok (.aload_n 0, 1) := by decide +kernel
theorem dX9_move_100 : decode cX9_move 100 = .ok (.getfield 31, 3) := by decide +kernel
theorem dX9_move_103 : decode cX9_move 103 = .ok (.iload 6, 2) := by decide +kernel
theorem dX9_move_105 : decode cX9_move 105 = .ok (.invokevirtual 160, 3) := by decide +kernel
theorem dX9_move_108 : decode cX9_move 108 = .ok (.if_icmp .le 9, 3) := by decide +kernel
theorem dX9_move_111 : decode cX9_move 111 = .ok (.aload_n 0, 1) := by decide +kernel
theorem dX9_move_112 : decode cX9_move 112 = .ok (.iconst (-1), 1) := by decide +kernel
theorem dX9_move_113 : decode cX9_move 113 = .ok (.invokevirtual 77, 3) := by decide +kernel
theorem dX9_move_116 : decode cX9_move 116 = .ok (.ireturn, 1) := by decide +kernel
theorem dX9_move_117 : decode cX9_move 117 = .ok (.aload_n 0, 1) := by decide +kernel
theorem dX9_move_118 : decode cX9_move 118 = .ok (.getfield 31, 3) := by decide +kernel
theorem dX9_move_121 : decode cX9_move 121 = .ok (.aload_n 0, 1) := by decide +kernel
theorem dX9_move_122 : decode cX9_move 122 = .ok (.getfield 11, 3) := by decide +kernel
theorem dX9_move_125 : decode cX9_move 125 = .ok (.iload_n 1, 1) := by decide +kernel
theorem dX9_move_126 : decode cX9_move 126 = .ok (.aaload, 1) := by decide +kernel
theorem dX9_move_127 : decode cX9_move 127 = .ok (.iload 5, 2) := by decide +kernel
theorem dX9_move_129 : decode cX9_move 129 = .ok (.iload 6, 2) := by decide +kernel
theorem dX9_move_131 : decode cX9_move 131 = .ok (.iload 4, 2) := by decide +kernel
theorem dX9_move_133 : decode cX9_move 133 = .ok (.invokevirtual 183, 3) := by decide +kernel
theorem dX9_move_136 : decode cX9_move 136 = .ok (.aload_n 0, 1) := by decide +kernel
theorem dX9_move_137 : decode cX9_move 137 = .ok (.iload_n 1, 1) := by decide +kernel
theorem dX9_move_138 : decode cX9_move 138 = .ok (.aload_n 0, 1) := by decide +kernel
theorem dX9_move_139 : decode cX9_move 139 = .ok (.getfield 11, 3) := by decide +kernel
theorem dX9_move_142 : decode cX9_move 142 = .ok (.iload_n 1, 1) := by decide +kernel
theorem dX9_move_143 : decode cX9_move 143 = .ok (.aaload, 1) := by decide +kernel
theorem dX9_move_144 : decode cX9_move 144 = .ok (.getfield 180, 3) := by decide +kernel
theorem dX9_move_147 : decode cX9_move 147 = .ok (.iload 5, 2) := by decide +kernel
theorem dX9_move_149 : decode cX9_move 149 = .ok (.iaload, 1) := by decide +kernel
theorem dX9_move_150 : decode cX9_move 150 = .ok (.invokevirtual 148, 3) := by decide +kernel
theorem dX9_move_153 : decode cX9_move 153 = .ok (.ireturn, 1) := by decide +kernel
theorem dX9_price_0 : decode cX9_price 0 = .ok (.iload_n 1, 1) := by decide +kernel
theorem dX9_price_1 : decode cX9_price 1 = .ok (.ifCond .lt 19, 3) := by decide +kernel
theorem dX9_price_4 : decode cX9_price 4 = .ok (.iload_n 1, 1) := by decide +kernel
theorem dX9_price_5 : decode cX9_price 5 = .ok (.iconst 3, 1) := by decide +kernel
theorem dX9_price_6 : decode cX9_price 6 = .ok (.if_icmp .gt 14, 3) := by decide +kernel
theorem dX9_price_9 : decode cX9_price 9 = .ok (.iload_n 2, 1) := by decide +kernel
theorem dX9_price_10 : decode cX9_price 10 = .ok (.ifCond .lt 10, 3) := by decide +kernel
theorem dX9_price_13 : decode cX9_price 13 = .ok (.iload_n 2, 1) := by decide +kernel
theorem dX9_price_14 : decode cX9_price 14 = .ok (.sipush 1000, 3) := by decide +kernel
theorem dX9_price_17 : decode cX9_price 17 = .ok (.if_icmp .le 9, 3) := by decide +kernel
theorem dX9_price_20 : decode cX9_price 20 = .ok (.aload_n 0, 1) := by decide +kernel
theorem dX9_price_21 : decode cX9_price 21 = .ok (.iconst (-1), 1) := by decide +kernel
theorem dX9_price_22 : decode cX9_price 22 = .ok (.invokevirtual 77, 3) := by decide +kernel
theorem dX9_price_25 : decode cX9_price 25 = .ok (.ireturn, 1) := by decide +kernel
theorem dX9_price_26 : decode cX9_price 26 = .ok (.aload_n 0, 1) := by decide +kernel
theorem dX9_price_27 : decode cX9_price 27 = .ok (.getfield 41, 3) := by decide +kernel
theorem dX9_price_30 : decode cX9_price 30 = .ok (.iload_n 1, 1) := by decide +kernel
theorem dX9_price_31 : decode cX9_price 31 = .ok (.iaload, 1) := by decide +kernel
theorem dX9_price_32 : decode cX9_price 32 = .ok (.istore_n 3, 1) := by decide +kernel
theorem dX9_price_33 : decode cX9_price 33 = .ok (.aload_n 0, 1) := by decide +kernel
theorem dX9_price_34 : decode cX9_price 34 = .ok (.getfield 41, 3) := by decide +kernel
theorem dX9_price_37 : decode cX9_price 37 = .ok (.iload_n 1, 1) := by decide +kernel
theorem dX9_price_38 : decode cX9_price 38 = .ok (.iload_n 2, 1) := by decide +kernel
theorem dX9_price_39 : decode cX9_price 39 = .ok (.iastore, 1) := by decide +kernel
theorem dX9_price_40 : decode cX9_price 40 = .ok (.iload_n 3, 1) := by decide +kernel
theorem dX9_price_41 : decode cX9_price 41 = .ok (.ireturn, 1) := by decide +kernel
theorem dX9_distance_0 : decode cX9_distance 0 = .ok (.aload_n 0, 1) := by decide +kernel
theorem dX9_distance_1 : decode cX9_distance 1 = .ok (.iload_n 1, 1) := by decide +kernel
theorem dX9_distance_2 : decode cX9_distance 2 = .ok (.iload_n 2, 1) := by decide +kernel
theorem dX9_distance_3 : decode cX9_distance 3 = .ok (.invokevirtual 187, 3) := by decide +kernel
theorem dX9_distance_6 : decode cX9_distance 6 = .ok (.istore_n 3, 1) := by decide +kernel
theorem dX9_distance_7 : decode cX9_distance 7 = .ok (.iload_n 3, 1) := by decide +kernel
theorem dX9_distance_8 : decode cX9_distance 8 = .ok (.ifCond .ge 11, 3) := by decide +kernel
theorem dX9_distance_11 : decode cX9_distance 11 = .ok (.aload_n 0, 1) := by decide +kernel
theorem dX9_distance_12 : decode cX9_distance 12 = .ok (.iload_n 3, 1) := by decide +kernel
theorem dX9_distance_13 : decode cX9_distance 13 = .ok (.invokevirtual 77, 3) := by decide +kernel
theorem dX9_distance_16 : decode cX9_distance 16 = .ok (.goto 26, 3) := by decide +kernel
theorem dX9_distance_19 : decode cX9_distance 19 = .ok (.aload_n 0, 1) := by decide +kernel
theorem dX9_distance_20 : decode cX9_distance 20 = .ok (.getfield 48, 3) := by decide +kernel
theorem dX9_distance_23 : decode cX9_distance 23 = .ok (.aload_n 0, 1) := by decide +kernel
theorem dX9_distance_24 : decode cX9_distance 24 = .ok (.getfield 11, 3) := by decide +kernel
theorem dX9_distance_27 : decode cX9_distance 27 = .ok (.iload_n 1, 1) := by decide +kernel
theorem dX9_distance_28 : decode cX9_distance 28 = .ok (.aaload, 1) := by decide +kernel
theorem dX9_distance_29 : decode cX9_distance 29 = .ok (.aload_n 0, 1) := by decide +kernel
theorem dX9_distance_30 : decode cX9_distance 30 = .ok (.getfield 11, 3) := by decide +kernel
theorem dX9_distance_33 : decode cX9_distance 33 = .ok (.iload_n 2, 1) := by decide +kernel
theorem dX9_distance_34 : decode cX9_distance 34 = .ok (.aaload, 1) := by decide +kernel
theorem dX9_distance_35 : decode cX9_distance 35 = .ok (.aload_n 0, 1) := by decide +kernel
theorem dX9_distance_36 : decode cX9_distance 36 = .ok (.getfield 41, 3) := by decide +kernel
theorem dX9_distance_39 : decode cX9_distance 39 = .ok (.invokevirtual 190, 3) := by decide +kernel
theorem dX9_distance_42 : decode cX9_distance 42 = .ok (.ireturn, 1) := by decide +kernel
theorem dX9_map_0 : decode cX9_map 0 = .ok (.aload_n 0, 1) := by decide +kernel
theorem dX9_map_1 : decode cX9_map 1 = .ok (.iload_n 1, 1) := by decide +kernel
theorem dX9_map_2 : decode cX9_map 2 = .ok (.iload_n 2, 1) := by decide +kernel
theorem dX9_map_3 : decode cX9_map 3 = .ok (.invokevirtual 187, 3) := by decide +kernel
theorem dX9_map_6 : decode cX9_map 6 = .ok (.istore_n 3, 1) := by decide +kernel
theorem dX9_map_7 : decode cX9_map 7 = .ok (.iload_n 3, 1) := by decide +kernel
theorem dX9_map_8 : decode cX9_map 8 = .ok (.ifCond .ge 9, 3) := by decide +kernel
theorem dX9_map_11 : decode cX9_map 11 = .ok (.aload_n 0, 1) := by decide +kernel
theorem dX9_map_12 : decode cX9_map 12 = .ok (.iload_n 3, 1) := by decide +kernel
theorem dX9_map_13 : decode cX9_map 13 = .ok (.invokevirtual 77, 3) := by decide +kernel
theorem dX9_map_16 : decode cX9_map 16 = .ok (.ireturn, 1) := by decide +kernel
theorem dX9_map_17 : decode cX9_map 17 = .ok (.aload_n 0, 1) := by decide +kernel
theorem dX9_map_18 : decode cX9_map 18 = .ok (.getfield 48, 3) := by decide +kernel
theorem dX9_map_21 : decode cX9_map 21 = .ok (.aload_n 0, 1) := by decide +kernel
theorem dX9_map_22 : decode cX9_map 22 = .ok (.getfield 11, 3) := by decide +kernel
theorem dX9_map_25 : decode cX9_map 25 = .ok (.iload_n 1, 1) := by decide +kernel
theorem dX9_map_26 : decode cX9_map 26 = .ok (.aaload, 1) := by decide +kernel
theorem dX9_map_27 : decode cX9_map 27 = .ok (.aload_n 0, 1) := by decide +kernel
theorem dX9_map_28 : decode cX9_map 28 = .ok (.getfield 11, 3) := by decide +kernel
theorem dX9_map_31 : decode cX9_map 31 = .ok (.iload_n 2, 1) := by decide +kernel
theorem dX9_map_32 : decode cX9_map 32 = .ok (.aaload, 1) := by decide +kernel
theorem dX9_map_33 : decode cX9_map 33 = .ok (.aload_n 0, 1) := by decide +kernel
theorem dX9_map_34 : decode cX9_map 34 = .ok (.getfield 41, 3) := by decide +kernel
theorem dX9_map_37 : decode cX9_map 37 = .ok (.invokevirtual 190, 3) := by decide +kernel
theorem dX9_map_40 : decode cX9_map 40 = .ok (.pop, 1) := by decide +kernel
theorem dX9_map_41 : decode cX9_map 41 = .ok (.aload_n 0, 1) := by decide +kernel
theorem dX9_map_42 : decode cX9_map 42 = .ok (.getfield 48, 3) := by decide +kernel
theorem dX9_map_45 : decode cX9_map 45 = .ok (.invokevirtual 194, 3) := by decide +kernel
theorem dX9_map_48 : decode cX9_map 48 = .ok (.aload_n 0, 1) := by decide +kernel
theorem dX9_map_49 : decode cX9_map 49 = .ok (.getfield 55, 3) := by decide +kernel
theorem dX9_map_52 : decode cX9_map 52 = .ok (.aload_n 0, 1) := by decide +kernel
theorem dX9_map_53 : decode cX9_map 53 = .ok (.getfield 11, 3) := by decide +kernel
theorem dX9_map_56 : decode cX9_map 56 = .ok (.iload_n 1, 1) := by decide +kernel
theorem dX9_map_57 : decode cX9_map 57 = .ok (.aaload, 1) := by decide +kernel
theorem dX9_map_58 : decode cX9_map 58 = .ok (.aload_n 0, 1) := by decide +kernel
theorem dX9_map_59 : decode cX9_map 59 = .ok (.getfield 11, 3) := by decide +kernel
theorem dX9_map_62 : decode cX9_map 62 = .ok (.iload_n 2, 1) := by decide +kernel
theorem dX9_map_63 : decode cX9_map 63 = .ok (.aaload, 1) := by decide +kernel
theorem dX9_map_64 : decode cX9_map 64 = .ok (.aload_n 0, 1) := by decide +kernel
theorem dX9_map_65 : decode cX9_map 65 = .ok (.getfield 48, 3) := by decide +kernel
theorem dX9_map_68 : decode cX9_map 68 = .ok (.aload_n 0, 1) := by decide +kernel
theorem dX9_map_69 : decode cX9_map 69 = .ok (.getfield 41, 3) := by decide +kernel
theorem dX9_map_72 : decode cX9_map 72 = .ok (.invokevirtual 197, 3) := by decide +kernel
theorem dX9_map_75 : decode cX9_map 75 = .ok (.aload_n 0, 1) := by decide +kernel
theorem dX9_map_76 : decode cX9_map 76 = .ok (.getfield 55, 3) := by decide +kernel
theorem dX9_map_79 : decode cX9_map 79 = .ok (.getfield 201, 3) := by decide +kernel
theorem dX9_map_82 : decode cX9_map 82 = .ok (.ireturn, 1) := by decide +kernel
theorem dX9_pair_0 : decode cX9_pair 0 = .ok (.iload_n 1, 1) := by decide +kernel
theorem dX9_pair_1 : decode cX9_pair 1 = .ok (.ifCond .lt 14, 3) := by decide +kernel
theorem dX9_pair_4 : decode cX9_pair 4 = .ok (.iload_n 1, 1) := by decide +kernel
theorem dX9_pair_5 : decode cX9_pair 5 = .ok (.aload_n 0, 1) := by decide +kernel
theorem dX9_pair_6 : decode cX9_pair 6 = .ok (.getfield 55, 3) := by decide +kernel
theorem dX9_pair_9 : decode cX9_pair 9 = .ok (.getfield 201, 3) := by decide +kernel
theorem dX9_pair_12 : decode cX9_pair 12 = .ok (.if_icmp .lt 10, 3) := by decide +kernel
theorem dX9_pair_15 : decode cX9_pair 15 = .ok (.aload_n 0, 1) := by decide +kernel
theorem dX9_pair_16 : decode cX9_pair 16 = .ok (.bipush (-6), 2) := by decide +kernel
theorem dX9_pair_18 : decode cX9_pair 18 = .ok (.invokevirtual 77, 3) := by decide +kernel
theorem dX9_pair_21 : decode cX9_pair 21 = .ok (.ireturn, 1) := by decide +kernel
theorem dX9_pair_22 : decode cX9_pair 22 = .ok (.iload_n 2, 1) := by decide +kernel
theorem dX9_pair_23 : decode cX9_pair 23 = .ok (.ifCond .lt 8, 3) := by decide +kernel
theorem dX9_pair_26 : decode cX9_pair 26 = .ok (.iload_n 2, 1) := by decide +kernel
theorem dX9_pair_27 : decode cX9_pair 27 = .ok (.iconst 1, 1) := by decide +kernel
theorem dX9_pair_28 : decode cX9_pair 28 = .ok (.if_icmp .le 9, 3) := by decide +kernel
theorem dX9_pair_31 : decode cX9_pair 31 = .ok (.aload_n 0, 1) := by decide +kernel
theorem dX9_pair_32 : decode cX9_pair 32 = .ok (.iconst (-1), 1) := by decide +kernel
theorem dX9_pair_33 : decode cX9_pair 33 = .ok (.invokevirtual 77, 3) := by decide +kernel
theorem dX9_pair_36 : decode cX9_pair 36 = .ok (.ireturn, 1) := by decide +kernel
theorem dX9_pair_37 : decode cX9_pair 37 = .ok (.iload_n 2, 1) := by decide +kernel
theorem dX9_pair_38 : decode cX9_pair 38 = .ok (.ifCond .ne 15, 3) := by decide +kernel
theorem dX9_pair_41 : decode cX9_pair 41 = .ok (.aload_n 0, 1) := by decide +kernel
theorem dX9_pair_42 : decode cX9_pair 42 = .ok (.getfield 55, 3) := by decide +kernel
theorem dX9_pair_45 : decode cX9_pair 45 = .ok (.getfield 204, 3) := by decide +kernel
theorem dX9_pair_48 : decode cX9_pair 48 = .ok (.iload_n 1, 1) := by decide +kernel
theorem dX9_pair_49 : decode cX9_pair 49 = .ok (.iaload, 1) := by decide +kernel
theorem dX9_pair_50 : decode cX9_pair 50 = .ok (.goto 12, 3) := by decide +kernel
theorem dX9_pair_53 : decode cX9_pair 53 = .ok (.aload_n 0, 1) := by decide +kernel
theorem dX9_pair_54 : decode cX9_pair 54 = .ok (.getfield 55, 3) := by decide +kernel
theorem dX9_pair_57 : decode cX9_pair 57 = .ok (.getfield 207, 3) := by decide +kernel
theorem dX9_pair_60 : decode cX9_pair 60 = .ok (.iload_n 1, 1) := by decide +kernel
theorem dX9_pair_61 : decode cX9_pair 61 = .ok (.iaload, 1) := by decide +kernel
theorem dX9_pair_62 : decode cX9_pair 62 = .ok (.ireturn, 1) := by decide +kernel
theorem dX9_acts_0 : decode cX9_acts 0 = .ok (.aload_n 0, 1) := by decide +kernel
theorem dX9_acts_1 : decode cX9_acts 1 = .ok (.getfield 55, 3) := by decide +kernel
theorem dX9_acts_4 : decode cX9_acts 4 = .ok (.getfield 210, 3) := by decide +kernel
theorem dX9_acts_7 : decode cX9_acts 7 = .ok (.ireturn, 1) := by decide +kernel
theorem dX9_act_0 : decode cX9_act 0 = .ok (.iload_n 1, 1) := by decide +kernel
theorem dX9_act_1 : decode cX9_act 1 = .ok (.ifCond .lt 14, 3) := by decide +kernel
theorem dX9_act_4 : decode cX9_act 4 = .ok (.iload_n 1, 1) := by decide +kernel
theorem dX9_act_5 : decode cX9_act 5 = .ok (.aload_n 0, 1) := by decide +kernel
theorem dX9_act_6 : decode cX9_act 6 = .ok (.getfield 55, 3) := by decide +kernel
theorem dX9_act_9 : decode cX9_act 9 = .ok (.getfield 210, 3) := by decide +kernel
theorem dX9_act_12 : decode cX9_act 12 = .ok (.if_icmp .lt 10, 3) := by decide +kernel
theorem dX9_act_15 : decode cX9_act 15 = .ok (.aload_n 0, 1) := by decide +kernel
theorem dX9_act_16 : decode cX9_act 16 = .ok (.bipush (-6), 2) := by decide +kernel
theorem dX9_act_18 : decode cX9_act 18 = .ok (.invokevirtual 77, 3) := by decide +kernel
theorem dX9_act_21 : decode cX9_act 21 = .ok (.ireturn, 1) := by decide +kernel
theorem dX9_act_22 : decode cX9_act 22 = .ok (.iload_n 2, 1) := by decide +kernel
theorem dX9_act_23 : decode cX9_act 23 = .ok (.ifCond .lt 8, 3) := by decide +kernel
theorem dX9_act_26 : decode cX9_act 26 = .ok (.iload_n 2, 1) := by decide +kernel
theorem dX9_act_27 : decode cX9_act 27 = .ok (.iconst 2, 1) := by decide +kernel
theorem dX9_act_28 : decode cX9_act 28 = .ok (.if_icmp .le 9, 3) := by decide +kernel
theorem dX9_act_31 : decode cX9_act 31 = .ok (.aload_n 0, 1) := by decide +kernel
theorem dX9_act_32 : decode cX9_act 32 = .ok (.iconst (-1), 1) := by decide +kernel
theorem dX9_act_33 : decode cX9_act 33 = .ok (.invokevirtual 77, 3) := by decide +kernel
theorem dX9_act_36 : decode cX9_act 36 = .ok (.ireturn, 1) := by decide +kernel
theorem dX9_act_37 : decode cX9_act 37 = .ok (.iload_n 2, 1) := by decide +kernel
theorem dX9_act_38 : decode cX9_act 38 = .ok (.ifCond .ne 13, 3) := by decide +kernel
theorem dX9_act_41 : decode cX9_act 41 = .ok (.aload_n 0, 1) := by decide +kernel
theorem dX9_act_42 : decode cX9_act 42 = .ok (.getfield 55, 3) := by decide +kernel
theorem dX9_act_45 : decode cX9_act 45 = .ok (.getfield 213, 3) := by decide +kernel
theorem dX9_act_48 : decode cX9_act 48 = .ok (.iload_n 1, 1) := by decide +kernel
theorem dX9_act_49 : decode cX9_act 49 = .ok (.iaload, 1) := by decide +kernel
theorem dX9_act_50 : decode cX9_act 50 = .ok (.ireturn, 1) := by decide +kernel
theorem dX9_act_51 : decode cX9_act 51 = .ok (.iload_n 2, 1) := by decide +kernel
theorem dX9_act_52 : decode cX9_act 52 = .ok (.iconst 1, 1) := by decide +kernel
theorem dX9_act_53 : decode cX9_act 53 = .ok (.if_icmp .ne 15, 3) := by decide +kernel
theorem dX9_act_56 : decode cX9_act 56 = .ok (.aload_n 0, 1) := by decide +kernel
theorem dX9_act_57 : decode cX9_act 57 = .ok (.getfield 55, 3) := by decide +kernel
theorem dX9_act_60 : decode cX9_act 60 = .ok (.getfield 216, 3) := by decide +kernel
theorem dX9_act_63 : decode cX9_act 63 = .ok (.iload_n 1, 1) := by decide +kernel
theorem dX9_act_64 : decode cX9_act 64 = .ok (.iaload, 1) := by decide +kernel
theorem dX9_act_65 : decode cX9_act 65 = .ok (.goto 12, 3) := by decide +kernel
theorem dX9_act_68 : decode cX9_act 68 = .ok (.aload_n 0, 1) := by decide +kernel
theorem dX9_act_69 : decode cX9_act 69 = .ok (.getfield 55, 3) := by decide +kernel
theorem dX9_act_72 : decode cX9_act 72 = .ok (.getfield 219, 3) := by decide +kernel
theorem dX9_act_75 : decode cX9_act 75 = .ok (.iload_n 1, 1) := by decide +kernel
theorem dX9_act_76 : decode cX9_act 76 = .ok (.iaload, 1) := by decide +kernel
theorem dX9_act_77 : decode cX9_act 77 = .ok (.ireturn, 1) := by decide +kernel
theorem dX9_like_0 : decode cX9_like 0 = .ok (.aload_n 0, 1) := by decide +kernel
theorem dX9_like_1 : decode cX9_like 1 = .ok (.getfield 55, 3) := by decide +kernel
theorem dX9_like_4 : decode cX9_like 4 = .ok (.getfield 222, 3) := by decide +kernel
theorem dX9_like_7 : decode cX9_like 7 = .ok (.ifCond .ne 10, 3) := by decide +kernel
theorem dX9_like_10 : decode cX9_like 10 = .ok (.aload_n 0, 1) := by decide +kernel
theorem dX9_like_11 : decode cX9_like 11 = .ok (.bipush (-6), 2) := by decide +kernel
theorem dX9_like_13 : decode cX9_like 13 = .ok (.invokevirtual 77, 3) := by decide +kernel
theorem dX9_like_16 : decode cX9_like 16 = .ok (.ireturn, 1) := by decide +kernel
theorem dX9_like_17 : decode cX9_like 17 = .ok (.sipush 200, 3) := by decide +kernel
theorem dX9_like_20 : decode cX9_like 20 = .ok (.aload_n 0, 1) := by decide +kernel
theorem dX9_like_21 : decode cX9_like 21 = .ok (.getfield 55, 3) := by decide +kernel
theorem dX9_like_24 : decode cX9_like 24 = .ok (.getfield 201, 3) := by decide +kernel
theorem dX9_like_27 : decode cX9_like 27 = .ok (.imul, 1) := by decide +kernel
theorem dX9_like_28 : decode cX9_like 28 = .ok (.aload_n 0, 1) := by decide +kernel
theorem dX9_like_29 : decode cX9_like 29 = .ok (.getfield 55, 3) := by decide +kernel
theorem dX9_like_32 : decode cX9_like 32 = .ok (.getfield 222, 3) := by decide +kernel
theorem dX9_like_35 : decode cX9_like 35 = .ok (.idiv, 1) := by decide +kernel
theorem dX9_like_36 : decode cX9_like 36 = .ok (.ireturn, 1) := by decide +kernel
theorem dX9_same_0 : decode cX9_same 0 = .ok (.aload_n 0, 1) := by decide +kernel
theorem dX9_same_1 : decode cX9_same 1 = .ok (.iload_n 1, 1) := by decide +kernel
theorem dX9_same_2 : decode cX9_same 2 = .ok (.iload_n 2, 1) := by decide +kernel
theorem dX9_same_3 : decode cX9_same 3 = .ok (.invokevirtual 187, 3) := by decide +kernel
theorem dX9_same_6 : decode cX9_same 6 = .ok (.istore_n 3, 1) := by decide +kernel
theorem dX9_same_7 : decode cX9_same 7 = .ok (.iload_n 3, 1) := by decide +kernel
theorem dX9_same_8 : decode cX9_same 8 = .ok (.ifCond .ge 9, 3) := by decide +kernel
theorem dX9_same_11 : decode cX9_same 11 = .ok (.aload_n 0, 1) := by decide +kernel
theorem dX9_same_12 : decode cX9_same 12 = .ok (.iload_n 3, 1) := by decide +kernel
theorem dX9_same_13 : decode cX9_same 13 = .ok (.invokevirtual 77, 3) := by decide +kernel
theorem dX9_same_16 : decode cX9_same 16 = .ok (.ireturn, 1) := by decide +kernel
theorem dX9_same_17 : decode cX9_same 17 = .ok (.aload_n 0, 1) := by decide +kernel
theorem dX9_same_18 : decode cX9_same 18 = .ok (.getfield 62, 3) := by decide +kernel
theorem dX9_same_21 : decode cX9_same 21 = .ok (.invokevirtual 225, 3) := by decide +kernel
theorem dX9_same_24 : decode cX9_same 24 = .ok (.aload_n 0, 1) := by decide +kernel
theorem dX9_same_25 : decode cX9_same 25 = .ok (.getfield 62, 3) := by decide +kernel
theorem dX9_same_28 : decode cX9_same 28 = .ok (.aload_n 0, 1) := by decide +kernel
theorem dX9_same_29 : decode cX9_same 29 = .ok (.getfield 11, 3) := by decide +kernel
theorem dX9_same_32 : decode cX9_same 32 = .ok (.iload_n 1, 1) := by decide +kernel
theorem dX9_same_33 : decode cX9_same 33 = .ok (.aaload, 1) := by decide +kernel
theorem dX9_same_34 : decode cX9_same 34 = .ok (.invokevirtual 228, 3) := by decide +kernel
theorem dX9_same_37 : decode cX9_same 37 = .ok (.aload_n 0, 1) := by decide +kernel
theorem dX9_same_38 : decode cX9_same 38 = .ok (.getfield 62, 3) := by decide +kernel
theorem dX9_same_41 : decode cX9_same 41 = .ok (.getfield 231, 3) := by decide +kernel
theorem dX9_same_44 : decode cX9_same 44 = .ok (.iconst 0, 1) := by decide +kernel
theorem dX9_same_45 : decode cX9_same 45 = .ok (.iaload, 1) := by decide +kernel
theorem dX9_same_46 : decode cX9_same 46 = .ok (.istore 4, 2) := by decide +kernel
theorem dX9_same_48 : decode cX9_same 48 = .ok (.aload_n 0, 1) := by decide +kernel
theorem dX9_same_49 : decode cX9_same 49 = .ok (.getfield 62, 3) := by decide +kernel
theorem dX9_same_52 : decode cX9_same 52 = .ok (.aload_n 0, 1) := by decide +kernel
theorem dX9_same_53 : decode cX9_same 53 = .ok (.getfield 11, 3) := by decide +kernel
theorem dX9_same_56 : decode cX9_same 56 = .ok (.iload_n 2, 1) := by decide +kernel
theorem dX9_same_57 : decode cX9_same 57 = .ok (.aaload, 1) := by decide +kernel
theorem dX9_same_58 : decode cX9_same 58 = .ok (.invokevirtual 228, 3) := by decide +kernel
theorem dX9_same_61 : decode cX9_same 61 = .ok (.aload_n 0, 1) := by decide +kernel
theorem dX9_same_62 : decode cX9_same 62 = .ok (.getfield 62, 3) := by decide +kernel
theorem dX9_same_65 : decode cX9_same 65 = .ok (.getfield 231, 3) := by decide +kernel
theorem dX9_same_68 : decode cX9_same 68 = .ok (.iconst 0, 1) := by decide +kernel
theorem dX9_same_69 : decode cX9_same 69 = .ok (.iaload, 1) := by decide +kernel
theorem dX9_same_70 : decode cX9_same 70 = .ok (.iload 4, 2) := by decide +kernel
theorem dX9_same_72 : decode cX9_same 72 = .ok (.if_icmp .ne 7, 3) := by decide +kernel
theorem dX9_same_75 : decode cX9_same 75 = .ok (.iconst 1, 1) := by decide +kernel
theorem dX9_same_76 : decode cX9_same 76 = .ok (.goto 4, 3) := by decide +kernel
theorem dX9_same_79 : decode cX9_same 79 = .ok (.iconst 0, 1) := by decide +kernel
theorem dX9_same_80 : decode cX9_same 80 = .ok (.ireturn, 1) := by decide +kernel
theorem dX9_unlike_0 : decode cX9_unlike 0 = .ok (.aload_n 0, 1) := by decide +kernel
theorem dX9_unlike_1 : decode cX9_unlike 1 = .ok (.iload_n 1, 1) := by decide +kernel
theorem dX9_unlike_2 : decode cX9_unlike 2 = .ok (.invokevirtual 116, 3) := by decide +kernel
theorem dX9_unlike_5 : decode cX9_unlike 5 = .ok (.istore_n 2, 1) := by decide +kernel
theorem dX9_unlike_6 : decode cX9_unlike 6 = .ok (.iload_n 2, 1) := by decide +kernel
theorem dX9_unlike_7 : decode cX9_unlike 7 = .ok (.ifCond .ge 9, 3) := by decide +kernel
theorem dX9_unlike_10 : decode cX9_unlike 10 = .ok (.aload_n 0, 1) := by decide +kernel
theorem dX9_unlike_11 : decode cX9_unlike 11 = .ok (.iload_n 2, 1) := by decide +kernel
theorem dX9_unlike_12 : decode cX9_unlike 12 = .ok (.invokevirtual 77, 3) := by decide +kernel
theorem dX9_unlike_15 : decode cX9_unlike 15 = .ok (.ireturn, 1) := by decide +kernel
theorem dX9_unlike_16 : decode cX9_unlike 16 = .ok (.aload_n 0, 1) := by decide +kernel
theorem dX9_unlike_17 : decode cX9_unlike 17 = .ok (.getfield 62, 3) := by decide +kernel
theorem dX9_unlike_20 : decode cX9_unlike 20 = .ok (.invokevirtual 225, 3) := by decide +kernel
theorem dX9_unlike_23 : decode cX9_unlike 23 = .ok (.aload_n 0, 1) := by decide +kernel
theorem dX9_unlike_24 : decode cX9_unlike 24 = .ok (.getfield 62, 3) := by decide +kernel
theorem dX9_unlike_27 : decode cX9_unlike 27 = .ok (.aload_n 0, 1) := by decide +kernel
theorem dX9_unlike_28 : decode cX9_unlike 28 = .ok (.getfield 11, 3) := by decide +kernel
theorem dX9_unlike_31 : decode cX9_unlike 31 = .ok (.iload_n 1, 1) := by decide +kernel
theorem dX9_unlike_32 : decode cX9_unlike 32 = .ok (.aaload, 1) := by decide +kernel
theorem dX9_unlike_33 : decode cX9_unlike 33 = .ok (.invokevirtual 228, 3) := by decide +kernel
theorem dX9_unlike_36 : decode cX9_unlike 36 = .ok (.aload_n 0, 1) := by decide +kernel
theorem dX9_unlike_37 : decode cX9_unlike 37 = .ok (.getfield 62, 3) := by decide +kernel
theorem dX9_unlike_40 : decode cX9_unlike 40 = .ok (.getfield 234, 3) := by decide +kernel
theorem dX9_unlike_43 : decode cX9_unlike 43 = .ok (.ireturn, 1) := by decide +kernel
theorem dX9_shared_0 : decode cX9_shared 0 = .ok (.aload_n 0, 1) := by decide +kernel
theorem dX9_shared_1 : decode cX9_shared 1 = .ok (.iload_n 1, 1) := by decide +kernel
theorem dX9_shared_2 : decode cX9_shared 2 = .ok (.iload_n 2, 1) := by decide +kernel
theorem dX9_shared_3 : decode cX9_shared 3 = .ok (.invokevirtual 187, 3) := by decide +kernel
theorem dX9_shared_6 : decode cX9_shared 6 = .ok (.istore_n 3, 1) := by decide +kernel
theorem dX9_shared_7 : decode cX9_shared 7 = .ok (.iload_n 3, 1) := by decide +kernel
theorem dX9_shared_8 : decode cX9_shared 8 = .ok (.ifCond .ge 9, 3) := by decide +kernel
theorem dX9_shared_11 : decode cX9_shared 11 = .ok (.aload_n 0, 1) := by decide +kernel
theorem dX9_shared_12 : decode cX9_shared 12 = .ok (.iload_n 3, 1) := by decide +kernel
theorem dX9_shared_13 : decode cX9_shared 13 = .ok (.invokevirtual 77, 3) := by decide +kernel
theorem dX9_shared_16 : decode cX9_shared 16 = .ok (.ireturn, 1) := by decide +kernel
theorem dX9_shared_17 : decode cX9_shared 17 = .ok (.aload_n 0, 1) := by decide +kernel
theorem dX9_shared_18 : decode cX9_shared 18 = .ok (.getfield 62, 3) := by decide +kernel
theorem dX9_shared_21 : decode cX9_shared 21 = .ok (.invokevirtual 225, 3) := by decide +kernel
theorem dX9_shared_24 : decode cX9_shared 24 = .ok (.aload_n 0, 1) := by decide +kernel
theorem dX9_shared_25 : decode cX9_shared 25 = .ok (.getfield 62, 3) := by decide +kernel
theorem dX9_shared_28 : decode cX9_shared 28 = .ok (.aload_n 0, 1) := by decide +kernel
theorem dX9_shared_29 : decode cX9_shared 29 = .ok (.getfield 11, 3) := by decide +kernel
theorem dX9_shared_32 : decode cX9_shared 32 = .ok (.iload_n 2, 1) := by decide +kernel
theorem dX9_shared_33 : decode cX9_shared 33 = .ok (.aaload, 1) := by decide +kernel
theorem dX9_shared_34 : decode cX9_shared 34 = .ok (.invokevirtual 228, 3) := by decide +kernel
theorem dX9_shared_37 : decode cX9_shared 37 = .ok (.aload_n 0, 1) := by decide +kernel
theorem dX9_shared_38 : decode cX9_shared 38 = .ok (.getfield 62, 3) := by decide +kernel
theorem dX9_shared_41 : decode cX9_shared 41 = .ok (.getfield 234, 3) := by decide +kernel
theorem dX9_shared_44 : decode cX9_shared 44 = .ok (.istore 4, 2) := by decide +kernel
theorem dX9_shared_46 : decode cX9_shared 46 = .ok (.aload_n 0, 1) := by decide +kernel
theorem dX9_shared_47 : decode cX9_shared 47 = .ok (.getfield 62, 3) := by decide +kernel
theorem dX9_shared_50 : decode cX9_shared 50 = .ok (.aload_n 0, 1) := by decide +kernel
theorem dX9_shared_51 : decode cX9_shared 51 = .ok (.getfield 11, 3) := by decide +kernel
theorem dX9_shared_54 : decode cX9_shared 54 = .ok (.iload_n 1, 1) := by decide +kernel
theorem dX9_shared_55 : decode cX9_shared 55 = .ok (.aaload, 1) := by decide +kernel
theorem dX9_shared_56 : decode cX9_shared 56 = .ok (.invokevirtual 228, 3) := by decide +kernel
theorem dX9_shared_59 : decode cX9_shared 59 = .ok (.iconst 0, 1) := by decide +kernel
theorem dX9_shared_60 : decode cX9_shared 60 = .ok (.istore 5, 2) := by decide +kernel
theorem dX9_shared_62 : decode cX9_shared 62 = .ok (.iconst 0, 1) := by decide +kernel
theorem dX9_shared_63 : decode cX9_shared 63 = .ok (.istore 6, 2) := by decide +kernel
theorem dX9_shared_65 : decode cX9_shared 65 = .ok (.iload 6, 2) := by decide +kernel
theorem dX9_shared_67 : decode cX9_shared 67 = .ok (.aload_n 0, 1) := by decide +kernel
theorem dX9_shared_68 : decode cX9_shared 68 = .ok (.getfield 11, 3) := by decide +kernel
theorem dX9_shared_71 : decode cX9_shared 71 = .ok (.iload_n 1, 1) := by decide +kernel
theorem dX9_shared_72 : decode cX9_shared 72 = .ok (.aaload, 1) := by decide +kernel
theorem dX9_shared_73 : decode cX9_shared 73 = .ok (.getfield 103, 3) := by decide +kernel
theorem dX9_shared_76 : decode cX9_shared 76 = .ok (.if_icmp .ge 27, 3) := by decide +kernel
theorem dX9_shared_79 : decode cX9_shared 79 = .ok (.aload_n 0, 1) := by decide +kernel
theorem dX9_shared_80 : decode cX9_shared 80 = .ok (.getfield 62, 3) := by decide +kernel
theorem dX9_shared_83 : decode cX9_shared 83 = .ok (.getfield 231, 3) := by decide +kernel
theorem dX9_shared_86 : decode cX9_shared 86 = .ok (.iload 6, 2) := by decide +kernel
theorem dX9_shared_88 : decode cX9_shared 88 = .ok (.iaload, 1) := by decide +kernel
theorem dX9_shared_89 : decode cX9_shared 89 = .ok (.iload 4, 2) := by decide +kernel
theorem dX9_shared_91 : decode cX9_shared 91 = .ok (.if_icmp .ge 6, 3) := by decide +kernel
theorem dX9_shared_94 : decode cX9_shared 94 = .ok (.iinc 5 1, 3) := by decide +kernel
theorem dX9_shared_97 : decode cX9_shared 97 = .ok (.iinc 6 1, 3) := by decide +kernel
theorem dX9_shared_100 : decode cX9_shared 100 = .ok (.goto (-35), 3) := by decide +kernel
theorem dX9_shared_103 : decode cX9_shared 103 = .ok (.iload 5, 2) := by decide +kernel
theorem dX9_shared_105 : decode cX9_shared 105 = .ok (.ireturn, 1) := by decide +kernel
theorem dX9_merge_0 : decode cX9_merge 0 = .ok (.aload_n 0, 1) := by decide +kernel
theorem dX9_merge_1 : decode cX9_merge 1 = .ok (.iload_n 1, 1) := by decide +kernel
theorem dX9_merge_2 : decode cX9_merge 2 = .ok (.iload_n 2, 1) := by decide +kernel
theorem dX9_merge_3 : decode cX9_merge 3 = .ok (.invokevirtual 187, 3) := by decide +kernel
theorem dX9_merge_6 : decode cX9_merge 6 = .ok (.istore 5, 2) := by decide +kernel
theorem dX9_merge_8 : decode cX9_merge 8 = .ok (.iload 5, 2) := by decide +kernel
theorem dX9_merge_10 : decode cX9_merge 10 = .ok (.ifCond .ne 10, 3) := by decide +kernel
theorem dX9_merge_13 : decode cX9_merge 13 = .ok (.aload_n 0, 1) := by decide +kernel
theorem dX9_merge_14 : decode cX9_merge 14 = .ok (.iload_n 3, 1) := by decide +kernel
theorem dX9_merge_15 : decode cX9_merge 15 = .ok (.invokevirtual 116, 3) := by decide +kernel
theorem dX9_merge_18 : decode cX9_merge 18 = .ok (.istore 5, 2) := by decide +kernel
theorem dX9_merge_20 : decode cX9_merge 20 = .ok (.iload 5, 2) := by decide +kernel
theorem dX9_merge_22 : decode cX9_merge 22 = .ok (.ifCond .ge 10, 3) := by decide +kernel
theorem dX9_merge_25 : decode cX9_merge 25 = .ok (.aload_n 0, 1) := by decide +kernel
theorem dX9_merge_26 : decode cX9_merge 26 = .ok (.iload 5, 2) := by decide +kernel
theorem dX9_merge_28 : decode cX9_merge 28 = .ok (.invokevirtual 77, 3) := by decide +kernel
theorem dX9_merge_31 : decode cX9_merge 31 = .ok (.ireturn, 1) := by decide +kernel
theorem dX9_merge_32 : decode cX9_merge 32 = .ok (.iload 4, 2) := by decide +kernel
theorem dX9_merge_34 : decode cX9_merge 34 = .ok (.invokestatic 95, 3) := by decide +kernel
theorem dX9_merge_37 : decode cX9_merge 37 = .ok (.ifCond .ne 9, 3) := by decide +kernel
theorem dX9_merge_40 : decode cX9_merge 40 = .ok (.aload_n 0, 1) := by decide +kernel
theorem dX9_merge_41 : decode cX9_merge 41 = .ok (.iconst (-1), 1) := by decide +kernel
theorem dX9_merge_42 : decode cX9_merge 42 = .ok (.invokevirtual 77, 3) := by decide +kernel
theorem dX9_merge_45 : decode cX9_merge 45 = .ok (.ireturn, 1) := by decide +kernel
theorem dX9_merge_46 : decode cX9_merge 46 = .ok (.aload_n 0, 1) := by decide +kernel
theorem dX9_merge_47 : decode cX9_merge 47 = .ok (.getfield 69, 3) := by decide +kernel
theorem dX9_merge_50 : decode cX9_merge 50 = .ok (.aload_n 0, 1) := by decide +kernel
theorem dX9_merge_51 : decode cX9_merge 51 = .ok (.getfield 11, 3) := by decide +kernel
theorem dX9_merge_54 : decode cX9_merge 54 = .ok (.iload_n 1, 1) := by decide +kernel
theorem dX9_merge_55 : decode cX9_merge 55 = .ok (.aaload, 1) := by decide +kernel
theorem dX9_merge_56 : decode cX9_merge 56 = .ok (.aload_n 0, 1) := by decide +kernel
theorem dX9_merge_57 : decode cX9_merge 57 = .ok (.getfield 11, 3) := by decide +kernel
theorem dX9_merge_60 : decode cX9_merge 60 = .ok (.iload_n 2, 1) := by decide +kernel
theorem dX9_merge_61 : decode cX9_merge 61 = .ok (.aaload, 1) := by decide +kernel
theorem dX9_merge_62 : decode cX9_merge 62 = .ok (.aload_n 0, 1) := by decide +kernel
theorem dX9_merge_63 : decode cX9_merge 63 = .ok (.getfield 11, 3) := by decide +kernel
theorem dX9_merge_66 : decode cX9_merge 66 = .ok (.iload_n 3, 1) := by decide +kernel
theorem dX9_merge_67 : decode cX9_merge 67 = .ok (.aaload, 1) := by decide +kernel
theorem dX9_merge_68 : decode cX9_merge 68 = .ok (.invokevirtual 237, 3) := by decide +kernel
theorem dX9_merge_71 : decode cX9_merge 71 = .ok (.aload_n 0, 1) := by decide +kernel
theorem dX9_merge_72 : decode cX9_merge 72 = .ok (.getfield 69, 3) := by decide +kernel
theorem dX9_merge_75 : decode cX9_merge 75 = .ok (.getfield 241, 3) := by decide +kernel
theorem dX9_merge_78 : decode cX9_merge 78 = .ok (.getfield 103, 3) := by decide +kernel
theorem dX9_merge_81 : decode cX9_merge 81 = .ok (.ifCond .le 20, 3) := by decide +kernel
theorem dX9_merge_84 : decode cX9_merge 84 = .ok (.aload_n 0, 1) := by decide +kernel
theorem dX9_merge_85 : decode cX9_merge 85 = .ok (.getfield 11, 3) := by decide +kernel
theorem dX9_merge_88 : decode cX9_merge 88 = .ok (.iload 4, 2) := by decide +kernel
theorem dX9_merge_90 : decode cX9_merge 90 = .ok (.aaload, 1) := by decide +kernel
theorem dX9_merge_91 : decode cX9_merge 91 = .ok (.aload_n 0, 1) := by decide +kernel
theorem dX9_merge_92 : decode cX9_merge 92 = .ok (.getfield 69, 3) := by decide +kernel
theorem dX9_merge_95 : decode cX9_merge 95 = .ok (.getfield 241, 3) := by decide +kernel
theorem dX9_merge_98 : decode cX9_merge 98 = .ok (.invokevirtual 112, 3) := by decide +kernel
theorem dX9_merge_101 : decode cX9_merge 101 = .ok (.aload_n 0, 1) := by decide +kernel
theorem dX9_merge_102 : decode cX9_merge 102 = .ok (.getfield 69, 3) := by decide +kernel
theorem dX9_merge_105 : decode cX9_merge 105 = .ok (.getfield 244, 3) := by decide +kernel
theorem dX9_merge_108 : decode cX9_merge 108 = .ok (.ireturn, 1) := by decide +kernel
theorem dX9_merged_0 : decode cX9_merged 0 = .ok (.aload_n 0, 1) := by decide +kernel
theorem dX9_merged_1 : decode cX9_merged 1 = .ok (.getfield 69, 3) := by decide +kernel
theorem dX9_merged_4 : decode cX9_merged 4 = .ok (.getfield 241, 3) := by decide +kernel
theorem dX9_merged_7 : decode cX9_merged 7 = .ok (.getfield 103, 3) := by decide +kernel
theorem dX9_merged_10 : decode cX9_merged 10 = .ok (.ireturn, 1) := by decide +kernel
theorem dX9_clash_0 : decode cX9_clash 0 = .ok (.iload_n 1, 1) := by decide +kernel
theorem dX9_clash_1 : decode cX9_clash 1 = .ok (.ifCond .lt 14, 3) := by decide +kernel
theorem dX9_clash_4 : decode cX9_clash 4 = .ok (.iload_n 1, 1) := by decide +kernel
theorem dX9_clash_5 : decode cX9_clash 5 = .ok (.aload_n 0, 1) := by decide +kernel
theorem dX9_clash_6 : decode cX9_clash 6 = .ok (.getfield 69, 3) := by decide +kernel
theorem dX9_clash_9 : decode cX9_clash 9 = .ok (.getfield 244, 3) := by decide +kernel
theorem dX9_clash_12 : decode cX9_clash 12 = .ok (.if_icmp .lt 10, 3) := by decide +kernel
theorem dX9_clash_15 : decode cX9_clash 15 = .ok (.aload_n 0, 1) := by decide +kernel
theorem dX9_clash_16 : decode cX9_clash 16 = .ok (.bipush (-6), 2) := by decide +kernel
theorem dX9_clash_18 : decode cX9_clash 18 = .ok (.invokevirtual 77, 3) := by decide +kernel
theorem dX9_clash_21 : decode cX9_clash 21 = .ok (.ireturn, 1) := by decide +kernel
theorem dX9_clash_22 : decode cX9_clash 22 = .ok (.iload_n 2, 1) := by decide +kernel
theorem dX9_clash_23 : decode cX9_clash 23 = .ok (.ifCond .lt 8, 3) := by decide +kernel
theorem dX9_clash_26 : decode cX9_clash 26 = .ok (.iload_n 2, 1) := by decide +kernel
theorem dX9_clash_27 : decode cX9_clash 27 = .ok (.iconst 1, 1) := by decide +kernel
theorem dX9_clash_28 : decode cX9_clash 28 = .ok (.if_icmp .le 9, 3) := by decide +kernel
theorem dX9_clash_31 : decode cX9_clash 31 = .ok (.aload_n 0, 1) := by decide +kernel
theorem dX9_clash_32 : decode cX9_clash 32 = .ok (.iconst (-1), 1) := by decide +kernel
theorem dX9_clash_33 : decode cX9_clash 33 = .ok (.invokevirtual 77, 3) := by decide +kernel
theorem dX9_clash_36 : decode cX9_clash 36 = .ok (.ireturn, 1) := by decide +kernel
theorem dX9_clash_37 : decode cX9_clash 37 = .ok (.iload_n 2, 1) := by decide +kernel
theorem dX9_clash_38 : decode cX9_clash 38 = .ok (.ifCond .ne 15, 3) := by decide +kernel
theorem dX9_clash_41 : decode cX9_clash 41 = .ok (.aload_n 0, 1) := by decide +kernel
theorem dX9_clash_42 : decode cX9_clash 42 = .ok (.getfield 69, 3) := by decide +kernel
theorem dX9_clash_45 : decode cX9_clash 45 = .ok (.getfield 247, 3) := by decide +kernel
theorem dX9_clash_48 : decode cX9_clash 48 = .ok (.iload_n 1, 1) := by decide +kernel
theorem dX9_clash_49 : decode cX9_clash 49 = .ok (.iaload, 1) := by decide +kernel
theorem dX9_clash_50 : decode cX9_clash 50 = .ok (.goto 12, 3) := by decide +kernel
theorem dX9_clash_53 : decode cX9_clash 53 = .ok (.aload_n 0, 1) := by decide +kernel
theorem dX9_clash_54 : decode cX9_clash 54 = .ok (.getfield 69, 3) := by decide +kernel
theorem dX9_clash_57 : decode cX9_clash 57 = .ok (.getfield 250, 3) := by decide +kernel
theorem dX9_clash_60 : decode cX9_clash 60 = .ok (.iload_n 1, 1) := by decide +kernel
theorem dX9_clash_61 : decode cX9_clash 61 = .ok (.iaload, 1) := by decide +kernel
theorem dX9_clash_62 : decode cX9_clash 62 = .ok (.ireturn, 1) := by decide +kernel
theorem dX9_found_0 : decode cX9_found 0 = .ok (.iload_n 1, 1) := by decide +kernel
theorem dX9_found_1 : decode cX9_found 1 = .ok (.iconst (-1), 1) := by decide +kernel
theorem dX9_found_2 : decode cX9_found 2 = .ok (.if_icmp .gt 9, 3) := by decide +kernel
theorem dX9_found_5 : decode cX9_found 5 = .ok (.iload_n 1, 1) := by decide +kernel
theorem dX9_found_6 : decode cX9_found 6 = .ok (.bipush (-7), 2) := by decide +kernel
theorem dX9_found_8 : decode cX9_found 8 = .ok (.if_icmp .ge 9, 3) := by decide +kernel
theorem dX9_found_11 : decode cX9_found 11 = .ok (.iload_n 1, 1) := by decide +kernel
theorem dX9_found_12 : decode cX9_found 12 = .ok (.bipush (-9), 2) := by decide +kernel
theorem dX9_found_14 : decode cX9_found 14 = .ok (.if_icmp .ne 7, 3) := by decide +kernel
theorem dX9_found_17 : decode cX9_found 17 = .ok (.iconst 1, 1) := by decide +kernel
theorem dX9_found_18 : decode cX9_found 18 = .ok (.goto 4, 3) := by decide +kernel
theorem dX9_found_21 : decode cX9_found 21 = .ok (.iconst 0, 1) := by decide +kernel
theorem dX9_found_22 : decode cX9_found 22 = .ok (.istore_n 2, 1) := by decide +kernel
theorem dX9_found_23 : decode cX9_found 23 = .ok (.iload_n 2, 1) := by decide +kernel
theorem dX9_found_24 : decode cX9_found 24 = .ok (.ifCond .eq 13, 3) := by decide +kernel
theorem dX9_found_27 : decode cX9_found 27 = .ok (.aload_n 0, 1) := by decide +kernel
theorem dX9_found_28 : decode cX9_found 28 = .ok (.getfield 73, 3) := by decide +kernel
theorem dX9_found_31 : decode cX9_found 31 = .ok (.iload_n 1, 1) := by decide +kernel
theorem dX9_found_32 : decode cX9_found 32 = .ok (.ineg, 1) := by decide +kernel
theorem dX9_found_33 : decode cX9_found 33 = .ok (.iaload, 1) := by decide +kernel
theorem dX9_found_34 : decode cX9_found 34 = .ok (.goto 8, 3) := by decide +kernel
theorem dX9_found_37 : decode cX9_found 37 = .ok (.aload_n 0, 1) := by decide +kernel
theorem dX9_found_38 : decode cX9_found 38 = .ok (.iconst (-1), 1) := by decide +kernel
theorem dX9_found_39 : decode cX9_found 39 = .ok (.invokevirtual 77, 3) := by decide +kernel
theorem dX9_found_42 : decode cX9_found 42 = .ok (.ireturn, 1) := by decide +kernel
theorem dX9_tell_0 : decode cX9_tell 0 = .ok (.aload_n 0, 1) := by decide +kernel
theorem dX9_tell_1 : decode cX9_tell 1 = .ok (.getfield 73, 3) := by decide +kernel
theorem dX9_tell_4 : decode cX9_tell 4 = .ok (.iload_n 1, 1) := by decide +kernel
theorem dX9_tell_5 : decode cX9_tell 5 = .ok (.ineg, 1) := by decide +kernel
theorem dX9_tell_6 : decode cX9_tell 6 = .ok (.dup2, 1) := by decide +kernel
theorem dX9_tell_7 : decode cX9_tell 7 = .ok (.iaload, 1) := by decide +kernel
theorem dX9_tell_8 : decode cX9_tell 8 = .ok (.iconst 1, 1) := by decide +kernel
theorem dX9_tell_9 : decode cX9_tell 9 = .ok (.iadd, 1) := by decide +kernel
theorem dX9_tell_10 : decode cX9_tell 10 = .ok (.iastore, 1) := by decide +kernel
theorem dX9_tell_11 : decode cX9_tell 11 = .ok (.iload_n 1, 1) := by decide +kernel
theorem dX9_tell_12 : decode cX9_tell 12 = .ok (.ireturn, 1) := by decide +kernel
theorem dX9_isPlace_0 : decode cX9_isPlace 0 = .ok (.iload_n 0, 1) := by decide +kernel
theorem dX9_isPlace_1 : decode cX9_isPlace 1 = .ok (.ifCond .lt 13, 3) := by decide +kernel
theorem dX9_isPlace_4 : decode cX9_isPlace 4 = .ok (.iload_n 0, 1) := by decide +kernel
theorem dX9_isPlace_5 : decode cX9_isPlace 5 = .ok (.bipush 8, 2) := by decide +kernel
theorem dX9_isPlace_7 : decode cX9_isPlace 7 = .ok (.if_icmp .ge 7, 3) := by decide +kernel
theorem dX9_isPlace_10 : decode cX9_isPlace 10 = .ok (.iconst 1, 1) := by decide +kernel
theorem dX9_isPlace_11 : decode cX9_isPlace 11 = .ok (.goto 4, 3) := by decide +kernel
theorem dX9_isPlace_14 : decode cX9_isPlace 14 = .ok (.iconst 0, 1) := by decide +kernel
theorem dX9_isPlace_15 : decode cX9_isPlace 15 = .ok (.ireturn, 1) := by decide +kernel
theorem dX9_lackOfTree_0 : decode cX9_lackOfTree 0 = .ok (.iload_n 1, 1) := by decide +kernel
theorem dX9_lackOfTree_1 : decode cX9_lackOfTree 1 = .ok (.invokestatic 95, 3) := by decide +kernel
theorem dX9_lackOfTree_4 : decode cX9_lackOfTree 4 = .ok (.ifCond .ne 5, 3) := by decide +kernel
theorem dX9_lackOfTree_7 : decode cX9_lackOfTree 7 = .ok (.iconst (-1), 1) := by decide +kernel
theorem dX9_lackOfTree_8 : decode cX9_lackOfTree 8 = .ok (.ireturn, 1) := by decide +kernel
theorem dX9_lackOfTree_9 : decode cX9_lackOfTree 9 = .ok (.aload_n 0, 1) := by decide +kernel
theorem dX9_lackOfTree_10 : decode cX9_lackOfTree 10 = .ok (.getfield 11, 3) := by decide +kernel
theorem dX9_lackOfTree_13 : decode cX9_lackOfTree 13 = .ok (.iload_n 1, 1) := by decide +kernel
theorem dX9_lackOfTree_14 : decode cX9_lackOfTree 14 = .ok (.aaload, 1) := by decide +kernel
theorem dX9_lackOfTree_15 : decode cX9_lackOfTree 15 = .ok (.getfield 103, 3) := by decide +kernel
theorem dX9_lackOfTree_18 : decode cX9_lackOfTree 18 = .ok (.ifCond .ne 8, 3) := by decide +kernel
theorem dX9_lackOfTree_21 : decode cX9_lackOfTree 21 = .ok (.bipush (-2), 2) := by decide +kernel
theorem dX9_lackOfTree_23 : decode cX9_lackOfTree 23 = .ok (.goto 4, 3) := by decide +kernel
theorem dX9_lackOfTree_26 : decode cX9_lackOfTree 26 = .ok (.iconst 0, 1) := by decide +kernel
theorem dX9_lackOfTree_27 : decode cX9_lackOfTree 27 = .ok (.ireturn, 1) := by decide +kernel
theorem dX9_lackOfTrees_0 : decode cX9_lackOfTrees 0 = .ok (.aload_n 0, 1) := by decide +kernel
theorem dX9_lackOfTrees_1 : decode cX9_lackOfTrees 1 = .ok (.iload_n 1, 1) := by decide +kernel
theorem dX9_lackOfTrees_2 : decode cX9_lackOfTrees 2 = .ok (.invokevirtual 116, 3) := by decide +kernel
theorem dX9_lackOfTrees_5 : decode cX9_lackOfTrees 5 = .ok (.istore_n 3, 1) := by decide +kernel
theorem dX9_lackOfTrees_6 : decode cX9_lackOfTrees 6 = .ok (.iload_n 3, 1) := by decide +kernel
theorem dX9_lackOfTrees_7 : decode cX9_lackOfTrees 7 = .ok (.ifCond .ge 7, 3) := by decide +kernel
theorem dX9_lackOfTrees_10 : decode cX9_lackOfTrees 10 = .ok (.iload_n 3, 1) := by decide +kernel
theorem dX9_lackOfTrees_11 : decode cX9_lackOfTrees 11 = .ok (.goto 8, 3) := by decide +kernel
theorem dX9_lackOfTrees_14 : decode cX9_lackOfTrees 14 = .ok (.aload_n 0, 1) := by decide +kernel
theorem dX9_lackOfTrees_15 : decode cX9_lackOfTrees 15 = .ok (.iload_n 2, 1) := by decide +kernel
theorem dX9_lackOfTrees_16 : decode cX9_lackOfTrees 16 = .ok (.invokevirtual 116, 3) := by decide +kernel
theorem dX9_lackOfTrees_19 : decode cX9_lackOfTrees 19 = .ok (.ireturn, 1) := by decide +kernel
theorem dX9_seekNode_0 : decode cX9_seekNode 0 = .ok (.aload_n 0, 1) := by decide +kernel
theorem dX9_seekNode_1 : decode cX9_seekNode 1 = .ok (.iload_n 1, 1) := by decide +kernel
theorem dX9_seekNode_2 : decode cX9_seekNode 2 = .ok (.invokevirtual 116, 3) := by decide +kernel
theorem dX9_seekNode_5 : decode cX9_seekNode 5 = .ok (.istore_n 3, 1) := by decide +kernel
theorem dX9_seekNode_6 : decode cX9_seekNode 6 = .ok (.iload_n 3, 1) := by decide +kernel
theorem dX9_seekNode_7 : decode cX9_seekNode 7 = .ok (.ifCond .ge 5, 3) := by decide +kernel
theorem dX9_seekNode_10 : decode cX9_seekNode 10 = .ok (.iload_n 3, 1) := by decide +kernel
theorem dX9_seekNode_11 : decode cX9_seekNode 11 = .ok (.ireturn, 1) := by decide +kernel
theorem dX9_seekNode_12 : decode cX9_seekNode 12 = .ok (.aload_n 0, 1) := by decide +kernel
theorem dX9_seekNode_13 : decode cX9_seekNode 13 = .ok (.getfield 11, 3) := by decide +kernel
theorem dX9_seekNode_16 : decode cX9_seekNode 16 = .ok (.iload_n 1, 1) := by decide +kernel
theorem dX9_seekNode_17 : decode cX9_seekNode 17 = .ok (.aaload, 1) := by decide +kernel
theorem dX9_seekNode_18 : decode cX9_seekNode 18 = .ok (.iload_n 2, 1) := by decide +kernel
theorem dX9_seekNode_19 : decode cX9_seekNode 19 = .ok (.invokevirtual 253, 3) := by decide +kernel
theorem dX9_seekNode_22 : decode cX9_seekNode 22 = .ok (.istore 4, 2) := by decide +kernel
theorem dX9_seekNode_24 : decode cX9_seekNode 24 = .ok (.iload 4, 2) := by decide +kernel
theorem dX9_seekNode_26 : decode cX9_seekNode 26 = .ok (.iconst (-1), 1) := by decide +kernel
theorem dX9_seekNode_27 : decode cX9_seekNode 27 = .ok (.if_icmp .ne 8, 3) := by decide +kernel
theorem dX9_seekNode_30 : decode cX9_seekNode 30 = .ok (.bipush (-6), 2) := by decide +kernel
theorem dX9_seekNode_32 : decode cX9_seekNode 32 = .ok (.goto 5, 3) := by decide +kernel
theorem dX9_seekNode_35 : decode cX9_seekNode 35 = .ok (.iload 4, 2) := by decide +kernel
theorem dX9_seekNode_37 : decode cX9_seekNode 37 = .ok (.ireturn, 1) := by decide +kernel
theorem dX9_seekParent_0 : decode cX9_seekParent 0 = .ok (.iload_n 1, 1) := by decide +kernel
theorem dX9_seekParent_1 : decode cX9_seekParent 1 = .ok (.ifCond .ne 6, 3) := by decide +kernel
theorem dX9_seekParent_4 : decode cX9_seekParent 4 = .ok (.bipush (-7), 2) := by decide +kernel
theorem dX9_seekParent_6 : decode cX9_seekParent 6 = .ok (.ireturn, 1) := by decide +kernel
theorem dX9_seekParent_7 : decode cX9_seekParent 7 = .ok (.aload_n 0, 1) := by decide +kernel
theorem dX9_seekParent_8 : decode cX9_seekParent 8 = .ok (.iload_n 2, 1) := by decide +kernel
theorem dX9_seekParent_9 : decode cX9_seekParent 9 = .ok (.invokevirtual 253, 3) := by decide +kernel
theorem dX9_seekParent_12 : decode cX9_seekParent 12 = .ok (.istore_n 3, 1) := by decide +kernel
theorem dX9_seekParent_13 : decode cX9_seekParent 13 = .ok (.iload_n 3, 1) := by decide +kernel
theorem dX9_seekParent_14 : decode cX9_seekParent 14 = .ok (.iconst (-1), 1) := by decide +kernel
theorem dX9_seekParent_15 : decode cX9_seekParent 15 = .ok (.if_icmp .ne 6, 3) := by decide +kernel
theorem dX9_seekParent_18 : decode cX9_seekParent 18 = .ok (.bipush (-6), 2) := by decide +kernel
theorem dX9_seekParent_20 : decode cX9_seekParent 20 = .ok (.ireturn, 1) := by decide +kernel
theorem dX9_seekParent_21 : decode cX9_seekParent 21 = .ok (.aload_n 0, 1) := by decide +kernel
theorem dX9_seekParent_22 : decode cX9_seekParent 22 = .ok (.getfield 157, 3) := by decide +kernel
theorem dX9_seekParent_25 : decode cX9_seekParent 25 = .ok (.iload_n 3, 1) := by decide +kernel
theorem dX9_seekParent_26 : decode cX9_seekParent 26 = .ok (.iaload, 1) := by decide +kernel
theorem dX9_seekParent_27 : decode cX9_seekParent 27 = .ok (.iconst 3, 1) := by decide +kernel
theorem dX9_seekParent_28 : decode cX9_seekParent 28 = .ok (.if_icmp .ne 6, 3) := by decide +kernel
theorem dX9_seekParent_31 : decode cX9_seekParent 31 = .ok (.bipush (-3), 2) := by decide +kernel
theorem dX9_seekParent_33 : decode cX9_seekParent 33 = .ok (.ireturn, 1) := by decide +kernel
theorem dX9_seekParent_34 : decode cX9_seekParent 34 = .ok (.iload_n 3, 1) := by decide +kernel
theorem dX9_seekParent_35 : decode cX9_seekParent 35 = .ok (.iload_n 1, 1) := by decide +kernel
theorem dX9_seekParent_36 : decode cX9_seekParent 36 = .ok (.if_icmp .lt 17, 3) := by decide +kernel
theorem dX9_seekParent_39 : decode cX9_seekParent 39 = .ok (.iload_n 3, 1) := by decide +kernel
theorem dX9_seekParent_40 : decode cX9_seekParent 40 = .ok (.aload_n 0, 1) := by decide +kernel
theorem dX9_seekParent_41 : decode cX9_seekParent 41 = .ok (.iload_n 1, 1) := by decide +kernel
theorem dX9_seekParent_42 : decode cX9_seekParent 42 = .ok (.invokevirtual 256, 3) := by decide +kernel
theorem dX9_seekParent_45 : decode cX9_seekParent 45 = .ok (.if_icmp .ge 8, 3) := by decide +kernel
theorem dX9_seekParent_48 : decode cX9_seekParent 48 = .ok (.bipush (-7), 2) := by decide +kernel
theorem dX9_seekParent_50 : decode cX9_seekParent 50 = .ok (.goto 4, 3) := by decide +kernel
theorem dX9_seekParent_53 : decode cX9_seekParent 53 = .ok (.iload_n 3, 1) := by decide +kernel
theorem dX9_seekParent_54 : decode cX9_seekParent 54 = .ok (.ireturn, 1) := by decide +kernel
theorem dX9_tryOut_0 : decode cX9_tryOut 0 = .ok (.aload_n 0, 1) := by decide +kernel
theorem dX9_tryOut_1 : decode cX9_tryOut 1 = .ok (.getfield 31, 3) := by decide +kernel
theorem dX9_tryOut_4 : decode cX9_tryOut 4 = .ok (.invokevirtual 259, 3) := by decide +kernel
theorem dX9_tryOut_7 : decode cX9_tryOut 7 = .ok (.ifCond .eq 10, 3) := by decide +kernel
theorem dX9_tryOut_10 : decode cX9_tryOut 10 = .ok (.aload_n 0, 1) := by decide +kernel
theorem dX9_tryOut_11 : decode cX9_tryOut 11 = .ok (.bipush (-5), 2) := by decide +kernel
theorem dX9_tryOut_13 : decode cX9_tryOut 13 = .ok (.invokevirtual 77, 3) := by decide +kernel
theorem dX9_tryOut_16 : decode cX9_tryOut 16 = .ok (.ireturn, 1) := by decide +kernel
theorem dX9_tryOut_17 : decode cX9_tryOut 17 = .ok (.aload_n 0, 1) := by decide +kernel
theorem dX9_tryOut_18 : decode cX9_tryOut 18 = .ok (.getfield 31, 3) := by decide +kernel
theorem dX9_tryOut_21 : decode cX9_tryOut 21 = .ok (.invokevirtual 263, 3) := by decide +kernel
theorem dX9_tryOut_24 : decode cX9_tryOut 24 = .ok (.ifCond .eq 10, 3) := by decide +kernel
theorem dX9_tryOut_27 : decode cX9_tryOut 27 = .ok (.aload_n 0, 1) := by decide +kernel
theorem dX9_tryOut_28 : decode cX9_tryOut 28 = .ok (.bipush (-4), 2) := by decide +kernel
theorem dX9_tryOut_30 : decode cX9_tryOut 30 = .ok (.invokevirtual 77, 3) := by decide +kernel
theorem dX9_tryOut_33 : decode cX9_tryOut 33 = .ok (.ireturn, 1) := by decide +kernel
theorem dX9_tryOut_34 : decode cX9_tryOut 34 = .ok (.aload_n 0, 1) := by decide +kernel
theorem dX9_tryOut_35 : decode cX9_tryOut 35 = .ok (.getfield 11, 3) := by decide +kernel
theorem dX9_tryOut_38 : decode cX9_tryOut 38 = .ok (.iload_n 1, 1) := by decide +kernel
theorem dX9_tryOut_39 : decode cX9_tryOut 39 = .ok (.aaload, 1) := by decide +kernel
theorem dX9_tryOut_40 : decode cX9_tryOut 40 = .ok (.aload_n 0, 1) := by decide +kernel
theorem dX9_tryOut_41 : decode cX9_tryOut 41 = .ok (.getfield 31, 3) := by decide +kernel
theorem dX9_tryOut_44 : decode cX9_tryOut 44 = .ok (.invokevirtual 112, 3) := by decide +kernel
theorem dX9_tryOut_47 : decode cX9_tryOut 47 = .ok (.iload_n 2, 1) := by decide +kernel
theorem dX9_tryOut_48 : decode cX9_tryOut 48 = .ok (.ireturn, 1) := by decide +kernel
theorem dX9_detail_0 : decode cX9_detail 0 = .ok (.iload_n 2, 1) := by decide +kernel
theorem dX9_detail_1 : decode cX9_detail 1 = .ok (.tableswitch 120 0 7 #[47, 54, 61, 67, 74, 97, 104, 110], 47) := by decide +kernel
theorem dX9_detail_48 : decode cX9_detail 48 = .ok (.aload_n 0, 1) := by decide +kernel
theorem dX9_detail_49 : decode cX9_detail 49 = .ok (.getfield 106, 3) := by decide +kernel
theorem dX9_detail_52 : decode cX9_detail 52 = .ok (.iload_n 1, 1) := by decide +kernel
theorem dX9_detail_53 : decode cX9_detail 53 = .ok (.iaload, 1) := by decide +kernel
theorem dX9_detail_54 : decode cX9_detail 54 = .ok (.ireturn, 1) := by decide +kernel
theorem dX9_detail_55 : decode cX9_detail 55 = .ok (.aload_n 0, 1) := by decide +kernel
theorem dX9_detail_56 : decode cX9_detail 56 = .ok (.getfield 157, 3) := by decide +kernel
theorem dX9_detail_59 : decode cX9_detail 59 = .ok (.iload_n 1, 1) := by decide +kernel
theorem dX9_detail_60 : decode cX9_detail 60 = .ok (.iaload, 1) := by decide +kernel
theorem dX9_detail_61 : decode cX9_detail 61 = .ok (.ireturn, 1) := by decide +kernel
theorem dX9_detail_62 : decode cX9_detail 62 = .ok (.aload_n 0, 1) := by decide +kernel
theorem dX9_detail_63 : decode cX9_detail 63 = .ok (.iload_n 1, 1) := by decide +kernel
theorem dX9_detail_64 : decode cX9_detail 64 = .ok (.invokevirtual 160, 3) := by decide +kernel
theorem dX9_detail_67 : decode cX9_detail 67 = .ok (.ireturn, 1) := by decide +kernel
theorem dX9_detail_68 : decode cX9_detail 68 = .ok (.aload_n 0, 1) := by decide +kernel
theorem dX9_detail_69 : decode cX9_detail 69 = .ok (.getfield 266, 3) := by decide +kernel
theorem dX9_detail_72 : decode cX9_detail 72 = .ok (.iload_n 1, 1) := by decide +kernel
theorem dX9_detail_73 : decode cX9_detail 73 = .ok (.iaload, 1) := by decide +kernel
theorem dX9_detail_74 : decode cX9_detail 74 = .ok (.ireturn, 1) := by decide +kernel
theorem dX9_detail_75 : decode cX9_detail 75 = .ok (.aload_n 0, 1) := by decide +kernel
theorem dX9_detail_76 : decode cX9_detail 76 = .ok (.iload_n 1, 1) := by decide +kernel
theorem dX9_detail_77 : decode cX9_detail 77 = .ok (.invokevirtual 269, 3) := by decide +kernel
theorem dX9_detail_80 : decode cX9_detail 80 = .ok (.istore_n 3, 1) := by decide +kernel
theorem dX9_detail_81 : decode cX9_detail 81 = .ok (.iload_n 3, 1) := by decide +kernel
theorem dX9_detail_82 : decode cX9_detail 82 = .ok (.iconst (-1), 1) := by decide +kernel
theorem dX9_detail_83 : decode cX9_detail 83 = .ok (.if_icmp .ne 8, 3) := by decide +kernel
theorem dX9_detail_86 : decode cX9_detail 86 = .ok (.bipush (-8), 2) := by decide +kernel
theorem dX9_detail_88 : decode cX9_detail 88 = .ok (.goto 9, 3) := by decide +kernel
theorem dX9_detail_91 : decode cX9_detail 91 = .ok (.aload_n 0, 1) := by decide +kernel
theorem dX9_detail_92 : decode cX9_detail 92 = .ok (.getfield 106, 3) := by decide +kernel
theorem dX9_detail_95 : decode cX9_detail 95 = .ok (.iload_n 3, 1) := by decide +kernel
theorem dX9_detail_96 : decode cX9_detail 96 = .ok (.iaload, 1) := by decide +kernel
theorem dX9_detail_97 : decode cX9_detail 97 = .ok (.ireturn, 1) := by decide +kernel
theorem dX9_detail_98 : decode cX9_detail 98 = .ok (.aload_n 0, 1) := by decide +kernel
theorem dX9_detail_99 : decode cX9_detail 99 = .ok (.getfield 180, 3) := by decide +kernel
theorem dX9_detail_102 : decode cX9_detail 102 = .ok (.iload_n 1, 1) := by decide +kernel
theorem dX9_detail_103 : decode cX9_detail 103 = .ok (.iaload, 1) := by decide +kernel
theorem dX9_detail_104 : decode cX9_detail 104 = .ok (.ireturn, 1) := by decide +kernel
theorem dX9_detail_105 : decode cX9_detail 105 = .ok (.aload_n 0, 1) := by decide +kernel
theorem dX9_detail_106 : decode cX9_detail 106 = .ok (.iload_n 1, 1) := by decide +kernel
theorem dX9_detail_107 : decode cX9_detail 107 = .ok (.invokevirtual 272, 3) := by decide +kernel
theorem dX9_detail_110 : decode cX9_detail 110 = .ok (.ireturn, 1) := by decide +kernel
theorem dX9_detail_111 : decode cX9_detail 111 = .ok (.aload_n 0, 1) := by decide +kernel
theorem dX9_detail_112 : decode cX9_detail 112 = .ok (.getfield 140, 3) := by decide +kernel
theorem dX9_detail_115 : decode cX9_detail 115 = .ok (.iload_n 1, 1) := by decide +kernel
theorem dX9_detail_116 : decode cX9_detail 116 = .ok (.laload, 1) := by decide +kernel
theorem dX9_detail_117 : decode cX9_detail 117 = .ok (.invokestatic 144, 3) := by decide +kernel
theorem dX9_detail_120 : decode cX9_detail 120 = .ok (.ireturn, 1) := by decide +kernel
theorem dX9_detail_121 : decode cX9_detail 121 = .ok (.aload_n 0, 1) := by decide +kernel
theorem dX9_detail_122 : decode cX9_detail 122 = .ok (.getfield 154, 3) := by decide +kernel
theorem dX9_detail_125 : decode cX9_detail 125 = .ok (.iload_n 1, 1) := by decide +kernel
theorem dX9_detail_126 : decode cX9_detail 126 = .ok (.laload, 1) := by decide +kernel
theorem dX9_detail_127 : decode cX9_detail 127 = .ok (.invokestatic 144, 3) := by decide +kernel
theorem dX9_detail_130 : decode cX9_detail 130 = .ok (.ireturn, 1) := by decide +kernel
theorem dX9_signAt_0 : decode cX9_signAt 0 = .ok (.lload_n 0, 1) := by decide +kernel
theorem dX9_signAt_1 : decode cX9_signAt 1 = .ok (.bipush 8, 2) := by decide +kernel
theorem dX9_signAt_3 : decode cX9_signAt 3 = .ok (.iload_n 2, 1) := by decide +kernel
theorem dX9_signAt_4 : decode cX9_signAt 4 = .ok (.imul, 1) := by decide +kernel
theorem dX9_signAt_5 : decode cX9_signAt 5 = .ok (.lushr, 1) := by decide +kernel
theorem dX9_signAt_6 : decode cX9_signAt 6 = .ok (.l2i, 1) := by decide +kernel
theorem dX9_signAt_7 : decode cX9_signAt 7 = .ok (.sipush 255, 3) := by decide +kernel
theorem dX9_signAt_10 : decode cX9_signAt 10 = .ok (.iand, 1) := by decide +kernel
theorem dX9_signAt_11 : decode cX9_signAt 11 = .ok (.ireturn, 1) := by decide +kernel
theorem dX9_lengthOf_0 : decode cX9_lengthOf 0 = .ok (.iconst 0, 1) := by decide +kernel
theorem dX9_lengthOf_1 : decode cX9_lengthOf 1 = .ok (.istore_n 2, 1) := by decide +kernel
theorem dX9_lengthOf_2 : decode cX9_lengthOf 2 = .ok (.iload_n 2, 1) := by decide +kernel
theorem dX9_lengthOf_3 : decode cX9_lengthOf 3 = .ok (.bipush 8, 2) := by decide +kernel
theorem dX9_lengthOf_5 : decode cX9_lengthOf 5 = .ok (.if_icmp .ge 17, 3) := by decide +kernel
theorem dX9_lengthOf_8 : decode cX9_lengthOf 8 = .ok (.lload_n 0, 1) := by decide +kernel
theorem dX9_lengthOf_9 : decode cX9_lengthOf 9 = .ok (.iload_n 2, 1) := by decide +kernel
theorem dX9_lengthOf_10 : decode cX9_lengthOf 10 = .ok (.invokestatic 87, 3) := by decide +kernel
theorem dX9_lengthOf_13 : decode cX9_lengthOf 13 = .ok (.ifCond .eq 9, 3) := by decide +kernel
theorem dX9_lengthOf_16 : decode cX9_lengthOf 16 = .ok (.iinc 2 1, 3) := by decide +kernel
theorem dX9_lengthOf_19 : decode cX9_lengthOf 19 = .ok (.goto (-17), 3) := by decide +kernel
theorem dX9_lengthOf_22 : decode cX9_lengthOf 22 = .ok (.iload_n 2, 1) := by decide +kernel
theorem dX9_lengthOf_23 : decode cX9_lengthOf 23 = .ok (.ireturn, 1) := by decide +kernel
theorem dX9_isLetter_0 : decode cX9_isLetter 0 = .ok (.iload_n 0, 1) := by decide +kernel
theorem dX9_isLetter_1 : decode cX9_isLetter 1 = .ok (.bipush 97, 2) := by decide +kernel
theorem dX9_isLetter_3 : decode cX9_isLetter 3 = .ok (.if_icmp .lt 13, 3) := by decide +kernel
theorem dX9_isLetter_6 : decode cX9_isLetter 6 = .ok (.iload_n 0, 1) := by decide +kernel
theorem dX9_isLetter_7 : decode cX9_isLetter 7 = .ok (.bipush 122, 2) := by decide +kernel
theorem dX9_isLetter_9 : decode cX9_isLetter 9 = .ok (.if_icmp .gt 7, 3) := by decide +kernel
theorem dX9_isLetter_12 : decode cX9_isLetter 12 = .ok (.iconst 1, 1) := by decide +kernel
theorem dX9_isLetter_13 : decode cX9_isLetter 13 = .ok (.goto 4, 3) := by decide +kernel
theorem dX9_isLetter_16 : decode cX9_isLetter 16 = .ok (.iconst 0, 1) := by decide +kernel
theorem dX9_isLetter_17 : decode cX9_isLetter 17 = .ok (.ireturn, 1) := by decide +kernel
theorem dX9_isTextSign_0 : decode cX9_isTextSign 0 = .ok (.iload_n 0, 1) := by decide +kernel
theorem dX9_isTextSign_1 : decode cX9_isTextSign 1 = .ok (.invokestatic 275, 3) := by decide +kernel
theorem dX9_isTextSign_4 : decode cX9_isTextSign 4 = .ok (.ifCond .ne 15, 3) := by decide +kernel
theorem dX9_isTextSign_7 : decode cX9_isTextSign 7 = .ok (.iload_n 0, 1) := by decide +kernel
theorem dX9_isTextSign_8 : decode cX9_isTextSign 8 = .ok (.bipush 48, 2) := by decide +kernel
theorem dX9_isTextSign_10 : decode cX9_isTextSign 10 = .ok (.if_icmp .lt 13, 3) := by decide +kernel
theorem dX9_isTextSign_13 : decode cX9_isTextSign 13 = .ok (.iload_n 0, 1) := by decide +kernel
theorem dX9_isTextSign_14 : decode cX9_isTextSign 14 = .ok (.bipush 57, 2) := by decide +kernel
theorem dX9_isTextSign_16 : decode cX9_isTextSign 16 = .ok (.if_icmp .gt 7, 3) := by decide +kernel
theorem dX9_isTextSign_19 : decode cX9_isTextSign 19 = .ok (.iconst 1, 1) := by decide +kernel
theorem dX9_isTextSign_20 : decode cX9_isTextSign 20 = .ok (.goto 4, 3) := by decide +kernel
theorem dX9_isTextSign_23 : decode cX9_isTextSign 23 = .ok (.iconst 0, 1) := by decide +kernel
theorem dX9_isTextSign_24 : decode cX9_isTextSign 24 = .ok (.ireturn, 1) := by decide +kernel
theorem dX9_openerOf_0 : decode cX9_openerOf 0 = .ok (.iload_n 0, 1) := by decide +kernel
theorem dX9_openerOf_1 : decode cX9_openerOf 1 = .ok (.iconst 1, 1) := by decide +kernel
theorem dX9_openerOf_2 : decode cX9_openerOf 2 = .ok (.if_icmp .ne 6, 3) := by decide +kernel
theorem dX9_openerOf_5 : decode cX9_openerOf 5 = .ok (.bipush 123, 2) := by decide +kernel
theorem dX9_openerOf_7 : decode cX9_openerOf 7 = .ok (.ireturn, 1) := by decide +kernel
theorem dX9_openerOf_8 : decode cX9_openerOf 8 = .ok (.iload_n 0, 1) := by decide +kernel
theorem dX9_openerOf_9 : decode cX9_openerOf 9 = .ok (.iconst 2, 1) := by decide +kernel
theorem dX9_openerOf_10 : decode cX9_openerOf 10 = .ok (.if_icmp .ne 8, 3) := by decide +kernel
theorem dX9_openerOf_13 : decode cX9_openerOf 13 = .ok (.bipush 60, 2) := by decide +kernel
theorem dX9_openerOf_15 : decode cX9_openerOf 15 = .ok (.goto 5, 3) := by decide +kernel
theorem dX9_openerOf_18 : decode cX9_openerOf 18 = .ok (.bipush 40, 2) := by decide +kernel
theorem dX9_openerOf_20 : decode cX9_openerOf 20 = .ok (.ireturn, 1) := by decide +kernel
theorem dX9_closerOf_0 : decode cX9_closerOf 0 = .ok (.iload_n 0, 1) := by decide +kernel
theorem dX9_closerOf_1 : decode cX9_closerOf 1 = .ok (.iconst 1, 1) := by decide +kernel
theorem dX9_closerOf_2 : decode cX9_closerOf 2 = .ok (.if_icmp .ne 6, 3) := by decide +kernel
theorem dX9_closerOf_5 : decode cX9_closerOf 5 = .ok (.bipush 125, 2) := by decide +kernel
theorem dX9_closerOf_7 : decode cX9_closerOf 7 = .ok (.ireturn, 1) := by decide +kernel
theorem dX9_closerOf_8 : decode cX9_closerOf 8 = .ok (.iload_n 0, 1) := by decide +kernel
theorem dX9_closerOf_9 : decode cX9_closerOf 9 = .ok (.iconst 2, 1) := by decide +kernel
theorem dX9_closerOf_10 : decode cX9_closerOf 10 = .ok (.if_icmp .ne 8, 3) := by decide +kernel
theorem dX9_closerOf_13 : decode cX9_closerOf 13 = .ok (.bipush 62, 2) := by decide +kernel
theorem dX9_closerOf_15 : decode cX9_closerOf 15 = .ok (.goto 5, 3) := by decide +kernel
theorem dX9_closerOf_18 : decode cX9_closerOf 18 = .ok (.bipush 41, 2) := by decide +kernel
theorem dX9_closerOf_20 : decode cX9_closerOf 20 = .ok (.ireturn, 1) := by decide +kernel
theorem dX10_init_0 : decode cX10_init 0 = .ok (.aload_n 0, 1) := by decide +kernel
theorem dX10_init_1 : decode cX10_init 1 = .ok (.invokespecial 1, 3) := by decide +kernel
theorem dX10_init_4 : decode cX10_init 4 = .ok (.aload_n 0, 1) := by decide +kernel
theorem dX10_init_5 : decode cX10_init 5 = .ok (.sipush 6270, 3) := by decide +kernel
theorem dX10_init_8 : decode cX10_init 8 = .ok (.newarray .int, 2) := by decide +kernel
theorem dX10_init_10 : decode cX10_init 10 = .ok (.putfield 7, 3) := by decide +kernel
theorem dX10_init_13 : decode cX10_init 13 = .ok (.aload_n 0, 1) := by decide +kernel
theorem dX10_init_14 : decode cX10_init 14 = .ok (.bipush 11, 2) := by decide +kernel
theorem dX10_init_16 : decode cX10_init 16 = .ok (.newarray .int, 2) := by decide +kernel
theorem dX10_init_18 : decode cX10_init 18 = .ok (.putfield 13, 3) := by decide +kernel
theorem dX10_init_21 : decode cX10_init 21 = .ok (.aload_n 0, 1) := by decide +kernel
theorem dX10_init_22 : decode cX10_init 22 = .ok (.sipush 400, 3) := by decide +kernel
theorem dX10_init_25 : decode cX10_init 25 = .ok (.newarray .int, 2) := by decide +kernel
theorem dX10_init_27 : decode cX10_init 27 = .ok (.putfield 16, 3) := by decide +kernel
theorem dX10_init_30 : decode cX10_init 30 = .ok (.aload_n 0, 1) := by decide +kernel
theorem dX10_init_31 : decode cX10_init 31 = .ok (.sipush 2000, 3) := by decide +kernel
theorem dX10_init_34 : decode cX10_init 34 = .ok (.newarray .int, 2) := by decide +kernel
theorem dX10_init_36 : decode cX10_init 36 = .ok (.putfield 19, 3) := by decide +kernel
theorem dX10_init_39 : decode cX10_init 39 = .ok (.aload_n 0, 1) := by decide +kernel
theorem dX10_init_40 : decode cX10_init 40 = .ok (.iconst 4, 1) := by decide +kernel
theorem dX10_init_41 : decode cX10_init 41 = .ok (.newarray .int, 2) := by decide +kernel
theorem dX10_init_43 : decode cX10_init 43 = .ok (.putfield 22, 3) := by decide +kernel
theorem dX10_init_46 : decode cX10_init 46 = .ok (.aload_n 0, 1) := by decide +kernel
theorem dX10_init_47 : decode cX10_init 47 = .ok (.bipush 10, 2) := by decide +kernel
theorem dX10_init_49 : decode cX10_init 49 = .ok (.newarray .int, 2) := by decide +kernel
theorem dX10_init_51 : decode cX10_init 51 = .ok (.putfield 25, 3) := by decide +kernel
theorem dX10_init_54 : decode cX10_init 54 = .ok (.aload_n 0, 1) := by decide +kernel
theorem dX10_init_55 : decode cX10_init 55 = .ok (.bipush 13, 2) := by decide +kernel
theorem dX10_init_57 : decode cX10_init 57 = .ok (.newarray .int, 2) := by decide +kernel
theorem dX10_init_59 : decode cX10_init 59 = .ok (.putfield 28, 3) := by decide +kernel
theorem dX10_init_62 : decode cX10_init 62 = .ok (.aload_n 0, 1) := by decide +kernel
theorem dX10_init_63 : decode cX10_init 63 = .ok (.bipush 13, 2) := by decide +kernel
theorem dX10_init_65 : decode cX10_init 65 = .ok (.newarray .int, 2) := by decide +kernel
theorem dX10_init_67 : decode cX10_init 67 = .ok (.putfield 31, 3) := by decide +kernel
theorem dX10_init_70 : decode cX10_init 70 = .ok (.aload_n 0, 1) := by decide +kernel
theorem dX10_init_71 : decode cX10_init 71 = .ok (.bipush 60, 2) := by decide +kernel
theorem dX10_init_73 : decode cX10_init 73 = .ok (.newarray .int, 2) := by decide +kernel
theorem dX10_init_75 : decode cX10_init 75 = .ok (.putfield 34, 3) := by decide +kernel
theorem dX10_init_78 : decode cX10_init 78 = .ok (.aload_n 0, 1) := by decide +kernel
theorem dX10_init_79 : decode cX10_init 79 = .ok (.bipush 60, 2) := by decide +kernel
theorem dX10_init_81 : decode cX10_init 81 = .ok (.newarray .int, 2) := by decide +kernel
theorem dX10_init_83 : decode cX10_init 83 = .ok (.putfield 37, 3) := by decide +kernel
theorem dX10_init_86 : decode cX10_init 86 = .ok (.aload_n 0, 1) := by decide +kernel
theorem dX10_init_87 : decode cX10_init 87 = .ok (.ldc 40, 2) := by decide +kernel
theorem dX10_init_89 : decode cX10_init 89 = .ok (.newarray .int, 2) := by decide +kernel
theorem dX10_init_91 : decode cX10_init 91 = .ok (.putfield 41, 3) := by decide +kernel
theorem dX10_init_94 : decode cX10_init 94 = .ok (.aload_n 0, 1) := by decide +kernel
theorem dX10_init_95 : decode cX10_init 95 = .ok (.bipush 30, 2) := by decide +kernel
theorem dX10_init_97 : decode cX10_init 97 = .ok (.newarray .int, 2) := by decide +kernel
theorem dX10_init_99 : decode cX10_init 99 = .ok (.putfield 44, 3) := by decide +kernel
theorem dX10_init_102 : decode cX10_init 102 = .ok (.aload_n 0, 1) := by decide +kernel
theorem dX10_init_103 : decode cX10_init 103 = .ok (.bipush 30, 2) := by decide +kernel
theorem dX10_init_105 : decode cX10_init 105 = .ok (.newarray .int, 2) := by decide +kernel
theorem dX10_init_107 : decode cX10_init 107 = .ok (.putfield 47, 3) := by decide +kernel
theorem dX10_init_110 : decode cX10_init 110 = .ok (.aload_n 0, 1) := by decide +kernel
theorem dX10_init_111 : decode cX10_init 111 = .ok (.bipush 64, 2) := by decide +kernel
theorem dX10_init_113 : decode cX10_init 113 = .ok (.newarray .int, 2) := by decide +kernel
theorem dX10_init_115 : decode cX10_init 115 = .ok (.putfield 50, 3) := by decide +kernel
theorem dX10_init_118 : decode cX10_init 118 = .ok (.aload_n 0, 1) := by decide +kernel
theorem dX10_init_119 : decode cX10_init 119 = .ok (.bipush 64, 2) := by decide +kernel
theorem dX10_init_121 : decode cX10_init 121 = .ok (.newarray .int, 2) := by decide +kernel
theorem dX10_init_123 : decode cX10_init 123 = .ok (.putfield 53, 3) := by decide +kernel
theorem dX10_init_126 : decode cX10_init 126 = .ok (.aload_n 0, 1) := by decide +kernel
theorem dX10_init_127 : decode cX10_init 127 = .ok (.bipush 64, 2) := by decide +kernel
theorem dX10_init_129 : decode cX10_init 129 = .ok (.newarray .int, 2) := by decide +kernel
theorem dX10_init_131 : decode cX10_init 131 = .ok (.putfield 56, 3) := by decide +kernel
theorem dX10_init_134 : decode cX10_init 134 = .ok (.aload_n 0, 1) := by decide +kernel
theorem dX10_init_135 : decode cX10_init 135 = .ok (.bipush 64, 2) := by decide +kernel
theorem dX10_init_137 : decode cX10_init 137 = .ok (.newarray .int, 2) := by decide +kernel
theorem dX10_init_139 : decode cX10_init 139 = .ok (.putfield 59, 3) := by decide +kernel
theorem dX10_init_142 : decode cX10_init 142 = .ok (.aload_n 0, 1) := by decide +kernel
theorem dX10_init_143 : decode cX10_init 143 = .ok (.iconst (-1), 1) := by decide +kernel
theorem dX10_init_144 : decode cX10_init 144 = .ok (.putfield 62, 3) := by decide +kernel
theorem dX10_init_147 : decode cX10_init 147 = .ok (.aload_n 0, 1) := by decide +kernel
theorem dX10_init_148 : decode cX10_init 148 = .ok (.bipush 30, 2) := by decide +kernel
theorem dX10_init_150 : decode cX10_init 150 = .ok (.newarray .int, 2) := by decide +kernel
theorem dX10_init_152 : decode cX10_init 152 = .ok (.putfield 66, 3) := by decide +kernel
theorem dX10_init_155 : decode cX10_init 155 = .ok (.aload_n 0, 1) := by decide +kernel
theorem dX10_init_156 : decode cX10_init 156 = .ok (.bipush 30, 2) := by decide +kernel
theorem dX10_init_158 : decode cX10_init 158 = .ok (.newarray .int, 2) := by decide +kernel
theorem dX10_init_160 : decode cX10_init 160 = .ok (.putfield 69, 3) := by decide +kernel
theorem dX10_init_163 : decode cX10_init 163 = .ok (.aload_n 0, 1) := by decide +kernel
theorem dX10_init_164 : decode cX10_init 164 = .ok (.sipush 130, 3) := by decide +kernel
theorem dX10_init_167 : decode cX10_init 167 = .ok (.newarray .int, 2) := by decide +kernel
theorem dX10_init_169 : decode cX10_init 169 = .ok (.putfield 72, 3) := by decide +kernel
theorem dX10_init_172 : decode cX10_init 172 = .ok (.aload_n 0, 1) := by decide +kernel
theorem dX10_init_173 : decode cX10_init 173 = .ok (.sipush 130, 3) := by decide +kernel
theorem dX10_init_176 : decode cX10_init 176 = .ok (.newarray .int, 2) := by decide +kernel
theorem dX10_init_178 : decode cX10_init 178 = .ok (.putfield 75, 3) := by decide +kernel
theorem dX10_init_181 : decode cX10_init 181 = .ok (.aload_n 0, 1) := by decide +kernel
theorem dX10_init_182 : decode cX10_init 182 = .ok (.sipush 130, 3) := by decide +kernel
theorem dX10_init_185 : decode cX10_init 185 = .ok (.newarray .int, 2) := by decide +kernel
theorem dX10_init_187 : decode cX10_init 187 = .ok (.putfield 78, 3) := by decide +kernel
theorem dX10_init_190 : decode cX10_init 190 = .ok (.aload_n 0, 1) := by decide +kernel
theorem dX10_init_191 : decode cX10_init 191 = .ok (.bipush 60, 2) := by decide +kernel
theorem dX10_init_193 : decode cX10_init 193 = .ok (.newarray .int, 2) := by decide +kernel
theorem dX10_init_195 : decode cX10_init 195 = .ok (.putfield 81, 3) := by decide +kernel
theorem dX10_init_198 : decode cX10_init 198 = .ok (.aload_n 0, 1) := by decide +kernel
theorem dX10_init_199 : decode cX10_init 199 = .ok (.sipush 130, 3) := by decide +kernel
theorem dX10_init_202 : decode cX10_init 202 = .ok (.newarray .int, 2) := by decide +kernel
theorem dX10_init_204 : decode cX10_init 204 = .ok (.putfield 84, 3) := by decide +kernel
theorem dX10_init_207 : decode cX10_init 207 = .ok (.aload_n 0, 1) := by decide +kernel
theorem dX10_init_208 : decode cX10_init 208 = .ok (.sipush 130, 3) := by decide +kernel
theorem dX10_init_211 : decode cX10_init 211 = .ok (.newarray .int, 2) := by decide +kernel
theorem dX10_init_213 : decode cX10_init 213 = .ok (.putfield 87, 3) := by decide +kernel
theorem dX10_init_216 : decode cX10_init 216 = .ok (.aload_n 0, 1) := by decide +kernel
theorem dX10_init_217 : decode cX10_init 217 = .ok (.sipush 1000, 3) := by decide +kernel
theorem dX10_init_220 : decode cX10_init 220 = .ok (.newarray .int, 2) := by decide +kernel
theorem dX10_init_222 : decode cX10_init 222 = .ok (.putfield 90, 3) := by decide +kernel
theorem dX10_init_225 : decode cX10_init 225 = .ok (.aload_n 0, 1) := by decide +kernel
theorem dX10_init_226 : decode cX10_init 226 = .ok (.sipush 1000, 3) := by decide +kernel
theorem dX10_init_229 : decode cX10_init 229 = .ok (.newarray .int, 2) := by decide +kernel
theorem dX10_init_231 : decode cX10_init 231 = .ok (.putfield 93, 3) := by decide +kernel
theorem dX10_init_234 : decode cX10_init 234 = .ok (.aload_n 0, 1) := by decide +kernel
theorem dX10_init_235 : decode cX10_init 235 = .ok (.getfield 22, 3) := by decide +kernel
theorem dX10_init_238 : decode cX10_init 238 = .ok (.iconst 0, 1) := by decide +kernel
theorem dX10_init_239 : decode cX10_init 239 = .ok (.iconst 2, 1) := by decide +kernel
theorem dX10_init_240 : decode cX10_init 240 = .ok (.iastore, 1) := by decide +kernel
theorem dX10_init_241 : decode cX10_init 241 = .ok (.aload_n 0, 1) := by decide +kernel
theorem dX10_init_242 : decode cX10_init 242 = .ok (.getfield 22, 3) := by decide +kernel
theorem dX10_init_245 : decode cX10_init 245 = .ok (.iconst 1, 1) := by decide +kernel
theorem dX10_init_246 : decode cX10_init 246 = .ok (.iconst 1, 1) := by decide +kernel
theorem dX10_init_247 : decode cX10_init 247 = .ok (.iastore, 1) := by decide +kernel
theorem dX10_init_248 : decode cX10_init 248 = .ok (.aload_n 0, 1) := by decide +kernel
theorem dX10_init_249 : decode cX10_init 249 = .ok (.getfield 22, 3) := by decide +kernel
theorem dX10_init_252 : decode cX10_init 252 = .ok (.iconst 2, 1) := by decide +kernel
theorem dX10_init_253 : decode cX10_init 253 = .ok (.iconst 3, 1) := by decide +kernel
theorem dX10_init_254 : decode cX10_init 254 = .ok (.iastore, 1) := by decide +kernel
theorem dX10_init_255 : decode cX10_init 255 = .ok (.aload_n 0, 1) := by decide +kernel
theorem dX10_init_256 : decode cX10_init 256 = .ok (.getfield 22, 3) := by decide +kernel
theorem dX10_init_259 : decode cX10_init 259 = .ok (.iconst 3, 1) := by decide +kernel
theorem dX10_init_260 : decode cX10_init 260 = .ok (.iconst 3, 1) := by decide +kernel
theorem dX10_init_261 : decode cX10_init 261 = .ok (.iastore, 1) := by decide +kernel
theorem dX10_init_262 : decode cX10_init 262 = .ok (.return_, 1) := by decide +kernel
theorem dX10_found0_0 : decode cX10_found0 0 = .ok (.aload_n 0, 1) := by decide +kernel
theorem dX10_found0_1 : decode cX10_found0 1 = .ok (.getfield 25, 3) := by decide +kernel
theorem dX10_found0_4 : decode cX10_found0 4 = .ok (.iload_n 1, 1) := by decide +kernel
theorem dX10_found0_5 : decode cX10_found0 5 = .ok (.ineg, 1) := by decide +kernel
theorem dX10_found0_6 : decode cX10_found0 6 = .ok (.dup2, 1) := by decide +kernel
theorem dX10_found0_7 : decode cX10_found0 7 = .ok (.iaload, 1) := by decide +kernel
theorem dX10_found0_8 : decode cX10_found0 8 = .ok (.iconst 1, 1) := by decide +kernel
theorem dX10_found0_9 : decode cX10_found0 9 = .ok (.iadd, 1) := by decide +kernel
theorem dX10_found0_10 : decode cX10_found0 10 = .ok (.iastore, 1) := by decide +kernel
theorem dX10_found0_11 : decode cX10_found0 11 = .ok (.iload_n 1, 1) := by decide +kernel
theorem dX10_found0_12 : decode cX10_found0 12 = .ok (.ireturn, 1) := by decide +kernel
theorem dX10_in_0 : decode cX10_in 0 = .ok (.iload_n 0, 1) := by decide +kernel
theorem dX10_in_1 : decode cX10_in 1 = .ok (.iload_n 1, 1) := by decide +kernel
theorem dX10_in_2 : decode cX10_in 2 = .ok (.if_icmp .lt 12, 3) := by decide +kernel
theorem dX10_in_5 : decode cX10_in 5 = .ok (.iload_n 0, 1) := by decide +kernel
theorem dX10_in_6 : decode cX10_in 6 = .ok (.iload_n 2, 1) := by decide +kernel
theorem dX10_in_7 : decode cX10_in 7 = .ok (.if_icmp .gt 7, 3) := by decide +kernel
theorem dX10_in_10 : decode cX10_in 10 = .ok (.iconst 1, 1) := by decide +kernel
theorem dX10_in_11 : decode cX10_in 11 = .ok (.goto 4, 3) := by decide +kernel
theorem dX10_in_14 : decode cX10_in 14 = .ok (.iconst 0, 1) := by decide +kernel
theorem dX10_in_15 : decode cX10_in 15 = .ok (.ireturn, 1) := by decide +kernel
theorem dX10_isPlace_0 : decode cX10_isPlace 0 = .ok (.iload_n 0, 1) := by decide +kernel
theorem dX10_isPlace_1 : decode cX10_isPlace 1 = .ok (.iconst 0, 1) := by decide +kernel
theorem dX10_isPlace_2 : decode cX10_isPlace 2 = .ok (.bipush 7, 2) := by decide +kernel
theorem dX10_isPlace_4 : decode cX10_isPlace 4 = .ok (.invokestatic 96, 3) := by decide +kernel
theorem dX10_isPlace_7 : decode cX10_isPlace 7 = .ok (.ireturn, 1) := by decide +kernel
theorem dX10_lacks_0 : decode cX10_lacks 0 = .ok (.iload_n 1, 1) := by decide +kernel
theorem dX10_lacks_1 : decode cX10_lacks 1 = .ok (.invokestatic 100, 3) := by decide +kernel
theorem dX10_lacks_4 : decode cX10_lacks 4 = .ok (.ifCond .ne 7, 3) := by decide +kernel
theorem dX10_lacks_7 : decode cX10_lacks 7 = .ok (.iconst (-1), 1) := by decide +kernel
theorem dX10_lacks_8 : decode cX10_lacks 8 = .ok (.goto 18, 3) := by decide +kernel
theorem dX10_lacks_11 : decode cX10_lacks 11 = .ok (.aload_n 0, 1) := by decide +kernel
theorem dX10_lacks_12 : decode cX10_lacks 12 = .ok (.getfield 13, 3) := by decide +kernel
theorem dX10_lacks_15 : decode cX10_lacks 15 = .ok (.iload_n 1, 1) := by decide +kernel
theorem dX10_lacks_16 : decode cX10_lacks 16 = .ok (.iaload, 1) := by decide +kernel
theorem dX10_lacks_17 : decode cX10_lacks 17 = .ok (.ifCond .ne 8, 3) := by decide +kernel
theorem dX10_lacks_20 : decode cX10_lacks 20 = .ok (.bipush (-2), 2) := by decide +kernel
theorem dX10_lacks_22 : decode cX10_lacks 22 = .ok (.goto 4, 3) := by decide +kernel
theorem dX10_lacks_25 : decode cX10_lacks 25 = .ok (.iconst 0, 1) := by decide +kernel
theorem dX10_lacks_26 : decode cX10_lacks 26 = .ok (.ireturn, 1) := by decide +kernel
theorem dX10_of_0 : decode cX10_of 0 = .ok (.aload_n 0, 1) := by decide +kernel
theorem dX10_of_1 : decode cX10_of 1 = .ok (.getfield 7, 3) := by decide +kernel
theorem dX10_of_4 : decode cX10_of 4 = .ok (.bipush 19, 2) := by decide +kernel
theorem dX10_of_6 : decode cX10_of 6 = .ok (.bipush 30, 2) := by decide +kernel
theorem dX10_of_8 : decode cX10_of 8 = .ok (.iload_n 1, 1) := by decide +kernel
theorem dX10_of_9 : decode cX10_of 9 = .ok (.imul, 1) := by decide +kernel
theorem dX10_of_10 : decode cX10_of 10 = .ok (.iload_n 2, 1) := by decide +kernel
theorem dX10_of_11 : decode cX10_of 11 = .ok (.iadd, 1) := by decide +kernel
theorem dX10_of_12 : decode cX10_of 12 = .ok (.imul, 1) := by decide +kernel
theorem dX10_of_13 : decode cX10_of 13 = .ok (.iload_n 3, 1) := by decide +kernel
theorem dX10_of_14 : decode cX10_of 14 = .ok (.iadd, 1) := by decide +kernel
theorem dX10_of_15 : decode cX10_of 15 = .ok (.iaload, 1) := by decide +kernel
theorem dX10_of_16 : decode cX10_of 16 = .ok (.ireturn, 1) := by decide +kernel
theorem dX10_set_0 : decode cX10_set 0 = .ok (.aload_n 0, 1) := by decide +kernel
theorem dX10_set_1 : decode cX10_set 1 = .ok (.getfield 7, 3) := by decide +kernel
theorem dX10_set_4 : decode cX10_set 4 = .ok (.bipush 19, 2) := by decide +kernel
theorem dX10_set_6 : decode cX10_set 6 = .ok (.bipush 30, 2) := by decide +kernel
theorem dX10_set_8 : decode cX10_set 8 = .ok (.iload_n 1, 1) := by decide +kernel
theorem dX10_set_9 : decode cX10_set 9 = .ok (.imul, 1) := by decide +kernel
theorem dX10_set_10 : decode cX10_set 10 = .ok (.iload_n 2, 1) := by decide +kernel
theorem dX10_set_11 : decode cX10_set 11 = .ok (.iadd, 1) := by decide +kernel
theorem dX10_set_12 : decode cX10_set 12 = .ok (.imul, 1) := by decide +kernel
theorem dX10_set_13 : decode cX10_set 13 = .ok (.iload_n 3, 1) := by decide +kernel
theorem dX10_set_14 : decode cX10_set 14 = .ok (.iadd, 1) := by decide +kernel
theorem dX10_set_15 : decode cX10_set 15 = .ok (.iload 4, 2) := by decide +kernel
theorem dX10_set_17 : decode cX10_set 17 = .ok (.iastore, 1) := by decide +kernel
theorem dX10_set_18 : decode cX10_set 18 = .ok (.return_, 1) := by decide +kernel
theorem dX10_deep_0 : decode cX10_deep 0 = .ok (.aload_n 0, 1) := by decide +kernel
theorem dX10_deep_1 : decode cX10_deep 1 = .ok (.iload_n 1, 1) := by decide +kernel
theorem dX10_deep_2 : decode cX10_deep 2 = .ok (.iload_n 2, 1) := by decide +kernel
theorem dX10_deep_3 : decode cX10_deep 3 = .ok (.iconst 2, 1) := by decide +kernel
theorem dX10_deep_4 : decode cX10_deep 4 = .ok (.invokevirtual 104, 3) := by decide +kernel
theorem dX10_deep_7 : decode cX10_deep 7 = .ok (.ireturn, 1) := by decide +kernel
theorem dX10_carry_0 : decode cX10_carry 0 = .ok (.iconst 0, 1) := by decide +kernel
theorem dX10_carry_1 : decode cX10_carry 1 = .ok (.istore 5, 2) := by decide +kernel
theorem dX10_carry_3 : decode cX10_carry 3 = .ok (.iload 5, 2) := by decide +kernel
theorem dX10_carry_5 : decode cX10_carry 5 = .ok (.bipush 19, 2) := by decide +kernel
theorem dX10_carry_7 : decode cX10_carry 7 = .ok (.if_icmp .ge 26, 3) := by decide +kernel
theorem dX10_carry_10 : decode cX10_carry 10 = .ok (.aload_n 0, 1) := by decide +kernel
theorem dX10_carry_11 : decode cX10_carry 11 = .ok (.iload_n 3, 1) := by decide +kernel
theorem dX10_carry_12 : decode cX10_carry 12 = .ok (.iload 4, 2) := by decide +kernel
theorem dX10_carry_14 : decode cX10_carry 14 = .ok (.iload 5, 2) := by decide +kernel
theorem dX10_carry_16 : decode cX10_carry 16 = .ok (.aload_n 0, 1) := by decide +kernel
theorem dX10_carry_17 : decode cX10_carry 17 = .ok (.iload_n 1, 1) := by decide +kernel
theorem dX10_carry_18 : decode cX10_carry 18 = .ok (.iload_n 2, 1) := by decide +kernel
theorem dX10_carry_19 : decode cX10_carry 19 = .ok (.iload 5, 2) := by decide +kernel
theorem dX10_carry_21 : decode cX10_carry 21 = .ok (.invokevirtual 104, 3) := by decide +kernel
theorem dX10_carry_24 : decode cX10_carry 24 = .ok (.invokevirtual 108, 3) := by decide +kernel
theorem dX10_carry_27 : decode cX10_carry 27 = .ok (.iinc 5 1, 3) := by decide +kernel
theorem dX10_carry_30 : decode cX10_carry 30 = .ok (.goto (-27), 3) := by decide +kernel
theorem dX10_carry_33 : decode cX10_carry 33 = .ok (.return_, 1) := by decide +kernel
theorem dX10_copyAll_0 : decode cX10_copyAll 0 = .ok (.iconst 0, 1) := by decide +kernel
theorem dX10_copyAll_1 : decode cX10_copyAll 1 = .ok (.istore_n 3, 1) := by decide +kernel
theorem dX10_copyAll_2 : decode cX10_copyAll 2 = .ok (.iload_n 3, 1) := by decide +kernel
theorem dX10_copyAll_3 : decode cX10_copyAll 3 = .ok (.aload_n 0, 1) := by decide +kernel
theorem dX10_copyAll_4 : decode cX10_copyAll 4 = .ok (.getfield 13, 3) := by decide +kernel
theorem dX10_copyAll_7 : decode cX10_copyAll 7 = .ok (.iload_n 1, 1) := by decide +kernel
theorem dX10_copyAll_8 : decode cX10_copyAll 8 = .ok (.iaload, 1) := by decide +kernel
theorem dX10_copyAll_9 : decode cX10_copyAll 9 = .ok (.if_icmp .ge 17, 3) := by decide +kernel
theorem dX10_copyAll_12 : decode cX10_copyAll 12 = .ok (.aload_n 0, 1) := by decide +kernel
theorem dX10_copyAll_13 : decode cX10_copyAll 13 = .ok (.iload_n 1, 1) := by decide +kernel
theorem dX10_copyAll_14 : decode cX10_copyAll 14 = .ok (.iload_n 3, 1) := by decide +kernel
theorem dX10_copyAll_15 : decode cX10_copyAll 15 = .ok (.iload_n 2, 1) := by decide +kernel
theorem dX10_copyAll_16 : decode cX10_copyAll 16 = .ok (.iload_n 3, 1) := by decide +kernel
theorem dX10_copyAll_17 : decode cX10_copyAll 17 = .ok (.invokevirtual 112, 3) := by decide +kernel
theorem dX10_copyAll_20 : decode cX10_copyAll 20 = .ok (.iinc 3 1, 3) := by decide +kernel
theorem dX10_copyAll_23 : decode cX10_copyAll 23 = .ok (.goto (-21), 3) := by decide +kernel
theorem dX10_copyAll_26 : decode cX10_copyAll 26 = .ok (.aload_n 0, 1) := by decide +kernel
theorem dX10_copyAll_27 : decode cX10_copyAll 27 = .ok (.getfield 13, 3) := by decide +kernel
theorem dX10_copyAll_30 : decode cX10_copyAll 30 = .ok (.iload_n 2, 1) := by decide +kernel
theorem dX10_copyAll_31 : decode cX10_copyAll 31 = .ok (.aload_n 0, 1) := by decide +kernel
theorem dX10_copyAll_32 : decode cX10_copyAll 32 = .ok (.getfield 13, 3) := by decide +kernel
theorem dX10_copyAll_35 : decode cX10_copyAll 35 = .ok (.iload_n 1, 1) := by decide +kernel
theorem dX10_copyAll_36 : decode cX10_copyAll 36 = .ok (.iaload, 1) := by decide +kernel
theorem dX10_copyAll_37 : decode cX10_copyAll 37 = .ok (.iastore, 1) := by decide +kernel
theorem dX10_copyAll_38 : decode cX10_copyAll 38 = .ok (.return_, 1) := by decide +kernel
theorem dX10_end_0 : decode cX10_end 0 = .ok (.iload_n 2, 1) := by decide +kernel
theorem dX10_end_1 : decode cX10_end 1 = .ok (.iconst 1, 1) := by decide +kernel
theorem dX10_end_2 : decode cX10_end 2 = .ok (.iadd, 1) := by decide +kernel
theorem dX10_end_3 : decode cX10_end 3 = .ok (.istore_n 3, 1) := by decide +kernel
theorem dX10_end_4 : decode cX10_end 4 = .ok (.iload_n 3, 1) := by decide +kernel
theorem dX10_end_5 : decode cX10_end 5 = .ok (.aload_n 0, 1) := by decide +kernel
theorem dX10_end_6 : decode cX10_end 6 = .ok (.getfield 13, 3) := by decide +kernel
theorem dX10_end_9 : decode cX10_end 9 = .ok (.iload_n 1, 1) := by decide +kernel
theorem dX10_end_10 : decode cX10_end 10 = .ok (.iaload, 1) := by decide +kernel
theorem dX10_end_11 : decode cX10_end 11 = .ok (.if_icmp .ge 24, 3) := by decide +kernel
theorem dX10_end_14 : decode cX10_end 14 = .ok (.aload_n 0, 1) := by decide +kernel
theorem dX10_end_15 : decode cX10_end 15 = .ok (.iload_n 1, 1) := by decide +kernel
theorem dX10_end_16 : decode cX10_end 16 = .ok (.iload_n 3, 1) := by decide +kernel
theorem dX10_end_17 : decode cX10_end 17 = .ok (.invokevirtual 115, 3) := by decide +kernel
theorem dX10_end_20 : decode cX10_end 20 = .ok (.aload_n 0, 1) := by decide +kernel
theorem dX10_end_21 : decode cX10_end 21 = .ok (.iload_n 1, 1) := by decide +kernel
theorem dX10_end_22 : decode cX10_end 22 = .ok (.iload_n 2, 1) := by decide +kernel
theorem dX10_end_23 : decode cX10_end 23 = .ok (.invokevirtual 115, 3) := by decide +kernel
theorem dX10_end_26 : decode cX10_end 26 = .ok (.if_icmp .le 9, 3) := by decide +kernel
theorem dX10_end_29 : decode cX10_end 29 = .ok (.iinc 3 1, 3) := by decide +kernel
theorem dX10_end_32 : decode cX10_end 32 = .ok (.goto (-28), 3) := by decide +kernel
theorem dX10_end_35 : decode cX10_end 35 = .ok (.iload_n 3, 1) := by decide +kernel
theorem dX10_end_36 : decode cX10_end 36 = .ok (.ireturn, 1) := by decide +kernel
theorem dX10_parent_0 : decode cX10_parent 0 = .ok (.iload_n 2, 1) := by decide +kernel
theorem dX10_parent_1 : decode cX10_parent 1 = .ok (.iconst 1, 1) := by decide +kernel
theorem dX10_parent_2 : decode cX10_parent 2 = .ok (.isub, 1) := by decide +kernel
theorem dX10_parent_3 : decode cX10_parent 3 = .ok (.istore_n 3, 1) := by decide +kernel
theorem dX10_parent_4 : decode cX10_parent 4 = .ok (.iload_n 3, 1) := by decide +kernel
theorem dX10_parent_5 : decode cX10_parent 5 = .ok (.ifCond .lt 24, 3) := by decide +kernel
theorem dX10_parent_8 : decode cX10_parent 8 = .ok (.aload_n 0, 1) := by decide +kernel
theorem dX10_parent_9 : decode cX10_parent 9 = .ok (.iload_n 1, 1) := by decide +kernel
theorem dX10_parent_10 : decode cX10_parent 10 = .ok (.iload_n 3, 1) := by decide +kernel
theorem dX10_parent_11 : decode cX10_parent 11 = .ok (.invokevirtual 115, 3) := by decide +kernel
theorem dX10_parent_14 : decode cX10_parent 14 = .ok (.aload_n 0, 1) := by decide +kernel
theorem dX10_parent_15 : decode cX10_parent 15 = .ok (.iload_n 1, 1) := by decide +kernel
theorem dX10_parent_16 : decode cX10_parent 16 = .ok (.iload_n 2, 1) := by decide +kernel
theorem dX10_parent_17 : decode cX10_parent 17 = .ok (.invokevirtual 115, 3) := by decide +kernel
theorem dX10_parent_20 : decode cX10_parent 20 = .ok (.if_icmp .lt 9, 3) := by decide +kernel
theorem dX10_parent_23 : decode cX10_parent 23 = .ok (.iinc 3 (-1), 3) := by decide +kernel
theorem dX10_parent_26 : decode cX10_parent 26 = .ok (.goto (-22), 3) := by decide +kernel
theorem dX10_parent_29 : decode cX10_parent 29 = .ok (.iload_n 3, 1) := by decide +kernel
theorem dX10_parent_30 : decode cX10_parent 30 = .ok (.ireturn, 1) := by decide +kernel
theorem dX10_child_0 : decode cX10_child 0 = .ok (.iload_n 2, 1) := by decide +kernel
theorem dX10_child_1 : decode cX10_child 1 = .ok (.iconst 1, 1) := by decide +kernel
theorem dX10_child_2 : decode cX10_child 2 = .ok (.iadd, 1) := by decide +kernel
theorem dX10_child_3 : decode cX10_child 3 = .ok (.istore 4, 2) := by decide +kernel
theorem dX10_child_5 : decode cX10_child 5 = .ok (.iconst 0, 1) := by decide +kernel
theorem dX10_child_6 : decode cX10_child 6 = .ok (.istore 5, 2) := by decide +kernel
theorem dX10_child_8 : decode cX10_child 8 = .ok (.iload 5, 2) := by decide +kernel
theorem dX10_child_10 : decode cX10_child 10 = .ok (.iload_n 3, 1) := by decide +kernel
theorem dX10_child_11 : decode cX10_child 11 = .ok (.if_icmp .ge 29, 3) := by decide +kernel
theorem dX10_child_14 : decode cX10_child 14 = .ok (.iload 4, 2) := by decide +kernel
theorem dX10_child_16 : decode cX10_child 16 = .ok (.aload_n 0, 1) := by decide +kernel
theorem dX10_child_17 : decode cX10_child 17 = .ok (.iload_n 1, 1) := by decide +kernel
theorem dX10_child_18 : decode cX10_child 18 = .ok (.iload_n 2, 1) := by decide +kernel
theorem dX10_child_19 : decode cX10_child 19 = .ok (.invokevirtual 119, 3) := by decide +kernel
theorem dX10_child_22 : decode cX10_child 22 = .ok (.if_icmp .ge 18, 3) := by decide +kernel
theorem dX10_child_25 : decode cX10_child 25 = .ok (.aload_n 0, 1) := by decide +kernel
theorem dX10_child_26 : decode cX10_child 26 = .ok (.iload_n 1, 1) := by decide +kernel
theorem dX10_child_27 : decode cX10_child 27 = .ok (.iload 4, 2) := by decide +kernel
theorem dX10_child_29 : decode cX10_child 29 = .ok (.invokevirtual 119, 3) := by decide +kernel
theorem dX10_child_32 : decode cX10_child 32 = .ok (.istore 4, 2) := by decide +kernel
theorem dX10_child_34 : decode cX10_child 34 = .ok (.iinc 5 1, 3) := by decide +kernel
theorem dX10_child_37 : decode cX10_child 37 = .ok (.goto (-29), 3) := by decide +kernel
theorem dX10_child_40 : decode cX10_child 40 = .ok (.iload 4, 2) := by decide +kernel
theorem dX10_child_42 : decode cX10_child 42 = .ok (.ireturn, 1) := by decide +kernel
theorem dX10_children_0 : decode cX10_children 0 = .ok (.iconst 0, 1) := by decide +kernel
theorem dX10_children_1 : decode cX10_children 1 = .ok (.istore_n 3, 1) := by decide +kernel
theorem dX10_children_2 : decode cX10_children 2 = .ok (.iload_n 2, 1) := by decide +kernel
theorem dX10_children_3 : decode cX10_children 3 = .ok (.iconst 1, 1) := by decide +kernel
theorem dX10_children_4 : decode cX10_children 4 = .ok (.iadd, 1) := by decide +kernel
theorem dX10_children_5 : decode cX10_children 5 = .ok (.istore 4, 2) := by decide +kernel
theorem dX10_children_7 : decode cX10_children 7 = .ok (.iload 4, 2) := by decide +kernel
theorem dX10_children_9 : decode cX10_children 9 = .ok (.aload_n 0, 1) := by decide +kernel
theorem dX10_children_10 : decode cX10_children 10 = .ok (.iload_n 1, 1) := by decide +kernel
theorem dX10_children_11 : decode cX10_children 11 = .ok (.iload_n 2, 1) := by decide +kernel
theorem dX10_children_12 : decode cX10_children 12 = .ok (.invokevirtual 119, 3) := by decide +kernel
theorem dX10_children_15 : decode cX10_children 15 = .ok (.if_icmp .ge 18, 3) := by decide +kernel
theorem dX10_children_18 : decode cX10_children 18 = .ok (.iinc 3 1, 3) := by decide +kernel
theorem dX10_children_21 : decode cX10_children 21 = .ok (.aload_n 0, 1) := by decide +kernel
theorem dX10_children_22 : decode cX10_children 22 = .ok (.iload_n 1, 1) := by decide +kernel
