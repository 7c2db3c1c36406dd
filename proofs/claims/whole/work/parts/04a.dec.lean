theorem dX9_init_0 : decode cX9_init 0 = .ok (.aload_n 0, 1) := by decide +kernel
theorem dX9_init_1 : decode cX9_init 1 = .ok (.invokespecial 1, 3) := by decide +kernel
theorem dX9_init_4 : decode cX9_init 4 = .ok (.aload_n 0, 1) := by decide +kernel
theorem dX9_init_5 : decode cX9_init 5 = .ok (.sipush 6000, 3) := by decide +kernel
theorem dX9_init_8 : decode cX9_init 8 = .ok (.newarray .int, 2) := by decide +kernel
theorem dX9_init_10 : decode cX9_init 10 = .ok (.putfield 7, 3) := by decide +kernel
theorem dX9_init_13 : decode cX9_init 13 = .ok (.aload_n 0, 1) := by decide +kernel
theorem dX9_init_14 : decode cX9_init 14 = .ok (.iconst (-1), 1) := by decide +kernel
theorem dX9_init_15 : decode cX9_init 15 = .ok (.putfield 13, 3) := by decide +kernel
theorem dX9_init_18 : decode cX9_init 18 = .ok (.aload_n 0, 1) := by decide +kernel
theorem dX9_init_19 : decode cX9_init 19 = .ok (.bipush 120, 2) := by decide +kernel
theorem dX9_init_21 : decode cX9_init 21 = .ok (.newarray .int, 2) := by decide +kernel
theorem dX9_init_23 : decode cX9_init 23 = .ok (.putfield 17, 3) := by decide +kernel
theorem dX9_init_26 : decode cX9_init 26 = .ok (.aload_n 0, 1) := by decide +kernel
theorem dX9_init_27 : decode cX9_init 27 = .ok (.sipush 4800, 3) := by decide +kernel
theorem dX9_init_30 : decode cX9_init 30 = .ok (.newarray .int, 2) := by decide +kernel
theorem dX9_init_32 : decode cX9_init 32 = .ok (.putfield 20, 3) := by decide +kernel
theorem dX9_init_35 : decode cX9_init 35 = .ok (.aload_n 0, 1) := by decide +kernel
theorem dX9_init_36 : decode cX9_init 36 = .ok (.bipush 120, 2) := by decide +kernel
theorem dX9_init_38 : decode cX9_init 38 = .ok (.newarray .int, 2) := by decide +kernel
theorem dX9_init_40 : decode cX9_init 40 = .ok (.putfield 23, 3) := by decide +kernel
theorem dX9_init_43 : decode cX9_init 43 = .ok (.aload_n 0, 1) := by decide +kernel
theorem dX9_init_44 : decode cX9_init 44 = .ok (.sipush 14400, 3) := by decide +kernel
theorem dX9_init_47 : decode cX9_init 47 = .ok (.newarray .int, 2) := by decide +kernel
theorem dX9_init_49 : decode cX9_init 49 = .ok (.putfield 26, 3) := by decide +kernel
theorem dX9_init_52 : decode cX9_init 52 = .ok (.aload_n 0, 1) := by decide +kernel
theorem dX9_init_53 : decode cX9_init 53 = .ok (.sipush 14400, 3) := by decide +kernel
theorem dX9_init_56 : decode cX9_init 56 = .ok (.newarray .int, 2) := by decide +kernel
theorem dX9_init_58 : decode cX9_init 58 = .ok (.putfield 29, 3) := by decide +kernel
theorem dX9_init_61 : decode cX9_init 61 = .ok (.aload_n 0, 1) := by decide +kernel
theorem dX9_init_62 : decode cX9_init 62 = .ok (.sipush 192, 3) := by decide +kernel
theorem dX9_init_65 : decode cX9_init 65 = .ok (.newarray .int, 2) := by decide +kernel
theorem dX9_init_67 : decode cX9_init 67 = .ok (.putfield 32, 3) := by decide +kernel
theorem dX9_init_70 : decode cX9_init 70 = .ok (.aload_n 0, 1) := by decide +kernel
theorem dX9_init_71 : decode cX9_init 71 = .ok (.bipush 30, 2) := by decide +kernel
theorem dX9_init_73 : decode cX9_init 73 = .ok (.newarray .int, 2) := by decide +kernel
theorem dX9_init_75 : decode cX9_init 75 = .ok (.putfield 35, 3) := by decide +kernel
theorem dX9_init_78 : decode cX9_init 78 = .ok (.aload_n 0, 1) := by decide +kernel
theorem dX9_init_79 : decode cX9_init 79 = .ok (.iconst 1, 1) := by decide +kernel
theorem dX9_init_80 : decode cX9_init 80 = .ok (.putfield 38, 3) := by decide +kernel
theorem dX9_init_83 : decode cX9_init 83 = .ok (.aload_n 0, 1) := by decide +kernel
theorem dX9_init_84 : decode cX9_init 84 = .ok (.bipush 60, 2) := by decide +kernel
theorem dX9_init_86 : decode cX9_init 86 = .ok (.newarray .int, 2) := by decide +kernel
theorem dX9_init_88 : decode cX9_init 88 = .ok (.putfield 41, 3) := by decide +kernel
theorem dX9_init_91 : decode cX9_init 91 = .ok (.aload_n 0, 1) := by decide +kernel
theorem dX9_init_92 : decode cX9_init 92 = .ok (.bipush 60, 2) := by decide +kernel
theorem dX9_init_94 : decode cX9_init 94 = .ok (.newarray .int, 2) := by decide +kernel
theorem dX9_init_96 : decode cX9_init 96 = .ok (.putfield 44, 3) := by decide +kernel
theorem dX9_init_99 : decode cX9_init 99 = .ok (.aload_n 0, 1) := by decide +kernel
theorem dX9_init_100 : decode cX9_init 100 = .ok (.bipush 60, 2) := by decide +kernel
theorem dX9_init_102 : decode cX9_init 102 = .ok (.newarray .int, 2) := by decide +kernel
theorem dX9_init_104 : decode cX9_init 104 = .ok (.putfield 47, 3) := by decide +kernel
theorem dX9_init_107 : decode cX9_init 107 = .ok (.aload_n 0, 1) := by decide +kernel
theorem dX9_init_108 : decode cX9_init 108 = .ok (.bipush 60, 2) := by decide +kernel
theorem dX9_init_110 : decode cX9_init 110 = .ok (.newarray .boolean, 2) := by decide +kernel
theorem dX9_init_112 : decode cX9_init 112 = .ok (.putfield 50, 3) := by decide +kernel
theorem dX9_init_115 : decode cX9_init 115 = .ok (.aload_n 0, 1) := by decide +kernel
theorem dX9_init_116 : decode cX9_init 116 = .ok (.bipush 60, 2) := by decide +kernel
theorem dX9_init_118 : decode cX9_init 118 = .ok (.newarray .int, 2) := by decide +kernel
theorem dX9_init_120 : decode cX9_init 120 = .ok (.putfield 54, 3) := by decide +kernel
theorem dX9_init_123 : decode cX9_init 123 = .ok (.aload_n 0, 1) := by decide +kernel
theorem dX9_init_124 : decode cX9_init 124 = .ok (.sipush 12000, 3) := by decide +kernel
theorem dX9_init_127 : decode cX9_init 127 = .ok (.newarray .int, 2) := by decide +kernel
theorem dX9_init_129 : decode cX9_init 129 = .ok (.putfield 57, 3) := by decide +kernel
theorem dX9_init_132 : decode cX9_init 132 = .ok (.aload_n 0, 1) := by decide +kernel
theorem dX9_init_133 : decode cX9_init 133 = .ok (.sipush 12000, 3) := by decide +kernel
theorem dX9_init_136 : decode cX9_init 136 = .ok (.newarray .int, 2) := by decide +kernel
theorem dX9_init_138 : decode cX9_init 138 = .ok (.putfield 60, 3) := by decide +kernel
theorem dX9_init_141 : decode cX9_init 141 = .ok (.aload_n 0, 1) := by decide +kernel
theorem dX9_init_142 : decode cX9_init 142 = .ok (.iconst 0, 1) := by decide +kernel
theorem dX9_init_143 : decode cX9_init 143 = .ok (.putfield 63, 3) := by decide +kernel
theorem dX9_init_146 : decode cX9_init 146 = .ok (.return_, 1) := by decide +kernel
theorem dX9_thrown_0 : decode cX9_thrown 0 = .ok (.aload_n 0, 1) := by decide +kernel
theorem dX9_thrown_1 : decode cX9_thrown 1 = .ok (.getfield 66, 3) := by decide +kernel
theorem dX9_thrown_4 : decode cX9_thrown 4 = .ok (.ireturn, 1) := by decide +kernel
theorem dX9_feed_0 : decode cX9_feed 0 = .ok (.aload_n 0, 1) := by decide +kernel
theorem dX9_feed_1 : decode cX9_feed 1 = .ok (.iload_n 1, 1) := by decide +kernel
theorem dX9_feed_2 : decode cX9_feed 2 = .ok (.iconst 1, 1) := by decide +kernel
theorem dX9_feed_3 : decode cX9_feed 3 = .ok (.if_icmp .lt 21, 3) := by decide +kernel
theorem dX9_feed_6 : decode cX9_feed 6 = .ok (.iload_n 1, 1) := by decide +kernel
theorem dX9_feed_7 : decode cX9_feed 7 = .ok (.bipush 8, 2) := by decide +kernel
theorem dX9_feed_9 : decode cX9_feed 9 = .ok (.if_icmp .gt 15, 3) := by decide +kernel
theorem dX9_feed_12 : decode cX9_feed 12 = .ok (.aload_n 0, 1) := by decide +kernel
theorem dX9_feed_13 : decode cX9_feed 13 = .ok (.getfield 69, 3) := by decide +kernel
theorem dX9_feed_16 : decode cX9_feed 16 = .ok (.iload_n 1, 1) := by decide +kernel
theorem dX9_feed_17 : decode cX9_feed 17 = .ok (.iadd, 1) := by decide +kernel
theorem dX9_feed_18 : decode cX9_feed 18 = .ok (.sipush 6000, 3) := by decide +kernel
theorem dX9_feed_21 : decode cX9_feed 21 = .ok (.if_icmp .le 7, 3) := by decide +kernel
theorem dX9_feed_24 : decode cX9_feed 24 = .ok (.iconst 1, 1) := by decide +kernel
theorem dX9_feed_25 : decode cX9_feed 25 = .ok (.goto 4, 3) := by decide +kernel
theorem dX9_feed_28 : decode cX9_feed 28 = .ok (.iconst 0, 1) := by decide +kernel
theorem dX9_feed_29 : decode cX9_feed 29 = .ok (.putfield 66, 3) := by decide +kernel
theorem dX9_feed_32 : decode cX9_feed 32 = .ok (.aload_n 0, 1) := by decide +kernel
theorem dX9_feed_33 : decode cX9_feed 33 = .ok (.getfield 66, 3) := by decide +kernel
theorem dX9_feed_36 : decode cX9_feed 36 = .ok (.ifCond .le 5, 3) := by decide +kernel
theorem dX9_feed_39 : decode cX9_feed 39 = .ok (.iconst 0, 1) := by decide +kernel
theorem dX9_feed_40 : decode cX9_feed 40 = .ok (.ireturn, 1) := by decide +kernel
theorem dX9_feed_41 : decode cX9_feed 41 = .ok (.iconst 0, 1) := by decide +kernel
theorem dX9_feed_42 : decode cX9_feed 42 = .ok (.istore 4, 2) := by decide +kernel
theorem dX9_feed_44 : decode cX9_feed 44 = .ok (.iload 4, 2) := by decide +kernel
theorem dX9_feed_46 : decode cX9_feed 46 = .ok (.iload_n 1, 1) := by decide +kernel
theorem dX9_feed_47 : decode cX9_feed 47 = .ok (.if_icmp .ge 33, 3) := by decide +kernel
theorem dX9_feed_50 : decode cX9_feed 50 = .ok (.aload_n 0, 1) := by decide +kernel
theorem dX9_feed_51 : decode cX9_feed 51 = .ok (.getfield 7, 3) := by decide +kernel
theorem dX9_feed_54 : decode cX9_feed 54 = .ok (.aload_n 0, 1) := by decide +kernel
theorem dX9_feed_55 : decode cX9_feed 55 = .ok (.getfield 69, 3) := by decide +kernel
theorem dX9_feed_58 : decode cX9_feed 58 = .ok (.iload 4, 2) := by decide +kernel
theorem dX9_feed_60 : decode cX9_feed 60 = .ok (.iadd, 1) := by decide +kernel
theorem dX9_feed_61 : decode cX9_feed 61 = .ok (.lload_n 2, 1) := by decide +kernel
theorem dX9_feed_62 : decode cX9_feed 62 = .ok (.bipush 8, 2) := by decide +kernel
theorem dX9_feed_64 : decode cX9_feed 64 = .ok (.iload 4, 2) := by decide +kernel
theorem dX9_feed_66 : decode cX9_feed 66 = .ok (.imul, 1) := by decide +kernel
theorem dX9_feed_67 : decode cX9_feed 67 = .ok (.lshr, 1) := by decide +kernel
theorem dX9_feed_68 : decode cX9_feed 68 = .ok (.ldc2_w 72, 3) := by decide +kernel
theorem dX9_feed_71 : decode cX9_feed 71 = .ok (.land, 1) := by decide +kernel
theorem dX9_feed_72 : decode cX9_feed 72 = .ok (.l2i, 1) := by decide +kernel
theorem dX9_feed_73 : decode cX9_feed 73 = .ok (.iastore, 1) := by decide +kernel
theorem dX9_feed_74 : decode cX9_feed 74 = .ok (.iinc 4 1, 3) := by decide +kernel
theorem dX9_feed_77 : decode cX9_feed 77 = .ok (.goto (-33), 3) := by decide +kernel
theorem dX9_feed_80 : decode cX9_feed 80 = .ok (.aload_n 0, 1) := by decide +kernel
theorem dX9_feed_81 : decode cX9_feed 81 = .ok (.dup, 1) := by decide +kernel
theorem dX9_feed_82 : decode cX9_feed 82 = .ok (.getfield 69, 3) := by decide +kernel
theorem dX9_feed_85 : decode cX9_feed 85 = .ok (.iload_n 1, 1) := by decide +kernel
theorem dX9_feed_86 : decode cX9_feed 86 = .ok (.iadd, 1) := by decide +kernel
theorem dX9_feed_87 : decode cX9_feed 87 = .ok (.putfield 69, 3) := by decide +kernel
theorem dX9_feed_90 : decode cX9_feed 90 = .ok (.aload_n 0, 1) := by decide +kernel
theorem dX9_feed_91 : decode cX9_feed 91 = .ok (.getfield 69, 3) := by decide +kernel
theorem dX9_feed_94 : decode cX9_feed 94 = .ok (.ireturn, 1) := by decide +kernel
theorem dX9_faulty_0 : decode cX9_faulty 0 = .ok (.aload_n 0, 1) := by decide +kernel
theorem dX9_faulty_1 : decode cX9_faulty 1 = .ok (.iload_n 1, 1) := by decide +kernel
theorem dX9_faulty_2 : decode cX9_faulty 2 = .ok (.putfield 74, 3) := by decide +kernel
theorem dX9_faulty_5 : decode cX9_faulty 5 = .ok (.aload_n 0, 1) := by decide +kernel
theorem dX9_faulty_6 : decode cX9_faulty 6 = .ok (.aload_n 0, 1) := by decide +kernel
theorem dX9_faulty_7 : decode cX9_faulty 7 = .ok (.getfield 77, 3) := by decide +kernel
theorem dX9_faulty_10 : decode cX9_faulty 10 = .ok (.putfield 13, 3) := by decide +kernel
theorem dX9_faulty_13 : decode cX9_faulty 13 = .ok (.iconst 0, 1) := by decide +kernel
theorem dX9_faulty_14 : decode cX9_faulty 14 = .ok (.ireturn, 1) := by decide +kernel
theorem dX9_look_0 : decode cX9_look 0 = .ok (.aload_n 0, 1) := by decide +kernel
theorem dX9_look_1 : decode cX9_look 1 = .ok (.getfield 77, 3) := by decide +kernel
theorem dX9_look_4 : decode cX9_look 4 = .ok (.aload_n 0, 1) := by decide +kernel
theorem dX9_look_5 : decode cX9_look 5 = .ok (.getfield 69, 3) := by decide +kernel
theorem dX9_look_8 : decode cX9_look 8 = .ok (.if_icmp .ge 15, 3) := by decide +kernel
theorem dX9_look_11 : decode cX9_look 11 = .ok (.aload_n 0, 1) := by decide +kernel
theorem dX9_look_12 : decode cX9_look 12 = .ok (.getfield 7, 3) := by decide +kernel
theorem dX9_look_15 : decode cX9_look 15 = .ok (.aload_n 0, 1) := by decide +kernel
theorem dX9_look_16 : decode cX9_look 16 = .ok (.getfield 77, 3) := by decide +kernel
theorem dX9_look_19 : decode cX9_look 19 = .ok (.iaload, 1) := by decide +kernel
theorem dX9_look_20 : decode cX9_look 20 = .ok (.goto 4, 3) := by decide +kernel
theorem dX9_look_23 : decode cX9_look 23 = .ok (.iconst (-1), 1) := by decide +kernel
theorem dX9_look_24 : decode cX9_look 24 = .ok (.ireturn, 1) := by decide +kernel
theorem dX9_letterOf_0 : decode cX9_letterOf 0 = .ok (.iload_n 0, 1) := by decide +kernel
theorem dX9_letterOf_1 : decode cX9_letterOf 1 = .ok (.bipush 65, 2) := by decide +kernel
theorem dX9_letterOf_3 : decode cX9_letterOf 3 = .ok (.if_icmp .eq 27, 3) := by decide +kernel
theorem dX9_letterOf_6 : decode cX9_letterOf 6 = .ok (.iload_n 0, 1) := by decide +kernel
theorem dX9_letterOf_7 : decode cX9_letterOf 7 = .ok (.bipush 67, 2) := by decide +kernel
theorem dX9_letterOf_9 : decode cX9_letterOf 9 = .ok (.if_icmp .eq 21, 3) := by decide +kernel
theorem dX9_letterOf_12 : decode cX9_letterOf 12 = .ok (.iload_n 0, 1) := by decide +kernel
theorem dX9_letterOf_13 : decode cX9_letterOf 13 = .ok (.bipush 71, 2) := by decide +kernel
theorem dX9_letterOf_15 : decode cX9_letterOf 15 = .ok (.if_icmp .eq 15, 3) := by decide +kernel
theorem dX9_letterOf_18 : decode cX9_letterOf 18 = .ok (.iload_n 0, 1) := by decide +kernel
theorem dX9_letterOf_19 : decode cX9_letterOf 19 = .ok (.bipush 78, 2) := by decide +kernel
theorem dX9_letterOf_21 : decode cX9_letterOf 21 = .ok (.if_icmp .eq 9, 3) := by decide +kernel
theorem dX9_letterOf_24 : decode cX9_letterOf 24 = .ok (.iload_n 0, 1) := by decide +kernel
theorem dX9_letterOf_25 : decode cX9_letterOf 25 = .ok (.bipush 84, 2) := by decide +kernel
theorem dX9_letterOf_27 : decode cX9_letterOf 27 = .ok (.if_icmp .ne 7, 3) := by decide +kernel
theorem dX9_letterOf_30 : decode cX9_letterOf 30 = .ok (.iload_n 0, 1) := by decide +kernel
theorem dX9_letterOf_31 : decode cX9_letterOf 31 = .ok (.goto 4, 3) := by decide +kernel
theorem dX9_letterOf_34 : decode cX9_letterOf 34 = .ok (.iconst (-1), 1) := by decide +kernel
theorem dX9_letterOf_35 : decode cX9_letterOf 35 = .ok (.ireturn, 1) := by decide +kernel
theorem dX9_must_0 : decode cX9_must 0 = .ok (.aload_n 0, 1) := by decide +kernel
theorem dX9_must_1 : decode cX9_must 1 = .ok (.getfield 77, 3) := by decide +kernel
theorem dX9_must_4 : decode cX9_must 4 = .ok (.aload_n 0, 1) := by decide +kernel
theorem dX9_must_5 : decode cX9_must 5 = .ok (.getfield 69, 3) := by decide +kernel
theorem dX9_must_8 : decode cX9_must 8 = .ok (.if_icmp .ne 9, 3) := by decide +kernel
theorem dX9_must_11 : decode cX9_must 11 = .ok (.aload_n 0, 1) := by decide +kernel
theorem dX9_must_12 : decode cX9_must 12 = .ok (.iconst 1, 1) := by decide +kernel
theorem dX9_must_13 : decode cX9_must 13 = .ok (.invokevirtual 80, 3) := by decide +kernel
theorem dX9_must_16 : decode cX9_must 16 = .ok (.ireturn, 1) := by decide +kernel
theorem dX9_must_17 : decode cX9_must 17 = .ok (.aload_n 0, 1) := by decide +kernel
theorem dX9_must_18 : decode cX9_must 18 = .ok (.invokevirtual 84, 3) := by decide +kernel
theorem dX9_must_21 : decode cX9_must 21 = .ok (.iload_n 1, 1) := by decide +kernel
theorem dX9_must_22 : decode cX9_must 22 = .ok (.if_icmp .eq 9, 3) := by decide +kernel
theorem dX9_must_25 : decode cX9_must 25 = .ok (.aload_n 0, 1) := by decide +kernel
theorem dX9_must_26 : decode cX9_must 26 = .ok (.iconst 2, 1) := by decide +kernel
theorem dX9_must_27 : decode cX9_must 27 = .ok (.invokevirtual 80, 3) := by decide +kernel
theorem dX9_must_30 : decode cX9_must 30 = .ok (.ireturn, 1) := by decide +kernel
theorem dX9_must_31 : decode cX9_must 31 = .ok (.aload_n 0, 1) := by decide +kernel
theorem dX9_must_32 : decode cX9_must 32 = .ok (.dup, 1) := by decide +kernel
theorem dX9_must_33 : decode cX9_must 33 = .ok (.getfield 77, 3) := by decide +kernel
theorem dX9_must_36 : decode cX9_must 36 = .ok (.iconst 1, 1) := by decide +kernel
theorem dX9_must_37 : decode cX9_must 37 = .ok (.iadd, 1) := by decide +kernel
theorem dX9_must_38 : decode cX9_must 38 = .ok (.putfield 77, 3) := by decide +kernel
theorem dX9_must_41 : decode cX9_must 41 = .ok (.iconst 1, 1) := by decide +kernel
theorem dX9_must_42 : decode cX9_must 42 = .ok (.ireturn, 1) := by decide +kernel
theorem dX9_nameLine_0 : decode cX9_nameLine 0 = .ok (.aload_n 0, 1) := by decide +kernel
theorem dX9_nameLine_1 : decode cX9_nameLine 1 = .ok (.getfield 77, 3) := by decide +kernel
theorem dX9_nameLine_4 : decode cX9_nameLine 4 = .ok (.aload_n 0, 1) := by decide +kernel
theorem dX9_nameLine_5 : decode cX9_nameLine 5 = .ok (.getfield 69, 3) := by decide +kernel
theorem dX9_nameLine_8 : decode cX9_nameLine 8 = .ok (.if_icmp .ne 9, 3) := by decide +kernel
theorem dX9_nameLine_11 : decode cX9_nameLine 11 = .ok (.aload_n 0, 1) := by decide +kernel
theorem dX9_nameLine_12 : decode cX9_nameLine 12 = .ok (.iconst 1, 1) := by decide +kernel
theorem dX9_nameLine_13 : decode cX9_nameLine 13 = .ok (.invokevirtual 80, 3) := by decide +kernel
theorem dX9_nameLine_16 : decode cX9_nameLine 16 = .ok (.ireturn, 1) := by decide +kernel
theorem dX9_nameLine_17 : decode cX9_nameLine 17 = .ok (.aload_n 0, 1) := by decide +kernel
theorem dX9_nameLine_18 : decode cX9_nameLine 18 = .ok (.invokevirtual 84, 3) := by decide +kernel
theorem dX9_nameLine_21 : decode cX9_nameLine 21 = .ok (.iload_n 1, 1) := by decide +kernel
theorem dX9_nameLine_22 : decode cX9_nameLine 22 = .ok (.if_icmp .eq 9, 3) := by decide +kernel
theorem dX9_nameLine_25 : decode cX9_nameLine 25 = .ok (.aload_n 0, 1) := by decide +kernel
theorem dX9_nameLine_26 : decode cX9_nameLine 26 = .ok (.iconst 2, 1) := by decide +kernel
theorem dX9_nameLine_27 : decode cX9_nameLine 27 = .ok (.invokevirtual 80, 3) := by decide +kernel
theorem dX9_nameLine_30 : decode cX9_nameLine 30 = .ok (.ireturn, 1) := by decide +kernel
theorem dX9_nameLine_31 : decode cX9_nameLine 31 = .ok (.aload_n 0, 1) := by decide +kernel
theorem dX9_nameLine_32 : decode cX9_nameLine 32 = .ok (.getfield 88, 3) := by decide +kernel
theorem dX9_nameLine_35 : decode cX9_nameLine 35 = .ok (.bipush 60, 2) := by decide +kernel
theorem dX9_nameLine_37 : decode cX9_nameLine 37 = .ok (.if_icmp .ne 9, 3) := by decide +kernel
theorem dX9_nameLine_40 : decode cX9_nameLine 40 = .ok (.aload_n 0, 1) := by decide +kernel
theorem dX9_nameLine_41 : decode cX9_nameLine 41 = .ok (.iconst 4, 1) := by decide +kernel
theorem dX9_nameLine_42 : decode cX9_nameLine 42 = .ok (.invokevirtual 80, 3) := by decide +kernel
theorem dX9_nameLine_45 : decode cX9_nameLine 45 = .ok (.ireturn, 1) := by decide +kernel
theorem dX9_nameLine_46 : decode cX9_nameLine 46 = .ok (.aload_n 0, 1) := by decide +kernel
theorem dX9_nameLine_47 : decode cX9_nameLine 47 = .ok (.dup, 1) := by decide +kernel
theorem dX9_nameLine_48 : decode cX9_nameLine 48 = .ok (.getfield 77, 3) := by decide +kernel
theorem dX9_nameLine_51 : decode cX9_nameLine 51 = .ok (.iconst 1, 1) := by decide +kernel
theorem dX9_nameLine_52 : decode cX9_nameLine 52 = .ok (.iadd, 1) := by decide +kernel
theorem dX9_nameLine_53 : decode cX9_nameLine 53 = .ok (.putfield 77, 3) := by decide +kernel
theorem dX9_nameLine_56 : decode cX9_nameLine 56 = .ok (.iconst 0, 1) := by decide +kernel
theorem dX9_nameLine_57 : decode cX9_nameLine 57 = .ok (.istore_n 3, 1) := by decide +kernel
theorem dX9_nameLine_58 : decode cX9_nameLine 58 = .ok (.aload_n 0, 1) := by decide +kernel
theorem dX9_nameLine_59 : decode cX9_nameLine 59 = .ok (.invokevirtual 84, 3) := by decide +kernel
theorem dX9_nameLine_62 : decode cX9_nameLine 62 = .ok (.bipush 33, 2) := by decide +kernel
theorem dX9_nameLine_64 : decode cX9_nameLine 64 = .ok (.if_icmp .lt 55, 3) := by decide +kernel
theorem dX9_nameLine_67 : decode cX9_nameLine 67 = .ok (.aload_n 0, 1) := by decide +kernel
theorem dX9_nameLine_68 : decode cX9_nameLine 68 = .ok (.invokevirtual 84, 3) := by decide +kernel
theorem dX9_nameLine_71 : decode cX9_nameLine 71 = .ok (.bipush 126, 2) := by decide +kernel
theorem dX9_nameLine_73 : decode cX9_nameLine 73 = .ok (.if_icmp .gt 46, 3) := by decide +kernel
theorem dX9_nameLine_76 : decode cX9_nameLine 76 = .ok (.iload_n 3, 1) := by decide +kernel
theorem dX9_nameLine_77 : decode cX9_nameLine 77 = .ok (.bipush 40, 2) := by decide +kernel
theorem dX9_nameLine_79 : decode cX9_nameLine 79 = .ok (.if_icmp .ne 9, 3) := by decide +kernel
theorem dX9_nameLine_82 : decode cX9_nameLine 82 = .ok (.aload_n 0, 1) := by decide +kernel
theorem dX9_nameLine_83 : decode cX9_nameLine 83 = .ok (.iconst 3, 1) := by decide +kernel
theorem dX9_nameLine_84 : decode cX9_nameLine 84 = .ok (.invokevirtual 80, 3) := by decide +kernel
theorem dX9_nameLine_87 : decode cX9_nameLine 87 = .ok (.ireturn, 1) := by decide +kernel
theorem dX9_nameLine_88 : decode cX9_nameLine 88 = .ok (.aload_n 0, 1) := by decide +kernel
theorem dX9_nameLine_89 : decode cX9_nameLine 89 = .ok (.getfield 20, 3) := by decide +kernel
theorem dX9_nameLine_92 : decode cX9_nameLine 92 = .ok (.bipush 40, 2) := by decide +kernel
theorem dX9_nameLine_94 : decode cX9_nameLine 94 = .ok (.iload_n 2, 1) := by decide +kernel
theorem dX9_nameLine_95 : decode cX9_nameLine 95 = .ok (.imul, 1) := by decide +kernel
theorem dX9_nameLine_96 : decode cX9_nameLine 96 = .ok (.iload_n 3, 1) := by decide +kernel
theorem dX9_nameLine_97 : decode cX9_nameLine 97 = .ok (.iadd, 1) := by decide +kernel
theorem dX9_nameLine_98 : decode cX9_nameLine 98 = .ok (.aload_n 0, 1) := by decide +kernel
theorem dX9_nameLine_99 : decode cX9_nameLine 99 = .ok (.invokevirtual 84, 3) := by decide +kernel
theorem dX9_nameLine_102 : decode cX9_nameLine 102 = .ok (.iastore, 1) := by decide +kernel
theorem dX9_nameLine_103 : decode cX9_nameLine 103 = .ok (.iinc 3 1, 3) := by decide +kernel
theorem dX9_nameLine_106 : decode cX9_nameLine 106 = .ok (.aload_n 0, 1) := by decide +kernel
theorem dX9_nameLine_107 : decode cX9_nameLine 107 = .ok (.dup, 1) := by decide +kernel
theorem dX9_nameLine_108 : decode cX9_nameLine 108 = .ok (.getfield 77, 3) := by decide +kernel
theorem dX9_nameLine_111 : decode cX9_nameLine 111 = .ok (.iconst 1, 1) := by decide +kernel
theorem dX9_nameLine_112 : decode cX9_nameLine 112 = .ok (.iadd, 1) := by decide +kernel
theorem dX9_nameLine_113 : decode cX9_nameLine 113 = .ok (.putfield 77, 3) := by decide +kernel
theorem dX9_nameLine_116 : decode cX9_nameLine 116 = .ok (.goto (-58), 3) := by decide +kernel
theorem dX9_nameLine_119 : decode cX9_nameLine 119 = .ok (.aload_n 0, 1) := by decide +kernel
theorem dX9_nameLine_120 : decode cX9_nameLine 120 = .ok (.getfield 17, 3) := by decide +kernel
theorem dX9_nameLine_123 : decode cX9_nameLine 123 = .ok (.iload_n 2, 1) := by decide +kernel
theorem dX9_nameLine_124 : decode cX9_nameLine 124 = .ok (.iload_n 3, 1) := by decide +kernel
theorem dX9_nameLine_125 : decode cX9_nameLine 125 = .ok (.iastore, 1) := by decide +kernel
theorem dX9_nameLine_126 : decode cX9_nameLine 126 = .ok (.iload_n 3, 1) := by decide +kernel
theorem dX9_nameLine_127 : decode cX9_nameLine 127 = .ok (.ifCond .ne 18, 3) := by decide +kernel
theorem dX9_nameLine_130 : decode cX9_nameLine 130 = .ok (.aload_n 0, 1) := by decide +kernel
theorem dX9_nameLine_131 : decode cX9_nameLine 131 = .ok (.invokevirtual 84, 3) := by decide +kernel
theorem dX9_nameLine_134 : decode cX9_nameLine 134 = .ok (.bipush 10, 2) := by decide +kernel
theorem dX9_nameLine_136 : decode cX9_nameLine 136 = .ok (.if_icmp .ne 9, 3) := by decide +kernel
theorem dX9_nameLine_139 : decode cX9_nameLine 139 = .ok (.aload_n 0, 1) := by decide +kernel
theorem dX9_nameLine_140 : decode cX9_nameLine 140 = .ok (.iconst 2, 1) := by decide +kernel
theorem dX9_nameLine_141 : decode cX9_nameLine 141 = .ok (.invokevirtual 80, 3) := by decide +kernel
theorem dX9_nameLine_144 : decode cX9_nameLine 144 = .ok (.ireturn, 1) := by decide +kernel
theorem dX9_nameLine_145 : decode cX9_nameLine 145 = .ok (.aload_n 0, 1) := by decide +kernel
theorem dX9_nameLine_146 : decode cX9_nameLine 146 = .ok (.bipush 10, 2) := by decide +kernel
theorem dX9_nameLine_148 : decode cX9_nameLine 148 = .ok (.invokevirtual 91, 3) := by decide +kernel
theorem dX9_nameLine_151 : decode cX9_nameLine 151 = .ok (.ireturn, 1) := by decide +kernel
theorem dX9_letterLine_0 : decode cX9_letterLine 0 = .ok (.iconst 0, 1) := by decide +kernel
theorem dX9_letterLine_1 : decode cX9_letterLine 1 = .ok (.istore_n 2, 1) := by decide +kernel
theorem dX9_letterLine_2 : decode cX9_letterLine 2 = .ok (.aload_n 0, 1) := by decide +kernel
theorem dX9_letterLine_3 : decode cX9_letterLine 3 = .ok (.invokevirtual 84, 3) := by decide +kernel
theorem dX9_letterLine_6 : decode cX9_letterLine 6 = .ok (.invokestatic 94, 3) := by decide +kernel
theorem dX9_letterLine_9 : decode cX9_letterLine 9 = .ok (.ifCond .le 84, 3) := by decide +kernel
theorem dX9_letterLine_12 : decode cX9_letterLine 12 = .ok (.aload_n 0, 1) := by decide +kernel
theorem dX9_letterLine_13 : decode cX9_letterLine 13 = .ok (.getfield 23, 3) := by decide +kernel
theorem dX9_letterLine_16 : decode cX9_letterLine 16 = .ok (.iload_n 1, 1) := by decide +kernel
theorem dX9_letterLine_17 : decode cX9_letterLine 17 = .ok (.iaload, 1) := by decide +kernel
theorem dX9_letterLine_18 : decode cX9_letterLine 18 = .ok (.bipush 120, 2) := by decide +kernel
theorem dX9_letterLine_20 : decode cX9_letterLine 20 = .ok (.if_icmp .ne 9, 3) := by decide +kernel
theorem dX9_letterLine_23 : decode cX9_letterLine 23 = .ok (.aload_n 0, 1) := by decide +kernel
theorem dX9_letterLine_24 : decode cX9_letterLine 24 = .ok (.iconst 3, 1) := by decide +kernel
theorem dX9_letterLine_25 : decode cX9_letterLine 25 = .ok (.invokevirtual 80, 3) := by decide +kernel
theorem dX9_letterLine_28 : decode cX9_letterLine 28 = .ok (.ireturn, 1) := by decide +kernel
theorem dX9_letterLine_29 : decode cX9_letterLine 29 = .ok (.aload_n 0, 1) := by decide +kernel
theorem dX9_letterLine_30 : decode cX9_letterLine 30 = .ok (.getfield 26, 3) := by decide +kernel
theorem dX9_letterLine_33 : decode cX9_letterLine 33 = .ok (.bipush 120, 2) := by decide +kernel
theorem dX9_letterLine_35 : decode cX9_letterLine 35 = .ok (.iload_n 1, 1) := by decide +kernel
theorem dX9_letterLine_36 : decode cX9_letterLine 36 = .ok (.imul, 1) := by decide +kernel
theorem dX9_letterLine_37 : decode cX9_letterLine 37 = .ok (.aload_n 0, 1) := by decide +kernel
theorem dX9_letterLine_38 : decode cX9_letterLine 38 = .ok (.getfield 23, 3) := by decide +kernel
theorem dX9_letterLine_41 : decode cX9_letterLine 41 = .ok (.iload_n 1, 1) := by decide +kernel
theorem dX9_letterLine_42 : decode cX9_letterLine 42 = .ok (.iaload, 1) := by decide +kernel
theorem dX9_letterLine_43 : decode cX9_letterLine 43 = .ok (.iadd, 1) := by decide +kernel
theorem dX9_letterLine_44 : decode cX9_letterLine 44 = .ok (.aload_n 0, 1) := by decide +kernel
theorem dX9_letterLine_45 : decode cX9_letterLine 45 = .ok (.invokevirtual 84, 3) := by decide +kernel
theorem dX9_letterLine_48 : decode cX9_letterLine 48 = .ok (.iastore, 1) := by decide +kernel
theorem dX9_letterLine_49 : decode cX9_letterLine 49 = .ok (.aload_n 0, 1) := by decide +kernel
theorem dX9_letterLine_50 : decode cX9_letterLine 50 = .ok (.getfield 29, 3) := by decide +kernel
theorem dX9_letterLine_53 : decode cX9_letterLine 53 = .ok (.bipush 120, 2) := by decide +kernel
theorem dX9_letterLine_55 : decode cX9_letterLine 55 = .ok (.iload_n 1, 1) := by decide +kernel
theorem dX9_letterLine_56 : decode cX9_letterLine 56 = .ok (.imul, 1) := by decide +kernel
theorem dX9_letterLine_57 : decode cX9_letterLine 57 = .ok (.aload_n 0, 1) := by decide +kernel
theorem dX9_letterLine_58 : decode cX9_letterLine 58 = .ok (.getfield 23, 3) := by decide +kernel
theorem dX9_letterLine_61 : decode cX9_letterLine 61 = .ok (.iload_n 1, 1) := by decide +kernel
theorem dX9_letterLine_62 : decode cX9_letterLine 62 = .ok (.iaload, 1) := by decide +kernel
theorem dX9_letterLine_63 : decode cX9_letterLine 63 = .ok (.iadd, 1) := by decide +kernel
theorem dX9_letterLine_64 : decode cX9_letterLine 64 = .ok (.bipush 40, 2) := by decide +kernel
theorem dX9_letterLine_66 : decode cX9_letterLine 66 = .ok (.iastore, 1) := by decide +kernel
theorem dX9_letterLine_67 : decode cX9_letterLine 67 = .ok (.aload_n 0, 1) := by decide +kernel
theorem dX9_letterLine_68 : decode cX9_letterLine 68 = .ok (.getfield 23, 3) := by decide +kernel
theorem dX9_letterLine_71 : decode cX9_letterLine 71 = .ok (.iload_n 1, 1) := by decide +kernel
theorem dX9_letterLine_72 : decode cX9_letterLine 72 = .ok (.dup2, 1) := by decide +kernel
theorem dX9_letterLine_73 : decode cX9_letterLine 73 = .ok (.iaload, 1) := by decide +kernel
theorem dX9_letterLine_74 : decode cX9_letterLine 74 = .ok (.iconst 1, 1) := by decide +kernel
theorem dX9_letterLine_75 : decode cX9_letterLine 75 = .ok (.iadd, 1) := by decide +kernel
theorem dX9_letterLine_76 : decode cX9_letterLine 76 = .ok (.iastore, 1) := by decide +kernel
theorem dX9_letterLine_77 : decode cX9_letterLine 77 = .ok (.iinc 2 1, 3) := by decide +kernel
theorem dX9_letterLine_80 : decode cX9_letterLine 80 = .ok (.aload_n 0, 1) := by decide +kernel
theorem dX9_letterLine_81 : decode cX9_letterLine 81 = .ok (.dup, 1) := by decide +kernel
theorem dX9_letterLine_82 : decode cX9_letterLine 82 = .ok (.getfield 77, 3) := by decide +kernel
theorem dX9_letterLine_85 : decode cX9_letterLine 85 = .ok (.iconst 1, 1) := by decide +kernel
theorem dX9_letterLine_86 : decode cX9_letterLine 86 = .ok (.iadd, 1) := by decide +kernel
theorem dX9_letterLine_87 : decode cX9_letterLine 87 = .ok (.putfield 77, 3) := by decide +kernel
theorem dX9_letterLine_90 : decode cX9_letterLine 90 = .ok (.goto (-88), 3) := by decide +kernel
theorem dX9_letterLine_93 : decode cX9_letterLine 93 = .ok (.iload_n 2, 1) := by decide +kernel
theorem dX9_letterLine_94 : decode cX9_letterLine 94 = .ok (.ifCond .ne 20, 3) := by decide +kernel
theorem dX9_letterLine_97 : decode cX9_letterLine 97 = .ok (.aload_n 0, 1) := by decide +kernel
theorem dX9_letterLine_98 : decode cX9_letterLine 98 = .ok (.getfield 77, 3) := by decide +kernel
theorem dX9_letterLine_101 : decode cX9_letterLine 101 = .ok (.aload_n 0, 1) := by decide +kernel
theorem dX9_letterLine_102 : decode cX9_letterLine 102 = .ok (.getfield 69, 3) := by decide +kernel
theorem dX9_letterLine_105 : decode cX9_letterLine 105 = .ok (.if_icmp .ge 9, 3) := by decide +kernel
theorem dX9_letterLine_108 : decode cX9_letterLine 108 = .ok (.aload_n 0, 1) := by decide +kernel
theorem dX9_letterLine_109 : decode cX9_letterLine 109 = .ok (.iconst 2, 1) := by decide +kernel
theorem dX9_letterLine_110 : decode cX9_letterLine 110 = .ok (.invokevirtual 80, 3) := by decide +kernel
theorem dX9_letterLine_113 : decode cX9_letterLine 113 = .ok (.ireturn, 1) := by decide +kernel
theorem dX9_letterLine_114 : decode cX9_letterLine 114 = .ok (.aload_n 0, 1) := by decide +kernel
theorem dX9_letterLine_115 : decode cX9_letterLine 115 = .ok (.bipush 10, 2) := by decide +kernel
theorem dX9_letterLine_117 : decode cX9_letterLine 117 = .ok (.invokevirtual 91, 3) := by decide +kernel
theorem dX9_letterLine_120 : decode cX9_letterLine 120 = .ok (.ireturn, 1) := by decide +kernel
theorem dX9_plusLine_0 : decode cX9_plusLine 0 = .ok (.aload_n 0, 1) := by decide +kernel
theorem dX9_plusLine_1 : decode cX9_plusLine 1 = .ok (.bipush 43, 2) := by decide +kernel
theorem dX9_plusLine_3 : decode cX9_plusLine 3 = .ok (.invokevirtual 91, 3) := by decide +kernel
theorem dX9_plusLine_6 : decode cX9_plusLine 6 = .ok (.ifCond .ne 5, 3) := by decide +kernel
theorem dX9_plusLine_9 : decode cX9_plusLine 9 = .ok (.iconst 0, 1) := by decide +kernel
theorem dX9_plusLine_10 : decode cX9_plusLine 10 = .ok (.ireturn, 1) := by decide +kernel
theorem dX9_plusLine_11 : decode cX9_plusLine 11 = .ok (.aload_n 0, 1) := by decide +kernel
theorem dX9_plusLine_12 : decode cX9_plusLine 12 = .ok (.invokevirtual 84, 3) := by decide +kernel
theorem dX9_plusLine_15 : decode cX9_plusLine 15 = .ok (.bipush 10, 2) := by decide +kernel
theorem dX9_plusLine_17 : decode cX9_plusLine 17 = .ok (.if_icmp .ne 15, 3) := by decide +kernel
theorem dX9_plusLine_20 : decode cX9_plusLine 20 = .ok (.aload_n 0, 1) := by decide +kernel
theorem dX9_plusLine_21 : decode cX9_plusLine 21 = .ok (.dup, 1) := by decide +kernel
theorem dX9_plusLine_22 : decode cX9_plusLine 22 = .ok (.getfield 77, 3) := by decide +kernel
theorem dX9_plusLine_25 : decode cX9_plusLine 25 = .ok (.iconst 1, 1) := by decide +kernel
theorem dX9_plusLine_26 : decode cX9_plusLine 26 = .ok (.iadd, 1) := by decide +kernel
theorem dX9_plusLine_27 : decode cX9_plusLine 27 = .ok (.putfield 77, 3) := by decide +kernel
theorem dX9_plusLine_30 : decode cX9_plusLine 30 = .ok (.iconst 1, 1) := by decide +kernel
theorem dX9_plusLine_31 : decode cX9_plusLine 31 = .ok (.ireturn, 1) := by decide +kernel
theorem dX9_plusLine_32 : decode cX9_plusLine 32 = .ok (.iconst 0, 1) := by decide +kernel
theorem dX9_plusLine_33 : decode cX9_plusLine 33 = .ok (.istore_n 2, 1) := by decide +kernel
theorem dX9_plusLine_34 : decode cX9_plusLine 34 = .ok (.iload_n 2, 1) := by decide +kernel
theorem dX9_plusLine_35 : decode cX9_plusLine 35 = .ok (.aload_n 0, 1) := by decide +kernel
theorem dX9_plusLine_36 : decode cX9_plusLine 36 = .ok (.getfield 17, 3) := by decide +kernel
theorem dX9_plusLine_39 : decode cX9_plusLine 39 = .ok (.iload_n 1, 1) := by decide +kernel
theorem dX9_plusLine_40 : decode cX9_plusLine 40 = .ok (.iaload, 1) := by decide +kernel
theorem dX9_plusLine_41 : decode cX9_plusLine 41 = .ok (.if_icmp .ge 29, 3) := by decide +kernel
theorem dX9_plusLine_44 : decode cX9_plusLine 44 = .ok (.aload_n 0, 1) := by decide +kernel
theorem dX9_plusLine_45 : decode cX9_plusLine 45 = .ok (.aload_n 0, 1) := by decide +kernel
theorem dX9_plusLine_46 : decode cX9_plusLine 46 = .ok (.getfield 20, 3) := by decide +kernel
theorem dX9_plusLine_49 : decode cX9_plusLine 49 = .ok (.bipush 40, 2) := by decide +kernel
theorem dX9_plusLine_51 : decode cX9_plusLine 51 = .ok (.iload_n 1, 1) := by decide +kernel
theorem dX9_plusLine_52 : decode cX9_plusLine 52 = .ok (.imul, 1) := by decide +kernel
theorem dX9_plusLine_53 : decode cX9_plusLine 53 = .ok (.iload_n 2, 1) := by decide +kernel
theorem dX9_plusLine_54 : decode cX9_plusLine 54 = .ok (.iadd, 1) := by decide +kernel
theorem dX9_plusLine_55 : decode cX9_plusLine 55 = .ok (.iaload, 1) := by decide +kernel
theorem dX9_plusLine_56 : decode cX9_plusLine 56 = .ok (.invokevirtual 91, 3) := by decide +kernel
theorem dX9_plusLine_59 : decode cX9_plusLine 59 = .ok (.ifCond .ne 5, 3) := by decide +kernel
theorem dX9_plusLine_62 : decode cX9_plusLine 62 = .ok (.iconst 0, 1) := by decide +kernel
theorem dX9_plusLine_63 : decode cX9_plusLine 63 = .ok (.ireturn, 1) := by decide +kernel
theorem dX9_plusLine_64 : decode cX9_plusLine 64 = .ok (.iinc 2 1, 3) := by decide +kernel
theorem dX9_plusLine_67 : decode cX9_plusLine 67 = .ok (.goto (-33), 3) := by decide +kernel
theorem dX9_plusLine_70 : decode cX9_plusLine 70 = .ok (.aload_n 0, 1) := by decide +kernel
theorem dX9_plusLine_71 : decode cX9_plusLine 71 = .ok (.bipush 10, 2) := by decide +kernel
theorem dX9_plusLine_73 : decode cX9_plusLine 73 = .ok (.invokevirtual 91, 3) := by decide +kernel
theorem dX9_plusLine_76 : decode cX9_plusLine 76 = .ok (.ireturn, 1) := by decide +kernel
theorem dX9_qualityLine_0 : decode cX9_qualityLine 0 = .ok (.iconst 0, 1) := by decide +kernel
theorem dX9_qualityLine_1 : decode cX9_qualityLine 1 = .ok (.istore_n 2, 1) := by decide +kernel
theorem dX9_qualityLine_2 : decode cX9_qualityLine 2 = .ok (.iload_n 2, 1) := by decide +kernel
theorem dX9_qualityLine_3 : decode cX9_qualityLine 3 = .ok (.aload_n 0, 1) := by decide +kernel
theorem dX9_qualityLine_4 : decode cX9_qualityLine 4 = .ok (.getfield 23, 3) := by decide +kernel
theorem dX9_qualityLine_7 : decode cX9_qualityLine 7 = .ok (.iload_n 1, 1) := by decide +kernel
theorem dX9_qualityLine_8 : decode cX9_qualityLine 8 = .ok (.iaload, 1) := by decide +kernel
theorem dX9_qualityLine_9 : decode cX9_qualityLine 9 = .ok (.if_icmp .ge 78, 3) := by decide +kernel
theorem dX9_qualityLine_12 : decode cX9_qualityLine 12 = .ok (.aload_n 0, 1) := by decide +kernel
theorem dX9_qualityLine_13 : decode cX9_qualityLine 13 = .ok (.getfield 77, 3) := by decide +kernel
theorem dX9_qualityLine_16 : decode cX9_qualityLine 16 = .ok (.aload_n 0, 1) := by decide +kernel
theorem dX9_qualityLine_17 : decode cX9_qualityLine 17 = .ok (.getfield 69, 3) := by decide +kernel
theorem dX9_qualityLine_20 : decode cX9_qualityLine 20 = .ok (.if_icmp .ne 9, 3) := by decide +kernel
theorem dX9_qualityLine_23 : decode cX9_qualityLine 23 = .ok (.aload_n 0, 1) := by decide +kernel
theorem dX9_qualityLine_24 : decode cX9_qualityLine 24 = .ok (.iconst 1, 1) := by decide +kernel
theorem dX9_qualityLine_25 : decode cX9_qualityLine 25 = .ok (.invokevirtual 80, 3) := by decide +kernel
theorem dX9_qualityLine_28 : decode cX9_qualityLine 28 = .ok (.ireturn, 1) := by decide +kernel
theorem dX9_qualityLine_29 : decode cX9_qualityLine 29 = .ok (.aload_n 0, 1) := by decide +kernel
theorem dX9_qualityLine_30 : decode cX9_qualityLine 30 = .ok (.invokevirtual 84, 3) := by decide +kernel
theorem dX9_qualityLine_33 : decode cX9_qualityLine 33 = .ok (.bipush 33, 2) := by decide +kernel
theorem dX9_qualityLine_35 : decode cX9_qualityLine 35 = .ok (.if_icmp .lt 12, 3) := by decide +kernel
theorem dX9_qualityLine_38 : decode cX9_qualityLine 38 = .ok (.aload_n 0, 1) := by decide +kernel
theorem dX9_qualityLine_39 : decode cX9_qualityLine 39 = .ok (.invokevirtual 84, 3) := by decide +kernel
theorem dX9_qualityLine_42 : decode cX9_qualityLine 42 = .ok (.bipush 126, 2) := by decide +kernel
theorem dX9_qualityLine_44 : decode cX9_qualityLine 44 = .ok (.if_icmp .le 9, 3) := by decide +kernel
theorem dX9_qualityLine_47 : decode cX9_qualityLine 47 = .ok (.aload_n 0, 1) := by decide +kernel
theorem dX9_qualityLine_48 : decode cX9_qualityLine 48 = .ok (.iconst 2, 1) := by decide +kernel
theorem dX9_qualityLine_49 : decode cX9_qualityLine 49 = .ok (.invokevirtual 80, 3) := by decide +kernel
theorem dX9_qualityLine_52 : decode cX9_qualityLine 52 = .ok (.ireturn, 1) := by decide +kernel
theorem dX9_qualityLine_53 : decode cX9_qualityLine 53 = .ok (.aload_n 0, 1) := by decide +kernel
theorem dX9_qualityLine_54 : decode cX9_qualityLine 54 = .ok (.getfield 29, 3) := by decide +kernel
theorem dX9_qualityLine_57 : decode cX9_qualityLine 57 = .ok (.bipush 120, 2) := by decide +kernel
theorem dX9_qualityLine_59 : decode cX9_qualityLine 59 = .ok (.iload_n 1, 1) := by decide +kernel
theorem dX9_qualityLine_60 : decode cX9_qualityLine 60 = .ok (.imul, 1) := by decide +kernel
theorem dX9_qualityLine_61 : decode cX9_qualityLine 61 = .ok (.iload_n 2, 1) := by decide +kernel
theorem dX9_qualityLine_62 : decode cX9_qualityLine 62 = .ok (.iadd, 1) := by decide +kernel
theorem dX9_qualityLine_63 : decode cX9_qualityLine 63 = .ok (.aload_n 0, 1) := by decide +kernel
theorem dX9_qualityLine_64 : decode cX9_qualityLine 64 = .ok (.invokevirtual 84, 3) := by decide +kernel
theorem dX9_qualityLine_67 : decode cX9_qualityLine 67 = .ok (.bipush 33, 2) := by decide +kernel
theorem dX9_qualityLine_69 : decode cX9_qualityLine 69 = .ok (.isub, 1) := by decide +kernel
theorem dX9_qualityLine_70 : decode cX9_qualityLine 70 = .ok (.iastore, 1) := by decide +kernel
theorem dX9_qualityLine_71 : decode cX9_qualityLine 71 = .ok (.aload_n 0, 1) := by decide +kernel
theorem dX9_qualityLine_72 : decode cX9_qualityLine 72 = .ok (.dup, 1) := by decide +kernel
theorem dX9_qualityLine_73 : decode cX9_qualityLine 73 = .ok (.getfield 77, 3) := by decide +kernel
theorem dX9_qualityLine_76 : decode cX9_qualityLine 76 = .ok (.iconst 1, 1) := by decide +kernel
theorem dX9_qualityLine_77 : decode cX9_qualityLine 77 = .ok (.iadd, 1) := by decide +kernel
theorem dX9_qualityLine_78 : decode cX9_qualityLine 78 = .ok (.putfield 77, 3) := by decide +kernel
theorem dX9_qualityLine_81 : decode cX9_qualityLine 81 = .ok (.iinc 2 1, 3) := by decide +kernel
theorem dX9_qualityLine_84 : decode cX9_qualityLine 84 = .ok (.goto (-82), 3) := by decide +kernel
theorem dX9_qualityLine_87 : decode cX9_qualityLine 87 = .ok (.aload_n 0, 1) := by decide +kernel
theorem dX9_qualityLine_88 : decode cX9_qualityLine 88 = .ok (.bipush 10, 2) := by decide +kernel
theorem dX9_qualityLine_90 : decode cX9_qualityLine 90 = .ok (.invokevirtual 91, 3) := by decide +kernel
theorem dX9_qualityLine_93 : decode cX9_qualityLine 93 = .ok (.ireturn, 1) := by decide +kernel
theorem dX9_readOne_0 : decode cX9_readOne 0 = .ok (.bipush 60, 2) := by decide +kernel
theorem dX9_readOne_2 : decode cX9_readOne 2 = .ok (.aload_n 0, 1) := by decide +kernel
theorem dX9_readOne_3 : decode cX9_readOne 3 = .ok (.getfield 88, 3) := by decide +kernel
theorem dX9_readOne_6 : decode cX9_readOne 6 = .ok (.bipush 60, 2) := by decide +kernel
theorem dX9_readOne_8 : decode cX9_readOne 8 = .ok (.if_icmp .ge 10, 3) := by decide +kernel
theorem dX9_readOne_11 : decode cX9_readOne 11 = .ok (.aload_n 0, 1) := by decide +kernel
theorem dX9_readOne_12 : decode cX9_readOne 12 = .ok (.getfield 88, 3) := by decide +kernel
theorem dX9_readOne_15 : decode cX9_readOne 15 = .ok (.goto 4, 3) := by decide +kernel
theorem dX9_readOne_18 : decode cX9_readOne 18 = .ok (.iconst 0, 1) := by decide +kernel
theorem dX9_readOne_19 : decode cX9_readOne 19 = .ok (.iadd, 1) := by decide +kernel
theorem dX9_readOne_20 : decode cX9_readOne 20 = .ok (.istore_n 2, 1) := by decide +kernel
theorem dX9_readOne_21 : decode cX9_readOne 21 = .ok (.iload_n 1, 1) := by decide +kernel
theorem dX9_readOne_22 : decode cX9_readOne 22 = .ok (.ifCond .ne 8, 3) := by decide +kernel
theorem dX9_readOne_25 : decode cX9_readOne 25 = .ok (.bipush 64, 2) := by decide +kernel
theorem dX9_readOne_27 : decode cX9_readOne 27 = .ok (.goto 5, 3) := by decide +kernel
theorem dX9_readOne_30 : decode cX9_readOne 30 = .ok (.bipush 62, 2) := by decide +kernel
theorem dX9_readOne_32 : decode cX9_readOne 32 = .ok (.istore_n 3, 1) := by decide +kernel
theorem dX9_readOne_33 : decode cX9_readOne 33 = .ok (.aload_n 0, 1) := by decide +kernel
theorem dX9_readOne_34 : decode cX9_readOne 34 = .ok (.getfield 88, 3) := by decide +kernel
theorem dX9_readOne_37 : decode cX9_readOne 37 = .ok (.bipush 60, 2) := by decide +kernel
theorem dX9_readOne_39 : decode cX9_readOne 39 = .ok (.if_icmp .ge 10, 3) := by decide +kernel
theorem dX9_readOne_42 : decode cX9_readOne 42 = .ok (.aload_n 0, 1) := by decide +kernel
theorem dX9_readOne_43 : decode cX9_readOne 43 = .ok (.getfield 23, 3) := by decide +kernel
theorem dX9_readOne_46 : decode cX9_readOne 46 = .ok (.iload_n 2, 1) := by decide +kernel
theorem dX9_readOne_47 : decode cX9_readOne 47 = .ok (.iconst 0, 1) := by decide +kernel
theorem dX9_readOne_48 : decode cX9_readOne 48 = .ok (.iastore, 1) := by decide +kernel
theorem dX9_readOne_49 : decode cX9_readOne 49 = .ok (.aload_n 0, 1) := by decide +kernel
theorem dX9_readOne_50 : decode cX9_readOne 50 = .ok (.iload_n 3, 1) := by decide +kernel
theorem dX9_readOne_51 : decode cX9_readOne 51 = .ok (.iload_n 2, 1) := by decide +kernel
theorem dX9_readOne_52 : decode cX9_readOne 52 = .ok (.invokevirtual 98, 3) := by decide +kernel
theorem dX9_readOne_55 : decode cX9_readOne 55 = .ok (.ifCond .eq 11, 3) := by decide +kernel
theorem dX9_readOne_58 : decode cX9_readOne 58 = .ok (.aload_n 0, 1) := by decide +kernel
theorem dX9_readOne_59 : decode cX9_readOne 59 = .ok (.iload_n 2, 1) := by decide +kernel
theorem dX9_readOne_60 : decode cX9_readOne 60 = .ok (.invokevirtual 102, 3) := by decide +kernel
theorem dX9_readOne_63 : decode cX9_readOne 63 = .ok (.ifCond .ne 5, 3) := by decide +kernel
theorem dX9_readOne_66 : decode cX9_readOne 66 = .ok (.iconst 0, 1) := by decide +kernel
theorem dX9_readOne_67 : decode cX9_readOne 67 = .ok (.ireturn, 1) := by decide +kernel
theorem dX9_readOne_68 : decode cX9_readOne 68 = .ok (.iload_n 1, 1) := by decide +kernel
theorem dX9_readOne_69 : decode cX9_readOne 69 = .ok (.ifCond .ne 25, 3) := by decide +kernel
theorem dX9_readOne_72 : decode cX9_readOne 72 = .ok (.aload_n 0, 1) := by decide +kernel
theorem dX9_readOne_73 : decode cX9_readOne 73 = .ok (.iload_n 2, 1) := by decide +kernel
theorem dX9_readOne_74 : decode cX9_readOne 74 = .ok (.invokevirtual 105, 3) := by decide +kernel
theorem dX9_readOne_77 : decode cX9_readOne 77 = .ok (.ifCond .eq 15, 3) := by decide +kernel
theorem dX9_readOne_80 : decode cX9_readOne 80 = .ok (.aload_n 0, 1) := by decide +kernel
theorem dX9_readOne_81 : decode cX9_readOne 81 = .ok (.iload_n 2, 1) := by decide +kernel
theorem dX9_readOne_82 : decode cX9_readOne 82 = .ok (.invokevirtual 108, 3) := by decide +kernel
theorem dX9_readOne_85 : decode cX9_readOne 85 = .ok (.ifCond .eq 7, 3) := by decide +kernel
theorem dX9_readOne_88 : decode cX9_readOne 88 = .ok (.iconst 1, 1) := by decide +kernel
theorem dX9_readOne_89 : decode cX9_readOne 89 = .ok (.goto 4, 3) := by decide +kernel
theorem dX9_readOne_92 : decode cX9_readOne 92 = .ok (.iconst 0, 1) := by decide +kernel
theorem dX9_readOne_93 : decode cX9_readOne 93 = .ok (.ireturn, 1) := by decide +kernel
theorem dX9_readOne_94 : decode cX9_readOne 94 = .ok (.aload_n 0, 1) := by decide +kernel
theorem dX9_readOne_95 : decode cX9_readOne 95 = .ok (.getfield 77, 3) := by decide +kernel
theorem dX9_readOne_98 : decode cX9_readOne 98 = .ok (.aload_n 0, 1) := by decide +kernel
theorem dX9_readOne_99 : decode cX9_readOne 99 = .ok (.getfield 69, 3) := by decide +kernel
theorem dX9_readOne_102 : decode cX9_readOne 102 = .ok (.if_icmp .ge 22, 3) := by decide +kernel
theorem dX9_readOne_105 : decode cX9_readOne 105 = .ok (.aload_n 0, 1) := by decide +kernel
theorem dX9_readOne_106 : decode cX9_readOne 106 = .ok (.invokevirtual 84, 3) := by decide +kernel
theorem dX9_readOne_109 : decode cX9_readOne 109 = .ok (.bipush 62, 2) := by decide +kernel
theorem dX9_readOne_111 : decode cX9_readOne 111 = .ok (.if_icmp .eq 13, 3) := by decide +kernel
theorem dX9_readOne_114 : decode cX9_readOne 114 = .ok (.aload_n 0, 1) := by decide +kernel
theorem dX9_readOne_115 : decode cX9_readOne 115 = .ok (.iload_n 2, 1) := by decide +kernel
theorem dX9_readOne_116 : decode cX9_readOne 116 = .ok (.invokevirtual 102, 3) := by decide +kernel
theorem dX9_readOne_119 : decode cX9_readOne 119 = .ok (.ifCond .ne (-25), 3) := by decide +kernel
theorem dX9_readOne_122 : decode cX9_readOne 122 = .ok (.iconst 0, 1) := by decide +kernel
theorem dX9_readOne_123 : decode cX9_readOne 123 = .ok (.ireturn, 1) := by decide +kernel
theorem dX9_readOne_124 : decode cX9_readOne 124 = .ok (.iconst 1, 1) := by decide +kernel
theorem dX9_readOne_125 : decode cX9_readOne 125 = .ok (.ireturn, 1) := by decide +kernel
theorem dX9_read_0 : decode cX9_read 0 = .ok (.aload_n 0, 1) := by decide +kernel
theorem dX9_read_1 : decode cX9_read 1 = .ok (.iload_n 1, 1) := by decide +kernel
theorem dX9_read_2 : decode cX9_read 2 = .ok (.ifCond .lt 8, 3) := by decide +kernel
theorem dX9_read_5 : decode cX9_read 5 = .ok (.iload_n 1, 1) := by decide +kernel
theorem dX9_read_6 : decode cX9_read 6 = .ok (.iconst 1, 1) := by decide +kernel
theorem dX9_read_7 : decode cX9_read 7 = .ok (.if_icmp .le 7, 3) := by decide +kernel
theorem dX9_read_10 : decode cX9_read 10 = .ok (.iconst 1, 1) := by decide +kernel
theorem dX9_read_11 : decode cX9_read 11 = .ok (.goto 4, 3) := by decide +kernel
theorem dX9_read_14 : decode cX9_read 14 = .ok (.iconst 0, 1) := by decide +kernel
theorem dX9_read_15 : decode cX9_read 15 = .ok (.putfield 66, 3) := by decide +kernel
theorem dX9_read_18 : decode cX9_read 18 = .ok (.aload_n 0, 1) := by decide +kernel
theorem dX9_read_19 : decode cX9_read 19 = .ok (.getfield 66, 3) := by decide +kernel
theorem dX9_read_22 : decode cX9_read 22 = .ok (.ifCond .le 5, 3) := by decide +kernel
theorem dX9_read_25 : decode cX9_read 25 = .ok (.iconst 0, 1) := by decide +kernel
theorem dX9_read_26 : decode cX9_read 26 = .ok (.ireturn, 1) := by decide +kernel
theorem dX9_read_27 : decode cX9_read 27 = .ok (.aload_n 0, 1) := by decide +kernel
theorem dX9_read_28 : decode cX9_read 28 = .ok (.iconst 0, 1) := by decide +kernel
theorem dX9_read_29 : decode cX9_read 29 = .ok (.putfield 77, 3) := by decide +kernel
theorem dX9_read_32 : decode cX9_read 32 = .ok (.aload_n 0, 1) := by decide +kernel
theorem dX9_read_33 : decode cX9_read 33 = .ok (.iconst 0, 1) := by decide +kernel
theorem dX9_read_34 : decode cX9_read 34 = .ok (.putfield 88, 3) := by decide +kernel
theorem dX9_read_37 : decode cX9_read 37 = .ok (.aload_n 0, 1) := by decide +kernel
theorem dX9_read_38 : decode cX9_read 38 = .ok (.iconst 0, 1) := by decide +kernel
theorem dX9_read_39 : decode cX9_read 39 = .ok (.putfield 74, 3) := by decide +kernel
theorem dX9_read_42 : decode cX9_read 42 = .ok (.iconst 1, 1) := by decide +kernel
theorem dX9_read_43 : decode cX9_read 43 = .ok (.istore_n 2, 1) := by decide +kernel
theorem dX9_read_44 : decode cX9_read 44 = .ok (.iload_n 2, 1) := by decide +kernel
theorem dX9_read_45 : decode cX9_read 45 = .ok (.ifCond .eq 40, 3) := by decide +kernel
theorem dX9_read_48 : decode cX9_read 48 = .ok (.aload_n 0, 1) := by decide +kernel
theorem dX9_read_49 : decode cX9_read 49 = .ok (.getfield 77, 3) := by decide +kernel
theorem dX9_read_52 : decode cX9_read 52 = .ok (.aload_n 0, 1) := by decide +kernel
theorem dX9_read_53 : decode cX9_read 53 = .ok (.getfield 69, 3) := by decide +kernel
theorem dX9_read_56 : decode cX9_read 56 = .ok (.if_icmp .lt 10, 3) := by decide +kernel
theorem dX9_read_59 : decode cX9_read 59 = .ok (.aload_n 0, 1) := by decide +kernel
theorem dX9_read_60 : decode cX9_read 60 = .ok (.getfield 88, 3) := by decide +kernel
theorem dX9_read_63 : decode cX9_read 63 = .ok (.ifCond .ne 22, 3) := by decide +kernel
theorem dX9_read_66 : decode cX9_read 66 = .ok (.aload_n 0, 1) := by decide +kernel
theorem dX9_read_67 : decode cX9_read 67 = .ok (.iload_n 1, 1) := by decide +kernel
theorem dX9_read_68 : decode cX9_read 68 = .ok (.invokevirtual 111, 3) := by decide +kernel
theorem dX9_read_71 : decode cX9_read 71 = .ok (.istore_n 2, 1) := by decide +kernel
theorem dX9_read_72 : decode cX9_read 72 = .ok (.aload_n 0, 1) := by decide +kernel
theorem dX9_read_73 : decode cX9_read 73 = .ok (.dup, 1) := by decide +kernel
theorem dX9_read_74 : decode cX9_read 74 = .ok (.getfield 88, 3) := by decide +kernel
theorem dX9_read_77 : decode cX9_read 77 = .ok (.iconst 1, 1) := by decide +kernel
theorem dX9_read_78 : decode cX9_read 78 = .ok (.iadd, 1) := by decide +kernel
theorem dX9_read_79 : decode cX9_read 79 = .ok (.putfield 88, 3) := by decide +kernel
theorem dX9_read_82 : decode cX9_read 82 = .ok (.goto (-38), 3) := by decide +kernel
theorem dX9_read_85 : decode cX9_read 85 = .ok (.aload_n 0, 1) := by decide +kernel
theorem dX9_read_86 : decode cX9_read 86 = .ok (.iconst 0, 1) := by decide +kernel
theorem dX9_read_87 : decode cX9_read 87 = .ok (.putfield 69, 3) := by decide +kernel
theorem dX9_read_90 : decode cX9_read 90 = .ok (.iload_n 2, 1) := by decide +kernel
theorem dX9_read_91 : decode cX9_read 91 = .ok (.ifCond .ne 9, 3) := by decide +kernel
theorem dX9_read_94 : decode cX9_read 94 = .ok (.aload_n 0, 1) := by decide +kernel
theorem dX9_read_95 : decode cX9_read 95 = .ok (.getfield 74, 3) := by decide +kernel
theorem dX9_read_98 : decode cX9_read 98 = .ok (.ineg, 1) := by decide +kernel
theorem dX9_read_99 : decode cX9_read 99 = .ok (.ireturn, 1) := by decide +kernel
theorem dX9_read_100 : decode cX9_read 100 = .ok (.aload_n 0, 1) := by decide +kernel
theorem dX9_read_101 : decode cX9_read 101 = .ok (.aload_n 0, 1) := by decide +kernel
theorem dX9_read_102 : decode cX9_read 102 = .ok (.getfield 88, 3) := by decide +kernel
theorem dX9_read_105 : decode cX9_read 105 = .ok (.putfield 63, 3) := by decide +kernel
theorem dX9_read_108 : decode cX9_read 108 = .ok (.aload_n 0, 1) := by decide +kernel
theorem dX9_read_109 : decode cX9_read 109 = .ok (.iconst 0, 1) := by decide +kernel
theorem dX9_read_110 : decode cX9_read 110 = .ok (.putfield 114, 3) := by decide +kernel
theorem dX9_read_113 : decode cX9_read 113 = .ok (.iconst 0, 1) := by decide +kernel
theorem dX9_read_114 : decode cX9_read 114 = .ok (.istore_n 3, 1) := by decide +kernel
theorem dX9_read_115 : decode cX9_read 115 = .ok (.iload_n 3, 1) := by decide +kernel
theorem dX9_read_116 : decode cX9_read 116 = .ok (.aload_n 0, 1) := by decide +kernel
theorem dX9_read_117 : decode cX9_read 117 = .ok (.getfield 63, 3) := by decide +kernel
theorem dX9_read_120 : decode cX9_read 120 = .ok (.if_icmp .ge 148, 3) := by decide +kernel
theorem dX9_read_123 : decode cX9_read 123 = .ok (.bipush 60, 2) := by decide +kernel
theorem dX9_read_125 : decode cX9_read 125 = .ok (.iload_n 3, 1) := by decide +kernel
theorem dX9_read_126 : decode cX9_read 126 = .ok (.iadd, 1) := by decide +kernel
theorem dX9_read_127 : decode cX9_read 127 = .ok (.istore 4, 2) := by decide +kernel
theorem dX9_read_129 : decode cX9_read 129 = .ok (.aload_n 0, 1) := by decide +kernel
theorem dX9_read_130 : decode cX9_read 130 = .ok (.getfield 17, 3) := by decide +kernel
theorem dX9_read_133 : decode cX9_read 133 = .ok (.iload_n 3, 1) := by decide +kernel
theorem dX9_read_134 : decode cX9_read 134 = .ok (.aload_n 0, 1) := by decide +kernel
theorem dX9_read_135 : decode cX9_read 135 = .ok (.getfield 17, 3) := by decide +kernel
theorem dX9_read_138 : decode cX9_read 138 = .ok (.iload 4, 2) := by decide +kernel
theorem dX9_read_140 : decode cX9_read 140 = .ok (.iaload, 1) := by decide +kernel
theorem dX9_read_141 : decode cX9_read 141 = .ok (.iastore, 1) := by decide +kernel
theorem dX9_read_142 : decode cX9_read 142 = .ok (.aload_n 0, 1) := by decide +kernel
theorem dX9_read_143 : decode cX9_read 143 = .ok (.getfield 23, 3) := by decide +kernel
theorem dX9_read_146 : decode cX9_read 146 = .ok (.iload_n 3, 1) := by decide +kernel
theorem dX9_read_147 : decode cX9_read 147 = .ok (.aload_n 0, 1) := by decide +kernel
theorem dX9_read_148 : decode cX9_read 148 = .ok (.getfield 23, 3) := by decide +kernel
theorem dX9_read_151 : decode cX9_read 151 = .ok (.iload 4, 2) := by decide +kernel
theorem dX9_read_153 : decode cX9_read 153 = .ok (.iaload, 1) := by decide +kernel
theorem dX9_read_154 : decode cX9_read 154 = .ok (.iastore, 1) := by decide +kernel
theorem dX9_read_155 : decode cX9_read 155 = .ok (.iconst 0, 1) := by decide +kernel
theorem dX9_read_156 : decode cX9_read 156 = .ok (.istore 5, 2) := by decide +kernel
theorem dX9_read_158 : decode cX9_read 158 = .ok (.iload 5, 2) := by decide +kernel
theorem dX9_read_160 : decode cX9_read 160 = .ok (.bipush 40, 2) := by decide +kernel
theorem dX9_read_162 : decode cX9_read 162 = .ok (.if_icmp .ge 34, 3) := by decide +kernel
theorem dX9_read_165 : decode cX9_read 165 = .ok (.aload_n 0, 1) := by decide +kernel
theorem dX9_read_166 : decode cX9_read 166 = .ok (.getfield 20, 3) := by decide +kernel
theorem dX9_read_169 : decode cX9_read 169 = .ok (.bipush 40, 2) := by decide +kernel
theorem dX9_read_171 : decode cX9_read 171 = .ok (.iload_n 3, 1) := by decide +kernel
theorem dX9_read_172 : decode cX9_read 172 = .ok (.imul, 1) := by decide +kernel
theorem dX9_read_173 : decode cX9_read 173 = .ok (.iload 5, 2) := by decide +kernel
theorem dX9_read_175 : decode cX9_read 175 = .ok (.iadd, 1) := by decide +kernel
theorem dX9_read_176 : decode cX9_read 176 = .ok (.aload_n 0, 1) := by decide +kernel
theorem dX9_read_177 : decode cX9_read 177 = .ok (.getfield 20, 3) := by decide +kernel
theorem dX9_read_180 : decode cX9_read 180 = .ok (.bipush 40, 2) := by decide +kernel
theorem dX9_read_182 : decode cX9_read 182 = .ok (.iload 4, 2) := by decide +kernel
theorem dX9_read_184 : decode cX9_read 184 = .ok (.imul, 1) := by decide +kernel
theorem dX9_read_185 : decode cX9_read 185 = .ok (.iload 5, 2) := by decide +kernel
theorem dX9_read_187 : decode cX9_read 187 = .ok (.iadd, 1) := by decide +kernel
theorem dX9_read_188 : decode cX9_read 188 = .ok (.iaload, 1) := by decide +kernel
theorem dX9_read_189 : decode cX9_read 189 = .ok (.iastore, 1) := by decide +kernel
theorem dX9_read_190 : decode cX9_read 190 = .ok (.iinc 5 1, 3) := by decide +kernel
theorem dX9_read_193 : decode cX9_read 193 = .ok (.goto (-35), 3) := by decide +kernel
theorem dX9_read_196 : decode cX9_read 196 = .ok (.iconst 0, 1) := by decide +kernel
theorem dX9_read_197 : decode cX9_read 197 = .ok (.istore 5, 2) := by decide +kernel
theorem dX9_read_199 : decode cX9_read 199 = .ok (.iload 5, 2) := by decide +kernel
theorem dX9_read_201 : decode cX9_read 201 = .ok (.bipush 120, 2) := by decide +kernel
theorem dX9_read_203 : decode cX9_read 203 = .ok (.if_icmp .ge 59, 3) := by decide +kernel
theorem dX9_read_206 : decode cX9_read 206 = .ok (.aload_n 0, 1) := by decide +kernel
theorem dX9_read_207 : decode cX9_read 207 = .ok (.getfield 26, 3) := by decide +kernel
theorem dX9_read_210 : decode cX9_read 210 = .ok (.bipush 120, 2) := by decide +kernel
theorem dX9_read_212 : decode cX9_read 212 = .ok (.iload_n 3, 1) := by decide +kernel
theorem dX9_read_213 : decode cX9_read 213 = .ok (.imul, 1) := by decide +kernel
theorem dX9_read_214 : decode cX9_read 214 = .ok (.iload 5, 2) := by decide +kernel
theorem dX9_read_216 : decode cX9_read 216 = .ok (.iadd, 1) := by decide +kernel
theorem dX9_read_217 : decode cX9_read 217 = .ok (.aload_n 0, 1) := by decide +kernel
theorem dX9_read_218 : decode cX9_read 218 = .ok (.getfield 26, 3) := by decide +kernel
theorem dX9_read_221 : decode cX9_read 221 = .ok (.bipush 120, 2) := by decide +kernel
theorem dX9_read_223 : decode cX9_read 223 = .ok (.iload 4, 2) := by decide +kernel
theorem dX9_read_225 : decode cX9_read 225 = .ok (.imul, 1) := by decide +kernel
theorem dX9_read_226 : decode cX9_read 226 = .ok (.iload 5, 2) := by decide +kernel
theorem dX9_read_228 : decode cX9_read 228 = .ok (.iadd, 1) := by decide +kernel
theorem dX9_read_229 : decode cX9_read 229 = .ok (.iaload, 1) := by decide +kernel
theorem dX9_read_230 : decode cX9_read 230 = .ok (.iastore, 1) := by decide +kernel
theorem dX9_read_231 : decode cX9_read 231 = .ok (.aload_n 0, 1) := by decide +kernel
theorem dX9_read_232 : decode cX9_read 232 = .ok (.getfield 29, 3) := by decide +kernel
theorem dX9_read_235 : decode cX9_read 235 = .ok (.bipush 120, 2) := by decide +kernel
theorem dX9_read_237 : decode cX9_read 237 = .ok (.iload_n 3, 1) := by decide +kernel
theorem dX9_read_238 : decode cX9_read 238 = .ok (.imul, 1) := by decide +kernel
theorem dX9_read_239 : decode cX9_read 239 = .ok (.iload 5, 2) := by decide +kernel
theorem dX9_read_241 : decode cX9_read 241 = .ok (.iadd, 1) := by decide +kernel
theorem dX9_read_242 : decode cX9_read 242 = .ok (.aload_n 0, 1) := by decide +kernel
theorem dX9_read_243 : decode cX9_read 243 = .ok (.getfield 29, 3) := by decide +kernel
theorem dX9_read_246 : decode cX9_read 246 = .ok (.bipush 120, 2) := by decide +kernel
theorem dX9_read_248 : decode cX9_read 248 = .ok (.iload 4, 2) := by decide +kernel
theorem dX9_read_250 : decode cX9_read 250 = .ok (.imul, 1) := by decide +kernel
theorem dX9_read_251 : decode cX9_read 251 = .ok (.iload 5, 2) := by decide +kernel
theorem dX9_read_253 : decode cX9_read 253 = .ok (.iadd, 1) := by decide +kernel
theorem dX9_read_254 : decode cX9_read 254 = .ok (.iaload, 1) := by decide +kernel
theorem dX9_read_255 : decode cX9_read 255 = .ok (.iastore, 1) := by decide +kernel
theorem dX9_read_256 : decode cX9_read 256 = .ok (.iinc 5 1, 3) := by decide +kernel
theorem dX9_read_259 : decode cX9_read 259 = .ok (.goto (-60), 3) := by decide +kernel
theorem dX9_read_262 : decode cX9_read 262 = .ok (.iinc 3 1, 3) := by decide +kernel
theorem dX9_read_265 : decode cX9_read 265 = .ok (.goto (-150), 3) := by decide +kernel
theorem dX9_read_268 : decode cX9_read 268 = .ok (.aload_n 0, 1) := by decide +kernel
theorem dX9_read_269 : decode cX9_read 269 = .ok (.getfield 63, 3) := by decide +kernel
theorem dX9_read_272 : decode cX9_read 272 = .ok (.ireturn, 1) := by decide +kernel
theorem dX9_place_0 : decode cX9_place 0 = .ok (.aload_n 0, 1) := by decide +kernel
theorem dX9_place_1 : decode cX9_place 1 = .ok (.iconst 0, 1) := by decide +kernel
theorem dX9_place_2 : decode cX9_place 2 = .ok (.putfield 66, 3) := by decide +kernel
theorem dX9_place_5 : decode cX9_place 5 = .ok (.aload_n 0, 1) := by decide +kernel
theorem dX9_place_6 : decode cX9_place 6 = .ok (.getfield 13, 3) := by decide +kernel
theorem dX9_place_9 : decode cX9_place 9 = .ok (.ireturn, 1) := by decide +kernel
theorem dX9_isCode_0 : decode cX9_isCode 0 = .ok (.aload_n 0, 1) := by decide +kernel
theorem dX9_isCode_1 : decode cX9_isCode 1 = .ok (.getfield 69, 3) := by decide +kernel
theorem dX9_isCode_4 : decode cX9_isCode 4 = .ok (.iload_n 1, 1) := by decide +kernel
theorem dX9_isCode_5 : decode cX9_isCode 5 = .ok (.if_icmp .lt 15, 3) := by decide +kernel
theorem dX9_isCode_8 : decode cX9_isCode 8 = .ok (.aload_n 0, 1) := by decide +kernel
theorem dX9_isCode_9 : decode cX9_isCode 9 = .ok (.getfield 69, 3) := by decide +kernel
theorem dX9_isCode_12 : decode cX9_isCode 12 = .ok (.iload_n 2, 1) := by decide +kernel
theorem dX9_isCode_13 : decode cX9_isCode 13 = .ok (.if_icmp .gt 7, 3) := by decide +kernel
theorem dX9_isCode_16 : decode cX9_isCode 16 = .ok (.iconst 1, 1) := by decide +kernel
theorem dX9_isCode_17 : decode cX9_isCode 17 = .ok (.goto 4, 3) := by decide +kernel
theorem dX9_isCode_20 : decode cX9_isCode 20 = .ok (.iconst 0, 1) := by decide +kernel
theorem dX9_isCode_21 : decode cX9_isCode 21 = .ok (.istore_n 3, 1) := by decide +kernel
theorem dX9_isCode_22 : decode cX9_isCode 22 = .ok (.iconst 0, 1) := by decide +kernel
theorem dX9_isCode_23 : decode cX9_isCode 23 = .ok (.istore 4, 2) := by decide +kernel
theorem dX9_isCode_25 : decode cX9_isCode 25 = .ok (.iload 4, 2) := by decide +kernel
theorem dX9_isCode_27 : decode cX9_isCode 27 = .ok (.aload_n 0, 1) := by decide +kernel
theorem dX9_isCode_28 : decode cX9_isCode 28 = .ok (.getfield 69, 3) := by decide +kernel
theorem dX9_isCode_31 : decode cX9_isCode 31 = .ok (.if_icmp .ge 44, 3) := by decide +kernel
theorem dX9_isCode_34 : decode cX9_isCode 34 = .ok (.iload_n 3, 1) := by decide +kernel
theorem dX9_isCode_35 : decode cX9_isCode 35 = .ok (.ifCond .eq 40, 3) := by decide +kernel
theorem dX9_isCode_38 : decode cX9_isCode 38 = .ok (.aload_n 0, 1) := by decide +kernel
theorem dX9_isCode_39 : decode cX9_isCode 39 = .ok (.getfield 7, 3) := by decide +kernel
theorem dX9_isCode_42 : decode cX9_isCode 42 = .ok (.iload 4, 2) := by decide +kernel
theorem dX9_isCode_44 : decode cX9_isCode 44 = .ok (.iaload, 1) := by decide +kernel
theorem dX9_isCode_45 : decode cX9_isCode 45 = .ok (.invokestatic 94, 3) := by decide +kernel
theorem dX9_isCode_48 : decode cX9_isCode 48 = .ok (.ifCond .le 19, 3) := by decide +kernel
theorem dX9_isCode_51 : decode cX9_isCode 51 = .ok (.aload_n 0, 1) := by decide +kernel
theorem dX9_isCode_52 : decode cX9_isCode 52 = .ok (.getfield 7, 3) := by decide +kernel
theorem dX9_isCode_55 : decode cX9_isCode 55 = .ok (.iload 4, 2) := by decide +kernel
theorem dX9_isCode_57 : decode cX9_isCode 57 = .ok (.iaload, 1) := by decide +kernel
theorem dX9_isCode_58 : decode cX9_isCode 58 = .ok (.bipush 78, 2) := by decide +kernel
theorem dX9_isCode_60 : decode cX9_isCode 60 = .ok (.if_icmp .eq 7, 3) := by decide +kernel
theorem dX9_isCode_63 : decode cX9_isCode 63 = .ok (.iconst 1, 1) := by decide +kernel
theorem dX9_isCode_64 : decode cX9_isCode 64 = .ok (.goto 4, 3) := by decide +kernel
theorem dX9_isCode_67 : decode cX9_isCode 67 = .ok (.iconst 0, 1) := by decide +kernel
theorem dX9_isCode_68 : decode cX9_isCode 68 = .ok (.istore_n 3, 1) := by decide +kernel
theorem dX9_isCode_69 : decode cX9_isCode 69 = .ok (.iinc 4 1, 3) := by decide +kernel
theorem dX9_isCode_72 : decode cX9_isCode 72 = .ok (.goto (-47), 3) := by decide +kernel
theorem dX9_isCode_75 : decode cX9_isCode 75 = .ok (.iload_n 3, 1) := by decide +kernel
theorem dX9_isCode_76 : decode cX9_isCode 76 = .ok (.ireturn, 1) := by decide +kernel
theorem dX9_hasCode_0 : decode cX9_hasCode 0 = .ok (.iconst 0, 1) := by decide +kernel
theorem dX9_hasCode_1 : decode cX9_hasCode 1 = .ok (.istore_n 1, 1) := by decide +kernel
theorem dX9_hasCode_2 : decode cX9_hasCode 2 = .ok (.iload_n 1, 1) := by decide +kernel
theorem dX9_hasCode_3 : decode cX9_hasCode 3 = .ok (.aload_n 0, 1) := by decide +kernel
theorem dX9_hasCode_4 : decode cX9_hasCode 4 = .ok (.getfield 118, 3) := by decide +kernel
theorem dX9_hasCode_7 : decode cX9_hasCode 7 = .ok (.if_icmp .ge 61, 3) := by decide +kernel
theorem dX9_hasCode_10 : decode cX9_hasCode 10 = .ok (.iconst 1, 1) := by decide +kernel
theorem dX9_hasCode_11 : decode cX9_hasCode 11 = .ok (.istore_n 2, 1) := by decide +kernel
theorem dX9_hasCode_12 : decode cX9_hasCode 12 = .ok (.iconst 0, 1) := by decide +kernel
theorem dX9_hasCode_13 : decode cX9_hasCode 13 = .ok (.istore_n 3, 1) := by decide +kernel
theorem dX9_hasCode_14 : decode cX9_hasCode 14 = .ok (.iload_n 3, 1) := by decide +kernel
theorem dX9_hasCode_15 : decode cX9_hasCode 15 = .ok (.aload_n 0, 1) := by decide +kernel
theorem dX9_hasCode_16 : decode cX9_hasCode 16 = .ok (.getfield 121, 3) := by decide +kernel
theorem dX9_hasCode_19 : decode cX9_hasCode 19 = .ok (.if_icmp .ge 37, 3) := by decide +kernel
theorem dX9_hasCode_22 : decode cX9_hasCode 22 = .ok (.iload_n 2, 1) := by decide +kernel
theorem dX9_hasCode_23 : decode cX9_hasCode 23 = .ok (.aload_n 0, 1) := by decide +kernel
theorem dX9_hasCode_24 : decode cX9_hasCode 24 = .ok (.getfield 32, 3) := by decide +kernel
theorem dX9_hasCode_27 : decode cX9_hasCode 27 = .ok (.bipush 12, 2) := by decide +kernel
theorem dX9_hasCode_29 : decode cX9_hasCode 29 = .ok (.iload_n 1, 1) := by decide +kernel
theorem dX9_hasCode_30 : decode cX9_hasCode 30 = .ok (.imul, 1) := by decide +kernel
theorem dX9_hasCode_31 : decode cX9_hasCode 31 = .ok (.iload_n 3, 1) := by decide +kernel
theorem dX9_hasCode_32 : decode cX9_hasCode 32 = .ok (.iadd, 1) := by decide +kernel
theorem dX9_hasCode_33 : decode cX9_hasCode 33 = .ok (.iaload, 1) := by decide +kernel
theorem dX9_hasCode_34 : decode cX9_hasCode 34 = .ok (.aload_n 0, 1) := by decide +kernel
theorem dX9_hasCode_35 : decode cX9_hasCode 35 = .ok (.getfield 7, 3) := by decide +kernel
theorem dX9_hasCode_38 : decode cX9_hasCode 38 = .ok (.iload_n 3, 1) := by decide +kernel
theorem dX9_hasCode_39 : decode cX9_hasCode 39 = .ok (.iaload, 1) := by decide +kernel
theorem dX9_hasCode_40 : decode cX9_hasCode 40 = .ok (.if_icmp .ne 7, 3) := by decide +kernel
theorem dX9_hasCode_43 : decode cX9_hasCode 43 = .ok (.iconst 1, 1) := by decide +kernel
theorem dX9_hasCode_44 : decode cX9_hasCode 44 = .ok (.goto 4, 3) := by decide +kernel
theorem dX9_hasCode_47 : decode cX9_hasCode 47 = .ok (.iconst 0, 1) := by decide +kernel
theorem dX9_hasCode_48 : decode cX9_hasCode 48 = .ok (.iand, 1) := by decide +kernel
theorem dX9_hasCode_49 : decode cX9_hasCode 49 = .ok (.istore_n 2, 1) := by decide +kernel
theorem dX9_hasCode_50 : decode cX9_hasCode 50 = .ok (.iinc 3 1, 3) := by decide +kernel
theorem dX9_hasCode_53 : decode cX9_hasCode 53 = .ok (.goto (-39), 3) := by decide +kernel
theorem dX9_hasCode_56 : decode cX9_hasCode 56 = .ok (.iload_n 2, 1) := by decide +kernel
theorem dX9_hasCode_57 : decode cX9_hasCode 57 = .ok (.ifCond .eq 5, 3) := by decide +kernel
theorem dX9_hasCode_60 : decode cX9_hasCode 60 = .ok (.iconst 1, 1) := by decide +kernel
theorem dX9_hasCode_61 : decode cX9_hasCode 61 = .ok (.ireturn, 1) := by decide +kernel
theorem dX9_hasCode_62 : decode cX9_hasCode 62 = .ok (.iinc 1 1, 3) := by decide +kernel
theorem dX9_hasCode_65 : decode cX9_hasCode 65 = .ok (.goto (-63), 3) := by decide +kernel
theorem dX9_hasCode_68 : decode cX9_hasCode 68 = .ok (.iconst 0, 1) := by decide +kernel
theorem dX9_hasCode_69 : decode cX9_hasCode 69 = .ok (.ireturn, 1) := by decide +kernel
theorem dX9_barcode_0 : decode cX9_barcode 0 = .ok (.aload_n 0, 1) := by decide +kernel
theorem dX9_barcode_1 : decode cX9_barcode 1 = .ok (.iconst 0, 1) := by decide +kernel
theorem dX9_barcode_2 : decode cX9_barcode 2 = .ok (.putfield 66, 3) := by decide +kernel
theorem dX9_barcode_5 : decode cX9_barcode 5 = .ok (.aload_n 0, 1) := by decide +kernel
theorem dX9_barcode_6 : decode cX9_barcode 6 = .ok (.iconst 1, 1) := by decide +kernel
theorem dX9_barcode_7 : decode cX9_barcode 7 = .ok (.bipush 12, 2) := by decide +kernel
theorem dX9_barcode_9 : decode cX9_barcode 9 = .ok (.invokevirtual 124, 3) := by decide +kernel
theorem dX9_barcode_12 : decode cX9_barcode 12 = .ok (.ifCond .eq 41, 3) := by decide +kernel
theorem dX9_barcode_15 : decode cX9_barcode 15 = .ok (.aload_n 0, 1) := by decide +kernel
theorem dX9_barcode_16 : decode cX9_barcode 16 = .ok (.getfield 118, 3) := by decide +kernel
theorem dX9_barcode_19 : decode cX9_barcode 19 = .ok (.bipush 16, 2) := by decide +kernel
theorem dX9_barcode_21 : decode cX9_barcode 21 = .ok (.if_icmp .ge 32, 3) := by decide +kernel
theorem dX9_barcode_24 : decode cX9_barcode 24 = .ok (.aload_n 0, 1) := by decide +kernel
theorem dX9_barcode_25 : decode cX9_barcode 25 = .ok (.getfield 118, 3) := by decide +kernel
theorem dX9_barcode_28 : decode cX9_barcode 28 = .ok (.ifCond .eq 21, 3) := by decide +kernel
theorem dX9_barcode_31 : decode cX9_barcode 31 = .ok (.aload_n 0, 1) := by decide +kernel
theorem dX9_barcode_32 : decode cX9_barcode 32 = .ok (.getfield 69, 3) := by decide +kernel
theorem dX9_barcode_35 : decode cX9_barcode 35 = .ok (.aload_n 0, 1) := by decide +kernel
theorem dX9_barcode_36 : decode cX9_barcode 36 = .ok (.getfield 121, 3) := by decide +kernel
theorem dX9_barcode_39 : decode cX9_barcode 39 = .ok (.if_icmp .ne 14, 3) := by decide +kernel
theorem dX9_barcode_42 : decode cX9_barcode 42 = .ok (.aload_n 0, 1) := by decide +kernel
theorem dX9_barcode_43 : decode cX9_barcode 43 = .ok (.invokevirtual 127, 3) := by decide +kernel
theorem dX9_barcode_46 : decode cX9_barcode 46 = .ok (.ifCond .ne 7, 3) := by decide +kernel
theorem dX9_barcode_49 : decode cX9_barcode 49 = .ok (.iconst 1, 1) := by decide +kernel
theorem dX9_barcode_50 : decode cX9_barcode 50 = .ok (.goto 4, 3) := by decide +kernel
theorem dX9_barcode_53 : decode cX9_barcode 53 = .ok (.iconst 0, 1) := by decide +kernel
theorem dX9_barcode_54 : decode cX9_barcode 54 = .ok (.istore_n 1, 1) := by decide +kernel
theorem dX9_barcode_55 : decode cX9_barcode 55 = .ok (.iload_n 1, 1) := by decide +kernel
theorem dX9_barcode_56 : decode cX9_barcode 56 = .ok (.ifCond .eq 57, 3) := by decide +kernel
theorem dX9_barcode_59 : decode cX9_barcode 59 = .ok (.aload_n 0, 1) := by decide +kernel
theorem dX9_barcode_60 : decode cX9_barcode 60 = .ok (.aload_n 0, 1) := by decide +kernel
theorem dX9_barcode_61 : decode cX9_barcode 61 = .ok (.getfield 69, 3) := by decide +kernel
theorem dX9_barcode_64 : decode cX9_barcode 64 = .ok (.putfield 121, 3) := by decide +kernel
theorem dX9_barcode_67 : decode cX9_barcode 67 = .ok (.iconst 0, 1) := by decide +kernel
theorem dX9_barcode_68 : decode cX9_barcode 68 = .ok (.istore_n 2, 1) := by decide +kernel
theorem dX9_barcode_69 : decode cX9_barcode 69 = .ok (.iload_n 2, 1) := by decide +kernel
theorem dX9_barcode_70 : decode cX9_barcode 70 = .ok (.aload_n 0, 1) := by decide +kernel
theorem dX9_barcode_71 : decode cX9_barcode 71 = .ok (.getfield 69, 3) := by decide +kernel
theorem dX9_barcode_74 : decode cX9_barcode 74 = .ok (.if_icmp .ge 29, 3) := by decide +kernel
theorem dX9_barcode_77 : decode cX9_barcode 77 = .ok (.aload_n 0, 1) := by decide +kernel
theorem dX9_barcode_78 : decode cX9_barcode 78 = .ok (.getfield 32, 3) := by decide +kernel
theorem dX9_barcode_81 : decode cX9_barcode 81 = .ok (.bipush 12, 2) := by decide +kernel
theorem dX9_barcode_83 : decode cX9_barcode 83 = .ok (.aload_n 0, 1) := by decide +kernel
theorem dX9_barcode_84 : decode cX9_barcode 84 = .ok (.getfield 118, 3) := by decide +kernel
theorem dX9_barcode_87 : decode cX9_barcode 87 = .ok (.imul, 1) := by decide +kernel
theorem dX9_barcode_88 : decode cX9_barcode 88 = .ok (.iload_n 2, 1) := by decide +kernel
theorem dX9_barcode_89 : decode cX9_barcode 89 = .ok (.iadd, 1) := by decide +kernel
theorem dX9_barcode_90 : decode cX9_barcode 90 = .ok (.aload_n 0, 1) := by decide +kernel
theorem dX9_barcode_91 : decode cX9_barcode 91 = .ok (.getfield 7, 3) := by decide +kernel
theorem dX9_barcode_94 : decode cX9_barcode 94 = .ok (.iload_n 2, 1) := by decide +kernel
theorem dX9_barcode_95 : decode cX9_barcode 95 = .ok (.iaload, 1) := by decide +kernel
theorem dX9_barcode_96 : decode cX9_barcode 96 = .ok (.iastore, 1) := by decide +kernel
theorem dX9_barcode_97 : decode cX9_barcode 97 = .ok (.iinc 2 1, 3) := by decide +kernel
theorem dX9_barcode_100 : decode cX9_barcode 100 = .ok (.goto (-31), 3) := by decide +kernel
theorem dX9_barcode_103 : decode cX9_barcode 103 = .ok (.aload_n 0, 1) := by decide +kernel
theorem dX9_barcode_104 : decode cX9_barcode 104 = .ok (.dup, 1) := by decide +kernel
theorem dX9_barcode_105 : decode cX9_barcode 105 = .ok (.getfield 118, 3) := by decide +kernel
theorem dX9_barcode_108 : decode cX9_barcode 108 = .ok (.iconst 1, 1) := by decide +kernel
theorem dX9_barcode_109 : decode cX9_barcode 109 = .ok (.iadd, 1) := by decide +kernel
theorem dX9_barcode_110 : decode cX9_barcode 110 = .ok (.putfield 118, 3) := by decide +kernel
theorem dX9_barcode_113 : decode cX9_barcode 113 = .ok (.aload_n 0, 1) := by decide +kernel
theorem dX9_barcode_114 : decode cX9_barcode 114 = .ok (.iconst 0, 1) := by decide +kernel
theorem dX9_barcode_115 : decode cX9_barcode 115 = .ok (.putfield 69, 3) := by decide +kernel
theorem dX9_barcode_118 : decode cX9_barcode 118 = .ok (.iload_n 1, 1) := by decide +kernel
theorem dX9_barcode_119 : decode cX9_barcode 119 = .ok (.ifCond .eq 12, 3) := by decide +kernel
theorem dX9_barcode_122 : decode cX9_barcode 122 = .ok (.aload_n 0, 1) := by decide +kernel
theorem dX9_barcode_123 : decode cX9_barcode 123 = .ok (.getfield 118, 3) := by decide +kernel
theorem dX9_barcode_126 : decode cX9_barcode 126 = .ok (.iconst 1, 1) := by decide +kernel
theorem dX9_barcode_127 : decode cX9_barcode 127 = .ok (.isub, 1) := by decide +kernel
theorem dX9_barcode_128 : decode cX9_barcode 128 = .ok (.goto 4, 3) := by decide +kernel
theorem dX9_barcode_131 : decode cX9_barcode 131 = .ok (.iconst (-1), 1) := by decide +kernel
theorem dX9_barcode_132 : decode cX9_barcode 132 = .ok (.ireturn, 1) := by decide +kernel
theorem dX9_adapter_0 : decode cX9_adapter 0 = .ok (.aload_n 0, 1) := by decide +kernel
theorem dX9_adapter_1 : decode cX9_adapter 1 = .ok (.iconst 0, 1) := by decide +kernel
theorem dX9_adapter_2 : decode cX9_adapter 2 = .ok (.putfield 66, 3) := by decide +kernel
theorem dX9_adapter_5 : decode cX9_adapter 5 = .ok (.aload_n 0, 1) := by decide +kernel
theorem dX9_adapter_6 : decode cX9_adapter 6 = .ok (.getfield 69, 3) := by decide +kernel
theorem dX9_adapter_9 : decode cX9_adapter 9 = .ok (.ifCond .eq 13, 3) := by decide +kernel
theorem dX9_adapter_12 : decode cX9_adapter 12 = .ok (.aload_n 0, 1) := by decide +kernel
theorem dX9_adapter_13 : decode cX9_adapter 13 = .ok (.iconst 3, 1) := by decide +kernel
theorem dX9_adapter_14 : decode cX9_adapter 14 = .ok (.bipush 30, 2) := by decide +kernel
theorem dX9_adapter_16 : decode cX9_adapter 16 = .ok (.invokevirtual 124, 3) := by decide +kernel
theorem dX9_adapter_19 : decode cX9_adapter 19 = .ok (.ifCond .eq 7, 3) := by decide +kernel
theorem dX9_adapter_22 : decode cX9_adapter 22 = .ok (.iconst 1, 1) := by decide +kernel
theorem dX9_adapter_23 : decode cX9_adapter 23 = .ok (.goto 4, 3) := by decide +kernel
theorem dX9_adapter_26 : decode cX9_adapter 26 = .ok (.iconst 0, 1) := by decide +kernel
theorem dX9_adapter_27 : decode cX9_adapter 27 = .ok (.istore_n 1, 1) := by decide +kernel
theorem dX9_adapter_28 : decode cX9_adapter 28 = .ok (.iload_n 1, 1) := by decide +kernel
theorem dX9_adapter_29 : decode cX9_adapter 29 = .ok (.ifCond .eq 39, 3) := by decide +kernel
theorem dX9_adapter_32 : decode cX9_adapter 32 = .ok (.aload_n 0, 1) := by decide +kernel
theorem dX9_adapter_33 : decode cX9_adapter 33 = .ok (.aload_n 0, 1) := by decide +kernel
theorem dX9_adapter_34 : decode cX9_adapter 34 = .ok (.getfield 69, 3) := by decide +kernel
theorem dX9_adapter_37 : decode cX9_adapter 37 = .ok (.putfield 131, 3) := by decide +kernel
theorem dX9_adapter_40 : decode cX9_adapter 40 = .ok (.iconst 0, 1) := by decide +kernel
theorem dX9_adapter_41 : decode cX9_adapter 41 = .ok (.istore_n 2, 1) := by decide +kernel
theorem dX9_adapter_42 : decode cX9_adapter 42 = .ok (.iload_n 2, 1) := by decide +kernel
theorem dX9_adapter_43 : decode cX9_adapter 43 = .ok (.aload_n 0, 1) := by decide +kernel
theorem dX9_adapter_44 : decode cX9_adapter 44 = .ok (.getfield 69, 3) := by decide +kernel
theorem dX9_adapter_47 : decode cX9_adapter 47 = .ok (.if_icmp .ge 21, 3) := by decide +kernel
theorem dX9_adapter_50 : decode cX9_adapter 50 = .ok (.aload_n 0, 1) := by decide +kernel
theorem dX9_adapter_51 : decode cX9_adapter 51 = .ok (.getfield 35, 3) := by decide +kernel
theorem dX9_adapter_54 : decode cX9_adapter 54 = .ok (.iload_n 2, 1) := by decide +kernel
theorem dX9_adapter_55 : decode cX9_adapter 55 = .ok (.aload_n 0, 1) := by decide +kernel
theorem dX9_adapter_56 : decode cX9_adapter 56 = .ok (.getfield 7, 3) := by decide +kernel
theorem dX9_adapter_59 : decode cX9_adapter 59 = .ok (.iload_n 2, 1) := by decide +kernel
theorem dX9_adapter_60 : decode cX9_adapter 60 = .ok (.iaload, 1) := by decide +kernel
theorem dX9_adapter_61 : decode cX9_adapter 61 = .ok (.iastore, 1) := by decide +kernel
theorem dX9_adapter_62 : decode cX9_adapter 62 = .ok (.iinc 2 1, 3) := by decide +kernel
theorem dX9_adapter_65 : decode cX9_adapter 65 = .ok (.goto (-23), 3) := by decide +kernel
theorem dX9_adapter_68 : decode cX9_adapter 68 = .ok (.aload_n 0, 1) := by decide +kernel
theorem dX9_adapter_69 : decode cX9_adapter 69 = .ok (.iconst 0, 1) := by decide +kernel
theorem dX9_adapter_70 : decode cX9_adapter 70 = .ok (.putfield 69, 3) := by decide +kernel
theorem dX9_adapter_73 : decode cX9_adapter 73 = .ok (.iload_n 1, 1) := by decide +kernel
theorem dX9_adapter_74 : decode cX9_adapter 74 = .ok (.ifCond .eq 10, 3) := by decide +kernel
theorem dX9_adapter_77 : decode cX9_adapter 77 = .ok (.aload_n 0, 1) := by decide +kernel
theorem dX9_adapter_78 : decode cX9_adapter 78 = .ok (.getfield 131, 3) := by decide +kernel
theorem dX9_adapter_81 : decode cX9_adapter 81 = .ok (.goto 4, 3) := by decide +kernel
theorem dX9_adapter_84 : decode cX9_adapter 84 = .ok (.iconst (-1), 1) := by decide +kernel
theorem dX9_adapter_85 : decode cX9_adapter 85 = .ok (.ireturn, 1) := by decide +kernel
theorem dX9_limits_0 : decode cX9_limits 0 = .ok (.aload_n 0, 1) := by decide +kernel
theorem dX9_limits_1 : decode cX9_limits 1 = .ok (.iconst 0, 1) := by decide +kernel
theorem dX9_limits_2 : decode cX9_limits 2 = .ok (.putfield 66, 3) := by decide +kernel
theorem dX9_limits_5 : decode cX9_limits 5 = .ok (.iload_n 1, 1) := by decide +kernel
theorem dX9_limits_6 : decode cX9_limits 6 = .ok (.ifCond .lt 33, 3) := by decide +kernel
theorem dX9_limits_9 : decode cX9_limits 9 = .ok (.iload_n 1, 1) := by decide +kernel
theorem dX9_limits_10 : decode cX9_limits 10 = .ok (.bipush 93, 2) := by decide +kernel
theorem dX9_limits_12 : decode cX9_limits 12 = .ok (.if_icmp .gt 27, 3) := by decide +kernel
theorem dX9_limits_15 : decode cX9_limits 15 = .ok (.iload_n 2, 1) := by decide +kernel
theorem dX9_limits_16 : decode cX9_limits 16 = .ok (.ifCond .lt 23, 3) := by decide +kernel
theorem dX9_limits_19 : decode cX9_limits 19 = .ok (.iload_n 2, 1) := by decide +kernel
theorem dX9_limits_20 : decode cX9_limits 20 = .ok (.bipush 93, 2) := by decide +kernel
theorem dX9_limits_22 : decode cX9_limits 22 = .ok (.if_icmp .gt 17, 3) := by decide +kernel
theorem dX9_limits_25 : decode cX9_limits 25 = .ok (.iload_n 3, 1) := by decide +kernel
theorem dX9_limits_26 : decode cX9_limits 26 = .ok (.ifCond .lt 13, 3) := by decide +kernel
theorem dX9_limits_29 : decode cX9_limits 29 = .ok (.iload_n 3, 1) := by decide +kernel
theorem dX9_limits_30 : decode cX9_limits 30 = .ok (.bipush 120, 2) := by decide +kernel
theorem dX9_limits_32 : decode cX9_limits 32 = .ok (.if_icmp .gt 7, 3) := by decide +kernel
theorem dX9_limits_35 : decode cX9_limits 35 = .ok (.iconst 1, 1) := by decide +kernel
theorem dX9_limits_36 : decode cX9_limits 36 = .ok (.goto 4, 3) := by decide +kernel
theorem dX9_limits_39 : decode cX9_limits 39 = .ok (.iconst 0, 1) := by decide +kernel
theorem dX9_limits_40 : decode cX9_limits 40 = .ok (.istore 4, 2) := by decide +kernel
theorem dX9_limits_42 : decode cX9_limits 42 = .ok (.iload 4, 2) := by decide +kernel
theorem dX9_limits_44 : decode cX9_limits 44 = .ok (.ifCond .eq 18, 3) := by decide +kernel
theorem dX9_limits_47 : decode cX9_limits 47 = .ok (.aload_n 0, 1) := by decide +kernel
theorem dX9_limits_48 : decode cX9_limits 48 = .ok (.iload_n 1, 1) := by decide +kernel
theorem dX9_limits_49 : decode cX9_limits 49 = .ok (.putfield 134, 3) := by decide +kernel
theorem dX9_limits_52 : decode cX9_limits 52 = .ok (.aload_n 0, 1) := by decide +kernel
theorem dX9_limits_53 : decode cX9_limits 53 = .ok (.iload_n 2, 1) := by decide +kernel
theorem dX9_limits_54 : decode cX9_limits 54 = .ok (.putfield 137, 3) := by decide +kernel
theorem dX9_limits_57 : decode cX9_limits 57 = .ok (.aload_n 0, 1) := by decide +kernel
theorem dX9_limits_58 : decode cX9_limits 58 = .ok (.iload_n 3, 1) := by decide +kernel
theorem dX9_limits_59 : decode cX9_limits 59 = .ok (.putfield 38, 3) := by decide +kernel
theorem dX9_limits_62 : decode cX9_limits 62 = .ok (.iload 4, 2) := by decide +kernel
theorem dX9_limits_64 : decode cX9_limits 64 = .ok (.ireturn, 1) := by decide +kernel
theorem dX9_spread_0 : decode cX9_spread 0 = .ok (.bipush 13, 2) := by decide +kernel
theorem dX9_spread_2 : decode cX9_spread 2 = .ok (.istore_n 1, 1) := by decide +kernel
theorem dX9_spread_3 : decode cX9_spread 3 = .ok (.iconst 0, 1) := by decide +kernel
theorem dX9_spread_4 : decode cX9_spread 4 = .ok (.istore_n 2, 1) := by decide +kernel
theorem dX9_spread_5 : decode cX9_spread 5 = .ok (.iload_n 2, 1) := by decide +kernel
theorem dX9_spread_6 : decode cX9_spread 6 = .ok (.aload_n 0, 1) := by decide +kernel
theorem dX9_spread_7 : decode cX9_spread 7 = .ok (.getfield 118, 3) := by decide +kernel
theorem dX9_spread_10 : decode cX9_spread 10 = .ok (.if_icmp .ge 93, 3) := by decide +kernel
theorem dX9_spread_13 : decode cX9_spread 13 = .ok (.iconst 0, 1) := by decide +kernel
theorem dX9_spread_14 : decode cX9_spread 14 = .ok (.istore_n 3, 1) := by decide +kernel
theorem dX9_spread_15 : decode cX9_spread 15 = .ok (.iload_n 3, 1) := by decide +kernel
theorem dX9_spread_16 : decode cX9_spread 16 = .ok (.iload_n 2, 1) := by decide +kernel
theorem dX9_spread_17 : decode cX9_spread 17 = .ok (.if_icmp .ge 80, 3) := by decide +kernel
theorem dX9_spread_20 : decode cX9_spread 20 = .ok (.iconst 0, 1) := by decide +kernel
theorem dX9_spread_21 : decode cX9_spread 21 = .ok (.istore 4, 2) := by decide +kernel
theorem dX9_spread_23 : decode cX9_spread 23 = .ok (.iconst 0, 1) := by decide +kernel
theorem dX9_spread_24 : decode cX9_spread 24 = .ok (.istore 5, 2) := by decide +kernel
theorem dX9_spread_26 : decode cX9_spread 26 = .ok (.iload 5, 2) := by decide +kernel
theorem dX9_spread_28 : decode cX9_spread 28 = .ok (.aload_n 0, 1) := by decide +kernel
theorem dX9_spread_29 : decode cX9_spread 29 = .ok (.getfield 121, 3) := by decide +kernel
theorem dX9_spread_32 : decode cX9_spread 32 = .ok (.if_icmp .ge 46, 3) := by decide +kernel
theorem dX9_spread_35 : decode cX9_spread 35 = .ok (.iload 4, 2) := by decide +kernel
theorem dX9_spread_37 : decode cX9_spread 37 = .ok (.aload_n 0, 1) := by decide +kernel
theorem dX9_spread_38 : decode cX9_spread 38 = .ok (.getfield 32, 3) := by decide +kernel
theorem dX9_spread_41 : decode cX9_spread 41 = .ok (.bipush 12, 2) := by decide +kernel
theorem dX9_spread_43 : decode cX9_spread 43 = .ok (.iload_n 2, 1) := by decide +kernel
theorem dX9_spread_44 : decode cX9_spread 44 = .ok (.imul, 1) := by decide +kernel
theorem dX9_spread_45 : decode cX9_spread 45 = .ok (.iload 5, 2) := by decide +kernel
theorem dX9_spread_47 : decode cX9_spread 47 = .ok (.iadd, 1) := by decide +kernel
theorem dX9_spread_48 : decode cX9_spread 48 = .ok (.iaload, 1) := by decide +kernel
theorem dX9_spread_49 : decode cX9_spread 49 = .ok (.aload_n 0, 1) := by decide +kernel
theorem dX9_spread_50 : decode cX9_spread 50 = .ok (.getfield 32, 3) := by decide +kernel
theorem dX9_spread_53 : decode cX9_spread 53 = .ok (.bipush 12, 2) := by decide +kernel
theorem dX9_spread_55 : decode cX9_spread 55 = .ok (.iload_n 3, 1) := by decide +kernel
theorem dX9_spread_56 : decode cX9_spread 56 = .ok (.imul, 1) := by decide +kernel
theorem dX9_spread_57 : decode cX9_spread 57 = .ok (.iload 5, 2) := by decide +kernel
theorem dX9_spread_59 : decode cX9_spread 59 = .ok (.iadd, 1) := by decide +kernel
theorem dX9_spread_60 : decode cX9_spread 60 = .ok (.iaload, 1) := by decide +kernel
theorem dX9_spread_61 : decode cX9_spread 61 = .ok (.if_icmp .eq 7, 3) := by decide +kernel
theorem dX9_spread_64 : decode cX9_spread 64 = .ok (.iconst 1, 1) := by decide +kernel
theorem dX9_spread_65 : decode cX9_spread 65 = .ok (.goto 4, 3) := by decide +kernel
theorem dX9_spread_68 : decode cX9_spread 68 = .ok (.iconst 0, 1) := by decide +kernel
theorem dX9_spread_69 : decode cX9_spread 69 = .ok (.iadd, 1) := by decide +kernel
theorem dX9_spread_70 : decode cX9_spread 70 = .ok (.istore 4, 2) := by decide +kernel
theorem dX9_spread_72 : decode cX9_spread 72 = .ok (.iinc 5 1, 3) := by decide +kernel
theorem dX9_spread_75 : decode cX9_spread 75 = .ok (.goto (-49), 3) := by decide +kernel
theorem dX9_spread_78 : decode cX9_spread 78 = .ok (.iload 4, 2) := by decide +kernel
theorem dX9_spread_80 : decode cX9_spread 80 = .ok (.iload_n 1, 1) := by decide +kernel
theorem dX9_spread_81 : decode cX9_spread 81 = .ok (.if_icmp .ge 8, 3) := by decide +kernel
theorem dX9_spread_84 : decode cX9_spread 84 = .ok (.iload 4, 2) := by decide +kernel
theorem dX9_spread_86 : decode cX9_spread 86 = .ok (.goto 4, 3) := by decide +kernel
theorem dX9_spread_89 : decode cX9_spread 89 = .ok (.iload_n 1, 1) := by decide +kernel
theorem dX9_spread_90 : decode cX9_spread 90 = .ok (.istore_n 1, 1) := by decide +kernel
theorem dX9_spread_91 : decode cX9_spread 91 = .ok (.iinc 3 1, 3) := by decide +kernel
theorem dX9_spread_94 : decode cX9_spread 94 = .ok (.goto (-79), 3) := by decide +kernel
theorem dX9_spread_97 : decode cX9_spread 97 = .ok (.iinc 2 1, 3) := by decide +kernel
theorem dX9_spread_100 : decode cX9_spread 100 = .ok (.goto (-95), 3) := by decide +kernel
theorem dX9_spread_103 : decode cX9_spread 103 = .ok (.iload_n 1, 1) := by decide +kernel
theorem dX9_spread_104 : decode cX9_spread 104 = .ok (.ireturn, 1) := by decide +kernel
theorem dX9_told_0 : decode cX9_told 0 = .ok (.aload_n 0, 1) := by decide +kernel
theorem dX9_told_1 : decode cX9_told 1 = .ok (.iload_n 1, 1) := by decide +kernel
theorem dX9_told_2 : decode cX9_told 2 = .ok (.ifCond .lt 8, 3) := by decide +kernel
theorem dX9_told_5 : decode cX9_told 5 = .ok (.iload_n 1, 1) := by decide +kernel
theorem dX9_told_6 : decode cX9_told 6 = .ok (.iconst 3, 1) := by decide +kernel
theorem dX9_told_7 : decode cX9_told 7 = .ok (.if_icmp .le 7, 3) := by decide +kernel
theorem dX9_told_10 : decode cX9_told 10 = .ok (.iconst 1, 1) := by decide +kernel
theorem dX9_told_11 : decode cX9_told 11 = .ok (.goto 4, 3) := by decide +kernel
theorem dX9_told_14 : decode cX9_told 14 = .ok (.iconst 0, 1) := by decide +kernel
theorem dX9_told_15 : decode cX9_told 15 = .ok (.putfield 66, 3) := by decide +kernel
theorem dX9_told_18 : decode cX9_told 18 = .ok (.aload_n 0, 1) := by decide +kernel
theorem dX9_told_19 : decode cX9_told 19 = .ok (.getfield 66, 3) := by decide +kernel
theorem dX9_told_22 : decode cX9_told 22 = .ok (.ifCond .le 5, 3) := by decide +kernel
theorem dX9_told_25 : decode cX9_told 25 = .ok (.iconst 0, 1) := by decide +kernel
theorem dX9_told_26 : decode cX9_told 26 = .ok (.ireturn, 1) := by decide +kernel
theorem dX9_told_27 : decode cX9_told 27 = .ok (.iload_n 1, 1) := by decide +kernel
theorem dX9_told_28 : decode cX9_told 28 = .ok (.ifCond .ne 10, 3) := by decide +kernel
theorem dX9_told_31 : decode cX9_told 31 = .ok (.aload_n 0, 1) := by decide +kernel
theorem dX9_told_32 : decode cX9_told 32 = .ok (.invokevirtual 140, 3) := by decide +kernel
theorem dX9_told_35 : decode cX9_told 35 = .ok (.goto 42, 3) := by decide +kernel
theorem dX9_told_38 : decode cX9_told 38 = .ok (.iload_n 1, 1) := by decide +kernel
theorem dX9_told_39 : decode cX9_told 39 = .ok (.iconst 1, 1) := by decide +kernel
theorem dX9_told_40 : decode cX9_told 40 = .ok (.if_icmp .ne 10, 3) := by decide +kernel
theorem dX9_told_43 : decode cX9_told 43 = .ok (.aload_n 0, 1) := by decide +kernel
theorem dX9_told_44 : decode cX9_told 44 = .ok (.getfield 118, 3) := by decide +kernel
theorem dX9_told_47 : decode cX9_told 47 = .ok (.goto 30, 3) := by decide +kernel
theorem dX9_told_50 : decode cX9_told 50 = .ok (.iload_n 1, 1) := by decide +kernel
theorem dX9_told_51 : decode cX9_told 51 = .ok (.iconst 2, 1) := by decide +kernel
theorem dX9_told_52 : decode cX9_told 52 = .ok (.if_icmp .ne 21, 3) := by decide +kernel
theorem dX9_told_55 : decode cX9_told 55 = .ok (.aload_n 0, 1) := by decide +kernel
theorem dX9_told_56 : decode cX9_told 56 = .ok (.getfield 118, 3) := by decide +kernel
theorem dX9_told_59 : decode cX9_told 59 = .ok (.ifCond .ne 7, 3) := by decide +kernel
theorem dX9_told_62 : decode cX9_told 62 = .ok (.iconst 0, 1) := by decide +kernel
theorem dX9_told_63 : decode cX9_told 63 = .ok (.goto 14, 3) := by decide +kernel
theorem dX9_told_66 : decode cX9_told 66 = .ok (.aload_n 0, 1) := by decide +kernel
theorem dX9_told_67 : decode cX9_told 67 = .ok (.getfield 121, 3) := by decide +kernel
theorem dX9_told_70 : decode cX9_told 70 = .ok (.goto 7, 3) := by decide +kernel
theorem dX9_told_73 : decode cX9_told 73 = .ok (.aload_n 0, 1) := by decide +kernel
theorem dX9_told_74 : decode cX9_told 74 = .ok (.getfield 63, 3) := by decide +kernel
theorem dX9_told_77 : decode cX9_told 77 = .ok (.ireturn, 1) := by decide +kernel
theorem dX9_binOf_0 : decode cX9_binOf 0 = .ok (.iconst (-1), 1) := by decide +kernel
theorem dX9_binOf_1 : decode cX9_binOf 1 = .ok (.istore 4, 2) := by decide +kernel
theorem dX9_binOf_3 : decode cX9_binOf 3 = .ok (.aload_n 0, 1) := by decide +kernel
theorem dX9_binOf_4 : decode cX9_binOf 4 = .ok (.getfield 23, 3) := by decide +kernel
theorem dX9_binOf_7 : decode cX9_binOf 7 = .ok (.iload_n 1, 1) := by decide +kernel
theorem dX9_binOf_8 : decode cX9_binOf 8 = .ok (.iaload, 1) := by decide +kernel
theorem dX9_binOf_9 : decode cX9_binOf 9 = .ok (.aload_n 0, 1) := by decide +kernel
theorem dX9_binOf_10 : decode cX9_binOf 10 = .ok (.getfield 121, 3) := by decide +kernel
theorem dX9_binOf_13 : decode cX9_binOf 13 = .ok (.iload_n 2, 1) := by decide +kernel
theorem dX9_binOf_14 : decode cX9_binOf 14 = .ok (.iadd, 1) := by decide +kernel
theorem dX9_binOf_15 : decode cX9_binOf 15 = .ok (.if_icmp .ge 5, 3) := by decide +kernel
theorem dX9_binOf_18 : decode cX9_binOf 18 = .ok (.iconst (-1), 1) := by decide +kernel
theorem dX9_binOf_19 : decode cX9_binOf 19 = .ok (.ireturn, 1) := by decide +kernel
theorem dX9_binOf_20 : decode cX9_binOf 20 = .ok (.iconst 0, 1) := by decide +kernel
theorem dX9_binOf_21 : decode cX9_binOf 21 = .ok (.istore 5, 2) := by decide +kernel
theorem dX9_binOf_23 : decode cX9_binOf 23 = .ok (.iload 5, 2) := by decide +kernel
theorem dX9_binOf_25 : decode cX9_binOf 25 = .ok (.aload_n 0, 1) := by decide +kernel
theorem dX9_binOf_26 : decode cX9_binOf 26 = .ok (.getfield 118, 3) := by decide +kernel
theorem dX9_binOf_29 : decode cX9_binOf 29 = .ok (.if_icmp .ge 83, 3) := by decide +kernel
theorem dX9_binOf_32 : decode cX9_binOf 32 = .ok (.iconst 0, 1) := by decide +kernel
theorem dX9_binOf_33 : decode cX9_binOf 33 = .ok (.istore 6, 2) := by decide +kernel
theorem dX9_binOf_35 : decode cX9_binOf 35 = .ok (.iconst 0, 1) := by decide +kernel
theorem dX9_binOf_36 : decode cX9_binOf 36 = .ok (.istore 7, 2) := by decide +kernel
theorem dX9_binOf_38 : decode cX9_binOf 38 = .ok (.iload 7, 2) := by decide +kernel
theorem dX9_binOf_40 : decode cX9_binOf 40 = .ok (.aload_n 0, 1) := by decide +kernel
theorem dX9_binOf_41 : decode cX9_binOf 41 = .ok (.getfield 121, 3) := by decide +kernel
theorem dX9_binOf_44 : decode cX9_binOf 44 = .ok (.if_icmp .ge 47, 3) := by decide +kernel
theorem dX9_binOf_47 : decode cX9_binOf 47 = .ok (.iload 6, 2) := by decide +kernel
theorem dX9_binOf_49 : decode cX9_binOf 49 = .ok (.aload_n 0, 1) := by decide +kernel
theorem dX9_binOf_50 : decode cX9_binOf 50 = .ok (.getfield 32, 3) := by decide +kernel
theorem dX9_binOf_53 : decode cX9_binOf 53 = .ok (.bipush 12, 2) := by decide +kernel
theorem dX9_binOf_55 : decode cX9_binOf 55 = .ok (.iload 5, 2) := by decide +kernel
theorem dX9_binOf_57 : decode cX9_binOf 57 = .ok (.imul, 1) := by decide +kernel
theorem dX9_binOf_58 : decode cX9_binOf 58 = .ok (.iload 7, 2) := by decide +kernel
theorem dX9_binOf_60 : decode cX9_binOf 60 = .ok (.iadd, 1) := by decide +kernel
theorem dX9_binOf_61 : decode cX9_binOf 61 = .ok (.iaload, 1) := by decide +kernel
theorem dX9_binOf_62 : decode cX9_binOf 62 = .ok (.aload_n 0, 1) := by decide +kernel
theorem dX9_binOf_63 : decode cX9_binOf 63 = .ok (.getfield 26, 3) := by decide +kernel
theorem dX9_binOf_66 : decode cX9_binOf 66 = .ok (.bipush 120, 2) := by decide +kernel
theorem dX9_binOf_68 : decode cX9_binOf 68 = .ok (.iload_n 1, 1) := by decide +kernel
theorem dX9_binOf_69 : decode cX9_binOf 69 = .ok (.imul, 1) := by decide +kernel
theorem dX9_binOf_70 : decode cX9_binOf 70 = .ok (.iload 7, 2) := by decide +kernel
theorem dX9_binOf_72 : decode cX9_binOf 72 = .ok (.iadd, 1) := by decide +kernel
theorem dX9_binOf_73 : decode cX9_binOf 73 = .ok (.iaload, 1) := by decide +kernel
theorem dX9_binOf_74 : decode cX9_binOf 74 = .ok (.if_icmp .eq 7, 3) := by decide +kernel
theorem dX9_binOf_77 : decode cX9_binOf 77 = .ok (.iconst 1, 1) := by decide +kernel
theorem dX9_binOf_78 : decode cX9_binOf 78 = .ok (.goto 4, 3) := by decide +kernel
theorem dX9_binOf_81 : decode cX9_binOf 81 = .ok (.iconst 0, 1) := by decide +kernel
theorem dX9_binOf_82 : decode cX9_binOf 82 = .ok (.iadd, 1) := by decide +kernel
theorem dX9_binOf_83 : decode cX9_binOf 83 = .ok (.istore 6, 2) := by decide +kernel
theorem dX9_binOf_85 : decode cX9_binOf 85 = .ok (.iinc 7 1, 3) := by decide +kernel
theorem dX9_binOf_88 : decode cX9_binOf 88 = .ok (.goto (-50), 3) := by decide +kernel
theorem dX9_binOf_91 : decode cX9_binOf 91 = .ok (.iload 6, 2) := by decide +kernel
theorem dX9_binOf_93 : decode cX9_binOf 93 = .ok (.iload_n 3, 1) := by decide +kernel
theorem dX9_binOf_94 : decode cX9_binOf 94 = .ok (.if_icmp .gt 8, 3) := by decide +kernel
theorem dX9_binOf_97 : decode cX9_binOf 97 = .ok (.iload 5, 2) := by decide +kernel
theorem dX9_binOf_99 : decode cX9_binOf 99 = .ok (.goto 5, 3) := by decide +kernel
theorem dX9_binOf_102 : decode cX9_binOf 102 = .ok (.iload 4, 2) := by decide +kernel
theorem dX9_binOf_104 : decode cX9_binOf 104 = .ok (.istore 4, 2) := by decide +kernel
theorem dX9_binOf_106 : decode cX9_binOf 106 = .ok (.iinc 5 1, 3) := by decide +kernel
theorem dX9_binOf_109 : decode cX9_binOf 109 = .ok (.goto (-86), 3) := by decide +kernel
theorem dX9_binOf_112 : decode cX9_binOf 112 = .ok (.iload 4, 2) := by decide +kernel
theorem dX9_binOf_114 : decode cX9_binOf 114 = .ok (.ireturn, 1) := by decide +kernel
theorem dX9_cutAdapter_0 : decode cX9_cutAdapter 0 = .ok (.aload_n 0, 1) := by decide +kernel
theorem dX9_cutAdapter_1 : decode cX9_cutAdapter 1 = .ok (.getfield 44, 3) := by decide +kernel
theorem dX9_cutAdapter_4 : decode cX9_cutAdapter 4 = .ok (.iload_n 1, 1) := by decide +kernel
theorem dX9_cutAdapter_5 : decode cX9_cutAdapter 5 = .ok (.iaload, 1) := by decide +kernel
theorem dX9_cutAdapter_6 : decode cX9_cutAdapter 6 = .ok (.istore_n 2, 1) := by decide +kernel
theorem dX9_cutAdapter_7 : decode cX9_cutAdapter 7 = .ok (.iload_n 2, 1) := by decide +kernel
theorem dX9_cutAdapter_8 : decode cX9_cutAdapter 8 = .ok (.aload_n 0, 1) := by decide +kernel
theorem dX9_cutAdapter_9 : decode cX9_cutAdapter 9 = .ok (.getfield 47, 3) := by decide +kernel
theorem dX9_cutAdapter_12 : decode cX9_cutAdapter 12 = .ok (.iload_n 1, 1) := by decide +kernel
theorem dX9_cutAdapter_13 : decode cX9_cutAdapter 13 = .ok (.iaload, 1) := by decide +kernel
theorem dX9_cutAdapter_14 : decode cX9_cutAdapter 14 = .ok (.if_icmp .ge 119, 3) := by decide +kernel
theorem dX9_cutAdapter_17 : decode cX9_cutAdapter 17 = .ok (.aload_n 0, 1) := by decide +kernel
theorem dX9_cutAdapter_18 : decode cX9_cutAdapter 18 = .ok (.getfield 131, 3) := by decide +kernel
theorem dX9_cutAdapter_21 : decode cX9_cutAdapter 21 = .ok (.ifCond .le 112, 3) := by decide +kernel
theorem dX9_cutAdapter_24 : decode cX9_cutAdapter 24 = .ok (.aload_n 0, 1) := by decide +kernel
theorem dX9_cutAdapter_25 : decode cX9_cutAdapter 25 = .ok (.getfield 47, 3) := by decide +kernel
theorem dX9_cutAdapter_28 : decode cX9_cutAdapter 28 = .ok (.iload_n 1, 1) := by decide +kernel
theorem dX9_cutAdapter_29 : decode cX9_cutAdapter 29 = .ok (.iaload, 1) := by decide +kernel
theorem dX9_cutAdapter_30 : decode cX9_cutAdapter 30 = .ok (.iload_n 2, 1) := by decide +kernel
theorem dX9_cutAdapter_31 : decode cX9_cutAdapter 31 = .ok (.isub, 1) := by decide +kernel
theorem dX9_cutAdapter_32 : decode cX9_cutAdapter 32 = .ok (.aload_n 0, 1) := by decide +kernel
theorem dX9_cutAdapter_33 : decode cX9_cutAdapter 33 = .ok (.getfield 131, 3) := by decide +kernel
theorem dX9_cutAdapter_36 : decode cX9_cutAdapter 36 = .ok (.if_icmp .ge 14, 3) := by decide +kernel
theorem dX9_cutAdapter_39 : decode cX9_cutAdapter 39 = .ok (.aload_n 0, 1) := by decide +kernel
theorem dX9_cutAdapter_40 : decode cX9_cutAdapter 40 = .ok (.getfield 47, 3) := by decide +kernel
theorem dX9_cutAdapter_43 : decode cX9_cutAdapter 43 = .ok (.iload_n 1, 1) := by decide +kernel
theorem dX9_cutAdapter_44 : decode cX9_cutAdapter 44 = .ok (.iaload, 1) := by decide +kernel
theorem dX9_cutAdapter_45 : decode cX9_cutAdapter 45 = .ok (.iload_n 2, 1) := by decide +kernel
theorem dX9_cutAdapter_46 : decode cX9_cutAdapter 46 = .ok (.isub, 1) := by decide +kernel
theorem dX9_cutAdapter_47 : decode cX9_cutAdapter 47 = .ok (.goto 7, 3) := by decide +kernel
theorem dX9_cutAdapter_50 : decode cX9_cutAdapter 50 = .ok (.aload_n 0, 1) := by decide +kernel
theorem dX9_cutAdapter_51 : decode cX9_cutAdapter 51 = .ok (.getfield 131, 3) := by decide +kernel
theorem dX9_cutAdapter_54 : decode cX9_cutAdapter 54 = .ok (.istore_n 3, 1) := by decide +kernel
theorem dX9_cutAdapter_55 : decode cX9_cutAdapter 55 = .ok (.iconst 0, 1) := by decide +kernel
theorem dX9_cutAdapter_56 : decode cX9_cutAdapter 56 = .ok (.istore 4, 2) := by decide +kernel
theorem dX9_cutAdapter_58 : decode cX9_cutAdapter 58 = .ok (.iconst 0, 1) := by decide +kernel
theorem dX9_cutAdapter_59 : decode cX9_cutAdapter 59 = .ok (.istore 5, 2) := by decide +kernel
theorem dX9_cutAdapter_61 : decode cX9_cutAdapter 61 = .ok (.iload 5, 2) := by decide +kernel
theorem dX9_cutAdapter_63 : decode cX9_cutAdapter 63 = .ok (.iload_n 3, 1) := by decide +kernel
theorem dX9_cutAdapter_64 : decode cX9_cutAdapter 64 = .ok (.if_icmp .ge 43, 3) := by decide +kernel
theorem dX9_cutAdapter_67 : decode cX9_cutAdapter 67 = .ok (.iload 4, 2) := by decide +kernel
theorem dX9_cutAdapter_69 : decode cX9_cutAdapter 69 = .ok (.aload_n 0, 1) := by decide +kernel
theorem dX9_cutAdapter_70 : decode cX9_cutAdapter 70 = .ok (.getfield 26, 3) := by decide +kernel
theorem dX9_cutAdapter_73 : decode cX9_cutAdapter 73 = .ok (.bipush 120, 2) := by decide +kernel
theorem dX9_cutAdapter_75 : decode cX9_cutAdapter 75 = .ok (.iload_n 1, 1) := by decide +kernel
theorem dX9_cutAdapter_76 : decode cX9_cutAdapter 76 = .ok (.imul, 1) := by decide +kernel
theorem dX9_cutAdapter_77 : decode cX9_cutAdapter 77 = .ok (.iload_n 2, 1) := by decide +kernel
theorem dX9_cutAdapter_78 : decode cX9_cutAdapter 78 = .ok (.iadd, 1) := by decide +kernel
theorem dX9_cutAdapter_79 : decode cX9_cutAdapter 79 = .ok (.iload 5, 2) := by decide +kernel
theorem dX9_cutAdapter_81 : decode cX9_cutAdapter 81 = .ok (.iadd, 1) := by decide +kernel
theorem dX9_cutAdapter_82 : decode cX9_cutAdapter 82 = .ok (.iaload, 1) := by decide +kernel
theorem dX9_cutAdapter_83 : decode cX9_cutAdapter 83 = .ok (.aload_n 0, 1) := by decide +kernel
theorem dX9_cutAdapter_84 : decode cX9_cutAdapter 84 = .ok (.getfield 35, 3) := by decide +kernel
theorem dX9_cutAdapter_87 : decode cX9_cutAdapter 87 = .ok (.iload 5, 2) := by decide +kernel
theorem dX9_cutAdapter_89 : decode cX9_cutAdapter 89 = .ok (.iaload, 1) := by decide +kernel
theorem dX9_cutAdapter_90 : decode cX9_cutAdapter 90 = .ok (.if_icmp .eq 7, 3) := by decide +kernel
theorem dX9_cutAdapter_93 : decode cX9_cutAdapter 93 = .ok (.iconst 1, 1) := by decide +kernel
theorem dX9_cutAdapter_94 : decode cX9_cutAdapter 94 = .ok (.goto 4, 3) := by decide +kernel
theorem dX9_cutAdapter_97 : decode cX9_cutAdapter 97 = .ok (.iconst 0, 1) := by decide +kernel
theorem dX9_cutAdapter_98 : decode cX9_cutAdapter 98 = .ok (.iadd, 1) := by decide +kernel
theorem dX9_cutAdapter_99 : decode cX9_cutAdapter 99 = .ok (.istore 4, 2) := by decide +kernel
theorem dX9_cutAdapter_101 : decode cX9_cutAdapter 101 = .ok (.iinc 5 1, 3) := by decide +kernel
theorem dX9_cutAdapter_104 : decode cX9_cutAdapter 104 = .ok (.goto (-43), 3) := by decide +kernel
theorem dX9_cutAdapter_107 : decode cX9_cutAdapter 107 = .ok (.iload_n 3, 1) := by decide +kernel
theorem dX9_cutAdapter_108 : decode cX9_cutAdapter 108 = .ok (.iconst 3, 1) := by decide +kernel
theorem dX9_cutAdapter_109 : decode cX9_cutAdapter 109 = .ok (.if_icmp .lt 18, 3) := by decide +kernel
theorem dX9_cutAdapter_112 : decode cX9_cutAdapter 112 = .ok (.iload 4, 2) := by decide +kernel
theorem dX9_cutAdapter_114 : decode cX9_cutAdapter 114 = .ok (.iload_n 3, 1) := by decide +kernel
theorem dX9_cutAdapter_115 : decode cX9_cutAdapter 115 = .ok (.iconst 5, 1) := by decide +kernel
theorem dX9_cutAdapter_116 : decode cX9_cutAdapter 116 = .ok (.idiv, 1) := by decide +kernel
theorem dX9_cutAdapter_117 : decode cX9_cutAdapter 117 = .ok (.if_icmp .gt 10, 3) := by decide +kernel
theorem dX9_cutAdapter_120 : decode cX9_cutAdapter 120 = .ok (.aload_n 0, 1) := by decide +kernel
theorem dX9_cutAdapter_121 : decode cX9_cutAdapter 121 = .ok (.getfield 47, 3) := by decide +kernel
theorem dX9_cutAdapter_124 : decode cX9_cutAdapter 124 = .ok (.iload_n 1, 1) := by decide +kernel
theorem dX9_cutAdapter_125 : decode cX9_cutAdapter 125 = .ok (.iload_n 2, 1) := by decide +kernel
theorem dX9_cutAdapter_126 : decode cX9_cutAdapter 126 = .ok (.iastore, 1) := by decide +kernel
theorem dX9_cutAdapter_127 : decode cX9_cutAdapter 127 = .ok (.iinc 2 1, 3) := by decide +kernel
theorem dX9_cutAdapter_130 : decode cX9_cutAdapter 130 = .ok (.goto (-123), 3) := by decide +kernel
theorem dX9_cutAdapter_133 : decode cX9_cutAdapter 133 = .ok (.return_, 1) := by decide +kernel
theorem dX9_cutQualities_0 : decode cX9_cutQualities 0 = .ok (.iconst 0, 1) := by decide +kernel
theorem dX9_cutQualities_1 : decode cX9_cutQualities 1 = .ok (.istore_n 2, 1) := by decide +kernel
theorem dX9_cutQualities_2 : decode cX9_cutQualities 2 = .ok (.iconst 0, 1) := by decide +kernel
theorem dX9_cutQualities_3 : decode cX9_cutQualities 3 = .ok (.istore_n 3, 1) := by decide +kernel
theorem dX9_cutQualities_4 : decode cX9_cutQualities 4 = .ok (.aload_n 0, 1) := by decide +kernel
theorem dX9_cutQualities_5 : decode cX9_cutQualities 5 = .ok (.getfield 47, 3) := by decide +kernel
theorem dX9_cutQualities_8 : decode cX9_cutQualities 8 = .ok (.iload_n 1, 1) := by decide +kernel
theorem dX9_cutQualities_9 : decode cX9_cutQualities 9 = .ok (.iaload, 1) := by decide +kernel
theorem dX9_cutQualities_10 : decode cX9_cutQualities 10 = .ok (.istore 4, 2) := by decide +kernel
theorem dX9_cutQualities_12 : decode cX9_cutQualities 12 = .ok (.aload_n 0, 1) := by decide +kernel
theorem dX9_cutQualities_13 : decode cX9_cutQualities 13 = .ok (.getfield 47, 3) := by decide +kernel
theorem dX9_cutQualities_16 : decode cX9_cutQualities 16 = .ok (.iload_n 1, 1) := by decide +kernel
theorem dX9_cutQualities_17 : decode cX9_cutQualities 17 = .ok (.iaload, 1) := by decide +kernel
theorem dX9_cutQualities_18 : decode cX9_cutQualities 18 = .ok (.iconst 1, 1) := by decide +kernel
theorem dX9_cutQualities_19 : decode cX9_cutQualities 19 = .ok (.isub, 1) := by decide +kernel
theorem dX9_cutQualities_20 : decode cX9_cutQualities 20 = .ok (.istore 5, 2) := by decide +kernel
theorem dX9_cutQualities_22 : decode cX9_cutQualities 22 = .ok (.iload 5, 2) := by decide +kernel
theorem dX9_cutQualities_24 : decode cX9_cutQualities 24 = .ok (.aload_n 0, 1) := by decide +kernel
theorem dX9_cutQualities_25 : decode cX9_cutQualities 25 = .ok (.getfield 44, 3) := by decide +kernel
theorem dX9_cutQualities_28 : decode cX9_cutQualities 28 = .ok (.iload_n 1, 1) := by decide +kernel
theorem dX9_cutQualities_29 : decode cX9_cutQualities 29 = .ok (.iaload, 1) := by decide +kernel
theorem dX9_cutQualities_30 : decode cX9_cutQualities 30 = .ok (.if_icmp .lt 65, 3) := by decide +kernel
theorem dX9_cutQualities_33 : decode cX9_cutQualities 33 = .ok (.aload_n 0, 1) := by decide +kernel
theorem dX9_cutQualities_34 : decode cX9_cutQualities 34 = .ok (.getfield 137, 3) := by decide +kernel
theorem dX9_cutQualities_37 : decode cX9_cutQualities 37 = .ok (.ifCond .le 58, 3) := by decide +kernel
theorem dX9_cutQualities_40 : decode cX9_cutQualities 40 = .ok (.iload_n 2, 1) := by decide +kernel
theorem dX9_cutQualities_41 : decode cX9_cutQualities 41 = .ok (.ifCond .lt 54, 3) := by decide +kernel
theorem dX9_cutQualities_44 : decode cX9_cutQualities 44 = .ok (.iload_n 2, 1) := by decide +kernel
theorem dX9_cutQualities_45 : decode cX9_cutQualities 45 = .ok (.aload_n 0, 1) := by decide +kernel
theorem dX9_cutQualities_46 : decode cX9_cutQualities 46 = .ok (.getfield 137, 3) := by decide +kernel
theorem dX9_cutQualities_49 : decode cX9_cutQualities 49 = .ok (.aload_n 0, 1) := by decide +kernel
theorem dX9_cutQualities_50 : decode cX9_cutQualities 50 = .ok (.getfield 29, 3) := by decide +kernel
theorem dX9_cutQualities_53 : decode cX9_cutQualities 53 = .ok (.bipush 120, 2) := by decide +kernel
theorem dX9_cutQualities_55 : decode cX9_cutQualities 55 = .ok (.iload_n 1, 1) := by decide +kernel
theorem dX9_cutQualities_56 : decode cX9_cutQualities 56 = .ok (.imul, 1) := by decide +kernel
theorem dX9_cutQualities_57 : decode cX9_cutQualities 57 = .ok (.iload 5, 2) := by decide +kernel
theorem dX9_cutQualities_59 : decode cX9_cutQualities 59 = .ok (.iadd, 1) := by decide +kernel
theorem dX9_cutQualities_60 : decode cX9_cutQualities 60 = .ok (.iaload, 1) := by decide +kernel
theorem dX9_cutQualities_61 : decode cX9_cutQualities 61 = .ok (.isub, 1) := by decide +kernel
theorem dX9_cutQualities_62 : decode cX9_cutQualities 62 = .ok (.iadd, 1) := by decide +kernel
theorem dX9_cutQualities_63 : decode cX9_cutQualities 63 = .ok (.istore_n 2, 1) := by decide +kernel
theorem dX9_cutQualities_64 : decode cX9_cutQualities 64 = .ok (.iload_n 2, 1) := by decide +kernel
theorem dX9_cutQualities_65 : decode cX9_cutQualities 65 = .ok (.iload_n 3, 1) := by decide +kernel
theorem dX9_cutQualities_66 : decode cX9_cutQualities 66 = .ok (.if_icmp .le 8, 3) := by decide +kernel
theorem dX9_cutQualities_69 : decode cX9_cutQualities 69 = .ok (.iload 5, 2) := by decide +kernel
theorem dX9_cutQualities_71 : decode cX9_cutQualities 71 = .ok (.goto 5, 3) := by decide +kernel
theorem dX9_cutQualities_74 : decode cX9_cutQualities 74 = .ok (.iload 4, 2) := by decide +kernel
theorem dX9_cutQualities_76 : decode cX9_cutQualities 76 = .ok (.istore 4, 2) := by decide +kernel
theorem dX9_cutQualities_78 : decode cX9_cutQualities 78 = .ok (.iload_n 2, 1) := by decide +kernel
theorem dX9_cutQualities_79 : decode cX9_cutQualities 79 = .ok (.iload_n 3, 1) := by decide +kernel
theorem dX9_cutQualities_80 : decode cX9_cutQualities 80 = .ok (.if_icmp .le 7, 3) := by decide +kernel
theorem dX9_cutQualities_83 : decode cX9_cutQualities 83 = .ok (.iload_n 2, 1) := by decide +kernel
theorem dX9_cutQualities_84 : decode cX9_cutQualities 84 = .ok (.goto 4, 3) := by decide +kernel
theorem dX9_cutQualities_87 : decode cX9_cutQualities 87 = .ok (.iload_n 3, 1) := by decide +kernel
theorem dX9_cutQualities_88 : decode cX9_cutQualities 88 = .ok (.istore_n 3, 1) := by decide +kernel
theorem dX9_cutQualities_89 : decode cX9_cutQualities 89 = .ok (.iinc 5 (-1), 3) := by decide +kernel
theorem dX9_cutQualities_92 : decode cX9_cutQualities 92 = .ok (.goto (-70), 3) := by decide +kernel
theorem dX9_cutQualities_95 : decode cX9_cutQualities 95 = .ok (.aload_n 0, 1) := by decide +kernel
theorem dX9_cutQualities_96 : decode cX9_cutQualities 96 = .ok (.getfield 47, 3) := by decide +kernel
theorem dX9_cutQualities_99 : decode cX9_cutQualities 99 = .ok (.iload_n 1, 1) := by decide +kernel
theorem dX9_cutQualities_100 : decode cX9_cutQualities 100 = .ok (.iload 4, 2) := by decide +kernel
theorem dX9_cutQualities_102 : decode cX9_cutQualities 102 = .ok (.iastore, 1) := by decide +kernel
theorem dX9_cutQualities_103 : decode cX9_cutQualities 103 = .ok (.iconst 0, 1) := by decide +kernel
theorem dX9_cutQualities_104 : decode cX9_cutQualities 104 = .ok (.istore_n 2, 1) := by decide +kernel
theorem dX9_cutQualities_105 : decode cX9_cutQualities 105 = .ok (.iconst 0, 1) := by decide +kernel
theorem dX9_cutQualities_106 : decode cX9_cutQualities 106 = .ok (.istore_n 3, 1) := by decide +kernel
theorem dX9_cutQualities_107 : decode cX9_cutQualities 107 = .ok (.aload_n 0, 1) := by decide +kernel
theorem dX9_cutQualities_108 : decode cX9_cutQualities 108 = .ok (.getfield 44, 3) := by decide +kernel
theorem dX9_cutQualities_111 : decode cX9_cutQualities 111 = .ok (.iload_n 1, 1) := by decide +kernel
theorem dX9_cutQualities_112 : decode cX9_cutQualities 112 = .ok (.iaload, 1) := by decide +kernel
theorem dX9_cutQualities_113 : decode cX9_cutQualities 113 = .ok (.istore 5, 2) := by decide +kernel
theorem dX9_cutQualities_115 : decode cX9_cutQualities 115 = .ok (.aload_n 0, 1) := by decide +kernel
theorem dX9_cutQualities_116 : decode cX9_cutQualities 116 = .ok (.getfield 44, 3) := by decide +kernel
theorem dX9_cutQualities_119 : decode cX9_cutQualities 119 = .ok (.iload_n 1, 1) := by decide +kernel
theorem dX9_cutQualities_120 : decode cX9_cutQualities 120 = .ok (.iaload, 1) := by decide +kernel
theorem dX9_cutQualities_121 : decode cX9_cutQualities 121 = .ok (.istore 6, 2) := by decide +kernel
theorem dX9_cutQualities_123 : decode cX9_cutQualities 123 = .ok (.iload 6, 2) := by decide +kernel
theorem dX9_cutQualities_125 : decode cX9_cutQualities 125 = .ok (.aload_n 0, 1) := by decide +kernel
theorem dX9_cutQualities_126 : decode cX9_cutQualities 126 = .ok (.getfield 47, 3) := by decide +kernel
theorem dX9_cutQualities_129 : decode cX9_cutQualities 129 = .ok (.iload_n 1, 1) := by decide +kernel
theorem dX9_cutQualities_130 : decode cX9_cutQualities 130 = .ok (.iaload, 1) := by decide +kernel
theorem dX9_cutQualities_131 : decode cX9_cutQualities 131 = .ok (.if_icmp .ge 67, 3) := by decide +kernel
theorem dX9_cutQualities_134 : decode cX9_cutQualities 134 = .ok (.aload_n 0, 1) := by decide +kernel
theorem dX9_cutQualities_135 : decode cX9_cutQualities 135 = .ok (.getfield 134, 3) := by decide +kernel
theorem dX9_cutQualities_138 : decode cX9_cutQualities 138 = .ok (.ifCond .le 60, 3) := by decide +kernel
theorem dX9_cutQualities_141 : decode cX9_cutQualities 141 = .ok (.iload_n 2, 1) := by decide +kernel
theorem dX9_cutQualities_142 : decode cX9_cutQualities 142 = .ok (.ifCond .lt 56, 3) := by decide +kernel
theorem dX9_cutQualities_145 : decode cX9_cutQualities 145 = .ok (.iload_n 2, 1) := by decide +kernel
theorem dX9_cutQualities_146 : decode cX9_cutQualities 146 = .ok (.aload_n 0, 1) := by decide +kernel
theorem dX9_cutQualities_147 : decode cX9_cutQualities 147 = .ok (.getfield 134, 3) := by decide +kernel
theorem dX9_cutQualities_150 : decode cX9_cutQualities 150 = .ok (.aload_n 0, 1) := by decide +kernel
theorem dX9_cutQualities_151 : decode cX9_cutQualities 151 = .ok (.getfield 29, 3) := by decide +kernel
theorem dX9_cutQualities_154 : decode cX9_cutQualities 154 = .ok (.bipush 120, 2) := by decide +kernel
theorem dX9_cutQualities_156 : decode cX9_cutQualities 156 = .ok (.iload_n 1, 1) := by decide +kernel
theorem dX9_cutQualities_157 : decode cX9_cutQualities 157 = .ok (.imul, 1) := by decide +kernel
theorem dX9_cutQualities_158 : decode cX9_cutQualities 158 = .ok (.iload 6, 2) := by decide +kernel
theorem dX9_cutQualities_160 : decode cX9_cutQualities 160 = .ok (.iadd, 1) := by decide +kernel
theorem dX9_cutQualities_161 : decode cX9_cutQualities 161 = .ok (.iaload, 1) := by decide +kernel
theorem dX9_cutQualities_162 : decode cX9_cutQualities 162 = .ok (.isub, 1) := by decide +kernel
theorem dX9_cutQualities_163 : decode cX9_cutQualities 163 = .ok (.iadd, 1) := by decide +kernel
theorem dX9_cutQualities_164 : decode cX9_cutQualities 164 = .ok (.istore_n 2, 1) := by decide +kernel
theorem dX9_cutQualities_165 : decode cX9_cutQualities 165 = .ok (.iload_n 2, 1) := by decide +kernel
theorem dX9_cutQualities_166 : decode cX9_cutQualities 166 = .ok (.iload_n 3, 1) := by decide +kernel
theorem dX9_cutQualities_167 : decode cX9_cutQualities 167 = .ok (.if_icmp .le 10, 3) := by decide +kernel
theorem dX9_cutQualities_170 : decode cX9_cutQualities 170 = .ok (.iload 6, 2) := by decide +kernel
theorem dX9_cutQualities_172 : decode cX9_cutQualities 172 = .ok (.iconst 1, 1) := by decide +kernel
theorem dX9_cutQualities_173 : decode cX9_cutQualities 173 = .ok (.iadd, 1) := by decide +kernel
theorem dX9_cutQualities_174 : decode cX9_cutQualities 174 = .ok (.goto 5, 3) := by decide +kernel
theorem dX9_cutQualities_177 : decode cX9_cutQualities 177 = .ok (.iload 5, 2) := by decide +kernel
theorem dX9_cutQualities_179 : decode cX9_cutQualities 179 = .ok (.istore 5, 2) := by decide +kernel
theorem dX9_cutQualities_181 : decode cX9_cutQualities 181 = .ok (.iload_n 2, 1) := by decide +kernel
theorem dX9_cutQualities_182 : decode cX9_cutQualities 182 = .ok (.iload_n 3, 1) := by decide +kernel
theorem dX9_cutQualities_183 : decode cX9_cutQualities 183 = .ok (.if_icmp .le 7, 3) := by decide +kernel
theorem dX9_cutQualities_186 : decode cX9_cutQualities 186 = .ok (.iload_n 2, 1) := by decide +kernel
theorem dX9_cutQualities_187 : decode cX9_cutQualities 187 = .ok (.goto 4, 3) := by decide +kernel
theorem dX9_cutQualities_190 : decode cX9_cutQualities 190 = .ok (.iload_n 3, 1) := by decide +kernel
theorem dX9_cutQualities_191 : decode cX9_cutQualities 191 = .ok (.istore_n 3, 1) := by decide +kernel
theorem dX9_cutQualities_192 : decode cX9_cutQualities 192 = .ok (.iinc 6 1, 3) := by decide +kernel
theorem dX9_cutQualities_195 : decode cX9_cutQualities 195 = .ok (.goto (-72), 3) := by decide +kernel
theorem dX9_cutQualities_198 : decode cX9_cutQualities 198 = .ok (.aload_n 0, 1) := by decide +kernel
theorem dX9_cutQualities_199 : decode cX9_cutQualities 199 = .ok (.getfield 44, 3) := by decide +kernel
theorem dX9_cutQualities_202 : decode cX9_cutQualities 202 = .ok (.iload_n 1, 1) := by decide +kernel
theorem dX9_cutQualities_203 : decode cX9_cutQualities 203 = .ok (.iload 5, 2) := by decide +kernel
theorem dX9_cutQualities_205 : decode cX9_cutQualities 205 = .ok (.iastore, 1) := by decide +kernel
theorem dX9_cutQualities_206 : decode cX9_cutQualities 206 = .ok (.return_, 1) := by decide +kernel
theorem dX9_cutNone_0 : decode cX9_cutNone 0 = .ok (.aload_n 0, 1) := by decide +kernel
theorem dX9_cutNone_1 : decode cX9_cutNone 1 = .ok (.getfield 44, 3) := by decide +kernel
theorem dX9_cutNone_4 : decode cX9_cutNone 4 = .ok (.iload_n 1, 1) := by decide +kernel
theorem dX9_cutNone_5 : decode cX9_cutNone 5 = .ok (.iaload, 1) := by decide +kernel
theorem dX9_cutNone_6 : decode cX9_cutNone 6 = .ok (.aload_n 0, 1) := by decide +kernel
theorem dX9_cutNone_7 : decode cX9_cutNone 7 = .ok (.getfield 47, 3) := by decide +kernel
theorem dX9_cutNone_10 : decode cX9_cutNone 10 = .ok (.iload_n 1, 1) := by decide +kernel
theorem dX9_cutNone_11 : decode cX9_cutNone 11 = .ok (.iaload, 1) := by decide +kernel
theorem dX9_cutNone_12 : decode cX9_cutNone 12 = .ok (.if_icmp .ge 37, 3) := by decide +kernel
theorem dX9_cutNone_15 : decode cX9_cutNone 15 = .ok (.aload_n 0, 1) := by decide +kernel
theorem dX9_cutNone_16 : decode cX9_cutNone 16 = .ok (.getfield 26, 3) := by decide +kernel
theorem dX9_cutNone_19 : decode cX9_cutNone 19 = .ok (.bipush 120, 2) := by decide +kernel
theorem dX9_cutNone_21 : decode cX9_cutNone 21 = .ok (.iload_n 1, 1) := by decide +kernel
theorem dX9_cutNone_22 : decode cX9_cutNone 22 = .ok (.imul, 1) := by decide +kernel
theorem dX9_cutNone_23 : decode cX9_cutNone 23 = .ok (.aload_n 0, 1) := by decide +kernel
theorem dX9_cutNone_24 : decode cX9_cutNone 24 = .ok (.getfield 44, 3) := by decide +kernel
theorem dX9_cutNone_27 : decode cX9_cutNone 27 = .ok (.iload_n 1, 1) := by decide +kernel
theorem dX9_cutNone_28 : decode cX9_cutNone 28 = .ok (.iaload, 1) := by decide +kernel
theorem dX9_cutNone_29 : decode cX9_cutNone 29 = .ok (.iadd, 1) := by decide +kernel
theorem dX9_cutNone_30 : decode cX9_cutNone 30 = .ok (.iaload, 1) := by decide +kernel
theorem dX9_cutNone_31 : decode cX9_cutNone 31 = .ok (.bipush 78, 2) := by decide +kernel
theorem dX9_cutNone_33 : decode cX9_cutNone 33 = .ok (.if_icmp .ne 16, 3) := by decide +kernel
theorem dX9_cutNone_36 : decode cX9_cutNone 36 = .ok (.aload_n 0, 1) := by decide +kernel
theorem dX9_cutNone_37 : decode cX9_cutNone 37 = .ok (.getfield 44, 3) := by decide +kernel
theorem dX9_cutNone_40 : decode cX9_cutNone 40 = .ok (.iload_n 1, 1) := by decide +kernel
theorem dX9_cutNone_41 : decode cX9_cutNone 41 = .ok (.dup2, 1) := by decide +kernel
theorem dX9_cutNone_42 : decode cX9_cutNone 42 = .ok (.iaload, 1) := by decide +kernel
theorem dX9_cutNone_43 : decode cX9_cutNone 43 = .ok (.iconst 1, 1) := by decide +kernel
theorem dX9_cutNone_44 : decode cX9_cutNone 44 = .ok (.iadd, 1) := by decide +kernel
theorem dX9_cutNone_45 : decode cX9_cutNone 45 = .ok (.iastore, 1) := by decide +kernel
theorem dX9_cutNone_46 : decode cX9_cutNone 46 = .ok (.goto (-46), 3) := by decide +kernel
theorem dX9_cutNone_49 : decode cX9_cutNone 49 = .ok (.aload_n 0, 1) := by decide +kernel
theorem dX9_cutNone_50 : decode cX9_cutNone 50 = .ok (.getfield 44, 3) := by decide +kernel
theorem dX9_cutNone_53 : decode cX9_cutNone 53 = .ok (.iload_n 1, 1) := by decide +kernel
theorem dX9_cutNone_54 : decode cX9_cutNone 54 = .ok (.iaload, 1) := by decide +kernel
theorem dX9_cutNone_55 : decode cX9_cutNone 55 = .ok (.aload_n 0, 1) := by decide +kernel
theorem dX9_cutNone_56 : decode cX9_cutNone 56 = .ok (.getfield 47, 3) := by decide +kernel
theorem dX9_cutNone_59 : decode cX9_cutNone 59 = .ok (.iload_n 1, 1) := by decide +kernel
theorem dX9_cutNone_60 : decode cX9_cutNone 60 = .ok (.iaload, 1) := by decide +kernel
theorem dX9_cutNone_61 : decode cX9_cutNone 61 = .ok (.if_icmp .ge 39, 3) := by decide +kernel
theorem dX9_cutNone_64 : decode cX9_cutNone 64 = .ok (.aload_n 0, 1) := by decide +kernel
theorem dX9_cutNone_65 : decode cX9_cutNone 65 = .ok (.getfield 26, 3) := by decide +kernel
theorem dX9_cutNone_68 : decode cX9_cutNone 68 = .ok (.bipush 120, 2) := by decide +kernel
theorem dX9_cutNone_70 : decode cX9_cutNone 70 = .ok (.iload_n 1, 1) := by decide +kernel
theorem dX9_cutNone_71 : decode cX9_cutNone 71 = .ok (.imul, 1) := by decide +kernel
theorem dX9_cutNone_72 : decode cX9_cutNone 72 = .ok (.aload_n 0, 1) := by decide +kernel
theorem dX9_cutNone_73 : decode cX9_cutNone 73 = .ok (.getfield 47, 3) := by decide +kernel
theorem dX9_cutNone_76 : decode cX9_cutNone 76 = .ok (.iload_n 1, 1) := by decide +kernel
theorem dX9_cutNone_77 : decode cX9_cutNone 77 = .ok (.iaload, 1) := by decide +kernel
theorem dX9_cutNone_78 : decode cX9_cutNone 78 = .ok (.iadd, 1) := by decide +kernel
theorem dX9_cutNone_79 : decode cX9_cutNone 79 = .ok (.iconst 1, 1) := by decide +kernel
theorem dX9_cutNone_80 : decode cX9_cutNone 80 = .ok (.isub, 1) := by decide +kernel
theorem dX9_cutNone_81 : decode cX9_cutNone 81 = .ok (.iaload, 1) := by decide +kernel
theorem dX9_cutNone_82 : decode cX9_cutNone 82 = .ok (.bipush 78, 2) := by decide +kernel
theorem dX9_cutNone_84 : decode cX9_cutNone 84 = .ok (.if_icmp .ne 16, 3) := by decide +kernel
theorem dX9_cutNone_87 : decode cX9_cutNone 87 = .ok (.aload_n 0, 1) := by decide +kernel
theorem dX9_cutNone_88 : decode cX9_cutNone 88 = .ok (.getfield 47, 3) := by decide +kernel
theorem dX9_cutNone_91 : decode cX9_cutNone 91 = .ok (.iload_n 1, 1) := by decide +kernel
theorem dX9_cutNone_92 : decode cX9_cutNone 92 = .ok (.dup2, 1) := by decide +kernel
theorem dX9_cutNone_93 : decode cX9_cutNone 93 = .ok (.iaload, 1) := by decide +kernel
theorem dX9_cutNone_94 : decode cX9_cutNone 94 = .ok (.iconst 1, 1) := by decide +kernel
theorem dX9_cutNone_95 : decode cX9_cutNone 95 = .ok (.isub, 1) := by decide +kernel
theorem dX9_cutNone_96 : decode cX9_cutNone 96 = .ok (.iastore, 1) := by decide +kernel
theorem dX9_cutNone_97 : decode cX9_cutNone 97 = .ok (.goto (-48), 3) := by decide +kernel
theorem dX9_cutNone_100 : decode cX9_cutNone 100 = .ok (.return_, 1) := by decide +kernel
theorem dX9_tagAt_0 : decode cX9_tagAt 0 = .ok (.aload_n 0, 1) := by decide +kernel
theorem dX9_tagAt_1 : decode cX9_tagAt 1 = .ok (.getfield 26, 3) := by decide +kernel
theorem dX9_tagAt_4 : decode cX9_tagAt 4 = .ok (.bipush 120, 2) := by decide +kernel
theorem dX9_tagAt_6 : decode cX9_tagAt 6 = .ok (.iload_n 1, 1) := by decide +kernel
theorem dX9_tagAt_7 : decode cX9_tagAt 7 = .ok (.imul, 1) := by decide +kernel
theorem dX9_tagAt_8 : decode cX9_tagAt 8 = .ok (.aload_n 0, 1) := by decide +kernel
theorem dX9_tagAt_9 : decode cX9_tagAt 9 = .ok (.getfield 143, 3) := by decide +kernel
theorem dX9_tagAt_12 : decode cX9_tagAt 12 = .ok (.iadd, 1) := by decide +kernel
theorem dX9_tagAt_13 : decode cX9_tagAt 13 = .ok (.iload_n 2, 1) := by decide +kernel
theorem dX9_tagAt_14 : decode cX9_tagAt 14 = .ok (.iadd, 1) := by decide +kernel
theorem dX9_tagAt_15 : decode cX9_tagAt 15 = .ok (.iaload, 1) := by decide +kernel
theorem dX9_tagAt_16 : decode cX9_tagAt 16 = .ok (.ireturn, 1) := by decide +kernel
theorem dX9_distance_0 : decode cX9_distance 0 = .ok (.iconst 0, 1) := by decide +kernel
theorem dX9_distance_1 : decode cX9_distance 1 = .ok (.istore_n 3, 1) := by decide +kernel
theorem dX9_distance_2 : decode cX9_distance 2 = .ok (.iconst 0, 1) := by decide +kernel
theorem dX9_distance_3 : decode cX9_distance 3 = .ok (.istore 4, 2) := by decide +kernel
theorem dX9_distance_5 : decode cX9_distance 5 = .ok (.iload 4, 2) := by decide +kernel
theorem dX9_distance_7 : decode cX9_distance 7 = .ok (.aload_n 0, 1) := by decide +kernel
theorem dX9_distance_8 : decode cX9_distance 8 = .ok (.getfield 146, 3) := by decide +kernel
theorem dX9_distance_11 : decode cX9_distance 11 = .ok (.if_icmp .ge 34, 3) := by decide +kernel
theorem dX9_distance_14 : decode cX9_distance 14 = .ok (.iload_n 3, 1) := by decide +kernel
theorem dX9_distance_15 : decode cX9_distance 15 = .ok (.aload_n 0, 1) := by decide +kernel
theorem dX9_distance_16 : decode cX9_distance 16 = .ok (.iload_n 1, 1) := by decide +kernel
theorem dX9_distance_17 : decode cX9_distance 17 = .ok (.iload 4, 2) := by decide +kernel
theorem dX9_distance_19 : decode cX9_distance 19 = .ok (.invokevirtual 149, 3) := by decide +kernel
theorem dX9_distance_22 : decode cX9_distance 22 = .ok (.aload_n 0, 1) := by decide +kernel
theorem dX9_distance_23 : decode cX9_distance 23 = .ok (.iload_n 2, 1) := by decide +kernel
theorem dX9_distance_24 : decode cX9_distance 24 = .ok (.iload 4, 2) := by decide +kernel
theorem dX9_distance_26 : decode cX9_distance 26 = .ok (.invokevirtual 149, 3) := by decide +kernel
theorem dX9_distance_29 : decode cX9_distance 29 = .ok (.if_icmp .eq 7, 3) := by decide +kernel
theorem dX9_distance_32 : decode cX9_distance 32 = .ok (.iconst 1, 1) := by decide +kernel
theorem dX9_distance_33 : decode cX9_distance 33 = .ok (.goto 4, 3) := by decide +kernel
theorem dX9_distance_36 : decode cX9_distance 36 = .ok (.iconst 0, 1) := by decide +kernel
theorem dX9_distance_37 : decode cX9_distance 37 = .ok (.iadd, 1) := by decide +kernel
theorem dX9_distance_38 : decode cX9_distance 38 = .ok (.istore_n 3, 1) := by decide +kernel
theorem dX9_distance_39 : decode cX9_distance 39 = .ok (.iinc 4 1, 3) := by decide +kernel
theorem dX9_distance_42 : decode cX9_distance 42 = .ok (.goto (-37), 3) := by decide +kernel
theorem dX9_distance_45 : decode cX9_distance 45 = .ok (.iload_n 3, 1) := by decide +kernel
theorem dX9_distance_46 : decode cX9_distance 46 = .ok (.ireturn, 1) := by decide +kernel
theorem dX9_counts_0 : decode cX9_counts 0 = .ok (.aload_n 0, 1) := by decide +kernel
theorem dX9_counts_1 : decode cX9_counts 1 = .ok (.getfield 41, 3) := by decide +kernel
theorem dX9_counts_4 : decode cX9_counts 4 = .ok (.iload_n 1, 1) := by decide +kernel
theorem dX9_counts_5 : decode cX9_counts 5 = .ok (.iaload, 1) := by decide +kernel
theorem dX9_counts_6 : decode cX9_counts 6 = .ok (.iload_n 2, 1) := by decide +kernel
theorem dX9_counts_7 : decode cX9_counts 7 = .ok (.if_icmp .ne 16, 3) := by decide +kernel
theorem dX9_counts_10 : decode cX9_counts 10 = .ok (.aload_n 0, 1) := by decide +kernel
theorem dX9_counts_11 : decode cX9_counts 11 = .ok (.getfield 50, 3) := by decide +kernel
theorem dX9_counts_14 : decode cX9_counts 14 = .ok (.iload_n 1, 1) := by decide +kernel
theorem dX9_counts_15 : decode cX9_counts 15 = .ok (.baload, 1) := by decide +kernel
theorem dX9_counts_16 : decode cX9_counts 16 = .ok (.ifCond .ne 7, 3) := by decide +kernel
theorem dX9_counts_19 : decode cX9_counts 19 = .ok (.iconst 1, 1) := by decide +kernel
theorem dX9_counts_20 : decode cX9_counts 20 = .ok (.goto 4, 3) := by decide +kernel
theorem dX9_counts_23 : decode cX9_counts 23 = .ok (.iconst 0, 1) := by decide +kernel
theorem dX9_counts_24 : decode cX9_counts 24 = .ok (.ireturn, 1) := by decide +kernel
theorem dX9_countOf_0 : decode cX9_countOf 0 = .ok (.iconst 0, 1) := by decide +kernel
theorem dX9_countOf_1 : decode cX9_countOf 1 = .ok (.istore_n 2, 1) := by decide +kernel
theorem dX9_countOf_2 : decode cX9_countOf 2 = .ok (.iconst 0, 1) := by decide +kernel
theorem dX9_countOf_3 : decode cX9_countOf 3 = .ok (.istore_n 3, 1) := by decide +kernel
theorem dX9_countOf_4 : decode cX9_countOf 4 = .ok (.iload_n 3, 1) := by decide +kernel
theorem dX9_countOf_5 : decode cX9_countOf 5 = .ok (.aload_n 0, 1) := by decide +kernel
theorem dX9_countOf_6 : decode cX9_countOf 6 = .ok (.getfield 63, 3) := by decide +kernel
theorem dX9_countOf_9 : decode cX9_countOf 9 = .ok (.if_icmp .ge 40, 3) := by decide +kernel
theorem dX9_countOf_12 : decode cX9_countOf 12 = .ok (.iload_n 2, 1) := by decide +kernel
theorem dX9_countOf_13 : decode cX9_countOf 13 = .ok (.aload_n 0, 1) := by decide +kernel
theorem dX9_countOf_14 : decode cX9_countOf 14 = .ok (.iload_n 3, 1) := by decide +kernel
theorem dX9_countOf_15 : decode cX9_countOf 15 = .ok (.aload_n 0, 1) := by decide +kernel
theorem dX9_countOf_16 : decode cX9_countOf 16 = .ok (.getfield 41, 3) := by decide +kernel
theorem dX9_countOf_19 : decode cX9_countOf 19 = .ok (.iload_n 1, 1) := by decide +kernel
theorem dX9_countOf_20 : decode cX9_countOf 20 = .ok (.iaload, 1) := by decide +kernel
theorem dX9_countOf_21 : decode cX9_countOf 21 = .ok (.invokevirtual 153, 3) := by decide +kernel
theorem dX9_countOf_24 : decode cX9_countOf 24 = .ok (.ifCond .eq 16, 3) := by decide +kernel
theorem dX9_countOf_27 : decode cX9_countOf 27 = .ok (.aload_n 0, 1) := by decide +kernel
theorem dX9_countOf_28 : decode cX9_countOf 28 = .ok (.iload_n 1, 1) := by decide +kernel
theorem dX9_countOf_29 : decode cX9_countOf 29 = .ok (.iload_n 3, 1) := by decide +kernel
theorem dX9_countOf_30 : decode cX9_countOf 30 = .ok (.invokevirtual 156, 3) := by decide +kernel
theorem dX9_countOf_33 : decode cX9_countOf 33 = .ok (.ifCond .ne 7, 3) := by decide +kernel
theorem dX9_countOf_36 : decode cX9_countOf 36 = .ok (.iconst 1, 1) := by decide +kernel
theorem dX9_countOf_37 : decode cX9_countOf 37 = .ok (.goto 4, 3) := by decide +kernel
theorem dX9_countOf_40 : decode cX9_countOf 40 = .ok (.iconst 0, 1) := by decide +kernel
theorem dX9_countOf_41 : decode cX9_countOf 41 = .ok (.iadd, 1) := by decide +kernel
theorem dX9_countOf_42 : decode cX9_countOf 42 = .ok (.istore_n 2, 1) := by decide +kernel
theorem dX9_countOf_43 : decode cX9_countOf 43 = .ok (.iinc 3 1, 3) := by decide +kernel
theorem dX9_countOf_46 : decode cX9_countOf 46 = .ok (.goto (-42), 3) := by decide +kernel
theorem dX9_countOf_49 : decode cX9_countOf 49 = .ok (.iload_n 2, 1) := by decide +kernel
theorem dX9_countOf_50 : decode cX9_countOf 50 = .ok (.ireturn, 1) := by decide +kernel
theorem dX9_spreadGroup_0 : decode cX9_spreadGroup 0 = .ok (.iconst 1, 1) := by decide +kernel
theorem dX9_spreadGroup_1 : decode cX9_spreadGroup 1 = .ok (.istore 4, 2) := by decide +kernel
theorem dX9_spreadGroup_3 : decode cX9_spreadGroup 3 = .ok (.iload 4, 2) := by decide +kernel
theorem dX9_spreadGroup_5 : decode cX9_spreadGroup 5 = .ok (.ifCond .eq 155, 3) := by decide +kernel
theorem dX9_spreadGroup_8 : decode cX9_spreadGroup 8 = .ok (.iconst 0, 1) := by decide +kernel
theorem dX9_spreadGroup_9 : decode cX9_spreadGroup 9 = .ok (.istore 4, 2) := by decide +kernel
theorem dX9_spreadGroup_11 : decode cX9_spreadGroup 11 = .ok (.iconst 0, 1) := by decide +kernel
theorem dX9_spreadGroup_12 : decode cX9_spreadGroup 12 = .ok (.istore 5, 2) := by decide +kernel
theorem dX9_spreadGroup_14 : decode cX9_spreadGroup 14 = .ok (.iload 5, 2) := by decide +kernel
theorem dX9_spreadGroup_16 : decode cX9_spreadGroup 16 = .ok (.aload_n 0, 1) := by decide +kernel
theorem dX9_spreadGroup_17 : decode cX9_spreadGroup 17 = .ok (.getfield 63, 3) := by decide +kernel
theorem dX9_spreadGroup_20 : decode cX9_spreadGroup 20 = .ok (.if_icmp .ge 137, 3) := by decide +kernel
theorem dX9_spreadGroup_23 : decode cX9_spreadGroup 23 = .ok (.iconst 0, 1) := by decide +kernel
theorem dX9_spreadGroup_24 : decode cX9_spreadGroup 24 = .ok (.istore 6, 2) := by decide +kernel
theorem dX9_spreadGroup_26 : decode cX9_spreadGroup 26 = .ok (.iload 6, 2) := by decide +kernel
theorem dX9_spreadGroup_28 : decode cX9_spreadGroup 28 = .ok (.aload_n 0, 1) := by decide +kernel
theorem dX9_spreadGroup_29 : decode cX9_spreadGroup 29 = .ok (.getfield 63, 3) := by decide +kernel
theorem dX9_spreadGroup_32 : decode cX9_spreadGroup 32 = .ok (.if_icmp .ge 119, 3) := by decide +kernel
theorem dX9_spreadGroup_35 : decode cX9_spreadGroup 35 = .ok (.aload_n 0, 1) := by decide +kernel
theorem dX9_spreadGroup_36 : decode cX9_spreadGroup 36 = .ok (.iload 5, 2) := by decide +kernel
theorem dX9_spreadGroup_38 : decode cX9_spreadGroup 38 = .ok (.iload_n 1, 1) := by decide +kernel
theorem dX9_spreadGroup_39 : decode cX9_spreadGroup 39 = .ok (.invokevirtual 153, 3) := by decide +kernel
theorem dX9_spreadGroup_42 : decode cX9_spreadGroup 42 = .ok (.ifCond .eq 109, 3) := by decide +kernel
theorem dX9_spreadGroup_45 : decode cX9_spreadGroup 45 = .ok (.aload_n 0, 1) := by decide +kernel
theorem dX9_spreadGroup_46 : decode cX9_spreadGroup 46 = .ok (.getfield 54, 3) := by decide +kernel
theorem dX9_spreadGroup_49 : decode cX9_spreadGroup 49 = .ok (.iload 5, 2) := by decide +kernel
theorem dX9_spreadGroup_51 : decode cX9_spreadGroup 51 = .ok (.iaload, 1) := by decide +kernel
theorem dX9_spreadGroup_52 : decode cX9_spreadGroup 52 = .ok (.iload_n 2, 1) := by decide +kernel
theorem dX9_spreadGroup_53 : decode cX9_spreadGroup 53 = .ok (.if_icmp .ne 98, 3) := by decide +kernel
theorem dX9_spreadGroup_56 : decode cX9_spreadGroup 56 = .ok (.aload_n 0, 1) := by decide +kernel
theorem dX9_spreadGroup_57 : decode cX9_spreadGroup 57 = .ok (.iload 6, 2) := by decide +kernel
theorem dX9_spreadGroup_59 : decode cX9_spreadGroup 59 = .ok (.iload_n 1, 1) := by decide +kernel
theorem dX9_spreadGroup_60 : decode cX9_spreadGroup 60 = .ok (.invokevirtual 153, 3) := by decide +kernel
theorem dX9_spreadGroup_63 : decode cX9_spreadGroup 63 = .ok (.ifCond .eq 29, 3) := by decide +kernel
theorem dX9_spreadGroup_66 : decode cX9_spreadGroup 66 = .ok (.aload_n 0, 1) := by decide +kernel
theorem dX9_spreadGroup_67 : decode cX9_spreadGroup 67 = .ok (.getfield 54, 3) := by decide +kernel
theorem dX9_spreadGroup_70 : decode cX9_spreadGroup 70 = .ok (.iload 6, 2) := by decide +kernel
theorem dX9_spreadGroup_72 : decode cX9_spreadGroup 72 = .ok (.iaload, 1) := by decide +kernel
theorem dX9_spreadGroup_73 : decode cX9_spreadGroup 73 = .ok (.ifCond .ge 19, 3) := by decide +kernel
theorem dX9_spreadGroup_76 : decode cX9_spreadGroup 76 = .ok (.aload_n 0, 1) := by decide +kernel
theorem dX9_spreadGroup_77 : decode cX9_spreadGroup 77 = .ok (.iload 5, 2) := by decide +kernel
theorem dX9_spreadGroup_79 : decode cX9_spreadGroup 79 = .ok (.iload 6, 2) := by decide +kernel
theorem dX9_spreadGroup_81 : decode cX9_spreadGroup 81 = .ok (.invokevirtual 156, 3) := by decide +kernel
theorem dX9_spreadGroup_84 : decode cX9_spreadGroup 84 = .ok (.iconst 1, 1) := by decide +kernel
theorem dX9_spreadGroup_85 : decode cX9_spreadGroup 85 = .ok (.if_icmp .gt 7, 3) := by decide +kernel
theorem dX9_spreadGroup_88 : decode cX9_spreadGroup 88 = .ok (.iconst 1, 1) := by decide +kernel
theorem dX9_spreadGroup_89 : decode cX9_spreadGroup 89 = .ok (.goto 4, 3) := by decide +kernel
theorem dX9_spreadGroup_92 : decode cX9_spreadGroup 92 = .ok (.iconst 0, 1) := by decide +kernel
theorem dX9_spreadGroup_93 : decode cX9_spreadGroup 93 = .ok (.istore 7, 2) := by decide +kernel
theorem dX9_spreadGroup_95 : decode cX9_spreadGroup 95 = .ok (.iload 7, 2) := by decide +kernel
theorem dX9_spreadGroup_97 : decode cX9_spreadGroup 97 = .ok (.ifCond .eq 48, 3) := by decide +kernel
theorem dX9_spreadGroup_100 : decode cX9_spreadGroup 100 = .ok (.iload_n 3, 1) := by decide +kernel
theorem dX9_spreadGroup_101 : decode cX9_spreadGroup 101 = .ok (.ifCond .eq 33, 3) := by decide +kernel
theorem dX9_spreadGroup_104 : decode cX9_spreadGroup 104 = .ok (.aload_n 0, 1) := by decide +kernel
theorem dX9_spreadGroup_105 : decode cX9_spreadGroup 105 = .ok (.iload 5, 2) := by decide +kernel
theorem dX9_spreadGroup_107 : decode cX9_spreadGroup 107 = .ok (.iload 6, 2) := by decide +kernel
theorem dX9_spreadGroup_109 : decode cX9_spreadGroup 109 = .ok (.invokevirtual 156, 3) := by decide +kernel
theorem dX9_spreadGroup_112 : decode cX9_spreadGroup 112 = .ok (.ifCond .eq 22, 3) := by decide +kernel
theorem dX9_spreadGroup_115 : decode cX9_spreadGroup 115 = .ok (.iconst 2, 1) := by decide +kernel
theorem dX9_spreadGroup_116 : decode cX9_spreadGroup 116 = .ok (.aload_n 0, 1) := by decide +kernel
theorem dX9_spreadGroup_117 : decode cX9_spreadGroup 117 = .ok (.iload 6, 2) := by decide +kernel
theorem dX9_spreadGroup_119 : decode cX9_spreadGroup 119 = .ok (.invokevirtual 159, 3) := by decide +kernel
theorem dX9_spreadGroup_122 : decode cX9_spreadGroup 122 = .ok (.imul, 1) := by decide +kernel
theorem dX9_spreadGroup_123 : decode cX9_spreadGroup 123 = .ok (.iconst 1, 1) := by decide +kernel
theorem dX9_spreadGroup_124 : decode cX9_spreadGroup 124 = .ok (.isub, 1) := by decide +kernel
theorem dX9_spreadGroup_125 : decode cX9_spreadGroup 125 = .ok (.aload_n 0, 1) := by decide +kernel
theorem dX9_spreadGroup_126 : decode cX9_spreadGroup 126 = .ok (.iload 5, 2) := by decide +kernel
theorem dX9_spreadGroup_128 : decode cX9_spreadGroup 128 = .ok (.invokevirtual 159, 3) := by decide +kernel
theorem dX9_spreadGroup_131 : decode cX9_spreadGroup 131 = .ok (.if_icmp .gt 14, 3) := by decide +kernel
theorem dX9_spreadGroup_134 : decode cX9_spreadGroup 134 = .ok (.aload_n 0, 1) := by decide +kernel
theorem dX9_spreadGroup_135 : decode cX9_spreadGroup 135 = .ok (.getfield 54, 3) := by decide +kernel
theorem dX9_spreadGroup_138 : decode cX9_spreadGroup 138 = .ok (.iload 6, 2) := by decide +kernel
theorem dX9_spreadGroup_140 : decode cX9_spreadGroup 140 = .ok (.iload_n 2, 1) := by decide +kernel
theorem dX9_spreadGroup_141 : decode cX9_spreadGroup 141 = .ok (.iastore, 1) := by decide +kernel
theorem dX9_spreadGroup_142 : decode cX9_spreadGroup 142 = .ok (.iconst 1, 1) := by decide +kernel
theorem dX9_spreadGroup_143 : decode cX9_spreadGroup 143 = .ok (.istore 4, 2) := by decide +kernel
theorem dX9_spreadGroup_145 : decode cX9_spreadGroup 145 = .ok (.iinc 6 1, 3) := by decide +kernel
theorem dX9_spreadGroup_148 : decode cX9_spreadGroup 148 = .ok (.goto (-122), 3) := by decide +kernel
theorem dX9_spreadGroup_151 : decode cX9_spreadGroup 151 = .ok (.iinc 5 1, 3) := by decide +kernel
theorem dX9_spreadGroup_154 : decode cX9_spreadGroup 154 = .ok (.goto (-140), 3) := by decide +kernel
theorem dX9_spreadGroup_157 : decode cX9_spreadGroup 157 = .ok (.goto (-154), 3) := by decide +kernel
theorem dX9_spreadGroup_160 : decode cX9_spreadGroup 160 = .ok (.return_, 1) := by decide +kernel
theorem dX9_isBefore_0 : decode cX9_isBefore 0 = .ok (.aload_n 0, 1) := by decide +kernel
theorem dX9_isBefore_1 : decode cX9_isBefore 1 = .ok (.iload_n 1, 1) := by decide +kernel
theorem dX9_isBefore_2 : decode cX9_isBefore 2 = .ok (.invokevirtual 159, 3) := by decide +kernel
theorem dX9_isBefore_5 : decode cX9_isBefore 5 = .ok (.istore_n 3, 1) := by decide +kernel
theorem dX9_isBefore_6 : decode cX9_isBefore 6 = .ok (.aload_n 0, 1) := by decide +kernel
theorem dX9_isBefore_7 : decode cX9_isBefore 7 = .ok (.iload_n 2, 1) := by decide +kernel
theorem dX9_isBefore_8 : decode cX9_isBefore 8 = .ok (.invokevirtual 159, 3) := by decide +kernel
theorem dX9_isBefore_11 : decode cX9_isBefore 11 = .ok (.istore 4, 2) := by decide +kernel
theorem dX9_isBefore_13 : decode cX9_isBefore 13 = .ok (.iload_n 3, 1) := by decide +kernel
theorem dX9_isBefore_14 : decode cX9_isBefore 14 = .ok (.iload 4, 2) := by decide +kernel
theorem dX9_isBefore_16 : decode cX9_isBefore 16 = .ok (.if_icmp .eq 15, 3) := by decide +kernel
theorem dX9_isBefore_19 : decode cX9_isBefore 19 = .ok (.iload_n 3, 1) := by decide +kernel
theorem dX9_isBefore_20 : decode cX9_isBefore 20 = .ok (.iload 4, 2) := by decide +kernel
theorem dX9_isBefore_22 : decode cX9_isBefore 22 = .ok (.if_icmp .le 7, 3) := by decide +kernel
theorem dX9_isBefore_25 : decode cX9_isBefore 25 = .ok (.iconst 1, 1) := by decide +kernel
theorem dX9_isBefore_26 : decode cX9_isBefore 26 = .ok (.goto 4, 3) := by decide +kernel
theorem dX9_isBefore_29 : decode cX9_isBefore 29 = .ok (.iconst 0, 1) := by decide +kernel
theorem dX9_isBefore_30 : decode cX9_isBefore 30 = .ok (.ireturn, 1) := by decide +kernel
theorem dX9_isBefore_31 : decode cX9_isBefore 31 = .ok (.iconst 0, 1) := by decide +kernel
theorem dX9_isBefore_32 : decode cX9_isBefore 32 = .ok (.istore 5, 2) := by decide +kernel
theorem dX9_isBefore_34 : decode cX9_isBefore 34 = .ok (.iload 5, 2) := by decide +kernel
theorem dX9_isBefore_36 : decode cX9_isBefore 36 = .ok (.aload_n 0, 1) := by decide +kernel
theorem dX9_isBefore_37 : decode cX9_isBefore 37 = .ok (.getfield 146, 3) := by decide +kernel
theorem dX9_isBefore_40 : decode cX9_isBefore 40 = .ok (.if_icmp .ge 49, 3) := by decide +kernel
theorem dX9_isBefore_43 : decode cX9_isBefore 43 = .ok (.aload_n 0, 1) := by decide +kernel
theorem dX9_isBefore_44 : decode cX9_isBefore 44 = .ok (.iload_n 1, 1) := by decide +kernel
theorem dX9_isBefore_45 : decode cX9_isBefore 45 = .ok (.iload 5, 2) := by decide +kernel
theorem dX9_isBefore_47 : decode cX9_isBefore 47 = .ok (.invokevirtual 149, 3) := by decide +kernel
theorem dX9_isBefore_50 : decode cX9_isBefore 50 = .ok (.aload_n 0, 1) := by decide +kernel
theorem dX9_isBefore_51 : decode cX9_isBefore 51 = .ok (.iload_n 2, 1) := by decide +kernel
theorem dX9_isBefore_52 : decode cX9_isBefore 52 = .ok (.iload 5, 2) := by decide +kernel
theorem dX9_isBefore_54 : decode cX9_isBefore 54 = .ok (.invokevirtual 149, 3) := by decide +kernel
theorem dX9_isBefore_57 : decode cX9_isBefore 57 = .ok (.if_icmp .eq 26, 3) := by decide +kernel
theorem dX9_isBefore_60 : decode cX9_isBefore 60 = .ok (.aload_n 0, 1) := by decide +kernel
theorem dX9_isBefore_61 : decode cX9_isBefore 61 = .ok (.iload_n 1, 1) := by decide +kernel
theorem dX9_isBefore_62 : decode cX9_isBefore 62 = .ok (.iload 5, 2) := by decide +kernel
theorem dX9_isBefore_64 : decode cX9_isBefore 64 = .ok (.invokevirtual 149, 3) := by decide +kernel
theorem dX9_isBefore_67 : decode cX9_isBefore 67 = .ok (.aload_n 0, 1) := by decide +kernel
theorem dX9_isBefore_68 : decode cX9_isBefore 68 = .ok (.iload_n 2, 1) := by decide +kernel
theorem dX9_isBefore_69 : decode cX9_isBefore 69 = .ok (.iload 5, 2) := by decide +kernel
theorem dX9_isBefore_71 : decode cX9_isBefore 71 = .ok (.invokevirtual 149, 3) := by decide +kernel
theorem dX9_isBefore_74 : decode cX9_isBefore 74 = .ok (.if_icmp .ge 7, 3) := by decide +kernel
theorem dX9_isBefore_77 : decode cX9_isBefore 77 = .ok (.iconst 1, 1) := by decide +kernel
theorem dX9_isBefore_78 : decode cX9_isBefore 78 = .ok (.goto 4, 3) := by decide +kernel
theorem dX9_isBefore_81 : decode cX9_isBefore 81 = .ok (.iconst 0, 1) := by decide +kernel
theorem dX9_isBefore_82 : decode cX9_isBefore 82 = .ok (.ireturn, 1) := by decide +kernel
theorem dX9_isBefore_83 : decode cX9_isBefore 83 = .ok (.iinc 5 1, 3) := by decide +kernel
theorem dX9_isBefore_86 : decode cX9_isBefore 86 = .ok (.goto (-52), 3) := by decide +kernel
theorem dX9_isBefore_89 : decode cX9_isBefore 89 = .ok (.iconst 0, 1) := by decide +kernel
theorem dX9_isBefore_90 : decode cX9_isBefore 90 = .ok (.ireturn, 1) := by decide +kernel
theorem dX9_groupAll_0 : decode cX9_groupAll 0 = .ok (.iconst 0, 1) := by decide +kernel
theorem dX9_groupAll_1 : decode cX9_groupAll 1 = .ok (.istore_n 3, 1) := by decide +kernel
theorem dX9_groupAll_2 : decode cX9_groupAll 2 = .ok (.iconst 0, 1) := by decide +kernel
theorem dX9_groupAll_3 : decode cX9_groupAll 3 = .ok (.istore 4, 2) := by decide +kernel
theorem dX9_groupAll_5 : decode cX9_groupAll 5 = .ok (.iload 4, 2) := by decide +kernel
theorem dX9_groupAll_7 : decode cX9_groupAll 7 = .ok (.ifCond .lt 95, 3) := by decide +kernel
theorem dX9_groupAll_10 : decode cX9_groupAll 10 = .ok (.iconst (-1), 1) := by decide +kernel
theorem dX9_groupAll_11 : decode cX9_groupAll 11 = .ok (.istore 4, 2) := by decide +kernel
theorem dX9_groupAll_13 : decode cX9_groupAll 13 = .ok (.iconst 0, 1) := by decide +kernel
theorem dX9_groupAll_14 : decode cX9_groupAll 14 = .ok (.istore 5, 2) := by decide +kernel
theorem dX9_groupAll_16 : decode cX9_groupAll 16 = .ok (.iload 5, 2) := by decide +kernel
theorem dX9_groupAll_18 : decode cX9_groupAll 18 = .ok (.aload_n 0, 1) := by decide +kernel
theorem dX9_groupAll_19 : decode cX9_groupAll 19 = .ok (.getfield 63, 3) := by decide +kernel
theorem dX9_groupAll_22 : decode cX9_groupAll 22 = .ok (.if_icmp .ge 54, 3) := by decide +kernel
theorem dX9_groupAll_25 : decode cX9_groupAll 25 = .ok (.aload_n 0, 1) := by decide +kernel
theorem dX9_groupAll_26 : decode cX9_groupAll 26 = .ok (.iload 5, 2) := by decide +kernel
theorem dX9_groupAll_28 : decode cX9_groupAll 28 = .ok (.iload_n 1, 1) := by decide +kernel
theorem dX9_groupAll_29 : decode cX9_groupAll 29 = .ok (.invokevirtual 153, 3) := by decide +kernel
theorem dX9_groupAll_32 : decode cX9_groupAll 32 = .ok (.ifCond .eq 38, 3) := by decide +kernel
theorem dX9_groupAll_35 : decode cX9_groupAll 35 = .ok (.aload_n 0, 1) := by decide +kernel
theorem dX9_groupAll_36 : decode cX9_groupAll 36 = .ok (.getfield 54, 3) := by decide +kernel
theorem dX9_groupAll_39 : decode cX9_groupAll 39 = .ok (.iload 5, 2) := by decide +kernel
theorem dX9_groupAll_41 : decode cX9_groupAll 41 = .ok (.iaload, 1) := by decide +kernel
theorem dX9_groupAll_42 : decode cX9_groupAll 42 = .ok (.ifCond .ge 28, 3) := by decide +kernel
theorem dX9_groupAll_45 : decode cX9_groupAll 45 = .ok (.iload 4, 2) := by decide +kernel
theorem dX9_groupAll_47 : decode cX9_groupAll 47 = .ok (.ifCond .lt 19, 3) := by decide +kernel
theorem dX9_groupAll_50 : decode cX9_groupAll 50 = .ok (.iload_n 2, 1) := by decide +kernel
theorem dX9_groupAll_51 : decode cX9_groupAll 51 = .ok (.iconst 1, 1) := by decide +kernel
theorem dX9_groupAll_52 : decode cX9_groupAll 52 = .ok (.if_icmp .ne 18, 3) := by decide +kernel
theorem dX9_groupAll_55 : decode cX9_groupAll 55 = .ok (.aload_n 0, 1) := by decide +kernel
theorem dX9_groupAll_56 : decode cX9_groupAll 56 = .ok (.iload 5, 2) := by decide +kernel
theorem dX9_groupAll_58 : decode cX9_groupAll 58 = .ok (.iload 4, 2) := by decide +kernel
theorem dX9_groupAll_60 : decode cX9_groupAll 60 = .ok (.invokevirtual 162, 3) := by decide +kernel
theorem dX9_groupAll_63 : decode cX9_groupAll 63 = .ok (.ifCond .eq 7, 3) := by decide +kernel
theorem dX9_groupAll_66 : decode cX9_groupAll 66 = .ok (.iload 5, 2) := by decide +kernel
theorem dX9_groupAll_68 : decode cX9_groupAll 68 = .ok (.istore 4, 2) := by decide +kernel
