theorem dX0_init_0 : decode cX0_init 0 = .ok (.aload_n 0, 1) := by decide +kernel
theorem dX0_init_1 : decode cX0_init 1 = .ok (.invokespecial 3, 3) := by decide +kernel
theorem dX0_init_4 : decode cX0_init 4 = .ok (.aload_n 0, 1) := by decide +kernel
theorem dX0_init_5 : decode cX0_init 5 = .ok (.sipush 192, 3) := by decide +kernel
theorem dX0_init_8 : decode cX0_init 8 = .ok (.newarray .int, 2) := by decide +kernel
theorem dX0_init_10 : decode cX0_init 10 = .ok (.putfield 9, 3) := by decide +kernel
theorem dX0_init_13 : decode cX0_init 13 = .ok (.aload_n 0, 1) := by decide +kernel
theorem dX0_init_14 : decode cX0_init 14 = .ok (.new 15, 3) := by decide +kernel
theorem dX0_init_17 : decode cX0_init 17 = .ok (.dup, 1) := by decide +kernel
theorem dX0_init_18 : decode cX0_init 18 = .ok (.bipush 12, 2) := by decide +kernel
theorem dX0_init_20 : decode cX0_init 20 = .ok (.invokespecial 17, 3) := by decide +kernel
theorem dX0_init_23 : decode cX0_init 23 = .ok (.putfield 20, 3) := by decide +kernel
theorem dX0_init_26 : decode cX0_init 26 = .ok (.aload_n 0, 1) := by decide +kernel
theorem dX0_init_27 : decode cX0_init 27 = .ok (.bipush 13, 2) := by decide +kernel
theorem dX0_init_29 : decode cX0_init 29 = .ok (.putfield 24, 3) := by decide +kernel
theorem dX0_init_32 : decode cX0_init 32 = .ok (.return_, 1) := by decide +kernel
theorem dX0_count_0 : decode cX0_count 0 = .ok (.aload_n 0, 1) := by decide +kernel
theorem dX0_count_1 : decode cX0_count 1 = .ok (.getfield 28, 3) := by decide +kernel
theorem dX0_count_4 : decode cX0_count 4 = .ok (.ireturn, 1) := by decide +kernel
theorem dX0_length_0 : decode cX0_length 0 = .ok (.aload_n 0, 1) := by decide +kernel
theorem dX0_length_1 : decode cX0_length 1 = .ok (.getfield 31, 3) := by decide +kernel
theorem dX0_length_4 : decode cX0_length 4 = .ok (.ireturn, 1) := by decide +kernel
theorem dX0_spread_0 : decode cX0_spread 0 = .ok (.aload_n 0, 1) := by decide +kernel
theorem dX0_spread_1 : decode cX0_spread 1 = .ok (.getfield 24, 3) := by decide +kernel
theorem dX0_spread_4 : decode cX0_spread 4 = .ok (.ireturn, 1) := by decide +kernel
theorem dX0_take_0 : decode cX0_take 0 = .ok (.aload_n 0, 1) := by decide +kernel
theorem dX0_take_1 : decode cX0_take 1 = .ok (.getfield 28, 3) := by decide +kernel
theorem dX0_take_4 : decode cX0_take 4 = .ok (.bipush 16, 2) := by decide +kernel
theorem dX0_take_6 : decode cX0_take 6 = .ok (.if_icmp .ge 13, 3) := by decide +kernel
theorem dX0_take_9 : decode cX0_take 9 = .ok (.aload_n 1, 1) := by decide +kernel
theorem dX0_take_10 : decode cX0_take 10 = .ok (.iconst 1, 1) := by decide +kernel
theorem dX0_take_11 : decode cX0_take 11 = .ok (.bipush 12, 2) := by decide +kernel
theorem dX0_take_13 : decode cX0_take 13 = .ok (.invokevirtual 34, 3) := by decide +kernel
theorem dX0_take_16 : decode cX0_take 16 = .ok (.ifCond .ne 5, 3) := by decide +kernel
theorem dX0_take_19 : decode cX0_take 19 = .ok (.iconst (-1), 1) := by decide +kernel
theorem dX0_take_20 : decode cX0_take 20 = .ok (.ireturn, 1) := by decide +kernel
theorem dX0_take_21 : decode cX0_take 21 = .ok (.aload_n 0, 1) := by decide +kernel
theorem dX0_take_22 : decode cX0_take 22 = .ok (.getfield 28, 3) := by decide +kernel
theorem dX0_take_25 : decode cX0_take 25 = .ok (.ifCond .le 16, 3) := by decide +kernel
theorem dX0_take_28 : decode cX0_take 28 = .ok (.aload_n 1, 1) := by decide +kernel
theorem dX0_take_29 : decode cX0_take 29 = .ok (.invokevirtual 38, 3) := by decide +kernel
theorem dX0_take_32 : decode cX0_take 32 = .ok (.aload_n 0, 1) := by decide +kernel
theorem dX0_take_33 : decode cX0_take 33 = .ok (.getfield 31, 3) := by decide +kernel
theorem dX0_take_36 : decode cX0_take 36 = .ok (.if_icmp .eq 5, 3) := by decide +kernel
theorem dX0_take_39 : decode cX0_take 39 = .ok (.iconst (-1), 1) := by decide +kernel
theorem dX0_take_40 : decode cX0_take 40 = .ok (.ireturn, 1) := by decide +kernel
theorem dX0_take_41 : decode cX0_take 41 = .ok (.bipush 13, 2) := by decide +kernel
theorem dX0_take_43 : decode cX0_take 43 = .ok (.istore_n 2, 1) := by decide +kernel
theorem dX0_take_44 : decode cX0_take 44 = .ok (.iconst 0, 1) := by decide +kernel
theorem dX0_take_45 : decode cX0_take 45 = .ok (.istore_n 3, 1) := by decide +kernel
theorem dX0_take_46 : decode cX0_take 46 = .ok (.iload_n 3, 1) := by decide +kernel
theorem dX0_take_47 : decode cX0_take 47 = .ok (.aload_n 0, 1) := by decide +kernel
theorem dX0_take_48 : decode cX0_take 48 = .ok (.getfield 28, 3) := by decide +kernel
theorem dX0_take_51 : decode cX0_take 51 = .ok (.if_icmp .ge 20, 3) := by decide +kernel
theorem dX0_take_54 : decode cX0_take 54 = .ok (.iload_n 2, 1) := by decide +kernel
theorem dX0_take_55 : decode cX0_take 55 = .ok (.aload_n 0, 1) := by decide +kernel
theorem dX0_take_56 : decode cX0_take 56 = .ok (.iload_n 3, 1) := by decide +kernel
theorem dX0_take_57 : decode cX0_take 57 = .ok (.aload_n 1, 1) := by decide +kernel
theorem dX0_take_58 : decode cX0_take 58 = .ok (.invokevirtual 42, 3) := by decide +kernel
theorem dX0_take_61 : decode cX0_take 61 = .ok (.invokestatic 46, 3) := by decide +kernel
theorem dX0_take_64 : decode cX0_take 64 = .ok (.istore_n 2, 1) := by decide +kernel
theorem dX0_take_65 : decode cX0_take 65 = .ok (.iinc 3 1, 3) := by decide +kernel
theorem dX0_take_68 : decode cX0_take 68 = .ok (.goto (-22), 3) := by decide +kernel
theorem dX0_take_71 : decode cX0_take 71 = .ok (.iload_n 2, 1) := by decide +kernel
theorem dX0_take_72 : decode cX0_take 72 = .ok (.ifCond .ne 5, 3) := by decide +kernel
theorem dX0_take_75 : decode cX0_take 75 = .ok (.iconst (-1), 1) := by decide +kernel
theorem dX0_take_76 : decode cX0_take 76 = .ok (.ireturn, 1) := by decide +kernel
theorem dX0_take_77 : decode cX0_take 77 = .ok (.aload_n 0, 1) := by decide +kernel
theorem dX0_take_78 : decode cX0_take 78 = .ok (.aload_n 1, 1) := by decide +kernel
theorem dX0_take_79 : decode cX0_take 79 = .ok (.invokevirtual 38, 3) := by decide +kernel
theorem dX0_take_82 : decode cX0_take 82 = .ok (.putfield 31, 3) := by decide +kernel
theorem dX0_take_85 : decode cX0_take 85 = .ok (.aload_n 0, 1) := by decide +kernel
theorem dX0_take_86 : decode cX0_take 86 = .ok (.aload_n 0, 1) := by decide +kernel
theorem dX0_take_87 : decode cX0_take 87 = .ok (.getfield 24, 3) := by decide +kernel
theorem dX0_take_90 : decode cX0_take 90 = .ok (.iload_n 2, 1) := by decide +kernel
theorem dX0_take_91 : decode cX0_take 91 = .ok (.invokestatic 46, 3) := by decide +kernel
theorem dX0_take_94 : decode cX0_take 94 = .ok (.putfield 24, 3) := by decide +kernel
theorem dX0_take_97 : decode cX0_take 97 = .ok (.aload_n 0, 1) := by decide +kernel
theorem dX0_take_98 : decode cX0_take 98 = .ok (.aload_n 1, 1) := by decide +kernel
theorem dX0_take_99 : decode cX0_take 99 = .ok (.invokevirtual 52, 3) := by decide +kernel
theorem dX0_take_102 : decode cX0_take 102 = .ok (.aload_n 0, 1) := by decide +kernel
theorem dX0_take_103 : decode cX0_take 103 = .ok (.getfield 28, 3) := by decide +kernel
theorem dX0_take_106 : decode cX0_take 106 = .ok (.iconst 1, 1) := by decide +kernel
theorem dX0_take_107 : decode cX0_take 107 = .ok (.isub, 1) := by decide +kernel
theorem dX0_take_108 : decode cX0_take 108 = .ok (.ireturn, 1) := by decide +kernel
theorem dX0_nearTo_0 : decode cX0_nearTo 0 = .ok (.aload_n 0, 1) := by decide +kernel
theorem dX0_nearTo_1 : decode cX0_nearTo 1 = .ok (.getfield 20, 3) := by decide +kernel
theorem dX0_nearTo_4 : decode cX0_nearTo 4 = .ok (.invokevirtual 56, 3) := by decide +kernel
theorem dX0_nearTo_7 : decode cX0_nearTo 7 = .ok (.iconst 0, 1) := by decide +kernel
theorem dX0_nearTo_8 : decode cX0_nearTo 8 = .ok (.istore_n 3, 1) := by decide +kernel
theorem dX0_nearTo_9 : decode cX0_nearTo 9 = .ok (.iload_n 3, 1) := by decide +kernel
theorem dX0_nearTo_10 : decode cX0_nearTo 10 = .ok (.aload_n 0, 1) := by decide +kernel
theorem dX0_nearTo_11 : decode cX0_nearTo 11 = .ok (.getfield 31, 3) := by decide +kernel
theorem dX0_nearTo_14 : decode cX0_nearTo 14 = .ok (.if_icmp .ge 22, 3) := by decide +kernel
theorem dX0_nearTo_17 : decode cX0_nearTo 17 = .ok (.aload_n 0, 1) := by decide +kernel
theorem dX0_nearTo_18 : decode cX0_nearTo 18 = .ok (.getfield 20, 3) := by decide +kernel
theorem dX0_nearTo_21 : decode cX0_nearTo 21 = .ok (.aload_n 1, 1) := by decide +kernel
theorem dX0_nearTo_22 : decode cX0_nearTo 22 = .ok (.iload_n 2, 1) := by decide +kernel
theorem dX0_nearTo_23 : decode cX0_nearTo 23 = .ok (.iload_n 3, 1) := by decide +kernel
theorem dX0_nearTo_24 : decode cX0_nearTo 24 = .ok (.invokevirtual 59, 3) := by decide +kernel
theorem dX0_nearTo_27 : decode cX0_nearTo 27 = .ok (.invokevirtual 64, 3) := by decide +kernel
theorem dX0_nearTo_30 : decode cX0_nearTo 30 = .ok (.iinc 3 1, 3) := by decide +kernel
theorem dX0_nearTo_33 : decode cX0_nearTo 33 = .ok (.goto (-24), 3) := by decide +kernel
theorem dX0_nearTo_36 : decode cX0_nearTo 36 = .ok (.aload_n 0, 1) := by decide +kernel
theorem dX0_nearTo_37 : decode cX0_nearTo 37 = .ok (.getfield 24, 3) := by decide +kernel
theorem dX0_nearTo_40 : decode cX0_nearTo 40 = .ok (.iconst 1, 1) := by decide +kernel
theorem dX0_nearTo_41 : decode cX0_nearTo 41 = .ok (.isub, 1) := by decide +kernel
theorem dX0_nearTo_42 : decode cX0_nearTo 42 = .ok (.iconst 2, 1) := by decide +kernel
theorem dX0_nearTo_43 : decode cX0_nearTo 43 = .ok (.idiv, 1) := by decide +kernel
theorem dX0_nearTo_44 : decode cX0_nearTo 44 = .ok (.istore_n 3, 1) := by decide +kernel
theorem dX0_nearTo_45 : decode cX0_nearTo 45 = .ok (.iconst 0, 1) := by decide +kernel
theorem dX0_nearTo_46 : decode cX0_nearTo 46 = .ok (.istore 4, 2) := by decide +kernel
theorem dX0_nearTo_48 : decode cX0_nearTo 48 = .ok (.iload 4, 2) := by decide +kernel
theorem dX0_nearTo_50 : decode cX0_nearTo 50 = .ok (.aload_n 0, 1) := by decide +kernel
theorem dX0_nearTo_51 : decode cX0_nearTo 51 = .ok (.getfield 28, 3) := by decide +kernel
theorem dX0_nearTo_54 : decode cX0_nearTo 54 = .ok (.if_icmp .ge 26, 3) := by decide +kernel
theorem dX0_nearTo_57 : decode cX0_nearTo 57 = .ok (.aload_n 0, 1) := by decide +kernel
theorem dX0_nearTo_58 : decode cX0_nearTo 58 = .ok (.iload 4, 2) := by decide +kernel
theorem dX0_nearTo_60 : decode cX0_nearTo 60 = .ok (.aload_n 0, 1) := by decide +kernel
theorem dX0_nearTo_61 : decode cX0_nearTo 61 = .ok (.getfield 20, 3) := by decide +kernel
theorem dX0_nearTo_64 : decode cX0_nearTo 64 = .ok (.invokevirtual 42, 3) := by decide +kernel
theorem dX0_nearTo_67 : decode cX0_nearTo 67 = .ok (.iload_n 3, 1) := by decide +kernel
theorem dX0_nearTo_68 : decode cX0_nearTo 68 = .ok (.if_icmp .gt 6, 3) := by decide +kernel
theorem dX0_nearTo_71 : decode cX0_nearTo 71 = .ok (.iload 4, 2) := by decide +kernel
theorem dX0_nearTo_73 : decode cX0_nearTo 73 = .ok (.ireturn, 1) := by decide +kernel
theorem dX0_nearTo_74 : decode cX0_nearTo 74 = .ok (.iinc 4 1, 3) := by decide +kernel
theorem dX0_nearTo_77 : decode cX0_nearTo 77 = .ok (.goto (-29), 3) := by decide +kernel
theorem dX0_nearTo_80 : decode cX0_nearTo 80 = .ok (.iconst (-1), 1) := by decide +kernel
theorem dX0_nearTo_81 : decode cX0_nearTo 81 = .ok (.ireturn, 1) := by decide +kernel
theorem dX0_keep_0 : decode cX0_keep 0 = .ok (.iconst 0, 1) := by decide +kernel
theorem dX0_keep_1 : decode cX0_keep 1 = .ok (.istore_n 2, 1) := by decide +kernel
theorem dX0_keep_2 : decode cX0_keep 2 = .ok (.iload_n 2, 1) := by decide +kernel
theorem dX0_keep_3 : decode cX0_keep 3 = .ok (.aload_n 0, 1) := by decide +kernel
theorem dX0_keep_4 : decode cX0_keep 4 = .ok (.getfield 31, 3) := by decide +kernel
theorem dX0_keep_7 : decode cX0_keep 7 = .ok (.if_icmp .ge 43, 3) := by decide +kernel
theorem dX0_keep_10 : decode cX0_keep 10 = .ok (.aload_n 0, 1) := by decide +kernel
theorem dX0_keep_11 : decode cX0_keep 11 = .ok (.getfield 28, 3) := by decide +kernel
theorem dX0_keep_14 : decode cX0_keep 14 = .ok (.bipush 12, 2) := by decide +kernel
theorem dX0_keep_16 : decode cX0_keep 16 = .ok (.imul, 1) := by decide +kernel
theorem dX0_keep_17 : decode cX0_keep 17 = .ok (.iload_n 2, 1) := by decide +kernel
theorem dX0_keep_18 : decode cX0_keep 18 = .ok (.iadd, 1) := by decide +kernel
theorem dX0_keep_19 : decode cX0_keep 19 = .ok (.istore_n 3, 1) := by decide +kernel
theorem dX0_keep_20 : decode cX0_keep 20 = .ok (.iload_n 3, 1) := by decide +kernel
theorem dX0_keep_21 : decode cX0_keep 21 = .ok (.ifCond .lt 23, 3) := by decide +kernel
theorem dX0_keep_24 : decode cX0_keep 24 = .ok (.iload_n 3, 1) := by decide +kernel
theorem dX0_keep_25 : decode cX0_keep 25 = .ok (.aload_n 0, 1) := by decide +kernel
theorem dX0_keep_26 : decode cX0_keep 26 = .ok (.getfield 9, 3) := by decide +kernel
theorem dX0_keep_29 : decode cX0_keep 29 = .ok (.arraylength, 1) := by decide +kernel
theorem dX0_keep_30 : decode cX0_keep 30 = .ok (.if_icmp .ge 14, 3) := by decide +kernel
theorem dX0_keep_33 : decode cX0_keep 33 = .ok (.aload_n 0, 1) := by decide +kernel
theorem dX0_keep_34 : decode cX0_keep 34 = .ok (.getfield 9, 3) := by decide +kernel
theorem dX0_keep_37 : decode cX0_keep 37 = .ok (.iload_n 3, 1) := by decide +kernel
theorem dX0_keep_38 : decode cX0_keep 38 = .ok (.aload_n 1, 1) := by decide +kernel
theorem dX0_keep_39 : decode cX0_keep 39 = .ok (.iload_n 2, 1) := by decide +kernel
theorem dX0_keep_40 : decode cX0_keep 40 = .ok (.invokevirtual 67, 3) := by decide +kernel
theorem dX0_keep_43 : decode cX0_keep 43 = .ok (.iastore, 1) := by decide +kernel
theorem dX0_keep_44 : decode cX0_keep 44 = .ok (.iinc 2 1, 3) := by decide +kernel
theorem dX0_keep_47 : decode cX0_keep 47 = .ok (.goto (-45), 3) := by decide +kernel
theorem dX0_keep_50 : decode cX0_keep 50 = .ok (.aload_n 0, 1) := by decide +kernel
theorem dX0_keep_51 : decode cX0_keep 51 = .ok (.dup, 1) := by decide +kernel
theorem dX0_keep_52 : decode cX0_keep 52 = .ok (.getfield 28, 3) := by decide +kernel
theorem dX0_keep_55 : decode cX0_keep 55 = .ok (.iconst 1, 1) := by decide +kernel
theorem dX0_keep_56 : decode cX0_keep 56 = .ok (.iadd, 1) := by decide +kernel
theorem dX0_keep_57 : decode cX0_keep 57 = .ok (.putfield 28, 3) := by decide +kernel
theorem dX0_keep_60 : decode cX0_keep 60 = .ok (.return_, 1) := by decide +kernel
theorem dX0_distance_0 : decode cX0_distance 0 = .ok (.iconst 0, 1) := by decide +kernel
theorem dX0_distance_1 : decode cX0_distance 1 = .ok (.istore_n 3, 1) := by decide +kernel
theorem dX0_distance_2 : decode cX0_distance 2 = .ok (.iconst 0, 1) := by decide +kernel
theorem dX0_distance_3 : decode cX0_distance 3 = .ok (.istore 4, 2) := by decide +kernel
theorem dX0_distance_5 : decode cX0_distance 5 = .ok (.iload 4, 2) := by decide +kernel
theorem dX0_distance_7 : decode cX0_distance 7 = .ok (.aload_n 0, 1) := by decide +kernel
theorem dX0_distance_8 : decode cX0_distance 8 = .ok (.getfield 31, 3) := by decide +kernel
theorem dX0_distance_11 : decode cX0_distance 11 = .ok (.if_icmp .ge 52, 3) := by decide +kernel
theorem dX0_distance_14 : decode cX0_distance 14 = .ok (.iload_n 1, 1) := by decide +kernel
theorem dX0_distance_15 : decode cX0_distance 15 = .ok (.bipush 12, 2) := by decide +kernel
theorem dX0_distance_17 : decode cX0_distance 17 = .ok (.imul, 1) := by decide +kernel
theorem dX0_distance_18 : decode cX0_distance 18 = .ok (.iload 4, 2) := by decide +kernel
theorem dX0_distance_20 : decode cX0_distance 20 = .ok (.iadd, 1) := by decide +kernel
theorem dX0_distance_21 : decode cX0_distance 21 = .ok (.istore 5, 2) := by decide +kernel
theorem dX0_distance_23 : decode cX0_distance 23 = .ok (.iload 5, 2) := by decide +kernel
theorem dX0_distance_25 : decode cX0_distance 25 = .ok (.ifCond .lt 32, 3) := by decide +kernel
theorem dX0_distance_28 : decode cX0_distance 28 = .ok (.iload 5, 2) := by decide +kernel
theorem dX0_distance_30 : decode cX0_distance 30 = .ok (.aload_n 0, 1) := by decide +kernel
theorem dX0_distance_31 : decode cX0_distance 31 = .ok (.getfield 9, 3) := by decide +kernel
theorem dX0_distance_34 : decode cX0_distance 34 = .ok (.arraylength, 1) := by decide +kernel
theorem dX0_distance_35 : decode cX0_distance 35 = .ok (.if_icmp .ge 22, 3) := by decide +kernel
theorem dX0_distance_38 : decode cX0_distance 38 = .ok (.aload_n 0, 1) := by decide +kernel
theorem dX0_distance_39 : decode cX0_distance 39 = .ok (.getfield 9, 3) := by decide +kernel
theorem dX0_distance_42 : decode cX0_distance 42 = .ok (.iload 5, 2) := by decide +kernel
theorem dX0_distance_44 : decode cX0_distance 44 = .ok (.iaload, 1) := by decide +kernel
theorem dX0_distance_45 : decode cX0_distance 45 = .ok (.aload_n 2, 1) := by decide +kernel
theorem dX0_distance_46 : decode cX0_distance 46 = .ok (.iload 4, 2) := by decide +kernel
theorem dX0_distance_48 : decode cX0_distance 48 = .ok (.invokevirtual 67, 3) := by decide +kernel
theorem dX0_distance_51 : decode cX0_distance 51 = .ok (.if_icmp .eq 6, 3) := by decide +kernel
theorem dX0_distance_54 : decode cX0_distance 54 = .ok (.iinc 3 1, 3) := by decide +kernel
theorem dX0_distance_57 : decode cX0_distance 57 = .ok (.iinc 4 1, 3) := by decide +kernel
theorem dX0_distance_60 : decode cX0_distance 60 = .ok (.goto (-55), 3) := by decide +kernel
theorem dX0_distance_63 : decode cX0_distance 63 = .ok (.iload_n 3, 1) := by decide +kernel
theorem dX0_distance_64 : decode cX0_distance 64 = .ok (.ireturn, 1) := by decide +kernel
theorem dX1_init_0 : decode cX1_init 0 = .ok (.aload_n 0, 1) := by decide +kernel
theorem dX1_init_1 : decode cX1_init 1 = .ok (.invokespecial 3, 3) := by decide +kernel
theorem dX1_init_4 : decode cX1_init 4 = .ok (.aload_n 0, 1) := by decide +kernel
theorem dX1_init_5 : decode cX1_init 5 = .ok (.sipush 720, 3) := by decide +kernel
theorem dX1_init_8 : decode cX1_init 8 = .ok (.newarray .int, 2) := by decide +kernel
theorem dX1_init_10 : decode cX1_init 10 = .ok (.putfield 9, 3) := by decide +kernel
theorem dX1_init_13 : decode cX1_init 13 = .ok (.aload_n 0, 1) := by decide +kernel
theorem dX1_init_14 : decode cX1_init 14 = .ok (.bipush 60, 2) := by decide +kernel
theorem dX1_init_16 : decode cX1_init 16 = .ok (.newarray .int, 2) := by decide +kernel
theorem dX1_init_18 : decode cX1_init 18 = .ok (.putfield 15, 3) := by decide +kernel
theorem dX1_init_21 : decode cX1_init 21 = .ok (.aload_n 0, 1) := by decide +kernel
theorem dX1_init_22 : decode cX1_init 22 = .ok (.bipush 60, 2) := by decide +kernel
theorem dX1_init_24 : decode cX1_init 24 = .ok (.newarray .int, 2) := by decide +kernel
theorem dX1_init_26 : decode cX1_init 26 = .ok (.putfield 18, 3) := by decide +kernel
theorem dX1_init_29 : decode cX1_init 29 = .ok (.aload_n 0, 1) := by decide +kernel
theorem dX1_init_30 : decode cX1_init 30 = .ok (.bipush 60, 2) := by decide +kernel
theorem dX1_init_32 : decode cX1_init 32 = .ok (.newarray .int, 2) := by decide +kernel
theorem dX1_init_34 : decode cX1_init 34 = .ok (.putfield 21, 3) := by decide +kernel
theorem dX1_init_37 : decode cX1_init 37 = .ok (.aload_n 0, 1) := by decide +kernel
theorem dX1_init_38 : decode cX1_init 38 = .ok (.bipush 60, 2) := by decide +kernel
theorem dX1_init_40 : decode cX1_init 40 = .ok (.newarray .int, 2) := by decide +kernel
theorem dX1_init_42 : decode cX1_init 42 = .ok (.putfield 24, 3) := by decide +kernel
theorem dX1_init_45 : decode cX1_init 45 = .ok (.aload_n 0, 1) := by decide +kernel
theorem dX1_init_46 : decode cX1_init 46 = .ok (.bipush 60, 2) := by decide +kernel
theorem dX1_init_48 : decode cX1_init 48 = .ok (.newarray .int, 2) := by decide +kernel
theorem dX1_init_50 : decode cX1_init 50 = .ok (.putfield 27, 3) := by decide +kernel
theorem dX1_init_53 : decode cX1_init 53 = .ok (.aload_n 0, 1) := by decide +kernel
theorem dX1_init_54 : decode cX1_init 54 = .ok (.bipush 16, 2) := by decide +kernel
theorem dX1_init_56 : decode cX1_init 56 = .ok (.newarray .int, 2) := by decide +kernel
theorem dX1_init_58 : decode cX1_init 58 = .ok (.putfield 30, 3) := by decide +kernel
theorem dX1_init_61 : decode cX1_init 61 = .ok (.return_, 1) := by decide +kernel
theorem dX1_restart_0 : decode cX1_restart 0 = .ok (.aload_n 0, 1) := by decide +kernel
theorem dX1_restart_1 : decode cX1_restart 1 = .ok (.iload_n 1, 1) := by decide +kernel
theorem dX1_restart_2 : decode cX1_restart 2 = .ok (.bipush 12, 2) := by decide +kernel
theorem dX1_restart_4 : decode cX1_restart 4 = .ok (.invokestatic 33, 3) := by decide +kernel
theorem dX1_restart_7 : decode cX1_restart 7 = .ok (.putfield 39, 3) := by decide +kernel
theorem dX1_restart_10 : decode cX1_restart 10 = .ok (.aload_n 0, 1) := by decide +kernel
theorem dX1_restart_11 : decode cX1_restart 11 = .ok (.iload_n 2, 1) := by decide +kernel
theorem dX1_restart_12 : decode cX1_restart 12 = .ok (.iconst 1, 1) := by decide +kernel
theorem dX1_restart_13 : decode cX1_restart 13 = .ok (.if_icmp .ne 7, 3) := by decide +kernel
theorem dX1_restart_16 : decode cX1_restart 16 = .ok (.iconst 1, 1) := by decide +kernel
theorem dX1_restart_17 : decode cX1_restart 17 = .ok (.goto 4, 3) := by decide +kernel
theorem dX1_restart_20 : decode cX1_restart 20 = .ok (.iconst 0, 1) := by decide +kernel
theorem dX1_restart_21 : decode cX1_restart 21 = .ok (.putfield 43, 3) := by decide +kernel
theorem dX1_restart_24 : decode cX1_restart 24 = .ok (.iconst 0, 1) := by decide +kernel
theorem dX1_restart_25 : decode cX1_restart 25 = .ok (.istore_n 3, 1) := by decide +kernel
theorem dX1_restart_26 : decode cX1_restart 26 = .ok (.iload_n 3, 1) := by decide +kernel
theorem dX1_restart_27 : decode cX1_restart 27 = .ok (.bipush 60, 2) := by decide +kernel
theorem dX1_restart_29 : decode cX1_restart 29 = .ok (.if_icmp .ge 37, 3) := by decide +kernel
theorem dX1_restart_32 : decode cX1_restart 32 = .ok (.aload_n 0, 1) := by decide +kernel
theorem dX1_restart_33 : decode cX1_restart 33 = .ok (.getfield 15, 3) := by decide +kernel
theorem dX1_restart_36 : decode cX1_restart 36 = .ok (.iload_n 3, 1) := by decide +kernel
theorem dX1_restart_37 : decode cX1_restart 37 = .ok (.iconst (-1), 1) := by decide +kernel
theorem dX1_restart_38 : decode cX1_restart 38 = .ok (.iastore, 1) := by decide +kernel
theorem dX1_restart_39 : decode cX1_restart 39 = .ok (.aload_n 0, 1) := by decide +kernel
theorem dX1_restart_40 : decode cX1_restart 40 = .ok (.getfield 18, 3) := by decide +kernel
theorem dX1_restart_43 : decode cX1_restart 43 = .ok (.iload_n 3, 1) := by decide +kernel
theorem dX1_restart_44 : decode cX1_restart 44 = .ok (.iconst (-1), 1) := by decide +kernel
theorem dX1_restart_45 : decode cX1_restart 45 = .ok (.iastore, 1) := by decide +kernel
theorem dX1_restart_46 : decode cX1_restart 46 = .ok (.aload_n 0, 1) := by decide +kernel
theorem dX1_restart_47 : decode cX1_restart 47 = .ok (.getfield 21, 3) := by decide +kernel
theorem dX1_restart_50 : decode cX1_restart 50 = .ok (.iload_n 3, 1) := by decide +kernel
theorem dX1_restart_51 : decode cX1_restart 51 = .ok (.iconst 0, 1) := by decide +kernel
theorem dX1_restart_52 : decode cX1_restart 52 = .ok (.iastore, 1) := by decide +kernel
theorem dX1_restart_53 : decode cX1_restart 53 = .ok (.aload_n 0, 1) := by decide +kernel
theorem dX1_restart_54 : decode cX1_restart 54 = .ok (.getfield 24, 3) := by decide +kernel
theorem dX1_restart_57 : decode cX1_restart 57 = .ok (.iload_n 3, 1) := by decide +kernel
theorem dX1_restart_58 : decode cX1_restart 58 = .ok (.iconst (-1), 1) := by decide +kernel
theorem dX1_restart_59 : decode cX1_restart 59 = .ok (.iastore, 1) := by decide +kernel
theorem dX1_restart_60 : decode cX1_restart 60 = .ok (.iinc 3 1, 3) := by decide +kernel
theorem dX1_restart_63 : decode cX1_restart 63 = .ok (.goto (-37), 3) := by decide +kernel
theorem dX1_restart_66 : decode cX1_restart 66 = .ok (.iconst 0, 1) := by decide +kernel
theorem dX1_restart_67 : decode cX1_restart 67 = .ok (.istore_n 3, 1) := by decide +kernel
theorem dX1_restart_68 : decode cX1_restart 68 = .ok (.iload_n 3, 1) := by decide +kernel
theorem dX1_restart_69 : decode cX1_restart 69 = .ok (.bipush 16, 2) := by decide +kernel
theorem dX1_restart_71 : decode cX1_restart 71 = .ok (.if_icmp .ge 16, 3) := by decide +kernel
theorem dX1_restart_74 : decode cX1_restart 74 = .ok (.aload_n 0, 1) := by decide +kernel
theorem dX1_restart_75 : decode cX1_restart 75 = .ok (.getfield 30, 3) := by decide +kernel
theorem dX1_restart_78 : decode cX1_restart 78 = .ok (.iload_n 3, 1) := by decide +kernel
theorem dX1_restart_79 : decode cX1_restart 79 = .ok (.iconst 0, 1) := by decide +kernel
theorem dX1_restart_80 : decode cX1_restart 80 = .ok (.iastore, 1) := by decide +kernel
theorem dX1_restart_81 : decode cX1_restart 81 = .ok (.iinc 3 1, 3) := by decide +kernel
theorem dX1_restart_84 : decode cX1_restart 84 = .ok (.goto (-16), 3) := by decide +kernel
theorem dX1_restart_87 : decode cX1_restart 87 = .ok (.return_, 1) := by decide +kernel
theorem dX1_enter_0 : decode cX1_enter 0 = .ok (.iload_n 2, 1) := by decide +kernel
theorem dX1_enter_1 : decode cX1_enter 1 = .ok (.invokestatic 47, 3) := by decide +kernel
theorem dX1_enter_4 : decode cX1_enter 4 = .ok (.ifCond .ne 4, 3) := by decide +kernel
theorem dX1_enter_7 : decode cX1_enter 7 = .ok (.return_, 1) := by decide +kernel
theorem dX1_enter_8 : decode cX1_enter 8 = .ok (.iconst 0, 1) := by decide +kernel
theorem dX1_enter_9 : decode cX1_enter 9 = .ok (.istore 5, 2) := by decide +kernel
theorem dX1_enter_11 : decode cX1_enter 11 = .ok (.iload 5, 2) := by decide +kernel
theorem dX1_enter_13 : decode cX1_enter 13 = .ok (.aload_n 0, 1) := by decide +kernel
theorem dX1_enter_14 : decode cX1_enter 14 = .ok (.getfield 39, 3) := by decide +kernel
theorem dX1_enter_17 : decode cX1_enter 17 = .ok (.if_icmp .ge 31, 3) := by decide +kernel
theorem dX1_enter_20 : decode cX1_enter 20 = .ok (.aload_n 0, 1) := by decide +kernel
theorem dX1_enter_21 : decode cX1_enter 21 = .ok (.getfield 9, 3) := by decide +kernel
theorem dX1_enter_24 : decode cX1_enter 24 = .ok (.iload_n 2, 1) := by decide +kernel
theorem dX1_enter_25 : decode cX1_enter 25 = .ok (.bipush 12, 2) := by decide +kernel
theorem dX1_enter_27 : decode cX1_enter 27 = .ok (.imul, 1) := by decide +kernel
theorem dX1_enter_28 : decode cX1_enter 28 = .ok (.iload 5, 2) := by decide +kernel
theorem dX1_enter_30 : decode cX1_enter 30 = .ok (.iadd, 1) := by decide +kernel
theorem dX1_enter_31 : decode cX1_enter 31 = .ok (.aload_n 1, 1) := by decide +kernel
theorem dX1_enter_32 : decode cX1_enter 32 = .ok (.iload_n 2, 1) := by decide +kernel
theorem dX1_enter_33 : decode cX1_enter 33 = .ok (.iload 4, 2) := by decide +kernel
theorem dX1_enter_35 : decode cX1_enter 35 = .ok (.iload 5, 2) := by decide +kernel
theorem dX1_enter_37 : decode cX1_enter 37 = .ok (.iadd, 1) := by decide +kernel
theorem dX1_enter_38 : decode cX1_enter 38 = .ok (.invokevirtual 51, 3) := by decide +kernel
theorem dX1_enter_41 : decode cX1_enter 41 = .ok (.iastore, 1) := by decide +kernel
theorem dX1_enter_42 : decode cX1_enter 42 = .ok (.iinc 5 1, 3) := by decide +kernel
theorem dX1_enter_45 : decode cX1_enter 45 = .ok (.goto (-34), 3) := by decide +kernel
theorem dX1_enter_48 : decode cX1_enter 48 = .ok (.aload_n 0, 1) := by decide +kernel
theorem dX1_enter_49 : decode cX1_enter 49 = .ok (.getfield 15, 3) := by decide +kernel
theorem dX1_enter_52 : decode cX1_enter 52 = .ok (.iload_n 2, 1) := by decide +kernel
theorem dX1_enter_53 : decode cX1_enter 53 = .ok (.iload_n 3, 1) := by decide +kernel
theorem dX1_enter_54 : decode cX1_enter 54 = .ok (.iastore, 1) := by decide +kernel
theorem dX1_enter_55 : decode cX1_enter 55 = .ok (.aload_n 0, 1) := by decide +kernel
theorem dX1_enter_56 : decode cX1_enter 56 = .ok (.iload_n 2, 1) := by decide +kernel
theorem dX1_enter_57 : decode cX1_enter 57 = .ok (.invokevirtual 56, 3) := by decide +kernel
theorem dX1_enter_60 : decode cX1_enter 60 = .ok (.istore 5, 2) := by decide +kernel
theorem dX1_enter_62 : decode cX1_enter 62 = .ok (.aload_n 0, 1) := by decide +kernel
theorem dX1_enter_63 : decode cX1_enter 63 = .ok (.getfield 18, 3) := by decide +kernel
theorem dX1_enter_66 : decode cX1_enter 66 = .ok (.iload_n 2, 1) := by decide +kernel
theorem dX1_enter_67 : decode cX1_enter 67 = .ok (.iload 5, 2) := by decide +kernel
theorem dX1_enter_69 : decode cX1_enter 69 = .ok (.iastore, 1) := by decide +kernel
theorem dX1_enter_70 : decode cX1_enter 70 = .ok (.aload_n 0, 1) := by decide +kernel
theorem dX1_enter_71 : decode cX1_enter 71 = .ok (.getfield 21, 3) := by decide +kernel
theorem dX1_enter_74 : decode cX1_enter 74 = .ok (.iload 5, 2) := by decide +kernel
theorem dX1_enter_76 : decode cX1_enter 76 = .ok (.dup2, 1) := by decide +kernel
theorem dX1_enter_77 : decode cX1_enter 77 = .ok (.iaload, 1) := by decide +kernel
theorem dX1_enter_78 : decode cX1_enter 78 = .ok (.iconst 1, 1) := by decide +kernel
theorem dX1_enter_79 : decode cX1_enter 79 = .ok (.iadd, 1) := by decide +kernel
theorem dX1_enter_80 : decode cX1_enter 80 = .ok (.iastore, 1) := by decide +kernel
theorem dX1_enter_81 : decode cX1_enter 81 = .ok (.return_, 1) := by decide +kernel
theorem dX1_formGroups_0 : decode cX1_formGroups 0 = .ok (.iload_n 1, 1) := by decide +kernel
theorem dX1_formGroups_1 : decode cX1_formGroups 1 = .ok (.invokestatic 60, 3) := by decide +kernel
theorem dX1_formGroups_4 : decode cX1_formGroups 4 = .ok (.ifCond .ne 4, 3) := by decide +kernel
theorem dX1_formGroups_7 : decode cX1_formGroups 7 = .ok (.return_, 1) := by decide +kernel
theorem dX1_formGroups_8 : decode cX1_formGroups 8 = .ok (.iconst 0, 1) := by decide +kernel
theorem dX1_formGroups_9 : decode cX1_formGroups 9 = .ok (.istore_n 2, 1) := by decide +kernel
theorem dX1_formGroups_10 : decode cX1_formGroups 10 = .ok (.iload_n 2, 1) := by decide +kernel
theorem dX1_formGroups_11 : decode cX1_formGroups 11 = .ok (.bipush 60, 2) := by decide +kernel
theorem dX1_formGroups_13 : decode cX1_formGroups 13 = .ok (.if_icmp .ge 60, 3) := by decide +kernel
theorem dX1_formGroups_16 : decode cX1_formGroups 16 = .ok (.aload_n 0, 1) := by decide +kernel
theorem dX1_formGroups_17 : decode cX1_formGroups 17 = .ok (.getfield 43, 3) := by decide +kernel
theorem dX1_formGroups_20 : decode cX1_formGroups 20 = .ok (.ifCond .eq 11, 3) := by decide +kernel
theorem dX1_formGroups_23 : decode cX1_formGroups 23 = .ok (.aload_n 0, 1) := by decide +kernel
theorem dX1_formGroups_24 : decode cX1_formGroups 24 = .ok (.iload_n 1, 1) := by decide +kernel
theorem dX1_formGroups_25 : decode cX1_formGroups 25 = .ok (.invokevirtual 63, 3) := by decide +kernel
theorem dX1_formGroups_28 : decode cX1_formGroups 28 = .ok (.goto 8, 3) := by decide +kernel
theorem dX1_formGroups_31 : decode cX1_formGroups 31 = .ok (.aload_n 0, 1) := by decide +kernel
theorem dX1_formGroups_32 : decode cX1_formGroups 32 = .ok (.iload_n 1, 1) := by decide +kernel
theorem dX1_formGroups_33 : decode cX1_formGroups 33 = .ok (.invokevirtual 66, 3) := by decide +kernel
theorem dX1_formGroups_36 : decode cX1_formGroups 36 = .ok (.istore_n 3, 1) := by decide +kernel
theorem dX1_formGroups_37 : decode cX1_formGroups 37 = .ok (.iload_n 3, 1) := by decide +kernel
theorem dX1_formGroups_38 : decode cX1_formGroups 38 = .ok (.iconst (-1), 1) := by decide +kernel
theorem dX1_formGroups_39 : decode cX1_formGroups 39 = .ok (.if_icmp .ne 6, 3) := by decide +kernel
theorem dX1_formGroups_42 : decode cX1_formGroups 42 = .ok (.goto 31, 3) := by decide +kernel
theorem dX1_formGroups_45 : decode cX1_formGroups 45 = .ok (.aload_n 0, 1) := by decide +kernel
theorem dX1_formGroups_46 : decode cX1_formGroups 46 = .ok (.iload_n 1, 1) := by decide +kernel
theorem dX1_formGroups_47 : decode cX1_formGroups 47 = .ok (.iload_n 3, 1) := by decide +kernel
theorem dX1_formGroups_48 : decode cX1_formGroups 48 = .ok (.aload_n 0, 1) := by decide +kernel
theorem dX1_formGroups_49 : decode cX1_formGroups 49 = .ok (.getfield 30, 3) := by decide +kernel
theorem dX1_formGroups_52 : decode cX1_formGroups 52 = .ok (.iload_n 1, 1) := by decide +kernel
theorem dX1_formGroups_53 : decode cX1_formGroups 53 = .ok (.iaload, 1) := by decide +kernel
theorem dX1_formGroups_54 : decode cX1_formGroups 54 = .ok (.invokevirtual 69, 3) := by decide +kernel
theorem dX1_formGroups_57 : decode cX1_formGroups 57 = .ok (.aload_n 0, 1) := by decide +kernel
theorem dX1_formGroups_58 : decode cX1_formGroups 58 = .ok (.getfield 30, 3) := by decide +kernel
theorem dX1_formGroups_61 : decode cX1_formGroups 61 = .ok (.iload_n 1, 1) := by decide +kernel
theorem dX1_formGroups_62 : decode cX1_formGroups 62 = .ok (.dup2, 1) := by decide +kernel
theorem dX1_formGroups_63 : decode cX1_formGroups 63 = .ok (.iaload, 1) := by decide +kernel
theorem dX1_formGroups_64 : decode cX1_formGroups 64 = .ok (.iconst 1, 1) := by decide +kernel
theorem dX1_formGroups_65 : decode cX1_formGroups 65 = .ok (.iadd, 1) := by decide +kernel
theorem dX1_formGroups_66 : decode cX1_formGroups 66 = .ok (.iastore, 1) := by decide +kernel
theorem dX1_formGroups_67 : decode cX1_formGroups 67 = .ok (.iinc 2 1, 3) := by decide +kernel
theorem dX1_formGroups_70 : decode cX1_formGroups 70 = .ok (.goto (-60), 3) := by decide +kernel
theorem dX1_formGroups_73 : decode cX1_formGroups 73 = .ok (.iconst 0, 1) := by decide +kernel
theorem dX1_formGroups_74 : decode cX1_formGroups 74 = .ok (.istore_n 2, 1) := by decide +kernel
theorem dX1_formGroups_75 : decode cX1_formGroups 75 = .ok (.iload_n 2, 1) := by decide +kernel
theorem dX1_formGroups_76 : decode cX1_formGroups 76 = .ok (.bipush 60, 2) := by decide +kernel
theorem dX1_formGroups_78 : decode cX1_formGroups 78 = .ok (.if_icmp .ge 48, 3) := by decide +kernel
theorem dX1_formGroups_81 : decode cX1_formGroups 81 = .ok (.aload_n 0, 1) := by decide +kernel
theorem dX1_formGroups_82 : decode cX1_formGroups 82 = .ok (.getfield 15, 3) := by decide +kernel
theorem dX1_formGroups_85 : decode cX1_formGroups 85 = .ok (.iload_n 2, 1) := by decide +kernel
theorem dX1_formGroups_86 : decode cX1_formGroups 86 = .ok (.iaload, 1) := by decide +kernel
theorem dX1_formGroups_87 : decode cX1_formGroups 87 = .ok (.iload_n 1, 1) := by decide +kernel
theorem dX1_formGroups_88 : decode cX1_formGroups 88 = .ok (.if_icmp .ne 32, 3) := by decide +kernel
theorem dX1_formGroups_91 : decode cX1_formGroups 91 = .ok (.aload_n 0, 1) := by decide +kernel
theorem dX1_formGroups_92 : decode cX1_formGroups 92 = .ok (.getfield 18, 3) := by decide +kernel
theorem dX1_formGroups_95 : decode cX1_formGroups 95 = .ok (.iload_n 2, 1) := by decide +kernel
theorem dX1_formGroups_96 : decode cX1_formGroups 96 = .ok (.iaload, 1) := by decide +kernel
theorem dX1_formGroups_97 : decode cX1_formGroups 97 = .ok (.invokestatic 47, 3) := by decide +kernel
theorem dX1_formGroups_100 : decode cX1_formGroups 100 = .ok (.ifCond .eq 20, 3) := by decide +kernel
theorem dX1_formGroups_103 : decode cX1_formGroups 103 = .ok (.aload_n 0, 1) := by decide +kernel
theorem dX1_formGroups_104 : decode cX1_formGroups 104 = .ok (.getfield 24, 3) := by decide +kernel
theorem dX1_formGroups_107 : decode cX1_formGroups 107 = .ok (.iload_n 2, 1) := by decide +kernel
theorem dX1_formGroups_108 : decode cX1_formGroups 108 = .ok (.aload_n 0, 1) := by decide +kernel
theorem dX1_formGroups_109 : decode cX1_formGroups 109 = .ok (.getfield 24, 3) := by decide +kernel
theorem dX1_formGroups_112 : decode cX1_formGroups 112 = .ok (.aload_n 0, 1) := by decide +kernel
theorem dX1_formGroups_113 : decode cX1_formGroups 113 = .ok (.getfield 18, 3) := by decide +kernel
theorem dX1_formGroups_116 : decode cX1_formGroups 116 = .ok (.iload_n 2, 1) := by decide +kernel
theorem dX1_formGroups_117 : decode cX1_formGroups 117 = .ok (.iaload, 1) := by decide +kernel
theorem dX1_formGroups_118 : decode cX1_formGroups 118 = .ok (.iaload, 1) := by decide +kernel
theorem dX1_formGroups_119 : decode cX1_formGroups 119 = .ok (.iastore, 1) := by decide +kernel
theorem dX1_formGroups_120 : decode cX1_formGroups 120 = .ok (.iinc 2 1, 3) := by decide +kernel
theorem dX1_formGroups_123 : decode cX1_formGroups 123 = .ok (.goto (-48), 3) := by decide +kernel
theorem dX1_formGroups_126 : decode cX1_formGroups 126 = .ok (.return_, 1) := by decide +kernel
theorem dX1_groupOf_0 : decode cX1_groupOf 0 = .ok (.iload_n 1, 1) := by decide +kernel
theorem dX1_groupOf_1 : decode cX1_groupOf 1 = .ok (.invokestatic 47, 3) := by decide +kernel
theorem dX1_groupOf_4 : decode cX1_groupOf 4 = .ok (.ifCond .eq 12, 3) := by decide +kernel
theorem dX1_groupOf_7 : decode cX1_groupOf 7 = .ok (.aload_n 0, 1) := by decide +kernel
theorem dX1_groupOf_8 : decode cX1_groupOf 8 = .ok (.getfield 24, 3) := by decide +kernel
theorem dX1_groupOf_11 : decode cX1_groupOf 11 = .ok (.iload_n 1, 1) := by decide +kernel
theorem dX1_groupOf_12 : decode cX1_groupOf 12 = .ok (.iaload, 1) := by decide +kernel
theorem dX1_groupOf_13 : decode cX1_groupOf 13 = .ok (.goto 4, 3) := by decide +kernel
theorem dX1_groupOf_16 : decode cX1_groupOf 16 = .ok (.iconst (-1), 1) := by decide +kernel
theorem dX1_groupOf_17 : decode cX1_groupOf 17 = .ok (.ireturn, 1) := by decide +kernel
theorem dX1_groupsIn_0 : decode cX1_groupsIn 0 = .ok (.iload_n 1, 1) := by decide +kernel
theorem dX1_groupsIn_1 : decode cX1_groupsIn 1 = .ok (.invokestatic 60, 3) := by decide +kernel
theorem dX1_groupsIn_4 : decode cX1_groupsIn 4 = .ok (.ifCond .eq 12, 3) := by decide +kernel
theorem dX1_groupsIn_7 : decode cX1_groupsIn 7 = .ok (.aload_n 0, 1) := by decide +kernel
theorem dX1_groupsIn_8 : decode cX1_groupsIn 8 = .ok (.getfield 30, 3) := by decide +kernel
theorem dX1_groupsIn_11 : decode cX1_groupsIn 11 = .ok (.iload_n 1, 1) := by decide +kernel
theorem dX1_groupsIn_12 : decode cX1_groupsIn 12 = .ok (.iaload, 1) := by decide +kernel
theorem dX1_groupsIn_13 : decode cX1_groupsIn 13 = .ok (.goto 4, 3) := by decide +kernel
theorem dX1_groupsIn_16 : decode cX1_groupsIn 16 = .ok (.iconst 0, 1) := by decide +kernel
theorem dX1_groupsIn_17 : decode cX1_groupsIn 17 = .ok (.ireturn, 1) := by decide +kernel
theorem dX1_isMember_0 : decode cX1_isMember 0 = .ok (.iload_n 1, 1) := by decide +kernel
theorem dX1_isMember_1 : decode cX1_isMember 1 = .ok (.invokestatic 47, 3) := by decide +kernel
theorem dX1_isMember_4 : decode cX1_isMember 4 = .ok (.ifCond .eq 27, 3) := by decide +kernel
theorem dX1_isMember_7 : decode cX1_isMember 7 = .ok (.aload_n 0, 1) := by decide +kernel
theorem dX1_isMember_8 : decode cX1_isMember 8 = .ok (.getfield 15, 3) := by decide +kernel
theorem dX1_isMember_11 : decode cX1_isMember 11 = .ok (.iload_n 1, 1) := by decide +kernel
theorem dX1_isMember_12 : decode cX1_isMember 12 = .ok (.iaload, 1) := by decide +kernel
theorem dX1_isMember_13 : decode cX1_isMember 13 = .ok (.iload_n 2, 1) := by decide +kernel
theorem dX1_isMember_14 : decode cX1_isMember 14 = .ok (.if_icmp .ne 17, 3) := by decide +kernel
theorem dX1_isMember_17 : decode cX1_isMember 17 = .ok (.aload_n 0, 1) := by decide +kernel
theorem dX1_isMember_18 : decode cX1_isMember 18 = .ok (.getfield 24, 3) := by decide +kernel
theorem dX1_isMember_21 : decode cX1_isMember 21 = .ok (.iload_n 1, 1) := by decide +kernel
theorem dX1_isMember_22 : decode cX1_isMember 22 = .ok (.iaload, 1) := by decide +kernel
theorem dX1_isMember_23 : decode cX1_isMember 23 = .ok (.iload_n 3, 1) := by decide +kernel
theorem dX1_isMember_24 : decode cX1_isMember 24 = .ok (.if_icmp .ne 7, 3) := by decide +kernel
theorem dX1_isMember_27 : decode cX1_isMember 27 = .ok (.iconst 1, 1) := by decide +kernel
theorem dX1_isMember_28 : decode cX1_isMember 28 = .ok (.goto 4, 3) := by decide +kernel
theorem dX1_isMember_31 : decode cX1_isMember 31 = .ok (.iconst 0, 1) := by decide +kernel
theorem dX1_isMember_32 : decode cX1_isMember 32 = .ok (.ireturn, 1) := by decide +kernel
theorem dX1_readsIn_0 : decode cX1_readsIn 0 = .ok (.iconst 0, 1) := by decide +kernel
theorem dX1_readsIn_1 : decode cX1_readsIn 1 = .ok (.istore_n 3, 1) := by decide +kernel
theorem dX1_readsIn_2 : decode cX1_readsIn 2 = .ok (.iconst 0, 1) := by decide +kernel
theorem dX1_readsIn_3 : decode cX1_readsIn 3 = .ok (.istore 4, 2) := by decide +kernel
theorem dX1_readsIn_5 : decode cX1_readsIn 5 = .ok (.iload 4, 2) := by decide +kernel
theorem dX1_readsIn_7 : decode cX1_readsIn 7 = .ok (.bipush 60, 2) := by decide +kernel
theorem dX1_readsIn_9 : decode cX1_readsIn 9 = .ok (.if_icmp .ge 23, 3) := by decide +kernel
theorem dX1_readsIn_12 : decode cX1_readsIn 12 = .ok (.aload_n 0, 1) := by decide +kernel
theorem dX1_readsIn_13 : decode cX1_readsIn 13 = .ok (.iload 4, 2) := by decide +kernel
theorem dX1_readsIn_15 : decode cX1_readsIn 15 = .ok (.iload_n 1, 1) := by decide +kernel
theorem dX1_readsIn_16 : decode cX1_readsIn 16 = .ok (.iload_n 2, 1) := by decide +kernel
theorem dX1_readsIn_17 : decode cX1_readsIn 17 = .ok (.invokevirtual 73, 3) := by decide +kernel
theorem dX1_readsIn_20 : decode cX1_readsIn 20 = .ok (.ifCond .eq 6, 3) := by decide +kernel
theorem dX1_readsIn_23 : decode cX1_readsIn 23 = .ok (.iinc 3 1, 3) := by decide +kernel
theorem dX1_readsIn_26 : decode cX1_readsIn 26 = .ok (.iinc 4 1, 3) := by decide +kernel
theorem dX1_readsIn_29 : decode cX1_readsIn 29 = .ok (.goto (-24), 3) := by decide +kernel
theorem dX1_readsIn_32 : decode cX1_readsIn 32 = .ok (.iload_n 3, 1) := by decide +kernel
theorem dX1_readsIn_33 : decode cX1_readsIn 33 = .ok (.ireturn, 1) := by decide +kernel
theorem dX1_tagsIn_0 : decode cX1_tagsIn 0 = .ok (.iconst 0, 1) := by decide +kernel
theorem dX1_tagsIn_1 : decode cX1_tagsIn 1 = .ok (.istore_n 3, 1) := by decide +kernel
theorem dX1_tagsIn_2 : decode cX1_tagsIn 2 = .ok (.iconst 0, 1) := by decide +kernel
theorem dX1_tagsIn_3 : decode cX1_tagsIn 3 = .ok (.istore 4, 2) := by decide +kernel
theorem dX1_tagsIn_5 : decode cX1_tagsIn 5 = .ok (.iload 4, 2) := by decide +kernel
theorem dX1_tagsIn_7 : decode cX1_tagsIn 7 = .ok (.bipush 60, 2) := by decide +kernel
theorem dX1_tagsIn_9 : decode cX1_tagsIn 9 = .ok (.if_icmp .ge 35, 3) := by decide +kernel
theorem dX1_tagsIn_12 : decode cX1_tagsIn 12 = .ok (.aload_n 0, 1) := by decide +kernel
theorem dX1_tagsIn_13 : decode cX1_tagsIn 13 = .ok (.iload 4, 2) := by decide +kernel
theorem dX1_tagsIn_15 : decode cX1_tagsIn 15 = .ok (.iload_n 1, 1) := by decide +kernel
theorem dX1_tagsIn_16 : decode cX1_tagsIn 16 = .ok (.iload_n 2, 1) := by decide +kernel
theorem dX1_tagsIn_17 : decode cX1_tagsIn 17 = .ok (.invokevirtual 73, 3) := by decide +kernel
theorem dX1_tagsIn_20 : decode cX1_tagsIn 20 = .ok (.ifCond .eq 18, 3) := by decide +kernel
theorem dX1_tagsIn_23 : decode cX1_tagsIn 23 = .ok (.aload_n 0, 1) := by decide +kernel
theorem dX1_tagsIn_24 : decode cX1_tagsIn 24 = .ok (.getfield 18, 3) := by decide +kernel
theorem dX1_tagsIn_27 : decode cX1_tagsIn 27 = .ok (.iload 4, 2) := by decide +kernel
theorem dX1_tagsIn_29 : decode cX1_tagsIn 29 = .ok (.iaload, 1) := by decide +kernel
theorem dX1_tagsIn_30 : decode cX1_tagsIn 30 = .ok (.iload 4, 2) := by decide +kernel
theorem dX1_tagsIn_32 : decode cX1_tagsIn 32 = .ok (.if_icmp .ne 6, 3) := by decide +kernel
theorem dX1_tagsIn_35 : decode cX1_tagsIn 35 = .ok (.iinc 3 1, 3) := by decide +kernel
theorem dX1_tagsIn_38 : decode cX1_tagsIn 38 = .ok (.iinc 4 1, 3) := by decide +kernel
theorem dX1_tagsIn_41 : decode cX1_tagsIn 41 = .ok (.goto (-36), 3) := by decide +kernel
theorem dX1_tagsIn_44 : decode cX1_tagsIn 44 = .ok (.iload_n 3, 1) := by decide +kernel
theorem dX1_tagsIn_45 : decode cX1_tagsIn 45 = .ok (.ireturn, 1) := by decide +kernel
theorem dX1_isRead_0 : decode cX1_isRead 0 = .ok (.iload_n 0, 1) := by decide +kernel
theorem dX1_isRead_1 : decode cX1_isRead 1 = .ok (.ifCond .lt 13, 3) := by decide +kernel
theorem dX1_isRead_4 : decode cX1_isRead 4 = .ok (.iload_n 0, 1) := by decide +kernel
theorem dX1_isRead_5 : decode cX1_isRead 5 = .ok (.bipush 60, 2) := by decide +kernel
theorem dX1_isRead_7 : decode cX1_isRead 7 = .ok (.if_icmp .ge 7, 3) := by decide +kernel
theorem dX1_isRead_10 : decode cX1_isRead 10 = .ok (.iconst 1, 1) := by decide +kernel
theorem dX1_isRead_11 : decode cX1_isRead 11 = .ok (.goto 4, 3) := by decide +kernel
theorem dX1_isRead_14 : decode cX1_isRead 14 = .ok (.iconst 0, 1) := by decide +kernel
theorem dX1_isRead_15 : decode cX1_isRead 15 = .ok (.ireturn, 1) := by decide +kernel
theorem dX1_isBin_0 : decode cX1_isBin 0 = .ok (.iload_n 0, 1) := by decide +kernel
theorem dX1_isBin_1 : decode cX1_isBin 1 = .ok (.ifCond .lt 13, 3) := by decide +kernel
theorem dX1_isBin_4 : decode cX1_isBin 4 = .ok (.iload_n 0, 1) := by decide +kernel
theorem dX1_isBin_5 : decode cX1_isBin 5 = .ok (.bipush 16, 2) := by decide +kernel
theorem dX1_isBin_7 : decode cX1_isBin 7 = .ok (.if_icmp .ge 7, 3) := by decide +kernel
theorem dX1_isBin_10 : decode cX1_isBin 10 = .ok (.iconst 1, 1) := by decide +kernel
theorem dX1_isBin_11 : decode cX1_isBin 11 = .ok (.goto 4, 3) := by decide +kernel
theorem dX1_isBin_14 : decode cX1_isBin 14 = .ok (.iconst 0, 1) := by decide +kernel
theorem dX1_isBin_15 : decode cX1_isBin 15 = .ok (.ireturn, 1) := by decide +kernel
theorem dX1_firstAlike_0 : decode cX1_firstAlike 0 = .ok (.iconst 0, 1) := by decide +kernel
theorem dX1_firstAlike_1 : decode cX1_firstAlike 1 = .ok (.istore_n 2, 1) := by decide +kernel
theorem dX1_firstAlike_2 : decode cX1_firstAlike 2 = .ok (.iload_n 2, 1) := by decide +kernel
theorem dX1_firstAlike_3 : decode cX1_firstAlike 3 = .ok (.iload_n 1, 1) := by decide +kernel
theorem dX1_firstAlike_4 : decode cX1_firstAlike 4 = .ok (.if_icmp .ge 35, 3) := by decide +kernel
theorem dX1_firstAlike_7 : decode cX1_firstAlike 7 = .ok (.aload_n 0, 1) := by decide +kernel
theorem dX1_firstAlike_8 : decode cX1_firstAlike 8 = .ok (.getfield 15, 3) := by decide +kernel
theorem dX1_firstAlike_11 : decode cX1_firstAlike 11 = .ok (.iload_n 2, 1) := by decide +kernel
theorem dX1_firstAlike_12 : decode cX1_firstAlike 12 = .ok (.iaload, 1) := by decide +kernel
theorem dX1_firstAlike_13 : decode cX1_firstAlike 13 = .ok (.aload_n 0, 1) := by decide +kernel
theorem dX1_firstAlike_14 : decode cX1_firstAlike 14 = .ok (.getfield 15, 3) := by decide +kernel
theorem dX1_firstAlike_17 : decode cX1_firstAlike 17 = .ok (.iload_n 1, 1) := by decide +kernel
theorem dX1_firstAlike_18 : decode cX1_firstAlike 18 = .ok (.iaload, 1) := by decide +kernel
theorem dX1_firstAlike_19 : decode cX1_firstAlike 19 = .ok (.if_icmp .ne 14, 3) := by decide +kernel
theorem dX1_firstAlike_22 : decode cX1_firstAlike 22 = .ok (.aload_n 0, 1) := by decide +kernel
theorem dX1_firstAlike_23 : decode cX1_firstAlike 23 = .ok (.iload_n 2, 1) := by decide +kernel
theorem dX1_firstAlike_24 : decode cX1_firstAlike 24 = .ok (.iload_n 1, 1) := by decide +kernel
theorem dX1_firstAlike_25 : decode cX1_firstAlike 25 = .ok (.invokevirtual 77, 3) := by decide +kernel
theorem dX1_firstAlike_28 : decode cX1_firstAlike 28 = .ok (.ifCond .ne 5, 3) := by decide +kernel
theorem dX1_firstAlike_31 : decode cX1_firstAlike 31 = .ok (.iload_n 2, 1) := by decide +kernel
theorem dX1_firstAlike_32 : decode cX1_firstAlike 32 = .ok (.ireturn, 1) := by decide +kernel
theorem dX1_firstAlike_33 : decode cX1_firstAlike 33 = .ok (.iinc 2 1, 3) := by decide +kernel
theorem dX1_firstAlike_36 : decode cX1_firstAlike 36 = .ok (.goto (-34), 3) := by decide +kernel
theorem dX1_firstAlike_39 : decode cX1_firstAlike 39 = .ok (.iload_n 1, 1) := by decide +kernel
theorem dX1_firstAlike_40 : decode cX1_firstAlike 40 = .ok (.ireturn, 1) := by decide +kernel
theorem dX1_isOpen_0 : decode cX1_isOpen 0 = .ok (.aload_n 0, 1) := by decide +kernel
theorem dX1_isOpen_1 : decode cX1_isOpen 1 = .ok (.getfield 15, 3) := by decide +kernel
theorem dX1_isOpen_4 : decode cX1_isOpen 4 = .ok (.iload_n 1, 1) := by decide +kernel
theorem dX1_isOpen_5 : decode cX1_isOpen 5 = .ok (.iaload, 1) := by decide +kernel
theorem dX1_isOpen_6 : decode cX1_isOpen 6 = .ok (.iload_n 2, 1) := by decide +kernel
theorem dX1_isOpen_7 : decode cX1_isOpen 7 = .ok (.if_icmp .ne 27, 3) := by decide +kernel
theorem dX1_isOpen_10 : decode cX1_isOpen 10 = .ok (.aload_n 0, 1) := by decide +kernel
theorem dX1_isOpen_11 : decode cX1_isOpen 11 = .ok (.getfield 18, 3) := by decide +kernel
theorem dX1_isOpen_14 : decode cX1_isOpen 14 = .ok (.iload_n 1, 1) := by decide +kernel
theorem dX1_isOpen_15 : decode cX1_isOpen 15 = .ok (.iaload, 1) := by decide +kernel
theorem dX1_isOpen_16 : decode cX1_isOpen 16 = .ok (.iload_n 1, 1) := by decide +kernel
theorem dX1_isOpen_17 : decode cX1_isOpen 17 = .ok (.if_icmp .ne 17, 3) := by decide +kernel
theorem dX1_isOpen_20 : decode cX1_isOpen 20 = .ok (.aload_n 0, 1) := by decide +kernel
theorem dX1_isOpen_21 : decode cX1_isOpen 21 = .ok (.getfield 24, 3) := by decide +kernel
theorem dX1_isOpen_24 : decode cX1_isOpen 24 = .ok (.iload_n 1, 1) := by decide +kernel
theorem dX1_isOpen_25 : decode cX1_isOpen 25 = .ok (.iaload, 1) := by decide +kernel
theorem dX1_isOpen_26 : decode cX1_isOpen 26 = .ok (.iconst (-1), 1) := by decide +kernel
theorem dX1_isOpen_27 : decode cX1_isOpen 27 = .ok (.if_icmp .ne 7, 3) := by decide +kernel
theorem dX1_isOpen_30 : decode cX1_isOpen 30 = .ok (.iconst 1, 1) := by decide +kernel
theorem dX1_isOpen_31 : decode cX1_isOpen 31 = .ok (.goto 4, 3) := by decide +kernel
theorem dX1_isOpen_34 : decode cX1_isOpen 34 = .ok (.iconst 0, 1) := by decide +kernel
theorem dX1_isOpen_35 : decode cX1_isOpen 35 = .ok (.ireturn, 1) := by decide +kernel
theorem dX1_firstOpen_0 : decode cX1_firstOpen 0 = .ok (.iconst 0, 1) := by decide +kernel
theorem dX1_firstOpen_1 : decode cX1_firstOpen 1 = .ok (.istore_n 2, 1) := by decide +kernel
theorem dX1_firstOpen_2 : decode cX1_firstOpen 2 = .ok (.iload_n 2, 1) := by decide +kernel
theorem dX1_firstOpen_3 : decode cX1_firstOpen 3 = .ok (.bipush 60, 2) := by decide +kernel
theorem dX1_firstOpen_5 : decode cX1_firstOpen 5 = .ok (.if_icmp .ge 20, 3) := by decide +kernel
theorem dX1_firstOpen_8 : decode cX1_firstOpen 8 = .ok (.aload_n 0, 1) := by decide +kernel
theorem dX1_firstOpen_9 : decode cX1_firstOpen 9 = .ok (.iload_n 2, 1) := by decide +kernel
theorem dX1_firstOpen_10 : decode cX1_firstOpen 10 = .ok (.iload_n 1, 1) := by decide +kernel
theorem dX1_firstOpen_11 : decode cX1_firstOpen 11 = .ok (.invokevirtual 80, 3) := by decide +kernel
theorem dX1_firstOpen_14 : decode cX1_firstOpen 14 = .ok (.ifCond .eq 5, 3) := by decide +kernel
theorem dX1_firstOpen_17 : decode cX1_firstOpen 17 = .ok (.iload_n 2, 1) := by decide +kernel
theorem dX1_firstOpen_18 : decode cX1_firstOpen 18 = .ok (.ireturn, 1) := by decide +kernel
theorem dX1_firstOpen_19 : decode cX1_firstOpen 19 = .ok (.iinc 2 1, 3) := by decide +kernel
theorem dX1_firstOpen_22 : decode cX1_firstOpen 22 = .ok (.goto (-20), 3) := by decide +kernel
theorem dX1_firstOpen_25 : decode cX1_firstOpen 25 = .ok (.iconst (-1), 1) := by decide +kernel
theorem dX1_firstOpen_26 : decode cX1_firstOpen 26 = .ok (.ireturn, 1) := by decide +kernel
theorem dX1_greatestOpen_0 : decode cX1_greatestOpen 0 = .ok (.iconst (-1), 1) := by decide +kernel
theorem dX1_greatestOpen_1 : decode cX1_greatestOpen 1 = .ok (.istore_n 2, 1) := by decide +kernel
theorem dX1_greatestOpen_2 : decode cX1_greatestOpen 2 = .ok (.iconst 0, 1) := by decide +kernel
theorem dX1_greatestOpen_3 : decode cX1_greatestOpen 3 = .ok (.istore_n 3, 1) := by decide +kernel
theorem dX1_greatestOpen_4 : decode cX1_greatestOpen 4 = .ok (.iload_n 3, 1) := by decide +kernel
theorem dX1_greatestOpen_5 : decode cX1_greatestOpen 5 = .ok (.bipush 60, 2) := by decide +kernel
theorem dX1_greatestOpen_7 : decode cX1_greatestOpen 7 = .ok (.if_icmp .ge 34, 3) := by decide +kernel
theorem dX1_greatestOpen_10 : decode cX1_greatestOpen 10 = .ok (.aload_n 0, 1) := by decide +kernel
theorem dX1_greatestOpen_11 : decode cX1_greatestOpen 11 = .ok (.iload_n 3, 1) := by decide +kernel
theorem dX1_greatestOpen_12 : decode cX1_greatestOpen 12 = .ok (.iload_n 1, 1) := by decide +kernel
theorem dX1_greatestOpen_13 : decode cX1_greatestOpen 13 = .ok (.invokevirtual 80, 3) := by decide +kernel
theorem dX1_greatestOpen_16 : decode cX1_greatestOpen 16 = .ok (.ifCond .eq 19, 3) := by decide +kernel
theorem dX1_greatestOpen_19 : decode cX1_greatestOpen 19 = .ok (.iload_n 2, 1) := by decide +kernel
theorem dX1_greatestOpen_20 : decode cX1_greatestOpen 20 = .ok (.iconst (-1), 1) := by decide +kernel
theorem dX1_greatestOpen_21 : decode cX1_greatestOpen 21 = .ok (.if_icmp .eq 12, 3) := by decide +kernel
theorem dX1_greatestOpen_24 : decode cX1_greatestOpen 24 = .ok (.aload_n 0, 1) := by decide +kernel
theorem dX1_greatestOpen_25 : decode cX1_greatestOpen 25 = .ok (.iload_n 3, 1) := by decide +kernel
theorem dX1_greatestOpen_26 : decode cX1_greatestOpen 26 = .ok (.iload_n 2, 1) := by decide +kernel
theorem dX1_greatestOpen_27 : decode cX1_greatestOpen 27 = .ok (.invokevirtual 84, 3) := by decide +kernel
theorem dX1_greatestOpen_30 : decode cX1_greatestOpen 30 = .ok (.ifCond .eq 5, 3) := by decide +kernel
theorem dX1_greatestOpen_33 : decode cX1_greatestOpen 33 = .ok (.iload_n 3, 1) := by decide +kernel
theorem dX1_greatestOpen_34 : decode cX1_greatestOpen 34 = .ok (.istore_n 2, 1) := by decide +kernel
theorem dX1_greatestOpen_35 : decode cX1_greatestOpen 35 = .ok (.iinc 3 1, 3) := by decide +kernel
theorem dX1_greatestOpen_38 : decode cX1_greatestOpen 38 = .ok (.goto (-34), 3) := by decide +kernel
theorem dX1_greatestOpen_41 : decode cX1_greatestOpen 41 = .ok (.iload_n 2, 1) := by decide +kernel
theorem dX1_greatestOpen_42 : decode cX1_greatestOpen 42 = .ok (.ireturn, 1) := by decide +kernel
theorem dX1_comesBefore_0 : decode cX1_comesBefore 0 = .ok (.aload_n 0, 1) := by decide +kernel
theorem dX1_comesBefore_1 : decode cX1_comesBefore 1 = .ok (.getfield 21, 3) := by decide +kernel
theorem dX1_comesBefore_4 : decode cX1_comesBefore 4 = .ok (.iload_n 1, 1) := by decide +kernel
theorem dX1_comesBefore_5 : decode cX1_comesBefore 5 = .ok (.iaload, 1) := by decide +kernel
theorem dX1_comesBefore_6 : decode cX1_comesBefore 6 = .ok (.aload_n 0, 1) := by decide +kernel
theorem dX1_comesBefore_7 : decode cX1_comesBefore 7 = .ok (.getfield 21, 3) := by decide +kernel
theorem dX1_comesBefore_10 : decode cX1_comesBefore 10 = .ok (.iload_n 2, 1) := by decide +kernel
theorem dX1_comesBefore_11 : decode cX1_comesBefore 11 = .ok (.iaload, 1) := by decide +kernel
theorem dX1_comesBefore_12 : decode cX1_comesBefore 12 = .ok (.if_icmp .eq 24, 3) := by decide +kernel
theorem dX1_comesBefore_15 : decode cX1_comesBefore 15 = .ok (.aload_n 0, 1) := by decide +kernel
theorem dX1_comesBefore_16 : decode cX1_comesBefore 16 = .ok (.getfield 21, 3) := by decide +kernel
theorem dX1_comesBefore_19 : decode cX1_comesBefore 19 = .ok (.iload_n 1, 1) := by decide +kernel
theorem dX1_comesBefore_20 : decode cX1_comesBefore 20 = .ok (.iaload, 1) := by decide +kernel
theorem dX1_comesBefore_21 : decode cX1_comesBefore 21 = .ok (.aload_n 0, 1) := by decide +kernel
theorem dX1_comesBefore_22 : decode cX1_comesBefore 22 = .ok (.getfield 21, 3) := by decide +kernel
theorem dX1_comesBefore_25 : decode cX1_comesBefore 25 = .ok (.iload_n 2, 1) := by decide +kernel
theorem dX1_comesBefore_26 : decode cX1_comesBefore 26 = .ok (.iaload, 1) := by decide +kernel
theorem dX1_comesBefore_27 : decode cX1_comesBefore 27 = .ok (.if_icmp .le 7, 3) := by decide +kernel
theorem dX1_comesBefore_30 : decode cX1_comesBefore 30 = .ok (.iconst 1, 1) := by decide +kernel
theorem dX1_comesBefore_31 : decode cX1_comesBefore 31 = .ok (.goto 4, 3) := by decide +kernel
theorem dX1_comesBefore_34 : decode cX1_comesBefore 34 = .ok (.iconst 0, 1) := by decide +kernel
theorem dX1_comesBefore_35 : decode cX1_comesBefore 35 = .ok (.ireturn, 1) := by decide +kernel
theorem dX1_comesBefore_36 : decode cX1_comesBefore 36 = .ok (.iconst 0, 1) := by decide +kernel
theorem dX1_comesBefore_37 : decode cX1_comesBefore 37 = .ok (.istore_n 3, 1) := by decide +kernel
theorem dX1_comesBefore_38 : decode cX1_comesBefore 38 = .ok (.iload_n 3, 1) := by decide +kernel
theorem dX1_comesBefore_39 : decode cX1_comesBefore 39 = .ok (.aload_n 0, 1) := by decide +kernel
theorem dX1_comesBefore_40 : decode cX1_comesBefore 40 = .ok (.getfield 39, 3) := by decide +kernel
theorem dX1_comesBefore_43 : decode cX1_comesBefore 43 = .ok (.if_icmp .ge 50, 3) := by decide +kernel
theorem dX1_comesBefore_46 : decode cX1_comesBefore 46 = .ok (.aload_n 0, 1) := by decide +kernel
theorem dX1_comesBefore_47 : decode cX1_comesBefore 47 = .ok (.getfield 9, 3) := by decide +kernel
theorem dX1_comesBefore_50 : decode cX1_comesBefore 50 = .ok (.iload_n 1, 1) := by decide +kernel
theorem dX1_comesBefore_51 : decode cX1_comesBefore 51 = .ok (.bipush 12, 2) := by decide +kernel
theorem dX1_comesBefore_53 : decode cX1_comesBefore 53 = .ok (.imul, 1) := by decide +kernel
theorem dX1_comesBefore_54 : decode cX1_comesBefore 54 = .ok (.iload_n 3, 1) := by decide +kernel
theorem dX1_comesBefore_55 : decode cX1_comesBefore 55 = .ok (.iadd, 1) := by decide +kernel
theorem dX1_comesBefore_56 : decode cX1_comesBefore 56 = .ok (.iaload, 1) := by decide +kernel
theorem dX1_comesBefore_57 : decode cX1_comesBefore 57 = .ok (.aload_n 0, 1) := by decide +kernel
theorem dX1_comesBefore_58 : decode cX1_comesBefore 58 = .ok (.getfield 9, 3) := by decide +kernel
theorem dX1_comesBefore_61 : decode cX1_comesBefore 61 = .ok (.iload_n 2, 1) := by decide +kernel
theorem dX1_comesBefore_62 : decode cX1_comesBefore 62 = .ok (.bipush 12, 2) := by decide +kernel
theorem dX1_comesBefore_64 : decode cX1_comesBefore 64 = .ok (.imul, 1) := by decide +kernel
theorem dX1_comesBefore_65 : decode cX1_comesBefore 65 = .ok (.iload_n 3, 1) := by decide +kernel
theorem dX1_comesBefore_66 : decode cX1_comesBefore 66 = .ok (.iadd, 1) := by decide +kernel
theorem dX1_comesBefore_67 : decode cX1_comesBefore 67 = .ok (.iaload, 1) := by decide +kernel
theorem dX1_comesBefore_68 : decode cX1_comesBefore 68 = .ok (.isub, 1) := by decide +kernel
theorem dX1_comesBefore_69 : decode cX1_comesBefore 69 = .ok (.istore 4, 2) := by decide +kernel
theorem dX1_comesBefore_71 : decode cX1_comesBefore 71 = .ok (.iload 4, 2) := by decide +kernel
theorem dX1_comesBefore_73 : decode cX1_comesBefore 73 = .ok (.ifCond .eq 14, 3) := by decide +kernel
theorem dX1_comesBefore_76 : decode cX1_comesBefore 76 = .ok (.iload 4, 2) := by decide +kernel
theorem dX1_comesBefore_78 : decode cX1_comesBefore 78 = .ok (.ifCond .ge 7, 3) := by decide +kernel
theorem dX1_comesBefore_81 : decode cX1_comesBefore 81 = .ok (.iconst 1, 1) := by decide +kernel
theorem dX1_comesBefore_82 : decode cX1_comesBefore 82 = .ok (.goto 4, 3) := by decide +kernel
theorem dX1_comesBefore_85 : decode cX1_comesBefore 85 = .ok (.iconst 0, 1) := by decide +kernel
theorem dX1_comesBefore_86 : decode cX1_comesBefore 86 = .ok (.ireturn, 1) := by decide +kernel
theorem dX1_comesBefore_87 : decode cX1_comesBefore 87 = .ok (.iinc 3 1, 3) := by decide +kernel
theorem dX1_comesBefore_90 : decode cX1_comesBefore 90 = .ok (.goto (-52), 3) := by decide +kernel
theorem dX1_comesBefore_93 : decode cX1_comesBefore 93 = .ok (.iconst 0, 1) := by decide +kernel
theorem dX1_comesBefore_94 : decode cX1_comesBefore 94 = .ok (.ireturn, 1) := by decide +kernel
theorem dX1_growGroup_0 : decode cX1_growGroup 0 = .ok (.aload_n 0, 1) := by decide +kernel
theorem dX1_growGroup_1 : decode cX1_growGroup 1 = .ok (.getfield 24, 3) := by decide +kernel
theorem dX1_growGroup_4 : decode cX1_growGroup 4 = .ok (.iload_n 2, 1) := by decide +kernel
theorem dX1_growGroup_5 : decode cX1_growGroup 5 = .ok (.iload_n 3, 1) := by decide +kernel
theorem dX1_growGroup_6 : decode cX1_growGroup 6 = .ok (.iastore, 1) := by decide +kernel
theorem dX1_growGroup_7 : decode cX1_growGroup 7 = .ok (.aload_n 0, 1) := by decide +kernel
theorem dX1_growGroup_8 : decode cX1_growGroup 8 = .ok (.getfield 27, 3) := by decide +kernel
theorem dX1_growGroup_11 : decode cX1_growGroup 11 = .ok (.iconst 0, 1) := by decide +kernel
theorem dX1_growGroup_12 : decode cX1_growGroup 12 = .ok (.iload_n 2, 1) := by decide +kernel
theorem dX1_growGroup_13 : decode cX1_growGroup 13 = .ok (.iastore, 1) := by decide +kernel
theorem dX1_growGroup_14 : decode cX1_growGroup 14 = .ok (.iconst 1, 1) := by decide +kernel
theorem dX1_growGroup_15 : decode cX1_growGroup 15 = .ok (.istore 4, 2) := by decide +kernel
theorem dX1_growGroup_17 : decode cX1_growGroup 17 = .ok (.iconst 0, 1) := by decide +kernel
theorem dX1_growGroup_18 : decode cX1_growGroup 18 = .ok (.istore 5, 2) := by decide +kernel
theorem dX1_growGroup_20 : decode cX1_growGroup 20 = .ok (.iload 5, 2) := by decide +kernel
theorem dX1_growGroup_22 : decode cX1_growGroup 22 = .ok (.iload 4, 2) := by decide +kernel
theorem dX1_growGroup_24 : decode cX1_growGroup 24 = .ok (.if_icmp .ge 85, 3) := by decide +kernel
theorem dX1_growGroup_27 : decode cX1_growGroup 27 = .ok (.iload 5, 2) := by decide +kernel
theorem dX1_growGroup_29 : decode cX1_growGroup 29 = .ok (.bipush 60, 2) := by decide +kernel
theorem dX1_growGroup_31 : decode cX1_growGroup 31 = .ok (.if_icmp .ge 78, 3) := by decide +kernel
theorem dX1_growGroup_34 : decode cX1_growGroup 34 = .ok (.iconst 0, 1) := by decide +kernel
theorem dX1_growGroup_35 : decode cX1_growGroup 35 = .ok (.istore 6, 2) := by decide +kernel
theorem dX1_growGroup_37 : decode cX1_growGroup 37 = .ok (.iload 6, 2) := by decide +kernel
theorem dX1_growGroup_39 : decode cX1_growGroup 39 = .ok (.bipush 60, 2) := by decide +kernel
theorem dX1_growGroup_41 : decode cX1_growGroup 41 = .ok (.if_icmp .ge 62, 3) := by decide +kernel
theorem dX1_growGroup_44 : decode cX1_growGroup 44 = .ok (.aload_n 0, 1) := by decide +kernel
theorem dX1_growGroup_45 : decode cX1_growGroup 45 = .ok (.iload 6, 2) := by decide +kernel
theorem dX1_growGroup_47 : decode cX1_growGroup 47 = .ok (.iload_n 1, 1) := by decide +kernel
theorem dX1_growGroup_48 : decode cX1_growGroup 48 = .ok (.invokevirtual 80, 3) := by decide +kernel
theorem dX1_growGroup_51 : decode cX1_growGroup 51 = .ok (.ifCond .eq 46, 3) := by decide +kernel
theorem dX1_growGroup_54 : decode cX1_growGroup 54 = .ok (.aload_n 0, 1) := by decide +kernel
theorem dX1_growGroup_55 : decode cX1_growGroup 55 = .ok (.aload_n 0, 1) := by decide +kernel
theorem dX1_growGroup_56 : decode cX1_growGroup 56 = .ok (.getfield 27, 3) := by decide +kernel
theorem dX1_growGroup_59 : decode cX1_growGroup 59 = .ok (.iload 5, 2) := by decide +kernel
theorem dX1_growGroup_61 : decode cX1_growGroup 61 = .ok (.iaload, 1) := by decide +kernel
theorem dX1_growGroup_62 : decode cX1_growGroup 62 = .ok (.iload 6, 2) := by decide +kernel
theorem dX1_growGroup_64 : decode cX1_growGroup 64 = .ok (.invokevirtual 87, 3) := by decide +kernel
theorem dX1_growGroup_67 : decode cX1_growGroup 67 = .ok (.ifCond .eq 30, 3) := by decide +kernel
theorem dX1_growGroup_70 : decode cX1_growGroup 70 = .ok (.iload 4, 2) := by decide +kernel
theorem dX1_growGroup_72 : decode cX1_growGroup 72 = .ok (.bipush 60, 2) := by decide +kernel
theorem dX1_growGroup_74 : decode cX1_growGroup 74 = .ok (.if_icmp .ge 23, 3) := by decide +kernel
theorem dX1_growGroup_77 : decode cX1_growGroup 77 = .ok (.aload_n 0, 1) := by decide +kernel
theorem dX1_growGroup_78 : decode cX1_growGroup 78 = .ok (.getfield 24, 3) := by decide +kernel
theorem dX1_growGroup_81 : decode cX1_growGroup 81 = .ok (.iload 6, 2) := by decide +kernel
theorem dX1_growGroup_83 : decode cX1_growGroup 83 = .ok (.iload_n 3, 1) := by decide +kernel
theorem dX1_growGroup_84 : decode cX1_growGroup 84 = .ok (.iastore, 1) := by decide +kernel
theorem dX1_growGroup_85 : decode cX1_growGroup 85 = .ok (.aload_n 0, 1) := by decide +kernel
theorem dX1_growGroup_86 : decode cX1_growGroup 86 = .ok (.getfield 27, 3) := by decide +kernel
theorem dX1_growGroup_89 : decode cX1_growGroup 89 = .ok (.iload 4, 2) := by decide +kernel
theorem dX1_growGroup_91 : decode cX1_growGroup 91 = .ok (.iload 6, 2) := by decide +kernel
theorem dX1_growGroup_93 : decode cX1_growGroup 93 = .ok (.iastore, 1) := by decide +kernel
theorem dX1_growGroup_94 : decode cX1_growGroup 94 = .ok (.iinc 4 1, 3) := by decide +kernel
theorem dX1_growGroup_97 : decode cX1_growGroup 97 = .ok (.iinc 6 1, 3) := by decide +kernel
theorem dX1_growGroup_100 : decode cX1_growGroup 100 = .ok (.goto (-63), 3) := by decide +kernel
theorem dX1_growGroup_103 : decode cX1_growGroup 103 = .ok (.iinc 5 1, 3) := by decide +kernel
theorem dX1_growGroup_106 : decode cX1_growGroup 106 = .ok (.goto (-86), 3) := by decide +kernel
theorem dX1_growGroup_109 : decode cX1_growGroup 109 = .ok (.return_, 1) := by decide +kernel
theorem dX1_draws_0 : decode cX1_draws 0 = .ok (.aload_n 0, 1) := by decide +kernel
theorem dX1_draws_1 : decode cX1_draws 1 = .ok (.iload_n 1, 1) := by decide +kernel
theorem dX1_draws_2 : decode cX1_draws 2 = .ok (.iload_n 2, 1) := by decide +kernel
theorem dX1_draws_3 : decode cX1_draws 3 = .ok (.invokevirtual 77, 3) := by decide +kernel
theorem dX1_draws_6 : decode cX1_draws 6 = .ok (.iconst 1, 1) := by decide +kernel
theorem dX1_draws_7 : decode cX1_draws 7 = .ok (.if_icmp .ne 33, 3) := by decide +kernel
theorem dX1_draws_10 : decode cX1_draws 10 = .ok (.aload_n 0, 1) := by decide +kernel
theorem dX1_draws_11 : decode cX1_draws 11 = .ok (.getfield 43, 3) := by decide +kernel
theorem dX1_draws_14 : decode cX1_draws 14 = .ok (.ifCond .eq 22, 3) := by decide +kernel
theorem dX1_draws_17 : decode cX1_draws 17 = .ok (.iconst 2, 1) := by decide +kernel
theorem dX1_draws_18 : decode cX1_draws 18 = .ok (.aload_n 0, 1) := by decide +kernel
theorem dX1_draws_19 : decode cX1_draws 19 = .ok (.getfield 21, 3) := by decide +kernel
theorem dX1_draws_22 : decode cX1_draws 22 = .ok (.iload_n 2, 1) := by decide +kernel
theorem dX1_draws_23 : decode cX1_draws 23 = .ok (.iaload, 1) := by decide +kernel
theorem dX1_draws_24 : decode cX1_draws 24 = .ok (.imul, 1) := by decide +kernel
theorem dX1_draws_25 : decode cX1_draws 25 = .ok (.iconst 1, 1) := by decide +kernel
theorem dX1_draws_26 : decode cX1_draws 26 = .ok (.isub, 1) := by decide +kernel
theorem dX1_draws_27 : decode cX1_draws 27 = .ok (.aload_n 0, 1) := by decide +kernel
theorem dX1_draws_28 : decode cX1_draws 28 = .ok (.getfield 21, 3) := by decide +kernel
theorem dX1_draws_31 : decode cX1_draws 31 = .ok (.iload_n 1, 1) := by decide +kernel
theorem dX1_draws_32 : decode cX1_draws 32 = .ok (.iaload, 1) := by decide +kernel
theorem dX1_draws_33 : decode cX1_draws 33 = .ok (.if_icmp .gt 7, 3) := by decide +kernel
theorem dX1_draws_36 : decode cX1_draws 36 = .ok (.iconst 1, 1) := by decide +kernel
theorem dX1_draws_37 : decode cX1_draws 37 = .ok (.goto 4, 3) := by decide +kernel
theorem dX1_draws_40 : decode cX1_draws 40 = .ok (.iconst 0, 1) := by decide +kernel
theorem dX1_draws_41 : decode cX1_draws 41 = .ok (.ireturn, 1) := by decide +kernel
theorem dX1_distance_0 : decode cX1_distance 0 = .ok (.iconst 0, 1) := by decide +kernel
theorem dX1_distance_1 : decode cX1_distance 1 = .ok (.istore_n 3, 1) := by decide +kernel
theorem dX1_distance_2 : decode cX1_distance 2 = .ok (.iconst 0, 1) := by decide +kernel
theorem dX1_distance_3 : decode cX1_distance 3 = .ok (.istore 4, 2) := by decide +kernel
theorem dX1_distance_5 : decode cX1_distance 5 = .ok (.iload 4, 2) := by decide +kernel
theorem dX1_distance_7 : decode cX1_distance 7 = .ok (.aload_n 0, 1) := by decide +kernel
theorem dX1_distance_8 : decode cX1_distance 8 = .ok (.getfield 39, 3) := by decide +kernel
theorem dX1_distance_11 : decode cX1_distance 11 = .ok (.if_icmp .ge 39, 3) := by decide +kernel
theorem dX1_distance_14 : decode cX1_distance 14 = .ok (.aload_n 0, 1) := by decide +kernel
theorem dX1_distance_15 : decode cX1_distance 15 = .ok (.getfield 9, 3) := by decide +kernel
theorem dX1_distance_18 : decode cX1_distance 18 = .ok (.iload_n 1, 1) := by decide +kernel
theorem dX1_distance_19 : decode cX1_distance 19 = .ok (.bipush 12, 2) := by decide +kernel
theorem dX1_distance_21 : decode cX1_distance 21 = .ok (.imul, 1) := by decide +kernel
theorem dX1_distance_22 : decode cX1_distance 22 = .ok (.iload 4, 2) := by decide +kernel
theorem dX1_distance_24 : decode cX1_distance 24 = .ok (.iadd, 1) := by decide +kernel
theorem dX1_distance_25 : decode cX1_distance 25 = .ok (.iaload, 1) := by decide +kernel
theorem dX1_distance_26 : decode cX1_distance 26 = .ok (.aload_n 0, 1) := by decide +kernel
theorem dX1_distance_27 : decode cX1_distance 27 = .ok (.getfield 9, 3) := by decide +kernel
theorem dX1_distance_30 : decode cX1_distance 30 = .ok (.iload_n 2, 1) := by decide +kernel
theorem dX1_distance_31 : decode cX1_distance 31 = .ok (.bipush 12, 2) := by decide +kernel
theorem dX1_distance_33 : decode cX1_distance 33 = .ok (.imul, 1) := by decide +kernel
theorem dX1_distance_34 : decode cX1_distance 34 = .ok (.iload 4, 2) := by decide +kernel
theorem dX1_distance_36 : decode cX1_distance 36 = .ok (.iadd, 1) := by decide +kernel
theorem dX1_distance_37 : decode cX1_distance 37 = .ok (.iaload, 1) := by decide +kernel
theorem dX1_distance_38 : decode cX1_distance 38 = .ok (.if_icmp .eq 6, 3) := by decide +kernel
theorem dX1_distance_41 : decode cX1_distance 41 = .ok (.iinc 3 1, 3) := by decide +kernel
theorem dX1_distance_44 : decode cX1_distance 44 = .ok (.iinc 4 1, 3) := by decide +kernel
theorem dX1_distance_47 : decode cX1_distance 47 = .ok (.goto (-42), 3) := by decide +kernel
theorem dX1_distance_50 : decode cX1_distance 50 = .ok (.iload_n 3, 1) := by decide +kernel
theorem dX1_distance_51 : decode cX1_distance 51 = .ok (.ireturn, 1) := by decide +kernel
theorem dX2_init_0 : decode cX2_init 0 = .ok (.aload_n 0, 1) := by decide +kernel
theorem dX2_init_1 : decode cX2_init 1 = .ok (.invokespecial 3, 3) := by decide +kernel
theorem dX2_init_4 : decode cX2_init 4 = .ok (.aload_n 0, 1) := by decide +kernel
theorem dX2_init_5 : decode cX2_init 5 = .ok (.new 9, 3) := by decide +kernel
theorem dX2_init_8 : decode cX2_init 8 = .ok (.dup, 1) := by decide +kernel
theorem dX2_init_9 : decode cX2_init 9 = .ok (.invokespecial 11, 3) := by decide +kernel
theorem dX2_init_12 : decode cX2_init 12 = .ok (.putfield 12, 3) := by decide +kernel
theorem dX2_init_15 : decode cX2_init 15 = .ok (.return_, 1) := by decide +kernel
theorem dX2_parse_0 : decode cX2_parse 0 = .ok (.aload_n 0, 1) := by decide +kernel
theorem dX2_parse_1 : decode cX2_parse 1 = .ok (.iload_n 2, 1) := by decide +kernel
theorem dX2_parse_2 : decode cX2_parse 2 = .ok (.putfield 18, 3) := by decide +kernel
theorem dX2_parse_5 : decode cX2_parse 5 = .ok (.aload_n 0, 1) := by decide +kernel
theorem dX2_parse_6 : decode cX2_parse 6 = .ok (.getfield 12, 3) := by decide +kernel
theorem dX2_parse_9 : decode cX2_parse 9 = .ok (.aload_n 0, 1) := by decide +kernel
theorem dX2_parse_10 : decode cX2_parse 10 = .ok (.getfield 18, 3) := by decide +kernel
theorem dX2_parse_13 : decode cX2_parse 13 = .ok (.ifCond .ne 7, 3) := by decide +kernel
theorem dX2_parse_16 : decode cX2_parse 16 = .ok (.iconst 1, 1) := by decide +kernel
theorem dX2_parse_17 : decode cX2_parse 17 = .ok (.goto 4, 3) := by decide +kernel
theorem dX2_parse_20 : decode cX2_parse 20 = .ok (.iconst 0, 1) := by decide +kernel
theorem dX2_parse_21 : decode cX2_parse 21 = .ok (.invokevirtual 22, 3) := by decide +kernel
theorem dX2_parse_24 : decode cX2_parse 24 = .ok (.aload_n 0, 1) := by decide +kernel
theorem dX2_parse_25 : decode cX2_parse 25 = .ok (.iconst 0, 1) := by decide +kernel
theorem dX2_parse_26 : decode cX2_parse 26 = .ok (.invokevirtual 26, 3) := by decide +kernel
theorem dX2_parse_29 : decode cX2_parse 29 = .ok (.pop, 1) := by decide +kernel
theorem dX2_parse_30 : decode cX2_parse 30 = .ok (.iconst 0, 1) := by decide +kernel
theorem dX2_parse_31 : decode cX2_parse 31 = .ok (.istore_n 3, 1) := by decide +kernel
theorem dX2_parse_32 : decode cX2_parse 32 = .ok (.iload_n 3, 1) := by decide +kernel
theorem dX2_parse_33 : decode cX2_parse 33 = .ok (.aload_n 1, 1) := by decide +kernel
theorem dX2_parse_34 : decode cX2_parse 34 = .ok (.invokevirtual 30, 3) := by decide +kernel
theorem dX2_parse_37 : decode cX2_parse 37 = .ok (.if_icmp .ge 33, 3) := by decide +kernel
theorem dX2_parse_40 : decode cX2_parse 40 = .ok (.aload_n 0, 1) := by decide +kernel
theorem dX2_parse_41 : decode cX2_parse 41 = .ok (.aload_n 1, 1) := by decide +kernel
theorem dX2_parse_42 : decode cX2_parse 42 = .ok (.iload_n 3, 1) := by decide +kernel
theorem dX2_parse_43 : decode cX2_parse 43 = .ok (.invokevirtual 36, 3) := by decide +kernel
theorem dX2_parse_46 : decode cX2_parse 46 = .ok (.invokevirtual 39, 3) := by decide +kernel
theorem dX2_parse_49 : decode cX2_parse 49 = .ok (.istore 4, 2) := by decide +kernel
theorem dX2_parse_51 : decode cX2_parse 51 = .ok (.iload 4, 2) := by decide +kernel
theorem dX2_parse_53 : decode cX2_parse 53 = .ok (.ifCond .eq 11, 3) := by decide +kernel
theorem dX2_parse_56 : decode cX2_parse 56 = .ok (.aload_n 0, 1) := by decide +kernel
theorem dX2_parse_57 : decode cX2_parse 57 = .ok (.iload_n 3, 1) := by decide +kernel
theorem dX2_parse_58 : decode cX2_parse 58 = .ok (.putfield 42, 3) := by decide +kernel
theorem dX2_parse_61 : decode cX2_parse 61 = .ok (.iload 4, 2) := by decide +kernel
theorem dX2_parse_63 : decode cX2_parse 63 = .ok (.ireturn, 1) := by decide +kernel
theorem dX2_parse_64 : decode cX2_parse 64 = .ok (.iinc 3 1, 3) := by decide +kernel
theorem dX2_parse_67 : decode cX2_parse 67 = .ok (.goto (-35), 3) := by decide +kernel
theorem dX2_parse_70 : decode cX2_parse 70 = .ok (.aload_n 0, 1) := by decide +kernel
theorem dX2_parse_71 : decode cX2_parse 71 = .ok (.aload_n 1, 1) := by decide +kernel
theorem dX2_parse_72 : decode cX2_parse 72 = .ok (.invokevirtual 30, 3) := by decide +kernel
theorem dX2_parse_75 : decode cX2_parse 75 = .ok (.putfield 42, 3) := by decide +kernel
theorem dX2_parse_78 : decode cX2_parse 78 = .ok (.aload_n 0, 1) := by decide +kernel
theorem dX2_parse_79 : decode cX2_parse 79 = .ok (.invokevirtual 45, 3) := by decide +kernel
theorem dX2_parse_82 : decode cX2_parse 82 = .ok (.ifCond .eq 7, 3) := by decide +kernel
theorem dX2_parse_85 : decode cX2_parse 85 = .ok (.iconst 0, 1) := by decide +kernel
theorem dX2_parse_86 : decode cX2_parse 86 = .ok (.goto 4, 3) := by decide +kernel
theorem dX2_parse_89 : decode cX2_parse 89 = .ok (.iconst 1, 1) := by decide +kernel
theorem dX2_parse_90 : decode cX2_parse 90 = .ok (.ireturn, 1) := by decide +kernel
theorem dX2_faultAt_0 : decode cX2_faultAt 0 = .ok (.aload_n 0, 1) := by decide +kernel
theorem dX2_faultAt_1 : decode cX2_faultAt 1 = .ok (.getfield 42, 3) := by decide +kernel
theorem dX2_faultAt_4 : decode cX2_faultAt 4 = .ok (.ireturn, 1) := by decide +kernel
theorem dX2_exchange_0 : decode cX2_exchange 0 = .ok (.aload_n 0, 1) := by decide +kernel
theorem dX2_exchange_1 : decode cX2_exchange 1 = .ok (.getfield 12, 3) := by decide +kernel
theorem dX2_exchange_4 : decode cX2_exchange 4 = .ok (.astore_n 2, 1) := by decide +kernel
theorem dX2_exchange_5 : decode cX2_exchange 5 = .ok (.aload_n 0, 1) := by decide +kernel
theorem dX2_exchange_6 : decode cX2_exchange 6 = .ok (.aload_n 1, 1) := by decide +kernel
theorem dX2_exchange_7 : decode cX2_exchange 7 = .ok (.putfield 12, 3) := by decide +kernel
theorem dX2_exchange_10 : decode cX2_exchange 10 = .ok (.aload_n 2, 1) := by decide +kernel
theorem dX2_exchange_11 : decode cX2_exchange 11 = .ok (.areturn, 1) := by decide +kernel
theorem dX2_isWhole_0 : decode cX2_isWhole 0 = .ok (.aload_n 0, 1) := by decide +kernel
theorem dX2_isWhole_1 : decode cX2_isWhole 1 = .ok (.getfield 18, 3) := by decide +kernel
theorem dX2_isWhole_4 : decode cX2_isWhole 4 = .ok (.ifCond .ne 26, 3) := by decide +kernel
theorem dX2_isWhole_7 : decode cX2_isWhole 7 = .ok (.aload_n 0, 1) := by decide +kernel
theorem dX2_isWhole_8 : decode cX2_isWhole 8 = .ok (.getfield 49, 3) := by decide +kernel
theorem dX2_isWhole_11 : decode cX2_isWhole 11 = .ok (.ifCond .ne 17, 3) := by decide +kernel
theorem dX2_isWhole_14 : decode cX2_isWhole 14 = .ok (.aload_n 0, 1) := by decide +kernel
theorem dX2_isWhole_15 : decode cX2_isWhole 15 = .ok (.getfield 12, 3) := by decide +kernel
theorem dX2_isWhole_18 : decode cX2_isWhole 18 = .ok (.invokevirtual 52, 3) := by decide +kernel
theorem dX2_isWhole_21 : decode cX2_isWhole 21 = .ok (.ifCond .le 7, 3) := by decide +kernel
theorem dX2_isWhole_24 : decode cX2_isWhole 24 = .ok (.iconst 1, 1) := by decide +kernel
theorem dX2_isWhole_25 : decode cX2_isWhole 25 = .ok (.goto 4, 3) := by decide +kernel
theorem dX2_isWhole_28 : decode cX2_isWhole 28 = .ok (.iconst 0, 1) := by decide +kernel
theorem dX2_isWhole_29 : decode cX2_isWhole 29 = .ok (.ireturn, 1) := by decide +kernel
theorem dX2_isWhole_30 : decode cX2_isWhole 30 = .ok (.aload_n 0, 1) := by decide +kernel
theorem dX2_isWhole_31 : decode cX2_isWhole 31 = .ok (.getfield 49, 3) := by decide +kernel
theorem dX2_isWhole_34 : decode cX2_isWhole 34 = .ok (.iconst 2, 1) := by decide +kernel
theorem dX2_isWhole_35 : decode cX2_isWhole 35 = .ok (.if_icmp .ne 14, 3) := by decide +kernel
theorem dX2_isWhole_38 : decode cX2_isWhole 38 = .ok (.aload_n 0, 1) := by decide +kernel
theorem dX2_isWhole_39 : decode cX2_isWhole 39 = .ok (.invokevirtual 55, 3) := by decide +kernel
theorem dX2_isWhole_42 : decode cX2_isWhole 42 = .ok (.ifCond .eq 7, 3) := by decide +kernel
theorem dX2_isWhole_45 : decode cX2_isWhole 45 = .ok (.iconst 1, 1) := by decide +kernel
theorem dX2_isWhole_46 : decode cX2_isWhole 46 = .ok (.goto 4, 3) := by decide +kernel
theorem dX2_isWhole_49 : decode cX2_isWhole 49 = .ok (.iconst 0, 1) := by decide +kernel
theorem dX2_isWhole_50 : decode cX2_isWhole 50 = .ok (.ireturn, 1) := by decide +kernel
theorem dX2_mayEndHere_0 : decode cX2_mayEndHere 0 = .ok (.aload_n 0, 1) := by decide +kernel
theorem dX2_mayEndHere_1 : decode cX2_mayEndHere 1 = .ok (.getfield 58, 3) := by decide +kernel
theorem dX2_mayEndHere_4 : decode cX2_mayEndHere 4 = .ok (.ifCond .ne 21, 3) := by decide +kernel
theorem dX2_mayEndHere_7 : decode cX2_mayEndHere 7 = .ok (.aload_n 0, 1) := by decide +kernel
theorem dX2_mayEndHere_8 : decode cX2_mayEndHere 8 = .ok (.getfield 12, 3) := by decide +kernel
theorem dX2_mayEndHere_11 : decode cX2_mayEndHere 11 = .ok (.aload_n 0, 1) := by decide +kernel
theorem dX2_mayEndHere_12 : decode cX2_mayEndHere 12 = .ok (.invokevirtual 61, 3) := by decide +kernel
theorem dX2_mayEndHere_15 : decode cX2_mayEndHere 15 = .ok (.invokevirtual 64, 3) := by decide +kernel
theorem dX2_mayEndHere_18 : decode cX2_mayEndHere 18 = .ok (.ifCond .le 7, 3) := by decide +kernel
theorem dX2_mayEndHere_21 : decode cX2_mayEndHere 21 = .ok (.iconst 1, 1) := by decide +kernel
theorem dX2_mayEndHere_22 : decode cX2_mayEndHere 22 = .ok (.goto 4, 3) := by decide +kernel
theorem dX2_mayEndHere_25 : decode cX2_mayEndHere 25 = .ok (.iconst 0, 1) := by decide +kernel
theorem dX2_mayEndHere_26 : decode cX2_mayEndHere 26 = .ok (.ireturn, 1) := by decide +kernel
theorem dX2_last_0 : decode cX2_last 0 = .ok (.aload_n 0, 1) := by decide +kernel
theorem dX2_last_1 : decode cX2_last 1 = .ok (.getfield 12, 3) := by decide +kernel
theorem dX2_last_4 : decode cX2_last 4 = .ok (.invokevirtual 52, 3) := by decide +kernel
theorem dX2_last_7 : decode cX2_last 7 = .ok (.iconst 1, 1) := by decide +kernel
theorem dX2_last_8 : decode cX2_last 8 = .ok (.isub, 1) := by decide +kernel
theorem dX2_last_9 : decode cX2_last 9 = .ok (.ireturn, 1) := by decide +kernel
theorem dX2_enter_0 : decode cX2_enter 0 = .ok (.aload_n 0, 1) := by decide +kernel
theorem dX2_enter_1 : decode cX2_enter 1 = .ok (.iload_n 1, 1) := by decide +kernel
theorem dX2_enter_2 : decode cX2_enter 2 = .ok (.putfield 49, 3) := by decide +kernel
theorem dX2_enter_5 : decode cX2_enter 5 = .ok (.aload_n 0, 1) := by decide +kernel
theorem dX2_enter_6 : decode cX2_enter 6 = .ok (.iconst 0, 1) := by decide +kernel
theorem dX2_enter_7 : decode cX2_enter 7 = .ok (.putfield 58, 3) := by decide +kernel
theorem dX2_enter_10 : decode cX2_enter 10 = .ok (.iconst 0, 1) := by decide +kernel
theorem dX2_enter_11 : decode cX2_enter 11 = .ok (.ireturn, 1) := by decide +kernel
theorem dX2_step_0 : decode cX2_step 0 = .ok (.aload_n 0, 1) := by decide +kernel
theorem dX2_step_1 : decode cX2_step 1 = .ok (.getfield 49, 3) := by decide +kernel
theorem dX2_step_4 : decode cX2_step 4 = .ok (.tableswitch 76 0 4 #[36, 42, 48, 54, 70], 36) := by decide +kernel
theorem dX2_step_40 : decode cX2_step 40 = .ok (.aload_n 0, 1) := by decide +kernel
theorem dX2_step_41 : decode cX2_step 41 = .ok (.iload_n 1, 1) := by decide +kernel
theorem dX2_step_42 : decode cX2_step 42 = .ok (.invokevirtual 67, 3) := by decide +kernel
theorem dX2_step_45 : decode cX2_step 45 = .ok (.ireturn, 1) := by decide +kernel
theorem dX2_step_46 : decode cX2_step 46 = .ok (.aload_n 0, 1) := by decide +kernel
theorem dX2_step_47 : decode cX2_step 47 = .ok (.iload_n 1, 1) := by decide +kernel
theorem dX2_step_48 : decode cX2_step 48 = .ok (.invokevirtual 70, 3) := by decide +kernel
theorem dX2_step_51 : decode cX2_step 51 = .ok (.ireturn, 1) := by decide +kernel
theorem dX2_step_52 : decode cX2_step 52 = .ok (.aload_n 0, 1) := by decide +kernel
theorem dX2_step_53 : decode cX2_step 53 = .ok (.iload_n 1, 1) := by decide +kernel
theorem dX2_step_54 : decode cX2_step 54 = .ok (.invokevirtual 73, 3) := by decide +kernel
theorem dX2_step_57 : decode cX2_step 57 = .ok (.ireturn, 1) := by decide +kernel
theorem dX2_step_58 : decode cX2_step 58 = .ok (.iload_n 1, 1) := by decide +kernel
theorem dX2_step_59 : decode cX2_step 59 = .ok (.bipush 43, 2) := by decide +kernel
theorem dX2_step_61 : decode cX2_step 61 = .ok (.if_icmp .ne 11, 3) := by decide +kernel
theorem dX2_step_64 : decode cX2_step 64 = .ok (.aload_n 0, 1) := by decide +kernel
theorem dX2_step_65 : decode cX2_step 65 = .ok (.iconst 4, 1) := by decide +kernel
theorem dX2_step_66 : decode cX2_step 66 = .ok (.invokevirtual 26, 3) := by decide +kernel
theorem dX2_step_69 : decode cX2_step 69 = .ok (.goto 4, 3) := by decide +kernel
theorem dX2_step_72 : decode cX2_step 72 = .ok (.iconst 2, 1) := by decide +kernel
theorem dX2_step_73 : decode cX2_step 73 = .ok (.ireturn, 1) := by decide +kernel
theorem dX2_step_74 : decode cX2_step 74 = .ok (.aload_n 0, 1) := by decide +kernel
theorem dX2_step_75 : decode cX2_step 75 = .ok (.iload_n 1, 1) := by decide +kernel
theorem dX2_step_76 : decode cX2_step 76 = .ok (.invokevirtual 76, 3) := by decide +kernel
theorem dX2_step_79 : decode cX2_step 79 = .ok (.ireturn, 1) := by decide +kernel
theorem dX2_step_80 : decode cX2_step 80 = .ok (.aload_n 0, 1) := by decide +kernel
theorem dX2_step_81 : decode cX2_step 81 = .ok (.iload_n 1, 1) := by decide +kernel
theorem dX2_step_82 : decode cX2_step 82 = .ok (.invokevirtual 79, 3) := by decide +kernel
theorem dX2_step_85 : decode cX2_step 85 = .ok (.ireturn, 1) := by decide +kernel
theorem dX2_stepMark_0 : decode cX2_stepMark 0 = .ok (.iload_n 1, 1) := by decide +kernel
theorem dX2_stepMark_1 : decode cX2_stepMark 1 = .ok (.aload_n 0, 1) := by decide +kernel
theorem dX2_stepMark_2 : decode cX2_stepMark 2 = .ok (.getfield 18, 3) := by decide +kernel
theorem dX2_stepMark_5 : decode cX2_stepMark 5 = .ok (.ifCond .ne 8, 3) := by decide +kernel
theorem dX2_stepMark_8 : decode cX2_stepMark 8 = .ok (.bipush 64, 2) := by decide +kernel
theorem dX2_stepMark_10 : decode cX2_stepMark 10 = .ok (.goto 5, 3) := by decide +kernel
theorem dX2_stepMark_13 : decode cX2_stepMark 13 = .ok (.bipush 62, 2) := by decide +kernel
theorem dX2_stepMark_15 : decode cX2_stepMark 15 = .ok (.if_icmp .eq 5, 3) := by decide +kernel
theorem dX2_stepMark_18 : decode cX2_stepMark 18 = .ok (.iconst 2, 1) := by decide +kernel
theorem dX2_stepMark_19 : decode cX2_stepMark 19 = .ok (.ireturn, 1) := by decide +kernel
theorem dX2_stepMark_20 : decode cX2_stepMark 20 = .ok (.aload_n 0, 1) := by decide +kernel
theorem dX2_stepMark_21 : decode cX2_stepMark 21 = .ok (.getfield 12, 3) := by decide +kernel
theorem dX2_stepMark_24 : decode cX2_stepMark 24 = .ok (.invokevirtual 52, 3) := by decide +kernel
theorem dX2_stepMark_27 : decode cX2_stepMark 27 = .ok (.bipush 60, 2) := by decide +kernel
theorem dX2_stepMark_29 : decode cX2_stepMark 29 = .ok (.if_icmp .lt 5, 3) := by decide +kernel
theorem dX2_stepMark_32 : decode cX2_stepMark 32 = .ok (.iconst 4, 1) := by decide +kernel
theorem dX2_stepMark_33 : decode cX2_stepMark 33 = .ok (.ireturn, 1) := by decide +kernel
theorem dX2_stepMark_34 : decode cX2_stepMark 34 = .ok (.aload_n 0, 1) := by decide +kernel
theorem dX2_stepMark_35 : decode cX2_stepMark 35 = .ok (.getfield 12, 3) := by decide +kernel
theorem dX2_stepMark_38 : decode cX2_stepMark 38 = .ok (.invokevirtual 82, 3) := by decide +kernel
theorem dX2_stepMark_41 : decode cX2_stepMark 41 = .ok (.aload_n 0, 1) := by decide +kernel
theorem dX2_stepMark_42 : decode cX2_stepMark 42 = .ok (.iconst 1, 1) := by decide +kernel
theorem dX2_stepMark_43 : decode cX2_stepMark 43 = .ok (.invokevirtual 26, 3) := by decide +kernel
theorem dX2_stepMark_46 : decode cX2_stepMark 46 = .ok (.ireturn, 1) := by decide +kernel
theorem dX2_stepName_0 : decode cX2_stepName 0 = .ok (.aload_n 0, 1) := by decide +kernel
theorem dX2_stepName_1 : decode cX2_stepName 1 = .ok (.getfield 12, 3) := by decide +kernel
theorem dX2_stepName_4 : decode cX2_stepName 4 = .ok (.aload_n 0, 1) := by decide +kernel
theorem dX2_stepName_5 : decode cX2_stepName 5 = .ok (.invokevirtual 61, 3) := by decide +kernel
theorem dX2_stepName_8 : decode cX2_stepName 8 = .ok (.invokevirtual 85, 3) := by decide +kernel
theorem dX2_stepName_11 : decode cX2_stepName 11 = .ok (.istore_n 2, 1) := by decide +kernel
theorem dX2_stepName_12 : decode cX2_stepName 12 = .ok (.iload_n 1, 1) := by decide +kernel
theorem dX2_stepName_13 : decode cX2_stepName 13 = .ok (.bipush 10, 2) := by decide +kernel
theorem dX2_stepName_15 : decode cX2_stepName 15 = .ok (.if_icmp .ne 13, 3) := by decide +kernel
theorem dX2_stepName_18 : decode cX2_stepName 18 = .ok (.iload_n 2, 1) := by decide +kernel
theorem dX2_stepName_19 : decode cX2_stepName 19 = .ok (.ifCond .le 9, 3) := by decide +kernel
theorem dX2_stepName_22 : decode cX2_stepName 22 = .ok (.aload_n 0, 1) := by decide +kernel
theorem dX2_stepName_23 : decode cX2_stepName 23 = .ok (.iconst 2, 1) := by decide +kernel
theorem dX2_stepName_24 : decode cX2_stepName 24 = .ok (.invokevirtual 26, 3) := by decide +kernel
theorem dX2_stepName_27 : decode cX2_stepName 27 = .ok (.ireturn, 1) := by decide +kernel
theorem dX2_stepName_28 : decode cX2_stepName 28 = .ok (.iload_n 1, 1) := by decide +kernel
theorem dX2_stepName_29 : decode cX2_stepName 29 = .ok (.invokestatic 88, 3) := by decide +kernel
theorem dX2_stepName_32 : decode cX2_stepName 32 = .ok (.ifCond .ne 5, 3) := by decide +kernel
theorem dX2_stepName_35 : decode cX2_stepName 35 = .ok (.iconst 2, 1) := by decide +kernel
theorem dX2_stepName_36 : decode cX2_stepName 36 = .ok (.ireturn, 1) := by decide +kernel
theorem dX2_stepName_37 : decode cX2_stepName 37 = .ok (.iload_n 2, 1) := by decide +kernel
theorem dX2_stepName_38 : decode cX2_stepName 38 = .ok (.bipush 40, 2) := by decide +kernel
theorem dX2_stepName_40 : decode cX2_stepName 40 = .ok (.if_icmp .lt 5, 3) := by decide +kernel
theorem dX2_stepName_43 : decode cX2_stepName 43 = .ok (.iconst 3, 1) := by decide +kernel
theorem dX2_stepName_44 : decode cX2_stepName 44 = .ok (.ireturn, 1) := by decide +kernel
theorem dX2_stepName_45 : decode cX2_stepName 45 = .ok (.aload_n 0, 1) := by decide +kernel
theorem dX2_stepName_46 : decode cX2_stepName 46 = .ok (.getfield 12, 3) := by decide +kernel
theorem dX2_stepName_49 : decode cX2_stepName 49 = .ok (.iload_n 1, 1) := by decide +kernel
theorem dX2_stepName_50 : decode cX2_stepName 50 = .ok (.invokevirtual 92, 3) := by decide +kernel
theorem dX2_stepName_53 : decode cX2_stepName 53 = .ok (.iconst 0, 1) := by decide +kernel
theorem dX2_stepName_54 : decode cX2_stepName 54 = .ok (.ireturn, 1) := by decide +kernel
theorem dX2_stepLetters_0 : decode cX2_stepLetters 0 = .ok (.iload_n 1, 1) := by decide +kernel
theorem dX2_stepLetters_1 : decode cX2_stepLetters 1 = .ok (.bipush 10, 2) := by decide +kernel
theorem dX2_stepLetters_3 : decode cX2_stepLetters 3 = .ok (.if_icmp .ne 27, 3) := by decide +kernel
theorem dX2_stepLetters_6 : decode cX2_stepLetters 6 = .ok (.aload_n 0, 1) := by decide +kernel
theorem dX2_stepLetters_7 : decode cX2_stepLetters 7 = .ok (.getfield 58, 3) := by decide +kernel
theorem dX2_stepLetters_10 : decode cX2_stepLetters 10 = .ok (.ifCond .le 20, 3) := by decide +kernel
theorem dX2_stepLetters_13 : decode cX2_stepLetters 13 = .ok (.aload_n 0, 1) := by decide +kernel
theorem dX2_stepLetters_14 : decode cX2_stepLetters 14 = .ok (.aload_n 0, 1) := by decide +kernel
theorem dX2_stepLetters_15 : decode cX2_stepLetters 15 = .ok (.getfield 18, 3) := by decide +kernel
theorem dX2_stepLetters_18 : decode cX2_stepLetters 18 = .ok (.ifCond .ne 7, 3) := by decide +kernel
theorem dX2_stepLetters_21 : decode cX2_stepLetters 21 = .ok (.iconst 3, 1) := by decide +kernel
theorem dX2_stepLetters_22 : decode cX2_stepLetters 22 = .ok (.goto 4, 3) := by decide +kernel
theorem dX2_stepLetters_25 : decode cX2_stepLetters 25 = .ok (.iconst 2, 1) := by decide +kernel
theorem dX2_stepLetters_26 : decode cX2_stepLetters 26 = .ok (.invokevirtual 26, 3) := by decide +kernel
theorem dX2_stepLetters_29 : decode cX2_stepLetters 29 = .ok (.ireturn, 1) := by decide +kernel
theorem dX2_stepLetters_30 : decode cX2_stepLetters 30 = .ok (.aload_n 0, 1) := by decide +kernel
theorem dX2_stepLetters_31 : decode cX2_stepLetters 31 = .ok (.getfield 18, 3) := by decide +kernel
theorem dX2_stepLetters_34 : decode cX2_stepLetters 34 = .ok (.iconst 1, 1) := by decide +kernel
theorem dX2_stepLetters_35 : decode cX2_stepLetters 35 = .ok (.if_icmp .ne 22, 3) := by decide +kernel
theorem dX2_stepLetters_38 : decode cX2_stepLetters 38 = .ok (.iload_n 1, 1) := by decide +kernel
theorem dX2_stepLetters_39 : decode cX2_stepLetters 39 = .ok (.bipush 62, 2) := by decide +kernel
theorem dX2_stepLetters_41 : decode cX2_stepLetters 41 = .ok (.if_icmp .ne 16, 3) := by decide +kernel
theorem dX2_stepLetters_44 : decode cX2_stepLetters 44 = .ok (.aload_n 0, 1) := by decide +kernel
theorem dX2_stepLetters_45 : decode cX2_stepLetters 45 = .ok (.invokevirtual 55, 3) := by decide +kernel
theorem dX2_stepLetters_48 : decode cX2_stepLetters 48 = .ok (.ifCond .eq 9, 3) := by decide +kernel
theorem dX2_stepLetters_51 : decode cX2_stepLetters 51 = .ok (.aload_n 0, 1) := by decide +kernel
theorem dX2_stepLetters_52 : decode cX2_stepLetters 52 = .ok (.iload_n 1, 1) := by decide +kernel
theorem dX2_stepLetters_53 : decode cX2_stepLetters 53 = .ok (.invokevirtual 67, 3) := by decide +kernel
theorem dX2_stepLetters_56 : decode cX2_stepLetters 56 = .ok (.ireturn, 1) := by decide +kernel
theorem dX2_stepLetters_57 : decode cX2_stepLetters 57 = .ok (.iload_n 1, 1) := by decide +kernel
theorem dX2_stepLetters_58 : decode cX2_stepLetters 58 = .ok (.invokestatic 96, 3) := by decide +kernel
theorem dX2_stepLetters_61 : decode cX2_stepLetters 61 = .ok (.ifCond .ne 5, 3) := by decide +kernel
theorem dX2_stepLetters_64 : decode cX2_stepLetters 64 = .ok (.iconst 2, 1) := by decide +kernel
theorem dX2_stepLetters_65 : decode cX2_stepLetters 65 = .ok (.ireturn, 1) := by decide +kernel
theorem dX2_stepLetters_66 : decode cX2_stepLetters 66 = .ok (.aload_n 0, 1) := by decide +kernel
theorem dX2_stepLetters_67 : decode cX2_stepLetters 67 = .ok (.getfield 12, 3) := by decide +kernel
theorem dX2_stepLetters_70 : decode cX2_stepLetters 70 = .ok (.aload_n 0, 1) := by decide +kernel
theorem dX2_stepLetters_71 : decode cX2_stepLetters 71 = .ok (.invokevirtual 61, 3) := by decide +kernel
theorem dX2_stepLetters_74 : decode cX2_stepLetters 74 = .ok (.invokevirtual 64, 3) := by decide +kernel
theorem dX2_stepLetters_77 : decode cX2_stepLetters 77 = .ok (.bipush 120, 2) := by decide +kernel
theorem dX2_stepLetters_79 : decode cX2_stepLetters 79 = .ok (.if_icmp .lt 5, 3) := by decide +kernel
theorem dX2_stepLetters_82 : decode cX2_stepLetters 82 = .ok (.iconst 3, 1) := by decide +kernel
theorem dX2_stepLetters_83 : decode cX2_stepLetters 83 = .ok (.ireturn, 1) := by decide +kernel
theorem dX2_stepLetters_84 : decode cX2_stepLetters 84 = .ok (.aload_n 0, 1) := by decide +kernel
theorem dX2_stepLetters_85 : decode cX2_stepLetters 85 = .ok (.getfield 12, 3) := by decide +kernel
theorem dX2_stepLetters_88 : decode cX2_stepLetters 88 = .ok (.iload_n 1, 1) := by decide +kernel
theorem dX2_stepLetters_89 : decode cX2_stepLetters 89 = .ok (.invokevirtual 99, 3) := by decide +kernel
theorem dX2_stepLetters_92 : decode cX2_stepLetters 92 = .ok (.aload_n 0, 1) := by decide +kernel
theorem dX2_stepLetters_93 : decode cX2_stepLetters 93 = .ok (.dup, 1) := by decide +kernel
theorem dX2_stepLetters_94 : decode cX2_stepLetters 94 = .ok (.getfield 58, 3) := by decide +kernel
theorem dX2_stepLetters_97 : decode cX2_stepLetters 97 = .ok (.iconst 1, 1) := by decide +kernel
theorem dX2_stepLetters_98 : decode cX2_stepLetters 98 = .ok (.iadd, 1) := by decide +kernel
theorem dX2_stepLetters_99 : decode cX2_stepLetters 99 = .ok (.putfield 58, 3) := by decide +kernel
theorem dX2_stepLetters_102 : decode cX2_stepLetters 102 = .ok (.iconst 0, 1) := by decide +kernel
theorem dX2_stepLetters_103 : decode cX2_stepLetters 103 = .ok (.ireturn, 1) := by decide +kernel
theorem dX2_stepBehindPlus_0 : decode cX2_stepBehindPlus 0 = .ok (.aload_n 0, 1) := by decide +kernel
theorem dX2_stepBehindPlus_1 : decode cX2_stepBehindPlus 1 = .ok (.getfield 58, 3) := by decide +kernel
theorem dX2_stepBehindPlus_4 : decode cX2_stepBehindPlus 4 = .ok (.ifCond .eq 21, 3) := by decide +kernel
theorem dX2_stepBehindPlus_7 : decode cX2_stepBehindPlus 7 = .ok (.aload_n 0, 1) := by decide +kernel
theorem dX2_stepBehindPlus_8 : decode cX2_stepBehindPlus 8 = .ok (.getfield 58, 3) := by decide +kernel
theorem dX2_stepBehindPlus_11 : decode cX2_stepBehindPlus 11 = .ok (.aload_n 0, 1) := by decide +kernel
theorem dX2_stepBehindPlus_12 : decode cX2_stepBehindPlus 12 = .ok (.getfield 12, 3) := by decide +kernel
theorem dX2_stepBehindPlus_15 : decode cX2_stepBehindPlus 15 = .ok (.aload_n 0, 1) := by decide +kernel
theorem dX2_stepBehindPlus_16 : decode cX2_stepBehindPlus 16 = .ok (.invokevirtual 61, 3) := by decide +kernel
theorem dX2_stepBehindPlus_19 : decode cX2_stepBehindPlus 19 = .ok (.invokevirtual 85, 3) := by decide +kernel
theorem dX2_stepBehindPlus_22 : decode cX2_stepBehindPlus 22 = .ok (.if_icmp .ne 7, 3) := by decide +kernel
theorem dX2_stepBehindPlus_25 : decode cX2_stepBehindPlus 25 = .ok (.iconst 1, 1) := by decide +kernel
theorem dX2_stepBehindPlus_26 : decode cX2_stepBehindPlus 26 = .ok (.goto 4, 3) := by decide +kernel
theorem dX2_stepBehindPlus_29 : decode cX2_stepBehindPlus 29 = .ok (.iconst 0, 1) := by decide +kernel
theorem dX2_stepBehindPlus_30 : decode cX2_stepBehindPlus 30 = .ok (.istore_n 2, 1) := by decide +kernel
theorem dX2_stepBehindPlus_31 : decode cX2_stepBehindPlus 31 = .ok (.iload_n 1, 1) := by decide +kernel
theorem dX2_stepBehindPlus_32 : decode cX2_stepBehindPlus 32 = .ok (.bipush 10, 2) := by decide +kernel
theorem dX2_stepBehindPlus_34 : decode cX2_stepBehindPlus 34 = .ok (.if_icmp .ne 13, 3) := by decide +kernel
theorem dX2_stepBehindPlus_37 : decode cX2_stepBehindPlus 37 = .ok (.iload_n 2, 1) := by decide +kernel
theorem dX2_stepBehindPlus_38 : decode cX2_stepBehindPlus 38 = .ok (.ifCond .eq 9, 3) := by decide +kernel
theorem dX2_stepBehindPlus_41 : decode cX2_stepBehindPlus 41 = .ok (.aload_n 0, 1) := by decide +kernel
theorem dX2_stepBehindPlus_42 : decode cX2_stepBehindPlus 42 = .ok (.iconst 5, 1) := by decide +kernel
theorem dX2_stepBehindPlus_43 : decode cX2_stepBehindPlus 43 = .ok (.invokevirtual 26, 3) := by decide +kernel
theorem dX2_stepBehindPlus_46 : decode cX2_stepBehindPlus 46 = .ok (.ireturn, 1) := by decide +kernel
theorem dX2_stepBehindPlus_47 : decode cX2_stepBehindPlus 47 = .ok (.iload_n 1, 1) := by decide +kernel
theorem dX2_stepBehindPlus_48 : decode cX2_stepBehindPlus 48 = .ok (.aload_n 0, 1) := by decide +kernel
theorem dX2_stepBehindPlus_49 : decode cX2_stepBehindPlus 49 = .ok (.getfield 12, 3) := by decide +kernel
theorem dX2_stepBehindPlus_52 : decode cX2_stepBehindPlus 52 = .ok (.aload_n 0, 1) := by decide +kernel
theorem dX2_stepBehindPlus_53 : decode cX2_stepBehindPlus 53 = .ok (.invokevirtual 61, 3) := by decide +kernel
theorem dX2_stepBehindPlus_56 : decode cX2_stepBehindPlus 56 = .ok (.aload_n 0, 1) := by decide +kernel
theorem dX2_stepBehindPlus_57 : decode cX2_stepBehindPlus 57 = .ok (.getfield 58, 3) := by decide +kernel
theorem dX2_stepBehindPlus_60 : decode cX2_stepBehindPlus 60 = .ok (.invokevirtual 102, 3) := by decide +kernel
theorem dX2_stepBehindPlus_63 : decode cX2_stepBehindPlus 63 = .ok (.if_icmp .eq 5, 3) := by decide +kernel
theorem dX2_stepBehindPlus_66 : decode cX2_stepBehindPlus 66 = .ok (.iconst 2, 1) := by decide +kernel
theorem dX2_stepBehindPlus_67 : decode cX2_stepBehindPlus 67 = .ok (.ireturn, 1) := by decide +kernel
theorem dX2_stepBehindPlus_68 : decode cX2_stepBehindPlus 68 = .ok (.aload_n 0, 1) := by decide +kernel
theorem dX2_stepBehindPlus_69 : decode cX2_stepBehindPlus 69 = .ok (.dup, 1) := by decide +kernel
theorem dX2_stepBehindPlus_70 : decode cX2_stepBehindPlus 70 = .ok (.getfield 58, 3) := by decide +kernel
theorem dX2_stepBehindPlus_73 : decode cX2_stepBehindPlus 73 = .ok (.iconst 1, 1) := by decide +kernel
theorem dX2_stepBehindPlus_74 : decode cX2_stepBehindPlus 74 = .ok (.iadd, 1) := by decide +kernel
theorem dX2_stepBehindPlus_75 : decode cX2_stepBehindPlus 75 = .ok (.putfield 58, 3) := by decide +kernel
theorem dX2_stepBehindPlus_78 : decode cX2_stepBehindPlus 78 = .ok (.iconst 0, 1) := by decide +kernel
theorem dX2_stepBehindPlus_79 : decode cX2_stepBehindPlus 79 = .ok (.ireturn, 1) := by decide +kernel
theorem dX2_stepQualities_0 : decode cX2_stepQualities 0 = .ok (.aload_n 0, 1) := by decide +kernel
theorem dX2_stepQualities_1 : decode cX2_stepQualities 1 = .ok (.getfield 58, 3) := by decide +kernel
theorem dX2_stepQualities_4 : decode cX2_stepQualities 4 = .ok (.aload_n 0, 1) := by decide +kernel
theorem dX2_stepQualities_5 : decode cX2_stepQualities 5 = .ok (.getfield 12, 3) := by decide +kernel
theorem dX2_stepQualities_8 : decode cX2_stepQualities 8 = .ok (.aload_n 0, 1) := by decide +kernel
theorem dX2_stepQualities_9 : decode cX2_stepQualities 9 = .ok (.invokevirtual 61, 3) := by decide +kernel
theorem dX2_stepQualities_12 : decode cX2_stepQualities 12 = .ok (.invokevirtual 64, 3) := by decide +kernel
theorem dX2_stepQualities_15 : decode cX2_stepQualities 15 = .ok (.if_icmp .lt 19, 3) := by decide +kernel
theorem dX2_stepQualities_18 : decode cX2_stepQualities 18 = .ok (.iload_n 1, 1) := by decide +kernel
theorem dX2_stepQualities_19 : decode cX2_stepQualities 19 = .ok (.bipush 10, 2) := by decide +kernel
theorem dX2_stepQualities_21 : decode cX2_stepQualities 21 = .ok (.if_icmp .ne 11, 3) := by decide +kernel
theorem dX2_stepQualities_24 : decode cX2_stepQualities 24 = .ok (.aload_n 0, 1) := by decide +kernel
theorem dX2_stepQualities_25 : decode cX2_stepQualities 25 = .ok (.iconst 0, 1) := by decide +kernel
theorem dX2_stepQualities_26 : decode cX2_stepQualities 26 = .ok (.invokevirtual 26, 3) := by decide +kernel
theorem dX2_stepQualities_29 : decode cX2_stepQualities 29 = .ok (.goto 4, 3) := by decide +kernel
theorem dX2_stepQualities_32 : decode cX2_stepQualities 32 = .ok (.iconst 2, 1) := by decide +kernel
theorem dX2_stepQualities_33 : decode cX2_stepQualities 33 = .ok (.ireturn, 1) := by decide +kernel
theorem dX2_stepQualities_34 : decode cX2_stepQualities 34 = .ok (.iload_n 1, 1) := by decide +kernel
theorem dX2_stepQualities_35 : decode cX2_stepQualities 35 = .ok (.invokestatic 88, 3) := by decide +kernel
theorem dX2_stepQualities_38 : decode cX2_stepQualities 38 = .ok (.ifCond .ne 5, 3) := by decide +kernel
theorem dX2_stepQualities_41 : decode cX2_stepQualities 41 = .ok (.iconst 2, 1) := by decide +kernel
theorem dX2_stepQualities_42 : decode cX2_stepQualities 42 = .ok (.ireturn, 1) := by decide +kernel
theorem dX2_stepQualities_43 : decode cX2_stepQualities 43 = .ok (.aload_n 0, 1) := by decide +kernel
theorem dX2_stepQualities_44 : decode cX2_stepQualities 44 = .ok (.getfield 12, 3) := by decide +kernel
theorem dX2_stepQualities_47 : decode cX2_stepQualities 47 = .ok (.iload_n 1, 1) := by decide +kernel
theorem dX2_stepQualities_48 : decode cX2_stepQualities 48 = .ok (.invokevirtual 106, 3) := by decide +kernel
theorem dX2_stepQualities_51 : decode cX2_stepQualities 51 = .ok (.aload_n 0, 1) := by decide +kernel
theorem dX2_stepQualities_52 : decode cX2_stepQualities 52 = .ok (.dup, 1) := by decide +kernel
theorem dX2_stepQualities_53 : decode cX2_stepQualities 53 = .ok (.getfield 58, 3) := by decide +kernel
theorem dX2_stepQualities_56 : decode cX2_stepQualities 56 = .ok (.iconst 1, 1) := by decide +kernel
theorem dX2_stepQualities_57 : decode cX2_stepQualities 57 = .ok (.iadd, 1) := by decide +kernel
theorem dX2_stepQualities_58 : decode cX2_stepQualities 58 = .ok (.putfield 58, 3) := by decide +kernel
theorem dX2_stepQualities_61 : decode cX2_stepQualities 61 = .ok (.iconst 0, 1) := by decide +kernel
theorem dX2_stepQualities_62 : decode cX2_stepQualities 62 = .ok (.ireturn, 1) := by decide +kernel
theorem dX3_init_0 : decode cX3_init 0 = .ok (.aload_n 0, 1) := by decide +kernel
theorem dX3_init_1 : decode cX3_init 1 = .ok (.invokespecial 3, 3) := by decide +kernel
theorem dX3_init_4 : decode cX3_init 4 = .ok (.aload_n 0, 1) := by decide +kernel
theorem dX3_init_5 : decode cX3_init 5 = .ok (.new 9, 3) := by decide +kernel
theorem dX3_init_8 : decode cX3_init 8 = .ok (.dup, 1) := by decide +kernel
theorem dX3_init_9 : decode cX3_init 9 = .ok (.sipush 6000, 3) := by decide +kernel
theorem dX3_init_12 : decode cX3_init 12 = .ok (.invokespecial 11, 3) := by decide +kernel
theorem dX3_init_15 : decode cX3_init 15 = .ok (.putfield 14, 3) := by decide +kernel
theorem dX3_init_18 : decode cX3_init 18 = .ok (.aload_n 0, 1) := by decide +kernel
theorem dX3_init_19 : decode cX3_init 19 = .ok (.bipush 60, 2) := by decide +kernel
theorem dX3_init_21 : decode cX3_init 21 = .ok (.newarray .int, 2) := by decide +kernel
theorem dX3_init_23 : decode cX3_init 23 = .ok (.putfield 20, 3) := by decide +kernel
theorem dX3_init_26 : decode cX3_init 26 = .ok (.aload_n 0, 1) := by decide +kernel
theorem dX3_init_27 : decode cX3_init 27 = .ok (.bipush 60, 2) := by decide +kernel
theorem dX3_init_29 : decode cX3_init 29 = .ok (.newarray .int, 2) := by decide +kernel
theorem dX3_init_31 : decode cX3_init 31 = .ok (.putfield 24, 3) := by decide +kernel
theorem dX3_init_34 : decode cX3_init 34 = .ok (.aload_n 0, 1) := by decide +kernel
theorem dX3_init_35 : decode cX3_init 35 = .ok (.bipush 60, 2) := by decide +kernel
theorem dX3_init_37 : decode cX3_init 37 = .ok (.newarray .int, 2) := by decide +kernel
theorem dX3_init_39 : decode cX3_init 39 = .ok (.putfield 27, 3) := by decide +kernel
theorem dX3_init_42 : decode cX3_init 42 = .ok (.return_, 1) := by decide +kernel
theorem dX3_restart_0 : decode cX3_restart 0 = .ok (.aload_n 0, 1) := by decide +kernel
theorem dX3_restart_1 : decode cX3_restart 1 = .ok (.getfield 14, 3) := by decide +kernel
theorem dX3_restart_4 : decode cX3_restart 4 = .ok (.invokevirtual 30, 3) := by decide +kernel
theorem dX3_restart_7 : decode cX3_restart 7 = .ok (.aload_n 0, 1) := by decide +kernel
theorem dX3_restart_8 : decode cX3_restart 8 = .ok (.iconst 0, 1) := by decide +kernel
theorem dX3_restart_9 : decode cX3_restart 9 = .ok (.putfield 33, 3) := by decide +kernel
theorem dX3_restart_12 : decode cX3_restart 12 = .ok (.aload_n 0, 1) := by decide +kernel
theorem dX3_restart_13 : decode cX3_restart 13 = .ok (.iload_n 1, 1) := by decide +kernel
theorem dX3_restart_14 : decode cX3_restart 14 = .ok (.putfield 37, 3) := by decide +kernel
theorem dX3_restart_17 : decode cX3_restart 17 = .ok (.return_, 1) := by decide +kernel
theorem dX3_begin_0 : decode cX3_begin 0 = .ok (.aload_n 0, 1) := by decide +kernel
theorem dX3_begin_1 : decode cX3_begin 1 = .ok (.getfield 33, 3) := by decide +kernel
theorem dX3_begin_4 : decode cX3_begin 4 = .ok (.ifCond .lt 58, 3) := by decide +kernel
theorem dX3_begin_7 : decode cX3_begin 7 = .ok (.aload_n 0, 1) := by decide +kernel
theorem dX3_begin_8 : decode cX3_begin 8 = .ok (.getfield 33, 3) := by decide +kernel
theorem dX3_begin_11 : decode cX3_begin 11 = .ok (.bipush 60, 2) := by decide +kernel
theorem dX3_begin_13 : decode cX3_begin 13 = .ok (.if_icmp .ge 49, 3) := by decide +kernel
theorem dX3_begin_16 : decode cX3_begin 16 = .ok (.aload_n 0, 1) := by decide +kernel
theorem dX3_begin_17 : decode cX3_begin 17 = .ok (.getfield 20, 3) := by decide +kernel
theorem dX3_begin_20 : decode cX3_begin 20 = .ok (.aload_n 0, 1) := by decide +kernel
theorem dX3_begin_21 : decode cX3_begin 21 = .ok (.getfield 33, 3) := by decide +kernel
theorem dX3_begin_24 : decode cX3_begin 24 = .ok (.aload_n 0, 1) := by decide +kernel
theorem dX3_begin_25 : decode cX3_begin 25 = .ok (.getfield 14, 3) := by decide +kernel
theorem dX3_begin_28 : decode cX3_begin 28 = .ok (.invokevirtual 41, 3) := by decide +kernel
theorem dX3_begin_31 : decode cX3_begin 31 = .ok (.iastore, 1) := by decide +kernel
theorem dX3_begin_32 : decode cX3_begin 32 = .ok (.aload_n 0, 1) := by decide +kernel
theorem dX3_begin_33 : decode cX3_begin 33 = .ok (.getfield 24, 3) := by decide +kernel
theorem dX3_begin_36 : decode cX3_begin 36 = .ok (.aload_n 0, 1) := by decide +kernel
theorem dX3_begin_37 : decode cX3_begin 37 = .ok (.getfield 33, 3) := by decide +kernel
theorem dX3_begin_40 : decode cX3_begin 40 = .ok (.iconst 0, 1) := by decide +kernel
theorem dX3_begin_41 : decode cX3_begin 41 = .ok (.iastore, 1) := by decide +kernel
theorem dX3_begin_42 : decode cX3_begin 42 = .ok (.aload_n 0, 1) := by decide +kernel
theorem dX3_begin_43 : decode cX3_begin 43 = .ok (.getfield 27, 3) := by decide +kernel
theorem dX3_begin_46 : decode cX3_begin 46 = .ok (.aload_n 0, 1) := by decide +kernel
theorem dX3_begin_47 : decode cX3_begin 47 = .ok (.getfield 33, 3) := by decide +kernel
theorem dX3_begin_50 : decode cX3_begin 50 = .ok (.iconst 0, 1) := by decide +kernel
theorem dX3_begin_51 : decode cX3_begin 51 = .ok (.iastore, 1) := by decide +kernel
theorem dX3_begin_52 : decode cX3_begin 52 = .ok (.aload_n 0, 1) := by decide +kernel
theorem dX3_begin_53 : decode cX3_begin 53 = .ok (.dup, 1) := by decide +kernel
theorem dX3_begin_54 : decode cX3_begin 54 = .ok (.getfield 33, 3) := by decide +kernel
theorem dX3_begin_57 : decode cX3_begin 57 = .ok (.iconst 1, 1) := by decide +kernel
theorem dX3_begin_58 : decode cX3_begin 58 = .ok (.iadd, 1) := by decide +kernel
theorem dX3_begin_59 : decode cX3_begin 59 = .ok (.putfield 33, 3) := by decide +kernel
theorem dX3_begin_62 : decode cX3_begin 62 = .ok (.return_, 1) := by decide +kernel
theorem dX3_addToName_0 : decode cX3_addToName 0 = .ok (.aload_n 0, 1) := by decide +kernel
theorem dX3_addToName_1 : decode cX3_addToName 1 = .ok (.aload_n 0, 1) := by decide +kernel
theorem dX3_addToName_2 : decode cX3_addToName 2 = .ok (.getfield 33, 3) := by decide +kernel
theorem dX3_addToName_5 : decode cX3_addToName 5 = .ok (.iconst 1, 1) := by decide +kernel
theorem dX3_addToName_6 : decode cX3_addToName 6 = .ok (.isub, 1) := by decide +kernel
theorem dX3_addToName_7 : decode cX3_addToName 7 = .ok (.invokevirtual 45, 3) := by decide +kernel
theorem dX3_addToName_10 : decode cX3_addToName 10 = .ok (.ifCond .eq 26, 3) := by decide +kernel
theorem dX3_addToName_13 : decode cX3_addToName 13 = .ok (.aload_n 0, 1) := by decide +kernel
theorem dX3_addToName_14 : decode cX3_addToName 14 = .ok (.getfield 14, 3) := by decide +kernel
theorem dX3_addToName_17 : decode cX3_addToName 17 = .ok (.iload_n 1, 1) := by decide +kernel
theorem dX3_addToName_18 : decode cX3_addToName 18 = .ok (.invokevirtual 49, 3) := by decide +kernel
theorem dX3_addToName_21 : decode cX3_addToName 21 = .ok (.aload_n 0, 1) := by decide +kernel
theorem dX3_addToName_22 : decode cX3_addToName 22 = .ok (.getfield 24, 3) := by decide +kernel
theorem dX3_addToName_25 : decode cX3_addToName 25 = .ok (.aload_n 0, 1) := by decide +kernel
theorem dX3_addToName_26 : decode cX3_addToName 26 = .ok (.getfield 33, 3) := by decide +kernel
theorem dX3_addToName_29 : decode cX3_addToName 29 = .ok (.iconst 1, 1) := by decide +kernel
theorem dX3_addToName_30 : decode cX3_addToName 30 = .ok (.isub, 1) := by decide +kernel
theorem dX3_addToName_31 : decode cX3_addToName 31 = .ok (.dup2, 1) := by decide +kernel
theorem dX3_addToName_32 : decode cX3_addToName 32 = .ok (.iaload, 1) := by decide +kernel
theorem dX3_addToName_33 : decode cX3_addToName 33 = .ok (.iconst 1, 1) := by decide +kernel
theorem dX3_addToName_34 : decode cX3_addToName 34 = .ok (.iadd, 1) := by decide +kernel
theorem dX3_addToName_35 : decode cX3_addToName 35 = .ok (.iastore, 1) := by decide +kernel
theorem dX3_addToName_36 : decode cX3_addToName 36 = .ok (.return_, 1) := by decide +kernel
theorem dX3_addLetter_0 : decode cX3_addLetter 0 = .ok (.aload_n 0, 1) := by decide +kernel
theorem dX3_addLetter_1 : decode cX3_addLetter 1 = .ok (.aload_n 0, 1) := by decide +kernel
theorem dX3_addLetter_2 : decode cX3_addLetter 2 = .ok (.getfield 33, 3) := by decide +kernel
theorem dX3_addLetter_5 : decode cX3_addLetter 5 = .ok (.iconst 1, 1) := by decide +kernel
theorem dX3_addLetter_6 : decode cX3_addLetter 6 = .ok (.isub, 1) := by decide +kernel
theorem dX3_addLetter_7 : decode cX3_addLetter 7 = .ok (.invokevirtual 45, 3) := by decide +kernel
theorem dX3_addLetter_10 : decode cX3_addLetter 10 = .ok (.ifCond .eq 26, 3) := by decide +kernel
theorem dX3_addLetter_13 : decode cX3_addLetter 13 = .ok (.aload_n 0, 1) := by decide +kernel
theorem dX3_addLetter_14 : decode cX3_addLetter 14 = .ok (.getfield 14, 3) := by decide +kernel
theorem dX3_addLetter_17 : decode cX3_addLetter 17 = .ok (.iload_n 1, 1) := by decide +kernel
theorem dX3_addLetter_18 : decode cX3_addLetter 18 = .ok (.invokevirtual 49, 3) := by decide +kernel
theorem dX3_addLetter_21 : decode cX3_addLetter 21 = .ok (.aload_n 0, 1) := by decide +kernel
theorem dX3_addLetter_22 : decode cX3_addLetter 22 = .ok (.getfield 27, 3) := by decide +kernel
theorem dX3_addLetter_25 : decode cX3_addLetter 25 = .ok (.aload_n 0, 1) := by decide +kernel
theorem dX3_addLetter_26 : decode cX3_addLetter 26 = .ok (.getfield 33, 3) := by decide +kernel
theorem dX3_addLetter_29 : decode cX3_addLetter 29 = .ok (.iconst 1, 1) := by decide +kernel
theorem dX3_addLetter_30 : decode cX3_addLetter 30 = .ok (.isub, 1) := by decide +kernel
theorem dX3_addLetter_31 : decode cX3_addLetter 31 = .ok (.dup2, 1) := by decide +kernel
theorem dX3_addLetter_32 : decode cX3_addLetter 32 = .ok (.iaload, 1) := by decide +kernel
theorem dX3_addLetter_33 : decode cX3_addLetter 33 = .ok (.iconst 1, 1) := by decide +kernel
theorem dX3_addLetter_34 : decode cX3_addLetter 34 = .ok (.iadd, 1) := by decide +kernel
theorem dX3_addLetter_35 : decode cX3_addLetter 35 = .ok (.iastore, 1) := by decide +kernel
theorem dX3_addLetter_36 : decode cX3_addLetter 36 = .ok (.return_, 1) := by decide +kernel
theorem dX3_addQuality_0 : decode cX3_addQuality 0 = .ok (.aload_n 0, 1) := by decide +kernel
theorem dX3_addQuality_1 : decode cX3_addQuality 1 = .ok (.getfield 14, 3) := by decide +kernel
theorem dX3_addQuality_4 : decode cX3_addQuality 4 = .ok (.iload_n 1, 1) := by decide +kernel
theorem dX3_addQuality_5 : decode cX3_addQuality 5 = .ok (.invokevirtual 49, 3) := by decide +kernel
theorem dX3_addQuality_8 : decode cX3_addQuality 8 = .ok (.return_, 1) := by decide +kernel
theorem dX3_count_0 : decode cX3_count 0 = .ok (.aload_n 0, 1) := by decide +kernel
theorem dX3_count_1 : decode cX3_count 1 = .ok (.getfield 33, 3) := by decide +kernel
theorem dX3_count_4 : decode cX3_count 4 = .ok (.ireturn, 1) := by decide +kernel
theorem dX3_has_0 : decode cX3_has 0 = .ok (.iload_n 1, 1) := by decide +kernel
theorem dX3_has_1 : decode cX3_has 1 = .ok (.ifCond .lt 21, 3) := by decide +kernel
theorem dX3_has_4 : decode cX3_has 4 = .ok (.iload_n 1, 1) := by decide +kernel
theorem dX3_has_5 : decode cX3_has 5 = .ok (.aload_n 0, 1) := by decide +kernel
theorem dX3_has_6 : decode cX3_has 6 = .ok (.getfield 33, 3) := by decide +kernel
theorem dX3_has_9 : decode cX3_has 9 = .ok (.if_icmp .ge 13, 3) := by decide +kernel
theorem dX3_has_12 : decode cX3_has 12 = .ok (.iload_n 1, 1) := by decide +kernel
theorem dX3_has_13 : decode cX3_has 13 = .ok (.bipush 60, 2) := by decide +kernel
theorem dX3_has_15 : decode cX3_has 15 = .ok (.if_icmp .ge 7, 3) := by decide +kernel
theorem dX3_has_18 : decode cX3_has 18 = .ok (.iconst 1, 1) := by decide +kernel
theorem dX3_has_19 : decode cX3_has 19 = .ok (.goto 4, 3) := by decide +kernel
theorem dX3_has_22 : decode cX3_has 22 = .ok (.iconst 0, 1) := by decide +kernel
theorem dX3_has_23 : decode cX3_has 23 = .ok (.ireturn, 1) := by decide +kernel
theorem dX3_nameSize_0 : decode cX3_nameSize 0 = .ok (.aload_n 0, 1) := by decide +kernel
theorem dX3_nameSize_1 : decode cX3_nameSize 1 = .ok (.iload_n 1, 1) := by decide +kernel
theorem dX3_nameSize_2 : decode cX3_nameSize 2 = .ok (.invokevirtual 45, 3) := by decide +kernel
theorem dX3_nameSize_5 : decode cX3_nameSize 5 = .ok (.ifCond .eq 12, 3) := by decide +kernel
theorem dX3_nameSize_8 : decode cX3_nameSize 8 = .ok (.aload_n 0, 1) := by decide +kernel
theorem dX3_nameSize_9 : decode cX3_nameSize 9 = .ok (.getfield 24, 3) := by decide +kernel
theorem dX3_nameSize_12 : decode cX3_nameSize 12 = .ok (.iload_n 1, 1) := by decide +kernel
theorem dX3_nameSize_13 : decode cX3_nameSize 13 = .ok (.iaload, 1) := by decide +kernel
theorem dX3_nameSize_14 : decode cX3_nameSize 14 = .ok (.goto 4, 3) := by decide +kernel
theorem dX3_nameSize_17 : decode cX3_nameSize 17 = .ok (.iconst 0, 1) := by decide +kernel
theorem dX3_nameSize_18 : decode cX3_nameSize 18 = .ok (.ireturn, 1) := by decide +kernel
theorem dX3_letterCount_0 : decode cX3_letterCount 0 = .ok (.aload_n 0, 1) := by decide +kernel
theorem dX3_letterCount_1 : decode cX3_letterCount 1 = .ok (.iload_n 1, 1) := by decide +kernel
theorem dX3_letterCount_2 : decode cX3_letterCount 2 = .ok (.invokevirtual 45, 3) := by decide +kernel
theorem dX3_letterCount_5 : decode cX3_letterCount 5 = .ok (.ifCond .eq 12, 3) := by decide +kernel
theorem dX3_letterCount_8 : decode cX3_letterCount 8 = .ok (.aload_n 0, 1) := by decide +kernel
theorem dX3_letterCount_9 : decode cX3_letterCount 9 = .ok (.getfield 27, 3) := by decide +kernel
theorem dX3_letterCount_12 : decode cX3_letterCount 12 = .ok (.iload_n 1, 1) := by decide +kernel
theorem dX3_letterCount_13 : decode cX3_letterCount 13 = .ok (.iaload, 1) := by decide +kernel
theorem dX3_letterCount_14 : decode cX3_letterCount 14 = .ok (.goto 4, 3) := by decide +kernel
theorem dX3_letterCount_17 : decode cX3_letterCount 17 = .ok (.iconst 0, 1) := by decide +kernel
theorem dX3_letterCount_18 : decode cX3_letterCount 18 = .ok (.ireturn, 1) := by decide +kernel
theorem dX3_nameOctet_0 : decode cX3_nameOctet 0 = .ok (.aload_n 0, 1) := by decide +kernel
theorem dX3_nameOctet_1 : decode cX3_nameOctet 1 = .ok (.iload_n 1, 1) := by decide +kernel
theorem dX3_nameOctet_2 : decode cX3_nameOctet 2 = .ok (.invokevirtual 45, 3) := by decide +kernel
theorem dX3_nameOctet_5 : decode cX3_nameOctet 5 = .ok (.ifCond .eq 35, 3) := by decide +kernel
theorem dX3_nameOctet_8 : decode cX3_nameOctet 8 = .ok (.iload_n 2, 1) := by decide +kernel
theorem dX3_nameOctet_9 : decode cX3_nameOctet 9 = .ok (.ifCond .lt 31, 3) := by decide +kernel
theorem dX3_nameOctet_12 : decode cX3_nameOctet 12 = .ok (.iload_n 2, 1) := by decide +kernel
theorem dX3_nameOctet_13 : decode cX3_nameOctet 13 = .ok (.aload_n 0, 1) := by decide +kernel
theorem dX3_nameOctet_14 : decode cX3_nameOctet 14 = .ok (.getfield 24, 3) := by decide +kernel
theorem dX3_nameOctet_17 : decode cX3_nameOctet 17 = .ok (.iload_n 1, 1) := by decide +kernel
theorem dX3_nameOctet_18 : decode cX3_nameOctet 18 = .ok (.iaload, 1) := by decide +kernel
theorem dX3_nameOctet_19 : decode cX3_nameOctet 19 = .ok (.if_icmp .ge 21, 3) := by decide +kernel
theorem dX3_nameOctet_22 : decode cX3_nameOctet 22 = .ok (.aload_n 0, 1) := by decide +kernel
theorem dX3_nameOctet_23 : decode cX3_nameOctet 23 = .ok (.getfield 14, 3) := by decide +kernel
theorem dX3_nameOctet_26 : decode cX3_nameOctet 26 = .ok (.aload_n 0, 1) := by decide +kernel
theorem dX3_nameOctet_27 : decode cX3_nameOctet 27 = .ok (.getfield 20, 3) := by decide +kernel
theorem dX3_nameOctet_30 : decode cX3_nameOctet 30 = .ok (.iload_n 1, 1) := by decide +kernel
theorem dX3_nameOctet_31 : decode cX3_nameOctet 31 = .ok (.iaload, 1) := by decide +kernel
theorem dX3_nameOctet_32 : decode cX3_nameOctet 32 = .ok (.iload_n 2, 1) := by decide +kernel
theorem dX3_nameOctet_33 : decode cX3_nameOctet 33 = .ok (.iadd, 1) := by decide +kernel
theorem dX3_nameOctet_34 : decode cX3_nameOctet 34 = .ok (.invokevirtual 52, 3) := by decide +kernel
theorem dX3_nameOctet_37 : decode cX3_nameOctet 37 = .ok (.goto 4, 3) := by decide +kernel
theorem dX3_nameOctet_40 : decode cX3_nameOctet 40 = .ok (.iconst (-1), 1) := by decide +kernel
theorem dX3_nameOctet_41 : decode cX3_nameOctet 41 = .ok (.ireturn, 1) := by decide +kernel
theorem dX3_letterOctet_0 : decode cX3_letterOctet 0 = .ok (.aload_n 0, 1) := by decide +kernel
theorem dX3_letterOctet_1 : decode cX3_letterOctet 1 = .ok (.iload_n 1, 1) := by decide +kernel
theorem dX3_letterOctet_2 : decode cX3_letterOctet 2 = .ok (.iload_n 2, 1) := by decide +kernel
theorem dX3_letterOctet_3 : decode cX3_letterOctet 3 = .ok (.invokevirtual 56, 3) := by decide +kernel
theorem dX3_letterOctet_6 : decode cX3_letterOctet 6 = .ok (.ifCond .eq 28, 3) := by decide +kernel
theorem dX3_letterOctet_9 : decode cX3_letterOctet 9 = .ok (.aload_n 0, 1) := by decide +kernel
theorem dX3_letterOctet_10 : decode cX3_letterOctet 10 = .ok (.getfield 14, 3) := by decide +kernel
theorem dX3_letterOctet_13 : decode cX3_letterOctet 13 = .ok (.aload_n 0, 1) := by decide +kernel
theorem dX3_letterOctet_14 : decode cX3_letterOctet 14 = .ok (.getfield 20, 3) := by decide +kernel
theorem dX3_letterOctet_17 : decode cX3_letterOctet 17 = .ok (.iload_n 1, 1) := by decide +kernel
theorem dX3_letterOctet_18 : decode cX3_letterOctet 18 = .ok (.iaload, 1) := by decide +kernel
theorem dX3_letterOctet_19 : decode cX3_letterOctet 19 = .ok (.aload_n 0, 1) := by decide +kernel
theorem dX3_letterOctet_20 : decode cX3_letterOctet 20 = .ok (.getfield 24, 3) := by decide +kernel
theorem dX3_letterOctet_23 : decode cX3_letterOctet 23 = .ok (.iload_n 1, 1) := by decide +kernel
theorem dX3_letterOctet_24 : decode cX3_letterOctet 24 = .ok (.iaload, 1) := by decide +kernel
theorem dX3_letterOctet_25 : decode cX3_letterOctet 25 = .ok (.iadd, 1) := by decide +kernel
theorem dX3_letterOctet_26 : decode cX3_letterOctet 26 = .ok (.iload_n 2, 1) := by decide +kernel
theorem dX3_letterOctet_27 : decode cX3_letterOctet 27 = .ok (.iadd, 1) := by decide +kernel
theorem dX3_letterOctet_28 : decode cX3_letterOctet 28 = .ok (.invokevirtual 52, 3) := by decide +kernel
theorem dX3_letterOctet_31 : decode cX3_letterOctet 31 = .ok (.goto 4, 3) := by decide +kernel
theorem dX3_letterOctet_34 : decode cX3_letterOctet 34 = .ok (.iconst (-1), 1) := by decide +kernel
theorem dX3_letterOctet_35 : decode cX3_letterOctet 35 = .ok (.ireturn, 1) := by decide +kernel
theorem dX3_quality_0 : decode cX3_quality 0 = .ok (.aload_n 0, 1) := by decide +kernel
theorem dX3_quality_1 : decode cX3_quality 1 = .ok (.iload_n 1, 1) := by decide +kernel
theorem dX3_quality_2 : decode cX3_quality 2 = .ok (.iload_n 2, 1) := by decide +kernel
theorem dX3_quality_3 : decode cX3_quality 3 = .ok (.invokevirtual 56, 3) := by decide +kernel
theorem dX3_quality_6 : decode cX3_quality 6 = .ok (.ifCond .ne 5, 3) := by decide +kernel
theorem dX3_quality_9 : decode cX3_quality 9 = .ok (.iconst (-1), 1) := by decide +kernel
theorem dX3_quality_10 : decode cX3_quality 10 = .ok (.ireturn, 1) := by decide +kernel
theorem dX3_quality_11 : decode cX3_quality 11 = .ok (.aload_n 0, 1) := by decide +kernel
theorem dX3_quality_12 : decode cX3_quality 12 = .ok (.getfield 37, 3) := by decide +kernel
theorem dX3_quality_15 : decode cX3_quality 15 = .ok (.ifCond .ne 6, 3) := by decide +kernel
theorem dX3_quality_18 : decode cX3_quality 18 = .ok (.bipush 40, 2) := by decide +kernel
theorem dX3_quality_20 : decode cX3_quality 20 = .ok (.ireturn, 1) := by decide +kernel
theorem dX3_quality_21 : decode cX3_quality 21 = .ok (.aload_n 0, 1) := by decide +kernel
theorem dX3_quality_22 : decode cX3_quality 22 = .ok (.getfield 14, 3) := by decide +kernel
theorem dX3_quality_25 : decode cX3_quality 25 = .ok (.aload_n 0, 1) := by decide +kernel
theorem dX3_quality_26 : decode cX3_quality 26 = .ok (.getfield 20, 3) := by decide +kernel
theorem dX3_quality_29 : decode cX3_quality 29 = .ok (.iload_n 1, 1) := by decide +kernel
theorem dX3_quality_30 : decode cX3_quality 30 = .ok (.iaload, 1) := by decide +kernel
theorem dX3_quality_31 : decode cX3_quality 31 = .ok (.aload_n 0, 1) := by decide +kernel
theorem dX3_quality_32 : decode cX3_quality 32 = .ok (.getfield 24, 3) := by decide +kernel
theorem dX3_quality_35 : decode cX3_quality 35 = .ok (.iload_n 1, 1) := by decide +kernel
theorem dX3_quality_36 : decode cX3_quality 36 = .ok (.iaload, 1) := by decide +kernel
theorem dX3_quality_37 : decode cX3_quality 37 = .ok (.iadd, 1) := by decide +kernel
theorem dX3_quality_38 : decode cX3_quality 38 = .ok (.aload_n 0, 1) := by decide +kernel
theorem dX3_quality_39 : decode cX3_quality 39 = .ok (.getfield 27, 3) := by decide +kernel
theorem dX3_quality_42 : decode cX3_quality 42 = .ok (.iload_n 1, 1) := by decide +kernel
theorem dX3_quality_43 : decode cX3_quality 43 = .ok (.iaload, 1) := by decide +kernel
theorem dX3_quality_44 : decode cX3_quality 44 = .ok (.iadd, 1) := by decide +kernel
theorem dX3_quality_45 : decode cX3_quality 45 = .ok (.iload_n 2, 1) := by decide +kernel
theorem dX3_quality_46 : decode cX3_quality 46 = .ok (.iadd, 1) := by decide +kernel
theorem dX3_quality_47 : decode cX3_quality 47 = .ok (.invokevirtual 52, 3) := by decide +kernel
theorem dX3_quality_50 : decode cX3_quality 50 = .ok (.bipush 33, 2) := by decide +kernel
theorem dX3_quality_52 : decode cX3_quality 52 = .ok (.isub, 1) := by decide +kernel
theorem dX3_quality_53 : decode cX3_quality 53 = .ok (.ireturn, 1) := by decide +kernel
theorem dX3_hasLetter_0 : decode cX3_hasLetter 0 = .ok (.iload_n 1, 1) := by decide +kernel
theorem dX3_hasLetter_1 : decode cX3_hasLetter 1 = .ok (.ifCond .lt 35, 3) := by decide +kernel
theorem dX3_hasLetter_4 : decode cX3_hasLetter 4 = .ok (.iload_n 1, 1) := by decide +kernel
theorem dX3_hasLetter_5 : decode cX3_hasLetter 5 = .ok (.aload_n 0, 1) := by decide +kernel
theorem dX3_hasLetter_6 : decode cX3_hasLetter 6 = .ok (.getfield 33, 3) := by decide +kernel
theorem dX3_hasLetter_9 : decode cX3_hasLetter 9 = .ok (.if_icmp .ge 27, 3) := by decide +kernel
theorem dX3_hasLetter_12 : decode cX3_hasLetter 12 = .ok (.iload_n 1, 1) := by decide +kernel
theorem dX3_hasLetter_13 : decode cX3_hasLetter 13 = .ok (.bipush 60, 2) := by decide +kernel
theorem dX3_hasLetter_15 : decode cX3_hasLetter 15 = .ok (.if_icmp .ge 21, 3) := by decide +kernel
theorem dX3_hasLetter_18 : decode cX3_hasLetter 18 = .ok (.iload_n 2, 1) := by decide +kernel
theorem dX3_hasLetter_19 : decode cX3_hasLetter 19 = .ok (.ifCond .lt 17, 3) := by decide +kernel
theorem dX3_hasLetter_22 : decode cX3_hasLetter 22 = .ok (.iload_n 2, 1) := by decide +kernel
theorem dX3_hasLetter_23 : decode cX3_hasLetter 23 = .ok (.aload_n 0, 1) := by decide +kernel
theorem dX3_hasLetter_24 : decode cX3_hasLetter 24 = .ok (.getfield 27, 3) := by decide +kernel
theorem dX3_hasLetter_27 : decode cX3_hasLetter 27 = .ok (.iload_n 1, 1) := by decide +kernel
theorem dX3_hasLetter_28 : decode cX3_hasLetter 28 = .ok (.iaload, 1) := by decide +kernel
theorem dX3_hasLetter_29 : decode cX3_hasLetter 29 = .ok (.if_icmp .ge 7, 3) := by decide +kernel
theorem dX3_hasLetter_32 : decode cX3_hasLetter 32 = .ok (.iconst 1, 1) := by decide +kernel
theorem dX3_hasLetter_33 : decode cX3_hasLetter 33 = .ok (.goto 4, 3) := by decide +kernel
theorem dX3_hasLetter_36 : decode cX3_hasLetter 36 = .ok (.iconst 0, 1) := by decide +kernel
theorem dX3_hasLetter_37 : decode cX3_hasLetter 37 = .ok (.ireturn, 1) := by decide +kernel
theorem dX4_init_0 : decode cX4_init 0 = .ok (.aload_n 0, 1) := by decide +kernel
theorem dX4_init_1 : decode cX4_init 1 = .ok (.invokespecial 3, 3) := by decide +kernel
theorem dX4_init_4 : decode cX4_init 4 = .ok (.aload_n 0, 1) := by decide +kernel
theorem dX4_init_5 : decode cX4_init 5 = .ok (.iload_n 1, 1) := by decide +kernel
theorem dX4_init_6 : decode cX4_init 6 = .ok (.iconst 0, 1) := by decide +kernel
theorem dX4_init_7 : decode cX4_init 7 = .ok (.invokestatic 9, 3) := by decide +kernel
theorem dX4_init_10 : decode cX4_init 10 = .ok (.newarray .int, 2) := by decide +kernel
theorem dX4_init_12 : decode cX4_init 12 = .ok (.putfield 15, 3) := by decide +kernel
theorem dX4_init_15 : decode cX4_init 15 = .ok (.return_, 1) := by decide +kernel
theorem dX4_size_0 : decode cX4_size 0 = .ok (.aload_n 0, 1) := by decide +kernel
theorem dX4_size_1 : decode cX4_size 1 = .ok (.getfield 21, 3) := by decide +kernel
theorem dX4_size_4 : decode cX4_size 4 = .ok (.ireturn, 1) := by decide +kernel
theorem dX4_room_0 : decode cX4_room 0 = .ok (.aload_n 0, 1) := by decide +kernel
theorem dX4_room_1 : decode cX4_room 1 = .ok (.getfield 15, 3) := by decide +kernel
theorem dX4_room_4 : decode cX4_room 4 = .ok (.arraylength, 1) := by decide +kernel
theorem dX4_room_5 : decode cX4_room 5 = .ok (.aload_n 0, 1) := by decide +kernel
theorem dX4_room_6 : decode cX4_room 6 = .ok (.getfield 21, 3) := by decide +kernel
theorem dX4_room_9 : decode cX4_room 9 = .ok (.isub, 1) := by decide +kernel
theorem dX4_room_10 : decode cX4_room 10 = .ok (.ireturn, 1) := by decide +kernel
theorem dX4_at_0 : decode cX4_at 0 = .ok (.iload_n 1, 1) := by decide +kernel
theorem dX4_at_1 : decode cX4_at 1 = .ok (.ifCond .lt 29, 3) := by decide +kernel
theorem dX4_at_4 : decode cX4_at 4 = .ok (.iload_n 1, 1) := by decide +kernel
theorem dX4_at_5 : decode cX4_at 5 = .ok (.aload_n 0, 1) := by decide +kernel
theorem dX4_at_6 : decode cX4_at 6 = .ok (.getfield 21, 3) := by decide +kernel
theorem dX4_at_9 : decode cX4_at 9 = .ok (.if_icmp .ge 21, 3) := by decide +kernel
theorem dX4_at_12 : decode cX4_at 12 = .ok (.iload_n 1, 1) := by decide +kernel
theorem dX4_at_13 : decode cX4_at 13 = .ok (.aload_n 0, 1) := by decide +kernel
theorem dX4_at_14 : decode cX4_at 14 = .ok (.getfield 15, 3) := by decide +kernel
theorem dX4_at_17 : decode cX4_at 17 = .ok (.arraylength, 1) := by decide +kernel
theorem dX4_at_18 : decode cX4_at 18 = .ok (.if_icmp .ge 12, 3) := by decide +kernel
theorem dX4_at_21 : decode cX4_at 21 = .ok (.aload_n 0, 1) := by decide +kernel
theorem dX4_at_22 : decode cX4_at 22 = .ok (.getfield 15, 3) := by decide +kernel
theorem dX4_at_25 : decode cX4_at 25 = .ok (.iload_n 1, 1) := by decide +kernel
theorem dX4_at_26 : decode cX4_at 26 = .ok (.iaload, 1) := by decide +kernel
theorem dX4_at_27 : decode cX4_at 27 = .ok (.goto 4, 3) := by decide +kernel
theorem dX4_at_30 : decode cX4_at 30 = .ok (.iconst (-1), 1) := by decide +kernel
theorem dX4_at_31 : decode cX4_at 31 = .ok (.ireturn, 1) := by decide +kernel
theorem dX4_add_0 : decode cX4_add 0 = .ok (.aload_n 0, 1) := by decide +kernel
theorem dX4_add_1 : decode cX4_add 1 = .ok (.getfield 21, 3) := by decide +kernel
theorem dX4_add_4 : decode cX4_add 4 = .ok (.ifCond .lt 35, 3) := by decide +kernel
theorem dX4_add_7 : decode cX4_add 7 = .ok (.aload_n 0, 1) := by decide +kernel
theorem dX4_add_8 : decode cX4_add 8 = .ok (.getfield 21, 3) := by decide +kernel
theorem dX4_add_11 : decode cX4_add 11 = .ok (.aload_n 0, 1) := by decide +kernel
theorem dX4_add_12 : decode cX4_add 12 = .ok (.getfield 15, 3) := by decide +kernel
theorem dX4_add_15 : decode cX4_add 15 = .ok (.arraylength, 1) := by decide +kernel
theorem dX4_add_16 : decode cX4_add 16 = .ok (.if_icmp .ge 23, 3) := by decide +kernel
theorem dX4_add_19 : decode cX4_add 19 = .ok (.aload_n 0, 1) := by decide +kernel
theorem dX4_add_20 : decode cX4_add 20 = .ok (.getfield 15, 3) := by decide +kernel
theorem dX4_add_23 : decode cX4_add 23 = .ok (.aload_n 0, 1) := by decide +kernel
theorem dX4_add_24 : decode cX4_add 24 = .ok (.getfield 21, 3) := by decide +kernel
theorem dX4_add_27 : decode cX4_add 27 = .ok (.iload_n 1, 1) := by decide +kernel
theorem dX4_add_28 : decode cX4_add 28 = .ok (.iastore, 1) := by decide +kernel
theorem dX4_add_29 : decode cX4_add 29 = .ok (.aload_n 0, 1) := by decide +kernel
theorem dX4_add_30 : decode cX4_add 30 = .ok (.dup, 1) := by decide +kernel
theorem dX4_add_31 : decode cX4_add 31 = .ok (.getfield 21, 3) := by decide +kernel
theorem dX4_add_34 : decode cX4_add 34 = .ok (.iconst 1, 1) := by decide +kernel
theorem dX4_add_35 : decode cX4_add 35 = .ok (.iadd, 1) := by decide +kernel
theorem dX4_add_36 : decode cX4_add 36 = .ok (.putfield 21, 3) := by decide +kernel
theorem dX4_add_39 : decode cX4_add 39 = .ok (.return_, 1) := by decide +kernel
theorem dX4_clear_0 : decode cX4_clear 0 = .ok (.aload_n 0, 1) := by decide +kernel
theorem dX4_clear_1 : decode cX4_clear 1 = .ok (.iconst 0, 1) := by decide +kernel
theorem dX4_clear_2 : decode cX4_clear 2 = .ok (.putfield 21, 3) := by decide +kernel
theorem dX4_clear_5 : decode cX4_clear 5 = .ok (.return_, 1) := by decide +kernel
theorem dX4_copy_0 : decode cX4_copy 0 = .ok (.aload_n 0, 1) := by decide +kernel
theorem dX4_copy_1 : decode cX4_copy 1 = .ok (.invokevirtual 25, 3) := by decide +kernel
theorem dX4_copy_4 : decode cX4_copy 4 = .ok (.iconst 0, 1) := by decide +kernel
theorem dX4_copy_5 : decode cX4_copy 5 = .ok (.istore_n 2, 1) := by decide +kernel
theorem dX4_copy_6 : decode cX4_copy 6 = .ok (.iload_n 2, 1) := by decide +kernel
theorem dX4_copy_7 : decode cX4_copy 7 = .ok (.aload_n 1, 1) := by decide +kernel
theorem dX4_copy_8 : decode cX4_copy 8 = .ok (.invokevirtual 28, 3) := by decide +kernel
theorem dX4_copy_11 : decode cX4_copy 11 = .ok (.if_icmp .ge 18, 3) := by decide +kernel
theorem dX4_copy_14 : decode cX4_copy 14 = .ok (.aload_n 0, 1) := by decide +kernel
theorem dX4_copy_15 : decode cX4_copy 15 = .ok (.aload_n 1, 1) := by decide +kernel
theorem dX4_copy_16 : decode cX4_copy 16 = .ok (.iload_n 2, 1) := by decide +kernel
theorem dX4_copy_17 : decode cX4_copy 17 = .ok (.invokevirtual 31, 3) := by decide +kernel
theorem dX4_copy_20 : decode cX4_copy 20 = .ok (.invokevirtual 35, 3) := by decide +kernel
theorem dX4_copy_23 : decode cX4_copy 23 = .ok (.iinc 2 1, 3) := by decide +kernel
theorem dX4_copy_26 : decode cX4_copy 26 = .ok (.goto (-20), 3) := by decide +kernel
theorem dX4_copy_29 : decode cX4_copy 29 = .ok (.return_, 1) := by decide +kernel
theorem dX4_isOfBases_0 : decode cX4_isOfBases 0 = .ok (.aload_n 0, 1) := by decide +kernel
theorem dX4_isOfBases_1 : decode cX4_isOfBases 1 = .ok (.getfield 21, 3) := by decide +kernel
theorem dX4_isOfBases_4 : decode cX4_isOfBases 4 = .ok (.iload_n 1, 1) := by decide +kernel
theorem dX4_isOfBases_5 : decode cX4_isOfBases 5 = .ok (.if_icmp .lt 11, 3) := by decide +kernel
theorem dX4_isOfBases_8 : decode cX4_isOfBases 8 = .ok (.aload_n 0, 1) := by decide +kernel
theorem dX4_isOfBases_9 : decode cX4_isOfBases 9 = .ok (.getfield 21, 3) := by decide +kernel
theorem dX4_isOfBases_12 : decode cX4_isOfBases 12 = .ok (.iload_n 2, 1) := by decide +kernel
theorem dX4_isOfBases_13 : decode cX4_isOfBases 13 = .ok (.if_icmp .le 5, 3) := by decide +kernel
theorem dX4_isOfBases_16 : decode cX4_isOfBases 16 = .ok (.iconst 0, 1) := by decide +kernel
theorem dX4_isOfBases_17 : decode cX4_isOfBases 17 = .ok (.ireturn, 1) := by decide +kernel
theorem dX4_isOfBases_18 : decode cX4_isOfBases 18 = .ok (.iconst 0, 1) := by decide +kernel
theorem dX4_isOfBases_19 : decode cX4_isOfBases 19 = .ok (.istore_n 3, 1) := by decide +kernel
theorem dX4_isOfBases_20 : decode cX4_isOfBases 20 = .ok (.iload_n 3, 1) := by decide +kernel
theorem dX4_isOfBases_21 : decode cX4_isOfBases 21 = .ok (.aload_n 0, 1) := by decide +kernel
theorem dX4_isOfBases_22 : decode cX4_isOfBases 22 = .ok (.getfield 21, 3) := by decide +kernel
theorem dX4_isOfBases_25 : decode cX4_isOfBases 25 = .ok (.if_icmp .ge 22, 3) := by decide +kernel
theorem dX4_isOfBases_28 : decode cX4_isOfBases 28 = .ok (.aload_n 0, 1) := by decide +kernel
theorem dX4_isOfBases_29 : decode cX4_isOfBases 29 = .ok (.iload_n 3, 1) := by decide +kernel
theorem dX4_isOfBases_30 : decode cX4_isOfBases 30 = .ok (.invokevirtual 31, 3) := by decide +kernel
theorem dX4_isOfBases_33 : decode cX4_isOfBases 33 = .ok (.invokestatic 39, 3) := by decide +kernel
theorem dX4_isOfBases_36 : decode cX4_isOfBases 36 = .ok (.ifCond .ne 5, 3) := by decide +kernel
theorem dX4_isOfBases_39 : decode cX4_isOfBases 39 = .ok (.iconst 0, 1) := by decide +kernel
theorem dX4_isOfBases_40 : decode cX4_isOfBases 40 = .ok (.ireturn, 1) := by decide +kernel
theorem dX4_isOfBases_41 : decode cX4_isOfBases 41 = .ok (.iinc 3 1, 3) := by decide +kernel
theorem dX4_isOfBases_44 : decode cX4_isOfBases 44 = .ok (.goto (-24), 3) := by decide +kernel
theorem dX4_isOfBases_47 : decode cX4_isOfBases 47 = .ok (.iconst 1, 1) := by decide +kernel
theorem dX4_isOfBases_48 : decode cX4_isOfBases 48 = .ok (.ireturn, 1) := by decide +kernel
theorem dX5_init_0 : decode cX5_init 0 = .ok (.aload_n 0, 1) := by decide +kernel
theorem dX5_init_1 : decode cX5_init 1 = .ok (.invokespecial 3, 3) := by decide +kernel
theorem dX5_init_4 : decode cX5_init 4 = .ok (.aload_n 0, 1) := by decide +kernel
theorem dX5_init_5 : decode cX5_init 5 = .ok (.bipush 60, 2) := by decide +kernel
theorem dX5_init_7 : decode cX5_init 7 = .ok (.newarray .int, 2) := by decide +kernel
theorem dX5_init_9 : decode cX5_init 9 = .ok (.putfield 9, 3) := by decide +kernel
theorem dX5_init_12 : decode cX5_init 12 = .ok (.aload_n 0, 1) := by decide +kernel
theorem dX5_init_13 : decode cX5_init 13 = .ok (.bipush 60, 2) := by decide +kernel
theorem dX5_init_15 : decode cX5_init 15 = .ok (.newarray .int, 2) := by decide +kernel
theorem dX5_init_17 : decode cX5_init 17 = .ok (.putfield 15, 3) := by decide +kernel
theorem dX5_init_20 : decode cX5_init 20 = .ok (.aload_n 0, 1) := by decide +kernel
theorem dX5_init_21 : decode cX5_init 21 = .ok (.bipush 60, 2) := by decide +kernel
theorem dX5_init_23 : decode cX5_init 23 = .ok (.newarray .int, 2) := by decide +kernel
theorem dX5_init_25 : decode cX5_init 25 = .ok (.putfield 18, 3) := by decide +kernel
theorem dX5_init_28 : decode cX5_init 28 = .ok (.aload_n 0, 1) := by decide +kernel
theorem dX5_init_29 : decode cX5_init 29 = .ok (.bipush 60, 2) := by decide +kernel
theorem dX5_init_31 : decode cX5_init 31 = .ok (.newarray .int, 2) := by decide +kernel
theorem dX5_init_33 : decode cX5_init 33 = .ok (.putfield 21, 3) := by decide +kernel
theorem dX5_init_36 : decode cX5_init 36 = .ok (.aload_n 0, 1) := by decide +kernel
theorem dX5_init_37 : decode cX5_init 37 = .ok (.bipush 60, 2) := by decide +kernel
theorem dX5_init_39 : decode cX5_init 39 = .ok (.newarray .boolean, 2) := by decide +kernel
theorem dX5_init_41 : decode cX5_init 41 = .ok (.putfield 24, 3) := by decide +kernel
theorem dX5_init_44 : decode cX5_init 44 = .ok (.aload_n 0, 1) := by decide +kernel
theorem dX5_init_45 : decode cX5_init 45 = .ok (.new 28, 3) := by decide +kernel
theorem dX5_init_48 : decode cX5_init 48 = .ok (.dup, 1) := by decide +kernel
theorem dX5_init_49 : decode cX5_init 49 = .ok (.invokespecial 30, 3) := by decide +kernel
theorem dX5_init_52 : decode cX5_init 52 = .ok (.putfield 31, 3) := by decide +kernel
theorem dX5_init_55 : decode cX5_init 55 = .ok (.return_, 1) := by decide +kernel
theorem dX5_forget_0 : decode cX5_forget 0 = .ok (.aload_n 0, 1) := by decide +kernel
theorem dX5_forget_1 : decode cX5_forget 1 = .ok (.iconst 0, 1) := by decide +kernel
theorem dX5_forget_2 : decode cX5_forget 2 = .ok (.putfield 35, 3) := by decide +kernel
theorem dX5_forget_5 : decode cX5_forget 5 = .ok (.return_, 1) := by decide +kernel
theorem dX5_isDone_0 : decode cX5_isDone 0 = .ok (.aload_n 0, 1) := by decide +kernel
theorem dX5_isDone_1 : decode cX5_isDone 1 = .ok (.getfield 35, 3) := by decide +kernel
theorem dX5_isDone_4 : decode cX5_isDone 4 = .ok (.ireturn, 1) := by decide +kernel
theorem dX5_binCount_0 : decode cX5_binCount 0 = .ok (.aload_n 0, 1) := by decide +kernel
theorem dX5_binCount_1 : decode cX5_binCount 1 = .ok (.getfield 39, 3) := by decide +kernel
theorem dX5_binCount_4 : decode cX5_binCount 4 = .ok (.ireturn, 1) := by decide +kernel
theorem dX5_grouping_0 : decode cX5_grouping 0 = .ok (.aload_n 0, 1) := by decide +kernel
theorem dX5_grouping_1 : decode cX5_grouping 1 = .ok (.getfield 31, 3) := by decide +kernel
theorem dX5_grouping_4 : decode cX5_grouping 4 = .ok (.areturn, 1) := by decide +kernel
theorem dX5_restart_0 : decode cX5_restart 0 = .ok (.aload_n 0, 1) := by decide +kernel
theorem dX5_restart_1 : decode cX5_restart 1 = .ok (.iconst 0, 1) := by decide +kernel
theorem dX5_restart_2 : decode cX5_restart 2 = .ok (.putfield 43, 3) := by decide +kernel
theorem dX5_restart_5 : decode cX5_restart 5 = .ok (.aload_n 0, 1) := by decide +kernel
theorem dX5_restart_6 : decode cX5_restart 6 = .ok (.iload_n 1, 1) := by decide +kernel
theorem dX5_restart_7 : decode cX5_restart 7 = .ok (.putfield 39, 3) := by decide +kernel
theorem dX5_restart_10 : decode cX5_restart 10 = .ok (.aload_n 0, 1) := by decide +kernel
theorem dX5_restart_11 : decode cX5_restart 11 = .ok (.getfield 31, 3) := by decide +kernel
theorem dX5_restart_14 : decode cX5_restart 14 = .ok (.iload_n 2, 1) := by decide +kernel
theorem dX5_restart_15 : decode cX5_restart 15 = .ok (.iload_n 3, 1) := by decide +kernel
theorem dX5_restart_16 : decode cX5_restart 16 = .ok (.invokevirtual 46, 3) := by decide +kernel
theorem dX5_restart_19 : decode cX5_restart 19 = .ok (.return_, 1) := by decide +kernel
theorem dX5_add_0 : decode cX5_add 0 = .ok (.aload_n 0, 1) := by decide +kernel
theorem dX5_add_1 : decode cX5_add 1 = .ok (.getfield 43, 3) := by decide +kernel
theorem dX5_add_4 : decode cX5_add 4 = .ok (.istore 4, 2) := by decide +kernel
theorem dX5_add_6 : decode cX5_add 6 = .ok (.iload 4, 2) := by decide +kernel
theorem dX5_add_8 : decode cX5_add 8 = .ok (.ifCond .lt 10, 3) := by decide +kernel
theorem dX5_add_11 : decode cX5_add 11 = .ok (.iload 4, 2) := by decide +kernel
theorem dX5_add_13 : decode cX5_add 13 = .ok (.bipush 60, 2) := by decide +kernel
theorem dX5_add_15 : decode cX5_add 15 = .ok (.if_icmp .lt 4, 3) := by decide +kernel
theorem dX5_add_18 : decode cX5_add 18 = .ok (.return_, 1) := by decide +kernel
theorem dX5_add_19 : decode cX5_add 19 = .ok (.aload_n 0, 1) := by decide +kernel
theorem dX5_add_20 : decode cX5_add 20 = .ok (.getfield 9, 3) := by decide +kernel
theorem dX5_add_23 : decode cX5_add 23 = .ok (.iload 4, 2) := by decide +kernel
theorem dX5_add_25 : decode cX5_add 25 = .ok (.iload_n 2, 1) := by decide +kernel
theorem dX5_add_26 : decode cX5_add 26 = .ok (.iastore, 1) := by decide +kernel
theorem dX5_add_27 : decode cX5_add 27 = .ok (.aload_n 0, 1) := by decide +kernel
theorem dX5_add_28 : decode cX5_add 28 = .ok (.getfield 15, 3) := by decide +kernel
theorem dX5_add_31 : decode cX5_add 31 = .ok (.iload 4, 2) := by decide +kernel
theorem dX5_add_33 : decode cX5_add 33 = .ok (.aload_n 3, 1) := by decide +kernel
theorem dX5_add_34 : decode cX5_add 34 = .ok (.invokevirtual 50, 3) := by decide +kernel
theorem dX5_add_37 : decode cX5_add 37 = .ok (.iastore, 1) := by decide +kernel
theorem dX5_add_38 : decode cX5_add 38 = .ok (.aload_n 0, 1) := by decide +kernel
theorem dX5_add_39 : decode cX5_add 39 = .ok (.getfield 18, 3) := by decide +kernel
theorem dX5_add_42 : decode cX5_add 42 = .ok (.iload 4, 2) := by decide +kernel
theorem dX5_add_44 : decode cX5_add 44 = .ok (.aload_n 3, 1) := by decide +kernel
theorem dX5_add_45 : decode cX5_add 45 = .ok (.invokevirtual 56, 3) := by decide +kernel
theorem dX5_add_48 : decode cX5_add 48 = .ok (.iastore, 1) := by decide +kernel
theorem dX5_add_49 : decode cX5_add 49 = .ok (.aload_n 0, 1) := by decide +kernel
theorem dX5_add_50 : decode cX5_add 50 = .ok (.getfield 24, 3) := by decide +kernel
theorem dX5_add_53 : decode cX5_add 53 = .ok (.iload 4, 2) := by decide +kernel
theorem dX5_add_55 : decode cX5_add 55 = .ok (.aload_n 3, 1) := by decide +kernel
theorem dX5_add_56 : decode cX5_add 56 = .ok (.invokevirtual 59, 3) := by decide +kernel
theorem dX5_add_59 : decode cX5_add 59 = .ok (.bastore, 1) := by decide +kernel
theorem dX5_add_60 : decode cX5_add 60 = .ok (.aload_n 0, 1) := by decide +kernel
theorem dX5_add_61 : decode cX5_add 61 = .ok (.getfield 21, 3) := by decide +kernel
theorem dX5_add_64 : decode cX5_add 64 = .ok (.iload 4, 2) := by decide +kernel
theorem dX5_add_66 : decode cX5_add 66 = .ok (.aload_n 0, 1) := by decide +kernel
theorem dX5_add_67 : decode cX5_add 67 = .ok (.aload_n 1, 1) := by decide +kernel
theorem dX5_add_68 : decode cX5_add 68 = .ok (.iload 4, 2) := by decide +kernel
theorem dX5_add_70 : decode cX5_add 70 = .ok (.invokevirtual 63, 3) := by decide +kernel
theorem dX5_add_73 : decode cX5_add 73 = .ok (.iastore, 1) := by decide +kernel
theorem dX5_add_74 : decode cX5_add 74 = .ok (.aload_n 0, 1) := by decide +kernel
theorem dX5_add_75 : decode cX5_add 75 = .ok (.dup, 1) := by decide +kernel
theorem dX5_add_76 : decode cX5_add 76 = .ok (.getfield 43, 3) := by decide +kernel
theorem dX5_add_79 : decode cX5_add 79 = .ok (.iconst 1, 1) := by decide +kernel
theorem dX5_add_80 : decode cX5_add 80 = .ok (.iadd, 1) := by decide +kernel
theorem dX5_add_81 : decode cX5_add 81 = .ok (.putfield 43, 3) := by decide +kernel
theorem dX5_add_84 : decode cX5_add 84 = .ok (.return_, 1) := by decide +kernel
theorem dX5_finish_0 : decode cX5_finish 0 = .ok (.iconst 0, 1) := by decide +kernel
theorem dX5_finish_1 : decode cX5_finish 1 = .ok (.istore_n 1, 1) := by decide +kernel
theorem dX5_finish_2 : decode cX5_finish 2 = .ok (.iload_n 1, 1) := by decide +kernel
theorem dX5_finish_3 : decode cX5_finish 3 = .ok (.aload_n 0, 1) := by decide +kernel
theorem dX5_finish_4 : decode cX5_finish 4 = .ok (.getfield 39, 3) := by decide +kernel
theorem dX5_finish_7 : decode cX5_finish 7 = .ok (.if_icmp .ge 17, 3) := by decide +kernel
theorem dX5_finish_10 : decode cX5_finish 10 = .ok (.aload_n 0, 1) := by decide +kernel
theorem dX5_finish_11 : decode cX5_finish 11 = .ok (.getfield 31, 3) := by decide +kernel
theorem dX5_finish_14 : decode cX5_finish 14 = .ok (.iload_n 1, 1) := by decide +kernel
theorem dX5_finish_15 : decode cX5_finish 15 = .ok (.invokevirtual 67, 3) := by decide +kernel
theorem dX5_finish_18 : decode cX5_finish 18 = .ok (.iinc 1 1, 3) := by decide +kernel
theorem dX5_finish_21 : decode cX5_finish 21 = .ok (.goto (-19), 3) := by decide +kernel
theorem dX5_finish_24 : decode cX5_finish 24 = .ok (.aload_n 0, 1) := by decide +kernel
theorem dX5_finish_25 : decode cX5_finish 25 = .ok (.iconst 1, 1) := by decide +kernel
theorem dX5_finish_26 : decode cX5_finish 26 = .ok (.putfield 35, 3) := by decide +kernel
theorem dX5_finish_29 : decode cX5_finish 29 = .ok (.return_, 1) := by decide +kernel
theorem dX5_binOf_0 : decode cX5_binOf 0 = .ok (.aload_n 0, 1) := by decide +kernel
theorem dX5_binOf_1 : decode cX5_binOf 1 = .ok (.iload_n 1, 1) := by decide +kernel
theorem dX5_binOf_2 : decode cX5_binOf 2 = .ok (.invokevirtual 71, 3) := by decide +kernel
theorem dX5_binOf_5 : decode cX5_binOf 5 = .ok (.ifCond .eq 12, 3) := by decide +kernel
theorem dX5_binOf_8 : decode cX5_binOf 8 = .ok (.aload_n 0, 1) := by decide +kernel
theorem dX5_binOf_9 : decode cX5_binOf 9 = .ok (.getfield 9, 3) := by decide +kernel
theorem dX5_binOf_12 : decode cX5_binOf 12 = .ok (.iload_n 1, 1) := by decide +kernel
theorem dX5_binOf_13 : decode cX5_binOf 13 = .ok (.iaload, 1) := by decide +kernel
theorem dX5_binOf_14 : decode cX5_binOf 14 = .ok (.goto 4, 3) := by decide +kernel
theorem dX5_binOf_17 : decode cX5_binOf 17 = .ok (.iconst (-1), 1) := by decide +kernel
theorem dX5_binOf_18 : decode cX5_binOf 18 = .ok (.ireturn, 1) := by decide +kernel
theorem dX5_beginOf_0 : decode cX5_beginOf 0 = .ok (.aload_n 0, 1) := by decide +kernel
theorem dX5_beginOf_1 : decode cX5_beginOf 1 = .ok (.iload_n 1, 1) := by decide +kernel
theorem dX5_beginOf_2 : decode cX5_beginOf 2 = .ok (.invokevirtual 71, 3) := by decide +kernel
theorem dX5_beginOf_5 : decode cX5_beginOf 5 = .ok (.ifCond .eq 12, 3) := by decide +kernel
theorem dX5_beginOf_8 : decode cX5_beginOf 8 = .ok (.aload_n 0, 1) := by decide +kernel
theorem dX5_beginOf_9 : decode cX5_beginOf 9 = .ok (.getfield 15, 3) := by decide +kernel
theorem dX5_beginOf_12 : decode cX5_beginOf 12 = .ok (.iload_n 1, 1) := by decide +kernel
theorem dX5_beginOf_13 : decode cX5_beginOf 13 = .ok (.iaload, 1) := by decide +kernel
theorem dX5_beginOf_14 : decode cX5_beginOf 14 = .ok (.goto 4, 3) := by decide +kernel
theorem dX5_beginOf_17 : decode cX5_beginOf 17 = .ok (.iconst 0, 1) := by decide +kernel
