theorem dX5_beginOf_18 : decode cX5_beginOf 18 = .ok (.ireturn, 1) := by decide +kernel
theorem dX5_endOf_0 : decode cX5_endOf 0 = .ok (.aload_n 0, 1) := by decide +kernel
theorem dX5_endOf_1 : decode cX5_endOf 1 = .ok (.iload_n 1, 1) := by decide +kernel
theorem dX5_endOf_2 : decode cX5_endOf 2 = .ok (.invokevirtual 71, 3) := by decide +kernel
theorem dX5_endOf_5 : decode cX5_endOf 5 = .ok (.ifCond .eq 12, 3) := by decide +kernel
theorem dX5_endOf_8 : decode cX5_endOf 8 = .ok (.aload_n 0, 1) := by decide +kernel
theorem dX5_endOf_9 : decode cX5_endOf 9 = .ok (.getfield 18, 3) := by decide +kernel
theorem dX5_endOf_12 : decode cX5_endOf 12 = .ok (.iload_n 1, 1) := by decide +kernel
theorem dX5_endOf_13 : decode cX5_endOf 13 = .ok (.iaload, 1) := by decide +kernel
theorem dX5_endOf_14 : decode cX5_endOf 14 = .ok (.goto 4, 3) := by decide +kernel
theorem dX5_endOf_17 : decode cX5_endOf 17 = .ok (.iconst 0, 1) := by decide +kernel
theorem dX5_endOf_18 : decode cX5_endOf 18 = .ok (.ireturn, 1) := by decide +kernel
theorem dX5_isShort_0 : decode cX5_isShort 0 = .ok (.aload_n 0, 1) := by decide +kernel
theorem dX5_isShort_1 : decode cX5_isShort 1 = .ok (.iload_n 1, 1) := by decide +kernel
theorem dX5_isShort_2 : decode cX5_isShort 2 = .ok (.invokevirtual 71, 3) := by decide +kernel
theorem dX5_isShort_5 : decode cX5_isShort 5 = .ok (.ifCond .eq 16, 3) := by decide +kernel
theorem dX5_isShort_8 : decode cX5_isShort 8 = .ok (.aload_n 0, 1) := by decide +kernel
theorem dX5_isShort_9 : decode cX5_isShort 9 = .ok (.getfield 24, 3) := by decide +kernel
theorem dX5_isShort_12 : decode cX5_isShort 12 = .ok (.iload_n 1, 1) := by decide +kernel
theorem dX5_isShort_13 : decode cX5_isShort 13 = .ok (.baload, 1) := by decide +kernel
theorem dX5_isShort_14 : decode cX5_isShort 14 = .ok (.ifCond .eq 7, 3) := by decide +kernel
theorem dX5_isShort_17 : decode cX5_isShort 17 = .ok (.iconst 1, 1) := by decide +kernel
theorem dX5_isShort_18 : decode cX5_isShort 18 = .ok (.goto 4, 3) := by decide +kernel
theorem dX5_isShort_21 : decode cX5_isShort 21 = .ok (.iconst 0, 1) := by decide +kernel
theorem dX5_isShort_22 : decode cX5_isShort 22 = .ok (.ireturn, 1) := by decide +kernel
theorem dX5_readsIn_0 : decode cX5_readsIn 0 = .ok (.iconst 0, 1) := by decide +kernel
theorem dX5_readsIn_1 : decode cX5_readsIn 1 = .ok (.istore_n 2, 1) := by decide +kernel
theorem dX5_readsIn_2 : decode cX5_readsIn 2 = .ok (.iconst 0, 1) := by decide +kernel
theorem dX5_readsIn_3 : decode cX5_readsIn 3 = .ok (.istore_n 3, 1) := by decide +kernel
theorem dX5_readsIn_4 : decode cX5_readsIn 4 = .ok (.iload_n 3, 1) := by decide +kernel
theorem dX5_readsIn_5 : decode cX5_readsIn 5 = .ok (.aload_n 0, 1) := by decide +kernel
theorem dX5_readsIn_6 : decode cX5_readsIn 6 = .ok (.getfield 43, 3) := by decide +kernel
theorem dX5_readsIn_9 : decode cX5_readsIn 9 = .ok (.if_icmp .ge 21, 3) := by decide +kernel
theorem dX5_readsIn_12 : decode cX5_readsIn 12 = .ok (.aload_n 0, 1) := by decide +kernel
theorem dX5_readsIn_13 : decode cX5_readsIn 13 = .ok (.iload_n 3, 1) := by decide +kernel
theorem dX5_readsIn_14 : decode cX5_readsIn 14 = .ok (.invokevirtual 75, 3) := by decide +kernel
theorem dX5_readsIn_17 : decode cX5_readsIn 17 = .ok (.iload_n 1, 1) := by decide +kernel
theorem dX5_readsIn_18 : decode cX5_readsIn 18 = .ok (.if_icmp .ne 6, 3) := by decide +kernel
theorem dX5_readsIn_21 : decode cX5_readsIn 21 = .ok (.iinc 2 1, 3) := by decide +kernel
theorem dX5_readsIn_24 : decode cX5_readsIn 24 = .ok (.iinc 3 1, 3) := by decide +kernel
theorem dX5_readsIn_27 : decode cX5_readsIn 27 = .ok (.goto (-23), 3) := by decide +kernel
theorem dX5_readsIn_30 : decode cX5_readsIn 30 = .ok (.iload_n 2, 1) := by decide +kernel
theorem dX5_readsIn_31 : decode cX5_readsIn 31 = .ok (.ireturn, 1) := by decide +kernel
theorem dX5_shortReadsIn_0 : decode cX5_shortReadsIn 0 = .ok (.iconst 0, 1) := by decide +kernel
theorem dX5_shortReadsIn_1 : decode cX5_shortReadsIn 1 = .ok (.istore_n 2, 1) := by decide +kernel
theorem dX5_shortReadsIn_2 : decode cX5_shortReadsIn 2 = .ok (.iconst 0, 1) := by decide +kernel
theorem dX5_shortReadsIn_3 : decode cX5_shortReadsIn 3 = .ok (.istore_n 3, 1) := by decide +kernel
theorem dX5_shortReadsIn_4 : decode cX5_shortReadsIn 4 = .ok (.iload_n 3, 1) := by decide +kernel
theorem dX5_shortReadsIn_5 : decode cX5_shortReadsIn 5 = .ok (.aload_n 0, 1) := by decide +kernel
theorem dX5_shortReadsIn_6 : decode cX5_shortReadsIn 6 = .ok (.getfield 43, 3) := by decide +kernel
theorem dX5_shortReadsIn_9 : decode cX5_shortReadsIn 9 = .ok (.if_icmp .ge 29, 3) := by decide +kernel
theorem dX5_shortReadsIn_12 : decode cX5_shortReadsIn 12 = .ok (.aload_n 0, 1) := by decide +kernel
theorem dX5_shortReadsIn_13 : decode cX5_shortReadsIn 13 = .ok (.iload_n 3, 1) := by decide +kernel
theorem dX5_shortReadsIn_14 : decode cX5_shortReadsIn 14 = .ok (.invokevirtual 75, 3) := by decide +kernel
theorem dX5_shortReadsIn_17 : decode cX5_shortReadsIn 17 = .ok (.iload_n 1, 1) := by decide +kernel
theorem dX5_shortReadsIn_18 : decode cX5_shortReadsIn 18 = .ok (.if_icmp .ne 14, 3) := by decide +kernel
theorem dX5_shortReadsIn_21 : decode cX5_shortReadsIn 21 = .ok (.aload_n 0, 1) := by decide +kernel
theorem dX5_shortReadsIn_22 : decode cX5_shortReadsIn 22 = .ok (.iload_n 3, 1) := by decide +kernel
theorem dX5_shortReadsIn_23 : decode cX5_shortReadsIn 23 = .ok (.invokevirtual 79, 3) := by decide +kernel
theorem dX5_shortReadsIn_26 : decode cX5_shortReadsIn 26 = .ok (.ifCond .eq 6, 3) := by decide +kernel
theorem dX5_shortReadsIn_29 : decode cX5_shortReadsIn 29 = .ok (.iinc 2 1, 3) := by decide +kernel
theorem dX5_shortReadsIn_32 : decode cX5_shortReadsIn 32 = .ok (.iinc 3 1, 3) := by decide +kernel
theorem dX5_shortReadsIn_35 : decode cX5_shortReadsIn 35 = .ok (.goto (-31), 3) := by decide +kernel
theorem dX5_shortReadsIn_38 : decode cX5_shortReadsIn 38 = .ok (.iload_n 2, 1) := by decide +kernel
theorem dX5_shortReadsIn_39 : decode cX5_shortReadsIn 39 = .ok (.ireturn, 1) := by decide +kernel
theorem dX5_bestOf_0 : decode cX5_bestOf 0 = .ok (.iconst (-1), 1) := by decide +kernel
theorem dX5_bestOf_1 : decode cX5_bestOf 1 = .ok (.istore_n 3, 1) := by decide +kernel
theorem dX5_bestOf_2 : decode cX5_bestOf 2 = .ok (.iconst 0, 1) := by decide +kernel
theorem dX5_bestOf_3 : decode cX5_bestOf 3 = .ok (.istore 4, 2) := by decide +kernel
theorem dX5_bestOf_5 : decode cX5_bestOf 5 = .ok (.iload 4, 2) := by decide +kernel
theorem dX5_bestOf_7 : decode cX5_bestOf 7 = .ok (.aload_n 0, 1) := by decide +kernel
theorem dX5_bestOf_8 : decode cX5_bestOf 8 = .ok (.getfield 43, 3) := by decide +kernel
theorem dX5_bestOf_11 : decode cX5_bestOf 11 = .ok (.if_icmp .ge 45, 3) := by decide +kernel
theorem dX5_bestOf_14 : decode cX5_bestOf 14 = .ok (.aload_n 0, 1) := by decide +kernel
theorem dX5_bestOf_15 : decode cX5_bestOf 15 = .ok (.getfield 31, 3) := by decide +kernel
theorem dX5_bestOf_18 : decode cX5_bestOf 18 = .ok (.iload 4, 2) := by decide +kernel
theorem dX5_bestOf_20 : decode cX5_bestOf 20 = .ok (.iload_n 1, 1) := by decide +kernel
theorem dX5_bestOf_21 : decode cX5_bestOf 21 = .ok (.iload_n 2, 1) := by decide +kernel
theorem dX5_bestOf_22 : decode cX5_bestOf 22 = .ok (.invokevirtual 82, 3) := by decide +kernel
theorem dX5_bestOf_25 : decode cX5_bestOf 25 = .ok (.ifCond .eq 25, 3) := by decide +kernel
theorem dX5_bestOf_28 : decode cX5_bestOf 28 = .ok (.iload_n 3, 1) := by decide +kernel
theorem dX5_bestOf_29 : decode cX5_bestOf 29 = .ok (.iconst (-1), 1) := by decide +kernel
theorem dX5_bestOf_30 : decode cX5_bestOf 30 = .ok (.if_icmp .eq 17, 3) := by decide +kernel
theorem dX5_bestOf_33 : decode cX5_bestOf 33 = .ok (.aload_n 0, 1) := by decide +kernel
theorem dX5_bestOf_34 : decode cX5_bestOf 34 = .ok (.iload 4, 2) := by decide +kernel
theorem dX5_bestOf_36 : decode cX5_bestOf 36 = .ok (.invokevirtual 86, 3) := by decide +kernel
theorem dX5_bestOf_39 : decode cX5_bestOf 39 = .ok (.aload_n 0, 1) := by decide +kernel
theorem dX5_bestOf_40 : decode cX5_bestOf 40 = .ok (.iload_n 3, 1) := by decide +kernel
theorem dX5_bestOf_41 : decode cX5_bestOf 41 = .ok (.invokevirtual 86, 3) := by decide +kernel
theorem dX5_bestOf_44 : decode cX5_bestOf 44 = .ok (.if_icmp .le 6, 3) := by decide +kernel
theorem dX5_bestOf_47 : decode cX5_bestOf 47 = .ok (.iload 4, 2) := by decide +kernel
theorem dX5_bestOf_49 : decode cX5_bestOf 49 = .ok (.istore_n 3, 1) := by decide +kernel
theorem dX5_bestOf_50 : decode cX5_bestOf 50 = .ok (.iinc 4 1, 3) := by decide +kernel
theorem dX5_bestOf_53 : decode cX5_bestOf 53 = .ok (.goto (-48), 3) := by decide +kernel
theorem dX5_bestOf_56 : decode cX5_bestOf 56 = .ok (.iload_n 3, 1) := by decide +kernel
theorem dX5_bestOf_57 : decode cX5_bestOf 57 = .ok (.ireturn, 1) := by decide +kernel
theorem dX5_isBest_0 : decode cX5_isBest 0 = .ok (.aload_n 0, 1) := by decide +kernel
theorem dX5_isBest_1 : decode cX5_isBest 1 = .ok (.getfield 31, 3) := by decide +kernel
theorem dX5_isBest_4 : decode cX5_isBest 4 = .ok (.iload_n 1, 1) := by decide +kernel
theorem dX5_isBest_5 : decode cX5_isBest 5 = .ok (.invokevirtual 89, 3) := by decide +kernel
theorem dX5_isBest_8 : decode cX5_isBest 8 = .ok (.istore_n 2, 1) := by decide +kernel
theorem dX5_isBest_9 : decode cX5_isBest 9 = .ok (.iload_n 2, 1) := by decide +kernel
theorem dX5_isBest_10 : decode cX5_isBest 10 = .ok (.iconst (-1), 1) := by decide +kernel
theorem dX5_isBest_11 : decode cX5_isBest 11 = .ok (.if_icmp .eq 21, 3) := by decide +kernel
theorem dX5_isBest_14 : decode cX5_isBest 14 = .ok (.aload_n 0, 1) := by decide +kernel
theorem dX5_isBest_15 : decode cX5_isBest 15 = .ok (.aload_n 0, 1) := by decide +kernel
theorem dX5_isBest_16 : decode cX5_isBest 16 = .ok (.iload_n 1, 1) := by decide +kernel
theorem dX5_isBest_17 : decode cX5_isBest 17 = .ok (.invokevirtual 75, 3) := by decide +kernel
theorem dX5_isBest_20 : decode cX5_isBest 20 = .ok (.iload_n 2, 1) := by decide +kernel
theorem dX5_isBest_21 : decode cX5_isBest 21 = .ok (.invokevirtual 92, 3) := by decide +kernel
theorem dX5_isBest_24 : decode cX5_isBest 24 = .ok (.iload_n 1, 1) := by decide +kernel
theorem dX5_isBest_25 : decode cX5_isBest 25 = .ok (.if_icmp .ne 7, 3) := by decide +kernel
theorem dX5_isBest_28 : decode cX5_isBest 28 = .ok (.iconst 1, 1) := by decide +kernel
theorem dX5_isBest_29 : decode cX5_isBest 29 = .ok (.goto 4, 3) := by decide +kernel
theorem dX5_isBest_32 : decode cX5_isBest 32 = .ok (.iconst 0, 1) := by decide +kernel
theorem dX5_isBest_33 : decode cX5_isBest 33 = .ok (.ireturn, 1) := by decide +kernel
theorem dX5_has_0 : decode cX5_has 0 = .ok (.iload_n 1, 1) := by decide +kernel
theorem dX5_has_1 : decode cX5_has 1 = .ok (.ifCond .lt 21, 3) := by decide +kernel
theorem dX5_has_4 : decode cX5_has 4 = .ok (.iload_n 1, 1) := by decide +kernel
theorem dX5_has_5 : decode cX5_has 5 = .ok (.aload_n 0, 1) := by decide +kernel
theorem dX5_has_6 : decode cX5_has 6 = .ok (.getfield 43, 3) := by decide +kernel
theorem dX5_has_9 : decode cX5_has 9 = .ok (.if_icmp .ge 13, 3) := by decide +kernel
theorem dX5_has_12 : decode cX5_has 12 = .ok (.iload_n 1, 1) := by decide +kernel
theorem dX5_has_13 : decode cX5_has 13 = .ok (.bipush 60, 2) := by decide +kernel
theorem dX5_has_15 : decode cX5_has 15 = .ok (.if_icmp .ge 7, 3) := by decide +kernel
theorem dX5_has_18 : decode cX5_has 18 = .ok (.iconst 1, 1) := by decide +kernel
theorem dX5_has_19 : decode cX5_has 19 = .ok (.goto 4, 3) := by decide +kernel
theorem dX5_has_22 : decode cX5_has 22 = .ok (.iconst 0, 1) := by decide +kernel
theorem dX5_has_23 : decode cX5_has 23 = .ok (.ireturn, 1) := by decide +kernel
theorem dX5_worthOf_0 : decode cX5_worthOf 0 = .ok (.aload_n 0, 1) := by decide +kernel
theorem dX5_worthOf_1 : decode cX5_worthOf 1 = .ok (.iload_n 1, 1) := by decide +kernel
theorem dX5_worthOf_2 : decode cX5_worthOf 2 = .ok (.invokevirtual 71, 3) := by decide +kernel
theorem dX5_worthOf_5 : decode cX5_worthOf 5 = .ok (.ifCond .eq 12, 3) := by decide +kernel
theorem dX5_worthOf_8 : decode cX5_worthOf 8 = .ok (.aload_n 0, 1) := by decide +kernel
theorem dX5_worthOf_9 : decode cX5_worthOf 9 = .ok (.getfield 21, 3) := by decide +kernel
theorem dX5_worthOf_12 : decode cX5_worthOf 12 = .ok (.iload_n 1, 1) := by decide +kernel
theorem dX5_worthOf_13 : decode cX5_worthOf 13 = .ok (.iaload, 1) := by decide +kernel
theorem dX5_worthOf_14 : decode cX5_worthOf 14 = .ok (.goto 4, 3) := by decide +kernel
theorem dX5_worthOf_17 : decode cX5_worthOf 17 = .ok (.iconst 0, 1) := by decide +kernel
theorem dX5_worthOf_18 : decode cX5_worthOf 18 = .ok (.ireturn, 1) := by decide +kernel
theorem dX5_sumOfQualities_0 : decode cX5_sumOfQualities 0 = .ok (.iconst 0, 1) := by decide +kernel
theorem dX5_sumOfQualities_1 : decode cX5_sumOfQualities 1 = .ok (.istore_n 3, 1) := by decide +kernel
theorem dX5_sumOfQualities_2 : decode cX5_sumOfQualities 2 = .ok (.aload_n 0, 1) := by decide +kernel
theorem dX5_sumOfQualities_3 : decode cX5_sumOfQualities 3 = .ok (.getfield 15, 3) := by decide +kernel
theorem dX5_sumOfQualities_6 : decode cX5_sumOfQualities 6 = .ok (.iload_n 2, 1) := by decide +kernel
theorem dX5_sumOfQualities_7 : decode cX5_sumOfQualities 7 = .ok (.iaload, 1) := by decide +kernel
theorem dX5_sumOfQualities_8 : decode cX5_sumOfQualities 8 = .ok (.istore 4, 2) := by decide +kernel
theorem dX5_sumOfQualities_10 : decode cX5_sumOfQualities 10 = .ok (.iload 4, 2) := by decide +kernel
theorem dX5_sumOfQualities_12 : decode cX5_sumOfQualities 12 = .ok (.aload_n 0, 1) := by decide +kernel
theorem dX5_sumOfQualities_13 : decode cX5_sumOfQualities 13 = .ok (.getfield 18, 3) := by decide +kernel
theorem dX5_sumOfQualities_16 : decode cX5_sumOfQualities 16 = .ok (.iload_n 2, 1) := by decide +kernel
theorem dX5_sumOfQualities_17 : decode cX5_sumOfQualities 17 = .ok (.iaload, 1) := by decide +kernel
theorem dX5_sumOfQualities_18 : decode cX5_sumOfQualities 18 = .ok (.if_icmp .ge 19, 3) := by decide +kernel
theorem dX5_sumOfQualities_21 : decode cX5_sumOfQualities 21 = .ok (.iload_n 3, 1) := by decide +kernel
theorem dX5_sumOfQualities_22 : decode cX5_sumOfQualities 22 = .ok (.aload_n 1, 1) := by decide +kernel
theorem dX5_sumOfQualities_23 : decode cX5_sumOfQualities 23 = .ok (.iload_n 2, 1) := by decide +kernel
theorem dX5_sumOfQualities_24 : decode cX5_sumOfQualities 24 = .ok (.iload 4, 2) := by decide +kernel
theorem dX5_sumOfQualities_26 : decode cX5_sumOfQualities 26 = .ok (.invokevirtual 96, 3) := by decide +kernel
theorem dX5_sumOfQualities_29 : decode cX5_sumOfQualities 29 = .ok (.iadd, 1) := by decide +kernel
theorem dX5_sumOfQualities_30 : decode cX5_sumOfQualities 30 = .ok (.istore_n 3, 1) := by decide +kernel
theorem dX5_sumOfQualities_31 : decode cX5_sumOfQualities 31 = .ok (.iinc 4 1, 3) := by decide +kernel
theorem dX5_sumOfQualities_34 : decode cX5_sumOfQualities 34 = .ok (.goto (-24), 3) := by decide +kernel
theorem dX5_sumOfQualities_37 : decode cX5_sumOfQualities 37 = .ok (.iload_n 3, 1) := by decide +kernel
theorem dX5_sumOfQualities_38 : decode cX5_sumOfQualities 38 = .ok (.ireturn, 1) := by decide +kernel
theorem dX6_init_0 : decode cX6_init 0 = .ok (.aload_n 0, 1) := by decide +kernel
theorem dX6_init_1 : decode cX6_init 1 = .ok (.invokespecial 3, 3) := by decide +kernel
theorem dX6_init_4 : decode cX6_init 4 = .ok (.aload_n 0, 1) := by decide +kernel
theorem dX6_init_5 : decode cX6_init 5 = .ok (.new 9, 3) := by decide +kernel
theorem dX6_init_8 : decode cX6_init 8 = .ok (.dup, 1) := by decide +kernel
theorem dX6_init_9 : decode cX6_init 9 = .ok (.bipush 30, 2) := by decide +kernel
theorem dX6_init_11 : decode cX6_init 11 = .ok (.invokespecial 11, 3) := by decide +kernel
theorem dX6_init_14 : decode cX6_init 14 = .ok (.putfield 14, 3) := by decide +kernel
theorem dX6_init_17 : decode cX6_init 17 = .ok (.aload_n 0, 1) := by decide +kernel
theorem dX6_init_18 : decode cX6_init 18 = .ok (.iconst 1, 1) := by decide +kernel
theorem dX6_init_19 : decode cX6_init 19 = .ok (.putfield 20, 3) := by decide +kernel
theorem dX6_init_22 : decode cX6_init 22 = .ok (.return_, 1) := by decide +kernel
theorem dX6_takeAdapter_0 : decode cX6_takeAdapter 0 = .ok (.aload_n 1, 1) := by decide +kernel
theorem dX6_takeAdapter_1 : decode cX6_takeAdapter 1 = .ok (.invokevirtual 24, 3) := by decide +kernel
theorem dX6_takeAdapter_4 : decode cX6_takeAdapter 4 = .ok (.ifCond .eq 15, 3) := by decide +kernel
theorem dX6_takeAdapter_7 : decode cX6_takeAdapter 7 = .ok (.aload_n 1, 1) := by decide +kernel
theorem dX6_takeAdapter_8 : decode cX6_takeAdapter 8 = .ok (.iconst 3, 1) := by decide +kernel
theorem dX6_takeAdapter_9 : decode cX6_takeAdapter 9 = .ok (.bipush 30, 2) := by decide +kernel
theorem dX6_takeAdapter_11 : decode cX6_takeAdapter 11 = .ok (.invokevirtual 28, 3) := by decide +kernel
theorem dX6_takeAdapter_14 : decode cX6_takeAdapter 14 = .ok (.ifCond .ne 5, 3) := by decide +kernel
theorem dX6_takeAdapter_17 : decode cX6_takeAdapter 17 = .ok (.iconst (-1), 1) := by decide +kernel
theorem dX6_takeAdapter_18 : decode cX6_takeAdapter 18 = .ok (.ireturn, 1) := by decide +kernel
theorem dX6_takeAdapter_19 : decode cX6_takeAdapter 19 = .ok (.aload_n 0, 1) := by decide +kernel
theorem dX6_takeAdapter_20 : decode cX6_takeAdapter 20 = .ok (.getfield 14, 3) := by decide +kernel
theorem dX6_takeAdapter_23 : decode cX6_takeAdapter 23 = .ok (.aload_n 1, 1) := by decide +kernel
theorem dX6_takeAdapter_24 : decode cX6_takeAdapter 24 = .ok (.invokevirtual 32, 3) := by decide +kernel
theorem dX6_takeAdapter_27 : decode cX6_takeAdapter 27 = .ok (.aload_n 0, 1) := by decide +kernel
theorem dX6_takeAdapter_28 : decode cX6_takeAdapter 28 = .ok (.getfield 14, 3) := by decide +kernel
theorem dX6_takeAdapter_31 : decode cX6_takeAdapter 31 = .ok (.invokevirtual 24, 3) := by decide +kernel
theorem dX6_takeAdapter_34 : decode cX6_takeAdapter 34 = .ok (.ireturn, 1) := by decide +kernel
theorem dX6_setLimits_0 : decode cX6_setLimits 0 = .ok (.aload_n 0, 1) := by decide +kernel
theorem dX6_setLimits_1 : decode cX6_setLimits 1 = .ok (.iload_n 1, 1) := by decide +kernel
theorem dX6_setLimits_2 : decode cX6_setLimits 2 = .ok (.putfield 36, 3) := by decide +kernel
theorem dX6_setLimits_5 : decode cX6_setLimits 5 = .ok (.aload_n 0, 1) := by decide +kernel
theorem dX6_setLimits_6 : decode cX6_setLimits 6 = .ok (.iload_n 2, 1) := by decide +kernel
theorem dX6_setLimits_7 : decode cX6_setLimits 7 = .ok (.putfield 39, 3) := by decide +kernel
theorem dX6_setLimits_10 : decode cX6_setLimits 10 = .ok (.aload_n 0, 1) := by decide +kernel
theorem dX6_setLimits_11 : decode cX6_setLimits 11 = .ok (.iload_n 3, 1) := by decide +kernel
theorem dX6_setLimits_12 : decode cX6_setLimits 12 = .ok (.putfield 20, 3) := by decide +kernel
theorem dX6_setLimits_15 : decode cX6_setLimits 15 = .ok (.return_, 1) := by decide +kernel
theorem dX6_begin_0 : decode cX6_begin 0 = .ok (.aload_n 0, 1) := by decide +kernel
theorem dX6_begin_1 : decode cX6_begin 1 = .ok (.getfield 42, 3) := by decide +kernel
theorem dX6_begin_4 : decode cX6_begin 4 = .ok (.ireturn, 1) := by decide +kernel
theorem dX6_end_0 : decode cX6_end 0 = .ok (.aload_n 0, 1) := by decide +kernel
theorem dX6_end_1 : decode cX6_end 1 = .ok (.getfield 45, 3) := by decide +kernel
theorem dX6_end_4 : decode cX6_end 4 = .ok (.ireturn, 1) := by decide +kernel
theorem dX6_isTooShort_0 : decode cX6_isTooShort 0 = .ok (.aload_n 0, 1) := by decide +kernel
theorem dX6_isTooShort_1 : decode cX6_isTooShort 1 = .ok (.getfield 45, 3) := by decide +kernel
theorem dX6_isTooShort_4 : decode cX6_isTooShort 4 = .ok (.aload_n 0, 1) := by decide +kernel
theorem dX6_isTooShort_5 : decode cX6_isTooShort 5 = .ok (.getfield 42, 3) := by decide +kernel
theorem dX6_isTooShort_8 : decode cX6_isTooShort 8 = .ok (.isub, 1) := by decide +kernel
theorem dX6_isTooShort_9 : decode cX6_isTooShort 9 = .ok (.aload_n 0, 1) := by decide +kernel
theorem dX6_isTooShort_10 : decode cX6_isTooShort 10 = .ok (.getfield 20, 3) := by decide +kernel
theorem dX6_isTooShort_13 : decode cX6_isTooShort 13 = .ok (.if_icmp .ge 7, 3) := by decide +kernel
theorem dX6_isTooShort_16 : decode cX6_isTooShort 16 = .ok (.iconst 1, 1) := by decide +kernel
theorem dX6_isTooShort_17 : decode cX6_isTooShort 17 = .ok (.goto 4, 3) := by decide +kernel
theorem dX6_isTooShort_20 : decode cX6_isTooShort 20 = .ok (.iconst 0, 1) := by decide +kernel
theorem dX6_isTooShort_21 : decode cX6_isTooShort 21 = .ok (.ireturn, 1) := by decide +kernel
theorem dX6_cut_0 : decode cX6_cut 0 = .ok (.aload_n 0, 1) := by decide +kernel
theorem dX6_cut_1 : decode cX6_cut 1 = .ok (.iload_n 3, 1) := by decide +kernel
theorem dX6_cut_2 : decode cX6_cut 2 = .ok (.putfield 42, 3) := by decide +kernel
theorem dX6_cut_5 : decode cX6_cut 5 = .ok (.aload_n 0, 1) := by decide +kernel
theorem dX6_cut_6 : decode cX6_cut 6 = .ok (.aload_n 1, 1) := by decide +kernel
theorem dX6_cut_7 : decode cX6_cut 7 = .ok (.iload_n 2, 1) := by decide +kernel
theorem dX6_cut_8 : decode cX6_cut 8 = .ok (.invokevirtual 48, 3) := by decide +kernel
theorem dX6_cut_11 : decode cX6_cut 11 = .ok (.putfield 45, 3) := by decide +kernel
theorem dX6_cut_14 : decode cX6_cut 14 = .ok (.aload_n 0, 1) := by decide +kernel
theorem dX6_cut_15 : decode cX6_cut 15 = .ok (.aload_n 1, 1) := by decide +kernel
theorem dX6_cut_16 : decode cX6_cut 16 = .ok (.iload_n 2, 1) := by decide +kernel
theorem dX6_cut_17 : decode cX6_cut 17 = .ok (.invokevirtual 54, 3) := by decide +kernel
theorem dX6_cut_20 : decode cX6_cut 20 = .ok (.aload_n 0, 1) := by decide +kernel
theorem dX6_cut_21 : decode cX6_cut 21 = .ok (.aload_n 1, 1) := by decide +kernel
theorem dX6_cut_22 : decode cX6_cut 22 = .ok (.iload_n 2, 1) := by decide +kernel
theorem dX6_cut_23 : decode cX6_cut 23 = .ok (.invokevirtual 58, 3) := by decide +kernel
theorem dX6_cut_26 : decode cX6_cut 26 = .ok (.aload_n 0, 1) := by decide +kernel
theorem dX6_cut_27 : decode cX6_cut 27 = .ok (.aload_n 1, 1) := by decide +kernel
theorem dX6_cut_28 : decode cX6_cut 28 = .ok (.iload_n 2, 1) := by decide +kernel
theorem dX6_cut_29 : decode cX6_cut 29 = .ok (.invokevirtual 61, 3) := by decide +kernel
theorem dX6_cut_32 : decode cX6_cut 32 = .ok (.aload_n 0, 1) := by decide +kernel
theorem dX6_cut_33 : decode cX6_cut 33 = .ok (.aload_n 1, 1) := by decide +kernel
theorem dX6_cut_34 : decode cX6_cut 34 = .ok (.iload_n 2, 1) := by decide +kernel
theorem dX6_cut_35 : decode cX6_cut 35 = .ok (.invokevirtual 64, 3) := by decide +kernel
theorem dX6_cut_38 : decode cX6_cut 38 = .ok (.return_, 1) := by decide +kernel
theorem dX6_cutAdapter_0 : decode cX6_cutAdapter 0 = .ok (.aload_n 0, 1) := by decide +kernel
theorem dX6_cutAdapter_1 : decode cX6_cutAdapter 1 = .ok (.getfield 14, 3) := by decide +kernel
theorem dX6_cutAdapter_4 : decode cX6_cutAdapter 4 = .ok (.invokevirtual 24, 3) := by decide +kernel
theorem dX6_cutAdapter_7 : decode cX6_cutAdapter 7 = .ok (.ifCond .ne 4, 3) := by decide +kernel
theorem dX6_cutAdapter_10 : decode cX6_cutAdapter 10 = .ok (.return_, 1) := by decide +kernel
theorem dX6_cutAdapter_11 : decode cX6_cutAdapter 11 = .ok (.aload_n 0, 1) := by decide +kernel
theorem dX6_cutAdapter_12 : decode cX6_cutAdapter 12 = .ok (.getfield 42, 3) := by decide +kernel
theorem dX6_cutAdapter_15 : decode cX6_cutAdapter 15 = .ok (.istore_n 3, 1) := by decide +kernel
theorem dX6_cutAdapter_16 : decode cX6_cutAdapter 16 = .ok (.iload_n 3, 1) := by decide +kernel
theorem dX6_cutAdapter_17 : decode cX6_cutAdapter 17 = .ok (.aload_n 0, 1) := by decide +kernel
theorem dX6_cutAdapter_18 : decode cX6_cutAdapter 18 = .ok (.getfield 45, 3) := by decide +kernel
theorem dX6_cutAdapter_21 : decode cX6_cutAdapter 21 = .ok (.iconst 3, 1) := by decide +kernel
theorem dX6_cutAdapter_22 : decode cX6_cutAdapter 22 = .ok (.isub, 1) := by decide +kernel
theorem dX6_cutAdapter_23 : decode cX6_cutAdapter 23 = .ok (.if_icmp .gt 25, 3) := by decide +kernel
theorem dX6_cutAdapter_26 : decode cX6_cutAdapter 26 = .ok (.aload_n 0, 1) := by decide +kernel
theorem dX6_cutAdapter_27 : decode cX6_cutAdapter 27 = .ok (.aload_n 1, 1) := by decide +kernel
theorem dX6_cutAdapter_28 : decode cX6_cutAdapter 28 = .ok (.iload_n 2, 1) := by decide +kernel
theorem dX6_cutAdapter_29 : decode cX6_cutAdapter 29 = .ok (.iload_n 3, 1) := by decide +kernel
theorem dX6_cutAdapter_30 : decode cX6_cutAdapter 30 = .ok (.invokevirtual 67, 3) := by decide +kernel
theorem dX6_cutAdapter_33 : decode cX6_cutAdapter 33 = .ok (.ifCond .eq 9, 3) := by decide +kernel
theorem dX6_cutAdapter_36 : decode cX6_cutAdapter 36 = .ok (.aload_n 0, 1) := by decide +kernel
theorem dX6_cutAdapter_37 : decode cX6_cutAdapter 37 = .ok (.iload_n 3, 1) := by decide +kernel
theorem dX6_cutAdapter_38 : decode cX6_cutAdapter 38 = .ok (.putfield 45, 3) := by decide +kernel
theorem dX6_cutAdapter_41 : decode cX6_cutAdapter 41 = .ok (.return_, 1) := by decide +kernel
theorem dX6_cutAdapter_42 : decode cX6_cutAdapter 42 = .ok (.iinc 3 1, 3) := by decide +kernel
theorem dX6_cutAdapter_45 : decode cX6_cutAdapter 45 = .ok (.goto (-29), 3) := by decide +kernel
theorem dX6_cutAdapter_48 : decode cX6_cutAdapter 48 = .ok (.return_, 1) := by decide +kernel
theorem dX6_adapterBegins_0 : decode cX6_adapterBegins 0 = .ok (.aload_n 0, 1) := by decide +kernel
theorem dX6_adapterBegins_1 : decode cX6_adapterBegins 1 = .ok (.getfield 14, 3) := by decide +kernel
theorem dX6_adapterBegins_4 : decode cX6_adapterBegins 4 = .ok (.invokevirtual 24, 3) := by decide +kernel
theorem dX6_adapterBegins_7 : decode cX6_adapterBegins 7 = .ok (.aload_n 0, 1) := by decide +kernel
theorem dX6_adapterBegins_8 : decode cX6_adapterBegins 8 = .ok (.getfield 45, 3) := by decide +kernel
theorem dX6_adapterBegins_11 : decode cX6_adapterBegins 11 = .ok (.iload_n 3, 1) := by decide +kernel
theorem dX6_adapterBegins_12 : decode cX6_adapterBegins 12 = .ok (.isub, 1) := by decide +kernel
theorem dX6_adapterBegins_13 : decode cX6_adapterBegins 13 = .ok (.invokestatic 71, 3) := by decide +kernel
theorem dX6_adapterBegins_16 : decode cX6_adapterBegins 16 = .ok (.istore 4, 2) := by decide +kernel
theorem dX6_adapterBegins_18 : decode cX6_adapterBegins 18 = .ok (.iload 4, 2) := by decide +kernel
theorem dX6_adapterBegins_20 : decode cX6_adapterBegins 20 = .ok (.iconst 5, 1) := by decide +kernel
theorem dX6_adapterBegins_21 : decode cX6_adapterBegins 21 = .ok (.idiv, 1) := by decide +kernel
theorem dX6_adapterBegins_22 : decode cX6_adapterBegins 22 = .ok (.istore 5, 2) := by decide +kernel
theorem dX6_adapterBegins_24 : decode cX6_adapterBegins 24 = .ok (.iconst 0, 1) := by decide +kernel
theorem dX6_adapterBegins_25 : decode cX6_adapterBegins 25 = .ok (.istore 6, 2) := by decide +kernel
theorem dX6_adapterBegins_27 : decode cX6_adapterBegins 27 = .ok (.iconst 0, 1) := by decide +kernel
theorem dX6_adapterBegins_28 : decode cX6_adapterBegins 28 = .ok (.istore 7, 2) := by decide +kernel
theorem dX6_adapterBegins_30 : decode cX6_adapterBegins 30 = .ok (.iload 7, 2) := by decide +kernel
theorem dX6_adapterBegins_32 : decode cX6_adapterBegins 32 = .ok (.iload 4, 2) := by decide +kernel
theorem dX6_adapterBegins_34 : decode cX6_adapterBegins 34 = .ok (.if_icmp .ge 40, 3) := by decide +kernel
theorem dX6_adapterBegins_37 : decode cX6_adapterBegins 37 = .ok (.iload 6, 2) := by decide +kernel
theorem dX6_adapterBegins_39 : decode cX6_adapterBegins 39 = .ok (.iload 5, 2) := by decide +kernel
theorem dX6_adapterBegins_41 : decode cX6_adapterBegins 41 = .ok (.if_icmp .gt 33, 3) := by decide +kernel
theorem dX6_adapterBegins_44 : decode cX6_adapterBegins 44 = .ok (.aload_n 0, 1) := by decide +kernel
theorem dX6_adapterBegins_45 : decode cX6_adapterBegins 45 = .ok (.getfield 14, 3) := by decide +kernel
theorem dX6_adapterBegins_48 : decode cX6_adapterBegins 48 = .ok (.iload 7, 2) := by decide +kernel
theorem dX6_adapterBegins_50 : decode cX6_adapterBegins 50 = .ok (.invokevirtual 77, 3) := by decide +kernel
theorem dX6_adapterBegins_53 : decode cX6_adapterBegins 53 = .ok (.aload_n 1, 1) := by decide +kernel
theorem dX6_adapterBegins_54 : decode cX6_adapterBegins 54 = .ok (.iload_n 2, 1) := by decide +kernel
theorem dX6_adapterBegins_55 : decode cX6_adapterBegins 55 = .ok (.iload_n 3, 1) := by decide +kernel
theorem dX6_adapterBegins_56 : decode cX6_adapterBegins 56 = .ok (.iload 7, 2) := by decide +kernel
theorem dX6_adapterBegins_58 : decode cX6_adapterBegins 58 = .ok (.iadd, 1) := by decide +kernel
theorem dX6_adapterBegins_59 : decode cX6_adapterBegins 59 = .ok (.invokevirtual 80, 3) := by decide +kernel
theorem dX6_adapterBegins_62 : decode cX6_adapterBegins 62 = .ok (.if_icmp .eq 6, 3) := by decide +kernel
theorem dX6_adapterBegins_65 : decode cX6_adapterBegins 65 = .ok (.iinc 6 1, 3) := by decide +kernel
theorem dX6_adapterBegins_68 : decode cX6_adapterBegins 68 = .ok (.iinc 7 1, 3) := by decide +kernel
theorem dX6_adapterBegins_71 : decode cX6_adapterBegins 71 = .ok (.goto (-41), 3) := by decide +kernel
theorem dX6_adapterBegins_74 : decode cX6_adapterBegins 74 = .ok (.iload 6, 2) := by decide +kernel
theorem dX6_adapterBegins_76 : decode cX6_adapterBegins 76 = .ok (.iload 5, 2) := by decide +kernel
theorem dX6_adapterBegins_78 : decode cX6_adapterBegins 78 = .ok (.if_icmp .gt 7, 3) := by decide +kernel
theorem dX6_adapterBegins_81 : decode cX6_adapterBegins 81 = .ok (.iconst 1, 1) := by decide +kernel
theorem dX6_adapterBegins_82 : decode cX6_adapterBegins 82 = .ok (.goto 4, 3) := by decide +kernel
theorem dX6_adapterBegins_85 : decode cX6_adapterBegins 85 = .ok (.iconst 0, 1) := by decide +kernel
theorem dX6_adapterBegins_86 : decode cX6_adapterBegins 86 = .ok (.ireturn, 1) := by decide +kernel
theorem dX6_cutWorstEnd_0 : decode cX6_cutWorstEnd 0 = .ok (.iconst 0, 1) := by decide +kernel
theorem dX6_cutWorstEnd_1 : decode cX6_cutWorstEnd 1 = .ok (.istore_n 3, 1) := by decide +kernel
theorem dX6_cutWorstEnd_2 : decode cX6_cutWorstEnd 2 = .ok (.iconst 0, 1) := by decide +kernel
theorem dX6_cutWorstEnd_3 : decode cX6_cutWorstEnd 3 = .ok (.istore 4, 2) := by decide +kernel
theorem dX6_cutWorstEnd_5 : decode cX6_cutWorstEnd 5 = .ok (.aload_n 0, 1) := by decide +kernel
theorem dX6_cutWorstEnd_6 : decode cX6_cutWorstEnd 6 = .ok (.getfield 45, 3) := by decide +kernel
theorem dX6_cutWorstEnd_9 : decode cX6_cutWorstEnd 9 = .ok (.istore 5, 2) := by decide +kernel
theorem dX6_cutWorstEnd_11 : decode cX6_cutWorstEnd 11 = .ok (.aload_n 0, 1) := by decide +kernel
theorem dX6_cutWorstEnd_12 : decode cX6_cutWorstEnd 12 = .ok (.getfield 45, 3) := by decide +kernel
theorem dX6_cutWorstEnd_15 : decode cX6_cutWorstEnd 15 = .ok (.iconst 1, 1) := by decide +kernel
theorem dX6_cutWorstEnd_16 : decode cX6_cutWorstEnd 16 = .ok (.isub, 1) := by decide +kernel
theorem dX6_cutWorstEnd_17 : decode cX6_cutWorstEnd 17 = .ok (.istore 6, 2) := by decide +kernel
theorem dX6_cutWorstEnd_19 : decode cX6_cutWorstEnd 19 = .ok (.iload 6, 2) := by decide +kernel
theorem dX6_cutWorstEnd_21 : decode cX6_cutWorstEnd 21 = .ok (.aload_n 0, 1) := by decide +kernel
theorem dX6_cutWorstEnd_22 : decode cX6_cutWorstEnd 22 = .ok (.getfield 42, 3) := by decide +kernel
theorem dX6_cutWorstEnd_25 : decode cX6_cutWorstEnd 25 = .ok (.if_icmp .lt 41, 3) := by decide +kernel
theorem dX6_cutWorstEnd_28 : decode cX6_cutWorstEnd 28 = .ok (.iload_n 3, 1) := by decide +kernel
theorem dX6_cutWorstEnd_29 : decode cX6_cutWorstEnd 29 = .ok (.ifCond .lt 37, 3) := by decide +kernel
theorem dX6_cutWorstEnd_32 : decode cX6_cutWorstEnd 32 = .ok (.iload_n 3, 1) := by decide +kernel
theorem dX6_cutWorstEnd_33 : decode cX6_cutWorstEnd 33 = .ok (.aload_n 0, 1) := by decide +kernel
theorem dX6_cutWorstEnd_34 : decode cX6_cutWorstEnd 34 = .ok (.getfield 39, 3) := by decide +kernel
theorem dX6_cutWorstEnd_37 : decode cX6_cutWorstEnd 37 = .ok (.aload_n 1, 1) := by decide +kernel
theorem dX6_cutWorstEnd_38 : decode cX6_cutWorstEnd 38 = .ok (.iload_n 2, 1) := by decide +kernel
theorem dX6_cutWorstEnd_39 : decode cX6_cutWorstEnd 39 = .ok (.iload 6, 2) := by decide +kernel
theorem dX6_cutWorstEnd_41 : decode cX6_cutWorstEnd 41 = .ok (.invokevirtual 83, 3) := by decide +kernel
theorem dX6_cutWorstEnd_44 : decode cX6_cutWorstEnd 44 = .ok (.isub, 1) := by decide +kernel
theorem dX6_cutWorstEnd_45 : decode cX6_cutWorstEnd 45 = .ok (.iadd, 1) := by decide +kernel
theorem dX6_cutWorstEnd_46 : decode cX6_cutWorstEnd 46 = .ok (.istore_n 3, 1) := by decide +kernel
theorem dX6_cutWorstEnd_47 : decode cX6_cutWorstEnd 47 = .ok (.iload_n 3, 1) := by decide +kernel
theorem dX6_cutWorstEnd_48 : decode cX6_cutWorstEnd 48 = .ok (.iload 4, 2) := by decide +kernel
theorem dX6_cutWorstEnd_50 : decode cX6_cutWorstEnd 50 = .ok (.if_icmp .le 10, 3) := by decide +kernel
theorem dX6_cutWorstEnd_53 : decode cX6_cutWorstEnd 53 = .ok (.iload_n 3, 1) := by decide +kernel
theorem dX6_cutWorstEnd_54 : decode cX6_cutWorstEnd 54 = .ok (.istore 4, 2) := by decide +kernel
theorem dX6_cutWorstEnd_56 : decode cX6_cutWorstEnd 56 = .ok (.iload 6, 2) := by decide +kernel
theorem dX6_cutWorstEnd_58 : decode cX6_cutWorstEnd 58 = .ok (.istore 5, 2) := by decide +kernel
theorem dX6_cutWorstEnd_60 : decode cX6_cutWorstEnd 60 = .ok (.iinc 6 (-1), 3) := by decide +kernel
theorem dX6_cutWorstEnd_63 : decode cX6_cutWorstEnd 63 = .ok (.goto (-44), 3) := by decide +kernel
theorem dX6_cutWorstEnd_66 : decode cX6_cutWorstEnd 66 = .ok (.aload_n 0, 1) := by decide +kernel
theorem dX6_cutWorstEnd_67 : decode cX6_cutWorstEnd 67 = .ok (.iload 5, 2) := by decide +kernel
theorem dX6_cutWorstEnd_69 : decode cX6_cutWorstEnd 69 = .ok (.putfield 45, 3) := by decide +kernel
theorem dX6_cutWorstEnd_72 : decode cX6_cutWorstEnd 72 = .ok (.return_, 1) := by decide +kernel
theorem dX6_cutWorstBegin_0 : decode cX6_cutWorstBegin 0 = .ok (.iconst 0, 1) := by decide +kernel
theorem dX6_cutWorstBegin_1 : decode cX6_cutWorstBegin 1 = .ok (.istore_n 3, 1) := by decide +kernel
theorem dX6_cutWorstBegin_2 : decode cX6_cutWorstBegin 2 = .ok (.iconst 0, 1) := by decide +kernel
theorem dX6_cutWorstBegin_3 : decode cX6_cutWorstBegin 3 = .ok (.istore 4, 2) := by decide +kernel
theorem dX6_cutWorstBegin_5 : decode cX6_cutWorstBegin 5 = .ok (.aload_n 0, 1) := by decide +kernel
theorem dX6_cutWorstBegin_6 : decode cX6_cutWorstBegin 6 = .ok (.getfield 42, 3) := by decide +kernel
theorem dX6_cutWorstBegin_9 : decode cX6_cutWorstBegin 9 = .ok (.istore 5, 2) := by decide +kernel
theorem dX6_cutWorstBegin_11 : decode cX6_cutWorstBegin 11 = .ok (.aload_n 0, 1) := by decide +kernel
theorem dX6_cutWorstBegin_12 : decode cX6_cutWorstBegin 12 = .ok (.getfield 42, 3) := by decide +kernel
theorem dX6_cutWorstBegin_15 : decode cX6_cutWorstBegin 15 = .ok (.istore 6, 2) := by decide +kernel
theorem dX6_cutWorstBegin_17 : decode cX6_cutWorstBegin 17 = .ok (.iload 6, 2) := by decide +kernel
theorem dX6_cutWorstBegin_19 : decode cX6_cutWorstBegin 19 = .ok (.aload_n 0, 1) := by decide +kernel
theorem dX6_cutWorstBegin_20 : decode cX6_cutWorstBegin 20 = .ok (.getfield 45, 3) := by decide +kernel
theorem dX6_cutWorstBegin_23 : decode cX6_cutWorstBegin 23 = .ok (.if_icmp .ge 43, 3) := by decide +kernel
theorem dX6_cutWorstBegin_26 : decode cX6_cutWorstBegin 26 = .ok (.iload_n 3, 1) := by decide +kernel
theorem dX6_cutWorstBegin_27 : decode cX6_cutWorstBegin 27 = .ok (.ifCond .lt 39, 3) := by decide +kernel
theorem dX6_cutWorstBegin_30 : decode cX6_cutWorstBegin 30 = .ok (.iload_n 3, 1) := by decide +kernel
theorem dX6_cutWorstBegin_31 : decode cX6_cutWorstBegin 31 = .ok (.aload_n 0, 1) := by decide +kernel
theorem dX6_cutWorstBegin_32 : decode cX6_cutWorstBegin 32 = .ok (.getfield 36, 3) := by decide +kernel
theorem dX6_cutWorstBegin_35 : decode cX6_cutWorstBegin 35 = .ok (.aload_n 1, 1) := by decide +kernel
theorem dX6_cutWorstBegin_36 : decode cX6_cutWorstBegin 36 = .ok (.iload_n 2, 1) := by decide +kernel
theorem dX6_cutWorstBegin_37 : decode cX6_cutWorstBegin 37 = .ok (.iload 6, 2) := by decide +kernel
theorem dX6_cutWorstBegin_39 : decode cX6_cutWorstBegin 39 = .ok (.invokevirtual 83, 3) := by decide +kernel
theorem dX6_cutWorstBegin_42 : decode cX6_cutWorstBegin 42 = .ok (.isub, 1) := by decide +kernel
theorem dX6_cutWorstBegin_43 : decode cX6_cutWorstBegin 43 = .ok (.iadd, 1) := by decide +kernel
theorem dX6_cutWorstBegin_44 : decode cX6_cutWorstBegin 44 = .ok (.istore_n 3, 1) := by decide +kernel
theorem dX6_cutWorstBegin_45 : decode cX6_cutWorstBegin 45 = .ok (.iload_n 3, 1) := by decide +kernel
theorem dX6_cutWorstBegin_46 : decode cX6_cutWorstBegin 46 = .ok (.iload 4, 2) := by decide +kernel
theorem dX6_cutWorstBegin_48 : decode cX6_cutWorstBegin 48 = .ok (.if_icmp .le 12, 3) := by decide +kernel
theorem dX6_cutWorstBegin_51 : decode cX6_cutWorstBegin 51 = .ok (.iload_n 3, 1) := by decide +kernel
theorem dX6_cutWorstBegin_52 : decode cX6_cutWorstBegin 52 = .ok (.istore 4, 2) := by decide +kernel
theorem dX6_cutWorstBegin_54 : decode cX6_cutWorstBegin 54 = .ok (.iload 6, 2) := by decide +kernel
theorem dX6_cutWorstBegin_56 : decode cX6_cutWorstBegin 56 = .ok (.iconst 1, 1) := by decide +kernel
theorem dX6_cutWorstBegin_57 : decode cX6_cutWorstBegin 57 = .ok (.iadd, 1) := by decide +kernel
theorem dX6_cutWorstBegin_58 : decode cX6_cutWorstBegin 58 = .ok (.istore 5, 2) := by decide +kernel
theorem dX6_cutWorstBegin_60 : decode cX6_cutWorstBegin 60 = .ok (.iinc 6 1, 3) := by decide +kernel
theorem dX6_cutWorstBegin_63 : decode cX6_cutWorstBegin 63 = .ok (.goto (-46), 3) := by decide +kernel
theorem dX6_cutWorstBegin_66 : decode cX6_cutWorstBegin 66 = .ok (.aload_n 0, 1) := by decide +kernel
theorem dX6_cutWorstBegin_67 : decode cX6_cutWorstBegin 67 = .ok (.iload 5, 2) := by decide +kernel
theorem dX6_cutWorstBegin_69 : decode cX6_cutWorstBegin 69 = .ok (.putfield 42, 3) := by decide +kernel
theorem dX6_cutWorstBegin_72 : decode cX6_cutWorstBegin 72 = .ok (.return_, 1) := by decide +kernel
theorem dX6_cutUnknown_0 : decode cX6_cutUnknown 0 = .ok (.aload_n 0, 1) := by decide +kernel
theorem dX6_cutUnknown_1 : decode cX6_cutUnknown 1 = .ok (.getfield 42, 3) := by decide +kernel
theorem dX6_cutUnknown_4 : decode cX6_cutUnknown 4 = .ok (.aload_n 0, 1) := by decide +kernel
theorem dX6_cutUnknown_5 : decode cX6_cutUnknown 5 = .ok (.getfield 45, 3) := by decide +kernel
theorem dX6_cutUnknown_8 : decode cX6_cutUnknown 8 = .ok (.if_icmp .ge 30, 3) := by decide +kernel
theorem dX6_cutUnknown_11 : decode cX6_cutUnknown 11 = .ok (.aload_n 1, 1) := by decide +kernel
theorem dX6_cutUnknown_12 : decode cX6_cutUnknown 12 = .ok (.iload_n 2, 1) := by decide +kernel
theorem dX6_cutUnknown_13 : decode cX6_cutUnknown 13 = .ok (.aload_n 0, 1) := by decide +kernel
theorem dX6_cutUnknown_14 : decode cX6_cutUnknown 14 = .ok (.getfield 42, 3) := by decide +kernel
theorem dX6_cutUnknown_17 : decode cX6_cutUnknown 17 = .ok (.invokevirtual 80, 3) := by decide +kernel
theorem dX6_cutUnknown_20 : decode cX6_cutUnknown 20 = .ok (.bipush 78, 2) := by decide +kernel
theorem dX6_cutUnknown_22 : decode cX6_cutUnknown 22 = .ok (.if_icmp .ne 16, 3) := by decide +kernel
theorem dX6_cutUnknown_25 : decode cX6_cutUnknown 25 = .ok (.aload_n 0, 1) := by decide +kernel
theorem dX6_cutUnknown_26 : decode cX6_cutUnknown 26 = .ok (.dup, 1) := by decide +kernel
theorem dX6_cutUnknown_27 : decode cX6_cutUnknown 27 = .ok (.getfield 42, 3) := by decide +kernel
theorem dX6_cutUnknown_30 : decode cX6_cutUnknown 30 = .ok (.iconst 1, 1) := by decide +kernel
theorem dX6_cutUnknown_31 : decode cX6_cutUnknown 31 = .ok (.iadd, 1) := by decide +kernel
theorem dX6_cutUnknown_32 : decode cX6_cutUnknown 32 = .ok (.putfield 42, 3) := by decide +kernel
theorem dX6_cutUnknown_35 : decode cX6_cutUnknown 35 = .ok (.goto (-35), 3) := by decide +kernel
theorem dX6_cutUnknown_38 : decode cX6_cutUnknown 38 = .ok (.aload_n 0, 1) := by decide +kernel
theorem dX6_cutUnknown_39 : decode cX6_cutUnknown 39 = .ok (.getfield 42, 3) := by decide +kernel
theorem dX6_cutUnknown_42 : decode cX6_cutUnknown 42 = .ok (.aload_n 0, 1) := by decide +kernel
theorem dX6_cutUnknown_43 : decode cX6_cutUnknown 43 = .ok (.getfield 45, 3) := by decide +kernel
theorem dX6_cutUnknown_46 : decode cX6_cutUnknown 46 = .ok (.if_icmp .ge 32, 3) := by decide +kernel
theorem dX6_cutUnknown_49 : decode cX6_cutUnknown 49 = .ok (.aload_n 1, 1) := by decide +kernel
theorem dX6_cutUnknown_50 : decode cX6_cutUnknown 50 = .ok (.iload_n 2, 1) := by decide +kernel
theorem dX6_cutUnknown_51 : decode cX6_cutUnknown 51 = .ok (.aload_n 0, 1) := by decide +kernel
theorem dX6_cutUnknown_52 : decode cX6_cutUnknown 52 = .ok (.getfield 45, 3) := by decide +kernel
theorem dX6_cutUnknown_55 : decode cX6_cutUnknown 55 = .ok (.iconst 1, 1) := by decide +kernel
theorem dX6_cutUnknown_56 : decode cX6_cutUnknown 56 = .ok (.isub, 1) := by decide +kernel
theorem dX6_cutUnknown_57 : decode cX6_cutUnknown 57 = .ok (.invokevirtual 80, 3) := by decide +kernel
theorem dX6_cutUnknown_60 : decode cX6_cutUnknown 60 = .ok (.bipush 78, 2) := by decide +kernel
theorem dX6_cutUnknown_62 : decode cX6_cutUnknown 62 = .ok (.if_icmp .ne 16, 3) := by decide +kernel
theorem dX6_cutUnknown_65 : decode cX6_cutUnknown 65 = .ok (.aload_n 0, 1) := by decide +kernel
theorem dX6_cutUnknown_66 : decode cX6_cutUnknown 66 = .ok (.dup, 1) := by decide +kernel
theorem dX6_cutUnknown_67 : decode cX6_cutUnknown 67 = .ok (.getfield 45, 3) := by decide +kernel
theorem dX6_cutUnknown_70 : decode cX6_cutUnknown 70 = .ok (.iconst 1, 1) := by decide +kernel
theorem dX6_cutUnknown_71 : decode cX6_cutUnknown 71 = .ok (.isub, 1) := by decide +kernel
theorem dX6_cutUnknown_72 : decode cX6_cutUnknown 72 = .ok (.putfield 45, 3) := by decide +kernel
theorem dX6_cutUnknown_75 : decode cX6_cutUnknown 75 = .ok (.goto (-37), 3) := by decide +kernel
theorem dX6_cutUnknown_78 : decode cX6_cutUnknown 78 = .ok (.return_, 1) := by decide +kernel
theorem dX7_sizeOfRead_0 : decode cX7_sizeOfRead 0 = .ok (.iload_n 2, 1) := by decide +kernel
theorem dX7_sizeOfRead_1 : decode cX7_sizeOfRead 1 = .ok (.ifCond .ne 12, 3) := by decide +kernel
theorem dX7_sizeOfRead_4 : decode cX7_sizeOfRead 4 = .ok (.iload_n 0, 1) := by decide +kernel
theorem dX7_sizeOfRead_5 : decode cX7_sizeOfRead 5 = .ok (.iconst 2, 1) := by decide +kernel
theorem dX7_sizeOfRead_6 : decode cX7_sizeOfRead 6 = .ok (.iload_n 1, 1) := by decide +kernel
theorem dX7_sizeOfRead_7 : decode cX7_sizeOfRead 7 = .ok (.imul, 1) := by decide +kernel
theorem dX7_sizeOfRead_8 : decode cX7_sizeOfRead 8 = .ok (.iadd, 1) := by decide +kernel
theorem dX7_sizeOfRead_9 : decode cX7_sizeOfRead 9 = .ok (.bipush 6, 2) := by decide +kernel
theorem dX7_sizeOfRead_11 : decode cX7_sizeOfRead 11 = .ok (.iadd, 1) := by decide +kernel
theorem dX7_sizeOfRead_12 : decode cX7_sizeOfRead 12 = .ok (.ireturn, 1) := by decide +kernel
theorem dX7_sizeOfRead_13 : decode cX7_sizeOfRead 13 = .ok (.iload_n 1, 1) := by decide +kernel
theorem dX7_sizeOfRead_14 : decode cX7_sizeOfRead 14 = .ok (.bipush 60, 2) := by decide +kernel
theorem dX7_sizeOfRead_16 : decode cX7_sizeOfRead 16 = .ok (.iadd, 1) := by decide +kernel
theorem dX7_sizeOfRead_17 : decode cX7_sizeOfRead 17 = .ok (.iconst 1, 1) := by decide +kernel
theorem dX7_sizeOfRead_18 : decode cX7_sizeOfRead 18 = .ok (.isub, 1) := by decide +kernel
theorem dX7_sizeOfRead_19 : decode cX7_sizeOfRead 19 = .ok (.bipush 60, 2) := by decide +kernel
theorem dX7_sizeOfRead_21 : decode cX7_sizeOfRead 21 = .ok (.idiv, 1) := by decide +kernel
theorem dX7_sizeOfRead_22 : decode cX7_sizeOfRead 22 = .ok (.istore_n 3, 1) := by decide +kernel
theorem dX7_sizeOfRead_23 : decode cX7_sizeOfRead 23 = .ok (.iload_n 0, 1) := by decide +kernel
theorem dX7_sizeOfRead_24 : decode cX7_sizeOfRead 24 = .ok (.iload_n 1, 1) := by decide +kernel
theorem dX7_sizeOfRead_25 : decode cX7_sizeOfRead 25 = .ok (.iadd, 1) := by decide +kernel
theorem dX7_sizeOfRead_26 : decode cX7_sizeOfRead 26 = .ok (.iload_n 3, 1) := by decide +kernel
theorem dX7_sizeOfRead_27 : decode cX7_sizeOfRead 27 = .ok (.iadd, 1) := by decide +kernel
theorem dX7_sizeOfRead_28 : decode cX7_sizeOfRead 28 = .ok (.iconst 2, 1) := by decide +kernel
theorem dX7_sizeOfRead_29 : decode cX7_sizeOfRead 29 = .ok (.iadd, 1) := by decide +kernel
theorem dX7_sizeOfRead_30 : decode cX7_sizeOfRead 30 = .ok (.ireturn, 1) := by decide +kernel
theorem dX7_putRead_0 : decode cX7_putRead 0 = .ok (.aload_n 0, 1) := by decide +kernel
theorem dX7_putRead_1 : decode cX7_putRead 1 = .ok (.iload_n 3, 1) := by decide +kernel
theorem dX7_putRead_2 : decode cX7_putRead 2 = .ok (.ifCond .ne 8, 3) := by decide +kernel
theorem dX7_putRead_5 : decode cX7_putRead 5 = .ok (.bipush 64, 2) := by decide +kernel
theorem dX7_putRead_7 : decode cX7_putRead 7 = .ok (.goto 5, 3) := by decide +kernel
theorem dX7_putRead_10 : decode cX7_putRead 10 = .ok (.bipush 62, 2) := by decide +kernel
theorem dX7_putRead_12 : decode cX7_putRead 12 = .ok (.invokevirtual 9, 3) := by decide +kernel
theorem dX7_putRead_15 : decode cX7_putRead 15 = .ok (.aload_n 0, 1) := by decide +kernel
theorem dX7_putRead_16 : decode cX7_putRead 16 = .ok (.aload_n 1, 1) := by decide +kernel
theorem dX7_putRead_17 : decode cX7_putRead 17 = .ok (.iload_n 2, 1) := by decide +kernel
theorem dX7_putRead_18 : decode cX7_putRead 18 = .ok (.invokestatic 15, 3) := by decide +kernel
theorem dX7_putRead_21 : decode cX7_putRead 21 = .ok (.iload_n 3, 1) := by decide +kernel
theorem dX7_putRead_22 : decode cX7_putRead 22 = .ok (.ifCond .ne 38, 3) := by decide +kernel
theorem dX7_putRead_25 : decode cX7_putRead 25 = .ok (.aload_n 0, 1) := by decide +kernel
theorem dX7_putRead_26 : decode cX7_putRead 26 = .ok (.aload_n 1, 1) := by decide +kernel
theorem dX7_putRead_27 : decode cX7_putRead 27 = .ok (.iload_n 2, 1) := by decide +kernel
theorem dX7_putRead_28 : decode cX7_putRead 28 = .ok (.iload 4, 2) := by decide +kernel
theorem dX7_putRead_30 : decode cX7_putRead 30 = .ok (.iload 5, 2) := by decide +kernel
theorem dX7_putRead_32 : decode cX7_putRead 32 = .ok (.invokestatic 21, 3) := by decide +kernel
theorem dX7_putRead_35 : decode cX7_putRead 35 = .ok (.aload_n 0, 1) := by decide +kernel
theorem dX7_putRead_36 : decode cX7_putRead 36 = .ok (.bipush 43, 2) := by decide +kernel
theorem dX7_putRead_38 : decode cX7_putRead 38 = .ok (.invokevirtual 9, 3) := by decide +kernel
theorem dX7_putRead_41 : decode cX7_putRead 41 = .ok (.aload_n 0, 1) := by decide +kernel
theorem dX7_putRead_42 : decode cX7_putRead 42 = .ok (.bipush 10, 2) := by decide +kernel
theorem dX7_putRead_44 : decode cX7_putRead 44 = .ok (.invokevirtual 9, 3) := by decide +kernel
theorem dX7_putRead_47 : decode cX7_putRead 47 = .ok (.aload_n 0, 1) := by decide +kernel
theorem dX7_putRead_48 : decode cX7_putRead 48 = .ok (.aload_n 1, 1) := by decide +kernel
theorem dX7_putRead_49 : decode cX7_putRead 49 = .ok (.iload_n 2, 1) := by decide +kernel
theorem dX7_putRead_50 : decode cX7_putRead 50 = .ok (.iload 4, 2) := by decide +kernel
theorem dX7_putRead_52 : decode cX7_putRead 52 = .ok (.iload 5, 2) := by decide +kernel
theorem dX7_putRead_54 : decode cX7_putRead 54 = .ok (.invokestatic 25, 3) := by decide +kernel
theorem dX7_putRead_57 : decode cX7_putRead 57 = .ok (.goto 38, 3) := by decide +kernel
theorem dX7_putRead_60 : decode cX7_putRead 60 = .ok (.iload 4, 2) := by decide +kernel
theorem dX7_putRead_62 : decode cX7_putRead 62 = .ok (.istore 6, 2) := by decide +kernel
theorem dX7_putRead_64 : decode cX7_putRead 64 = .ok (.iload 6, 2) := by decide +kernel
theorem dX7_putRead_66 : decode cX7_putRead 66 = .ok (.iload 5, 2) := by decide +kernel
theorem dX7_putRead_68 : decode cX7_putRead 68 = .ok (.if_icmp .ge 27, 3) := by decide +kernel
theorem dX7_putRead_71 : decode cX7_putRead 71 = .ok (.aload_n 0, 1) := by decide +kernel
theorem dX7_putRead_72 : decode cX7_putRead 72 = .ok (.aload_n 1, 1) := by decide +kernel
theorem dX7_putRead_73 : decode cX7_putRead 73 = .ok (.iload_n 2, 1) := by decide +kernel
theorem dX7_putRead_74 : decode cX7_putRead 74 = .ok (.iload 6, 2) := by decide +kernel
theorem dX7_putRead_76 : decode cX7_putRead 76 = .ok (.iload 6, 2) := by decide +kernel
theorem dX7_putRead_78 : decode cX7_putRead 78 = .ok (.bipush 60, 2) := by decide +kernel
theorem dX7_putRead_80 : decode cX7_putRead 80 = .ok (.iadd, 1) := by decide +kernel
theorem dX7_putRead_81 : decode cX7_putRead 81 = .ok (.iload 5, 2) := by decide +kernel
theorem dX7_putRead_83 : decode cX7_putRead 83 = .ok (.invokestatic 28, 3) := by decide +kernel
theorem dX7_putRead_86 : decode cX7_putRead 86 = .ok (.invokestatic 21, 3) := by decide +kernel
theorem dX7_putRead_89 : decode cX7_putRead 89 = .ok (.iinc 6 60, 3) := by decide +kernel
theorem dX7_putRead_92 : decode cX7_putRead 92 = .ok (.goto (-28), 3) := by decide +kernel
theorem dX7_putRead_95 : decode cX7_putRead 95 = .ok (.return_, 1) := by decide +kernel
theorem dX7_putName_0 : decode cX7_putName 0 = .ok (.iconst 0, 1) := by decide +kernel
theorem dX7_putName_1 : decode cX7_putName 1 = .ok (.istore_n 3, 1) := by decide +kernel
theorem dX7_putName_2 : decode cX7_putName 2 = .ok (.iload_n 3, 1) := by decide +kernel
theorem dX7_putName_3 : decode cX7_putName 3 = .ok (.aload_n 1, 1) := by decide +kernel
theorem dX7_putName_4 : decode cX7_putName 4 = .ok (.iload_n 2, 1) := by decide +kernel
theorem dX7_putName_5 : decode cX7_putName 5 = .ok (.invokevirtual 34, 3) := by decide +kernel
theorem dX7_putName_8 : decode cX7_putName 8 = .ok (.if_icmp .ge 19, 3) := by decide +kernel
theorem dX7_putName_11 : decode cX7_putName 11 = .ok (.aload_n 0, 1) := by decide +kernel
theorem dX7_putName_12 : decode cX7_putName 12 = .ok (.aload_n 1, 1) := by decide +kernel
theorem dX7_putName_13 : decode cX7_putName 13 = .ok (.iload_n 2, 1) := by decide +kernel
theorem dX7_putName_14 : decode cX7_putName 14 = .ok (.iload_n 3, 1) := by decide +kernel
theorem dX7_putName_15 : decode cX7_putName 15 = .ok (.invokevirtual 40, 3) := by decide +kernel
theorem dX7_putName_18 : decode cX7_putName 18 = .ok (.invokevirtual 9, 3) := by decide +kernel
theorem dX7_putName_21 : decode cX7_putName 21 = .ok (.iinc 3 1, 3) := by decide +kernel
theorem dX7_putName_24 : decode cX7_putName 24 = .ok (.goto (-22), 3) := by decide +kernel
theorem dX7_putName_27 : decode cX7_putName 27 = .ok (.aload_n 0, 1) := by decide +kernel
theorem dX7_putName_28 : decode cX7_putName 28 = .ok (.bipush 10, 2) := by decide +kernel
theorem dX7_putName_30 : decode cX7_putName 30 = .ok (.invokevirtual 9, 3) := by decide +kernel
theorem dX7_putName_33 : decode cX7_putName 33 = .ok (.return_, 1) := by decide +kernel
theorem dX7_putLetters_0 : decode cX7_putLetters 0 = .ok (.iload_n 3, 1) := by decide +kernel
theorem dX7_putLetters_1 : decode cX7_putLetters 1 = .ok (.istore 5, 2) := by decide +kernel
theorem dX7_putLetters_3 : decode cX7_putLetters 3 = .ok (.iload 5, 2) := by decide +kernel
theorem dX7_putLetters_5 : decode cX7_putLetters 5 = .ok (.iload 4, 2) := by decide +kernel
theorem dX7_putLetters_7 : decode cX7_putLetters 7 = .ok (.if_icmp .ge 20, 3) := by decide +kernel
theorem dX7_putLetters_10 : decode cX7_putLetters 10 = .ok (.aload_n 0, 1) := by decide +kernel
theorem dX7_putLetters_11 : decode cX7_putLetters 11 = .ok (.aload_n 1, 1) := by decide +kernel
theorem dX7_putLetters_12 : decode cX7_putLetters 12 = .ok (.iload_n 2, 1) := by decide +kernel
theorem dX7_putLetters_13 : decode cX7_putLetters 13 = .ok (.iload 5, 2) := by decide +kernel
theorem dX7_putLetters_15 : decode cX7_putLetters 15 = .ok (.invokevirtual 43, 3) := by decide +kernel
theorem dX7_putLetters_18 : decode cX7_putLetters 18 = .ok (.invokevirtual 9, 3) := by decide +kernel
theorem dX7_putLetters_21 : decode cX7_putLetters 21 = .ok (.iinc 5 1, 3) := by decide +kernel
theorem dX7_putLetters_24 : decode cX7_putLetters 24 = .ok (.goto (-21), 3) := by decide +kernel
theorem dX7_putLetters_27 : decode cX7_putLetters 27 = .ok (.aload_n 0, 1) := by decide +kernel
theorem dX7_putLetters_28 : decode cX7_putLetters 28 = .ok (.bipush 10, 2) := by decide +kernel
theorem dX7_putLetters_30 : decode cX7_putLetters 30 = .ok (.invokevirtual 9, 3) := by decide +kernel
theorem dX7_putLetters_33 : decode cX7_putLetters 33 = .ok (.return_, 1) := by decide +kernel
theorem dX7_putQualities_0 : decode cX7_putQualities 0 = .ok (.iload_n 3, 1) := by decide +kernel
theorem dX7_putQualities_1 : decode cX7_putQualities 1 = .ok (.istore 5, 2) := by decide +kernel
theorem dX7_putQualities_3 : decode cX7_putQualities 3 = .ok (.iload 5, 2) := by decide +kernel
theorem dX7_putQualities_5 : decode cX7_putQualities 5 = .ok (.iload 4, 2) := by decide +kernel
theorem dX7_putQualities_7 : decode cX7_putQualities 7 = .ok (.if_icmp .ge 23, 3) := by decide +kernel
theorem dX7_putQualities_10 : decode cX7_putQualities 10 = .ok (.aload_n 0, 1) := by decide +kernel
theorem dX7_putQualities_11 : decode cX7_putQualities 11 = .ok (.bipush 33, 2) := by decide +kernel
theorem dX7_putQualities_13 : decode cX7_putQualities 13 = .ok (.aload_n 1, 1) := by decide +kernel
theorem dX7_putQualities_14 : decode cX7_putQualities 14 = .ok (.iload_n 2, 1) := by decide +kernel
theorem dX7_putQualities_15 : decode cX7_putQualities 15 = .ok (.iload 5, 2) := by decide +kernel
theorem dX7_putQualities_17 : decode cX7_putQualities 17 = .ok (.invokevirtual 46, 3) := by decide +kernel
theorem dX7_putQualities_20 : decode cX7_putQualities 20 = .ok (.iadd, 1) := by decide +kernel
theorem dX7_putQualities_21 : decode cX7_putQualities 21 = .ok (.invokevirtual 9, 3) := by decide +kernel
theorem dX7_putQualities_24 : decode cX7_putQualities 24 = .ok (.iinc 5 1, 3) := by decide +kernel
theorem dX7_putQualities_27 : decode cX7_putQualities 27 = .ok (.goto (-24), 3) := by decide +kernel
theorem dX7_putQualities_30 : decode cX7_putQualities 30 = .ok (.aload_n 0, 1) := by decide +kernel
theorem dX7_putQualities_31 : decode cX7_putQualities 31 = .ok (.bipush 10, 2) := by decide +kernel
theorem dX7_putQualities_33 : decode cX7_putQualities 33 = .ok (.invokevirtual 9, 3) := by decide +kernel
theorem dX7_putQualities_36 : decode cX7_putQualities 36 = .ok (.return_, 1) := by decide +kernel
theorem dX8_init_0 : decode cX8_init 0 = .ok (.aload_n 0, 1) := by decide +kernel
theorem dX8_init_1 : decode cX8_init 1 = .ok (.invokespecial 1, 3) := by decide +kernel
theorem dX8_init_4 : decode cX8_init 4 = .ok (.aload_n 0, 1) := by decide +kernel
theorem dX8_init_5 : decode cX8_init 5 = .ok (.new 7, 3) := by decide +kernel
theorem dX8_init_8 : decode cX8_init 8 = .ok (.dup, 1) := by decide +kernel
theorem dX8_init_9 : decode cX8_init 9 = .ok (.sipush 6000, 3) := by decide +kernel
theorem dX8_init_12 : decode cX8_init 12 = .ok (.invokespecial 11, 3) := by decide +kernel
theorem dX8_init_15 : decode cX8_init 15 = .ok (.putfield 14, 3) := by decide +kernel
theorem dX8_init_18 : decode cX8_init 18 = .ok (.aload_n 0, 1) := by decide +kernel
theorem dX8_init_19 : decode cX8_init 19 = .ok (.new 7, 3) := by decide +kernel
theorem dX8_init_22 : decode cX8_init 22 = .ok (.dup, 1) := by decide +kernel
theorem dX8_init_23 : decode cX8_init 23 = .ok (.sipush 12000, 3) := by decide +kernel
theorem dX8_init_26 : decode cX8_init 26 = .ok (.invokespecial 11, 3) := by decide +kernel
theorem dX8_init_29 : decode cX8_init 29 = .ok (.putfield 18, 3) := by decide +kernel
theorem dX8_init_32 : decode cX8_init 32 = .ok (.aload_n 0, 1) := by decide +kernel
theorem dX8_init_33 : decode cX8_init 33 = .ok (.new 21, 3) := by decide +kernel
theorem dX8_init_36 : decode cX8_init 36 = .ok (.dup, 1) := by decide +kernel
theorem dX8_init_37 : decode cX8_init 37 = .ok (.invokespecial 23, 3) := by decide +kernel
theorem dX8_init_40 : decode cX8_init 40 = .ok (.putfield 24, 3) := by decide +kernel
theorem dX8_init_43 : decode cX8_init 43 = .ok (.aload_n 0, 1) := by decide +kernel
theorem dX8_init_44 : decode cX8_init 44 = .ok (.new 28, 3) := by decide +kernel
theorem dX8_init_47 : decode cX8_init 47 = .ok (.dup, 1) := by decide +kernel
theorem dX8_init_48 : decode cX8_init 48 = .ok (.invokespecial 30, 3) := by decide +kernel
theorem dX8_init_51 : decode cX8_init 51 = .ok (.putfield 31, 3) := by decide +kernel
theorem dX8_init_54 : decode cX8_init 54 = .ok (.aload_n 0, 1) := by decide +kernel
theorem dX8_init_55 : decode cX8_init 55 = .ok (.new 35, 3) := by decide +kernel
theorem dX8_init_58 : decode cX8_init 58 = .ok (.dup, 1) := by decide +kernel
theorem dX8_init_59 : decode cX8_init 59 = .ok (.invokespecial 37, 3) := by decide +kernel
theorem dX8_init_62 : decode cX8_init 62 = .ok (.putfield 38, 3) := by decide +kernel
theorem dX8_init_65 : decode cX8_init 65 = .ok (.aload_n 0, 1) := by decide +kernel
theorem dX8_init_66 : decode cX8_init 66 = .ok (.new 42, 3) := by decide +kernel
theorem dX8_init_69 : decode cX8_init 69 = .ok (.dup, 1) := by decide +kernel
theorem dX8_init_70 : decode cX8_init 70 = .ok (.invokespecial 44, 3) := by decide +kernel
theorem dX8_init_73 : decode cX8_init 73 = .ok (.putfield 45, 3) := by decide +kernel
theorem dX8_init_76 : decode cX8_init 76 = .ok (.aload_n 0, 1) := by decide +kernel
theorem dX8_init_77 : decode cX8_init 77 = .ok (.new 49, 3) := by decide +kernel
theorem dX8_init_80 : decode cX8_init 80 = .ok (.dup, 1) := by decide +kernel
theorem dX8_init_81 : decode cX8_init 81 = .ok (.invokespecial 51, 3) := by decide +kernel
theorem dX8_init_84 : decode cX8_init 84 = .ok (.putfield 52, 3) := by decide +kernel
theorem dX8_init_87 : decode cX8_init 87 = .ok (.aload_n 0, 1) := by decide +kernel
theorem dX8_init_88 : decode cX8_init 88 = .ok (.iconst (-1), 1) := by decide +kernel
theorem dX8_init_89 : decode cX8_init 89 = .ok (.putfield 56, 3) := by decide +kernel
theorem dX8_init_92 : decode cX8_init 92 = .ok (.return_, 1) := by decide +kernel
theorem dX8_feed_0 : decode cX8_feed 0 = .ok (.iload_n 1, 1) := by decide +kernel
theorem dX8_feed_1 : decode cX8_feed 1 = .ok (.iconst 1, 1) := by decide +kernel
theorem dX8_feed_2 : decode cX8_feed 2 = .ok (.if_icmp .lt 20, 3) := by decide +kernel
theorem dX8_feed_5 : decode cX8_feed 5 = .ok (.iload_n 1, 1) := by decide +kernel
theorem dX8_feed_6 : decode cX8_feed 6 = .ok (.bipush 8, 2) := by decide +kernel
theorem dX8_feed_8 : decode cX8_feed 8 = .ok (.if_icmp .gt 14, 3) := by decide +kernel
theorem dX8_feed_11 : decode cX8_feed 11 = .ok (.iload_n 1, 1) := by decide +kernel
theorem dX8_feed_12 : decode cX8_feed 12 = .ok (.aload_n 0, 1) := by decide +kernel
theorem dX8_feed_13 : decode cX8_feed 13 = .ok (.getfield 14, 3) := by decide +kernel
theorem dX8_feed_16 : decode cX8_feed 16 = .ok (.invokevirtual 60, 3) := by decide +kernel
theorem dX8_feed_19 : decode cX8_feed 19 = .ok (.if_icmp .le 13, 3) := by decide +kernel
theorem dX8_feed_22 : decode cX8_feed 22 = .ok (.new 64, 3) := by decide +kernel
theorem dX8_feed_25 : decode cX8_feed 25 = .ok (.dup, 1) := by decide +kernel
theorem dX8_feed_26 : decode cX8_feed 26 = .ok (.ldc 66, 2) := by decide +kernel
theorem dX8_feed_28 : decode cX8_feed 28 = .ok (.invokespecial 68, 3) := by decide +kernel
theorem dX8_feed_31 : decode cX8_feed 31 = .ok (.athrow, 1) := by decide +kernel
theorem dX8_feed_32 : decode cX8_feed 32 = .ok (.iconst 0, 1) := by decide +kernel
theorem dX8_feed_33 : decode cX8_feed 33 = .ok (.istore 4, 2) := by decide +kernel
theorem dX8_feed_35 : decode cX8_feed 35 = .ok (.iload 4, 2) := by decide +kernel
theorem dX8_feed_37 : decode cX8_feed 37 = .ok (.iload_n 1, 1) := by decide +kernel
theorem dX8_feed_38 : decode cX8_feed 38 = .ok (.if_icmp .ge 28, 3) := by decide +kernel
theorem dX8_feed_41 : decode cX8_feed 41 = .ok (.aload_n 0, 1) := by decide +kernel
theorem dX8_feed_42 : decode cX8_feed 42 = .ok (.getfield 14, 3) := by decide +kernel
theorem dX8_feed_45 : decode cX8_feed 45 = .ok (.lload_n 2, 1) := by decide +kernel
theorem dX8_feed_46 : decode cX8_feed 46 = .ok (.bipush 8, 2) := by decide +kernel
theorem dX8_feed_48 : decode cX8_feed 48 = .ok (.iload 4, 2) := by decide +kernel
theorem dX8_feed_50 : decode cX8_feed 50 = .ok (.imul, 1) := by decide +kernel
theorem dX8_feed_51 : decode cX8_feed 51 = .ok (.lushr, 1) := by decide +kernel
theorem dX8_feed_52 : decode cX8_feed 52 = .ok (.l2i, 1) := by decide +kernel
theorem dX8_feed_53 : decode cX8_feed 53 = .ok (.sipush 255, 3) := by decide +kernel
theorem dX8_feed_56 : decode cX8_feed 56 = .ok (.iand, 1) := by decide +kernel
theorem dX8_feed_57 : decode cX8_feed 57 = .ok (.invokevirtual 71, 3) := by decide +kernel
theorem dX8_feed_60 : decode cX8_feed 60 = .ok (.iinc 4 1, 3) := by decide +kernel
theorem dX8_feed_63 : decode cX8_feed 63 = .ok (.goto (-28), 3) := by decide +kernel
theorem dX8_feed_66 : decode cX8_feed 66 = .ok (.aload_n 0, 1) := by decide +kernel
theorem dX8_feed_67 : decode cX8_feed 67 = .ok (.getfield 14, 3) := by decide +kernel
theorem dX8_feed_70 : decode cX8_feed 70 = .ok (.invokevirtual 74, 3) := by decide +kernel
theorem dX8_feed_73 : decode cX8_feed 73 = .ok (.ireturn, 1) := by decide +kernel
theorem dX8_read_0 : decode cX8_read 0 = .ok (.iload_n 1, 1) := by decide +kernel
theorem dX8_read_1 : decode cX8_read 1 = .ok (.invokestatic 77, 3) := by decide +kernel
theorem dX8_read_4 : decode cX8_read 4 = .ok (.ifCond .ne 13, 3) := by decide +kernel
theorem dX8_read_7 : decode cX8_read 7 = .ok (.new 64, 3) := by decide +kernel
theorem dX8_read_10 : decode cX8_read 10 = .ok (.dup, 1) := by decide +kernel
theorem dX8_read_11 : decode cX8_read 11 = .ok (.ldc 81, 2) := by decide +kernel
theorem dX8_read_13 : decode cX8_read 13 = .ok (.invokespecial 68, 3) := by decide +kernel
theorem dX8_read_16 : decode cX8_read 16 = .ok (.athrow, 1) := by decide +kernel
theorem dX8_read_17 : decode cX8_read 17 = .ok (.aload_n 0, 1) := by decide +kernel
theorem dX8_read_18 : decode cX8_read 18 = .ok (.getfield 24, 3) := by decide +kernel
theorem dX8_read_21 : decode cX8_read 21 = .ok (.aload_n 0, 1) := by decide +kernel
theorem dX8_read_22 : decode cX8_read 22 = .ok (.getfield 14, 3) := by decide +kernel
theorem dX8_read_25 : decode cX8_read 25 = .ok (.iload_n 1, 1) := by decide +kernel
theorem dX8_read_26 : decode cX8_read 26 = .ok (.invokevirtual 83, 3) := by decide +kernel
theorem dX8_read_29 : decode cX8_read 29 = .ok (.istore_n 2, 1) := by decide +kernel
theorem dX8_read_30 : decode cX8_read 30 = .ok (.aload_n 0, 1) := by decide +kernel
theorem dX8_read_31 : decode cX8_read 31 = .ok (.getfield 14, 3) := by decide +kernel
theorem dX8_read_34 : decode cX8_read 34 = .ok (.invokevirtual 87, 3) := by decide +kernel
theorem dX8_read_37 : decode cX8_read 37 = .ok (.iload_n 2, 1) := by decide +kernel
theorem dX8_read_38 : decode cX8_read 38 = .ok (.ifCond .eq 17, 3) := by decide +kernel
theorem dX8_read_41 : decode cX8_read 41 = .ok (.aload_n 0, 1) := by decide +kernel
theorem dX8_read_42 : decode cX8_read 42 = .ok (.aload_n 0, 1) := by decide +kernel
theorem dX8_read_43 : decode cX8_read 43 = .ok (.getfield 24, 3) := by decide +kernel
theorem dX8_read_46 : decode cX8_read 46 = .ok (.invokevirtual 90, 3) := by decide +kernel
theorem dX8_read_49 : decode cX8_read 49 = .ok (.putfield 56, 3) := by decide +kernel
theorem dX8_read_52 : decode cX8_read 52 = .ok (.iload_n 2, 1) := by decide +kernel
theorem dX8_read_53 : decode cX8_read 53 = .ok (.ineg, 1) := by decide +kernel
theorem dX8_read_54 : decode cX8_read 54 = .ok (.ireturn, 1) := by decide +kernel
theorem dX8_read_55 : decode cX8_read 55 = .ok (.aload_n 0, 1) := by decide +kernel
theorem dX8_read_56 : decode cX8_read 56 = .ok (.aload_n 0, 1) := by decide +kernel
theorem dX8_read_57 : decode cX8_read 57 = .ok (.getfield 24, 3) := by decide +kernel
theorem dX8_read_60 : decode cX8_read 60 = .ok (.aload_n 0, 1) := by decide +kernel
theorem dX8_read_61 : decode cX8_read 61 = .ok (.getfield 52, 3) := by decide +kernel
theorem dX8_read_64 : decode cX8_read 64 = .ok (.invokevirtual 93, 3) := by decide +kernel
theorem dX8_read_67 : decode cX8_read 67 = .ok (.putfield 52, 3) := by decide +kernel
theorem dX8_read_70 : decode cX8_read 70 = .ok (.aload_n 0, 1) := by decide +kernel
theorem dX8_read_71 : decode cX8_read 71 = .ok (.getfield 45, 3) := by decide +kernel
theorem dX8_read_74 : decode cX8_read 74 = .ok (.invokevirtual 97, 3) := by decide +kernel
theorem dX8_read_77 : decode cX8_read 77 = .ok (.aload_n 0, 1) := by decide +kernel
theorem dX8_read_78 : decode cX8_read 78 = .ok (.getfield 52, 3) := by decide +kernel
theorem dX8_read_81 : decode cX8_read 81 = .ok (.invokevirtual 100, 3) := by decide +kernel
theorem dX8_read_84 : decode cX8_read 84 = .ok (.ireturn, 1) := by decide +kernel
theorem dX8_place_0 : decode cX8_place 0 = .ok (.aload_n 0, 1) := by decide +kernel
theorem dX8_place_1 : decode cX8_place 1 = .ok (.getfield 56, 3) := by decide +kernel
theorem dX8_place_4 : decode cX8_place 4 = .ok (.ireturn, 1) := by decide +kernel
theorem dX8_barcode_0 : decode cX8_barcode 0 = .ok (.aload_n 0, 1) := by decide +kernel
theorem dX8_barcode_1 : decode cX8_barcode 1 = .ok (.getfield 31, 3) := by decide +kernel
theorem dX8_barcode_4 : decode cX8_barcode 4 = .ok (.aload_n 0, 1) := by decide +kernel
theorem dX8_barcode_5 : decode cX8_barcode 5 = .ok (.getfield 14, 3) := by decide +kernel
theorem dX8_barcode_8 : decode cX8_barcode 8 = .ok (.invokevirtual 103, 3) := by decide +kernel
theorem dX8_barcode_11 : decode cX8_barcode 11 = .ok (.istore_n 1, 1) := by decide +kernel
theorem dX8_barcode_12 : decode cX8_barcode 12 = .ok (.aload_n 0, 1) := by decide +kernel
theorem dX8_barcode_13 : decode cX8_barcode 13 = .ok (.getfield 14, 3) := by decide +kernel
theorem dX8_barcode_16 : decode cX8_barcode 16 = .ok (.invokevirtual 87, 3) := by decide +kernel
theorem dX8_barcode_19 : decode cX8_barcode 19 = .ok (.iload_n 1, 1) := by decide +kernel
theorem dX8_barcode_20 : decode cX8_barcode 20 = .ok (.ireturn, 1) := by decide +kernel
theorem dX8_adapter_0 : decode cX8_adapter 0 = .ok (.aload_n 0, 1) := by decide +kernel
theorem dX8_adapter_1 : decode cX8_adapter 1 = .ok (.getfield 38, 3) := by decide +kernel
theorem dX8_adapter_4 : decode cX8_adapter 4 = .ok (.aload_n 0, 1) := by decide +kernel
theorem dX8_adapter_5 : decode cX8_adapter 5 = .ok (.getfield 14, 3) := by decide +kernel
theorem dX8_adapter_8 : decode cX8_adapter 8 = .ok (.invokevirtual 107, 3) := by decide +kernel
theorem dX8_adapter_11 : decode cX8_adapter 11 = .ok (.istore_n 1, 1) := by decide +kernel
theorem dX8_adapter_12 : decode cX8_adapter 12 = .ok (.aload_n 0, 1) := by decide +kernel
theorem dX8_adapter_13 : decode cX8_adapter 13 = .ok (.getfield 14, 3) := by decide +kernel
theorem dX8_adapter_16 : decode cX8_adapter 16 = .ok (.invokevirtual 87, 3) := by decide +kernel
theorem dX8_adapter_19 : decode cX8_adapter 19 = .ok (.iload_n 1, 1) := by decide +kernel
theorem dX8_adapter_20 : decode cX8_adapter 20 = .ok (.ireturn, 1) := by decide +kernel
theorem dX8_limits_0 : decode cX8_limits 0 = .ok (.iload_n 1, 1) := by decide +kernel
theorem dX8_limits_1 : decode cX8_limits 1 = .ok (.bipush 93, 2) := by decide +kernel
theorem dX8_limits_3 : decode cX8_limits 3 = .ok (.invokestatic 110, 3) := by decide +kernel
theorem dX8_limits_6 : decode cX8_limits 6 = .ok (.ifCond .eq 21, 3) := by decide +kernel
theorem dX8_limits_9 : decode cX8_limits 9 = .ok (.iload_n 2, 1) := by decide +kernel
theorem dX8_limits_10 : decode cX8_limits 10 = .ok (.bipush 93, 2) := by decide +kernel
theorem dX8_limits_12 : decode cX8_limits 12 = .ok (.invokestatic 110, 3) := by decide +kernel
theorem dX8_limits_15 : decode cX8_limits 15 = .ok (.ifCond .eq 12, 3) := by decide +kernel
theorem dX8_limits_18 : decode cX8_limits 18 = .ok (.iload_n 3, 1) := by decide +kernel
theorem dX8_limits_19 : decode cX8_limits 19 = .ok (.bipush 120, 2) := by decide +kernel
theorem dX8_limits_21 : decode cX8_limits 21 = .ok (.invokestatic 110, 3) := by decide +kernel
theorem dX8_limits_24 : decode cX8_limits 24 = .ok (.ifCond .ne 5, 3) := by decide +kernel
theorem dX8_limits_27 : decode cX8_limits 27 = .ok (.iconst 0, 1) := by decide +kernel
theorem dX8_limits_28 : decode cX8_limits 28 = .ok (.ireturn, 1) := by decide +kernel
theorem dX8_limits_29 : decode cX8_limits 29 = .ok (.aload_n 0, 1) := by decide +kernel
theorem dX8_limits_30 : decode cX8_limits 30 = .ok (.getfield 38, 3) := by decide +kernel
theorem dX8_limits_33 : decode cX8_limits 33 = .ok (.iload_n 1, 1) := by decide +kernel
theorem dX8_limits_34 : decode cX8_limits 34 = .ok (.iload_n 2, 1) := by decide +kernel
theorem dX8_limits_35 : decode cX8_limits 35 = .ok (.iload_n 3, 1) := by decide +kernel
theorem dX8_limits_36 : decode cX8_limits 36 = .ok (.invokevirtual 114, 3) := by decide +kernel
theorem dX8_limits_39 : decode cX8_limits 39 = .ok (.iconst 1, 1) := by decide +kernel
theorem dX8_limits_40 : decode cX8_limits 40 = .ok (.ireturn, 1) := by decide +kernel
theorem dX8_told_0 : decode cX8_told 0 = .ok (.iload_n 1, 1) := by decide +kernel
theorem dX8_told_1 : decode cX8_told 1 = .ok (.tableswitch 63 0 3 #[31, 39, 47, 55], 31) := by decide +kernel
theorem dX8_told_32 : decode cX8_told 32 = .ok (.aload_n 0, 1) := by decide +kernel
theorem dX8_told_33 : decode cX8_told 33 = .ok (.getfield 31, 3) := by decide +kernel
theorem dX8_told_36 : decode cX8_told 36 = .ok (.invokevirtual 118, 3) := by decide +kernel
theorem dX8_told_39 : decode cX8_told 39 = .ok (.ireturn, 1) := by decide +kernel
theorem dX8_told_40 : decode cX8_told 40 = .ok (.aload_n 0, 1) := by decide +kernel
theorem dX8_told_41 : decode cX8_told 41 = .ok (.getfield 31, 3) := by decide +kernel
theorem dX8_told_44 : decode cX8_told 44 = .ok (.invokevirtual 121, 3) := by decide +kernel
theorem dX8_told_47 : decode cX8_told 47 = .ok (.ireturn, 1) := by decide +kernel
theorem dX8_told_48 : decode cX8_told 48 = .ok (.aload_n 0, 1) := by decide +kernel
theorem dX8_told_49 : decode cX8_told 49 = .ok (.getfield 31, 3) := by decide +kernel
theorem dX8_told_52 : decode cX8_told 52 = .ok (.invokevirtual 122, 3) := by decide +kernel
theorem dX8_told_55 : decode cX8_told 55 = .ok (.ireturn, 1) := by decide +kernel
theorem dX8_told_56 : decode cX8_told 56 = .ok (.aload_n 0, 1) := by decide +kernel
theorem dX8_told_57 : decode cX8_told 57 = .ok (.getfield 52, 3) := by decide +kernel
theorem dX8_told_60 : decode cX8_told 60 = .ok (.invokevirtual 100, 3) := by decide +kernel
theorem dX8_told_63 : decode cX8_told 63 = .ok (.ireturn, 1) := by decide +kernel
theorem dX8_told_64 : decode cX8_told 64 = .ok (.new 125, 3) := by decide +kernel
theorem dX8_told_67 : decode cX8_told 67 = .ok (.dup, 1) := by decide +kernel
theorem dX8_told_68 : decode cX8_told 68 = .ok (.ldc 127, 2) := by decide +kernel
theorem dX8_told_70 : decode cX8_told 70 = .ok (.invokespecial 129, 3) := by decide +kernel
theorem dX8_told_73 : decode cX8_told 73 = .ok (.athrow, 1) := by decide +kernel
theorem dX8_sort_0 : decode cX8_sort 0 = .ok (.iload_n 1, 1) := by decide +kernel
theorem dX8_sort_1 : decode cX8_sort 1 = .ok (.bipush 12, 2) := by decide +kernel
theorem dX8_sort_3 : decode cX8_sort 3 = .ok (.invokestatic 110, 3) := by decide +kernel
theorem dX8_sort_6 : decode cX8_sort 6 = .ok (.ifCond .eq 11, 3) := by decide +kernel
theorem dX8_sort_9 : decode cX8_sort 9 = .ok (.iload_n 2, 1) := by decide +kernel
theorem dX8_sort_10 : decode cX8_sort 10 = .ok (.iconst 1, 1) := by decide +kernel
theorem dX8_sort_11 : decode cX8_sort 11 = .ok (.invokestatic 110, 3) := by decide +kernel
theorem dX8_sort_14 : decode cX8_sort 14 = .ok (.ifCond .ne 13, 3) := by decide +kernel
theorem dX8_sort_17 : decode cX8_sort 17 = .ok (.new 64, 3) := by decide +kernel
theorem dX8_sort_20 : decode cX8_sort 20 = .ok (.dup, 1) := by decide +kernel
theorem dX8_sort_21 : decode cX8_sort 21 = .ok (.ldc 130, 2) := by decide +kernel
theorem dX8_sort_23 : decode cX8_sort 23 = .ok (.invokespecial 68, 3) := by decide +kernel
theorem dX8_sort_26 : decode cX8_sort 26 = .ok (.athrow, 1) := by decide +kernel
theorem dX8_sort_27 : decode cX8_sort 27 = .ok (.aload_n 0, 1) := by decide +kernel
theorem dX8_sort_28 : decode cX8_sort 28 = .ok (.getfield 45, 3) := by decide +kernel
theorem dX8_sort_31 : decode cX8_sort 31 = .ok (.aload_n 0, 1) := by decide +kernel
theorem dX8_sort_32 : decode cX8_sort 32 = .ok (.getfield 31, 3) := by decide +kernel
theorem dX8_sort_35 : decode cX8_sort 35 = .ok (.invokevirtual 121, 3) := by decide +kernel
theorem dX8_sort_38 : decode cX8_sort 38 = .ok (.iload_n 1, 1) := by decide +kernel
theorem dX8_sort_39 : decode cX8_sort 39 = .ok (.iload_n 2, 1) := by decide +kernel
theorem dX8_sort_40 : decode cX8_sort 40 = .ok (.invokevirtual 132, 3) := by decide +kernel
theorem dX8_sort_43 : decode cX8_sort 43 = .ok (.iconst 0, 1) := by decide +kernel
theorem dX8_sort_44 : decode cX8_sort 44 = .ok (.istore_n 3, 1) := by decide +kernel
theorem dX8_sort_45 : decode cX8_sort 45 = .ok (.iload_n 3, 1) := by decide +kernel
theorem dX8_sort_46 : decode cX8_sort 46 = .ok (.aload_n 0, 1) := by decide +kernel
theorem dX8_sort_47 : decode cX8_sort 47 = .ok (.getfield 52, 3) := by decide +kernel
theorem dX8_sort_50 : decode cX8_sort 50 = .ok (.invokevirtual 100, 3) := by decide +kernel
theorem dX8_sort_53 : decode cX8_sort 53 = .ok (.if_icmp .ge 15, 3) := by decide +kernel
theorem dX8_sort_56 : decode cX8_sort 56 = .ok (.aload_n 0, 1) := by decide +kernel
theorem dX8_sort_57 : decode cX8_sort 57 = .ok (.iload_n 3, 1) := by decide +kernel
theorem dX8_sort_58 : decode cX8_sort 58 = .ok (.iload_n 1, 1) := by decide +kernel
theorem dX8_sort_59 : decode cX8_sort 59 = .ok (.invokevirtual 135, 3) := by decide +kernel
theorem dX8_sort_62 : decode cX8_sort 62 = .ok (.iinc 3 1, 3) := by decide +kernel
theorem dX8_sort_65 : decode cX8_sort 65 = .ok (.goto (-20), 3) := by decide +kernel
theorem dX8_sort_68 : decode cX8_sort 68 = .ok (.aload_n 0, 1) := by decide +kernel
theorem dX8_sort_69 : decode cX8_sort 69 = .ok (.getfield 45, 3) := by decide +kernel
theorem dX8_sort_72 : decode cX8_sort 72 = .ok (.invokevirtual 139, 3) := by decide +kernel
theorem dX8_sort_75 : decode cX8_sort 75 = .ok (.aload_n 0, 1) := by decide +kernel
theorem dX8_sort_76 : decode cX8_sort 76 = .ok (.getfield 45, 3) := by decide +kernel
theorem dX8_sort_79 : decode cX8_sort 79 = .ok (.iconst (-1), 1) := by decide +kernel
theorem dX8_sort_80 : decode cX8_sort 80 = .ok (.invokevirtual 142, 3) := by decide +kernel
theorem dX8_sort_83 : decode cX8_sort 83 = .ok (.ireturn, 1) := by decide +kernel
theorem dX8_sortRead_0 : decode cX8_sortRead 0 = .ok (.aload_n 0, 1) := by decide +kernel
theorem dX8_sortRead_1 : decode cX8_sortRead 1 = .ok (.getfield 31, 3) := by decide +kernel
theorem dX8_sortRead_4 : decode cX8_sortRead 4 = .ok (.invokevirtual 122, 3) := by decide +kernel
theorem dX8_sortRead_7 : decode cX8_sortRead 7 = .ok (.iload_n 2, 1) := by decide +kernel
theorem dX8_sortRead_8 : decode cX8_sortRead 8 = .ok (.iadd, 1) := by decide +kernel
theorem dX8_sortRead_9 : decode cX8_sortRead 9 = .ok (.istore_n 3, 1) := by decide +kernel
theorem dX8_sortRead_10 : decode cX8_sortRead 10 = .ok (.aload_n 0, 1) := by decide +kernel
theorem dX8_sortRead_11 : decode cX8_sortRead 11 = .ok (.getfield 52, 3) := by decide +kernel
theorem dX8_sortRead_14 : decode cX8_sortRead 14 = .ok (.iload_n 1, 1) := by decide +kernel
theorem dX8_sortRead_15 : decode cX8_sortRead 15 = .ok (.invokevirtual 146, 3) := by decide +kernel
theorem dX8_sortRead_18 : decode cX8_sortRead 18 = .ok (.iload_n 3, 1) := by decide +kernel
theorem dX8_sortRead_19 : decode cX8_sortRead 19 = .ok (.if_icmp .ge 7, 3) := by decide +kernel
theorem dX8_sortRead_22 : decode cX8_sortRead 22 = .ok (.iconst (-1), 1) := by decide +kernel
theorem dX8_sortRead_23 : decode cX8_sortRead 23 = .ok (.goto 15, 3) := by decide +kernel
theorem dX8_sortRead_26 : decode cX8_sortRead 26 = .ok (.aload_n 0, 1) := by decide +kernel
theorem dX8_sortRead_27 : decode cX8_sortRead 27 = .ok (.getfield 31, 3) := by decide +kernel
theorem dX8_sortRead_30 : decode cX8_sortRead 30 = .ok (.aload_n 0, 1) := by decide +kernel
theorem dX8_sortRead_31 : decode cX8_sortRead 31 = .ok (.getfield 52, 3) := by decide +kernel
theorem dX8_sortRead_34 : decode cX8_sortRead 34 = .ok (.iload_n 1, 1) := by decide +kernel
theorem dX8_sortRead_35 : decode cX8_sortRead 35 = .ok (.invokevirtual 149, 3) := by decide +kernel
theorem dX8_sortRead_38 : decode cX8_sortRead 38 = .ok (.istore 4, 2) := by decide +kernel
theorem dX8_sortRead_40 : decode cX8_sortRead 40 = .ok (.aload_n 0, 1) := by decide +kernel
theorem dX8_sortRead_41 : decode cX8_sortRead 41 = .ok (.getfield 38, 3) := by decide +kernel
theorem dX8_sortRead_44 : decode cX8_sortRead 44 = .ok (.aload_n 0, 1) := by decide +kernel
theorem dX8_sortRead_45 : decode cX8_sortRead 45 = .ok (.getfield 52, 3) := by decide +kernel
theorem dX8_sortRead_48 : decode cX8_sortRead 48 = .ok (.iload_n 1, 1) := by decide +kernel
theorem dX8_sortRead_49 : decode cX8_sortRead 49 = .ok (.iload 4, 2) := by decide +kernel
theorem dX8_sortRead_51 : decode cX8_sortRead 51 = .ok (.iconst (-1), 1) := by decide +kernel
theorem dX8_sortRead_52 : decode cX8_sortRead 52 = .ok (.if_icmp .ne 7, 3) := by decide +kernel
theorem dX8_sortRead_55 : decode cX8_sortRead 55 = .ok (.iconst 0, 1) := by decide +kernel
theorem dX8_sortRead_56 : decode cX8_sortRead 56 = .ok (.goto 4, 3) := by decide +kernel
theorem dX8_sortRead_59 : decode cX8_sortRead 59 = .ok (.iload_n 3, 1) := by decide +kernel
theorem dX8_sortRead_60 : decode cX8_sortRead 60 = .ok (.invokevirtual 153, 3) := by decide +kernel
theorem dX8_sortRead_63 : decode cX8_sortRead 63 = .ok (.aload_n 0, 1) := by decide +kernel
theorem dX8_sortRead_64 : decode cX8_sortRead 64 = .ok (.getfield 45, 3) := by decide +kernel
theorem dX8_sortRead_67 : decode cX8_sortRead 67 = .ok (.aload_n 0, 1) := by decide +kernel
theorem dX8_sortRead_68 : decode cX8_sortRead 68 = .ok (.getfield 52, 3) := by decide +kernel
theorem dX8_sortRead_71 : decode cX8_sortRead 71 = .ok (.iload 4, 2) := by decide +kernel
theorem dX8_sortRead_73 : decode cX8_sortRead 73 = .ok (.aload_n 0, 1) := by decide +kernel
theorem dX8_sortRead_74 : decode cX8_sortRead 74 = .ok (.getfield 38, 3) := by decide +kernel
theorem dX8_sortRead_77 : decode cX8_sortRead 77 = .ok (.invokevirtual 157, 3) := by decide +kernel
theorem dX8_sortRead_80 : decode cX8_sortRead 80 = .ok (.iload 4, 2) := by decide +kernel
theorem dX8_sortRead_82 : decode cX8_sortRead 82 = .ok (.iconst (-1), 1) := by decide +kernel
theorem dX8_sortRead_83 : decode cX8_sortRead 83 = .ok (.if_icmp .eq 37, 3) := by decide +kernel
theorem dX8_sortRead_86 : decode cX8_sortRead 86 = .ok (.aload_n 0, 1) := by decide +kernel
theorem dX8_sortRead_87 : decode cX8_sortRead 87 = .ok (.getfield 38, 3) := by decide +kernel
theorem dX8_sortRead_90 : decode cX8_sortRead 90 = .ok (.invokevirtual 160, 3) := by decide +kernel
theorem dX8_sortRead_93 : decode cX8_sortRead 93 = .ok (.ifCond .ne 27, 3) := by decide +kernel
theorem dX8_sortRead_96 : decode cX8_sortRead 96 = .ok (.aload_n 0, 1) := by decide +kernel
theorem dX8_sortRead_97 : decode cX8_sortRead 97 = .ok (.getfield 45, 3) := by decide +kernel
theorem dX8_sortRead_100 : decode cX8_sortRead 100 = .ok (.invokevirtual 164, 3) := by decide +kernel
theorem dX8_sortRead_103 : decode cX8_sortRead 103 = .ok (.aload_n 0, 1) := by decide +kernel
theorem dX8_sortRead_104 : decode cX8_sortRead 104 = .ok (.getfield 52, 3) := by decide +kernel
theorem dX8_sortRead_107 : decode cX8_sortRead 107 = .ok (.iload_n 1, 1) := by decide +kernel
theorem dX8_sortRead_108 : decode cX8_sortRead 108 = .ok (.iload 4, 2) := by decide +kernel
theorem dX8_sortRead_110 : decode cX8_sortRead 110 = .ok (.aload_n 0, 1) := by decide +kernel
theorem dX8_sortRead_111 : decode cX8_sortRead 111 = .ok (.getfield 31, 3) := by decide +kernel
theorem dX8_sortRead_114 : decode cX8_sortRead 114 = .ok (.invokevirtual 122, 3) := by decide +kernel
theorem dX8_sortRead_117 : decode cX8_sortRead 117 = .ok (.invokevirtual 168, 3) := by decide +kernel
theorem dX8_sortRead_120 : decode cX8_sortRead 120 = .ok (.return_, 1) := by decide +kernel
theorem dX8_about_0 : decode cX8_about 0 = .ok (.aload_n 0, 1) := by decide +kernel
theorem dX8_about_1 : decode cX8_about 1 = .ok (.getfield 52, 3) := by decide +kernel
theorem dX8_about_4 : decode cX8_about 4 = .ok (.iload_n 1, 1) := by decide +kernel
theorem dX8_about_5 : decode cX8_about 5 = .ok (.invokevirtual 174, 3) := by decide +kernel
theorem dX8_about_8 : decode cX8_about 8 = .ok (.ifCond .eq 12, 3) := by decide +kernel
theorem dX8_about_11 : decode cX8_about 11 = .ok (.iload_n 2, 1) := by decide +kernel
theorem dX8_about_12 : decode cX8_about 12 = .ok (.bipush 6, 2) := by decide +kernel
theorem dX8_about_14 : decode cX8_about 14 = .ok (.invokestatic 110, 3) := by decide +kernel
theorem dX8_about_17 : decode cX8_about 17 = .ok (.ifCond .ne 13, 3) := by decide +kernel
theorem dX8_about_20 : decode cX8_about 20 = .ok (.new 125, 3) := by decide +kernel
theorem dX8_about_23 : decode cX8_about 23 = .ok (.dup, 1) := by decide +kernel
theorem dX8_about_24 : decode cX8_about 24 = .ok (.ldc 177, 2) := by decide +kernel
theorem dX8_about_26 : decode cX8_about 26 = .ok (.invokespecial 129, 3) := by decide +kernel
theorem dX8_about_29 : decode cX8_about 29 = .ok (.athrow, 1) := by decide +kernel
theorem dX8_about_30 : decode cX8_about 30 = .ok (.iload_n 2, 1) := by decide +kernel
theorem dX8_about_31 : decode cX8_about 31 = .ok (.ifCond .ne 12, 3) := by decide +kernel
theorem dX8_about_34 : decode cX8_about 34 = .ok (.aload_n 0, 1) := by decide +kernel
theorem dX8_about_35 : decode cX8_about 35 = .ok (.getfield 52, 3) := by decide +kernel
theorem dX8_about_38 : decode cX8_about 38 = .ok (.iload_n 1, 1) := by decide +kernel
theorem dX8_about_39 : decode cX8_about 39 = .ok (.invokevirtual 179, 3) := by decide +kernel
theorem dX8_about_42 : decode cX8_about 42 = .ok (.ireturn, 1) := by decide +kernel
theorem dX8_about_43 : decode cX8_about 43 = .ok (.iload_n 2, 1) := by decide +kernel
theorem dX8_about_44 : decode cX8_about 44 = .ok (.iconst 1, 1) := by decide +kernel
theorem dX8_about_45 : decode cX8_about 45 = .ok (.if_icmp .ne 12, 3) := by decide +kernel
theorem dX8_about_48 : decode cX8_about 48 = .ok (.aload_n 0, 1) := by decide +kernel
theorem dX8_about_49 : decode cX8_about 49 = .ok (.getfield 52, 3) := by decide +kernel
theorem dX8_about_52 : decode cX8_about 52 = .ok (.iload_n 1, 1) := by decide +kernel
theorem dX8_about_53 : decode cX8_about 53 = .ok (.invokevirtual 146, 3) := by decide +kernel
theorem dX8_about_56 : decode cX8_about 56 = .ok (.ireturn, 1) := by decide +kernel
theorem dX8_about_57 : decode cX8_about 57 = .ok (.aload_n 0, 1) := by decide +kernel
theorem dX8_about_58 : decode cX8_about 58 = .ok (.getfield 45, 3) := by decide +kernel
theorem dX8_about_61 : decode cX8_about 61 = .ok (.invokevirtual 182, 3) := by decide +kernel
theorem dX8_about_64 : decode cX8_about 64 = .ok (.ifCond .eq 12, 3) := by decide +kernel
theorem dX8_about_67 : decode cX8_about 67 = .ok (.aload_n 0, 1) := by decide +kernel
theorem dX8_about_68 : decode cX8_about 68 = .ok (.iload_n 1, 1) := by decide +kernel
theorem dX8_about_69 : decode cX8_about 69 = .ok (.iload_n 2, 1) := by decide +kernel
theorem dX8_about_70 : decode cX8_about 70 = .ok (.invokevirtual 185, 3) := by decide +kernel
theorem dX8_about_73 : decode cX8_about 73 = .ok (.goto 4, 3) := by decide +kernel
theorem dX8_about_76 : decode cX8_about 76 = .ok (.iconst (-1), 1) := by decide +kernel
theorem dX8_about_77 : decode cX8_about 77 = .ok (.ireturn, 1) := by decide +kernel
theorem dX8_aboutSorted_0 : decode cX8_aboutSorted 0 = .ok (.iload_n 2, 1) := by decide +kernel
theorem dX8_aboutSorted_1 : decode cX8_aboutSorted 1 = .ok (.tableswitch 75 2 5 #[31, 40, 49, 58], 31) := by decide +kernel
theorem dX8_aboutSorted_32 : decode cX8_aboutSorted 32 = .ok (.aload_n 0, 1) := by decide +kernel
theorem dX8_aboutSorted_33 : decode cX8_aboutSorted 33 = .ok (.getfield 45, 3) := by decide +kernel
theorem dX8_aboutSorted_36 : decode cX8_aboutSorted 36 = .ok (.iload_n 1, 1) := by decide +kernel
theorem dX8_aboutSorted_37 : decode cX8_aboutSorted 37 = .ok (.invokevirtual 189, 3) := by decide +kernel
theorem dX8_aboutSorted_40 : decode cX8_aboutSorted 40 = .ok (.ireturn, 1) := by decide +kernel
theorem dX8_aboutSorted_41 : decode cX8_aboutSorted 41 = .ok (.aload_n 0, 1) := by decide +kernel
theorem dX8_aboutSorted_42 : decode cX8_aboutSorted 42 = .ok (.getfield 45, 3) := by decide +kernel
theorem dX8_aboutSorted_45 : decode cX8_aboutSorted 45 = .ok (.iload_n 1, 1) := by decide +kernel
theorem dX8_aboutSorted_46 : decode cX8_aboutSorted 46 = .ok (.invokevirtual 192, 3) := by decide +kernel
theorem dX8_aboutSorted_49 : decode cX8_aboutSorted 49 = .ok (.ireturn, 1) := by decide +kernel
theorem dX8_aboutSorted_50 : decode cX8_aboutSorted 50 = .ok (.aload_n 0, 1) := by decide +kernel
theorem dX8_aboutSorted_51 : decode cX8_aboutSorted 51 = .ok (.getfield 45, 3) := by decide +kernel
theorem dX8_aboutSorted_54 : decode cX8_aboutSorted 54 = .ok (.iload_n 1, 1) := by decide +kernel
theorem dX8_aboutSorted_55 : decode cX8_aboutSorted 55 = .ok (.invokevirtual 195, 3) := by decide +kernel
theorem dX8_aboutSorted_58 : decode cX8_aboutSorted 58 = .ok (.ireturn, 1) := by decide +kernel
theorem dX8_aboutSorted_59 : decode cX8_aboutSorted 59 = .ok (.aload_n 0, 1) := by decide +kernel
theorem dX8_aboutSorted_60 : decode cX8_aboutSorted 60 = .ok (.getfield 45, 3) := by decide +kernel
theorem dX8_aboutSorted_63 : decode cX8_aboutSorted 63 = .ok (.iload_n 1, 1) := by decide +kernel
theorem dX8_aboutSorted_64 : decode cX8_aboutSorted 64 = .ok (.invokevirtual 198, 3) := by decide +kernel
theorem dX8_aboutSorted_67 : decode cX8_aboutSorted 67 = .ok (.ifCond .eq 7, 3) := by decide +kernel
theorem dX8_aboutSorted_70 : decode cX8_aboutSorted 70 = .ok (.iconst 1, 1) := by decide +kernel
theorem dX8_aboutSorted_71 : decode cX8_aboutSorted 71 = .ok (.goto 4, 3) := by decide +kernel
theorem dX8_aboutSorted_74 : decode cX8_aboutSorted 74 = .ok (.iconst 0, 1) := by decide +kernel
theorem dX8_aboutSorted_75 : decode cX8_aboutSorted 75 = .ok (.ireturn, 1) := by decide +kernel
theorem dX8_aboutSorted_76 : decode cX8_aboutSorted 76 = .ok (.aload_n 0, 1) := by decide +kernel
theorem dX8_aboutSorted_77 : decode cX8_aboutSorted 77 = .ok (.getfield 45, 3) := by decide +kernel
theorem dX8_aboutSorted_80 : decode cX8_aboutSorted 80 = .ok (.invokevirtual 164, 3) := by decide +kernel
theorem dX8_aboutSorted_83 : decode cX8_aboutSorted 83 = .ok (.iload_n 1, 1) := by decide +kernel
theorem dX8_aboutSorted_84 : decode cX8_aboutSorted 84 = .ok (.invokevirtual 201, 3) := by decide +kernel
theorem dX8_aboutSorted_87 : decode cX8_aboutSorted 87 = .ok (.ireturn, 1) := by decide +kernel
theorem dX8_letter_0 : decode cX8_letter 0 = .ok (.iconst (-1), 1) := by decide +kernel
theorem dX8_letter_1 : decode cX8_letter 1 = .ok (.istore 4, 2) := by decide +kernel
theorem dX8_letter_3 : decode cX8_letter 3 = .ok (.iload_n 2, 1) := by decide +kernel
theorem dX8_letter_4 : decode cX8_letter 4 = .ok (.ifCond .ne 17, 3) := by decide +kernel
theorem dX8_letter_7 : decode cX8_letter 7 = .ok (.aload_n 0, 1) := by decide +kernel
theorem dX8_letter_8 : decode cX8_letter 8 = .ok (.getfield 52, 3) := by decide +kernel
theorem dX8_letter_11 : decode cX8_letter 11 = .ok (.iload_n 1, 1) := by decide +kernel
theorem dX8_letter_12 : decode cX8_letter 12 = .ok (.iload_n 3, 1) := by decide +kernel
theorem dX8_letter_13 : decode cX8_letter 13 = .ok (.invokevirtual 204, 3) := by decide +kernel
theorem dX8_letter_16 : decode cX8_letter 16 = .ok (.istore 4, 2) := by decide +kernel
theorem dX8_letter_18 : decode cX8_letter 18 = .ok (.goto 38, 3) := by decide +kernel
theorem dX8_letter_21 : decode cX8_letter 21 = .ok (.iload_n 2, 1) := by decide +kernel
theorem dX8_letter_22 : decode cX8_letter 22 = .ok (.iconst 1, 1) := by decide +kernel
theorem dX8_letter_23 : decode cX8_letter 23 = .ok (.if_icmp .ne 17, 3) := by decide +kernel
theorem dX8_letter_26 : decode cX8_letter 26 = .ok (.aload_n 0, 1) := by decide +kernel
theorem dX8_letter_27 : decode cX8_letter 27 = .ok (.getfield 52, 3) := by decide +kernel
theorem dX8_letter_30 : decode cX8_letter 30 = .ok (.iload_n 1, 1) := by decide +kernel
theorem dX8_letter_31 : decode cX8_letter 31 = .ok (.iload_n 3, 1) := by decide +kernel
theorem dX8_letter_32 : decode cX8_letter 32 = .ok (.invokevirtual 207, 3) := by decide +kernel
theorem dX8_letter_35 : decode cX8_letter 35 = .ok (.istore 4, 2) := by decide +kernel
theorem dX8_letter_37 : decode cX8_letter 37 = .ok (.goto 19, 3) := by decide +kernel
theorem dX8_letter_40 : decode cX8_letter 40 = .ok (.iload_n 2, 1) := by decide +kernel
theorem dX8_letter_41 : decode cX8_letter 41 = .ok (.iconst 2, 1) := by decide +kernel
theorem dX8_letter_42 : decode cX8_letter 42 = .ok (.if_icmp .ne 14, 3) := by decide +kernel
theorem dX8_letter_45 : decode cX8_letter 45 = .ok (.aload_n 0, 1) := by decide +kernel
theorem dX8_letter_46 : decode cX8_letter 46 = .ok (.getfield 52, 3) := by decide +kernel
theorem dX8_letter_49 : decode cX8_letter 49 = .ok (.iload_n 1, 1) := by decide +kernel
theorem dX8_letter_50 : decode cX8_letter 50 = .ok (.iload_n 3, 1) := by decide +kernel
theorem dX8_letter_51 : decode cX8_letter 51 = .ok (.invokevirtual 210, 3) := by decide +kernel
theorem dX8_letter_54 : decode cX8_letter 54 = .ok (.istore 4, 2) := by decide +kernel
theorem dX8_letter_56 : decode cX8_letter 56 = .ok (.iload 4, 2) := by decide +kernel
theorem dX8_letter_58 : decode cX8_letter 58 = .ok (.iconst (-1), 1) := by decide +kernel
theorem dX8_letter_59 : decode cX8_letter 59 = .ok (.if_icmp .ne 13, 3) := by decide +kernel
theorem dX8_letter_62 : decode cX8_letter 62 = .ok (.new 125, 3) := by decide +kernel
theorem dX8_letter_65 : decode cX8_letter 65 = .ok (.dup, 1) := by decide +kernel
theorem dX8_letter_66 : decode cX8_letter 66 = .ok (.ldc 213, 2) := by decide +kernel
theorem dX8_letter_68 : decode cX8_letter 68 = .ok (.invokespecial 129, 3) := by decide +kernel
theorem dX8_letter_71 : decode cX8_letter 71 = .ok (.athrow, 1) := by decide +kernel
theorem dX8_letter_72 : decode cX8_letter 72 = .ok (.iload 4, 2) := by decide +kernel
theorem dX8_letter_74 : decode cX8_letter 74 = .ok (.ireturn, 1) := by decide +kernel
theorem dX8_bin_0 : decode cX8_bin 0 = .ok (.aload_n 0, 1) := by decide +kernel
theorem dX8_bin_1 : decode cX8_bin 1 = .ok (.iload_n 1, 1) := by decide +kernel
theorem dX8_bin_2 : decode cX8_bin 2 = .ok (.invokevirtual 215, 3) := by decide +kernel
theorem dX8_bin_5 : decode cX8_bin 5 = .ok (.ifCond .eq 11, 3) := by decide +kernel
theorem dX8_bin_8 : decode cX8_bin 8 = .ok (.iload_n 2, 1) := by decide +kernel
theorem dX8_bin_9 : decode cX8_bin 9 = .ok (.iconst 2, 1) := by decide +kernel
theorem dX8_bin_10 : decode cX8_bin 10 = .ok (.invokestatic 110, 3) := by decide +kernel
theorem dX8_bin_13 : decode cX8_bin 13 = .ok (.ifCond .ne 13, 3) := by decide +kernel
theorem dX8_bin_16 : decode cX8_bin 16 = .ok (.new 125, 3) := by decide +kernel
theorem dX8_bin_19 : decode cX8_bin 19 = .ok (.dup, 1) := by decide +kernel
theorem dX8_bin_20 : decode cX8_bin 20 = .ok (.ldc 218, 2) := by decide +kernel
theorem dX8_bin_22 : decode cX8_bin 22 = .ok (.invokespecial 129, 3) := by decide +kernel
theorem dX8_bin_25 : decode cX8_bin 25 = .ok (.athrow, 1) := by decide +kernel
theorem dX8_bin_26 : decode cX8_bin 26 = .ok (.aload_n 0, 1) := by decide +kernel
theorem dX8_bin_27 : decode cX8_bin 27 = .ok (.getfield 45, 3) := by decide +kernel
theorem dX8_bin_30 : decode cX8_bin 30 = .ok (.invokevirtual 182, 3) := by decide +kernel
theorem dX8_bin_33 : decode cX8_bin 33 = .ok (.ifCond .ne 13, 3) := by decide +kernel
theorem dX8_bin_36 : decode cX8_bin 36 = .ok (.new 220, 3) := by decide +kernel
theorem dX8_bin_39 : decode cX8_bin 39 = .ok (.dup, 1) := by decide +kernel
theorem dX8_bin_40 : decode cX8_bin 40 = .ok (.ldc 222, 2) := by decide +kernel
theorem dX8_bin_42 : decode cX8_bin 42 = .ok (.invokespecial 224, 3) := by decide +kernel
theorem dX8_bin_45 : decode cX8_bin 45 = .ok (.athrow, 1) := by decide +kernel
theorem dX8_bin_46 : decode cX8_bin 46 = .ok (.iload_n 2, 1) := by decide +kernel
theorem dX8_bin_47 : decode cX8_bin 47 = .ok (.ifCond .ne 12, 3) := by decide +kernel
theorem dX8_bin_50 : decode cX8_bin 50 = .ok (.aload_n 0, 1) := by decide +kernel
theorem dX8_bin_51 : decode cX8_bin 51 = .ok (.getfield 45, 3) := by decide +kernel
theorem dX8_bin_54 : decode cX8_bin 54 = .ok (.iload_n 1, 1) := by decide +kernel
theorem dX8_bin_55 : decode cX8_bin 55 = .ok (.invokevirtual 142, 3) := by decide +kernel
theorem dX8_bin_58 : decode cX8_bin 58 = .ok (.ireturn, 1) := by decide +kernel
theorem dX8_bin_59 : decode cX8_bin 59 = .ok (.iload_n 2, 1) := by decide +kernel
theorem dX8_bin_60 : decode cX8_bin 60 = .ok (.iconst 1, 1) := by decide +kernel
theorem dX8_bin_61 : decode cX8_bin 61 = .ok (.if_icmp .ne 14, 3) := by decide +kernel
theorem dX8_bin_64 : decode cX8_bin 64 = .ok (.aload_n 0, 1) := by decide +kernel
theorem dX8_bin_65 : decode cX8_bin 65 = .ok (.getfield 45, 3) := by decide +kernel
theorem dX8_bin_68 : decode cX8_bin 68 = .ok (.iload_n 1, 1) := by decide +kernel
theorem dX8_bin_69 : decode cX8_bin 69 = .ok (.invokevirtual 225, 3) := by decide +kernel
theorem dX8_bin_72 : decode cX8_bin 72 = .ok (.goto 14, 3) := by decide +kernel
theorem dX8_bin_75 : decode cX8_bin 75 = .ok (.aload_n 0, 1) := by decide +kernel
theorem dX8_bin_76 : decode cX8_bin 76 = .ok (.getfield 45, 3) := by decide +kernel
theorem dX8_bin_79 : decode cX8_bin 79 = .ok (.invokevirtual 164, 3) := by decide +kernel
theorem dX8_bin_82 : decode cX8_bin 82 = .ok (.iload_n 1, 1) := by decide +kernel
theorem dX8_bin_83 : decode cX8_bin 83 = .ok (.invokevirtual 228, 3) := by decide +kernel
theorem dX8_bin_86 : decode cX8_bin 86 = .ok (.ireturn, 1) := by decide +kernel
theorem dX8_group_0 : decode cX8_group 0 = .ok (.aload_n 0, 1) := by decide +kernel
theorem dX8_group_1 : decode cX8_group 1 = .ok (.iload_n 1, 1) := by decide +kernel
theorem dX8_group_2 : decode cX8_group 2 = .ok (.invokevirtual 215, 3) := by decide +kernel
theorem dX8_group_5 : decode cX8_group 5 = .ok (.ifCond .eq 11, 3) := by decide +kernel
theorem dX8_group_8 : decode cX8_group 8 = .ok (.iload_n 3, 1) := by decide +kernel
theorem dX8_group_9 : decode cX8_group 9 = .ok (.iconst 2, 1) := by decide +kernel
theorem dX8_group_10 : decode cX8_group 10 = .ok (.invokestatic 110, 3) := by decide +kernel
theorem dX8_group_13 : decode cX8_group 13 = .ok (.ifCond .ne 13, 3) := by decide +kernel
theorem dX8_group_16 : decode cX8_group 16 = .ok (.new 125, 3) := by decide +kernel
theorem dX8_group_19 : decode cX8_group 19 = .ok (.dup, 1) := by decide +kernel
theorem dX8_group_20 : decode cX8_group 20 = .ok (.ldc 218, 2) := by decide +kernel
theorem dX8_group_22 : decode cX8_group 22 = .ok (.invokespecial 129, 3) := by decide +kernel
theorem dX8_group_25 : decode cX8_group 25 = .ok (.athrow, 1) := by decide +kernel
theorem dX8_group_26 : decode cX8_group 26 = .ok (.aload_n 0, 1) := by decide +kernel
theorem dX8_group_27 : decode cX8_group 27 = .ok (.getfield 45, 3) := by decide +kernel
theorem dX8_group_30 : decode cX8_group 30 = .ok (.invokevirtual 182, 3) := by decide +kernel
theorem dX8_group_33 : decode cX8_group 33 = .ok (.ifCond .ne 13, 3) := by decide +kernel
theorem dX8_group_36 : decode cX8_group 36 = .ok (.new 220, 3) := by decide +kernel
theorem dX8_group_39 : decode cX8_group 39 = .ok (.dup, 1) := by decide +kernel
theorem dX8_group_40 : decode cX8_group 40 = .ok (.ldc 222, 2) := by decide +kernel
theorem dX8_group_42 : decode cX8_group 42 = .ok (.invokespecial 224, 3) := by decide +kernel
theorem dX8_group_45 : decode cX8_group 45 = .ok (.athrow, 1) := by decide +kernel
theorem dX8_group_46 : decode cX8_group 46 = .ok (.iload_n 2, 1) := by decide +kernel
theorem dX8_group_47 : decode cX8_group 47 = .ok (.ifCond .lt 18, 3) := by decide +kernel
theorem dX8_group_50 : decode cX8_group 50 = .ok (.iload_n 2, 1) := by decide +kernel
theorem dX8_group_51 : decode cX8_group 51 = .ok (.aload_n 0, 1) := by decide +kernel
theorem dX8_group_52 : decode cX8_group 52 = .ok (.getfield 45, 3) := by decide +kernel
theorem dX8_group_55 : decode cX8_group 55 = .ok (.invokevirtual 164, 3) := by decide +kernel
theorem dX8_group_58 : decode cX8_group 58 = .ok (.iload_n 1, 1) := by decide +kernel
theorem dX8_group_59 : decode cX8_group 59 = .ok (.invokevirtual 228, 3) := by decide +kernel
theorem dX8_group_62 : decode cX8_group 62 = .ok (.if_icmp .lt 13, 3) := by decide +kernel
theorem dX8_group_65 : decode cX8_group 65 = .ok (.new 125, 3) := by decide +kernel
theorem dX8_group_68 : decode cX8_group 68 = .ok (.dup, 1) := by decide +kernel
theorem dX8_group_69 : decode cX8_group 69 = .ok (.ldc 231, 2) := by decide +kernel
theorem dX8_group_71 : decode cX8_group 71 = .ok (.invokespecial 129, 3) := by decide +kernel
theorem dX8_group_74 : decode cX8_group 74 = .ok (.athrow, 1) := by decide +kernel
theorem dX8_group_75 : decode cX8_group 75 = .ok (.iload_n 3, 1) := by decide +kernel
theorem dX8_group_76 : decode cX8_group 76 = .ok (.ifCond .ne 16, 3) := by decide +kernel
theorem dX8_group_79 : decode cX8_group 79 = .ok (.aload_n 0, 1) := by decide +kernel
theorem dX8_group_80 : decode cX8_group 80 = .ok (.getfield 45, 3) := by decide +kernel
theorem dX8_group_83 : decode cX8_group 83 = .ok (.invokevirtual 164, 3) := by decide +kernel
theorem dX8_group_86 : decode cX8_group 86 = .ok (.iload_n 1, 1) := by decide +kernel
theorem dX8_group_87 : decode cX8_group 87 = .ok (.iload_n 2, 1) := by decide +kernel
theorem dX8_group_88 : decode cX8_group 88 = .ok (.invokevirtual 233, 3) := by decide +kernel
theorem dX8_group_91 : decode cX8_group 91 = .ok (.ireturn, 1) := by decide +kernel
theorem dX8_group_92 : decode cX8_group 92 = .ok (.iload_n 3, 1) := by decide +kernel
theorem dX8_group_93 : decode cX8_group 93 = .ok (.iconst 1, 1) := by decide +kernel
theorem dX8_group_94 : decode cX8_group 94 = .ok (.if_icmp .ne 15, 3) := by decide +kernel
theorem dX8_group_97 : decode cX8_group 97 = .ok (.aload_n 0, 1) := by decide +kernel
theorem dX8_group_98 : decode cX8_group 98 = .ok (.getfield 45, 3) := by decide +kernel
theorem dX8_group_101 : decode cX8_group 101 = .ok (.iload_n 1, 1) := by decide +kernel
theorem dX8_group_102 : decode cX8_group 102 = .ok (.iload_n 2, 1) := by decide +kernel
theorem dX8_group_103 : decode cX8_group 103 = .ok (.invokevirtual 235, 3) := by decide +kernel
theorem dX8_group_106 : decode cX8_group 106 = .ok (.goto 15, 3) := by decide +kernel
theorem dX8_group_109 : decode cX8_group 109 = .ok (.aload_n 0, 1) := by decide +kernel
theorem dX8_group_110 : decode cX8_group 110 = .ok (.getfield 45, 3) := by decide +kernel
theorem dX8_group_113 : decode cX8_group 113 = .ok (.invokevirtual 164, 3) := by decide +kernel
theorem dX8_group_116 : decode cX8_group 116 = .ok (.iload_n 1, 1) := by decide +kernel
theorem dX8_group_117 : decode cX8_group 117 = .ok (.iload_n 2, 1) := by decide +kernel
theorem dX8_group_118 : decode cX8_group 118 = .ok (.invokevirtual 238, 3) := by decide +kernel
theorem dX8_group_121 : decode cX8_group 121 = .ok (.ireturn, 1) := by decide +kernel
theorem dX8_write_0 : decode cX8_write 0 = .ok (.iload_n 1, 1) := by decide +kernel
theorem dX8_write_1 : decode cX8_write 1 = .ok (.invokestatic 77, 3) := by decide +kernel
theorem dX8_write_4 : decode cX8_write 4 = .ok (.ifCond .ne 13, 3) := by decide +kernel
theorem dX8_write_7 : decode cX8_write 7 = .ok (.new 64, 3) := by decide +kernel
theorem dX8_write_10 : decode cX8_write 10 = .ok (.dup, 1) := by decide +kernel
theorem dX8_write_11 : decode cX8_write 11 = .ok (.ldc 81, 2) := by decide +kernel
theorem dX8_write_13 : decode cX8_write 13 = .ok (.invokespecial 68, 3) := by decide +kernel
theorem dX8_write_16 : decode cX8_write 16 = .ok (.athrow, 1) := by decide +kernel
theorem dX8_write_17 : decode cX8_write 17 = .ok (.iload_n 2, 1) := by decide +kernel
theorem dX8_write_18 : decode cX8_write 18 = .ok (.bipush (-2), 2) := by decide +kernel
theorem dX8_write_20 : decode cX8_write 20 = .ok (.if_icmp .eq 21, 3) := by decide +kernel
theorem dX8_write_23 : decode cX8_write 23 = .ok (.aload_n 0, 1) := by decide +kernel
theorem dX8_write_24 : decode cX8_write 24 = .ok (.iload_n 2, 1) := by decide +kernel
theorem dX8_write_25 : decode cX8_write 25 = .ok (.invokevirtual 215, 3) := by decide +kernel
theorem dX8_write_28 : decode cX8_write 28 = .ok (.ifCond .ne 13, 3) := by decide +kernel
theorem dX8_write_31 : decode cX8_write 31 = .ok (.new 125, 3) := by decide +kernel
theorem dX8_write_34 : decode cX8_write 34 = .ok (.dup, 1) := by decide +kernel
theorem dX8_write_35 : decode cX8_write 35 = .ok (.ldc 241, 2) := by decide +kernel
theorem dX8_write_37 : decode cX8_write 37 = .ok (.invokespecial 129, 3) := by decide +kernel
theorem dX8_write_40 : decode cX8_write 40 = .ok (.athrow, 1) := by decide +kernel
theorem dX8_write_41 : decode cX8_write 41 = .ok (.iload_n 2, 1) := by decide +kernel
theorem dX8_write_42 : decode cX8_write 42 = .ok (.bipush (-2), 2) := by decide +kernel
theorem dX8_write_44 : decode cX8_write 44 = .ok (.if_icmp .eq 23, 3) := by decide +kernel
theorem dX8_write_47 : decode cX8_write 47 = .ok (.aload_n 0, 1) := by decide +kernel
theorem dX8_write_48 : decode cX8_write 48 = .ok (.getfield 45, 3) := by decide +kernel
theorem dX8_write_51 : decode cX8_write 51 = .ok (.invokevirtual 182, 3) := by decide +kernel
theorem dX8_write_54 : decode cX8_write 54 = .ok (.ifCond .ne 13, 3) := by decide +kernel
theorem dX8_write_57 : decode cX8_write 57 = .ok (.new 220, 3) := by decide +kernel
theorem dX8_write_60 : decode cX8_write 60 = .ok (.dup, 1) := by decide +kernel
theorem dX8_write_61 : decode cX8_write 61 = .ok (.ldc 222, 2) := by decide +kernel
theorem dX8_write_63 : decode cX8_write 63 = .ok (.invokespecial 224, 3) := by decide +kernel
theorem dX8_write_66 : decode cX8_write 66 = .ok (.athrow, 1) := by decide +kernel
theorem dX8_write_67 : decode cX8_write 67 = .ok (.aload_n 0, 1) := by decide +kernel
theorem dX8_write_68 : decode cX8_write 68 = .ok (.iload_n 1, 1) := by decide +kernel
theorem dX8_write_69 : decode cX8_write 69 = .ok (.iload_n 2, 1) := by decide +kernel
theorem dX8_write_70 : decode cX8_write 70 = .ok (.iload_n 3, 1) := by decide +kernel
theorem dX8_write_71 : decode cX8_write 71 = .ok (.invokevirtual 243, 3) := by decide +kernel
theorem dX8_write_74 : decode cX8_write 74 = .ok (.istore 4, 2) := by decide +kernel
theorem dX8_write_76 : decode cX8_write 76 = .ok (.iload 4, 2) := by decide +kernel
theorem dX8_write_78 : decode cX8_write 78 = .ok (.sipush 12000, 3) := by decide +kernel
theorem dX8_write_81 : decode cX8_write 81 = .ok (.if_icmp .le 5, 3) := by decide +kernel
theorem dX8_write_84 : decode cX8_write 84 = .ok (.iconst (-1), 1) := by decide +kernel
theorem dX8_write_85 : decode cX8_write 85 = .ok (.ireturn, 1) := by decide +kernel
theorem dX8_write_86 : decode cX8_write 86 = .ok (.aload_n 0, 1) := by decide +kernel
theorem dX8_write_87 : decode cX8_write 87 = .ok (.iload_n 1, 1) := by decide +kernel
theorem dX8_write_88 : decode cX8_write 88 = .ok (.iload_n 2, 1) := by decide +kernel
theorem dX8_write_89 : decode cX8_write 89 = .ok (.iload_n 3, 1) := by decide +kernel
theorem dX8_write_90 : decode cX8_write 90 = .ok (.invokevirtual 247, 3) := by decide +kernel
theorem dX8_write_93 : decode cX8_write 93 = .ok (.iload 4, 2) := by decide +kernel
theorem dX8_write_95 : decode cX8_write 95 = .ok (.ireturn, 1) := by decide +kernel
theorem dX8_out_0 : decode cX8_out 0 = .ok (.aload_n 0, 1) := by decide +kernel
theorem dX8_out_1 : decode cX8_out 1 = .ok (.getfield 18, 3) := by decide +kernel
theorem dX8_out_4 : decode cX8_out 4 = .ok (.iload_n 1, 1) := by decide +kernel
theorem dX8_out_5 : decode cX8_out 5 = .ok (.invokevirtual 251, 3) := by decide +kernel
theorem dX8_out_8 : decode cX8_out 8 = .ok (.istore_n 2, 1) := by decide +kernel
theorem dX8_out_9 : decode cX8_out 9 = .ok (.iload_n 2, 1) := by decide +kernel
theorem dX8_out_10 : decode cX8_out 10 = .ok (.iconst (-1), 1) := by decide +kernel
theorem dX8_out_11 : decode cX8_out 11 = .ok (.if_icmp .ne 13, 3) := by decide +kernel
theorem dX8_out_14 : decode cX8_out 14 = .ok (.new 125, 3) := by decide +kernel
theorem dX8_out_17 : decode cX8_out 17 = .ok (.dup, 1) := by decide +kernel
theorem dX8_out_18 : decode cX8_out 18 = .ok (.ldc 254, 2) := by decide +kernel
theorem dX8_out_20 : decode cX8_out 20 = .ok (.invokespecial 129, 3) := by decide +kernel
theorem dX8_out_23 : decode cX8_out 23 = .ok (.athrow, 1) := by decide +kernel
theorem dX8_out_24 : decode cX8_out 24 = .ok (.iload_n 2, 1) := by decide +kernel
theorem dX8_out_25 : decode cX8_out 25 = .ok (.ireturn, 1) := by decide +kernel
theorem dX8_again_0 : decode cX8_again 0 = .ok (.aload_n 0, 1) := by decide +kernel
theorem dX8_again_1 : decode cX8_again 1 = .ok (.getfield 18, 3) := by decide +kernel
theorem dX8_again_4 : decode cX8_again 4 = .ok (.invokevirtual 74, 3) := by decide +kernel
theorem dX8_again_7 : decode cX8_again 7 = .ok (.sipush 6000, 3) := by decide +kernel
theorem dX8_again_10 : decode cX8_again 10 = .ok (.if_icmp .le 5, 3) := by decide +kernel
theorem dX8_again_13 : decode cX8_again 13 = .ok (.iconst (-1), 1) := by decide +kernel
theorem dX8_again_14 : decode cX8_again 14 = .ok (.ireturn, 1) := by decide +kernel
theorem dX8_again_15 : decode cX8_again 15 = .ok (.aload_n 0, 1) := by decide +kernel
theorem dX8_again_16 : decode cX8_again 16 = .ok (.getfield 14, 3) := by decide +kernel
theorem dX8_again_19 : decode cX8_again 19 = .ok (.aload_n 0, 1) := by decide +kernel
theorem dX8_again_20 : decode cX8_again 20 = .ok (.getfield 18, 3) := by decide +kernel
theorem dX8_again_23 : decode cX8_again 23 = .ok (.invokevirtual 256, 3) := by decide +kernel
theorem dX8_again_26 : decode cX8_again 26 = .ok (.aload_n 0, 1) := by decide +kernel
theorem dX8_again_27 : decode cX8_again 27 = .ok (.getfield 14, 3) := by decide +kernel
theorem dX8_again_30 : decode cX8_again 30 = .ok (.invokevirtual 74, 3) := by decide +kernel
theorem dX8_again_33 : decode cX8_again 33 = .ok (.ireturn, 1) := by decide +kernel
theorem dX8_sizeOfText_0 : decode cX8_sizeOfText 0 = .ok (.iconst 0, 1) := by decide +kernel
theorem dX8_sizeOfText_1 : decode cX8_sizeOfText 1 = .ok (.istore 4, 2) := by decide +kernel
theorem dX8_sizeOfText_3 : decode cX8_sizeOfText 3 = .ok (.iconst 0, 1) := by decide +kernel
theorem dX8_sizeOfText_4 : decode cX8_sizeOfText 4 = .ok (.istore 5, 2) := by decide +kernel
theorem dX8_sizeOfText_6 : decode cX8_sizeOfText 6 = .ok (.iload 5, 2) := by decide +kernel
theorem dX8_sizeOfText_8 : decode cX8_sizeOfText 8 = .ok (.aload_n 0, 1) := by decide +kernel
theorem dX8_sizeOfText_9 : decode cX8_sizeOfText 9 = .ok (.getfield 52, 3) := by decide +kernel
theorem dX8_sizeOfText_12 : decode cX8_sizeOfText 12 = .ok (.invokevirtual 100, 3) := by decide +kernel
theorem dX8_sizeOfText_15 : decode cX8_sizeOfText 15 = .ok (.if_icmp .ge 53, 3) := by decide +kernel
theorem dX8_sizeOfText_18 : decode cX8_sizeOfText 18 = .ok (.aload_n 0, 1) := by decide +kernel
theorem dX8_sizeOfText_19 : decode cX8_sizeOfText 19 = .ok (.iload 5, 2) := by decide +kernel
theorem dX8_sizeOfText_21 : decode cX8_sizeOfText 21 = .ok (.iload_n 2, 1) := by decide +kernel
theorem dX8_sizeOfText_22 : decode cX8_sizeOfText 22 = .ok (.iload_n 3, 1) := by decide +kernel
theorem dX8_sizeOfText_23 : decode cX8_sizeOfText 23 = .ok (.invokevirtual 260, 3) := by decide +kernel
theorem dX8_sizeOfText_26 : decode cX8_sizeOfText 26 = .ok (.ifCond .eq 36, 3) := by decide +kernel
theorem dX8_sizeOfText_29 : decode cX8_sizeOfText 29 = .ok (.iload 4, 2) := by decide +kernel
theorem dX8_sizeOfText_31 : decode cX8_sizeOfText 31 = .ok (.aload_n 0, 1) := by decide +kernel
theorem dX8_sizeOfText_32 : decode cX8_sizeOfText 32 = .ok (.getfield 52, 3) := by decide +kernel
theorem dX8_sizeOfText_35 : decode cX8_sizeOfText 35 = .ok (.iload 5, 2) := by decide +kernel
theorem dX8_sizeOfText_37 : decode cX8_sizeOfText 37 = .ok (.invokevirtual 179, 3) := by decide +kernel
theorem dX8_sizeOfText_40 : decode cX8_sizeOfText 40 = .ok (.aload_n 0, 1) := by decide +kernel
theorem dX8_sizeOfText_41 : decode cX8_sizeOfText 41 = .ok (.iload 5, 2) := by decide +kernel
theorem dX8_sizeOfText_43 : decode cX8_sizeOfText 43 = .ok (.iload_n 2, 1) := by decide +kernel
theorem dX8_sizeOfText_44 : decode cX8_sizeOfText 44 = .ok (.invokevirtual 264, 3) := by decide +kernel
theorem dX8_sizeOfText_47 : decode cX8_sizeOfText 47 = .ok (.aload_n 0, 1) := by decide +kernel
theorem dX8_sizeOfText_48 : decode cX8_sizeOfText 48 = .ok (.iload 5, 2) := by decide +kernel
theorem dX8_sizeOfText_50 : decode cX8_sizeOfText 50 = .ok (.iload_n 2, 1) := by decide +kernel
theorem dX8_sizeOfText_51 : decode cX8_sizeOfText 51 = .ok (.invokevirtual 267, 3) := by decide +kernel
theorem dX8_sizeOfText_54 : decode cX8_sizeOfText 54 = .ok (.isub, 1) := by decide +kernel
theorem dX8_sizeOfText_55 : decode cX8_sizeOfText 55 = .ok (.iload_n 1, 1) := by decide +kernel
theorem dX8_sizeOfText_56 : decode cX8_sizeOfText 56 = .ok (.invokestatic 270, 3) := by decide +kernel
theorem dX8_sizeOfText_59 : decode cX8_sizeOfText 59 = .ok (.iadd, 1) := by decide +kernel
theorem dX8_sizeOfText_60 : decode cX8_sizeOfText 60 = .ok (.istore 4, 2) := by decide +kernel
theorem dX8_sizeOfText_62 : decode cX8_sizeOfText 62 = .ok (.iinc 5 1, 3) := by decide +kernel
theorem dX8_sizeOfText_65 : decode cX8_sizeOfText 65 = .ok (.goto (-59), 3) := by decide +kernel
theorem dX8_sizeOfText_68 : decode cX8_sizeOfText 68 = .ok (.iload 4, 2) := by decide +kernel
theorem dX8_sizeOfText_70 : decode cX8_sizeOfText 70 = .ok (.ireturn, 1) := by decide +kernel
theorem dX8_writeText_0 : decode cX8_writeText 0 = .ok (.aload_n 0, 1) := by decide +kernel
theorem dX8_writeText_1 : decode cX8_writeText 1 = .ok (.getfield 18, 3) := by decide +kernel
theorem dX8_writeText_4 : decode cX8_writeText 4 = .ok (.invokevirtual 87, 3) := by decide +kernel
theorem dX8_writeText_7 : decode cX8_writeText 7 = .ok (.iconst 0, 1) := by decide +kernel
theorem dX8_writeText_8 : decode cX8_writeText 8 = .ok (.istore 4, 2) := by decide +kernel
theorem dX8_writeText_10 : decode cX8_writeText 10 = .ok (.iload 4, 2) := by decide +kernel
theorem dX8_writeText_12 : decode cX8_writeText 12 = .ok (.aload_n 0, 1) := by decide +kernel
theorem dX8_writeText_13 : decode cX8_writeText 13 = .ok (.getfield 52, 3) := by decide +kernel
theorem dX8_writeText_16 : decode cX8_writeText 16 = .ok (.invokevirtual 100, 3) := by decide +kernel
theorem dX8_writeText_19 : decode cX8_writeText 19 = .ok (.if_icmp .ge 48, 3) := by decide +kernel
theorem dX8_writeText_22 : decode cX8_writeText 22 = .ok (.aload_n 0, 1) := by decide +kernel
theorem dX8_writeText_23 : decode cX8_writeText 23 = .ok (.iload 4, 2) := by decide +kernel
theorem dX8_writeText_25 : decode cX8_writeText 25 = .ok (.iload_n 2, 1) := by decide +kernel
theorem dX8_writeText_26 : decode cX8_writeText 26 = .ok (.iload_n 3, 1) := by decide +kernel
theorem dX8_writeText_27 : decode cX8_writeText 27 = .ok (.invokevirtual 260, 3) := by decide +kernel
theorem dX8_writeText_30 : decode cX8_writeText 30 = .ok (.ifCond .eq 31, 3) := by decide +kernel
theorem dX8_writeText_33 : decode cX8_writeText 33 = .ok (.aload_n 0, 1) := by decide +kernel
theorem dX8_writeText_34 : decode cX8_writeText 34 = .ok (.getfield 18, 3) := by decide +kernel
theorem dX8_writeText_37 : decode cX8_writeText 37 = .ok (.aload_n 0, 1) := by decide +kernel
theorem dX8_writeText_38 : decode cX8_writeText 38 = .ok (.getfield 52, 3) := by decide +kernel
theorem dX8_writeText_41 : decode cX8_writeText 41 = .ok (.iload 4, 2) := by decide +kernel
theorem dX8_writeText_43 : decode cX8_writeText 43 = .ok (.iload_n 1, 1) := by decide +kernel
theorem dX8_writeText_44 : decode cX8_writeText 44 = .ok (.aload_n 0, 1) := by decide +kernel
theorem dX8_writeText_45 : decode cX8_writeText 45 = .ok (.iload 4, 2) := by decide +kernel
theorem dX8_writeText_47 : decode cX8_writeText 47 = .ok (.iload_n 2, 1) := by decide +kernel
theorem dX8_writeText_48 : decode cX8_writeText 48 = .ok (.invokevirtual 267, 3) := by decide +kernel
theorem dX8_writeText_51 : decode cX8_writeText 51 = .ok (.aload_n 0, 1) := by decide +kernel
theorem dX8_writeText_52 : decode cX8_writeText 52 = .ok (.iload 4, 2) := by decide +kernel
theorem dX8_writeText_54 : decode cX8_writeText 54 = .ok (.iload_n 2, 1) := by decide +kernel
theorem dX8_writeText_55 : decode cX8_writeText 55 = .ok (.invokevirtual 264, 3) := by decide +kernel
theorem dX8_writeText_58 : decode cX8_writeText 58 = .ok (.invokestatic 276, 3) := by decide +kernel
theorem dX8_writeText_61 : decode cX8_writeText 61 = .ok (.iinc 4 1, 3) := by decide +kernel
theorem dX8_writeText_64 : decode cX8_writeText 64 = .ok (.goto (-54), 3) := by decide +kernel
theorem dX8_writeText_67 : decode cX8_writeText 67 = .ok (.return_, 1) := by decide +kernel
theorem dX8_isChosen_0 : decode cX8_isChosen 0 = .ok (.aload_n 0, 1) := by decide +kernel
theorem dX8_isChosen_1 : decode cX8_isChosen 1 = .ok (.iload_n 1, 1) := by decide +kernel
theorem dX8_isChosen_2 : decode cX8_isChosen 2 = .ok (.iload_n 2, 1) := by decide +kernel
theorem dX8_isChosen_3 : decode cX8_isChosen 3 = .ok (.invokevirtual 267, 3) := by decide +kernel
theorem dX8_isChosen_6 : decode cX8_isChosen 6 = .ok (.aload_n 0, 1) := by decide +kernel
theorem dX8_isChosen_7 : decode cX8_isChosen 7 = .ok (.iload_n 1, 1) := by decide +kernel
theorem dX8_isChosen_8 : decode cX8_isChosen 8 = .ok (.iload_n 2, 1) := by decide +kernel
theorem dX8_isChosen_9 : decode cX8_isChosen 9 = .ok (.invokevirtual 264, 3) := by decide +kernel
theorem dX8_isChosen_12 : decode cX8_isChosen 12 = .ok (.if_icmp .lt 5, 3) := by decide +kernel
theorem dX8_isChosen_15 : decode cX8_isChosen 15 = .ok (.iconst 0, 1) := by decide +kernel
theorem dX8_isChosen_16 : decode cX8_isChosen 16 = .ok (.ireturn, 1) := by decide +kernel
theorem dX8_isChosen_17 : decode cX8_isChosen 17 = .ok (.iload_n 2, 1) := by decide +kernel
theorem dX8_isChosen_18 : decode cX8_isChosen 18 = .ok (.bipush (-2), 2) := by decide +kernel
theorem dX8_isChosen_20 : decode cX8_isChosen 20 = .ok (.if_icmp .ne 5, 3) := by decide +kernel
theorem dX8_isChosen_23 : decode cX8_isChosen 23 = .ok (.iconst 1, 1) := by decide +kernel
theorem dX8_isChosen_24 : decode cX8_isChosen 24 = .ok (.ireturn, 1) := by decide +kernel
theorem dX8_isChosen_25 : decode cX8_isChosen 25 = .ok (.aload_n 0, 1) := by decide +kernel
theorem dX8_isChosen_26 : decode cX8_isChosen 26 = .ok (.getfield 45, 3) := by decide +kernel
theorem dX8_isChosen_29 : decode cX8_isChosen 29 = .ok (.iload_n 1, 1) := by decide +kernel
theorem dX8_isChosen_30 : decode cX8_isChosen 30 = .ok (.invokevirtual 189, 3) := by decide +kernel
theorem dX8_isChosen_33 : decode cX8_isChosen 33 = .ok (.iload_n 2, 1) := by decide +kernel
theorem dX8_isChosen_34 : decode cX8_isChosen 34 = .ok (.if_icmp .ne 33, 3) := by decide +kernel
theorem dX8_isChosen_37 : decode cX8_isChosen 37 = .ok (.aload_n 0, 1) := by decide +kernel
theorem dX8_isChosen_38 : decode cX8_isChosen 38 = .ok (.getfield 45, 3) := by decide +kernel
theorem dX8_isChosen_41 : decode cX8_isChosen 41 = .ok (.iload_n 1, 1) := by decide +kernel
theorem dX8_isChosen_42 : decode cX8_isChosen 42 = .ok (.invokevirtual 198, 3) := by decide +kernel
theorem dX8_isChosen_45 : decode cX8_isChosen 45 = .ok (.ifCond .ne 22, 3) := by decide +kernel
theorem dX8_isChosen_48 : decode cX8_isChosen 48 = .ok (.iload_n 3, 1) := by decide +kernel
theorem dX8_isChosen_49 : decode cX8_isChosen 49 = .ok (.ifCond .eq 14, 3) := by decide +kernel
theorem dX8_isChosen_52 : decode cX8_isChosen 52 = .ok (.aload_n 0, 1) := by decide +kernel
theorem dX8_isChosen_53 : decode cX8_isChosen 53 = .ok (.getfield 45, 3) := by decide +kernel
theorem dX8_isChosen_56 : decode cX8_isChosen 56 = .ok (.iload_n 1, 1) := by decide +kernel
theorem dX8_isChosen_57 : decode cX8_isChosen 57 = .ok (.invokevirtual 280, 3) := by decide +kernel
theorem dX8_isChosen_60 : decode cX8_isChosen 60 = .ok (.ifCond .eq 7, 3) := by decide +kernel
theorem dX8_isChosen_63 : decode cX8_isChosen 63 = .ok (.iconst 1, 1) := by decide +kernel
theorem dX8_isChosen_64 : decode cX8_isChosen 64 = .ok (.goto 4, 3) := by decide +kernel
theorem dX8_isChosen_67 : decode cX8_isChosen 67 = .ok (.iconst 0, 1) := by decide +kernel
theorem dX8_isChosen_68 : decode cX8_isChosen 68 = .ok (.ireturn, 1) := by decide +kernel
theorem dX8_firstOf_0 : decode cX8_firstOf 0 = .ok (.iload_n 2, 1) := by decide +kernel
theorem dX8_firstOf_1 : decode cX8_firstOf 1 = .ok (.bipush (-2), 2) := by decide +kernel
theorem dX8_firstOf_3 : decode cX8_firstOf 3 = .ok (.if_icmp .ne 7, 3) := by decide +kernel
theorem dX8_firstOf_6 : decode cX8_firstOf 6 = .ok (.iconst 0, 1) := by decide +kernel
theorem dX8_firstOf_7 : decode cX8_firstOf 7 = .ok (.goto 11, 3) := by decide +kernel
theorem dX8_firstOf_10 : decode cX8_firstOf 10 = .ok (.aload_n 0, 1) := by decide +kernel
theorem dX8_firstOf_11 : decode cX8_firstOf 11 = .ok (.getfield 45, 3) := by decide +kernel
theorem dX8_firstOf_14 : decode cX8_firstOf 14 = .ok (.iload_n 1, 1) := by decide +kernel
theorem dX8_firstOf_15 : decode cX8_firstOf 15 = .ok (.invokevirtual 192, 3) := by decide +kernel
theorem dX8_firstOf_18 : decode cX8_firstOf 18 = .ok (.ireturn, 1) := by decide +kernel
theorem dX8_lastOf_0 : decode cX8_lastOf 0 = .ok (.iload_n 2, 1) := by decide +kernel
theorem dX8_lastOf_1 : decode cX8_lastOf 1 = .ok (.bipush (-2), 2) := by decide +kernel
theorem dX8_lastOf_3 : decode cX8_lastOf 3 = .ok (.if_icmp .ne 14, 3) := by decide +kernel
theorem dX8_lastOf_6 : decode cX8_lastOf 6 = .ok (.aload_n 0, 1) := by decide +kernel
theorem dX8_lastOf_7 : decode cX8_lastOf 7 = .ok (.getfield 52, 3) := by decide +kernel
theorem dX8_lastOf_10 : decode cX8_lastOf 10 = .ok (.iload_n 1, 1) := by decide +kernel
theorem dX8_lastOf_11 : decode cX8_lastOf 11 = .ok (.invokevirtual 146, 3) := by decide +kernel
theorem dX8_lastOf_14 : decode cX8_lastOf 14 = .ok (.goto 11, 3) := by decide +kernel
theorem dX8_lastOf_17 : decode cX8_lastOf 17 = .ok (.aload_n 0, 1) := by decide +kernel
theorem dX8_lastOf_18 : decode cX8_lastOf 18 = .ok (.getfield 45, 3) := by decide +kernel
theorem dX8_lastOf_21 : decode cX8_lastOf 21 = .ok (.iload_n 1, 1) := by decide +kernel
theorem dX8_lastOf_22 : decode cX8_lastOf 22 = .ok (.invokevirtual 195, 3) := by decide +kernel
theorem dX8_lastOf_25 : decode cX8_lastOf 25 = .ok (.ireturn, 1) := by decide +kernel
theorem dX8_hasBin_0 : decode cX8_hasBin 0 = .ok (.aload_n 0, 1) := by decide +kernel
theorem dX8_hasBin_1 : decode cX8_hasBin 1 = .ok (.getfield 45, 3) := by decide +kernel
theorem dX8_hasBin_4 : decode cX8_hasBin 4 = .ok (.invokevirtual 182, 3) := by decide +kernel
theorem dX8_hasBin_7 : decode cX8_hasBin 7 = .ok (.ifCond .eq 13, 3) := by decide +kernel
theorem dX8_hasBin_10 : decode cX8_hasBin 10 = .ok (.aload_n 0, 1) := by decide +kernel
theorem dX8_hasBin_11 : decode cX8_hasBin 11 = .ok (.getfield 45, 3) := by decide +kernel
theorem dX8_hasBin_14 : decode cX8_hasBin 14 = .ok (.invokevirtual 283, 3) := by decide +kernel
theorem dX8_hasBin_17 : decode cX8_hasBin 17 = .ok (.goto 10, 3) := by decide +kernel
theorem dX8_hasBin_20 : decode cX8_hasBin 20 = .ok (.aload_n 0, 1) := by decide +kernel
theorem dX8_hasBin_21 : decode cX8_hasBin 21 = .ok (.getfield 31, 3) := by decide +kernel
theorem dX8_hasBin_24 : decode cX8_hasBin 24 = .ok (.invokevirtual 121, 3) := by decide +kernel
theorem dX8_hasBin_27 : decode cX8_hasBin 27 = .ok (.istore_n 2, 1) := by decide +kernel
theorem dX8_hasBin_28 : decode cX8_hasBin 28 = .ok (.iload_n 1, 1) := by decide +kernel
theorem dX8_hasBin_29 : decode cX8_hasBin 29 = .ok (.iconst (-1), 1) := by decide +kernel
theorem dX8_hasBin_30 : decode cX8_hasBin 30 = .ok (.if_icmp .lt 12, 3) := by decide +kernel
theorem dX8_hasBin_33 : decode cX8_hasBin 33 = .ok (.iload_n 1, 1) := by decide +kernel
theorem dX8_hasBin_34 : decode cX8_hasBin 34 = .ok (.iload_n 2, 1) := by decide +kernel
theorem dX8_hasBin_35 : decode cX8_hasBin 35 = .ok (.if_icmp .ge 7, 3) := by decide +kernel
theorem dX8_hasBin_38 : decode cX8_hasBin 38 = .ok (.iconst 1, 1) := by decide +kernel
theorem dX8_hasBin_39 : decode cX8_hasBin 39 = .ok (.goto 4, 3) := by decide +kernel
theorem dX8_hasBin_42 : decode cX8_hasBin 42 = .ok (.iconst 0, 1) := by decide +kernel
theorem dX8_hasBin_43 : decode cX8_hasBin 43 = .ok (.ireturn, 1) := by decide +kernel
theorem dX8_isForm_0 : decode cX8_isForm 0 = .ok (.iload_n 0, 1) := by decide +kernel
theorem dX8_isForm_1 : decode cX8_isForm 1 = .ok (.ifCond .eq 8, 3) := by decide +kernel
theorem dX8_isForm_4 : decode cX8_isForm 4 = .ok (.iload_n 0, 1) := by decide +kernel
theorem dX8_isForm_5 : decode cX8_isForm 5 = .ok (.iconst 1, 1) := by decide +kernel
theorem dX8_isForm_6 : decode cX8_isForm 6 = .ok (.if_icmp .ne 7, 3) := by decide +kernel
theorem dX8_isForm_9 : decode cX8_isForm 9 = .ok (.iconst 1, 1) := by decide +kernel
theorem dX8_isForm_10 : decode cX8_isForm 10 = .ok (.goto 4, 3) := by decide +kernel
theorem dX8_isForm_13 : decode cX8_isForm 13 = .ok (.iconst 0, 1) := by decide +kernel
theorem dX8_isForm_14 : decode cX8_isForm 14 = .ok (.ireturn, 1) := by decide +kernel
theorem dX8_isWithin_0 : decode cX8_isWithin 0 = .ok (.iload_n 0, 1) := by decide +kernel
theorem dX8_isWithin_1 : decode cX8_isWithin 1 = .ok (.ifCond .lt 12, 3) := by decide +kernel
theorem dX8_isWithin_4 : decode cX8_isWithin 4 = .ok (.iload_n 0, 1) := by decide +kernel
theorem dX8_isWithin_5 : decode cX8_isWithin 5 = .ok (.iload_n 1, 1) := by decide +kernel
theorem dX8_isWithin_6 : decode cX8_isWithin 6 = .ok (.if_icmp .gt 7, 3) := by decide +kernel
theorem dX8_isWithin_9 : decode cX8_isWithin 9 = .ok (.iconst 1, 1) := by decide +kernel
theorem dX8_isWithin_10 : decode cX8_isWithin 10 = .ok (.goto 4, 3) := by decide +kernel
theorem dX8_isWithin_13 : decode cX8_isWithin 13 = .ok (.iconst 0, 1) := by decide +kernel
theorem dX8_isWithin_14 : decode cX8_isWithin 14 = .ok (.ireturn, 1) := by decide +kernel
theorem dX8_isSign_0 : decode cX8_isSign 0 = .ok (.iload_n 0, 1) := by decide +kernel
theorem dX8_isSign_1 : decode cX8_isSign 1 = .ok (.bipush 33, 2) := by decide +kernel
theorem dX8_isSign_3 : decode cX8_isSign 3 = .ok (.if_icmp .lt 13, 3) := by decide +kernel
theorem dX8_isSign_6 : decode cX8_isSign 6 = .ok (.iload_n 0, 1) := by decide +kernel
theorem dX8_isSign_7 : decode cX8_isSign 7 = .ok (.bipush 126, 2) := by decide +kernel
theorem dX8_isSign_9 : decode cX8_isSign 9 = .ok (.if_icmp .gt 7, 3) := by decide +kernel
theorem dX8_isSign_12 : decode cX8_isSign 12 = .ok (.iconst 1, 1) := by decide +kernel
theorem dX8_isSign_13 : decode cX8_isSign 13 = .ok (.goto 4, 3) := by decide +kernel
theorem dX8_isSign_16 : decode cX8_isSign 16 = .ok (.iconst 0, 1) := by decide +kernel
theorem dX8_isSign_17 : decode cX8_isSign 17 = .ok (.ireturn, 1) := by decide +kernel
theorem dX8_isBase_0 : decode cX8_isBase 0 = .ok (.iload_n 0, 1) := by decide +kernel
theorem dX8_isBase_1 : decode cX8_isBase 1 = .ok (.bipush 65, 2) := by decide +kernel
theorem dX8_isBase_3 : decode cX8_isBase 3 = .ok (.if_icmp .eq 21, 3) := by decide +kernel
theorem dX8_isBase_6 : decode cX8_isBase 6 = .ok (.iload_n 0, 1) := by decide +kernel
theorem dX8_isBase_7 : decode cX8_isBase 7 = .ok (.bipush 67, 2) := by decide +kernel
theorem dX8_isBase_9 : decode cX8_isBase 9 = .ok (.if_icmp .eq 15, 3) := by decide +kernel
theorem dX8_isBase_12 : decode cX8_isBase 12 = .ok (.iload_n 0, 1) := by decide +kernel
theorem dX8_isBase_13 : decode cX8_isBase 13 = .ok (.bipush 71, 2) := by decide +kernel
theorem dX8_isBase_15 : decode cX8_isBase 15 = .ok (.if_icmp .eq 9, 3) := by decide +kernel
theorem dX8_isBase_18 : decode cX8_isBase 18 = .ok (.iload_n 0, 1) := by decide +kernel
theorem dX8_isBase_19 : decode cX8_isBase 19 = .ok (.bipush 84, 2) := by decide +kernel
theorem dX8_isBase_21 : decode cX8_isBase 21 = .ok (.if_icmp .ne 7, 3) := by decide +kernel
theorem dX8_isBase_24 : decode cX8_isBase 24 = .ok (.iconst 1, 1) := by decide +kernel
theorem dX8_isBase_25 : decode cX8_isBase 25 = .ok (.goto 4, 3) := by decide +kernel
theorem dX8_isBase_28 : decode cX8_isBase 28 = .ok (.iconst 0, 1) := by decide +kernel
theorem dX8_isBase_29 : decode cX8_isBase 29 = .ok (.ireturn, 1) := by decide +kernel
theorem dX8_isLetter_0 : decode cX8_isLetter 0 = .ok (.iload_n 0, 1) := by decide +kernel
theorem dX8_isLetter_1 : decode cX8_isLetter 1 = .ok (.invokestatic 286, 3) := by decide +kernel
theorem dX8_isLetter_4 : decode cX8_isLetter 4 = .ok (.ifCond .ne 9, 3) := by decide +kernel
theorem dX8_isLetter_7 : decode cX8_isLetter 7 = .ok (.iload_n 0, 1) := by decide +kernel
theorem dX8_isLetter_8 : decode cX8_isLetter 8 = .ok (.bipush 78, 2) := by decide +kernel
theorem dX8_isLetter_10 : decode cX8_isLetter 10 = .ok (.if_icmp .ne 7, 3) := by decide +kernel
theorem dX8_isLetter_13 : decode cX8_isLetter 13 = .ok (.iconst 1, 1) := by decide +kernel
theorem dX8_isLetter_14 : decode cX8_isLetter 14 = .ok (.goto 4, 3) := by decide +kernel
theorem dX8_isLetter_17 : decode cX8_isLetter 17 = .ok (.iconst 0, 1) := by decide +kernel
theorem dX8_isLetter_18 : decode cX8_isLetter 18 = .ok (.ireturn, 1) := by decide +kernel
