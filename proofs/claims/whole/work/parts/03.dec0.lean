theorem dX0_init_0 : decode cX0_init 0 = .ok (.aload_n 0, 1) := by decide +kernel
theorem dX0_init_1 : decode cX0_init 1 = .ok (.invokespecial 3, 3) := by decide +kernel
theorem dX0_init_4 : decode cX0_init 4 = .ok (.aload_n 0, 1) := by decide +kernel
theorem dX0_init_5 : decode cX0_init 5 = .ok (.bipush 59, 2) := by decide +kernel
theorem dX0_init_7 : decode cX0_init 7 = .ok (.newarray .long, 2) := by decide +kernel
theorem dX0_init_9 : decode cX0_init 9 = .ok (.putfield 9, 3) := by decide +kernel
theorem dX0_init_12 : decode cX0_init 12 = .ok (.return_, 1) := by decide +kernel
theorem dX0_open_0 : decode cX0_open 0 = .ok (.aload_n 0, 1) := by decide +kernel
theorem dX0_open_1 : decode cX0_open 1 = .ok (.iconst 0, 1) := by decide +kernel
theorem dX0_open_2 : decode cX0_open 2 = .ok (.iload_n 1, 1) := by decide +kernel
theorem dX0_open_3 : decode cX0_open 3 = .ok (.invokestatic 15, 3) := by decide +kernel
theorem dX0_open_6 : decode cX0_open 6 = .ok (.putfield 21, 3) := by decide +kernel
theorem dX0_open_9 : decode cX0_open 9 = .ok (.aload_n 0, 1) := by decide +kernel
theorem dX0_open_10 : decode cX0_open 10 = .ok (.iconst 1, 1) := by decide +kernel
theorem dX0_open_11 : decode cX0_open 11 = .ok (.iload_n 2, 1) := by decide +kernel
theorem dX0_open_12 : decode cX0_open 12 = .ok (.invokestatic 15, 3) := by decide +kernel
theorem dX0_open_15 : decode cX0_open 15 = .ok (.putfield 25, 3) := by decide +kernel
theorem dX0_open_18 : decode cX0_open 18 = .ok (.aload_n 0, 1) := by decide +kernel
theorem dX0_open_19 : decode cX0_open 19 = .ok (.getfield 9, 3) := by decide +kernel
theorem dX0_open_22 : decode cX0_open 22 = .ok (.lconst 0, 1) := by decide +kernel
theorem dX0_open_23 : decode cX0_open 23 = .ok (.invokestatic 28, 3) := by decide +kernel
theorem dX0_open_26 : decode cX0_open 26 = .ok (.return_, 1) := by decide +kernel
theorem dX0_length_0 : decode cX0_length 0 = .ok (.aload_n 0, 1) := by decide +kernel
theorem dX0_length_1 : decode cX0_length 1 = .ok (.getfield 21, 3) := by decide +kernel
theorem dX0_length_4 : decode cX0_length 4 = .ok (.aload_n 0, 1) := by decide +kernel
theorem dX0_length_5 : decode cX0_length 5 = .ok (.getfield 25, 3) := by decide +kernel
theorem dX0_length_8 : decode cX0_length 8 = .ok (.iadd, 1) := by decide +kernel
theorem dX0_length_9 : decode cX0_length 9 = .ok (.ireturn, 1) := by decide +kernel
theorem dX0_mark_0 : decode cX0_mark 0 = .ok (.aload_n 0, 1) := by decide +kernel
theorem dX0_mark_1 : decode cX0_mark 1 = .ok (.getfield 9, 3) := by decide +kernel
theorem dX0_mark_4 : decode cX0_mark 4 = .ok (.iload_n 1, 1) := by decide +kernel
theorem dX0_mark_5 : decode cX0_mark 5 = .ok (.invokestatic 34, 3) := by decide +kernel
theorem dX0_mark_8 : decode cX0_mark 8 = .ok (.return_, 1) := by decide +kernel
theorem dX0_reduce_0 : decode cX0_reduce 0 = .ok (.aload_n 0, 1) := by decide +kernel
theorem dX0_reduce_1 : decode cX0_reduce 1 = .ok (.invokevirtual 38, 3) := by decide +kernel
theorem dX0_reduce_4 : decode cX0_reduce 4 = .ok (.istore_n 1, 1) := by decide +kernel
theorem dX0_reduce_5 : decode cX0_reduce 5 = .ok (.iload_n 1, 1) := by decide +kernel
theorem dX0_reduce_6 : decode cX0_reduce 6 = .ok (.ifCond .ne 5, 3) := by decide +kernel
theorem dX0_reduce_9 : decode cX0_reduce 9 = .ok (.iconst 0, 1) := by decide +kernel
theorem dX0_reduce_10 : decode cX0_reduce 10 = .ok (.ireturn, 1) := by decide +kernel
theorem dX0_reduce_11 : decode cX0_reduce 11 = .ok (.aload_n 0, 1) := by decide +kernel
theorem dX0_reduce_12 : decode cX0_reduce 12 = .ok (.iload_n 1, 1) := by decide +kernel
theorem dX0_reduce_13 : decode cX0_reduce 13 = .ok (.putfield 25, 3) := by decide +kernel
theorem dX0_reduce_16 : decode cX0_reduce 16 = .ok (.aload_n 0, 1) := by decide +kernel
theorem dX0_reduce_17 : decode cX0_reduce 17 = .ok (.aload_n 0, 1) := by decide +kernel
theorem dX0_reduce_18 : decode cX0_reduce 18 = .ok (.invokevirtual 42, 3) := by decide +kernel
theorem dX0_reduce_21 : decode cX0_reduce 21 = .ok (.putfield 21, 3) := by decide +kernel
theorem dX0_reduce_24 : decode cX0_reduce 24 = .ok (.aload_n 0, 1) := by decide +kernel
theorem dX0_reduce_25 : decode cX0_reduce 25 = .ok (.invokevirtual 45, 3) := by decide +kernel
theorem dX0_reduce_28 : decode cX0_reduce 28 = .ok (.aload_n 0, 1) := by decide +kernel
theorem dX0_reduce_29 : decode cX0_reduce 29 = .ok (.getfield 21, 3) := by decide +kernel
theorem dX0_reduce_32 : decode cX0_reduce 32 = .ok (.bipush 120, 2) := by decide +kernel
theorem dX0_reduce_34 : decode cX0_reduce 34 = .ok (.if_icmp .gt 7, 3) := by decide +kernel
theorem dX0_reduce_37 : decode cX0_reduce 37 = .ok (.iconst 1, 1) := by decide +kernel
theorem dX0_reduce_38 : decode cX0_reduce 38 = .ok (.goto 4, 3) := by decide +kernel
theorem dX0_reduce_41 : decode cX0_reduce 41 = .ok (.iconst 0, 1) := by decide +kernel
theorem dX0_reduce_42 : decode cX0_reduce 42 = .ok (.ireturn, 1) := by decide +kernel
theorem dX0_leastPeriod_0 : decode cX0_leastPeriod 0 = .ok (.iconst 1, 1) := by decide +kernel
theorem dX0_leastPeriod_1 : decode cX0_leastPeriod 1 = .ok (.istore_n 1, 1) := by decide +kernel
theorem dX0_leastPeriod_2 : decode cX0_leastPeriod 2 = .ok (.iload_n 1, 1) := by decide +kernel
theorem dX0_leastPeriod_3 : decode cX0_leastPeriod 3 = .ok (.aload_n 0, 1) := by decide +kernel
theorem dX0_leastPeriod_4 : decode cX0_leastPeriod 4 = .ok (.getfield 25, 3) := by decide +kernel
theorem dX0_leastPeriod_7 : decode cX0_leastPeriod 7 = .ok (.if_icmp .gt 34, 3) := by decide +kernel
theorem dX0_leastPeriod_10 : decode cX0_leastPeriod 10 = .ok (.iload_n 1, 1) := by decide +kernel
theorem dX0_leastPeriod_11 : decode cX0_leastPeriod 11 = .ok (.bipush 60, 2) := by decide +kernel
theorem dX0_leastPeriod_13 : decode cX0_leastPeriod 13 = .ok (.if_icmp .gt 28, 3) := by decide +kernel
theorem dX0_leastPeriod_16 : decode cX0_leastPeriod 16 = .ok (.aload_n 0, 1) := by decide +kernel
theorem dX0_leastPeriod_17 : decode cX0_leastPeriod 17 = .ok (.getfield 25, 3) := by decide +kernel
theorem dX0_leastPeriod_20 : decode cX0_leastPeriod 20 = .ok (.iload_n 1, 1) := by decide +kernel
theorem dX0_leastPeriod_21 : decode cX0_leastPeriod 21 = .ok (.irem, 1) := by decide +kernel
theorem dX0_leastPeriod_22 : decode cX0_leastPeriod 22 = .ok (.ifCond .ne 13, 3) := by decide +kernel
theorem dX0_leastPeriod_25 : decode cX0_leastPeriod 25 = .ok (.aload_n 0, 1) := by decide +kernel
theorem dX0_leastPeriod_26 : decode cX0_leastPeriod 26 = .ok (.iload_n 1, 1) := by decide +kernel
theorem dX0_leastPeriod_27 : decode cX0_leastPeriod 27 = .ok (.invokevirtual 48, 3) := by decide +kernel
theorem dX0_leastPeriod_30 : decode cX0_leastPeriod 30 = .ok (.ifCond .eq 5, 3) := by decide +kernel
theorem dX0_leastPeriod_33 : decode cX0_leastPeriod 33 = .ok (.iload_n 1, 1) := by decide +kernel
theorem dX0_leastPeriod_34 : decode cX0_leastPeriod 34 = .ok (.ireturn, 1) := by decide +kernel
theorem dX0_leastPeriod_35 : decode cX0_leastPeriod 35 = .ok (.iinc 1 1, 3) := by decide +kernel
theorem dX0_leastPeriod_38 : decode cX0_leastPeriod 38 = .ok (.goto (-36), 3) := by decide +kernel
theorem dX0_leastPeriod_41 : decode cX0_leastPeriod 41 = .ok (.iconst 0, 1) := by decide +kernel
theorem dX0_leastPeriod_42 : decode cX0_leastPeriod 42 = .ok (.ireturn, 1) := by decide +kernel
theorem dX0_comesRoundBy_0 : decode cX0_comesRoundBy 0 = .ok (.aload_n 0, 1) := by decide +kernel
theorem dX0_comesRoundBy_1 : decode cX0_comesRoundBy 1 = .ok (.getfield 21, 3) := by decide +kernel
theorem dX0_comesRoundBy_4 : decode cX0_comesRoundBy 4 = .ok (.istore_n 2, 1) := by decide +kernel
theorem dX0_comesRoundBy_5 : decode cX0_comesRoundBy 5 = .ok (.iload_n 2, 1) := by decide +kernel
theorem dX0_comesRoundBy_6 : decode cX0_comesRoundBy 6 = .ok (.iload_n 1, 1) := by decide +kernel
theorem dX0_comesRoundBy_7 : decode cX0_comesRoundBy 7 = .ok (.iadd, 1) := by decide +kernel
theorem dX0_comesRoundBy_8 : decode cX0_comesRoundBy 8 = .ok (.aload_n 0, 1) := by decide +kernel
theorem dX0_comesRoundBy_9 : decode cX0_comesRoundBy 9 = .ok (.invokevirtual 52, 3) := by decide +kernel
theorem dX0_comesRoundBy_12 : decode cX0_comesRoundBy 12 = .ok (.if_icmp .ge 32, 3) := by decide +kernel
theorem dX0_comesRoundBy_15 : decode cX0_comesRoundBy 15 = .ok (.aload_n 0, 1) := by decide +kernel
theorem dX0_comesRoundBy_16 : decode cX0_comesRoundBy 16 = .ok (.getfield 9, 3) := by decide +kernel
theorem dX0_comesRoundBy_19 : decode cX0_comesRoundBy 19 = .ok (.iload_n 2, 1) := by decide +kernel
theorem dX0_comesRoundBy_20 : decode cX0_comesRoundBy 20 = .ok (.invokestatic 55, 3) := by decide +kernel
theorem dX0_comesRoundBy_23 : decode cX0_comesRoundBy 23 = .ok (.aload_n 0, 1) := by decide +kernel
theorem dX0_comesRoundBy_24 : decode cX0_comesRoundBy 24 = .ok (.getfield 9, 3) := by decide +kernel
theorem dX0_comesRoundBy_27 : decode cX0_comesRoundBy 27 = .ok (.iload_n 2, 1) := by decide +kernel
theorem dX0_comesRoundBy_28 : decode cX0_comesRoundBy 28 = .ok (.iload_n 1, 1) := by decide +kernel
theorem dX0_comesRoundBy_29 : decode cX0_comesRoundBy 29 = .ok (.iadd, 1) := by decide +kernel
theorem dX0_comesRoundBy_30 : decode cX0_comesRoundBy 30 = .ok (.invokestatic 55, 3) := by decide +kernel
theorem dX0_comesRoundBy_33 : decode cX0_comesRoundBy 33 = .ok (.if_icmp .eq 5, 3) := by decide +kernel
theorem dX0_comesRoundBy_36 : decode cX0_comesRoundBy 36 = .ok (.iconst 0, 1) := by decide +kernel
theorem dX0_comesRoundBy_37 : decode cX0_comesRoundBy 37 = .ok (.ireturn, 1) := by decide +kernel
theorem dX0_comesRoundBy_38 : decode cX0_comesRoundBy 38 = .ok (.iinc 2 1, 3) := by decide +kernel
theorem dX0_comesRoundBy_41 : decode cX0_comesRoundBy 41 = .ok (.goto (-36), 3) := by decide +kernel
theorem dX0_comesRoundBy_44 : decode cX0_comesRoundBy 44 = .ok (.iconst 1, 1) := by decide +kernel
theorem dX0_comesRoundBy_45 : decode cX0_comesRoundBy 45 = .ok (.ireturn, 1) := by decide +kernel
theorem dX0_leastStart_0 : decode cX0_leastStart 0 = .ok (.aload_n 0, 1) := by decide +kernel
theorem dX0_leastStart_1 : decode cX0_leastStart 1 = .ok (.getfield 21, 3) := by decide +kernel
theorem dX0_leastStart_4 : decode cX0_leastStart 4 = .ok (.istore_n 1, 1) := by decide +kernel
theorem dX0_leastStart_5 : decode cX0_leastStart 5 = .ok (.iload_n 1, 1) := by decide +kernel
theorem dX0_leastStart_6 : decode cX0_leastStart 6 = .ok (.ifCond .le 37, 3) := by decide +kernel
theorem dX0_leastStart_9 : decode cX0_leastStart 9 = .ok (.aload_n 0, 1) := by decide +kernel
theorem dX0_leastStart_10 : decode cX0_leastStart 10 = .ok (.getfield 9, 3) := by decide +kernel
theorem dX0_leastStart_13 : decode cX0_leastStart 13 = .ok (.iload_n 1, 1) := by decide +kernel
theorem dX0_leastStart_14 : decode cX0_leastStart 14 = .ok (.iconst 1, 1) := by decide +kernel
theorem dX0_leastStart_15 : decode cX0_leastStart 15 = .ok (.isub, 1) := by decide +kernel
theorem dX0_leastStart_16 : decode cX0_leastStart 16 = .ok (.invokestatic 55, 3) := by decide +kernel
theorem dX0_leastStart_19 : decode cX0_leastStart 19 = .ok (.aload_n 0, 1) := by decide +kernel
theorem dX0_leastStart_20 : decode cX0_leastStart 20 = .ok (.getfield 9, 3) := by decide +kernel
theorem dX0_leastStart_23 : decode cX0_leastStart 23 = .ok (.iload_n 1, 1) := by decide +kernel
theorem dX0_leastStart_24 : decode cX0_leastStart 24 = .ok (.iconst 1, 1) := by decide +kernel
theorem dX0_leastStart_25 : decode cX0_leastStart 25 = .ok (.isub, 1) := by decide +kernel
theorem dX0_leastStart_26 : decode cX0_leastStart 26 = .ok (.aload_n 0, 1) := by decide +kernel
theorem dX0_leastStart_27 : decode cX0_leastStart 27 = .ok (.getfield 25, 3) := by decide +kernel
theorem dX0_leastStart_30 : decode cX0_leastStart 30 = .ok (.iadd, 1) := by decide +kernel
theorem dX0_leastStart_31 : decode cX0_leastStart 31 = .ok (.invokestatic 55, 3) := by decide +kernel
theorem dX0_leastStart_34 : decode cX0_leastStart 34 = .ok (.if_icmp .ne 9, 3) := by decide +kernel
theorem dX0_leastStart_37 : decode cX0_leastStart 37 = .ok (.iinc 1 (-1), 3) := by decide +kernel
theorem dX0_leastStart_40 : decode cX0_leastStart 40 = .ok (.goto (-35), 3) := by decide +kernel
theorem dX0_leastStart_43 : decode cX0_leastStart 43 = .ok (.iload_n 1, 1) := by decide +kernel
theorem dX0_leastStart_44 : decode cX0_leastStart 44 = .ok (.ireturn, 1) := by decide +kernel
theorem dX0_clearBehind_0 : decode cX0_clearBehind 0 = .ok (.aload_n 0, 1) := by decide +kernel
theorem dX0_clearBehind_1 : decode cX0_clearBehind 1 = .ok (.invokevirtual 52, 3) := by decide +kernel
theorem dX0_clearBehind_4 : decode cX0_clearBehind 4 = .ok (.istore_n 1, 1) := by decide +kernel
theorem dX0_clearBehind_5 : decode cX0_clearBehind 5 = .ok (.iload_n 1, 1) := by decide +kernel
theorem dX0_clearBehind_6 : decode cX0_clearBehind 6 = .ok (.sipush 192, 3) := by decide +kernel
theorem dX0_clearBehind_9 : decode cX0_clearBehind 9 = .ok (.if_icmp .ge 17, 3) := by decide +kernel
theorem dX0_clearBehind_12 : decode cX0_clearBehind 12 = .ok (.aload_n 0, 1) := by decide +kernel
theorem dX0_clearBehind_13 : decode cX0_clearBehind 13 = .ok (.getfield 9, 3) := by decide +kernel
theorem dX0_clearBehind_16 : decode cX0_clearBehind 16 = .ok (.iload_n 1, 1) := by decide +kernel
theorem dX0_clearBehind_17 : decode cX0_clearBehind 17 = .ok (.invokestatic 59, 3) := by decide +kernel
theorem dX0_clearBehind_20 : decode cX0_clearBehind 20 = .ok (.iinc 1 1, 3) := by decide +kernel
theorem dX0_clearBehind_23 : decode cX0_clearBehind 23 = .ok (.goto (-18), 3) := by decide +kernel
theorem dX0_clearBehind_26 : decode cX0_clearBehind 26 = .ok (.return_, 1) := by decide +kernel
theorem dX1_init_0 : decode cX1_init 0 = .ok (.aload_n 0, 1) := by decide +kernel
theorem dX1_init_1 : decode cX1_init 1 = .ok (.invokespecial 3, 3) := by decide +kernel
theorem dX1_init_4 : decode cX1_init 4 = .ok (.aload_n 0, 1) := by decide +kernel
theorem dX1_init_5 : decode cX1_init 5 = .ok (.bipush 6, 2) := by decide +kernel
theorem dX1_init_7 : decode cX1_init 7 = .ok (.anewarray 9, 3) := by decide +kernel
theorem dX1_init_10 : decode cX1_init 10 = .ok (.putfield 11, 3) := by decide +kernel
theorem dX1_init_13 : decode cX1_init 13 = .ok (.aload_n 0, 1) := by decide +kernel
theorem dX1_init_14 : decode cX1_init 14 = .ok (.iconst 2, 1) := by decide +kernel
theorem dX1_init_15 : decode cX1_init 15 = .ok (.putfield 17, 3) := by decide +kernel
theorem dX1_init_18 : decode cX1_init 18 = .ok (.aload_n 0, 1) := by decide +kernel
theorem dX1_init_19 : decode cX1_init 19 = .ok (.iconst 0, 1) := by decide +kernel
theorem dX1_init_20 : decode cX1_init 20 = .ok (.putfield 21, 3) := by decide +kernel
theorem dX1_init_23 : decode cX1_init 23 = .ok (.return_, 1) := by decide +kernel
theorem dX1_keep_0 : decode cX1_keep 0 = .ok (.aload_n 1, 1) := by decide +kernel
theorem dX1_keep_1 : decode cX1_keep 1 = .ok (.aload_n 0, 1) := by decide +kernel
theorem dX1_keep_2 : decode cX1_keep 2 = .ok (.getfield 11, 3) := by decide +kernel
theorem dX1_keep_5 : decode cX1_keep 5 = .ok (.invokestatic 25, 3) := by decide +kernel
theorem dX1_keep_8 : decode cX1_keep 8 = .ok (.aload_n 0, 1) := by decide +kernel
theorem dX1_keep_9 : decode cX1_keep 9 = .ok (.iload_n 2, 1) := by decide +kernel
theorem dX1_keep_10 : decode cX1_keep 10 = .ok (.putfield 17, 3) := by decide +kernel
theorem dX1_keep_13 : decode cX1_keep 13 = .ok (.aload_n 0, 1) := by decide +kernel
theorem dX1_keep_14 : decode cX1_keep 14 = .ok (.iconst 1, 1) := by decide +kernel
theorem dX1_keep_15 : decode cX1_keep 15 = .ok (.putfield 21, 3) := by decide +kernel
theorem dX1_keep_18 : decode cX1_keep 18 = .ok (.return_, 1) := by decide +kernel
theorem dX1_giveBack_0 : decode cX1_giveBack 0 = .ok (.aload_n 0, 1) := by decide +kernel
theorem dX1_giveBack_1 : decode cX1_giveBack 1 = .ok (.getfield 11, 3) := by decide +kernel
theorem dX1_giveBack_4 : decode cX1_giveBack 4 = .ok (.aload_n 1, 1) := by decide +kernel
theorem dX1_giveBack_5 : decode cX1_giveBack 5 = .ok (.invokestatic 25, 3) := by decide +kernel
theorem dX1_giveBack_8 : decode cX1_giveBack 8 = .ok (.aload_n 0, 1) := by decide +kernel
theorem dX1_giveBack_9 : decode cX1_giveBack 9 = .ok (.getfield 17, 3) := by decide +kernel
theorem dX1_giveBack_12 : decode cX1_giveBack 12 = .ok (.ireturn, 1) := by decide +kernel
theorem dX1_copySets_0 : decode cX1_copySets 0 = .ok (.iconst 0, 1) := by decide +kernel
theorem dX1_copySets_1 : decode cX1_copySets 1 = .ok (.istore_n 2, 1) := by decide +kernel
theorem dX1_copySets_2 : decode cX1_copySets 2 = .ok (.iload_n 2, 1) := by decide +kernel
theorem dX1_copySets_3 : decode cX1_copySets 3 = .ok (.aload_n 0, 1) := by decide +kernel
theorem dX1_copySets_4 : decode cX1_copySets 4 = .ok (.arraylength, 1) := by decide +kernel
theorem dX1_copySets_5 : decode cX1_copySets 5 = .ok (.if_icmp .ge 21, 3) := by decide +kernel
theorem dX1_copySets_8 : decode cX1_copySets 8 = .ok (.iload_n 2, 1) := by decide +kernel
theorem dX1_copySets_9 : decode cX1_copySets 9 = .ok (.aload_n 1, 1) := by decide +kernel
theorem dX1_copySets_10 : decode cX1_copySets 10 = .ok (.arraylength, 1) := by decide +kernel
theorem dX1_copySets_11 : decode cX1_copySets 11 = .ok (.if_icmp .ge 15, 3) := by decide +kernel
theorem dX1_copySets_14 : decode cX1_copySets 14 = .ok (.aload_n 1, 1) := by decide +kernel
theorem dX1_copySets_15 : decode cX1_copySets 15 = .ok (.iload_n 2, 1) := by decide +kernel
theorem dX1_copySets_16 : decode cX1_copySets 16 = .ok (.aload_n 0, 1) := by decide +kernel
theorem dX1_copySets_17 : decode cX1_copySets 17 = .ok (.iload_n 2, 1) := by decide +kernel
theorem dX1_copySets_18 : decode cX1_copySets 18 = .ok (.aaload, 1) := by decide +kernel
theorem dX1_copySets_19 : decode cX1_copySets 19 = .ok (.aastore, 1) := by decide +kernel
theorem dX1_copySets_20 : decode cX1_copySets 20 = .ok (.iinc 2 1, 3) := by decide +kernel
theorem dX1_copySets_23 : decode cX1_copySets 23 = .ok (.goto (-21), 3) := by decide +kernel
theorem dX1_copySets_26 : decode cX1_copySets 26 = .ok (.return_, 1) := by decide +kernel
theorem dX2_init_0 : decode cX2_init 0 = .ok (.aload_n 0, 1) := by decide +kernel
theorem dX2_init_1 : decode cX2_init 1 = .ok (.invokespecial 3, 3) := by decide +kernel
theorem dX2_init_4 : decode cX2_init 4 = .ok (.aload_n 0, 1) := by decide +kernel
theorem dX2_init_5 : decode cX2_init 5 = .ok (.iload_n 1, 1) := by decide +kernel
theorem dX2_init_6 : decode cX2_init 6 = .ok (.putfield 9, 3) := by decide +kernel
theorem dX2_init_9 : decode cX2_init 9 = .ok (.aload_n 0, 1) := by decide +kernel
theorem dX2_init_10 : decode cX2_init 10 = .ok (.iload_n 2, 1) := by decide +kernel
theorem dX2_init_11 : decode cX2_init 11 = .ok (.putfield 15, 3) := by decide +kernel
theorem dX2_init_14 : decode cX2_init 14 = .ok (.aload_n 0, 1) := by decide +kernel
theorem dX2_init_15 : decode cX2_init 15 = .ok (.aload_n 3, 1) := by decide +kernel
theorem dX2_init_16 : decode cX2_init 16 = .ok (.putfield 18, 3) := by decide +kernel
theorem dX2_init_19 : decode cX2_init 19 = .ok (.aload_n 0, 1) := by decide +kernel
theorem dX2_init_20 : decode cX2_init 20 = .ok (.lload 4, 2) := by decide +kernel
theorem dX2_init_22 : decode cX2_init 22 = .ok (.putfield 22, 3) := by decide +kernel
theorem dX2_init_25 : decode cX2_init 25 = .ok (.return_, 1) := by decide +kernel
theorem dX2_after_0 : decode cX2_after 0 = .ok (.iload_n 1, 1) := by decide +kernel
theorem dX2_after_1 : decode cX2_after 1 = .ok (.aload_n 0, 1) := by decide +kernel
theorem dX2_after_2 : decode cX2_after 2 = .ok (.getfield 9, 3) := by decide +kernel
theorem dX2_after_5 : decode cX2_after 5 = .ok (.imul, 1) := by decide +kernel
theorem dX2_after_6 : decode cX2_after 6 = .ok (.iload_n 2, 1) := by decide +kernel
theorem dX2_after_7 : decode cX2_after 7 = .ok (.iadd, 1) := by decide +kernel
theorem dX2_after_8 : decode cX2_after 8 = .ok (.istore_n 3, 1) := by decide +kernel
theorem dX2_after_9 : decode cX2_after 9 = .ok (.iload_n 3, 1) := by decide +kernel
theorem dX2_after_10 : decode cX2_after 10 = .ok (.ifCond .lt 21, 3) := by decide +kernel
theorem dX2_after_13 : decode cX2_after 13 = .ok (.iload_n 3, 1) := by decide +kernel
theorem dX2_after_14 : decode cX2_after 14 = .ok (.aload_n 0, 1) := by decide +kernel
theorem dX2_after_15 : decode cX2_after 15 = .ok (.getfield 18, 3) := by decide +kernel
theorem dX2_after_18 : decode cX2_after 18 = .ok (.arraylength, 1) := by decide +kernel
theorem dX2_after_19 : decode cX2_after 19 = .ok (.if_icmp .ge 12, 3) := by decide +kernel
theorem dX2_after_22 : decode cX2_after 22 = .ok (.aload_n 0, 1) := by decide +kernel
theorem dX2_after_23 : decode cX2_after 23 = .ok (.getfield 18, 3) := by decide +kernel
theorem dX2_after_26 : decode cX2_after 26 = .ok (.iload_n 3, 1) := by decide +kernel
theorem dX2_after_27 : decode cX2_after 27 = .ok (.iaload, 1) := by decide +kernel
theorem dX2_after_28 : decode cX2_after 28 = .ok (.goto 4, 3) := by decide +kernel
theorem dX2_after_31 : decode cX2_after 31 = .ok (.iconst 0, 1) := by decide +kernel
theorem dX2_after_32 : decode cX2_after 32 = .ok (.ireturn, 1) := by decide +kernel
theorem dX2_isGood_0 : decode cX2_isGood 0 = .ok (.aload_n 0, 1) := by decide +kernel
theorem dX2_isGood_1 : decode cX2_isGood 1 = .ok (.getfield 22, 3) := by decide +kernel
theorem dX2_isGood_4 : decode cX2_isGood 4 = .ok (.iload_n 1, 1) := by decide +kernel
theorem dX2_isGood_5 : decode cX2_isGood 5 = .ok (.lushr, 1) := by decide +kernel
theorem dX2_isGood_6 : decode cX2_isGood 6 = .ok (.lconst 1, 1) := by decide +kernel
theorem dX2_isGood_7 : decode cX2_isGood 7 = .ok (.land, 1) := by decide +kernel
theorem dX2_isGood_8 : decode cX2_isGood 8 = .ok (.lconst 0, 1) := by decide +kernel
theorem dX2_isGood_9 : decode cX2_isGood 9 = .ok (.lcmp, 1) := by decide +kernel
theorem dX2_isGood_10 : decode cX2_isGood 10 = .ok (.ifCond .eq 7, 3) := by decide +kernel
theorem dX2_isGood_13 : decode cX2_isGood 13 = .ok (.iconst 1, 1) := by decide +kernel
theorem dX2_isGood_14 : decode cX2_isGood 14 = .ok (.goto 4, 3) := by decide +kernel
theorem dX2_isGood_17 : decode cX2_isGood 17 = .ok (.iconst 0, 1) := by decide +kernel
theorem dX2_isGood_18 : decode cX2_isGood 18 = .ok (.ireturn, 1) := by decide +kernel
theorem dX2_read_0 : decode cX2_read 0 = .ok (.iconst 0, 1) := by decide +kernel
theorem dX2_read_1 : decode cX2_read 1 = .ok (.istore_n 3, 1) := by decide +kernel
theorem dX2_read_2 : decode cX2_read 2 = .ok (.iload_n 1, 1) := by decide +kernel
theorem dX2_read_3 : decode cX2_read 3 = .ok (.istore 4, 2) := by decide +kernel
theorem dX2_read_5 : decode cX2_read 5 = .ok (.iconst 0, 1) := by decide +kernel
theorem dX2_read_6 : decode cX2_read 6 = .ok (.istore 5, 2) := by decide +kernel
theorem dX2_read_8 : decode cX2_read 8 = .ok (.iload 5, 2) := by decide +kernel
theorem dX2_read_10 : decode cX2_read 10 = .ok (.iload_n 2, 1) := by decide +kernel
theorem dX2_read_11 : decode cX2_read 11 = .ok (.if_icmp .ge 39, 3) := by decide +kernel
theorem dX2_read_14 : decode cX2_read 14 = .ok (.aload_n 0, 1) := by decide +kernel
theorem dX2_read_15 : decode cX2_read 15 = .ok (.getfield 9, 3) := by decide +kernel
theorem dX2_read_18 : decode cX2_read 18 = .ok (.iconst 1, 1) := by decide +kernel
theorem dX2_read_19 : decode cX2_read 19 = .ok (.if_icmp .le 31, 3) := by decide +kernel
theorem dX2_read_22 : decode cX2_read 22 = .ok (.aload_n 0, 1) := by decide +kernel
theorem dX2_read_23 : decode cX2_read 23 = .ok (.iload_n 3, 1) := by decide +kernel
theorem dX2_read_24 : decode cX2_read 24 = .ok (.iload 4, 2) := by decide +kernel
theorem dX2_read_26 : decode cX2_read 26 = .ok (.aload_n 0, 1) := by decide +kernel
theorem dX2_read_27 : decode cX2_read 27 = .ok (.getfield 9, 3) := by decide +kernel
theorem dX2_read_30 : decode cX2_read 30 = .ok (.irem, 1) := by decide +kernel
theorem dX2_read_31 : decode cX2_read 31 = .ok (.invokevirtual 26, 3) := by decide +kernel
theorem dX2_read_34 : decode cX2_read 34 = .ok (.istore_n 3, 1) := by decide +kernel
theorem dX2_read_35 : decode cX2_read 35 = .ok (.iload 4, 2) := by decide +kernel
theorem dX2_read_37 : decode cX2_read 37 = .ok (.aload_n 0, 1) := by decide +kernel
theorem dX2_read_38 : decode cX2_read 38 = .ok (.getfield 9, 3) := by decide +kernel
theorem dX2_read_41 : decode cX2_read 41 = .ok (.idiv, 1) := by decide +kernel
theorem dX2_read_42 : decode cX2_read 42 = .ok (.istore 4, 2) := by decide +kernel
theorem dX2_read_44 : decode cX2_read 44 = .ok (.iinc 5 1, 3) := by decide +kernel
theorem dX2_read_47 : decode cX2_read 47 = .ok (.goto (-39), 3) := by decide +kernel
theorem dX2_read_50 : decode cX2_read 50 = .ok (.iload_n 3, 1) := by decide +kernel
theorem dX2_read_51 : decode cX2_read 51 = .ok (.ireturn, 1) := by decide +kernel
theorem dX2_steps_0 : decode cX2_steps 0 = .ok (.lload_n 1, 1) := by decide +kernel
theorem dX2_steps_1 : decode cX2_steps 1 = .ok (.lstore 5, 2) := by decide +kernel
theorem dX2_steps_3 : decode cX2_steps 3 = .ok (.iconst 0, 1) := by decide +kernel
theorem dX2_steps_4 : decode cX2_steps 4 = .ok (.istore 7, 2) := by decide +kernel
theorem dX2_steps_6 : decode cX2_steps 6 = .ok (.iload 7, 2) := by decide +kernel
theorem dX2_steps_8 : decode cX2_steps 8 = .ok (.bipush 64, 2) := by decide +kernel
theorem dX2_steps_10 : decode cX2_steps 10 = .ok (.if_icmp .ge 32, 3) := by decide +kernel
theorem dX2_steps_13 : decode cX2_steps 13 = .ok (.lload 5, 2) := by decide +kernel
theorem dX2_steps_15 : decode cX2_steps 15 = .ok (.lload_n 3, 1) := by decide +kernel
theorem dX2_steps_16 : decode cX2_steps 16 = .ok (.land, 1) := by decide +kernel
theorem dX2_steps_17 : decode cX2_steps 17 = .ok (.lconst 0, 1) := by decide +kernel
theorem dX2_steps_18 : decode cX2_steps 18 = .ok (.lcmp, 1) := by decide +kernel
theorem dX2_steps_19 : decode cX2_steps 19 = .ok (.ifCond .eq 6, 3) := by decide +kernel
theorem dX2_steps_22 : decode cX2_steps 22 = .ok (.iload 7, 2) := by decide +kernel
theorem dX2_steps_24 : decode cX2_steps 24 = .ok (.ireturn, 1) := by decide +kernel
theorem dX2_steps_25 : decode cX2_steps 25 = .ok (.lload 5, 2) := by decide +kernel
theorem dX2_steps_27 : decode cX2_steps 27 = .ok (.aload_n 0, 1) := by decide +kernel
theorem dX2_steps_28 : decode cX2_steps 28 = .ok (.lload 5, 2) := by decide +kernel
theorem dX2_steps_30 : decode cX2_steps 30 = .ok (.invokevirtual 30, 3) := by decide +kernel
theorem dX2_steps_33 : decode cX2_steps 33 = .ok (.lor, 1) := by decide +kernel
theorem dX2_steps_34 : decode cX2_steps 34 = .ok (.lstore 5, 2) := by decide +kernel
theorem dX2_steps_36 : decode cX2_steps 36 = .ok (.iinc 7 1, 3) := by decide +kernel
theorem dX2_steps_39 : decode cX2_steps 39 = .ok (.goto (-33), 3) := by decide +kernel
theorem dX2_steps_42 : decode cX2_steps 42 = .ok (.bipush (-6), 2) := by decide +kernel
theorem dX2_steps_44 : decode cX2_steps 44 = .ok (.ireturn, 1) := by decide +kernel
theorem dX2_afterAnyOf_0 : decode cX2_afterAnyOf 0 = .ok (.lconst 0, 1) := by decide +kernel
theorem dX2_afterAnyOf_1 : decode cX2_afterAnyOf 1 = .ok (.lstore_n 3, 1) := by decide +kernel
theorem dX2_afterAnyOf_2 : decode cX2_afterAnyOf 2 = .ok (.iconst 0, 1) := by decide +kernel
theorem dX2_afterAnyOf_3 : decode cX2_afterAnyOf 3 = .ok (.istore 5, 2) := by decide +kernel
theorem dX2_afterAnyOf_5 : decode cX2_afterAnyOf 5 = .ok (.iload 5, 2) := by decide +kernel
theorem dX2_afterAnyOf_7 : decode cX2_afterAnyOf 7 = .ok (.aload_n 0, 1) := by decide +kernel
theorem dX2_afterAnyOf_8 : decode cX2_afterAnyOf 8 = .ok (.getfield 15, 3) := by decide +kernel
theorem dX2_afterAnyOf_11 : decode cX2_afterAnyOf 11 = .ok (.if_icmp .ge 51, 3) := by decide +kernel
theorem dX2_afterAnyOf_14 : decode cX2_afterAnyOf 14 = .ok (.lload_n 1, 1) := by decide +kernel
theorem dX2_afterAnyOf_15 : decode cX2_afterAnyOf 15 = .ok (.iload 5, 2) := by decide +kernel
theorem dX2_afterAnyOf_17 : decode cX2_afterAnyOf 17 = .ok (.lushr, 1) := by decide +kernel
theorem dX2_afterAnyOf_18 : decode cX2_afterAnyOf 18 = .ok (.lconst 1, 1) := by decide +kernel
theorem dX2_afterAnyOf_19 : decode cX2_afterAnyOf 19 = .ok (.land, 1) := by decide +kernel
theorem dX2_afterAnyOf_20 : decode cX2_afterAnyOf 20 = .ok (.lconst 0, 1) := by decide +kernel
theorem dX2_afterAnyOf_21 : decode cX2_afterAnyOf 21 = .ok (.lcmp, 1) := by decide +kernel
theorem dX2_afterAnyOf_22 : decode cX2_afterAnyOf 22 = .ok (.ifCond .eq 34, 3) := by decide +kernel
theorem dX2_afterAnyOf_25 : decode cX2_afterAnyOf 25 = .ok (.iconst 0, 1) := by decide +kernel
theorem dX2_afterAnyOf_26 : decode cX2_afterAnyOf 26 = .ok (.istore 6, 2) := by decide +kernel
theorem dX2_afterAnyOf_28 : decode cX2_afterAnyOf 28 = .ok (.iload 6, 2) := by decide +kernel
theorem dX2_afterAnyOf_30 : decode cX2_afterAnyOf 30 = .ok (.aload_n 0, 1) := by decide +kernel
theorem dX2_afterAnyOf_31 : decode cX2_afterAnyOf 31 = .ok (.getfield 9, 3) := by decide +kernel
theorem dX2_afterAnyOf_34 : decode cX2_afterAnyOf 34 = .ok (.if_icmp .ge 22, 3) := by decide +kernel
theorem dX2_afterAnyOf_37 : decode cX2_afterAnyOf 37 = .ok (.lload_n 3, 1) := by decide +kernel
theorem dX2_afterAnyOf_38 : decode cX2_afterAnyOf 38 = .ok (.lconst 1, 1) := by decide +kernel
theorem dX2_afterAnyOf_39 : decode cX2_afterAnyOf 39 = .ok (.aload_n 0, 1) := by decide +kernel
theorem dX2_afterAnyOf_40 : decode cX2_afterAnyOf 40 = .ok (.iload 5, 2) := by decide +kernel
theorem dX2_afterAnyOf_42 : decode cX2_afterAnyOf 42 = .ok (.iload 6, 2) := by decide +kernel
theorem dX2_afterAnyOf_44 : decode cX2_afterAnyOf 44 = .ok (.invokevirtual 26, 3) := by decide +kernel
theorem dX2_afterAnyOf_47 : decode cX2_afterAnyOf 47 = .ok (.lshl, 1) := by decide +kernel
theorem dX2_afterAnyOf_48 : decode cX2_afterAnyOf 48 = .ok (.lor, 1) := by decide +kernel
theorem dX2_afterAnyOf_49 : decode cX2_afterAnyOf 49 = .ok (.lstore_n 3, 1) := by decide +kernel
theorem dX2_afterAnyOf_50 : decode cX2_afterAnyOf 50 = .ok (.iinc 6 1, 3) := by decide +kernel
theorem dX2_afterAnyOf_53 : decode cX2_afterAnyOf 53 = .ok (.goto (-25), 3) := by decide +kernel
theorem dX2_afterAnyOf_56 : decode cX2_afterAnyOf 56 = .ok (.iinc 5 1, 3) := by decide +kernel
theorem dX2_afterAnyOf_59 : decode cX2_afterAnyOf 59 = .ok (.goto (-54), 3) := by decide +kernel
theorem dX2_afterAnyOf_62 : decode cX2_afterAnyOf 62 = .ok (.lload_n 3, 1) := by decide +kernel
theorem dX2_afterAnyOf_63 : decode cX2_afterAnyOf 63 = .ok (.lreturn, 1) := by decide +kernel
theorem dX3_init_0 : decode cX3_init 0 = .ok (.aload_n 0, 1) := by decide +kernel
theorem dX3_init_1 : decode cX3_init 1 = .ok (.invokespecial 3, 3) := by decide +kernel
theorem dX3_init_4 : decode cX3_init 4 = .ok (.aload_n 0, 1) := by decide +kernel
theorem dX3_init_5 : decode cX3_init 5 = .ok (.aload_n 1, 1) := by decide +kernel
theorem dX3_init_6 : decode cX3_init 6 = .ok (.getfield 9, 3) := by decide +kernel
theorem dX3_init_9 : decode cX3_init 9 = .ok (.putfield 15, 3) := by decide +kernel
theorem dX3_init_12 : decode cX3_init 12 = .ok (.aload_n 0, 1) := by decide +kernel
theorem dX3_init_13 : decode cX3_init 13 = .ok (.aload_n 1, 1) := by decide +kernel
theorem dX3_init_14 : decode cX3_init 14 = .ok (.getfield 18, 3) := by decide +kernel
theorem dX3_init_17 : decode cX3_init 17 = .ok (.putfield 21, 3) := by decide +kernel
theorem dX3_init_20 : decode cX3_init 20 = .ok (.aload_n 0, 1) := by decide +kernel
theorem dX3_init_21 : decode cX3_init 21 = .ok (.aload_n 1, 1) := by decide +kernel
theorem dX3_init_22 : decode cX3_init 22 = .ok (.getfield 22, 3) := by decide +kernel
theorem dX3_init_25 : decode cX3_init 25 = .ok (.iconst 3, 1) := by decide +kernel
theorem dX3_init_26 : decode cX3_init 26 = .ok (.invokestatic 26, 3) := by decide +kernel
theorem dX3_init_29 : decode cX3_init 29 = .ok (.putfield 32, 3) := by decide +kernel
theorem dX3_init_32 : decode cX3_init 32 = .ok (.aload_n 0, 1) := by decide +kernel
theorem dX3_init_33 : decode cX3_init 33 = .ok (.aload_n 2, 1) := by decide +kernel
theorem dX3_init_34 : decode cX3_init 34 = .ok (.putfield 33, 3) := by decide +kernel
theorem dX3_init_37 : decode cX3_init 37 = .ok (.return_, 1) := by decide +kernel
theorem dX3_holds_0 : decode cX3_holds 0 = .ok (.aload_n 0, 1) := by decide +kernel
theorem dX3_holds_1 : decode cX3_holds 1 = .ok (.iload_n 1, 1) := by decide +kernel
theorem dX3_holds_2 : decode cX3_holds 2 = .ok (.aload_n 0, 1) := by decide +kernel
theorem dX3_holds_3 : decode cX3_holds 3 = .ok (.getfield 15, 3) := by decide +kernel
theorem dX3_holds_6 : decode cX3_holds 6 = .ok (.aload_n 0, 1) := by decide +kernel
theorem dX3_holds_7 : decode cX3_holds 7 = .ok (.getfield 21, 3) := by decide +kernel
theorem dX3_holds_10 : decode cX3_holds 10 = .ok (.invokestatic 37, 3) := by decide +kernel
theorem dX3_holds_13 : decode cX3_holds 13 = .ok (.invokevirtual 41, 3) := by decide +kernel
theorem dX3_holds_16 : decode cX3_holds 16 = .ok (.ireturn, 1) := by decide +kernel
theorem dX3_at_0 : decode cX3_at 0 = .ok (.aload_n 0, 1) := by decide +kernel
theorem dX3_at_1 : decode cX3_at 1 = .ok (.getfield 32, 3) := by decide +kernel
theorem dX3_at_4 : decode cX3_at 4 = .ok (.iload_n 1, 1) := by decide +kernel
theorem dX3_at_5 : decode cX3_at 5 = .ok (.invokestatic 45, 3) := by decide +kernel
theorem dX3_at_8 : decode cX3_at 8 = .ok (.ireturn, 1) := by decide +kernel
theorem dX3_placeAfter_0 : decode cX3_placeAfter 0 = .ok (.iload_n 1, 1) := by decide +kernel
theorem dX3_placeAfter_1 : decode cX3_placeAfter 1 = .ok (.iconst 1, 1) := by decide +kernel
theorem dX3_placeAfter_2 : decode cX3_placeAfter 2 = .ok (.iadd, 1) := by decide +kernel
theorem dX3_placeAfter_3 : decode cX3_placeAfter 3 = .ok (.aload_n 0, 1) := by decide +kernel
theorem dX3_placeAfter_4 : decode cX3_placeAfter 4 = .ok (.getfield 15, 3) := by decide +kernel
theorem dX3_placeAfter_7 : decode cX3_placeAfter 7 = .ok (.aload_n 0, 1) := by decide +kernel
theorem dX3_placeAfter_8 : decode cX3_placeAfter 8 = .ok (.getfield 21, 3) := by decide +kernel
theorem dX3_placeAfter_11 : decode cX3_placeAfter 11 = .ok (.iadd, 1) := by decide +kernel
theorem dX3_placeAfter_12 : decode cX3_placeAfter 12 = .ok (.if_icmp .ge 9, 3) := by decide +kernel
theorem dX3_placeAfter_15 : decode cX3_placeAfter 15 = .ok (.iload_n 1, 1) := by decide +kernel
theorem dX3_placeAfter_16 : decode cX3_placeAfter 16 = .ok (.iconst 1, 1) := by decide +kernel
theorem dX3_placeAfter_17 : decode cX3_placeAfter 17 = .ok (.iadd, 1) := by decide +kernel
theorem dX3_placeAfter_18 : decode cX3_placeAfter 18 = .ok (.goto 7, 3) := by decide +kernel
theorem dX3_placeAfter_21 : decode cX3_placeAfter 21 = .ok (.aload_n 0, 1) := by decide +kernel
theorem dX3_placeAfter_22 : decode cX3_placeAfter 22 = .ok (.getfield 15, 3) := by decide +kernel
theorem dX3_placeAfter_25 : decode cX3_placeAfter 25 = .ok (.ireturn, 1) := by decide +kernel
theorem dX3_leastFrom_0 : decode cX3_leastFrom 0 = .ok (.iconst 0, 1) := by decide +kernel
theorem dX3_leastFrom_1 : decode cX3_leastFrom 1 = .ok (.istore_n 2, 1) := by decide +kernel
theorem dX3_leastFrom_2 : decode cX3_leastFrom 2 = .ok (.iload_n 2, 1) := by decide +kernel
theorem dX3_leastFrom_3 : decode cX3_leastFrom 3 = .ok (.aload_n 0, 1) := by decide +kernel
theorem dX3_leastFrom_4 : decode cX3_leastFrom 4 = .ok (.getfield 15, 3) := by decide +kernel
theorem dX3_leastFrom_7 : decode cX3_leastFrom 7 = .ok (.aload_n 0, 1) := by decide +kernel
theorem dX3_leastFrom_8 : decode cX3_leastFrom 8 = .ok (.getfield 21, 3) := by decide +kernel
theorem dX3_leastFrom_11 : decode cX3_leastFrom 11 = .ok (.iadd, 1) := by decide +kernel
theorem dX3_leastFrom_12 : decode cX3_leastFrom 12 = .ok (.if_icmp .ge 23, 3) := by decide +kernel
theorem dX3_leastFrom_15 : decode cX3_leastFrom 15 = .ok (.aload_n 0, 1) := by decide +kernel
theorem dX3_leastFrom_16 : decode cX3_leastFrom 16 = .ok (.iload_n 1, 1) := by decide +kernel
theorem dX3_leastFrom_17 : decode cX3_leastFrom 17 = .ok (.iload_n 2, 1) := by decide +kernel
theorem dX3_leastFrom_18 : decode cX3_leastFrom 18 = .ok (.iadd, 1) := by decide +kernel
theorem dX3_leastFrom_19 : decode cX3_leastFrom 19 = .ok (.invokevirtual 49, 3) := by decide +kernel
theorem dX3_leastFrom_22 : decode cX3_leastFrom 22 = .ok (.ifCond .eq 7, 3) := by decide +kernel
theorem dX3_leastFrom_25 : decode cX3_leastFrom 25 = .ok (.iload_n 1, 1) := by decide +kernel
theorem dX3_leastFrom_26 : decode cX3_leastFrom 26 = .ok (.iload_n 2, 1) := by decide +kernel
theorem dX3_leastFrom_27 : decode cX3_leastFrom 27 = .ok (.iadd, 1) := by decide +kernel
theorem dX3_leastFrom_28 : decode cX3_leastFrom 28 = .ok (.ireturn, 1) := by decide +kernel
theorem dX3_leastFrom_29 : decode cX3_leastFrom 29 = .ok (.iinc 2 1, 3) := by decide +kernel
theorem dX3_leastFrom_32 : decode cX3_leastFrom 32 = .ok (.goto (-30), 3) := by decide +kernel
theorem dX3_leastFrom_35 : decode cX3_leastFrom 35 = .ok (.bipush (-6), 2) := by decide +kernel
theorem dX3_leastFrom_37 : decode cX3_leastFrom 37 = .ok (.ireturn, 1) := by decide +kernel
theorem dX3_numbersBefore_0 : decode cX3_numbersBefore 0 = .ok (.iload_n 1, 1) := by decide +kernel
theorem dX3_numbersBefore_1 : decode cX3_numbersBefore 1 = .ok (.aload_n 0, 1) := by decide +kernel
theorem dX3_numbersBefore_2 : decode cX3_numbersBefore 2 = .ok (.getfield 15, 3) := by decide +kernel
theorem dX3_numbersBefore_5 : decode cX3_numbersBefore 5 = .ok (.aload_n 0, 1) := by decide +kernel
theorem dX3_numbersBefore_6 : decode cX3_numbersBefore 6 = .ok (.getfield 21, 3) := by decide +kernel
theorem dX3_numbersBefore_9 : decode cX3_numbersBefore 9 = .ok (.iadd, 1) := by decide +kernel
theorem dX3_numbersBefore_10 : decode cX3_numbersBefore 10 = .ok (.if_icmp .le 11, 3) := by decide +kernel
theorem dX3_numbersBefore_13 : decode cX3_numbersBefore 13 = .ok (.aload_n 0, 1) := by decide +kernel
theorem dX3_numbersBefore_14 : decode cX3_numbersBefore 14 = .ok (.getfield 21, 3) := by decide +kernel
theorem dX3_numbersBefore_17 : decode cX3_numbersBefore 17 = .ok (.iconst 1, 1) := by decide +kernel
theorem dX3_numbersBefore_18 : decode cX3_numbersBefore 18 = .ok (.if_icmp .ge 9, 3) := by decide +kernel
theorem dX3_numbersBefore_21 : decode cX3_numbersBefore 21 = .ok (.aload_n 0, 1) := by decide +kernel
theorem dX3_numbersBefore_22 : decode cX3_numbersBefore 22 = .ok (.iload_n 1, 1) := by decide +kernel
theorem dX3_numbersBefore_23 : decode cX3_numbersBefore 23 = .ok (.invokevirtual 52, 3) := by decide +kernel
theorem dX3_numbersBefore_26 : decode cX3_numbersBefore 26 = .ok (.ireturn, 1) := by decide +kernel
theorem dX3_numbersBefore_27 : decode cX3_numbersBefore 27 = .ok (.aload_n 0, 1) := by decide +kernel
theorem dX3_numbersBefore_28 : decode cX3_numbersBefore 28 = .ok (.aload_n 0, 1) := by decide +kernel
theorem dX3_numbersBefore_29 : decode cX3_numbersBefore 29 = .ok (.getfield 15, 3) := by decide +kernel
theorem dX3_numbersBefore_32 : decode cX3_numbersBefore 32 = .ok (.aload_n 0, 1) := by decide +kernel
theorem dX3_numbersBefore_33 : decode cX3_numbersBefore 33 = .ok (.getfield 21, 3) := by decide +kernel
theorem dX3_numbersBefore_36 : decode cX3_numbersBefore 36 = .ok (.iadd, 1) := by decide +kernel
theorem dX3_numbersBefore_37 : decode cX3_numbersBefore 37 = .ok (.invokevirtual 52, 3) := by decide +kernel
theorem dX3_numbersBefore_40 : decode cX3_numbersBefore 40 = .ok (.aload_n 0, 1) := by decide +kernel
theorem dX3_numbersBefore_41 : decode cX3_numbersBefore 41 = .ok (.aload_n 0, 1) := by decide +kernel
theorem dX3_numbersBefore_42 : decode cX3_numbersBefore 42 = .ok (.getfield 15, 3) := by decide +kernel
theorem dX3_numbersBefore_45 : decode cX3_numbersBefore 45 = .ok (.invokevirtual 52, 3) := by decide +kernel
theorem dX3_numbersBefore_48 : decode cX3_numbersBefore 48 = .ok (.isub, 1) := by decide +kernel
theorem dX3_numbersBefore_49 : decode cX3_numbersBefore 49 = .ok (.istore_n 2, 1) := by decide +kernel
theorem dX3_numbersBefore_50 : decode cX3_numbersBefore 50 = .ok (.iload_n 1, 1) := by decide +kernel
theorem dX3_numbersBefore_51 : decode cX3_numbersBefore 51 = .ok (.aload_n 0, 1) := by decide +kernel
theorem dX3_numbersBefore_52 : decode cX3_numbersBefore 52 = .ok (.getfield 15, 3) := by decide +kernel
theorem dX3_numbersBefore_55 : decode cX3_numbersBefore 55 = .ok (.isub, 1) := by decide +kernel
theorem dX3_numbersBefore_56 : decode cX3_numbersBefore 56 = .ok (.aload_n 0, 1) := by decide +kernel
theorem dX3_numbersBefore_57 : decode cX3_numbersBefore 57 = .ok (.getfield 21, 3) := by decide +kernel
theorem dX3_numbersBefore_60 : decode cX3_numbersBefore 60 = .ok (.idiv, 1) := by decide +kernel
theorem dX3_numbersBefore_61 : decode cX3_numbersBefore 61 = .ok (.istore_n 3, 1) := by decide +kernel
theorem dX3_numbersBefore_62 : decode cX3_numbersBefore 62 = .ok (.aload_n 0, 1) := by decide +kernel
theorem dX3_numbersBefore_63 : decode cX3_numbersBefore 63 = .ok (.aload_n 0, 1) := by decide +kernel
theorem dX3_numbersBefore_64 : decode cX3_numbersBefore 64 = .ok (.getfield 15, 3) := by decide +kernel
theorem dX3_numbersBefore_67 : decode cX3_numbersBefore 67 = .ok (.iload_n 1, 1) := by decide +kernel
theorem dX3_numbersBefore_68 : decode cX3_numbersBefore 68 = .ok (.aload_n 0, 1) := by decide +kernel
theorem dX3_numbersBefore_69 : decode cX3_numbersBefore 69 = .ok (.getfield 15, 3) := by decide +kernel
theorem dX3_numbersBefore_72 : decode cX3_numbersBefore 72 = .ok (.isub, 1) := by decide +kernel
theorem dX3_numbersBefore_73 : decode cX3_numbersBefore 73 = .ok (.aload_n 0, 1) := by decide +kernel
theorem dX3_numbersBefore_74 : decode cX3_numbersBefore 74 = .ok (.getfield 21, 3) := by decide +kernel
theorem dX3_numbersBefore_77 : decode cX3_numbersBefore 77 = .ok (.irem, 1) := by decide +kernel
theorem dX3_numbersBefore_78 : decode cX3_numbersBefore 78 = .ok (.iadd, 1) := by decide +kernel
theorem dX3_numbersBefore_79 : decode cX3_numbersBefore 79 = .ok (.invokevirtual 52, 3) := by decide +kernel
theorem dX3_numbersBefore_82 : decode cX3_numbersBefore 82 = .ok (.iload_n 3, 1) := by decide +kernel
theorem dX3_numbersBefore_83 : decode cX3_numbersBefore 83 = .ok (.iload_n 2, 1) := by decide +kernel
theorem dX3_numbersBefore_84 : decode cX3_numbersBefore 84 = .ok (.imul, 1) := by decide +kernel
theorem dX3_numbersBefore_85 : decode cX3_numbersBefore 85 = .ok (.iadd, 1) := by decide +kernel
theorem dX3_numbersBefore_86 : decode cX3_numbersBefore 86 = .ok (.ireturn, 1) := by decide +kernel
theorem dX3_placesBefore_0 : decode cX3_placesBefore 0 = .ok (.iconst 0, 1) := by decide +kernel
theorem dX3_placesBefore_1 : decode cX3_placesBefore 1 = .ok (.istore_n 2, 1) := by decide +kernel
theorem dX3_placesBefore_2 : decode cX3_placesBefore 2 = .ok (.iconst 0, 1) := by decide +kernel
theorem dX3_placesBefore_3 : decode cX3_placesBefore 3 = .ok (.istore_n 3, 1) := by decide +kernel
theorem dX3_placesBefore_4 : decode cX3_placesBefore 4 = .ok (.iload_n 3, 1) := by decide +kernel
theorem dX3_placesBefore_5 : decode cX3_placesBefore 5 = .ok (.iload_n 1, 1) := by decide +kernel
theorem dX3_placesBefore_6 : decode cX3_placesBefore 6 = .ok (.if_icmp .ge 33, 3) := by decide +kernel
theorem dX3_placesBefore_9 : decode cX3_placesBefore 9 = .ok (.iload_n 3, 1) := by decide +kernel
theorem dX3_placesBefore_10 : decode cX3_placesBefore 10 = .ok (.aload_n 0, 1) := by decide +kernel
theorem dX3_placesBefore_11 : decode cX3_placesBefore 11 = .ok (.getfield 15, 3) := by decide +kernel
theorem dX3_placesBefore_14 : decode cX3_placesBefore 14 = .ok (.aload_n 0, 1) := by decide +kernel
theorem dX3_placesBefore_15 : decode cX3_placesBefore 15 = .ok (.getfield 21, 3) := by decide +kernel
theorem dX3_placesBefore_18 : decode cX3_placesBefore 18 = .ok (.iadd, 1) := by decide +kernel
theorem dX3_placesBefore_19 : decode cX3_placesBefore 19 = .ok (.if_icmp .ge 20, 3) := by decide +kernel
theorem dX3_placesBefore_22 : decode cX3_placesBefore 22 = .ok (.aload_n 0, 1) := by decide +kernel
theorem dX3_placesBefore_23 : decode cX3_placesBefore 23 = .ok (.iload_n 3, 1) := by decide +kernel
theorem dX3_placesBefore_24 : decode cX3_placesBefore 24 = .ok (.invokevirtual 41, 3) := by decide +kernel
theorem dX3_placesBefore_27 : decode cX3_placesBefore 27 = .ok (.ifCond .eq 6, 3) := by decide +kernel
theorem dX3_placesBefore_30 : decode cX3_placesBefore 30 = .ok (.iinc 2 1, 3) := by decide +kernel
theorem dX3_placesBefore_33 : decode cX3_placesBefore 33 = .ok (.iinc 3 1, 3) := by decide +kernel
theorem dX3_placesBefore_36 : decode cX3_placesBefore 36 = .ok (.goto (-32), 3) := by decide +kernel
theorem dX3_placesBefore_39 : decode cX3_placesBefore 39 = .ok (.iload_n 2, 1) := by decide +kernel
theorem dX3_placesBefore_40 : decode cX3_placesBefore 40 = .ok (.ireturn, 1) := by decide +kernel
theorem dX3_sameAs_0 : decode cX3_sameAs 0 = .ok (.aload_n 0, 1) := by decide +kernel
theorem dX3_sameAs_1 : decode cX3_sameAs 1 = .ok (.getfield 15, 3) := by decide +kernel
theorem dX3_sameAs_4 : decode cX3_sameAs 4 = .ok (.aload_n 1, 1) := by decide +kernel
theorem dX3_sameAs_5 : decode cX3_sameAs 5 = .ok (.getfield 15, 3) := by decide +kernel
theorem dX3_sameAs_8 : decode cX3_sameAs 8 = .ok (.if_icmp .ne 14, 3) := by decide +kernel
theorem dX3_sameAs_11 : decode cX3_sameAs 11 = .ok (.aload_n 0, 1) := by decide +kernel
theorem dX3_sameAs_12 : decode cX3_sameAs 12 = .ok (.getfield 21, 3) := by decide +kernel
theorem dX3_sameAs_15 : decode cX3_sameAs 15 = .ok (.aload_n 1, 1) := by decide +kernel
theorem dX3_sameAs_16 : decode cX3_sameAs 16 = .ok (.getfield 21, 3) := by decide +kernel
theorem dX3_sameAs_19 : decode cX3_sameAs 19 = .ok (.if_icmp .eq 5, 3) := by decide +kernel
theorem dX3_sameAs_22 : decode cX3_sameAs 22 = .ok (.iconst 0, 1) := by decide +kernel
theorem dX3_sameAs_23 : decode cX3_sameAs 23 = .ok (.ireturn, 1) := by decide +kernel
theorem dX3_sameAs_24 : decode cX3_sameAs 24 = .ok (.iconst 0, 1) := by decide +kernel
theorem dX3_sameAs_25 : decode cX3_sameAs 25 = .ok (.istore_n 2, 1) := by decide +kernel
theorem dX3_sameAs_26 : decode cX3_sameAs 26 = .ok (.iload_n 2, 1) := by decide +kernel
theorem dX3_sameAs_27 : decode cX3_sameAs 27 = .ok (.aload_n 0, 1) := by decide +kernel
theorem dX3_sameAs_28 : decode cX3_sameAs 28 = .ok (.getfield 32, 3) := by decide +kernel
theorem dX3_sameAs_31 : decode cX3_sameAs 31 = .ok (.arraylength, 1) := by decide +kernel
theorem dX3_sameAs_32 : decode cX3_sameAs 32 = .ok (.if_icmp .ge 36, 3) := by decide +kernel
theorem dX3_sameAs_35 : decode cX3_sameAs 35 = .ok (.iload_n 2, 1) := by decide +kernel
theorem dX3_sameAs_36 : decode cX3_sameAs 36 = .ok (.aload_n 1, 1) := by decide +kernel
theorem dX3_sameAs_37 : decode cX3_sameAs 37 = .ok (.getfield 32, 3) := by decide +kernel
theorem dX3_sameAs_40 : decode cX3_sameAs 40 = .ok (.arraylength, 1) := by decide +kernel
theorem dX3_sameAs_41 : decode cX3_sameAs 41 = .ok (.if_icmp .ge 27, 3) := by decide +kernel
theorem dX3_sameAs_44 : decode cX3_sameAs 44 = .ok (.aload_n 0, 1) := by decide +kernel
theorem dX3_sameAs_45 : decode cX3_sameAs 45 = .ok (.getfield 32, 3) := by decide +kernel
theorem dX3_sameAs_48 : decode cX3_sameAs 48 = .ok (.iload_n 2, 1) := by decide +kernel
theorem dX3_sameAs_49 : decode cX3_sameAs 49 = .ok (.laload, 1) := by decide +kernel
theorem dX3_sameAs_50 : decode cX3_sameAs 50 = .ok (.aload_n 1, 1) := by decide +kernel
theorem dX3_sameAs_51 : decode cX3_sameAs 51 = .ok (.getfield 32, 3) := by decide +kernel
theorem dX3_sameAs_54 : decode cX3_sameAs 54 = .ok (.iload_n 2, 1) := by decide +kernel
theorem dX3_sameAs_55 : decode cX3_sameAs 55 = .ok (.laload, 1) := by decide +kernel
theorem dX3_sameAs_56 : decode cX3_sameAs 56 = .ok (.lcmp, 1) := by decide +kernel
theorem dX3_sameAs_57 : decode cX3_sameAs 57 = .ok (.ifCond .eq 5, 3) := by decide +kernel
theorem dX3_sameAs_60 : decode cX3_sameAs 60 = .ok (.iconst 0, 1) := by decide +kernel
theorem dX3_sameAs_61 : decode cX3_sameAs 61 = .ok (.ireturn, 1) := by decide +kernel
theorem dX3_sameAs_62 : decode cX3_sameAs 62 = .ok (.iinc 2 1, 3) := by decide +kernel
theorem dX3_sameAs_65 : decode cX3_sameAs 65 = .ok (.goto (-39), 3) := by decide +kernel
theorem dX3_sameAs_68 : decode cX3_sameAs 68 = .ok (.iconst 1, 1) := by decide +kernel
theorem dX3_sameAs_69 : decode cX3_sameAs 69 = .ok (.ireturn, 1) := by decide +kernel
theorem dX4_init_0 : decode cX4_init 0 = .ok (.aload_n 0, 1) := by decide +kernel
theorem dX4_init_1 : decode cX4_init 1 = .ok (.invokespecial 3, 3) := by decide +kernel
theorem dX4_init_4 : decode cX4_init 4 = .ok (.aload_n 0, 1) := by decide +kernel
theorem dX4_init_5 : decode cX4_init 5 = .ok (.sipush 195, 3) := by decide +kernel
theorem dX4_init_8 : decode cX4_init 8 = .ok (.newarray .long, 2) := by decide +kernel
theorem dX4_init_10 : decode cX4_init 10 = .ok (.putfield 9, 3) := by decide +kernel
theorem dX4_init_13 : decode cX4_init 13 = .ok (.aload_n 0, 1) := by decide +kernel
theorem dX4_init_14 : decode cX4_init 14 = .ok (.sipush 320, 3) := by decide +kernel
theorem dX4_init_17 : decode cX4_init 17 = .ok (.newarray .int, 2) := by decide +kernel
theorem dX4_init_19 : decode cX4_init 19 = .ok (.putfield 15, 3) := by decide +kernel
theorem dX4_init_22 : decode cX4_init 22 = .ok (.return_, 1) := by decide +kernel
theorem dX4_trace_0 : decode cX4_trace 0 = .ok (.aload_n 1, 1) := by decide +kernel
theorem dX4_trace_1 : decode cX4_trace 1 = .ok (.getfield 19, 3) := by decide +kernel
theorem dX4_trace_4 : decode cX4_trace 4 = .ok (.bipush 120, 2) := by decide +kernel
theorem dX4_trace_6 : decode cX4_trace 6 = .ok (.if_icmp .gt 12, 3) := by decide +kernel
theorem dX4_trace_9 : decode cX4_trace 9 = .ok (.aload_n 1, 1) := by decide +kernel
theorem dX4_trace_10 : decode cX4_trace 10 = .ok (.getfield 25, 3) := by decide +kernel
theorem dX4_trace_13 : decode cX4_trace 13 = .ok (.bipush 60, 2) := by decide +kernel
theorem dX4_trace_15 : decode cX4_trace 15 = .ok (.if_icmp .le 5, 3) := by decide +kernel
theorem dX4_trace_18 : decode cX4_trace 18 = .ok (.iconst 0, 1) := by decide +kernel
theorem dX4_trace_19 : decode cX4_trace 19 = .ok (.ireturn, 1) := by decide +kernel
theorem dX4_trace_20 : decode cX4_trace 20 = .ok (.aload_n 0, 1) := by decide +kernel
theorem dX4_trace_21 : decode cX4_trace 21 = .ok (.iload_n 2, 1) := by decide +kernel
theorem dX4_trace_22 : decode cX4_trace 22 = .ok (.iconst 5, 1) := by decide +kernel
theorem dX4_trace_23 : decode cX4_trace 23 = .ok (.invokestatic 28, 3) := by decide +kernel
theorem dX4_trace_26 : decode cX4_trace 26 = .ok (.putfield 34, 3) := by decide +kernel
theorem dX4_trace_29 : decode cX4_trace 29 = .ok (.aload_n 0, 1) := by decide +kernel
theorem dX4_trace_30 : decode cX4_trace 30 = .ok (.aload_n 1, 1) := by decide +kernel
theorem dX4_trace_31 : decode cX4_trace 31 = .ok (.getfield 19, 3) := by decide +kernel
theorem dX4_trace_34 : decode cX4_trace 34 = .ok (.putfield 37, 3) := by decide +kernel
theorem dX4_trace_37 : decode cX4_trace 37 = .ok (.aload_n 0, 1) := by decide +kernel
theorem dX4_trace_38 : decode cX4_trace 38 = .ok (.aload_n 1, 1) := by decide +kernel
theorem dX4_trace_39 : decode cX4_trace 39 = .ok (.getfield 25, 3) := by decide +kernel
theorem dX4_trace_42 : decode cX4_trace 42 = .ok (.putfield 38, 3) := by decide +kernel
theorem dX4_trace_45 : decode cX4_trace 45 = .ok (.aload_n 1, 1) := by decide +kernel
theorem dX4_trace_46 : decode cX4_trace 46 = .ok (.getfield 39, 3) := by decide +kernel
theorem dX4_trace_49 : decode cX4_trace 49 = .ok (.iconst 0, 1) := by decide +kernel
theorem dX4_trace_50 : decode cX4_trace 50 = .ok (.aload_n 0, 1) := by decide +kernel
theorem dX4_trace_51 : decode cX4_trace 51 = .ok (.getfield 9, 3) := by decide +kernel
theorem dX4_trace_54 : decode cX4_trace 54 = .ok (.iconst 0, 1) := by decide +kernel
theorem dX4_trace_55 : decode cX4_trace 55 = .ok (.iconst 3, 1) := by decide +kernel
theorem dX4_trace_56 : decode cX4_trace 56 = .ok (.invokestatic 42, 3) := by decide +kernel
theorem dX4_trace_59 : decode cX4_trace 59 = .ok (.aload_n 0, 1) := by decide +kernel
theorem dX4_trace_60 : decode cX4_trace 60 = .ok (.iconst 1, 1) := by decide +kernel
theorem dX4_trace_61 : decode cX4_trace 61 = .ok (.putfield 48, 3) := by decide +kernel
theorem dX4_trace_64 : decode cX4_trace 64 = .ok (.iconst 0, 1) := by decide +kernel
theorem dX4_trace_65 : decode cX4_trace 65 = .ok (.istore_n 3, 1) := by decide +kernel
theorem dX4_trace_66 : decode cX4_trace 66 = .ok (.iload_n 3, 1) := by decide +kernel
theorem dX4_trace_67 : decode cX4_trace 67 = .ok (.aload_n 0, 1) := by decide +kernel
theorem dX4_trace_68 : decode cX4_trace 68 = .ok (.getfield 48, 3) := by decide +kernel
theorem dX4_trace_71 : decode cX4_trace 71 = .ok (.if_icmp .ge 86, 3) := by decide +kernel
theorem dX4_trace_74 : decode cX4_trace 74 = .ok (.iload_n 3, 1) := by decide +kernel
theorem dX4_trace_75 : decode cX4_trace 75 = .ok (.bipush 64, 2) := by decide +kernel
theorem dX4_trace_77 : decode cX4_trace 77 = .ok (.if_icmp .ge 80, 3) := by decide +kernel
theorem dX4_trace_80 : decode cX4_trace 80 = .ok (.iconst 0, 1) := by decide +kernel
theorem dX4_trace_81 : decode cX4_trace 81 = .ok (.istore 4, 2) := by decide +kernel
theorem dX4_trace_83 : decode cX4_trace 83 = .ok (.iload 4, 2) := by decide +kernel
theorem dX4_trace_85 : decode cX4_trace 85 = .ok (.aload_n 0, 1) := by decide +kernel
theorem dX4_trace_86 : decode cX4_trace 86 = .ok (.getfield 34, 3) := by decide +kernel
theorem dX4_trace_89 : decode cX4_trace 89 = .ok (.if_icmp .ge 62, 3) := by decide +kernel
theorem dX4_trace_92 : decode cX4_trace 92 = .ok (.aload_n 0, 1) := by decide +kernel
theorem dX4_trace_93 : decode cX4_trace 93 = .ok (.iload_n 3, 1) := by decide +kernel
theorem dX4_trace_94 : decode cX4_trace 94 = .ok (.iload 4, 2) := by decide +kernel
theorem dX4_trace_96 : decode cX4_trace 96 = .ok (.invokevirtual 51, 3) := by decide +kernel
theorem dX4_trace_99 : decode cX4_trace 99 = .ok (.aload_n 0, 1) := by decide +kernel
theorem dX4_trace_100 : decode cX4_trace 100 = .ok (.invokevirtual 55, 3) := by decide +kernel
theorem dX4_trace_103 : decode cX4_trace 103 = .ok (.istore 5, 2) := by decide +kernel
theorem dX4_trace_105 : decode cX4_trace 105 = .ok (.iload 5, 2) := by decide +kernel
theorem dX4_trace_107 : decode cX4_trace 107 = .ok (.bipush 64, 2) := by decide +kernel
theorem dX4_trace_109 : decode cX4_trace 109 = .ok (.if_icmp .ne 5, 3) := by decide +kernel
theorem dX4_trace_112 : decode cX4_trace 112 = .ok (.iconst 0, 1) := by decide +kernel
theorem dX4_trace_113 : decode cX4_trace 113 = .ok (.ireturn, 1) := by decide +kernel
theorem dX4_trace_114 : decode cX4_trace 114 = .ok (.aload_n 0, 1) := by decide +kernel
theorem dX4_trace_115 : decode cX4_trace 115 = .ok (.getfield 15, 3) := by decide +kernel
theorem dX4_trace_118 : decode cX4_trace 118 = .ok (.iload_n 3, 1) := by decide +kernel
theorem dX4_trace_119 : decode cX4_trace 119 = .ok (.aload_n 0, 1) := by decide +kernel
theorem dX4_trace_120 : decode cX4_trace 120 = .ok (.getfield 34, 3) := by decide +kernel
theorem dX4_trace_123 : decode cX4_trace 123 = .ok (.imul, 1) := by decide +kernel
theorem dX4_trace_124 : decode cX4_trace 124 = .ok (.iload 4, 2) := by decide +kernel
theorem dX4_trace_126 : decode cX4_trace 126 = .ok (.iadd, 1) := by decide +kernel
theorem dX4_trace_127 : decode cX4_trace 127 = .ok (.iload 5, 2) := by decide +kernel
theorem dX4_trace_129 : decode cX4_trace 129 = .ok (.iastore, 1) := by decide +kernel
theorem dX4_trace_130 : decode cX4_trace 130 = .ok (.aload_n 0, 1) := by decide +kernel
theorem dX4_trace_131 : decode cX4_trace 131 = .ok (.aload_n 0, 1) := by decide +kernel
theorem dX4_trace_132 : decode cX4_trace 132 = .ok (.getfield 48, 3) := by decide +kernel
theorem dX4_trace_135 : decode cX4_trace 135 = .ok (.iload 5, 2) := by decide +kernel
theorem dX4_trace_137 : decode cX4_trace 137 = .ok (.iconst 1, 1) := by decide +kernel
theorem dX4_trace_138 : decode cX4_trace 138 = .ok (.iadd, 1) := by decide +kernel
theorem dX4_trace_139 : decode cX4_trace 139 = .ok (.invokestatic 59, 3) := by decide +kernel
theorem dX4_trace_142 : decode cX4_trace 142 = .ok (.putfield 48, 3) := by decide +kernel
theorem dX4_trace_145 : decode cX4_trace 145 = .ok (.iinc 4 1, 3) := by decide +kernel
theorem dX4_trace_148 : decode cX4_trace 148 = .ok (.goto (-65), 3) := by decide +kernel
theorem dX4_trace_151 : decode cX4_trace 151 = .ok (.iinc 3 1, 3) := by decide +kernel
theorem dX4_trace_154 : decode cX4_trace 154 = .ok (.goto (-88), 3) := by decide +kernel
theorem dX4_trace_157 : decode cX4_trace 157 = .ok (.iconst 1, 1) := by decide +kernel
theorem dX4_trace_158 : decode cX4_trace 158 = .ok (.ireturn, 1) := by decide +kernel
theorem dX4_machine_0 : decode cX4_machine 0 = .ok (.lconst 0, 1) := by decide +kernel
theorem dX4_machine_1 : decode cX4_machine 1 = .ok (.lstore_n 1, 1) := by decide +kernel
theorem dX4_machine_2 : decode cX4_machine 2 = .ok (.iconst 0, 1) := by decide +kernel
theorem dX4_machine_3 : decode cX4_machine 3 = .ok (.istore_n 3, 1) := by decide +kernel
theorem dX4_machine_4 : decode cX4_machine 4 = .ok (.iload_n 3, 1) := by decide +kernel
theorem dX4_machine_5 : decode cX4_machine 5 = .ok (.aload_n 0, 1) := by decide +kernel
theorem dX4_machine_6 : decode cX4_machine 6 = .ok (.getfield 48, 3) := by decide +kernel
theorem dX4_machine_9 : decode cX4_machine 9 = .ok (.if_icmp .ge 24, 3) := by decide +kernel
theorem dX4_machine_12 : decode cX4_machine 12 = .ok (.lload_n 1, 1) := by decide +kernel
theorem dX4_machine_13 : decode cX4_machine 13 = .ok (.aload_n 0, 1) := by decide +kernel
theorem dX4_machine_14 : decode cX4_machine 14 = .ok (.getfield 9, 3) := by decide +kernel
theorem dX4_machine_17 : decode cX4_machine 17 = .ok (.iload_n 3, 1) := by decide +kernel
theorem dX4_machine_18 : decode cX4_machine 18 = .ok (.iconst 3, 1) := by decide +kernel
theorem dX4_machine_19 : decode cX4_machine 19 = .ok (.imul, 1) := by decide +kernel
theorem dX4_machine_20 : decode cX4_machine 20 = .ok (.laload, 1) := by decide +kernel
theorem dX4_machine_21 : decode cX4_machine 21 = .ok (.lconst 1, 1) := by decide +kernel
theorem dX4_machine_22 : decode cX4_machine 22 = .ok (.land, 1) := by decide +kernel
theorem dX4_machine_23 : decode cX4_machine 23 = .ok (.iload_n 3, 1) := by decide +kernel
theorem dX4_machine_24 : decode cX4_machine 24 = .ok (.lshl, 1) := by decide +kernel
theorem dX4_machine_25 : decode cX4_machine 25 = .ok (.lor, 1) := by decide +kernel
theorem dX4_machine_26 : decode cX4_machine 26 = .ok (.lstore_n 1, 1) := by decide +kernel
theorem dX4_machine_27 : decode cX4_machine 27 = .ok (.iinc 3 1, 3) := by decide +kernel
theorem dX4_machine_30 : decode cX4_machine 30 = .ok (.goto (-26), 3) := by decide +kernel
theorem dX4_machine_33 : decode cX4_machine 33 = .ok (.new 62, 3) := by decide +kernel
theorem dX4_machine_36 : decode cX4_machine 36 = .ok (.dup, 1) := by decide +kernel
theorem dX4_machine_37 : decode cX4_machine 37 = .ok (.aload_n 0, 1) := by decide +kernel
theorem dX4_machine_38 : decode cX4_machine 38 = .ok (.getfield 34, 3) := by decide +kernel
theorem dX4_machine_41 : decode cX4_machine 41 = .ok (.aload_n 0, 1) := by decide +kernel
theorem dX4_machine_42 : decode cX4_machine 42 = .ok (.getfield 48, 3) := by decide +kernel
theorem dX4_machine_45 : decode cX4_machine 45 = .ok (.aload_n 0, 1) := by decide +kernel
theorem dX4_machine_46 : decode cX4_machine 46 = .ok (.getfield 15, 3) := by decide +kernel
theorem dX4_machine_49 : decode cX4_machine 49 = .ok (.aload_n 0, 1) := by decide +kernel
theorem dX4_machine_50 : decode cX4_machine 50 = .ok (.getfield 48, 3) := by decide +kernel
theorem dX4_machine_53 : decode cX4_machine 53 = .ok (.aload_n 0, 1) := by decide +kernel
theorem dX4_machine_54 : decode cX4_machine 54 = .ok (.getfield 34, 3) := by decide +kernel
theorem dX4_machine_57 : decode cX4_machine 57 = .ok (.imul, 1) := by decide +kernel
theorem dX4_machine_58 : decode cX4_machine 58 = .ok (.invokestatic 64, 3) := by decide +kernel
theorem dX4_machine_61 : decode cX4_machine 61 = .ok (.lload_n 1, 1) := by decide +kernel
theorem dX4_machine_62 : decode cX4_machine 62 = .ok (.invokespecial 70, 3) := by decide +kernel
theorem dX4_machine_65 : decode cX4_machine 65 = .ok (.areturn, 1) := by decide +kernel
theorem dX4_writeRest_0 : decode cX4_writeRest 0 = .ok (.iload_n 1, 1) := by decide +kernel
theorem dX4_writeRest_1 : decode cX4_writeRest 1 = .ok (.iconst 3, 1) := by decide +kernel
theorem dX4_writeRest_2 : decode cX4_writeRest 2 = .ok (.imul, 1) := by decide +kernel
theorem dX4_writeRest_3 : decode cX4_writeRest 3 = .ok (.istore_n 3, 1) := by decide +kernel
theorem dX4_writeRest_4 : decode cX4_writeRest 4 = .ok (.aload_n 0, 1) := by decide +kernel
theorem dX4_writeRest_5 : decode cX4_writeRest 5 = .ok (.getfield 48, 3) := by decide +kernel
theorem dX4_writeRest_8 : decode cX4_writeRest 8 = .ok (.iconst 3, 1) := by decide +kernel
theorem dX4_writeRest_9 : decode cX4_writeRest 9 = .ok (.imul, 1) := by decide +kernel
theorem dX4_writeRest_10 : decode cX4_writeRest 10 = .ok (.istore 4, 2) := by decide +kernel
theorem dX4_writeRest_12 : decode cX4_writeRest 12 = .ok (.iconst 0, 1) := by decide +kernel
theorem dX4_writeRest_13 : decode cX4_writeRest 13 = .ok (.istore 5, 2) := by decide +kernel
theorem dX4_writeRest_15 : decode cX4_writeRest 15 = .ok (.iload 5, 2) := by decide +kernel
theorem dX4_writeRest_17 : decode cX4_writeRest 17 = .ok (.iconst 3, 1) := by decide +kernel
theorem dX4_writeRest_18 : decode cX4_writeRest 18 = .ok (.if_icmp .ge 20, 3) := by decide +kernel
theorem dX4_writeRest_21 : decode cX4_writeRest 21 = .ok (.aload_n 0, 1) := by decide +kernel
theorem dX4_writeRest_22 : decode cX4_writeRest 22 = .ok (.getfield 9, 3) := by decide +kernel
theorem dX4_writeRest_25 : decode cX4_writeRest 25 = .ok (.iload 4, 2) := by decide +kernel
theorem dX4_writeRest_27 : decode cX4_writeRest 27 = .ok (.iload 5, 2) := by decide +kernel
theorem dX4_writeRest_29 : decode cX4_writeRest 29 = .ok (.iadd, 1) := by decide +kernel
theorem dX4_writeRest_30 : decode cX4_writeRest 30 = .ok (.lconst 0, 1) := by decide +kernel
theorem dX4_writeRest_31 : decode cX4_writeRest 31 = .ok (.lastore, 1) := by decide +kernel
theorem dX4_writeRest_32 : decode cX4_writeRest 32 = .ok (.iinc 5 1, 3) := by decide +kernel
theorem dX4_writeRest_35 : decode cX4_writeRest 35 = .ok (.goto (-20), 3) := by decide +kernel
theorem dX4_writeRest_38 : decode cX4_writeRest 38 = .ok (.iload_n 2, 1) := by decide +kernel
theorem dX4_writeRest_39 : decode cX4_writeRest 39 = .ok (.aload_n 0, 1) := by decide +kernel
theorem dX4_writeRest_40 : decode cX4_writeRest 40 = .ok (.getfield 37, 3) := by decide +kernel
theorem dX4_writeRest_43 : decode cX4_writeRest 43 = .ok (.aload_n 0, 1) := by decide +kernel
theorem dX4_writeRest_44 : decode cX4_writeRest 44 = .ok (.getfield 38, 3) := by decide +kernel
theorem dX4_writeRest_47 : decode cX4_writeRest 47 = .ok (.invokestatic 73, 3) := by decide +kernel
theorem dX4_writeRest_50 : decode cX4_writeRest 50 = .ok (.istore 5, 2) := by decide +kernel
theorem dX4_writeRest_52 : decode cX4_writeRest 52 = .ok (.iconst 0, 1) := by decide +kernel
theorem dX4_writeRest_53 : decode cX4_writeRest 53 = .ok (.istore 6, 2) := by decide +kernel
theorem dX4_writeRest_55 : decode cX4_writeRest 55 = .ok (.iload 6, 2) := by decide +kernel
theorem dX4_writeRest_57 : decode cX4_writeRest 57 = .ok (.aload_n 0, 1) := by decide +kernel
theorem dX4_writeRest_58 : decode cX4_writeRest 58 = .ok (.getfield 37, 3) := by decide +kernel
theorem dX4_writeRest_61 : decode cX4_writeRest 61 = .ok (.aload_n 0, 1) := by decide +kernel
theorem dX4_writeRest_62 : decode cX4_writeRest 62 = .ok (.getfield 38, 3) := by decide +kernel
theorem dX4_writeRest_65 : decode cX4_writeRest 65 = .ok (.iadd, 1) := by decide +kernel
theorem dX4_writeRest_66 : decode cX4_writeRest 66 = .ok (.if_icmp .ge 65, 3) := by decide +kernel
theorem dX4_writeRest_69 : decode cX4_writeRest 69 = .ok (.aload_n 0, 1) := by decide +kernel
theorem dX4_writeRest_70 : decode cX4_writeRest 70 = .ok (.getfield 9, 3) := by decide +kernel
theorem dX4_writeRest_73 : decode cX4_writeRest 73 = .ok (.iload 4, 2) := by decide +kernel
theorem dX4_writeRest_75 : decode cX4_writeRest 75 = .ok (.iload 6, 2) := by decide +kernel
theorem dX4_writeRest_77 : decode cX4_writeRest 77 = .ok (.bipush 6, 2) := by decide +kernel
theorem dX4_writeRest_79 : decode cX4_writeRest 79 = .ok (.ishr, 1) := by decide +kernel
theorem dX4_writeRest_80 : decode cX4_writeRest 80 = .ok (.iadd, 1) := by decide +kernel
theorem dX4_writeRest_81 : decode cX4_writeRest 81 = .ok (.dup2, 1) := by decide +kernel
theorem dX4_writeRest_82 : decode cX4_writeRest 82 = .ok (.laload, 1) := by decide +kernel
theorem dX4_writeRest_83 : decode cX4_writeRest 83 = .ok (.aload_n 0, 1) := by decide +kernel
theorem dX4_writeRest_84 : decode cX4_writeRest 84 = .ok (.getfield 9, 3) := by decide +kernel
theorem dX4_writeRest_87 : decode cX4_writeRest 87 = .ok (.iload_n 3, 1) := by decide +kernel
theorem dX4_writeRest_88 : decode cX4_writeRest 88 = .ok (.iload 5, 2) := by decide +kernel
theorem dX4_writeRest_90 : decode cX4_writeRest 90 = .ok (.bipush 6, 2) := by decide +kernel
theorem dX4_writeRest_92 : decode cX4_writeRest 92 = .ok (.ishr, 1) := by decide +kernel
theorem dX4_writeRest_93 : decode cX4_writeRest 93 = .ok (.iadd, 1) := by decide +kernel
theorem dX4_writeRest_94 : decode cX4_writeRest 94 = .ok (.laload, 1) := by decide +kernel
theorem dX4_writeRest_95 : decode cX4_writeRest 95 = .ok (.iload 5, 2) := by decide +kernel
theorem dX4_writeRest_97 : decode cX4_writeRest 97 = .ok (.lushr, 1) := by decide +kernel
theorem dX4_writeRest_98 : decode cX4_writeRest 98 = .ok (.lconst 1, 1) := by decide +kernel
theorem dX4_writeRest_99 : decode cX4_writeRest 99 = .ok (.land, 1) := by decide +kernel
theorem dX4_writeRest_100 : decode cX4_writeRest 100 = .ok (.iload 6, 2) := by decide +kernel
theorem dX4_writeRest_102 : decode cX4_writeRest 102 = .ok (.lshl, 1) := by decide +kernel
theorem dX4_writeRest_103 : decode cX4_writeRest 103 = .ok (.lor, 1) := by decide +kernel
theorem dX4_writeRest_104 : decode cX4_writeRest 104 = .ok (.lastore, 1) := by decide +kernel
theorem dX4_writeRest_105 : decode cX4_writeRest 105 = .ok (.iload 5, 2) := by decide +kernel
theorem dX4_writeRest_107 : decode cX4_writeRest 107 = .ok (.aload_n 0, 1) := by decide +kernel
theorem dX4_writeRest_108 : decode cX4_writeRest 108 = .ok (.getfield 34, 3) := by decide +kernel
theorem dX4_writeRest_111 : decode cX4_writeRest 111 = .ok (.iadd, 1) := by decide +kernel
theorem dX4_writeRest_112 : decode cX4_writeRest 112 = .ok (.aload_n 0, 1) := by decide +kernel
theorem dX4_writeRest_113 : decode cX4_writeRest 113 = .ok (.getfield 37, 3) := by decide +kernel
theorem dX4_writeRest_116 : decode cX4_writeRest 116 = .ok (.aload_n 0, 1) := by decide +kernel
theorem dX4_writeRest_117 : decode cX4_writeRest 117 = .ok (.getfield 38, 3) := by decide +kernel
theorem dX4_writeRest_120 : decode cX4_writeRest 120 = .ok (.invokestatic 73, 3) := by decide +kernel
theorem dX4_writeRest_123 : decode cX4_writeRest 123 = .ok (.istore 5, 2) := by decide +kernel
theorem dX4_writeRest_125 : decode cX4_writeRest 125 = .ok (.iinc 6 1, 3) := by decide +kernel
theorem dX4_writeRest_128 : decode cX4_writeRest 128 = .ok (.goto (-73), 3) := by decide +kernel
theorem dX4_writeRest_131 : decode cX4_writeRest 131 = .ok (.return_, 1) := by decide +kernel
theorem dX4_metAs_0 : decode cX4_metAs 0 = .ok (.iconst 0, 1) := by decide +kernel
theorem dX4_metAs_1 : decode cX4_metAs 1 = .ok (.istore_n 1, 1) := by decide +kernel
theorem dX4_metAs_2 : decode cX4_metAs 2 = .ok (.iload_n 1, 1) := by decide +kernel
theorem dX4_metAs_3 : decode cX4_metAs 3 = .ok (.aload_n 0, 1) := by decide +kernel
theorem dX4_metAs_4 : decode cX4_metAs 4 = .ok (.getfield 48, 3) := by decide +kernel
theorem dX4_metAs_7 : decode cX4_metAs 7 = .ok (.if_icmp .ge 21, 3) := by decide +kernel
theorem dX4_metAs_10 : decode cX4_metAs 10 = .ok (.aload_n 0, 1) := by decide +kernel
theorem dX4_metAs_11 : decode cX4_metAs 11 = .ok (.iload_n 1, 1) := by decide +kernel
theorem dX4_metAs_12 : decode cX4_metAs 12 = .ok (.aload_n 0, 1) := by decide +kernel
theorem dX4_metAs_13 : decode cX4_metAs 13 = .ok (.getfield 48, 3) := by decide +kernel
theorem dX4_metAs_16 : decode cX4_metAs 16 = .ok (.invokevirtual 77, 3) := by decide +kernel
theorem dX4_metAs_19 : decode cX4_metAs 19 = .ok (.ifCond .ne 9, 3) := by decide +kernel
theorem dX4_metAs_22 : decode cX4_metAs 22 = .ok (.iinc 1 1, 3) := by decide +kernel
theorem dX4_metAs_25 : decode cX4_metAs 25 = .ok (.goto (-23), 3) := by decide +kernel
theorem dX4_metAs_28 : decode cX4_metAs 28 = .ok (.iload_n 1, 1) := by decide +kernel
theorem dX4_metAs_29 : decode cX4_metAs 29 = .ok (.ireturn, 1) := by decide +kernel
theorem dX4_sameRows_0 : decode cX4_sameRows 0 = .ok (.iconst 0, 1) := by decide +kernel
theorem dX4_sameRows_1 : decode cX4_sameRows 1 = .ok (.istore_n 3, 1) := by decide +kernel
theorem dX4_sameRows_2 : decode cX4_sameRows 2 = .ok (.iload_n 3, 1) := by decide +kernel
theorem dX4_sameRows_3 : decode cX4_sameRows 3 = .ok (.iconst 3, 1) := by decide +kernel
theorem dX4_sameRows_4 : decode cX4_sameRows 4 = .ok (.if_icmp .ge 35, 3) := by decide +kernel
theorem dX4_sameRows_7 : decode cX4_sameRows 7 = .ok (.aload_n 0, 1) := by decide +kernel
theorem dX4_sameRows_8 : decode cX4_sameRows 8 = .ok (.getfield 9, 3) := by decide +kernel
theorem dX4_sameRows_11 : decode cX4_sameRows 11 = .ok (.iload_n 1, 1) := by decide +kernel
theorem dX4_sameRows_12 : decode cX4_sameRows 12 = .ok (.iconst 3, 1) := by decide +kernel
theorem dX4_sameRows_13 : decode cX4_sameRows 13 = .ok (.imul, 1) := by decide +kernel
theorem dX4_sameRows_14 : decode cX4_sameRows 14 = .ok (.iload_n 3, 1) := by decide +kernel
theorem dX4_sameRows_15 : decode cX4_sameRows 15 = .ok (.iadd, 1) := by decide +kernel
theorem dX4_sameRows_16 : decode cX4_sameRows 16 = .ok (.laload, 1) := by decide +kernel
theorem dX4_sameRows_17 : decode cX4_sameRows 17 = .ok (.aload_n 0, 1) := by decide +kernel
theorem dX4_sameRows_18 : decode cX4_sameRows 18 = .ok (.getfield 9, 3) := by decide +kernel
theorem dX4_sameRows_21 : decode cX4_sameRows 21 = .ok (.iload_n 2, 1) := by decide +kernel
theorem dX4_sameRows_22 : decode cX4_sameRows 22 = .ok (.iconst 3, 1) := by decide +kernel
theorem dX4_sameRows_23 : decode cX4_sameRows 23 = .ok (.imul, 1) := by decide +kernel
theorem dX4_sameRows_24 : decode cX4_sameRows 24 = .ok (.iload_n 3, 1) := by decide +kernel
theorem dX4_sameRows_25 : decode cX4_sameRows 25 = .ok (.iadd, 1) := by decide +kernel
theorem dX4_sameRows_26 : decode cX4_sameRows 26 = .ok (.laload, 1) := by decide +kernel
theorem dX4_sameRows_27 : decode cX4_sameRows 27 = .ok (.lcmp, 1) := by decide +kernel
theorem dX4_sameRows_28 : decode cX4_sameRows 28 = .ok (.ifCond .eq 5, 3) := by decide +kernel
theorem dX4_sameRows_31 : decode cX4_sameRows 31 = .ok (.iconst 0, 1) := by decide +kernel
theorem dX4_sameRows_32 : decode cX4_sameRows 32 = .ok (.ireturn, 1) := by decide +kernel
theorem dX4_sameRows_33 : decode cX4_sameRows 33 = .ok (.iinc 3 1, 3) := by decide +kernel
theorem dX4_sameRows_36 : decode cX4_sameRows 36 = .ok (.goto (-34), 3) := by decide +kernel
theorem dX4_sameRows_39 : decode cX4_sameRows 39 = .ok (.iconst 1, 1) := by decide +kernel
theorem dX4_sameRows_40 : decode cX4_sameRows 40 = .ok (.ireturn, 1) := by decide +kernel
theorem dX5_init_0 : decode cX5_init 0 = .ok (.aload_n 0, 1) := by decide +kernel
theorem dX5_init_1 : decode cX5_init 1 = .ok (.invokespecial 3, 3) := by decide +kernel
theorem dX5_init_4 : decode cX5_init 4 = .ok (.aload_n 0, 1) := by decide +kernel
theorem dX5_init_5 : decode cX5_init 5 = .ok (.bipush 6, 2) := by decide +kernel
theorem dX5_init_7 : decode cX5_init 7 = .ok (.anewarray 9, 3) := by decide +kernel
theorem dX5_init_10 : decode cX5_init 10 = .ok (.putfield 11, 3) := by decide +kernel
theorem dX5_init_13 : decode cX5_init 13 = .ok (.aload_n 0, 1) := by decide +kernel
theorem dX5_init_14 : decode cX5_init 14 = .ok (.iconst 2, 1) := by decide +kernel
theorem dX5_init_15 : decode cX5_init 15 = .ok (.anewarray 15, 3) := by decide +kernel
theorem dX5_init_18 : decode cX5_init 18 = .ok (.putfield 17, 3) := by decide +kernel
theorem dX5_init_21 : decode cX5_init 21 = .ok (.aload_n 0, 1) := by decide +kernel
theorem dX5_init_22 : decode cX5_init 22 = .ok (.new 21, 3) := by decide +kernel
theorem dX5_init_25 : decode cX5_init 25 = .ok (.dup, 1) := by decide +kernel
theorem dX5_init_26 : decode cX5_init 26 = .ok (.invokespecial 23, 3) := by decide +kernel
theorem dX5_init_29 : decode cX5_init 29 = .ok (.putfield 24, 3) := by decide +kernel
theorem dX5_init_32 : decode cX5_init 32 = .ok (.aload_n 0, 1) := by decide +kernel
theorem dX5_init_33 : decode cX5_init 33 = .ok (.new 28, 3) := by decide +kernel
theorem dX5_init_36 : decode cX5_init 36 = .ok (.dup, 1) := by decide +kernel
theorem dX5_init_37 : decode cX5_init 37 = .ok (.invokespecial 30, 3) := by decide +kernel
theorem dX5_init_40 : decode cX5_init 40 = .ok (.putfield 31, 3) := by decide +kernel
theorem dX5_init_43 : decode cX5_init 43 = .ok (.iconst 0, 1) := by decide +kernel
theorem dX5_init_44 : decode cX5_init 44 = .ok (.istore_n 1, 1) := by decide +kernel
theorem dX5_init_45 : decode cX5_init 45 = .ok (.iload_n 1, 1) := by decide +kernel
theorem dX5_init_46 : decode cX5_init 46 = .ok (.iconst 2, 1) := by decide +kernel
theorem dX5_init_47 : decode cX5_init 47 = .ok (.if_icmp .ge 22, 3) := by decide +kernel
theorem dX5_init_50 : decode cX5_init 50 = .ok (.aload_n 0, 1) := by decide +kernel
theorem dX5_init_51 : decode cX5_init 51 = .ok (.getfield 17, 3) := by decide +kernel
theorem dX5_init_54 : decode cX5_init 54 = .ok (.iload_n 1, 1) := by decide +kernel
theorem dX5_init_55 : decode cX5_init 55 = .ok (.new 15, 3) := by decide +kernel
theorem dX5_init_58 : decode cX5_init 58 = .ok (.dup, 1) := by decide +kernel
theorem dX5_init_59 : decode cX5_init 59 = .ok (.invokespecial 35, 3) := by decide +kernel
theorem dX5_init_62 : decode cX5_init 62 = .ok (.aastore, 1) := by decide +kernel
theorem dX5_init_63 : decode cX5_init 63 = .ok (.iinc 1 1, 3) := by decide +kernel
theorem dX5_init_66 : decode cX5_init 66 = .ok (.goto (-21), 3) := by decide +kernel
theorem dX5_init_69 : decode cX5_init 69 = .ok (.aload_n 0, 1) := by decide +kernel
theorem dX5_init_70 : decode cX5_init 70 = .ok (.iconst 2, 1) := by decide +kernel
theorem dX5_init_71 : decode cX5_init 71 = .ok (.invokevirtual 36, 3) := by decide +kernel
theorem dX5_init_74 : decode cX5_init 74 = .ok (.return_, 1) := by decide +kernel
theorem dX5_base_0 : decode cX5_base 0 = .ok (.iload_n 1, 1) := by decide +kernel
theorem dX5_base_1 : decode cX5_base 1 = .ok (.iconst 2, 1) := by decide +kernel
theorem dX5_base_2 : decode cX5_base 2 = .ok (.if_icmp .eq 16, 3) := by decide +kernel
theorem dX5_base_5 : decode cX5_base 5 = .ok (.iload_n 1, 1) := by decide +kernel
theorem dX5_base_6 : decode cX5_base 6 = .ok (.iconst 3, 1) := by decide +kernel
theorem dX5_base_7 : decode cX5_base 7 = .ok (.if_icmp .eq 11, 3) := by decide +kernel
theorem dX5_base_10 : decode cX5_base 10 = .ok (.iload_n 1, 1) := by decide +kernel
theorem dX5_base_11 : decode cX5_base 11 = .ok (.iconst 5, 1) := by decide +kernel
theorem dX5_base_12 : decode cX5_base 12 = .ok (.if_icmp .eq 6, 3) := by decide +kernel
theorem dX5_base_15 : decode cX5_base 15 = .ok (.bipush (-2), 2) := by decide +kernel
theorem dX5_base_17 : decode cX5_base 17 = .ok (.ireturn, 1) := by decide +kernel
theorem dX5_base_18 : decode cX5_base 18 = .ok (.aload_n 0, 1) := by decide +kernel
theorem dX5_base_19 : decode cX5_base 19 = .ok (.getfield 40, 3) := by decide +kernel
theorem dX5_base_22 : decode cX5_base 22 = .ok (.istore_n 2, 1) := by decide +kernel
theorem dX5_base_23 : decode cX5_base 23 = .ok (.aload_n 0, 1) := by decide +kernel
theorem dX5_base_24 : decode cX5_base 24 = .ok (.iload_n 1, 1) := by decide +kernel
theorem dX5_base_25 : decode cX5_base 25 = .ok (.invokevirtual 36, 3) := by decide +kernel
theorem dX5_base_28 : decode cX5_base 28 = .ok (.iload_n 2, 1) := by decide +kernel
theorem dX5_base_29 : decode cX5_base 29 = .ok (.ireturn, 1) := by decide +kernel
theorem dX5_put_0 : decode cX5_put 0 = .ok (.aload_n 0, 1) := by decide +kernel
theorem dX5_put_1 : decode cX5_put 1 = .ok (.iload_n 1, 1) := by decide +kernel
theorem dX5_put_2 : decode cX5_put 2 = .ok (.invokevirtual 44, 3) := by decide +kernel
theorem dX5_put_5 : decode cX5_put 5 = .ok (.ifCond .eq 5, 3) := by decide +kernel
theorem dX5_put_8 : decode cX5_put 8 = .ok (.iconst (-1), 1) := by decide +kernel
theorem dX5_put_9 : decode cX5_put 9 = .ok (.ireturn, 1) := by decide +kernel
theorem dX5_put_10 : decode cX5_put 10 = .ok (.iload_n 2, 1) := by decide +kernel
theorem dX5_put_11 : decode cX5_put 11 = .ok (.iconst 0, 1) := by decide +kernel
theorem dX5_put_12 : decode cX5_put 12 = .ok (.iconst 4, 1) := by decide +kernel
theorem dX5_put_13 : decode cX5_put 13 = .ok (.invokestatic 48, 3) := by decide +kernel
theorem dX5_put_16 : decode cX5_put 16 = .ok (.ifCond .ne 6, 3) := by decide +kernel
theorem dX5_put_19 : decode cX5_put 19 = .ok (.bipush (-2), 2) := by decide +kernel
theorem dX5_put_21 : decode cX5_put 21 = .ok (.ireturn, 1) := by decide +kernel
theorem dX5_put_22 : decode cX5_put 22 = .ok (.iload_n 2, 1) := by decide +kernel
theorem dX5_put_23 : decode cX5_put 23 = .ok (.iconst 3, 1) := by decide +kernel
theorem dX5_put_24 : decode cX5_put 24 = .ok (.if_icmp .eq 21, 3) := by decide +kernel
theorem dX5_put_27 : decode cX5_put 27 = .ok (.iload_n 2, 1) := by decide +kernel
theorem dX5_put_28 : decode cX5_put 28 = .ok (.iconst 4, 1) := by decide +kernel
theorem dX5_put_29 : decode cX5_put 29 = .ok (.if_icmp .eq 16, 3) := by decide +kernel
theorem dX5_put_32 : decode cX5_put 32 = .ok (.iload_n 3, 1) := by decide +kernel
theorem dX5_put_33 : decode cX5_put 33 = .ok (.iconst 0, 1) := by decide +kernel
theorem dX5_put_34 : decode cX5_put 34 = .ok (.bipush 100, 2) := by decide +kernel
theorem dX5_put_36 : decode cX5_put 36 = .ok (.invokestatic 48, 3) := by decide +kernel
theorem dX5_put_39 : decode cX5_put 39 = .ok (.ifCond .ne 6, 3) := by decide +kernel
theorem dX5_put_42 : decode cX5_put 42 = .ok (.bipush (-2), 2) := by decide +kernel
theorem dX5_put_44 : decode cX5_put 44 = .ok (.ireturn, 1) := by decide +kernel
theorem dX5_put_45 : decode cX5_put 45 = .ok (.iload_n 2, 1) := by decide +kernel
theorem dX5_put_46 : decode cX5_put 46 = .ok (.iconst 2, 1) := by decide +kernel
theorem dX5_put_47 : decode cX5_put 47 = .ok (.if_icmp .ne 17, 3) := by decide +kernel
theorem dX5_put_50 : decode cX5_put 50 = .ok (.iload 4, 2) := by decide +kernel
theorem dX5_put_52 : decode cX5_put 52 = .ok (.iconst 1, 1) := by decide +kernel
theorem dX5_put_53 : decode cX5_put 53 = .ok (.bipush 60, 2) := by decide +kernel
theorem dX5_put_55 : decode cX5_put 55 = .ok (.invokestatic 48, 3) := by decide +kernel
theorem dX5_put_58 : decode cX5_put 58 = .ok (.ifCond .ne 6, 3) := by decide +kernel
theorem dX5_put_61 : decode cX5_put 61 = .ok (.bipush (-2), 2) := by decide +kernel
theorem dX5_put_63 : decode cX5_put 63 = .ok (.ireturn, 1) := by decide +kernel
theorem dX5_put_64 : decode cX5_put 64 = .ok (.aload_n 0, 1) := by decide +kernel
theorem dX5_put_65 : decode cX5_put 65 = .ok (.iload_n 2, 1) := by decide +kernel
theorem dX5_put_66 : decode cX5_put 66 = .ok (.iload_n 3, 1) := by decide +kernel
theorem dX5_put_67 : decode cX5_put 67 = .ok (.iload 4, 2) := by decide +kernel
theorem dX5_put_69 : decode cX5_put 69 = .ok (.invokevirtual 52, 3) := by decide +kernel
theorem dX5_put_72 : decode cX5_put 72 = .ok (.aload_n 0, 1) := by decide +kernel
theorem dX5_put_73 : decode cX5_put 73 = .ok (.iload_n 1, 1) := by decide +kernel
theorem dX5_put_74 : decode cX5_put 74 = .ok (.invokevirtual 56, 3) := by decide +kernel
theorem dX5_put_77 : decode cX5_put 77 = .ok (.ireturn, 1) := by decide +kernel
theorem dX5_join_0 : decode cX5_join 0 = .ok (.aload_n 0, 1) := by decide +kernel
theorem dX5_join_1 : decode cX5_join 1 = .ok (.iload_n 1, 1) := by decide +kernel
theorem dX5_join_2 : decode cX5_join 2 = .ok (.invokevirtual 44, 3) := by decide +kernel
theorem dX5_join_5 : decode cX5_join 5 = .ok (.ifCond .ne 19, 3) := by decide +kernel
theorem dX5_join_8 : decode cX5_join 8 = .ok (.aload_n 0, 1) := by decide +kernel
theorem dX5_join_9 : decode cX5_join 9 = .ok (.iload_n 2, 1) := by decide +kernel
theorem dX5_join_10 : decode cX5_join 10 = .ok (.invokevirtual 44, 3) := by decide +kernel
theorem dX5_join_13 : decode cX5_join 13 = .ok (.ifCond .ne 11, 3) := by decide +kernel
theorem dX5_join_16 : decode cX5_join 16 = .ok (.aload_n 0, 1) := by decide +kernel
theorem dX5_join_17 : decode cX5_join 17 = .ok (.iload_n 3, 1) := by decide +kernel
theorem dX5_join_18 : decode cX5_join 18 = .ok (.invokevirtual 44, 3) := by decide +kernel
theorem dX5_join_21 : decode cX5_join 21 = .ok (.ifCond .eq 5, 3) := by decide +kernel
theorem dX5_join_24 : decode cX5_join 24 = .ok (.iconst (-1), 1) := by decide +kernel
theorem dX5_join_25 : decode cX5_join 25 = .ok (.ireturn, 1) := by decide +kernel
theorem dX5_join_26 : decode cX5_join 26 = .ok (.iload 4, 2) := by decide +kernel
theorem dX5_join_28 : decode cX5_join 28 = .ok (.iconst 0, 1) := by decide +kernel
theorem dX5_join_29 : decode cX5_join 29 = .ok (.iconst 3, 1) := by decide +kernel
theorem dX5_join_30 : decode cX5_join 30 = .ok (.invokestatic 48, 3) := by decide +kernel
theorem dX5_join_33 : decode cX5_join 33 = .ok (.ifCond .ne 6, 3) := by decide +kernel
theorem dX5_join_36 : decode cX5_join 36 = .ok (.bipush (-2), 2) := by decide +kernel
theorem dX5_join_38 : decode cX5_join 38 = .ok (.ireturn, 1) := by decide +kernel
theorem dX5_join_39 : decode cX5_join 39 = .ok (.aload_n 0, 1) := by decide +kernel
theorem dX5_join_40 : decode cX5_join 40 = .ok (.aload_n 0, 1) := by decide +kernel
theorem dX5_join_41 : decode cX5_join 41 = .ok (.getfield 11, 3) := by decide +kernel
theorem dX5_join_44 : decode cX5_join 44 = .ok (.iload_n 2, 1) := by decide +kernel
theorem dX5_join_45 : decode cX5_join 45 = .ok (.aaload, 1) := by decide +kernel
theorem dX5_join_46 : decode cX5_join 46 = .ok (.aload_n 0, 1) := by decide +kernel
theorem dX5_join_47 : decode cX5_join 47 = .ok (.getfield 11, 3) := by decide +kernel
theorem dX5_join_50 : decode cX5_join 50 = .ok (.iload_n 3, 1) := by decide +kernel
theorem dX5_join_51 : decode cX5_join 51 = .ok (.aaload, 1) := by decide +kernel
theorem dX5_join_52 : decode cX5_join 52 = .ok (.iload 4, 2) := by decide +kernel
theorem dX5_join_54 : decode cX5_join 54 = .ok (.invokevirtual 60, 3) := by decide +kernel
theorem dX5_join_57 : decode cX5_join 57 = .ok (.aload_n 0, 1) := by decide +kernel
theorem dX5_join_58 : decode cX5_join 58 = .ok (.iload_n 1, 1) := by decide +kernel
theorem dX5_join_59 : decode cX5_join 59 = .ok (.invokevirtual 56, 3) := by decide +kernel
theorem dX5_join_62 : decode cX5_join 62 = .ok (.ireturn, 1) := by decide +kernel
theorem dX5_turn_0 : decode cX5_turn 0 = .ok (.aload_n 0, 1) := by decide +kernel
theorem dX5_turn_1 : decode cX5_turn 1 = .ok (.iload_n 1, 1) := by decide +kernel
theorem dX5_turn_2 : decode cX5_turn 2 = .ok (.invokevirtual 44, 3) := by decide +kernel
theorem dX5_turn_5 : decode cX5_turn 5 = .ok (.ifCond .ne 11, 3) := by decide +kernel
theorem dX5_turn_8 : decode cX5_turn 8 = .ok (.aload_n 0, 1) := by decide +kernel
theorem dX5_turn_9 : decode cX5_turn 9 = .ok (.iload_n 2, 1) := by decide +kernel
theorem dX5_turn_10 : decode cX5_turn 10 = .ok (.invokevirtual 44, 3) := by decide +kernel
theorem dX5_turn_13 : decode cX5_turn 13 = .ok (.ifCond .eq 5, 3) := by decide +kernel
theorem dX5_turn_16 : decode cX5_turn 16 = .ok (.iconst (-1), 1) := by decide +kernel
theorem dX5_turn_17 : decode cX5_turn 17 = .ok (.ireturn, 1) := by decide +kernel
theorem dX5_turn_18 : decode cX5_turn 18 = .ok (.aload_n 0, 1) := by decide +kernel
theorem dX5_turn_19 : decode cX5_turn 19 = .ok (.aload_n 0, 1) := by decide +kernel
theorem dX5_turn_20 : decode cX5_turn 20 = .ok (.getfield 11, 3) := by decide +kernel
theorem dX5_turn_23 : decode cX5_turn 23 = .ok (.iload_n 2, 1) := by decide +kernel
theorem dX5_turn_24 : decode cX5_turn 24 = .ok (.aaload, 1) := by decide +kernel
theorem dX5_turn_25 : decode cX5_turn 25 = .ok (.invokevirtual 64, 3) := by decide +kernel
theorem dX5_turn_28 : decode cX5_turn 28 = .ok (.aload_n 0, 1) := by decide +kernel
theorem dX5_turn_29 : decode cX5_turn 29 = .ok (.iload_n 1, 1) := by decide +kernel
theorem dX5_turn_30 : decode cX5_turn 30 = .ok (.invokevirtual 56, 3) := by decide +kernel
theorem dX5_turn_33 : decode cX5_turn 33 = .ok (.ireturn, 1) := by decide +kernel
theorem dX5_shift_0 : decode cX5_shift 0 = .ok (.aload_n 0, 1) := by decide +kernel
theorem dX5_shift_1 : decode cX5_shift 1 = .ok (.iload_n 1, 1) := by decide +kernel
theorem dX5_shift_2 : decode cX5_shift 2 = .ok (.invokevirtual 44, 3) := by decide +kernel
theorem dX5_shift_5 : decode cX5_shift 5 = .ok (.ifCond .ne 11, 3) := by decide +kernel
theorem dX5_shift_8 : decode cX5_shift 8 = .ok (.aload_n 0, 1) := by decide +kernel
theorem dX5_shift_9 : decode cX5_shift 9 = .ok (.iload_n 2, 1) := by decide +kernel
theorem dX5_shift_10 : decode cX5_shift 10 = .ok (.invokevirtual 44, 3) := by decide +kernel
theorem dX5_shift_13 : decode cX5_shift 13 = .ok (.ifCond .eq 5, 3) := by decide +kernel
theorem dX5_shift_16 : decode cX5_shift 16 = .ok (.iconst (-1), 1) := by decide +kernel
theorem dX5_shift_17 : decode cX5_shift 17 = .ok (.ireturn, 1) := by decide +kernel
theorem dX5_shift_18 : decode cX5_shift 18 = .ok (.iload_n 3, 1) := by decide +kernel
theorem dX5_shift_19 : decode cX5_shift 19 = .ok (.bipush (-100), 2) := by decide +kernel
theorem dX5_shift_21 : decode cX5_shift 21 = .ok (.bipush 100, 2) := by decide +kernel
theorem dX5_shift_23 : decode cX5_shift 23 = .ok (.invokestatic 48, 3) := by decide +kernel
theorem dX5_shift_26 : decode cX5_shift 26 = .ok (.ifCond .ne 6, 3) := by decide +kernel
theorem dX5_shift_29 : decode cX5_shift 29 = .ok (.bipush (-2), 2) := by decide +kernel
theorem dX5_shift_31 : decode cX5_shift 31 = .ok (.ireturn, 1) := by decide +kernel
theorem dX5_shift_32 : decode cX5_shift 32 = .ok (.aload_n 0, 1) := by decide +kernel
theorem dX5_shift_33 : decode cX5_shift 33 = .ok (.aload_n 0, 1) := by decide +kernel
theorem dX5_shift_34 : decode cX5_shift 34 = .ok (.getfield 11, 3) := by decide +kernel
theorem dX5_shift_37 : decode cX5_shift 37 = .ok (.iload_n 2, 1) := by decide +kernel
theorem dX5_shift_38 : decode cX5_shift 38 = .ok (.aaload, 1) := by decide +kernel
theorem dX5_shift_39 : decode cX5_shift 39 = .ok (.iload_n 3, 1) := by decide +kernel
theorem dX5_shift_40 : decode cX5_shift 40 = .ok (.invokevirtual 68, 3) := by decide +kernel
theorem dX5_shift_43 : decode cX5_shift 43 = .ok (.aload_n 0, 1) := by decide +kernel
theorem dX5_shift_44 : decode cX5_shift 44 = .ok (.iload_n 1, 1) := by decide +kernel
theorem dX5_shift_45 : decode cX5_shift 45 = .ok (.invokevirtual 56, 3) := by decide +kernel
theorem dX5_shift_48 : decode cX5_shift 48 = .ok (.ireturn, 1) := by decide +kernel
theorem dX5_stretch_0 : decode cX5_stretch 0 = .ok (.aload_n 0, 1) := by decide +kernel
theorem dX5_stretch_1 : decode cX5_stretch 1 = .ok (.iload_n 1, 1) := by decide +kernel
theorem dX5_stretch_2 : decode cX5_stretch 2 = .ok (.invokevirtual 44, 3) := by decide +kernel
theorem dX5_stretch_5 : decode cX5_stretch 5 = .ok (.ifCond .ne 11, 3) := by decide +kernel
theorem dX5_stretch_8 : decode cX5_stretch 8 = .ok (.aload_n 0, 1) := by decide +kernel
theorem dX5_stretch_9 : decode cX5_stretch 9 = .ok (.iload_n 2, 1) := by decide +kernel
theorem dX5_stretch_10 : decode cX5_stretch 10 = .ok (.invokevirtual 44, 3) := by decide +kernel
theorem dX5_stretch_13 : decode cX5_stretch 13 = .ok (.ifCond .eq 5, 3) := by decide +kernel
theorem dX5_stretch_16 : decode cX5_stretch 16 = .ok (.iconst (-1), 1) := by decide +kernel
theorem dX5_stretch_17 : decode cX5_stretch 17 = .ok (.ireturn, 1) := by decide +kernel
theorem dX5_stretch_18 : decode cX5_stretch 18 = .ok (.iload_n 3, 1) := by decide +kernel
theorem dX5_stretch_19 : decode cX5_stretch 19 = .ok (.iconst 1, 1) := by decide +kernel
theorem dX5_stretch_20 : decode cX5_stretch 20 = .ok (.bipush 12, 2) := by decide +kernel
theorem dX5_stretch_22 : decode cX5_stretch 22 = .ok (.invokestatic 48, 3) := by decide +kernel
theorem dX5_stretch_25 : decode cX5_stretch 25 = .ok (.ifCond .eq 14, 3) := by decide +kernel
theorem dX5_stretch_28 : decode cX5_stretch 28 = .ok (.iload 4, 2) := by decide +kernel
theorem dX5_stretch_30 : decode cX5_stretch 30 = .ok (.iconst 0, 1) := by decide +kernel
theorem dX5_stretch_31 : decode cX5_stretch 31 = .ok (.bipush 20, 2) := by decide +kernel
theorem dX5_stretch_33 : decode cX5_stretch 33 = .ok (.invokestatic 48, 3) := by decide +kernel
theorem dX5_stretch_36 : decode cX5_stretch 36 = .ok (.ifCond .ne 6, 3) := by decide +kernel
theorem dX5_stretch_39 : decode cX5_stretch 39 = .ok (.bipush (-2), 2) := by decide +kernel
theorem dX5_stretch_41 : decode cX5_stretch 41 = .ok (.ireturn, 1) := by decide +kernel
theorem dX5_stretch_42 : decode cX5_stretch 42 = .ok (.aload_n 0, 1) := by decide +kernel
theorem dX5_stretch_43 : decode cX5_stretch 43 = .ok (.aload_n 0, 1) := by decide +kernel
theorem dX5_stretch_44 : decode cX5_stretch 44 = .ok (.getfield 11, 3) := by decide +kernel
theorem dX5_stretch_47 : decode cX5_stretch 47 = .ok (.iload_n 2, 1) := by decide +kernel
theorem dX5_stretch_48 : decode cX5_stretch 48 = .ok (.aaload, 1) := by decide +kernel
theorem dX5_stretch_49 : decode cX5_stretch 49 = .ok (.iload_n 3, 1) := by decide +kernel
theorem dX5_stretch_50 : decode cX5_stretch 50 = .ok (.iload 4, 2) := by decide +kernel
theorem dX5_stretch_52 : decode cX5_stretch 52 = .ok (.invokevirtual 72, 3) := by decide +kernel
theorem dX5_stretch_55 : decode cX5_stretch 55 = .ok (.aload_n 0, 1) := by decide +kernel
theorem dX5_stretch_56 : decode cX5_stretch 56 = .ok (.iload_n 1, 1) := by decide +kernel
theorem dX5_stretch_57 : decode cX5_stretch 57 = .ok (.invokevirtual 56, 3) := by decide +kernel
theorem dX5_stretch_60 : decode cX5_stretch 60 = .ok (.ireturn, 1) := by decide +kernel
theorem dX5_shrink_0 : decode cX5_shrink 0 = .ok (.aload_n 0, 1) := by decide +kernel
theorem dX5_shrink_1 : decode cX5_shrink 1 = .ok (.iload_n 1, 1) := by decide +kernel
theorem dX5_shrink_2 : decode cX5_shrink 2 = .ok (.invokevirtual 44, 3) := by decide +kernel
theorem dX5_shrink_5 : decode cX5_shrink 5 = .ok (.ifCond .ne 11, 3) := by decide +kernel
theorem dX5_shrink_8 : decode cX5_shrink 8 = .ok (.aload_n 0, 1) := by decide +kernel
theorem dX5_shrink_9 : decode cX5_shrink 9 = .ok (.iload_n 2, 1) := by decide +kernel
theorem dX5_shrink_10 : decode cX5_shrink 10 = .ok (.invokevirtual 44, 3) := by decide +kernel
theorem dX5_shrink_13 : decode cX5_shrink 13 = .ok (.ifCond .eq 5, 3) := by decide +kernel
theorem dX5_shrink_16 : decode cX5_shrink 16 = .ok (.iconst (-1), 1) := by decide +kernel
theorem dX5_shrink_17 : decode cX5_shrink 17 = .ok (.ireturn, 1) := by decide +kernel
theorem dX5_shrink_18 : decode cX5_shrink 18 = .ok (.iload_n 3, 1) := by decide +kernel
theorem dX5_shrink_19 : decode cX5_shrink 19 = .ok (.iconst 1, 1) := by decide +kernel
theorem dX5_shrink_20 : decode cX5_shrink 20 = .ok (.bipush 12, 2) := by decide +kernel
theorem dX5_shrink_22 : decode cX5_shrink 22 = .ok (.invokestatic 48, 3) := by decide +kernel
theorem dX5_shrink_25 : decode cX5_shrink 25 = .ok (.ifCond .eq 14, 3) := by decide +kernel
theorem dX5_shrink_28 : decode cX5_shrink 28 = .ok (.iload 4, 2) := by decide +kernel
theorem dX5_shrink_30 : decode cX5_shrink 30 = .ok (.iconst 0, 1) := by decide +kernel
theorem dX5_shrink_31 : decode cX5_shrink 31 = .ok (.bipush 20, 2) := by decide +kernel
theorem dX5_shrink_33 : decode cX5_shrink 33 = .ok (.invokestatic 48, 3) := by decide +kernel
theorem dX5_shrink_36 : decode cX5_shrink 36 = .ok (.ifCond .ne 6, 3) := by decide +kernel
theorem dX5_shrink_39 : decode cX5_shrink 39 = .ok (.bipush (-2), 2) := by decide +kernel
theorem dX5_shrink_41 : decode cX5_shrink 41 = .ok (.ireturn, 1) := by decide +kernel
theorem dX5_shrink_42 : decode cX5_shrink 42 = .ok (.aload_n 0, 1) := by decide +kernel
theorem dX5_shrink_43 : decode cX5_shrink 43 = .ok (.aload_n 0, 1) := by decide +kernel
theorem dX5_shrink_44 : decode cX5_shrink 44 = .ok (.getfield 11, 3) := by decide +kernel
theorem dX5_shrink_47 : decode cX5_shrink 47 = .ok (.iload_n 2, 1) := by decide +kernel
theorem dX5_shrink_48 : decode cX5_shrink 48 = .ok (.aaload, 1) := by decide +kernel
theorem dX5_shrink_49 : decode cX5_shrink 49 = .ok (.iload_n 3, 1) := by decide +kernel
theorem dX5_shrink_50 : decode cX5_shrink 50 = .ok (.iload 4, 2) := by decide +kernel
theorem dX5_shrink_52 : decode cX5_shrink 52 = .ok (.invokevirtual 76, 3) := by decide +kernel
theorem dX5_shrink_55 : decode cX5_shrink 55 = .ok (.aload_n 0, 1) := by decide +kernel
theorem dX5_shrink_56 : decode cX5_shrink 56 = .ok (.iload_n 1, 1) := by decide +kernel
theorem dX5_shrink_57 : decode cX5_shrink 57 = .ok (.invokevirtual 56, 3) := by decide +kernel
theorem dX5_shrink_60 : decode cX5_shrink 60 = .ok (.ireturn, 1) := by decide +kernel
theorem dX5_told_0 : decode cX5_told 0 = .ok (.aload_n 0, 1) := by decide +kernel
theorem dX5_told_1 : decode cX5_told 1 = .ok (.iload_n 1, 1) := by decide +kernel
theorem dX5_told_2 : decode cX5_told 2 = .ok (.invokevirtual 44, 3) := by decide +kernel
theorem dX5_told_5 : decode cX5_told 5 = .ok (.ifCond .eq 5, 3) := by decide +kernel
theorem dX5_told_8 : decode cX5_told 8 = .ok (.iconst (-1), 1) := by decide +kernel
theorem dX5_told_9 : decode cX5_told 9 = .ok (.ireturn, 1) := by decide +kernel
theorem dX5_told_10 : decode cX5_told 10 = .ok (.aload_n 0, 1) := by decide +kernel
theorem dX5_told_11 : decode cX5_told 11 = .ok (.getfield 11, 3) := by decide +kernel
theorem dX5_told_14 : decode cX5_told 14 = .ok (.iload_n 1, 1) := by decide +kernel
theorem dX5_told_15 : decode cX5_told 15 = .ok (.aaload, 1) := by decide +kernel
theorem dX5_told_16 : decode cX5_told 16 = .ok (.astore_n 3, 1) := by decide +kernel
theorem dX5_told_17 : decode cX5_told 17 = .ok (.iload_n 2, 1) := by decide +kernel
theorem dX5_told_18 : decode cX5_told 18 = .ok (.tableswitch 99 0 5 #[38, 43, 48, 56, 67, 76], 38) := by decide +kernel
theorem dX5_told_56 : decode cX5_told 56 = .ok (.aload_n 3, 1) := by decide +kernel
theorem dX5_told_57 : decode cX5_told 57 = .ok (.getfield 79, 3) := by decide +kernel
theorem dX5_told_60 : decode cX5_told 60 = .ok (.ireturn, 1) := by decide +kernel
theorem dX5_told_61 : decode cX5_told 61 = .ok (.aload_n 3, 1) := by decide +kernel
theorem dX5_told_62 : decode cX5_told 62 = .ok (.getfield 82, 3) := by decide +kernel
theorem dX5_told_65 : decode cX5_told 65 = .ok (.ireturn, 1) := by decide +kernel
theorem dX5_told_66 : decode cX5_told 66 = .ok (.aload_n 3, 1) := by decide +kernel
theorem dX5_told_67 : decode cX5_told 67 = .ok (.getfield 85, 3) := by decide +kernel
theorem dX5_told_70 : decode cX5_told 70 = .ok (.getfield 89, 3) := by decide +kernel
theorem dX5_told_73 : decode cX5_told 73 = .ok (.ireturn, 1) := by decide +kernel
theorem dX5_told_74 : decode cX5_told 74 = .ok (.aload_n 3, 1) := by decide +kernel
theorem dX5_told_75 : decode cX5_told 75 = .ok (.getfield 85, 3) := by decide +kernel
theorem dX5_told_78 : decode cX5_told 78 = .ok (.getfield 94, 3) := by decide +kernel
theorem dX5_told_81 : decode cX5_told 81 = .ok (.invokestatic 98, 3) := by decide +kernel
theorem dX5_told_84 : decode cX5_told 84 = .ok (.ireturn, 1) := by decide +kernel
theorem dX5_told_85 : decode cX5_told 85 = .ok (.aload_n 3, 1) := by decide +kernel
theorem dX5_told_86 : decode cX5_told 86 = .ok (.aload_n 3, 1) := by decide +kernel
theorem dX5_told_87 : decode cX5_told 87 = .ok (.getfield 79, 3) := by decide +kernel
theorem dX5_told_90 : decode cX5_told 90 = .ok (.invokevirtual 104, 3) := by decide +kernel
theorem dX5_told_93 : decode cX5_told 93 = .ok (.ireturn, 1) := by decide +kernel
theorem dX5_told_94 : decode cX5_told 94 = .ok (.aload_n 3, 1) := by decide +kernel
theorem dX5_told_95 : decode cX5_told 95 = .ok (.aload_n 3, 1) := by decide +kernel
theorem dX5_told_96 : decode cX5_told 96 = .ok (.getfield 79, 3) := by decide +kernel
theorem dX5_told_99 : decode cX5_told 99 = .ok (.aload_n 3, 1) := by decide +kernel
theorem dX5_told_100 : decode cX5_told 100 = .ok (.getfield 82, 3) := by decide +kernel
theorem dX5_told_103 : decode cX5_told 103 = .ok (.iadd, 1) := by decide +kernel
theorem dX5_told_104 : decode cX5_told 104 = .ok (.invokevirtual 104, 3) := by decide +kernel
theorem dX5_told_107 : decode cX5_told 107 = .ok (.aload_n 3, 1) := by decide +kernel
theorem dX5_told_108 : decode cX5_told 108 = .ok (.aload_n 3, 1) := by decide +kernel
theorem dX5_told_109 : decode cX5_told 109 = .ok (.getfield 79, 3) := by decide +kernel
theorem dX5_told_112 : decode cX5_told 112 = .ok (.invokevirtual 104, 3) := by decide +kernel
theorem dX5_told_115 : decode cX5_told 115 = .ok (.isub, 1) := by decide +kernel
theorem dX5_told_116 : decode cX5_told 116 = .ok (.ireturn, 1) := by decide +kernel
theorem dX5_told_117 : decode cX5_told 117 = .ok (.bipush (-2), 2) := by decide +kernel
theorem dX5_told_119 : decode cX5_told 119 = .ok (.ireturn, 1) := by decide +kernel
theorem dX5_state_0 : decode cX5_state 0 = .ok (.aload_n 0, 1) := by decide +kernel
theorem dX5_state_1 : decode cX5_state 1 = .ok (.iload_n 1, 1) := by decide +kernel
theorem dX5_state_2 : decode cX5_state 2 = .ok (.invokevirtual 44, 3) := by decide +kernel
theorem dX5_state_5 : decode cX5_state 5 = .ok (.ifCond .ne 25, 3) := by decide +kernel
theorem dX5_state_8 : decode cX5_state 8 = .ok (.iload_n 2, 1) := by decide +kernel
theorem dX5_state_9 : decode cX5_state 9 = .ok (.iconst 0, 1) := by decide +kernel
theorem dX5_state_10 : decode cX5_state 10 = .ok (.aload_n 0, 1) := by decide +kernel
theorem dX5_state_11 : decode cX5_state 11 = .ok (.getfield 11, 3) := by decide +kernel
theorem dX5_state_14 : decode cX5_state 14 = .ok (.iload_n 1, 1) := by decide +kernel
theorem dX5_state_15 : decode cX5_state 15 = .ok (.aaload, 1) := by decide +kernel
theorem dX5_state_16 : decode cX5_state 16 = .ok (.getfield 85, 3) := by decide +kernel
theorem dX5_state_19 : decode cX5_state 19 = .ok (.getfield 89, 3) := by decide +kernel
theorem dX5_state_22 : decode cX5_state 22 = .ok (.iconst 1, 1) := by decide +kernel
theorem dX5_state_23 : decode cX5_state 23 = .ok (.isub, 1) := by decide +kernel
theorem dX5_state_24 : decode cX5_state 24 = .ok (.invokestatic 48, 3) := by decide +kernel
theorem dX5_state_27 : decode cX5_state 27 = .ok (.ifCond .ne 5, 3) := by decide +kernel
theorem dX5_state_30 : decode cX5_state 30 = .ok (.iconst (-1), 1) := by decide +kernel
theorem dX5_state_31 : decode cX5_state 31 = .ok (.ireturn, 1) := by decide +kernel
theorem dX5_state_32 : decode cX5_state 32 = .ok (.aload_n 0, 1) := by decide +kernel
theorem dX5_state_33 : decode cX5_state 33 = .ok (.getfield 11, 3) := by decide +kernel
theorem dX5_state_36 : decode cX5_state 36 = .ok (.iload_n 1, 1) := by decide +kernel
theorem dX5_state_37 : decode cX5_state 37 = .ok (.aaload, 1) := by decide +kernel
theorem dX5_state_38 : decode cX5_state 38 = .ok (.getfield 85, 3) := by decide +kernel
theorem dX5_state_41 : decode cX5_state 41 = .ok (.astore 4, 2) := by decide +kernel
theorem dX5_state_43 : decode cX5_state 43 = .ok (.iload_n 3, 1) := by decide +kernel
theorem dX5_state_44 : decode cX5_state 44 = .ok (.tableswitch 103 0 7 #[48, 48, 48, 48, 48, 69, 79, 89], 48) := by decide +kernel
theorem dX5_state_92 : decode cX5_state 92 = .ok (.iload_n 3, 1) := by decide +kernel
theorem dX5_state_93 : decode cX5_state 93 = .ok (.aload_n 0, 1) := by decide +kernel
theorem dX5_state_94 : decode cX5_state 94 = .ok (.getfield 40, 3) := by decide +kernel
theorem dX5_state_97 : decode cX5_state 97 = .ok (.if_icmp .ge 13, 3) := by decide +kernel
theorem dX5_state_100 : decode cX5_state 100 = .ok (.aload 4, 2) := by decide +kernel
theorem dX5_state_102 : decode cX5_state 102 = .ok (.iload_n 2, 1) := by decide +kernel
theorem dX5_state_103 : decode cX5_state 103 = .ok (.iload_n 3, 1) := by decide +kernel
theorem dX5_state_104 : decode cX5_state 104 = .ok (.invokevirtual 107, 3) := by decide +kernel
theorem dX5_state_107 : decode cX5_state 107 = .ok (.goto 5, 3) := by decide +kernel
theorem dX5_state_110 : decode cX5_state 110 = .ok (.bipush (-3), 2) := by decide +kernel
theorem dX5_state_112 : decode cX5_state 112 = .ok (.ireturn, 1) := by decide +kernel
theorem dX5_state_113 : decode cX5_state 113 = .ok (.aload 4, 2) := by decide +kernel
theorem dX5_state_115 : decode cX5_state 115 = .ok (.iload_n 2, 1) := by decide +kernel
theorem dX5_state_116 : decode cX5_state 116 = .ok (.invokevirtual 111, 3) := by decide +kernel
theorem dX5_state_119 : decode cX5_state 119 = .ok (.invokestatic 114, 3) := by decide +kernel
theorem dX5_state_122 : decode cX5_state 122 = .ok (.ireturn, 1) := by decide +kernel
theorem dX5_state_123 : decode cX5_state 123 = .ok (.aload 4, 2) := by decide +kernel
theorem dX5_state_125 : decode cX5_state 125 = .ok (.lconst 1, 1) := by decide +kernel
theorem dX5_state_126 : decode cX5_state 126 = .ok (.lconst 1, 1) := by decide +kernel
theorem dX5_state_127 : decode cX5_state 127 = .ok (.iload_n 2, 1) := by decide +kernel
theorem dX5_state_128 : decode cX5_state 128 = .ok (.lshl, 1) := by decide +kernel
theorem dX5_state_129 : decode cX5_state 129 = .ok (.invokevirtual 118, 3) := by decide +kernel
theorem dX5_state_132 : decode cX5_state 132 = .ok (.ireturn, 1) := by decide +kernel
theorem dX5_state_133 : decode cX5_state 133 = .ok (.aload 4, 2) := by decide +kernel
theorem dX5_state_135 : decode cX5_state 135 = .ok (.lconst 1, 1) := by decide +kernel
theorem dX5_state_136 : decode cX5_state 136 = .ok (.iload_n 2, 1) := by decide +kernel
theorem dX5_state_137 : decode cX5_state 137 = .ok (.lshl, 1) := by decide +kernel
theorem dX5_state_138 : decode cX5_state 138 = .ok (.aload 4, 2) := by decide +kernel
theorem dX5_state_140 : decode cX5_state 140 = .ok (.getfield 94, 3) := by decide +kernel
theorem dX5_state_143 : decode cX5_state 143 = .ok (.invokevirtual 118, 3) := by decide +kernel
theorem dX5_state_146 : decode cX5_state 146 = .ok (.ireturn, 1) := by decide +kernel
theorem dX5_state_147 : decode cX5_state 147 = .ok (.bipush (-2), 2) := by decide +kernel
theorem dX5_state_149 : decode cX5_state 149 = .ok (.ireturn, 1) := by decide +kernel
theorem dX5_walk_0 : decode cX5_walk 0 = .ok (.aload_n 0, 1) := by decide +kernel
theorem dX5_walk_1 : decode cX5_walk 1 = .ok (.iload_n 1, 1) := by decide +kernel
theorem dX5_walk_2 : decode cX5_walk 2 = .ok (.invokevirtual 44, 3) := by decide +kernel
theorem dX5_walk_5 : decode cX5_walk 5 = .ok (.ifCond .eq 5, 3) := by decide +kernel
theorem dX5_walk_8 : decode cX5_walk 8 = .ok (.iconst (-1), 1) := by decide +kernel
theorem dX5_walk_9 : decode cX5_walk 9 = .ok (.ireturn, 1) := by decide +kernel
theorem dX5_walk_10 : decode cX5_walk 10 = .ok (.iload_n 3, 1) := by decide +kernel
theorem dX5_walk_11 : decode cX5_walk 11 = .ok (.iconst 0, 1) := by decide +kernel
theorem dX5_walk_12 : decode cX5_walk 12 = .ok (.bipush 40, 2) := by decide +kernel
theorem dX5_walk_14 : decode cX5_walk 14 = .ok (.invokestatic 48, 3) := by decide +kernel
theorem dX5_walk_17 : decode cX5_walk 17 = .ok (.ifCond .eq 7, 3) := by decide +kernel
theorem dX5_walk_20 : decode cX5_walk 20 = .ok (.iload_n 2, 1) := by decide +kernel
theorem dX5_walk_21 : decode cX5_walk 21 = .ok (.ifCond .ge 6, 3) := by decide +kernel
theorem dX5_walk_24 : decode cX5_walk 24 = .ok (.bipush (-2), 2) := by decide +kernel
theorem dX5_walk_26 : decode cX5_walk 26 = .ok (.ireturn, 1) := by decide +kernel
theorem dX5_walk_27 : decode cX5_walk 27 = .ok (.aload_n 0, 1) := by decide +kernel
theorem dX5_walk_28 : decode cX5_walk 28 = .ok (.getfield 11, 3) := by decide +kernel
theorem dX5_walk_31 : decode cX5_walk 31 = .ok (.iload_n 1, 1) := by decide +kernel
theorem dX5_walk_32 : decode cX5_walk 32 = .ok (.aaload, 1) := by decide +kernel
theorem dX5_walk_33 : decode cX5_walk 33 = .ok (.getfield 85, 3) := by decide +kernel
theorem dX5_walk_36 : decode cX5_walk 36 = .ok (.iload_n 2, 1) := by decide +kernel
theorem dX5_walk_37 : decode cX5_walk 37 = .ok (.iload_n 3, 1) := by decide +kernel
theorem dX5_walk_38 : decode cX5_walk 38 = .ok (.invokevirtual 122, 3) := by decide +kernel
theorem dX5_walk_41 : decode cX5_walk 41 = .ok (.ireturn, 1) := by decide +kernel
theorem dX5_has_0 : decode cX5_has 0 = .ok (.aload_n 0, 1) := by decide +kernel
theorem dX5_has_1 : decode cX5_has 1 = .ok (.iload_n 1, 1) := by decide +kernel
theorem dX5_has_2 : decode cX5_has 2 = .ok (.invokevirtual 44, 3) := by decide +kernel
theorem dX5_has_5 : decode cX5_has 5 = .ok (.ifCond .eq 5, 3) := by decide +kernel
theorem dX5_has_8 : decode cX5_has 8 = .ok (.iconst (-1), 1) := by decide +kernel
theorem dX5_has_9 : decode cX5_has 9 = .ok (.ireturn, 1) := by decide +kernel
theorem dX5_has_10 : decode cX5_has 10 = .ok (.iload_n 2, 1) := by decide +kernel
theorem dX5_has_11 : decode cX5_has 11 = .ok (.iconst 0, 1) := by decide +kernel
theorem dX5_has_12 : decode cX5_has 12 = .ok (.ldc 125, 2) := by decide +kernel
theorem dX5_has_14 : decode cX5_has 14 = .ok (.invokestatic 48, 3) := by decide +kernel
theorem dX5_has_17 : decode cX5_has 17 = .ok (.ifCond .ne 6, 3) := by decide +kernel
theorem dX5_has_20 : decode cX5_has 20 = .ok (.bipush (-2), 2) := by decide +kernel
theorem dX5_has_22 : decode cX5_has 22 = .ok (.ireturn, 1) := by decide +kernel
theorem dX5_has_23 : decode cX5_has 23 = .ok (.aload_n 0, 1) := by decide +kernel
theorem dX5_has_24 : decode cX5_has 24 = .ok (.getfield 11, 3) := by decide +kernel
theorem dX5_has_27 : decode cX5_has 27 = .ok (.iload_n 1, 1) := by decide +kernel
theorem dX5_has_28 : decode cX5_has 28 = .ok (.aaload, 1) := by decide +kernel
theorem dX5_has_29 : decode cX5_has 29 = .ok (.iload_n 2, 1) := by decide +kernel
theorem dX5_has_30 : decode cX5_has 30 = .ok (.invokevirtual 126, 3) := by decide +kernel
theorem dX5_has_33 : decode cX5_has 33 = .ok (.invokestatic 114, 3) := by decide +kernel
theorem dX5_has_36 : decode cX5_has 36 = .ok (.ireturn, 1) := by decide +kernel
theorem dX5_next_0 : decode cX5_next 0 = .ok (.aload_n 0, 1) := by decide +kernel
theorem dX5_next_1 : decode cX5_next 1 = .ok (.iload_n 1, 1) := by decide +kernel
theorem dX5_next_2 : decode cX5_next 2 = .ok (.invokevirtual 44, 3) := by decide +kernel
theorem dX5_next_5 : decode cX5_next 5 = .ok (.ifCond .eq 5, 3) := by decide +kernel
theorem dX5_next_8 : decode cX5_next 8 = .ok (.iconst (-1), 1) := by decide +kernel
theorem dX5_next_9 : decode cX5_next 9 = .ok (.ireturn, 1) := by decide +kernel
theorem dX5_next_10 : decode cX5_next 10 = .ok (.iload_n 2, 1) := by decide +kernel
theorem dX5_next_11 : decode cX5_next 11 = .ok (.iconst 0, 1) := by decide +kernel
theorem dX5_next_12 : decode cX5_next 12 = .ok (.ldc 125, 2) := by decide +kernel
theorem dX5_next_14 : decode cX5_next 14 = .ok (.invokestatic 48, 3) := by decide +kernel
theorem dX5_next_17 : decode cX5_next 17 = .ok (.ifCond .ne 6, 3) := by decide +kernel
theorem dX5_next_20 : decode cX5_next 20 = .ok (.bipush (-2), 2) := by decide +kernel
theorem dX5_next_22 : decode cX5_next 22 = .ok (.ireturn, 1) := by decide +kernel
theorem dX5_next_23 : decode cX5_next 23 = .ok (.aload_n 0, 1) := by decide +kernel
theorem dX5_next_24 : decode cX5_next 24 = .ok (.getfield 11, 3) := by decide +kernel
theorem dX5_next_27 : decode cX5_next 27 = .ok (.iload_n 1, 1) := by decide +kernel
theorem dX5_next_28 : decode cX5_next 28 = .ok (.aaload, 1) := by decide +kernel
theorem dX5_next_29 : decode cX5_next 29 = .ok (.iload_n 2, 1) := by decide +kernel
theorem dX5_next_30 : decode cX5_next 30 = .ok (.invokevirtual 129, 3) := by decide +kernel
theorem dX5_next_33 : decode cX5_next 33 = .ok (.ireturn, 1) := by decide +kernel
theorem dX5_below_0 : decode cX5_below 0 = .ok (.aload_n 0, 1) := by decide +kernel
theorem dX5_below_1 : decode cX5_below 1 = .ok (.iload_n 1, 1) := by decide +kernel
theorem dX5_below_2 : decode cX5_below 2 = .ok (.invokevirtual 44, 3) := by decide +kernel
theorem dX5_below_5 : decode cX5_below 5 = .ok (.ifCond .eq 5, 3) := by decide +kernel
theorem dX5_below_8 : decode cX5_below 8 = .ok (.iconst (-1), 1) := by decide +kernel
theorem dX5_below_9 : decode cX5_below 9 = .ok (.ireturn, 1) := by decide +kernel
theorem dX5_below_10 : decode cX5_below 10 = .ok (.iload_n 2, 1) := by decide +kernel
theorem dX5_below_11 : decode cX5_below 11 = .ok (.iconst 0, 1) := by decide +kernel
theorem dX5_below_12 : decode cX5_below 12 = .ok (.ldc 125, 2) := by decide +kernel
theorem dX5_below_14 : decode cX5_below 14 = .ok (.invokestatic 48, 3) := by decide +kernel
theorem dX5_below_17 : decode cX5_below 17 = .ok (.ifCond .ne 6, 3) := by decide +kernel
theorem dX5_below_20 : decode cX5_below 20 = .ok (.bipush (-2), 2) := by decide +kernel
theorem dX5_below_22 : decode cX5_below 22 = .ok (.ireturn, 1) := by decide +kernel
theorem dX5_below_23 : decode cX5_below 23 = .ok (.aload_n 0, 1) := by decide +kernel
theorem dX5_below_24 : decode cX5_below 24 = .ok (.getfield 11, 3) := by decide +kernel
theorem dX5_below_27 : decode cX5_below 27 = .ok (.iload_n 1, 1) := by decide +kernel
theorem dX5_below_28 : decode cX5_below 28 = .ok (.aaload, 1) := by decide +kernel
theorem dX5_below_29 : decode cX5_below 29 = .ok (.iload_n 2, 1) := by decide +kernel
theorem dX5_below_30 : decode cX5_below 30 = .ok (.invokevirtual 104, 3) := by decide +kernel
theorem dX5_below_33 : decode cX5_below 33 = .ok (.ireturn, 1) := by decide +kernel
theorem dX5_alike_0 : decode cX5_alike 0 = .ok (.aload_n 0, 1) := by decide +kernel
theorem dX5_alike_1 : decode cX5_alike 1 = .ok (.iload_n 1, 1) := by decide +kernel
theorem dX5_alike_2 : decode cX5_alike 2 = .ok (.invokevirtual 44, 3) := by decide +kernel
theorem dX5_alike_5 : decode cX5_alike 5 = .ok (.ifCond .ne 11, 3) := by decide +kernel
theorem dX5_alike_8 : decode cX5_alike 8 = .ok (.aload_n 0, 1) := by decide +kernel
theorem dX5_alike_9 : decode cX5_alike 9 = .ok (.iload_n 2, 1) := by decide +kernel
theorem dX5_alike_10 : decode cX5_alike 10 = .ok (.invokevirtual 44, 3) := by decide +kernel
theorem dX5_alike_13 : decode cX5_alike 13 = .ok (.ifCond .eq 5, 3) := by decide +kernel
theorem dX5_alike_16 : decode cX5_alike 16 = .ok (.iconst (-1), 1) := by decide +kernel
theorem dX5_alike_17 : decode cX5_alike 17 = .ok (.ireturn, 1) := by decide +kernel
theorem dX5_alike_18 : decode cX5_alike 18 = .ok (.aload_n 0, 1) := by decide +kernel
theorem dX5_alike_19 : decode cX5_alike 19 = .ok (.getfield 11, 3) := by decide +kernel
theorem dX5_alike_22 : decode cX5_alike 22 = .ok (.iload_n 1, 1) := by decide +kernel
theorem dX5_alike_23 : decode cX5_alike 23 = .ok (.aaload, 1) := by decide +kernel
theorem dX5_alike_24 : decode cX5_alike 24 = .ok (.astore 4, 2) := by decide +kernel
theorem dX5_alike_26 : decode cX5_alike 26 = .ok (.aload_n 0, 1) := by decide +kernel
theorem dX5_alike_27 : decode cX5_alike 27 = .ok (.getfield 11, 3) := by decide +kernel
theorem dX5_alike_30 : decode cX5_alike 30 = .ok (.iload_n 2, 1) := by decide +kernel
theorem dX5_alike_31 : decode cX5_alike 31 = .ok (.aaload, 1) := by decide +kernel
theorem dX5_alike_32 : decode cX5_alike 32 = .ok (.astore 5, 2) := by decide +kernel
theorem dX5_alike_34 : decode cX5_alike 34 = .ok (.iload_n 3, 1) := by decide +kernel
theorem dX5_alike_35 : decode cX5_alike 35 = .ok (.tableswitch 106 0 4 #[33, 44, 66, 88, 97], 33) := by decide +kernel
theorem dX5_alike_68 : decode cX5_alike 68 = .ok (.aload 4, 2) := by decide +kernel
theorem dX5_alike_70 : decode cX5_alike 70 = .ok (.aload 5, 2) := by decide +kernel
theorem dX5_alike_72 : decode cX5_alike 72 = .ok (.invokevirtual 132, 3) := by decide +kernel
theorem dX5_alike_75 : decode cX5_alike 75 = .ok (.invokestatic 114, 3) := by decide +kernel
theorem dX5_alike_78 : decode cX5_alike 78 = .ok (.ireturn, 1) := by decide +kernel
theorem dX5_alike_79 : decode cX5_alike 79 = .ok (.aload 4, 2) := by decide +kernel
theorem dX5_alike_81 : decode cX5_alike 81 = .ok (.aload 5, 2) := by decide +kernel
theorem dX5_alike_83 : decode cX5_alike 83 = .ok (.iconst 2, 1) := by decide +kernel
theorem dX5_alike_84 : decode cX5_alike 84 = .ok (.invokestatic 136, 3) := by decide +kernel
theorem dX5_alike_87 : decode cX5_alike 87 = .ok (.bipush (-6), 2) := by decide +kernel
theorem dX5_alike_89 : decode cX5_alike 89 = .ok (.if_icmp .ne 7, 3) := by decide +kernel
theorem dX5_alike_92 : decode cX5_alike 92 = .ok (.iconst 1, 1) := by decide +kernel
theorem dX5_alike_93 : decode cX5_alike 93 = .ok (.goto 4, 3) := by decide +kernel
theorem dX5_alike_96 : decode cX5_alike 96 = .ok (.iconst 0, 1) := by decide +kernel
theorem dX5_alike_97 : decode cX5_alike 97 = .ok (.invokestatic 114, 3) := by decide +kernel
theorem dX5_alike_100 : decode cX5_alike 100 = .ok (.ireturn, 1) := by decide +kernel
theorem dX5_alike_101 : decode cX5_alike 101 = .ok (.aload 4, 2) := by decide +kernel
theorem dX5_alike_103 : decode cX5_alike 103 = .ok (.aload 5, 2) := by decide +kernel
theorem dX5_alike_105 : decode cX5_alike 105 = .ok (.iconst 1, 1) := by decide +kernel
theorem dX5_alike_106 : decode cX5_alike 106 = .ok (.invokestatic 136, 3) := by decide +kernel
theorem dX5_alike_109 : decode cX5_alike 109 = .ok (.bipush (-6), 2) := by decide +kernel
theorem dX5_alike_111 : decode cX5_alike 111 = .ok (.if_icmp .ne 7, 3) := by decide +kernel
theorem dX5_alike_114 : decode cX5_alike 114 = .ok (.iconst 1, 1) := by decide +kernel
theorem dX5_alike_115 : decode cX5_alike 115 = .ok (.goto 4, 3) := by decide +kernel
theorem dX5_alike_118 : decode cX5_alike 118 = .ok (.iconst 0, 1) := by decide +kernel
theorem dX5_alike_119 : decode cX5_alike 119 = .ok (.invokestatic 114, 3) := by decide +kernel
theorem dX5_alike_122 : decode cX5_alike 122 = .ok (.ireturn, 1) := by decide +kernel
theorem dX5_alike_123 : decode cX5_alike 123 = .ok (.aload 4, 2) := by decide +kernel
theorem dX5_alike_125 : decode cX5_alike 125 = .ok (.aload 5, 2) := by decide +kernel
theorem dX5_alike_127 : decode cX5_alike 127 = .ok (.iconst 3, 1) := by decide +kernel
theorem dX5_alike_128 : decode cX5_alike 128 = .ok (.invokestatic 136, 3) := by decide +kernel
theorem dX5_alike_131 : decode cX5_alike 131 = .ok (.ireturn, 1) := by decide +kernel
theorem dX5_alike_132 : decode cX5_alike 132 = .ok (.aload 4, 2) := by decide +kernel
theorem dX5_alike_134 : decode cX5_alike 134 = .ok (.aload 5, 2) := by decide +kernel
theorem dX5_alike_136 : decode cX5_alike 136 = .ok (.iconst 1, 1) := by decide +kernel
theorem dX5_alike_137 : decode cX5_alike 137 = .ok (.invokestatic 136, 3) := by decide +kernel
theorem dX5_alike_140 : decode cX5_alike 140 = .ok (.ireturn, 1) := by decide +kernel
theorem dX5_alike_141 : decode cX5_alike 141 = .ok (.bipush (-2), 2) := by decide +kernel
theorem dX5_alike_143 : decode cX5_alike 143 = .ok (.ireturn, 1) := by decide +kernel
theorem dX5_image_0 : decode cX5_image 0 = .ok (.aload_n 0, 1) := by decide +kernel
theorem dX5_image_1 : decode cX5_image 1 = .ok (.iload_n 1, 1) := by decide +kernel
theorem dX5_image_2 : decode cX5_image 2 = .ok (.invokevirtual 140, 3) := by decide +kernel
theorem dX5_image_5 : decode cX5_image 5 = .ok (.ifCond .eq 6, 3) := by decide +kernel
theorem dX5_image_8 : decode cX5_image 8 = .ok (.bipush (-2), 2) := by decide +kernel
theorem dX5_image_10 : decode cX5_image 10 = .ok (.ireturn, 1) := by decide +kernel
theorem dX5_image_11 : decode cX5_image 11 = .ok (.aload_n 0, 1) := by decide +kernel
theorem dX5_image_12 : decode cX5_image 12 = .ok (.getfield 17, 3) := by decide +kernel
theorem dX5_image_15 : decode cX5_image 15 = .ok (.iload_n 1, 1) := by decide +kernel
theorem dX5_image_16 : decode cX5_image 16 = .ok (.aaload, 1) := by decide +kernel
theorem dX5_image_17 : decode cX5_image 17 = .ok (.aload_n 0, 1) := by decide +kernel
theorem dX5_image_18 : decode cX5_image 18 = .ok (.getfield 11, 3) := by decide +kernel
theorem dX5_image_21 : decode cX5_image 21 = .ok (.aload_n 0, 1) := by decide +kernel
theorem dX5_image_22 : decode cX5_image 22 = .ok (.getfield 40, 3) := by decide +kernel
theorem dX5_image_25 : decode cX5_image 25 = .ok (.invokevirtual 143, 3) := by decide +kernel
theorem dX5_image_28 : decode cX5_image 28 = .ok (.iconst 1, 1) := by decide +kernel
theorem dX5_image_29 : decode cX5_image 29 = .ok (.ireturn, 1) := by decide +kernel
theorem dX5_restore_0 : decode cX5_restore 0 = .ok (.aload_n 0, 1) := by decide +kernel
theorem dX5_restore_1 : decode cX5_restore 1 = .ok (.iload_n 1, 1) := by decide +kernel
theorem dX5_restore_2 : decode cX5_restore 2 = .ok (.invokevirtual 140, 3) := by decide +kernel
theorem dX5_restore_5 : decode cX5_restore 5 = .ok (.ifCond .eq 6, 3) := by decide +kernel
theorem dX5_restore_8 : decode cX5_restore 8 = .ok (.bipush (-2), 2) := by decide +kernel
theorem dX5_restore_10 : decode cX5_restore 10 = .ok (.ireturn, 1) := by decide +kernel
theorem dX5_restore_11 : decode cX5_restore 11 = .ok (.aload_n 0, 1) := by decide +kernel
theorem dX5_restore_12 : decode cX5_restore 12 = .ok (.getfield 17, 3) := by decide +kernel
theorem dX5_restore_15 : decode cX5_restore 15 = .ok (.iload_n 1, 1) := by decide +kernel
theorem dX5_restore_16 : decode cX5_restore 16 = .ok (.aaload, 1) := by decide +kernel
theorem dX5_restore_17 : decode cX5_restore 17 = .ok (.getfield 147, 3) := by decide +kernel
theorem dX5_restore_20 : decode cX5_restore 20 = .ok (.ifCond .ne 6, 3) := by decide +kernel
theorem dX5_restore_23 : decode cX5_restore 23 = .ok (.bipush (-3), 2) := by decide +kernel
theorem dX5_restore_25 : decode cX5_restore 25 = .ok (.ireturn, 1) := by decide +kernel
theorem dX5_restore_26 : decode cX5_restore 26 = .ok (.aload_n 0, 1) := by decide +kernel
theorem dX5_restore_27 : decode cX5_restore 27 = .ok (.aload_n 0, 1) := by decide +kernel
theorem dX5_restore_28 : decode cX5_restore 28 = .ok (.getfield 17, 3) := by decide +kernel
theorem dX5_restore_31 : decode cX5_restore 31 = .ok (.iload_n 1, 1) := by decide +kernel
theorem dX5_restore_32 : decode cX5_restore 32 = .ok (.aaload, 1) := by decide +kernel
theorem dX5_restore_33 : decode cX5_restore 33 = .ok (.aload_n 0, 1) := by decide +kernel
theorem dX5_restore_34 : decode cX5_restore 34 = .ok (.getfield 11, 3) := by decide +kernel
theorem dX5_restore_37 : decode cX5_restore 37 = .ok (.invokevirtual 151, 3) := by decide +kernel
theorem dX5_restore_40 : decode cX5_restore 40 = .ok (.putfield 40, 3) := by decide +kernel
theorem dX5_restore_43 : decode cX5_restore 43 = .ok (.iconst 1, 1) := by decide +kernel
theorem dX5_restore_44 : decode cX5_restore 44 = .ok (.ireturn, 1) := by decide +kernel
theorem dX5_count_0 : decode cX5_count 0 = .ok (.iload_n 1, 1) := by decide +kernel
theorem dX5_count_1 : decode cX5_count 1 = .ok (.tableswitch 60 0 4 #[35, 40, 45, 50, 55], 35) := by decide +kernel
theorem dX5_count_36 : decode cX5_count 36 = .ok (.aload_n 0, 1) := by decide +kernel
theorem dX5_count_37 : decode cX5_count 37 = .ok (.invokevirtual 155, 3) := by decide +kernel
theorem dX5_count_40 : decode cX5_count 40 = .ok (.ireturn, 1) := by decide +kernel
theorem dX5_count_41 : decode cX5_count 41 = .ok (.aload_n 0, 1) := by decide +kernel
theorem dX5_count_42 : decode cX5_count 42 = .ok (.invokevirtual 159, 3) := by decide +kernel
theorem dX5_count_45 : decode cX5_count 45 = .ok (.ireturn, 1) := by decide +kernel
theorem dX5_count_46 : decode cX5_count 46 = .ok (.aload_n 0, 1) := by decide +kernel
theorem dX5_count_47 : decode cX5_count 47 = .ok (.getfield 40, 3) := by decide +kernel
theorem dX5_count_50 : decode cX5_count 50 = .ok (.ireturn, 1) := by decide +kernel
theorem dX5_count_51 : decode cX5_count 51 = .ok (.aload_n 0, 1) := by decide +kernel
theorem dX5_count_52 : decode cX5_count 52 = .ok (.invokevirtual 162, 3) := by decide +kernel
theorem dX5_count_55 : decode cX5_count 55 = .ok (.ireturn, 1) := by decide +kernel
theorem dX5_count_56 : decode cX5_count 56 = .ok (.aload_n 0, 1) := by decide +kernel
theorem dX5_count_57 : decode cX5_count 57 = .ok (.invokevirtual 165, 3) := by decide +kernel
theorem dX5_count_60 : decode cX5_count 60 = .ok (.ireturn, 1) := by decide +kernel
theorem dX5_count_61 : decode cX5_count 61 = .ok (.bipush (-2), 2) := by decide +kernel
theorem dX5_count_63 : decode cX5_count 63 = .ok (.ireturn, 1) := by decide +kernel
theorem dX5_unknown_0 : decode cX5_unknown 0 = .ok (.iload_n 1, 1) := by decide +kernel
theorem dX5_unknown_1 : decode cX5_unknown 1 = .ok (.ifCond .lt 18, 3) := by decide +kernel
theorem dX5_unknown_4 : decode cX5_unknown 4 = .ok (.iload_n 1, 1) := by decide +kernel
theorem dX5_unknown_5 : decode cX5_unknown 5 = .ok (.bipush 6, 2) := by decide +kernel
theorem dX5_unknown_7 : decode cX5_unknown 7 = .ok (.if_icmp .ge 12, 3) := by decide +kernel
theorem dX5_unknown_10 : decode cX5_unknown 10 = .ok (.aload_n 0, 1) := by decide +kernel
theorem dX5_unknown_11 : decode cX5_unknown 11 = .ok (.getfield 11, 3) := by decide +kernel
theorem dX5_unknown_14 : decode cX5_unknown 14 = .ok (.iload_n 1, 1) := by decide +kernel
theorem dX5_unknown_15 : decode cX5_unknown 15 = .ok (.aaload, 1) := by decide +kernel
theorem dX5_unknown_16 : decode cX5_unknown 16 = .ok (.ifnonnull 7, 3) := by decide +kernel
theorem dX5_unknown_19 : decode cX5_unknown 19 = .ok (.iconst 1, 1) := by decide +kernel
theorem dX5_unknown_20 : decode cX5_unknown 20 = .ok (.goto 4, 3) := by decide +kernel
theorem dX5_unknown_23 : decode cX5_unknown 23 = .ok (.iconst 0, 1) := by decide +kernel
theorem dX5_unknown_24 : decode cX5_unknown 24 = .ok (.ireturn, 1) := by decide +kernel
theorem dX5_noImage_0 : decode cX5_noImage 0 = .ok (.iload_n 1, 1) := by decide +kernel
theorem dX5_noImage_1 : decode cX5_noImage 1 = .ok (.ifCond .lt 17, 3) := by decide +kernel
theorem dX5_noImage_4 : decode cX5_noImage 4 = .ok (.iload_n 1, 1) := by decide +kernel
theorem dX5_noImage_5 : decode cX5_noImage 5 = .ok (.iconst 2, 1) := by decide +kernel
theorem dX5_noImage_6 : decode cX5_noImage 6 = .ok (.if_icmp .ge 12, 3) := by decide +kernel
theorem dX5_noImage_9 : decode cX5_noImage 9 = .ok (.aload_n 0, 1) := by decide +kernel
theorem dX5_noImage_10 : decode cX5_noImage 10 = .ok (.getfield 17, 3) := by decide +kernel
theorem dX5_noImage_13 : decode cX5_noImage 13 = .ok (.iload_n 1, 1) := by decide +kernel
theorem dX5_noImage_14 : decode cX5_noImage 14 = .ok (.aaload, 1) := by decide +kernel
theorem dX5_noImage_15 : decode cX5_noImage 15 = .ok (.ifnonnull 7, 3) := by decide +kernel
theorem dX5_noImage_18 : decode cX5_noImage 18 = .ok (.iconst 1, 1) := by decide +kernel
theorem dX5_noImage_19 : decode cX5_noImage 19 = .ok (.goto 4, 3) := by decide +kernel
theorem dX5_noImage_22 : decode cX5_noImage 22 = .ok (.iconst 0, 1) := by decide +kernel
theorem dX5_noImage_23 : decode cX5_noImage 23 = .ok (.ireturn, 1) := by decide +kernel
theorem dX5_within_0 : decode cX5_within 0 = .ok (.iload_n 1, 1) := by decide +kernel
theorem dX5_within_1 : decode cX5_within 1 = .ok (.iload_n 0, 1) := by decide +kernel
theorem dX5_within_2 : decode cX5_within 2 = .ok (.if_icmp .gt 12, 3) := by decide +kernel
theorem dX5_within_5 : decode cX5_within 5 = .ok (.iload_n 0, 1) := by decide +kernel
theorem dX5_within_6 : decode cX5_within 6 = .ok (.iload_n 2, 1) := by decide +kernel
theorem dX5_within_7 : decode cX5_within 7 = .ok (.if_icmp .gt 7, 3) := by decide +kernel
theorem dX5_within_10 : decode cX5_within 10 = .ok (.iconst 1, 1) := by decide +kernel
theorem dX5_within_11 : decode cX5_within 11 = .ok (.goto 4, 3) := by decide +kernel
theorem dX5_within_14 : decode cX5_within 14 = .ok (.iconst 0, 1) := by decide +kernel
theorem dX5_within_15 : decode cX5_within 15 = .ok (.ireturn, 1) := by decide +kernel
theorem dX5_truth_0 : decode cX5_truth 0 = .ok (.iload_n 0, 1) := by decide +kernel
theorem dX5_truth_1 : decode cX5_truth 1 = .ok (.ifCond .eq 7, 3) := by decide +kernel
theorem dX5_truth_4 : decode cX5_truth 4 = .ok (.iconst 1, 1) := by decide +kernel
theorem dX5_truth_5 : decode cX5_truth 5 = .ok (.goto 4, 3) := by decide +kernel
theorem dX5_truth_8 : decode cX5_truth 8 = .ok (.iconst 0, 1) := by decide +kernel
theorem dX5_truth_9 : decode cX5_truth 9 = .ok (.ireturn, 1) := by decide +kernel
theorem dX5_emptyAll_0 : decode cX5_emptyAll 0 = .ok (.aload_n 0, 1) := by decide +kernel
theorem dX5_emptyAll_1 : decode cX5_emptyAll 1 = .ok (.iload_n 1, 1) := by decide +kernel
theorem dX5_emptyAll_2 : decode cX5_emptyAll 2 = .ok (.putfield 40, 3) := by decide +kernel
theorem dX5_emptyAll_5 : decode cX5_emptyAll 5 = .ok (.aload_n 0, 1) := by decide +kernel
theorem dX5_emptyAll_6 : decode cX5_emptyAll 6 = .ok (.getfield 24, 3) := by decide +kernel
theorem dX5_emptyAll_9 : decode cX5_emptyAll 9 = .ok (.iconst 0, 1) := by decide +kernel
theorem dX5_emptyAll_10 : decode cX5_emptyAll 10 = .ok (.iconst 1, 1) := by decide +kernel
theorem dX5_emptyAll_11 : decode cX5_emptyAll 11 = .ok (.invokevirtual 168, 3) := by decide +kernel
theorem dX5_emptyAll_14 : decode cX5_emptyAll 14 = .ok (.aload_n 0, 1) := by decide +kernel
theorem dX5_emptyAll_15 : decode cX5_emptyAll 15 = .ok (.invokevirtual 172, 3) := by decide +kernel
theorem dX5_emptyAll_18 : decode cX5_emptyAll 18 = .ok (.astore_n 2, 1) := by decide +kernel
theorem dX5_emptyAll_19 : decode cX5_emptyAll 19 = .ok (.iconst 0, 1) := by decide +kernel
theorem dX5_emptyAll_20 : decode cX5_emptyAll 20 = .ok (.istore_n 3, 1) := by decide +kernel
theorem dX5_emptyAll_21 : decode cX5_emptyAll 21 = .ok (.iload_n 3, 1) := by decide +kernel
theorem dX5_emptyAll_22 : decode cX5_emptyAll 22 = .ok (.bipush 6, 2) := by decide +kernel
theorem dX5_emptyAll_24 : decode cX5_emptyAll 24 = .ok (.if_icmp .ge 16, 3) := by decide +kernel
theorem dX5_emptyAll_27 : decode cX5_emptyAll 27 = .ok (.aload_n 0, 1) := by decide +kernel
theorem dX5_emptyAll_28 : decode cX5_emptyAll 28 = .ok (.getfield 11, 3) := by decide +kernel
theorem dX5_emptyAll_31 : decode cX5_emptyAll 31 = .ok (.iload_n 3, 1) := by decide +kernel
theorem dX5_emptyAll_32 : decode cX5_emptyAll 32 = .ok (.aload_n 2, 1) := by decide +kernel
theorem dX5_emptyAll_33 : decode cX5_emptyAll 33 = .ok (.aastore, 1) := by decide +kernel
theorem dX5_emptyAll_34 : decode cX5_emptyAll 34 = .ok (.iinc 3 1, 3) := by decide +kernel
theorem dX5_emptyAll_37 : decode cX5_emptyAll 37 = .ok (.goto (-16), 3) := by decide +kernel
theorem dX5_emptyAll_40 : decode cX5_emptyAll 40 = .ok (.return_, 1) := by decide +kernel
theorem dX5_hold_0 : decode cX5_hold 0 = .ok (.aload_n 0, 1) := by decide +kernel
theorem dX5_hold_1 : decode cX5_hold 1 = .ok (.invokevirtual 172, 3) := by decide +kernel
theorem dX5_hold_4 : decode cX5_hold 4 = .ok (.astore_n 2, 1) := by decide +kernel
theorem dX5_hold_5 : decode cX5_hold 5 = .ok (.aload_n 2, 1) := by decide +kernel
theorem dX5_hold_6 : decode cX5_hold 6 = .ok (.ifnonnull 6, 3) := by decide +kernel
theorem dX5_hold_9 : decode cX5_hold 9 = .ok (.bipush (-4), 2) := by decide +kernel
theorem dX5_hold_11 : decode cX5_hold 11 = .ok (.ireturn, 1) := by decide +kernel
theorem dX5_hold_12 : decode cX5_hold 12 = .ok (.aload_n 0, 1) := by decide +kernel
theorem dX5_hold_13 : decode cX5_hold 13 = .ok (.getfield 11, 3) := by decide +kernel
theorem dX5_hold_16 : decode cX5_hold 16 = .ok (.iload_n 1, 1) := by decide +kernel
theorem dX5_hold_17 : decode cX5_hold 17 = .ok (.aload_n 2, 1) := by decide +kernel
theorem dX5_hold_18 : decode cX5_hold 18 = .ok (.aastore, 1) := by decide +kernel
theorem dX5_hold_19 : decode cX5_hold 19 = .ok (.aload_n 2, 1) := by decide +kernel
theorem dX5_hold_20 : decode cX5_hold 20 = .ok (.getfield 85, 3) := by decide +kernel
theorem dX5_hold_23 : decode cX5_hold 23 = .ok (.getfield 89, 3) := by decide +kernel
theorem dX5_hold_26 : decode cX5_hold 26 = .ok (.ireturn, 1) := by decide +kernel
theorem dX5_drafted_0 : decode cX5_drafted 0 = .ok (.aload_n 0, 1) := by decide +kernel
theorem dX5_drafted_1 : decode cX5_drafted 1 = .ok (.getfield 24, 3) := by decide +kernel
theorem dX5_drafted_4 : decode cX5_drafted 4 = .ok (.invokevirtual 176, 3) := by decide +kernel
theorem dX5_drafted_7 : decode cX5_drafted 7 = .ok (.ifCond .eq 21, 3) := by decide +kernel
theorem dX5_drafted_10 : decode cX5_drafted 10 = .ok (.aload_n 0, 1) := by decide +kernel
theorem dX5_drafted_11 : decode cX5_drafted 11 = .ok (.getfield 31, 3) := by decide +kernel
theorem dX5_drafted_14 : decode cX5_drafted 14 = .ok (.aload_n 0, 1) := by decide +kernel
theorem dX5_drafted_15 : decode cX5_drafted 15 = .ok (.getfield 24, 3) := by decide +kernel
theorem dX5_drafted_18 : decode cX5_drafted 18 = .ok (.aload_n 0, 1) := by decide +kernel
theorem dX5_drafted_19 : decode cX5_drafted 19 = .ok (.getfield 40, 3) := by decide +kernel
theorem dX5_drafted_22 : decode cX5_drafted 22 = .ok (.invokevirtual 180, 3) := by decide +kernel
theorem dX5_drafted_25 : decode cX5_drafted 25 = .ok (.ifCond .ne 5, 3) := by decide +kernel
theorem dX5_drafted_28 : decode cX5_drafted 28 = .ok (.aconst_null, 1) := by decide +kernel
theorem dX5_drafted_29 : decode cX5_drafted 29 = .ok (.areturn, 1) := by decide +kernel
theorem dX5_drafted_30 : decode cX5_drafted 30 = .ok (.new 9, 3) := by decide +kernel
theorem dX5_drafted_33 : decode cX5_drafted 33 = .ok (.dup, 1) := by decide +kernel
theorem dX5_drafted_34 : decode cX5_drafted 34 = .ok (.aload_n 0, 1) := by decide +kernel
theorem dX5_drafted_35 : decode cX5_drafted 35 = .ok (.getfield 24, 3) := by decide +kernel
theorem dX5_drafted_38 : decode cX5_drafted 38 = .ok (.aload_n 0, 1) := by decide +kernel
theorem dX5_drafted_39 : decode cX5_drafted 39 = .ok (.getfield 31, 3) := by decide +kernel
theorem dX5_drafted_42 : decode cX5_drafted 42 = .ok (.invokevirtual 184, 3) := by decide +kernel
theorem dX5_drafted_45 : decode cX5_drafted 45 = .ok (.invokespecial 187, 3) := by decide +kernel
theorem dX5_drafted_48 : decode cX5_drafted 48 = .ok (.areturn, 1) := by decide +kernel
theorem dX5_draftKind_0 : decode cX5_draftKind 0 = .ok (.iload_n 1, 1) := by decide +kernel
theorem dX5_draftKind_1 : decode cX5_draftKind 1 = .ok (.ifCond .ne 25, 3) := by decide +kernel
theorem dX5_draftKind_4 : decode cX5_draftKind 4 = .ok (.aload_n 0, 1) := by decide +kernel
theorem dX5_draftKind_5 : decode cX5_draftKind 5 = .ok (.getfield 24, 3) := by decide +kernel
theorem dX5_draftKind_8 : decode cX5_draftKind 8 = .ok (.iload_n 2, 1) := by decide +kernel
theorem dX5_draftKind_9 : decode cX5_draftKind 9 = .ok (.iconst 1, 1) := by decide +kernel
theorem dX5_draftKind_10 : decode cX5_draftKind 10 = .ok (.iadd, 1) := by decide +kernel
theorem dX5_draftKind_11 : decode cX5_draftKind 11 = .ok (.iconst 1, 1) := by decide +kernel
theorem dX5_draftKind_12 : decode cX5_draftKind 12 = .ok (.invokevirtual 168, 3) := by decide +kernel
theorem dX5_draftKind_15 : decode cX5_draftKind 15 = .ok (.aload_n 0, 1) := by decide +kernel
theorem dX5_draftKind_16 : decode cX5_draftKind 16 = .ok (.getfield 24, 3) := by decide +kernel
theorem dX5_draftKind_19 : decode cX5_draftKind 19 = .ok (.iload_n 2, 1) := by decide +kernel
theorem dX5_draftKind_20 : decode cX5_draftKind 20 = .ok (.invokevirtual 190, 3) := by decide +kernel
theorem dX5_draftKind_23 : decode cX5_draftKind 23 = .ok (.goto 81, 3) := by decide +kernel
theorem dX5_draftKind_26 : decode cX5_draftKind 26 = .ok (.iload_n 1, 1) := by decide +kernel
theorem dX5_draftKind_27 : decode cX5_draftKind 27 = .ok (.iconst 1, 1) := by decide +kernel
theorem dX5_draftKind_28 : decode cX5_draftKind 28 = .ok (.if_icmp .ne 23, 3) := by decide +kernel
theorem dX5_draftKind_31 : decode cX5_draftKind 31 = .ok (.aload_n 0, 1) := by decide +kernel
theorem dX5_draftKind_32 : decode cX5_draftKind 32 = .ok (.getfield 24, 3) := by decide +kernel
theorem dX5_draftKind_35 : decode cX5_draftKind 35 = .ok (.iload_n 2, 1) := by decide +kernel
theorem dX5_draftKind_36 : decode cX5_draftKind 36 = .ok (.iconst 1, 1) := by decide +kernel
theorem dX5_draftKind_37 : decode cX5_draftKind 37 = .ok (.invokevirtual 168, 3) := by decide +kernel
theorem dX5_draftKind_40 : decode cX5_draftKind 40 = .ok (.aload_n 0, 1) := by decide +kernel
theorem dX5_draftKind_41 : decode cX5_draftKind 41 = .ok (.getfield 24, 3) := by decide +kernel
theorem dX5_draftKind_44 : decode cX5_draftKind 44 = .ok (.iload_n 2, 1) := by decide +kernel
theorem dX5_draftKind_45 : decode cX5_draftKind 45 = .ok (.invokevirtual 190, 3) := by decide +kernel
theorem dX5_draftKind_48 : decode cX5_draftKind 48 = .ok (.goto 56, 3) := by decide +kernel
theorem dX5_draftKind_51 : decode cX5_draftKind 51 = .ok (.iload_n 1, 1) := by decide +kernel
theorem dX5_draftKind_52 : decode cX5_draftKind 52 = .ok (.iconst 2, 1) := by decide +kernel
theorem dX5_draftKind_53 : decode cX5_draftKind 53 = .ok (.if_icmp .ne 29, 3) := by decide +kernel
theorem dX5_draftKind_56 : decode cX5_draftKind 56 = .ok (.iload_n 3, 1) := by decide +kernel
theorem dX5_draftKind_57 : decode cX5_draftKind 57 = .ok (.ifCond .le 25, 3) := by decide +kernel
theorem dX5_draftKind_60 : decode cX5_draftKind 60 = .ok (.aload_n 0, 1) := by decide +kernel
theorem dX5_draftKind_61 : decode cX5_draftKind 61 = .ok (.getfield 24, 3) := by decide +kernel
theorem dX5_draftKind_64 : decode cX5_draftKind 64 = .ok (.iconst 0, 1) := by decide +kernel
theorem dX5_draftKind_65 : decode cX5_draftKind 65 = .ok (.iload_n 3, 1) := by decide +kernel
theorem dX5_draftKind_66 : decode cX5_draftKind 66 = .ok (.invokevirtual 168, 3) := by decide +kernel
theorem dX5_draftKind_69 : decode cX5_draftKind 69 = .ok (.aload_n 0, 1) := by decide +kernel
theorem dX5_draftKind_70 : decode cX5_draftKind 70 = .ok (.getfield 24, 3) := by decide +kernel
theorem dX5_draftKind_73 : decode cX5_draftKind 73 = .ok (.iload_n 2, 1) := by decide +kernel
theorem dX5_draftKind_74 : decode cX5_draftKind 74 = .ok (.iload_n 3, 1) := by decide +kernel
theorem dX5_draftKind_75 : decode cX5_draftKind 75 = .ok (.irem, 1) := by decide +kernel
theorem dX5_draftKind_76 : decode cX5_draftKind 76 = .ok (.invokevirtual 190, 3) := by decide +kernel
theorem dX5_draftKind_79 : decode cX5_draftKind 79 = .ok (.goto 25, 3) := by decide +kernel
theorem dX5_draftKind_82 : decode cX5_draftKind 82 = .ok (.aload_n 0, 1) := by decide +kernel
theorem dX5_draftKind_83 : decode cX5_draftKind 83 = .ok (.getfield 24, 3) := by decide +kernel
theorem dX5_draftKind_86 : decode cX5_draftKind 86 = .ok (.iconst 0, 1) := by decide +kernel
theorem dX5_draftKind_87 : decode cX5_draftKind 87 = .ok (.iconst 1, 1) := by decide +kernel
theorem dX5_draftKind_88 : decode cX5_draftKind 88 = .ok (.invokevirtual 168, 3) := by decide +kernel
theorem dX5_draftKind_91 : decode cX5_draftKind 91 = .ok (.iload_n 1, 1) := by decide +kernel
theorem dX5_draftKind_92 : decode cX5_draftKind 92 = .ok (.iconst 4, 1) := by decide +kernel
theorem dX5_draftKind_93 : decode cX5_draftKind 93 = .ok (.if_icmp .ne 11, 3) := by decide +kernel
theorem dX5_draftKind_96 : decode cX5_draftKind 96 = .ok (.aload_n 0, 1) := by decide +kernel
theorem dX5_draftKind_97 : decode cX5_draftKind 97 = .ok (.getfield 24, 3) := by decide +kernel
theorem dX5_draftKind_100 : decode cX5_draftKind 100 = .ok (.iconst 0, 1) := by decide +kernel
theorem dX5_draftKind_101 : decode cX5_draftKind 101 = .ok (.invokevirtual 190, 3) := by decide +kernel
theorem dX5_draftKind_104 : decode cX5_draftKind 104 = .ok (.return_, 1) := by decide +kernel
theorem dX5_draftJoin_0 : decode cX5_draftJoin 0 = .ok (.aload_n 0, 1) := by decide +kernel
theorem dX5_draftJoin_1 : decode cX5_draftJoin 1 = .ok (.getfield 24, 3) := by decide +kernel
theorem dX5_draftJoin_4 : decode cX5_draftJoin 4 = .ok (.aload_n 1, 1) := by decide +kernel
theorem dX5_draftJoin_5 : decode cX5_draftJoin 5 = .ok (.getfield 79, 3) := by decide +kernel
theorem dX5_draftJoin_8 : decode cX5_draftJoin 8 = .ok (.aload_n 2, 1) := by decide +kernel
