theorem dX5_draftJoin_9 : decode cX5_draftJoin 9 = .ok (.getfield 79, 3) := by decide +kernel
theorem dX5_draftJoin_12 : decode cX5_draftJoin 12 = .ok (.invokestatic 193, 3) := by decide +kernel
theorem dX5_draftJoin_15 : decode cX5_draftJoin 15 = .ok (.aload_n 1, 1) := by decide +kernel
theorem dX5_draftJoin_16 : decode cX5_draftJoin 16 = .ok (.getfield 82, 3) := by decide +kernel
theorem dX5_draftJoin_19 : decode cX5_draftJoin 19 = .ok (.aload_n 2, 1) := by decide +kernel
theorem dX5_draftJoin_20 : decode cX5_draftJoin 20 = .ok (.getfield 82, 3) := by decide +kernel
theorem dX5_draftJoin_23 : decode cX5_draftJoin 23 = .ok (.invokestatic 198, 3) := by decide +kernel
theorem dX5_draftJoin_26 : decode cX5_draftJoin 26 = .ok (.invokevirtual 168, 3) := by decide +kernel
theorem dX5_draftJoin_29 : decode cX5_draftJoin 29 = .ok (.iconst 0, 1) := by decide +kernel
theorem dX5_draftJoin_30 : decode cX5_draftJoin 30 = .ok (.istore 4, 2) := by decide +kernel
theorem dX5_draftJoin_32 : decode cX5_draftJoin 32 = .ok (.iconst 0, 1) := by decide +kernel
theorem dX5_draftJoin_33 : decode cX5_draftJoin 33 = .ok (.istore 5, 2) := by decide +kernel
theorem dX5_draftJoin_35 : decode cX5_draftJoin 35 = .ok (.iconst 0, 1) := by decide +kernel
theorem dX5_draftJoin_36 : decode cX5_draftJoin 36 = .ok (.istore 6, 2) := by decide +kernel
theorem dX5_draftJoin_38 : decode cX5_draftJoin 38 = .ok (.iload 6, 2) := by decide +kernel
theorem dX5_draftJoin_40 : decode cX5_draftJoin 40 = .ok (.aload_n 0, 1) := by decide +kernel
theorem dX5_draftJoin_41 : decode cX5_draftJoin 41 = .ok (.getfield 24, 3) := by decide +kernel
theorem dX5_draftJoin_44 : decode cX5_draftJoin 44 = .ok (.invokevirtual 201, 3) := by decide +kernel
theorem dX5_draftJoin_47 : decode cX5_draftJoin 47 = .ok (.if_icmp .ge 53, 3) := by decide +kernel
theorem dX5_draftJoin_50 : decode cX5_draftJoin 50 = .ok (.aload_n 1, 1) := by decide +kernel
theorem dX5_draftJoin_51 : decode cX5_draftJoin 51 = .ok (.iload 4, 2) := by decide +kernel
theorem dX5_draftJoin_53 : decode cX5_draftJoin 53 = .ok (.invokevirtual 204, 3) := by decide +kernel
theorem dX5_draftJoin_56 : decode cX5_draftJoin 56 = .ok (.aload_n 2, 1) := by decide +kernel
theorem dX5_draftJoin_57 : decode cX5_draftJoin 57 = .ok (.iload 5, 2) := by decide +kernel
theorem dX5_draftJoin_59 : decode cX5_draftJoin 59 = .ok (.invokevirtual 204, 3) := by decide +kernel
theorem dX5_draftJoin_62 : decode cX5_draftJoin 62 = .ok (.iload_n 3, 1) := by decide +kernel
theorem dX5_draftJoin_63 : decode cX5_draftJoin 63 = .ok (.invokestatic 207, 3) := by decide +kernel
theorem dX5_draftJoin_66 : decode cX5_draftJoin 66 = .ok (.ifCond .eq 12, 3) := by decide +kernel
theorem dX5_draftJoin_69 : decode cX5_draftJoin 69 = .ok (.aload_n 0, 1) := by decide +kernel
theorem dX5_draftJoin_70 : decode cX5_draftJoin 70 = .ok (.getfield 24, 3) := by decide +kernel
theorem dX5_draftJoin_73 : decode cX5_draftJoin 73 = .ok (.iload 6, 2) := by decide +kernel
theorem dX5_draftJoin_75 : decode cX5_draftJoin 75 = .ok (.invokevirtual 190, 3) := by decide +kernel
theorem dX5_draftJoin_78 : decode cX5_draftJoin 78 = .ok (.aload_n 1, 1) := by decide +kernel
theorem dX5_draftJoin_79 : decode cX5_draftJoin 79 = .ok (.iload 4, 2) := by decide +kernel
theorem dX5_draftJoin_81 : decode cX5_draftJoin 81 = .ok (.invokevirtual 211, 3) := by decide +kernel
theorem dX5_draftJoin_84 : decode cX5_draftJoin 84 = .ok (.istore 4, 2) := by decide +kernel
theorem dX5_draftJoin_86 : decode cX5_draftJoin 86 = .ok (.aload_n 2, 1) := by decide +kernel
theorem dX5_draftJoin_87 : decode cX5_draftJoin 87 = .ok (.iload 5, 2) := by decide +kernel
theorem dX5_draftJoin_89 : decode cX5_draftJoin 89 = .ok (.invokevirtual 211, 3) := by decide +kernel
theorem dX5_draftJoin_92 : decode cX5_draftJoin 92 = .ok (.istore 5, 2) := by decide +kernel
theorem dX5_draftJoin_94 : decode cX5_draftJoin 94 = .ok (.iinc 6 1, 3) := by decide +kernel
theorem dX5_draftJoin_97 : decode cX5_draftJoin 97 = .ok (.goto (-59), 3) := by decide +kernel
theorem dX5_draftJoin_100 : decode cX5_draftJoin 100 = .ok (.return_, 1) := by decide +kernel
theorem dX5_draftTurn_0 : decode cX5_draftTurn 0 = .ok (.aload_n 0, 1) := by decide +kernel
theorem dX5_draftTurn_1 : decode cX5_draftTurn 1 = .ok (.getfield 24, 3) := by decide +kernel
theorem dX5_draftTurn_4 : decode cX5_draftTurn 4 = .ok (.aload_n 1, 1) := by decide +kernel
theorem dX5_draftTurn_5 : decode cX5_draftTurn 5 = .ok (.getfield 79, 3) := by decide +kernel
theorem dX5_draftTurn_8 : decode cX5_draftTurn 8 = .ok (.aload_n 1, 1) := by decide +kernel
theorem dX5_draftTurn_9 : decode cX5_draftTurn 9 = .ok (.getfield 82, 3) := by decide +kernel
theorem dX5_draftTurn_12 : decode cX5_draftTurn 12 = .ok (.invokevirtual 168, 3) := by decide +kernel
theorem dX5_draftTurn_15 : decode cX5_draftTurn 15 = .ok (.iconst 0, 1) := by decide +kernel
theorem dX5_draftTurn_16 : decode cX5_draftTurn 16 = .ok (.istore_n 2, 1) := by decide +kernel
theorem dX5_draftTurn_17 : decode cX5_draftTurn 17 = .ok (.iload_n 2, 1) := by decide +kernel
theorem dX5_draftTurn_18 : decode cX5_draftTurn 18 = .ok (.aload_n 0, 1) := by decide +kernel
theorem dX5_draftTurn_19 : decode cX5_draftTurn 19 = .ok (.getfield 24, 3) := by decide +kernel
theorem dX5_draftTurn_22 : decode cX5_draftTurn 22 = .ok (.invokevirtual 201, 3) := by decide +kernel
theorem dX5_draftTurn_25 : decode cX5_draftTurn 25 = .ok (.if_icmp .ge 25, 3) := by decide +kernel
theorem dX5_draftTurn_28 : decode cX5_draftTurn 28 = .ok (.aload_n 1, 1) := by decide +kernel
theorem dX5_draftTurn_29 : decode cX5_draftTurn 29 = .ok (.iload_n 2, 1) := by decide +kernel
theorem dX5_draftTurn_30 : decode cX5_draftTurn 30 = .ok (.invokevirtual 204, 3) := by decide +kernel
theorem dX5_draftTurn_33 : decode cX5_draftTurn 33 = .ok (.ifCond .ne 11, 3) := by decide +kernel
theorem dX5_draftTurn_36 : decode cX5_draftTurn 36 = .ok (.aload_n 0, 1) := by decide +kernel
theorem dX5_draftTurn_37 : decode cX5_draftTurn 37 = .ok (.getfield 24, 3) := by decide +kernel
theorem dX5_draftTurn_40 : decode cX5_draftTurn 40 = .ok (.iload_n 2, 1) := by decide +kernel
theorem dX5_draftTurn_41 : decode cX5_draftTurn 41 = .ok (.invokevirtual 190, 3) := by decide +kernel
theorem dX5_draftTurn_44 : decode cX5_draftTurn 44 = .ok (.iinc 2 1, 3) := by decide +kernel
theorem dX5_draftTurn_47 : decode cX5_draftTurn 47 = .ok (.goto (-30), 3) := by decide +kernel
theorem dX5_draftTurn_50 : decode cX5_draftTurn 50 = .ok (.return_, 1) := by decide +kernel
theorem dX5_draftShift_0 : decode cX5_draftShift 0 = .ok (.aload_n 0, 1) := by decide +kernel
theorem dX5_draftShift_1 : decode cX5_draftShift 1 = .ok (.getfield 24, 3) := by decide +kernel
theorem dX5_draftShift_4 : decode cX5_draftShift 4 = .ok (.iconst 0, 1) := by decide +kernel
theorem dX5_draftShift_5 : decode cX5_draftShift 5 = .ok (.aload_n 1, 1) := by decide +kernel
theorem dX5_draftShift_6 : decode cX5_draftShift 6 = .ok (.getfield 79, 3) := by decide +kernel
theorem dX5_draftShift_9 : decode cX5_draftShift 9 = .ok (.iload_n 2, 1) := by decide +kernel
theorem dX5_draftShift_10 : decode cX5_draftShift 10 = .ok (.iadd, 1) := by decide +kernel
theorem dX5_draftShift_11 : decode cX5_draftShift 11 = .ok (.invokestatic 193, 3) := by decide +kernel
theorem dX5_draftShift_14 : decode cX5_draftShift 14 = .ok (.aload_n 1, 1) := by decide +kernel
theorem dX5_draftShift_15 : decode cX5_draftShift 15 = .ok (.getfield 82, 3) := by decide +kernel
theorem dX5_draftShift_18 : decode cX5_draftShift 18 = .ok (.invokevirtual 168, 3) := by decide +kernel
theorem dX5_draftShift_21 : decode cX5_draftShift 21 = .ok (.iconst 0, 1) := by decide +kernel
theorem dX5_draftShift_22 : decode cX5_draftShift 22 = .ok (.iload_n 2, 1) := by decide +kernel
theorem dX5_draftShift_23 : decode cX5_draftShift 23 = .ok (.invokestatic 193, 3) := by decide +kernel
theorem dX5_draftShift_26 : decode cX5_draftShift 26 = .ok (.istore_n 3, 1) := by decide +kernel
theorem dX5_draftShift_27 : decode cX5_draftShift 27 = .ok (.iload_n 3, 1) := by decide +kernel
theorem dX5_draftShift_28 : decode cX5_draftShift 28 = .ok (.aload_n 0, 1) := by decide +kernel
theorem dX5_draftShift_29 : decode cX5_draftShift 29 = .ok (.getfield 24, 3) := by decide +kernel
theorem dX5_draftShift_32 : decode cX5_draftShift 32 = .ok (.invokevirtual 201, 3) := by decide +kernel
theorem dX5_draftShift_35 : decode cX5_draftShift 35 = .ok (.if_icmp .ge 27, 3) := by decide +kernel
theorem dX5_draftShift_38 : decode cX5_draftShift 38 = .ok (.aload_n 1, 1) := by decide +kernel
theorem dX5_draftShift_39 : decode cX5_draftShift 39 = .ok (.iload_n 3, 1) := by decide +kernel
theorem dX5_draftShift_40 : decode cX5_draftShift 40 = .ok (.iload_n 2, 1) := by decide +kernel
theorem dX5_draftShift_41 : decode cX5_draftShift 41 = .ok (.isub, 1) := by decide +kernel
theorem dX5_draftShift_42 : decode cX5_draftShift 42 = .ok (.invokevirtual 126, 3) := by decide +kernel
theorem dX5_draftShift_45 : decode cX5_draftShift 45 = .ok (.ifCond .eq 11, 3) := by decide +kernel
theorem dX5_draftShift_48 : decode cX5_draftShift 48 = .ok (.aload_n 0, 1) := by decide +kernel
theorem dX5_draftShift_49 : decode cX5_draftShift 49 = .ok (.getfield 24, 3) := by decide +kernel
theorem dX5_draftShift_52 : decode cX5_draftShift 52 = .ok (.iload_n 3, 1) := by decide +kernel
theorem dX5_draftShift_53 : decode cX5_draftShift 53 = .ok (.invokevirtual 190, 3) := by decide +kernel
theorem dX5_draftShift_56 : decode cX5_draftShift 56 = .ok (.iinc 3 1, 3) := by decide +kernel
theorem dX5_draftShift_59 : decode cX5_draftShift 59 = .ok (.goto (-32), 3) := by decide +kernel
theorem dX5_draftShift_62 : decode cX5_draftShift 62 = .ok (.return_, 1) := by decide +kernel
theorem dX5_draftStretch_0 : decode cX5_draftStretch 0 = .ok (.aload_n 0, 1) := by decide +kernel
theorem dX5_draftStretch_1 : decode cX5_draftStretch 1 = .ok (.getfield 24, 3) := by decide +kernel
theorem dX5_draftStretch_4 : decode cX5_draftStretch 4 = .ok (.iload_n 2, 1) := by decide +kernel
theorem dX5_draftStretch_5 : decode cX5_draftStretch 5 = .ok (.aload_n 1, 1) := by decide +kernel
theorem dX5_draftStretch_6 : decode cX5_draftStretch 6 = .ok (.getfield 79, 3) := by decide +kernel
theorem dX5_draftStretch_9 : decode cX5_draftStretch 9 = .ok (.imul, 1) := by decide +kernel
theorem dX5_draftStretch_10 : decode cX5_draftStretch 10 = .ok (.iload_n 3, 1) := by decide +kernel
theorem dX5_draftStretch_11 : decode cX5_draftStretch 11 = .ok (.iadd, 1) := by decide +kernel
theorem dX5_draftStretch_12 : decode cX5_draftStretch 12 = .ok (.iload_n 2, 1) := by decide +kernel
theorem dX5_draftStretch_13 : decode cX5_draftStretch 13 = .ok (.aload_n 1, 1) := by decide +kernel
theorem dX5_draftStretch_14 : decode cX5_draftStretch 14 = .ok (.getfield 82, 3) := by decide +kernel
theorem dX5_draftStretch_17 : decode cX5_draftStretch 17 = .ok (.imul, 1) := by decide +kernel
theorem dX5_draftStretch_18 : decode cX5_draftStretch 18 = .ok (.invokevirtual 168, 3) := by decide +kernel
theorem dX5_draftStretch_21 : decode cX5_draftStretch 21 = .ok (.iconst 0, 1) := by decide +kernel
theorem dX5_draftStretch_22 : decode cX5_draftStretch 22 = .ok (.istore 4, 2) := by decide +kernel
theorem dX5_draftStretch_24 : decode cX5_draftStretch 24 = .ok (.iload 4, 2) := by decide +kernel
theorem dX5_draftStretch_26 : decode cX5_draftStretch 26 = .ok (.aload_n 1, 1) := by decide +kernel
theorem dX5_draftStretch_27 : decode cX5_draftStretch 27 = .ok (.getfield 79, 3) := by decide +kernel
theorem dX5_draftStretch_30 : decode cX5_draftStretch 30 = .ok (.aload_n 1, 1) := by decide +kernel
theorem dX5_draftStretch_31 : decode cX5_draftStretch 31 = .ok (.getfield 82, 3) := by decide +kernel
theorem dX5_draftStretch_34 : decode cX5_draftStretch 34 = .ok (.iadd, 1) := by decide +kernel
theorem dX5_draftStretch_35 : decode cX5_draftStretch 35 = .ok (.if_icmp .ge 31, 3) := by decide +kernel
theorem dX5_draftStretch_38 : decode cX5_draftStretch 38 = .ok (.aload_n 1, 1) := by decide +kernel
theorem dX5_draftStretch_39 : decode cX5_draftStretch 39 = .ok (.iload 4, 2) := by decide +kernel
theorem dX5_draftStretch_41 : decode cX5_draftStretch 41 = .ok (.invokevirtual 204, 3) := by decide +kernel
theorem dX5_draftStretch_44 : decode cX5_draftStretch 44 = .ok (.ifCond .eq 16, 3) := by decide +kernel
theorem dX5_draftStretch_47 : decode cX5_draftStretch 47 = .ok (.aload_n 0, 1) := by decide +kernel
theorem dX5_draftStretch_48 : decode cX5_draftStretch 48 = .ok (.getfield 24, 3) := by decide +kernel
theorem dX5_draftStretch_51 : decode cX5_draftStretch 51 = .ok (.iload_n 2, 1) := by decide +kernel
theorem dX5_draftStretch_52 : decode cX5_draftStretch 52 = .ok (.iload 4, 2) := by decide +kernel
theorem dX5_draftStretch_54 : decode cX5_draftStretch 54 = .ok (.imul, 1) := by decide +kernel
theorem dX5_draftStretch_55 : decode cX5_draftStretch 55 = .ok (.iload_n 3, 1) := by decide +kernel
theorem dX5_draftStretch_56 : decode cX5_draftStretch 56 = .ok (.iadd, 1) := by decide +kernel
theorem dX5_draftStretch_57 : decode cX5_draftStretch 57 = .ok (.invokevirtual 190, 3) := by decide +kernel
theorem dX5_draftStretch_60 : decode cX5_draftStretch 60 = .ok (.iinc 4 1, 3) := by decide +kernel
theorem dX5_draftStretch_63 : decode cX5_draftStretch 63 = .ok (.goto (-39), 3) := by decide +kernel
theorem dX5_draftStretch_66 : decode cX5_draftStretch 66 = .ok (.return_, 1) := by decide +kernel
theorem dX5_draftShrink_0 : decode cX5_draftShrink 0 = .ok (.aload_n 0, 1) := by decide +kernel
theorem dX5_draftShrink_1 : decode cX5_draftShrink 1 = .ok (.getfield 24, 3) := by decide +kernel
theorem dX5_draftShrink_4 : decode cX5_draftShrink 4 = .ok (.aload_n 1, 1) := by decide +kernel
theorem dX5_draftShrink_5 : decode cX5_draftShrink 5 = .ok (.getfield 79, 3) := by decide +kernel
theorem dX5_draftShrink_8 : decode cX5_draftShrink 8 = .ok (.aload_n 1, 1) := by decide +kernel
theorem dX5_draftShrink_9 : decode cX5_draftShrink 9 = .ok (.getfield 82, 3) := by decide +kernel
theorem dX5_draftShrink_12 : decode cX5_draftShrink 12 = .ok (.invokevirtual 168, 3) := by decide +kernel
theorem dX5_draftShrink_15 : decode cX5_draftShrink 15 = .ok (.iconst 0, 1) := by decide +kernel
theorem dX5_draftShrink_16 : decode cX5_draftShrink 16 = .ok (.istore 4, 2) := by decide +kernel
theorem dX5_draftShrink_18 : decode cX5_draftShrink 18 = .ok (.iload 4, 2) := by decide +kernel
theorem dX5_draftShrink_20 : decode cX5_draftShrink 20 = .ok (.aload_n 0, 1) := by decide +kernel
theorem dX5_draftShrink_21 : decode cX5_draftShrink 21 = .ok (.getfield 24, 3) := by decide +kernel
theorem dX5_draftShrink_24 : decode cX5_draftShrink 24 = .ok (.invokevirtual 201, 3) := by decide +kernel
theorem dX5_draftShrink_27 : decode cX5_draftShrink 27 = .ok (.if_icmp .ge 31, 3) := by decide +kernel
theorem dX5_draftShrink_30 : decode cX5_draftShrink 30 = .ok (.aload_n 1, 1) := by decide +kernel
theorem dX5_draftShrink_31 : decode cX5_draftShrink 31 = .ok (.iload_n 2, 1) := by decide +kernel
theorem dX5_draftShrink_32 : decode cX5_draftShrink 32 = .ok (.iload 4, 2) := by decide +kernel
theorem dX5_draftShrink_34 : decode cX5_draftShrink 34 = .ok (.imul, 1) := by decide +kernel
theorem dX5_draftShrink_35 : decode cX5_draftShrink 35 = .ok (.iload_n 3, 1) := by decide +kernel
theorem dX5_draftShrink_36 : decode cX5_draftShrink 36 = .ok (.iadd, 1) := by decide +kernel
theorem dX5_draftShrink_37 : decode cX5_draftShrink 37 = .ok (.invokevirtual 126, 3) := by decide +kernel
theorem dX5_draftShrink_40 : decode cX5_draftShrink 40 = .ok (.ifCond .eq 12, 3) := by decide +kernel
theorem dX5_draftShrink_43 : decode cX5_draftShrink 43 = .ok (.aload_n 0, 1) := by decide +kernel
theorem dX5_draftShrink_44 : decode cX5_draftShrink 44 = .ok (.getfield 24, 3) := by decide +kernel
theorem dX5_draftShrink_47 : decode cX5_draftShrink 47 = .ok (.iload 4, 2) := by decide +kernel
theorem dX5_draftShrink_49 : decode cX5_draftShrink 49 = .ok (.invokevirtual 190, 3) := by decide +kernel
theorem dX5_draftShrink_52 : decode cX5_draftShrink 52 = .ok (.iinc 4 1, 3) := by decide +kernel
theorem dX5_draftShrink_55 : decode cX5_draftShrink 55 = .ok (.goto (-37), 3) := by decide +kernel
theorem dX5_draftShrink_58 : decode cX5_draftShrink 58 = .ok (.return_, 1) := by decide +kernel
theorem dX5_joined_0 : decode cX5_joined 0 = .ok (.iload_n 2, 1) := by decide +kernel
theorem dX5_joined_1 : decode cX5_joined 1 = .ok (.tableswitch 69 0 2 #[27, 41, 55], 27) := by decide +kernel
theorem dX5_joined_28 : decode cX5_joined 28 = .ok (.iload_n 0, 1) := by decide +kernel
theorem dX5_joined_29 : decode cX5_joined 29 = .ok (.ifCond .ne 7, 3) := by decide +kernel
theorem dX5_joined_32 : decode cX5_joined 32 = .ok (.iload_n 1, 1) := by decide +kernel
theorem dX5_joined_33 : decode cX5_joined 33 = .ok (.ifCond .eq 7, 3) := by decide +kernel
theorem dX5_joined_36 : decode cX5_joined 36 = .ok (.iconst 1, 1) := by decide +kernel
theorem dX5_joined_37 : decode cX5_joined 37 = .ok (.goto 4, 3) := by decide +kernel
theorem dX5_joined_40 : decode cX5_joined 40 = .ok (.iconst 0, 1) := by decide +kernel
theorem dX5_joined_41 : decode cX5_joined 41 = .ok (.ireturn, 1) := by decide +kernel
theorem dX5_joined_42 : decode cX5_joined 42 = .ok (.iload_n 0, 1) := by decide +kernel
theorem dX5_joined_43 : decode cX5_joined 43 = .ok (.ifCond .eq 11, 3) := by decide +kernel
theorem dX5_joined_46 : decode cX5_joined 46 = .ok (.iload_n 1, 1) := by decide +kernel
theorem dX5_joined_47 : decode cX5_joined 47 = .ok (.ifCond .eq 7, 3) := by decide +kernel
theorem dX5_joined_50 : decode cX5_joined 50 = .ok (.iconst 1, 1) := by decide +kernel
theorem dX5_joined_51 : decode cX5_joined 51 = .ok (.goto 4, 3) := by decide +kernel
theorem dX5_joined_54 : decode cX5_joined 54 = .ok (.iconst 0, 1) := by decide +kernel
theorem dX5_joined_55 : decode cX5_joined 55 = .ok (.ireturn, 1) := by decide +kernel
theorem dX5_joined_56 : decode cX5_joined 56 = .ok (.iload_n 0, 1) := by decide +kernel
theorem dX5_joined_57 : decode cX5_joined 57 = .ok (.ifCond .eq 11, 3) := by decide +kernel
theorem dX5_joined_60 : decode cX5_joined 60 = .ok (.iload_n 1, 1) := by decide +kernel
theorem dX5_joined_61 : decode cX5_joined 61 = .ok (.ifCond .ne 7, 3) := by decide +kernel
theorem dX5_joined_64 : decode cX5_joined 64 = .ok (.iconst 1, 1) := by decide +kernel
theorem dX5_joined_65 : decode cX5_joined 65 = .ok (.goto 4, 3) := by decide +kernel
theorem dX5_joined_68 : decode cX5_joined 68 = .ok (.iconst 0, 1) := by decide +kernel
theorem dX5_joined_69 : decode cX5_joined 69 = .ok (.ireturn, 1) := by decide +kernel
theorem dX5_joined_70 : decode cX5_joined 70 = .ok (.iload_n 0, 1) := by decide +kernel
theorem dX5_joined_71 : decode cX5_joined 71 = .ok (.iload_n 1, 1) := by decide +kernel
theorem dX5_joined_72 : decode cX5_joined 72 = .ok (.if_icmp .eq 7, 3) := by decide +kernel
theorem dX5_joined_75 : decode cX5_joined 75 = .ok (.iconst 1, 1) := by decide +kernel
theorem dX5_joined_76 : decode cX5_joined 76 = .ok (.goto 4, 3) := by decide +kernel
theorem dX5_joined_79 : decode cX5_joined 79 = .ok (.iconst 0, 1) := by decide +kernel
theorem dX5_joined_80 : decode cX5_joined 80 = .ok (.ireturn, 1) := by decide +kernel
theorem dX5_leastJoined_0 : decode cX5_leastJoined 0 = .ok (.aload_n 0, 1) := by decide +kernel
theorem dX5_leastJoined_1 : decode cX5_leastJoined 1 = .ok (.getfield 79, 3) := by decide +kernel
theorem dX5_leastJoined_4 : decode cX5_leastJoined 4 = .ok (.aload_n 1, 1) := by decide +kernel
theorem dX5_leastJoined_5 : decode cX5_leastJoined 5 = .ok (.getfield 79, 3) := by decide +kernel
theorem dX5_leastJoined_8 : decode cX5_leastJoined 8 = .ok (.invokestatic 193, 3) := by decide +kernel
theorem dX5_leastJoined_11 : decode cX5_leastJoined 11 = .ok (.aload_n 0, 1) := by decide +kernel
theorem dX5_leastJoined_12 : decode cX5_leastJoined 12 = .ok (.getfield 82, 3) := by decide +kernel
theorem dX5_leastJoined_15 : decode cX5_leastJoined 15 = .ok (.aload_n 1, 1) := by decide +kernel
theorem dX5_leastJoined_16 : decode cX5_leastJoined 16 = .ok (.getfield 82, 3) := by decide +kernel
theorem dX5_leastJoined_19 : decode cX5_leastJoined 19 = .ok (.invokestatic 198, 3) := by decide +kernel
theorem dX5_leastJoined_22 : decode cX5_leastJoined 22 = .ok (.iadd, 1) := by decide +kernel
theorem dX5_leastJoined_23 : decode cX5_leastJoined 23 = .ok (.istore_n 3, 1) := by decide +kernel
theorem dX5_leastJoined_24 : decode cX5_leastJoined 24 = .ok (.iconst 0, 1) := by decide +kernel
theorem dX5_leastJoined_25 : decode cX5_leastJoined 25 = .ok (.istore 4, 2) := by decide +kernel
theorem dX5_leastJoined_27 : decode cX5_leastJoined 27 = .ok (.iconst 0, 1) := by decide +kernel
theorem dX5_leastJoined_28 : decode cX5_leastJoined 28 = .ok (.istore 5, 2) := by decide +kernel
theorem dX5_leastJoined_30 : decode cX5_leastJoined 30 = .ok (.iconst 0, 1) := by decide +kernel
theorem dX5_leastJoined_31 : decode cX5_leastJoined 31 = .ok (.istore 6, 2) := by decide +kernel
theorem dX5_leastJoined_33 : decode cX5_leastJoined 33 = .ok (.iload 6, 2) := by decide +kernel
theorem dX5_leastJoined_35 : decode cX5_leastJoined 35 = .ok (.iload_n 3, 1) := by decide +kernel
theorem dX5_leastJoined_36 : decode cX5_leastJoined 36 = .ok (.if_icmp .ge 47, 3) := by decide +kernel
theorem dX5_leastJoined_39 : decode cX5_leastJoined 39 = .ok (.aload_n 0, 1) := by decide +kernel
theorem dX5_leastJoined_40 : decode cX5_leastJoined 40 = .ok (.iload 4, 2) := by decide +kernel
theorem dX5_leastJoined_42 : decode cX5_leastJoined 42 = .ok (.invokevirtual 204, 3) := by decide +kernel
theorem dX5_leastJoined_45 : decode cX5_leastJoined 45 = .ok (.aload_n 1, 1) := by decide +kernel
theorem dX5_leastJoined_46 : decode cX5_leastJoined 46 = .ok (.iload 5, 2) := by decide +kernel
theorem dX5_leastJoined_48 : decode cX5_leastJoined 48 = .ok (.invokevirtual 204, 3) := by decide +kernel
theorem dX5_leastJoined_51 : decode cX5_leastJoined 51 = .ok (.iload_n 2, 1) := by decide +kernel
theorem dX5_leastJoined_52 : decode cX5_leastJoined 52 = .ok (.invokestatic 207, 3) := by decide +kernel
theorem dX5_leastJoined_55 : decode cX5_leastJoined 55 = .ok (.ifCond .eq 6, 3) := by decide +kernel
theorem dX5_leastJoined_58 : decode cX5_leastJoined 58 = .ok (.iload 6, 2) := by decide +kernel
theorem dX5_leastJoined_60 : decode cX5_leastJoined 60 = .ok (.ireturn, 1) := by decide +kernel
theorem dX5_leastJoined_61 : decode cX5_leastJoined 61 = .ok (.aload_n 0, 1) := by decide +kernel
theorem dX5_leastJoined_62 : decode cX5_leastJoined 62 = .ok (.iload 4, 2) := by decide +kernel
theorem dX5_leastJoined_64 : decode cX5_leastJoined 64 = .ok (.invokevirtual 211, 3) := by decide +kernel
theorem dX5_leastJoined_67 : decode cX5_leastJoined 67 = .ok (.istore 4, 2) := by decide +kernel
theorem dX5_leastJoined_69 : decode cX5_leastJoined 69 = .ok (.aload_n 1, 1) := by decide +kernel
theorem dX5_leastJoined_70 : decode cX5_leastJoined 70 = .ok (.iload 5, 2) := by decide +kernel
theorem dX5_leastJoined_72 : decode cX5_leastJoined 72 = .ok (.invokevirtual 211, 3) := by decide +kernel
theorem dX5_leastJoined_75 : decode cX5_leastJoined 75 = .ok (.istore 5, 2) := by decide +kernel
theorem dX5_leastJoined_77 : decode cX5_leastJoined 77 = .ok (.iinc 6 1, 3) := by decide +kernel
theorem dX5_leastJoined_80 : decode cX5_leastJoined 80 = .ok (.goto (-47), 3) := by decide +kernel
theorem dX5_leastJoined_83 : decode cX5_leastJoined 83 = .ok (.bipush (-6), 2) := by decide +kernel
theorem dX5_leastJoined_85 : decode cX5_leastJoined 85 = .ok (.ireturn, 1) := by decide +kernel
theorem dX5_leastCommon_0 : decode cX5_leastCommon 0 = .ok (.iload_n 0, 1) := by decide +kernel
theorem dX5_leastCommon_1 : decode cX5_leastCommon 1 = .ok (.iconst 1, 1) := by decide +kernel
theorem dX5_leastCommon_2 : decode cX5_leastCommon 2 = .ok (.if_icmp .lt 8, 3) := by decide +kernel
theorem dX5_leastCommon_5 : decode cX5_leastCommon 5 = .ok (.iload_n 1, 1) := by decide +kernel
theorem dX5_leastCommon_6 : decode cX5_leastCommon 6 = .ok (.iconst 1, 1) := by decide +kernel
theorem dX5_leastCommon_7 : decode cX5_leastCommon 7 = .ok (.if_icmp .ge 5, 3) := by decide +kernel
theorem dX5_leastCommon_10 : decode cX5_leastCommon 10 = .ok (.iconst 1, 1) := by decide +kernel
theorem dX5_leastCommon_11 : decode cX5_leastCommon 11 = .ok (.ireturn, 1) := by decide +kernel
theorem dX5_leastCommon_12 : decode cX5_leastCommon 12 = .ok (.iconst 1, 1) := by decide +kernel
theorem dX5_leastCommon_13 : decode cX5_leastCommon 13 = .ok (.istore_n 2, 1) := by decide +kernel
theorem dX5_leastCommon_14 : decode cX5_leastCommon 14 = .ok (.iload_n 2, 1) := by decide +kernel
theorem dX5_leastCommon_15 : decode cX5_leastCommon 15 = .ok (.iload_n 1, 1) := by decide +kernel
theorem dX5_leastCommon_16 : decode cX5_leastCommon 16 = .ok (.if_icmp .ge 21, 3) := by decide +kernel
theorem dX5_leastCommon_19 : decode cX5_leastCommon 19 = .ok (.iload_n 0, 1) := by decide +kernel
theorem dX5_leastCommon_20 : decode cX5_leastCommon 20 = .ok (.iload_n 2, 1) := by decide +kernel
theorem dX5_leastCommon_21 : decode cX5_leastCommon 21 = .ok (.imul, 1) := by decide +kernel
theorem dX5_leastCommon_22 : decode cX5_leastCommon 22 = .ok (.iload_n 1, 1) := by decide +kernel
theorem dX5_leastCommon_23 : decode cX5_leastCommon 23 = .ok (.irem, 1) := by decide +kernel
theorem dX5_leastCommon_24 : decode cX5_leastCommon 24 = .ok (.ifCond .ne 7, 3) := by decide +kernel
theorem dX5_leastCommon_27 : decode cX5_leastCommon 27 = .ok (.iload_n 0, 1) := by decide +kernel
theorem dX5_leastCommon_28 : decode cX5_leastCommon 28 = .ok (.iload_n 2, 1) := by decide +kernel
theorem dX5_leastCommon_29 : decode cX5_leastCommon 29 = .ok (.imul, 1) := by decide +kernel
theorem dX5_leastCommon_30 : decode cX5_leastCommon 30 = .ok (.ireturn, 1) := by decide +kernel
theorem dX5_leastCommon_31 : decode cX5_leastCommon 31 = .ok (.iinc 2 1, 3) := by decide +kernel
theorem dX5_leastCommon_34 : decode cX5_leastCommon 34 = .ok (.goto (-20), 3) := by decide +kernel
theorem dX5_leastCommon_37 : decode cX5_leastCommon 37 = .ok (.iload_n 0, 1) := by decide +kernel
theorem dX5_leastCommon_38 : decode cX5_leastCommon 38 = .ok (.iload_n 1, 1) := by decide +kernel
theorem dX5_leastCommon_39 : decode cX5_leastCommon 39 = .ok (.imul, 1) := by decide +kernel
theorem dX5_leastCommon_40 : decode cX5_leastCommon 40 = .ok (.ireturn, 1) := by decide +kernel
theorem dX5_slotsWithNumbers_0 : decode cX5_slotsWithNumbers 0 = .ok (.iconst 0, 1) := by decide +kernel
theorem dX5_slotsWithNumbers_1 : decode cX5_slotsWithNumbers 1 = .ok (.istore_n 1, 1) := by decide +kernel
theorem dX5_slotsWithNumbers_2 : decode cX5_slotsWithNumbers 2 = .ok (.iconst 0, 1) := by decide +kernel
theorem dX5_slotsWithNumbers_3 : decode cX5_slotsWithNumbers 3 = .ok (.istore_n 2, 1) := by decide +kernel
theorem dX5_slotsWithNumbers_4 : decode cX5_slotsWithNumbers 4 = .ok (.iload_n 2, 1) := by decide +kernel
theorem dX5_slotsWithNumbers_5 : decode cX5_slotsWithNumbers 5 = .ok (.bipush 6, 2) := by decide +kernel
theorem dX5_slotsWithNumbers_7 : decode cX5_slotsWithNumbers 7 = .ok (.if_icmp .ge 35, 3) := by decide +kernel
theorem dX5_slotsWithNumbers_10 : decode cX5_slotsWithNumbers 10 = .ok (.aload_n 0, 1) := by decide +kernel
theorem dX5_slotsWithNumbers_11 : decode cX5_slotsWithNumbers 11 = .ok (.iload_n 2, 1) := by decide +kernel
theorem dX5_slotsWithNumbers_12 : decode cX5_slotsWithNumbers 12 = .ok (.invokevirtual 44, 3) := by decide +kernel
theorem dX5_slotsWithNumbers_15 : decode cX5_slotsWithNumbers 15 = .ok (.ifCond .ne 21, 3) := by decide +kernel
theorem dX5_slotsWithNumbers_18 : decode cX5_slotsWithNumbers 18 = .ok (.aload_n 0, 1) := by decide +kernel
theorem dX5_slotsWithNumbers_19 : decode cX5_slotsWithNumbers 19 = .ok (.getfield 11, 3) := by decide +kernel
theorem dX5_slotsWithNumbers_22 : decode cX5_slotsWithNumbers 22 = .ok (.iload_n 2, 1) := by decide +kernel
theorem dX5_slotsWithNumbers_23 : decode cX5_slotsWithNumbers 23 = .ok (.aaload, 1) := by decide +kernel
theorem dX5_slotsWithNumbers_24 : decode cX5_slotsWithNumbers 24 = .ok (.iconst 0, 1) := by decide +kernel
theorem dX5_slotsWithNumbers_25 : decode cX5_slotsWithNumbers 25 = .ok (.invokevirtual 129, 3) := by decide +kernel
theorem dX5_slotsWithNumbers_28 : decode cX5_slotsWithNumbers 28 = .ok (.bipush (-6), 2) := by decide +kernel
theorem dX5_slotsWithNumbers_30 : decode cX5_slotsWithNumbers 30 = .ok (.if_icmp .eq 6, 3) := by decide +kernel
theorem dX5_slotsWithNumbers_33 : decode cX5_slotsWithNumbers 33 = .ok (.iinc 1 1, 3) := by decide +kernel
theorem dX5_slotsWithNumbers_36 : decode cX5_slotsWithNumbers 36 = .ok (.iinc 2 1, 3) := by decide +kernel
theorem dX5_slotsWithNumbers_39 : decode cX5_slotsWithNumbers 39 = .ok (.goto (-35), 3) := by decide +kernel
theorem dX5_slotsWithNumbers_42 : decode cX5_slotsWithNumbers 42 = .ok (.iload_n 1, 1) := by decide +kernel
theorem dX5_slotsWithNumbers_43 : decode cX5_slotsWithNumbers 43 = .ok (.ireturn, 1) := by decide +kernel
theorem dX5_unlikeSets_0 : decode cX5_unlikeSets 0 = .ok (.iconst 0, 1) := by decide +kernel
theorem dX5_unlikeSets_1 : decode cX5_unlikeSets 1 = .ok (.istore_n 1, 1) := by decide +kernel
theorem dX5_unlikeSets_2 : decode cX5_unlikeSets 2 = .ok (.iconst 0, 1) := by decide +kernel
theorem dX5_unlikeSets_3 : decode cX5_unlikeSets 3 = .ok (.istore_n 2, 1) := by decide +kernel
theorem dX5_unlikeSets_4 : decode cX5_unlikeSets 4 = .ok (.iload_n 2, 1) := by decide +kernel
theorem dX5_unlikeSets_5 : decode cX5_unlikeSets 5 = .ok (.bipush 6, 2) := by decide +kernel
theorem dX5_unlikeSets_7 : decode cX5_unlikeSets 7 = .ok (.if_icmp .ge 28, 3) := by decide +kernel
theorem dX5_unlikeSets_10 : decode cX5_unlikeSets 10 = .ok (.aload_n 0, 1) := by decide +kernel
theorem dX5_unlikeSets_11 : decode cX5_unlikeSets 11 = .ok (.iload_n 2, 1) := by decide +kernel
theorem dX5_unlikeSets_12 : decode cX5_unlikeSets 12 = .ok (.invokevirtual 44, 3) := by decide +kernel
theorem dX5_unlikeSets_15 : decode cX5_unlikeSets 15 = .ok (.ifCond .ne 14, 3) := by decide +kernel
theorem dX5_unlikeSets_18 : decode cX5_unlikeSets 18 = .ok (.aload_n 0, 1) := by decide +kernel
theorem dX5_unlikeSets_19 : decode cX5_unlikeSets 19 = .ok (.iload_n 2, 1) := by decide +kernel
theorem dX5_unlikeSets_20 : decode cX5_unlikeSets 20 = .ok (.invokevirtual 214, 3) := by decide +kernel
theorem dX5_unlikeSets_23 : decode cX5_unlikeSets 23 = .ok (.ifCond .ne 6, 3) := by decide +kernel
theorem dX5_unlikeSets_26 : decode cX5_unlikeSets 26 = .ok (.iinc 1 1, 3) := by decide +kernel
theorem dX5_unlikeSets_29 : decode cX5_unlikeSets 29 = .ok (.iinc 2 1, 3) := by decide +kernel
theorem dX5_unlikeSets_32 : decode cX5_unlikeSets 32 = .ok (.goto (-28), 3) := by decide +kernel
theorem dX5_unlikeSets_35 : decode cX5_unlikeSets 35 = .ok (.iload_n 1, 1) := by decide +kernel
theorem dX5_unlikeSets_36 : decode cX5_unlikeSets 36 = .ok (.ireturn, 1) := by decide +kernel
theorem dX5_heldBefore_0 : decode cX5_heldBefore 0 = .ok (.iconst 0, 1) := by decide +kernel
theorem dX5_heldBefore_1 : decode cX5_heldBefore 1 = .ok (.istore_n 2, 1) := by decide +kernel
theorem dX5_heldBefore_2 : decode cX5_heldBefore 2 = .ok (.iload_n 2, 1) := by decide +kernel
theorem dX5_heldBefore_3 : decode cX5_heldBefore 3 = .ok (.iload_n 1, 1) := by decide +kernel
theorem dX5_heldBefore_4 : decode cX5_heldBefore 4 = .ok (.if_icmp .ge 37, 3) := by decide +kernel
theorem dX5_heldBefore_7 : decode cX5_heldBefore 7 = .ok (.aload_n 0, 1) := by decide +kernel
theorem dX5_heldBefore_8 : decode cX5_heldBefore 8 = .ok (.iload_n 2, 1) := by decide +kernel
theorem dX5_heldBefore_9 : decode cX5_heldBefore 9 = .ok (.invokevirtual 44, 3) := by decide +kernel
theorem dX5_heldBefore_12 : decode cX5_heldBefore 12 = .ok (.ifCond .ne 23, 3) := by decide +kernel
theorem dX5_heldBefore_15 : decode cX5_heldBefore 15 = .ok (.aload_n 0, 1) := by decide +kernel
theorem dX5_heldBefore_16 : decode cX5_heldBefore 16 = .ok (.getfield 11, 3) := by decide +kernel
theorem dX5_heldBefore_19 : decode cX5_heldBefore 19 = .ok (.iload_n 2, 1) := by decide +kernel
theorem dX5_heldBefore_20 : decode cX5_heldBefore 20 = .ok (.aaload, 1) := by decide +kernel
theorem dX5_heldBefore_21 : decode cX5_heldBefore 21 = .ok (.aload_n 0, 1) := by decide +kernel
theorem dX5_heldBefore_22 : decode cX5_heldBefore 22 = .ok (.getfield 11, 3) := by decide +kernel
theorem dX5_heldBefore_25 : decode cX5_heldBefore 25 = .ok (.iload_n 1, 1) := by decide +kernel
theorem dX5_heldBefore_26 : decode cX5_heldBefore 26 = .ok (.aaload, 1) := by decide +kernel
theorem dX5_heldBefore_27 : decode cX5_heldBefore 27 = .ok (.invokevirtual 132, 3) := by decide +kernel
theorem dX5_heldBefore_30 : decode cX5_heldBefore 30 = .ok (.ifCond .eq 5, 3) := by decide +kernel
theorem dX5_heldBefore_33 : decode cX5_heldBefore 33 = .ok (.iconst 1, 1) := by decide +kernel
theorem dX5_heldBefore_34 : decode cX5_heldBefore 34 = .ok (.ireturn, 1) := by decide +kernel
theorem dX5_heldBefore_35 : decode cX5_heldBefore 35 = .ok (.iinc 2 1, 3) := by decide +kernel
theorem dX5_heldBefore_38 : decode cX5_heldBefore 38 = .ok (.goto (-36), 3) := by decide +kernel
theorem dX5_heldBefore_41 : decode cX5_heldBefore 41 = .ok (.iconst 0, 1) := by decide +kernel
theorem dX5_heldBefore_42 : decode cX5_heldBefore 42 = .ok (.ireturn, 1) := by decide +kernel
theorem dX5_statesOfAll_0 : decode cX5_statesOfAll 0 = .ok (.iconst 0, 1) := by decide +kernel
theorem dX5_statesOfAll_1 : decode cX5_statesOfAll 1 = .ok (.istore_n 1, 1) := by decide +kernel
theorem dX5_statesOfAll_2 : decode cX5_statesOfAll 2 = .ok (.iconst 0, 1) := by decide +kernel
theorem dX5_statesOfAll_3 : decode cX5_statesOfAll 3 = .ok (.istore_n 2, 1) := by decide +kernel
theorem dX5_statesOfAll_4 : decode cX5_statesOfAll 4 = .ok (.iload_n 2, 1) := by decide +kernel
theorem dX5_statesOfAll_5 : decode cX5_statesOfAll 5 = .ok (.bipush 6, 2) := by decide +kernel
theorem dX5_statesOfAll_7 : decode cX5_statesOfAll 7 = .ok (.if_icmp .ge 32, 3) := by decide +kernel
theorem dX5_statesOfAll_10 : decode cX5_statesOfAll 10 = .ok (.aload_n 0, 1) := by decide +kernel
theorem dX5_statesOfAll_11 : decode cX5_statesOfAll 11 = .ok (.iload_n 2, 1) := by decide +kernel
theorem dX5_statesOfAll_12 : decode cX5_statesOfAll 12 = .ok (.invokevirtual 44, 3) := by decide +kernel
theorem dX5_statesOfAll_15 : decode cX5_statesOfAll 15 = .ok (.ifCond .ne 18, 3) := by decide +kernel
theorem dX5_statesOfAll_18 : decode cX5_statesOfAll 18 = .ok (.iload_n 1, 1) := by decide +kernel
theorem dX5_statesOfAll_19 : decode cX5_statesOfAll 19 = .ok (.aload_n 0, 1) := by decide +kernel
theorem dX5_statesOfAll_20 : decode cX5_statesOfAll 20 = .ok (.getfield 11, 3) := by decide +kernel
theorem dX5_statesOfAll_23 : decode cX5_statesOfAll 23 = .ok (.iload_n 2, 1) := by decide +kernel
theorem dX5_statesOfAll_24 : decode cX5_statesOfAll 24 = .ok (.aaload, 1) := by decide +kernel
theorem dX5_statesOfAll_25 : decode cX5_statesOfAll 25 = .ok (.getfield 85, 3) := by decide +kernel
theorem dX5_statesOfAll_28 : decode cX5_statesOfAll 28 = .ok (.getfield 89, 3) := by decide +kernel
theorem dX5_statesOfAll_31 : decode cX5_statesOfAll 31 = .ok (.iadd, 1) := by decide +kernel
theorem dX5_statesOfAll_32 : decode cX5_statesOfAll 32 = .ok (.istore_n 1, 1) := by decide +kernel
theorem dX5_statesOfAll_33 : decode cX5_statesOfAll 33 = .ok (.iinc 2 1, 3) := by decide +kernel
theorem dX5_statesOfAll_36 : decode cX5_statesOfAll 36 = .ok (.goto (-32), 3) := by decide +kernel
theorem dX5_statesOfAll_39 : decode cX5_statesOfAll 39 = .ok (.iload_n 1, 1) := by decide +kernel
theorem dX5_statesOfAll_40 : decode cX5_statesOfAll 40 = .ok (.ireturn, 1) := by decide +kernel
theorem dX5_imagesKept_0 : decode cX5_imagesKept 0 = .ok (.iconst 0, 1) := by decide +kernel
theorem dX5_imagesKept_1 : decode cX5_imagesKept 1 = .ok (.istore_n 1, 1) := by decide +kernel
theorem dX5_imagesKept_2 : decode cX5_imagesKept 2 = .ok (.iconst 0, 1) := by decide +kernel
theorem dX5_imagesKept_3 : decode cX5_imagesKept 3 = .ok (.istore_n 2, 1) := by decide +kernel
theorem dX5_imagesKept_4 : decode cX5_imagesKept 4 = .ok (.iload_n 2, 1) := by decide +kernel
theorem dX5_imagesKept_5 : decode cX5_imagesKept 5 = .ok (.iconst 2, 1) := by decide +kernel
theorem dX5_imagesKept_6 : decode cX5_imagesKept 6 = .ok (.if_icmp .ge 35, 3) := by decide +kernel
theorem dX5_imagesKept_9 : decode cX5_imagesKept 9 = .ok (.aload_n 0, 1) := by decide +kernel
theorem dX5_imagesKept_10 : decode cX5_imagesKept 10 = .ok (.iload_n 2, 1) := by decide +kernel
theorem dX5_imagesKept_11 : decode cX5_imagesKept 11 = .ok (.invokevirtual 140, 3) := by decide +kernel
theorem dX5_imagesKept_14 : decode cX5_imagesKept 14 = .ok (.ifCond .ne 21, 3) := by decide +kernel
theorem dX5_imagesKept_17 : decode cX5_imagesKept 17 = .ok (.aload_n 0, 1) := by decide +kernel
theorem dX5_imagesKept_18 : decode cX5_imagesKept 18 = .ok (.getfield 17, 3) := by decide +kernel
theorem dX5_imagesKept_21 : decode cX5_imagesKept 21 = .ok (.iload_n 2, 1) := by decide +kernel
theorem dX5_imagesKept_22 : decode cX5_imagesKept 22 = .ok (.aaload, 1) := by decide +kernel
theorem dX5_imagesKept_23 : decode cX5_imagesKept 23 = .ok (.getfield 147, 3) := by decide +kernel
theorem dX5_imagesKept_26 : decode cX5_imagesKept 26 = .ok (.ifCond .eq 9, 3) := by decide +kernel
theorem dX5_imagesKept_29 : decode cX5_imagesKept 29 = .ok (.iload_n 1, 1) := by decide +kernel
theorem dX5_imagesKept_30 : decode cX5_imagesKept 30 = .ok (.iconst 1, 1) := by decide +kernel
theorem dX5_imagesKept_31 : decode cX5_imagesKept 31 = .ok (.iload_n 2, 1) := by decide +kernel
theorem dX5_imagesKept_32 : decode cX5_imagesKept 32 = .ok (.ishl, 1) := by decide +kernel
theorem dX5_imagesKept_33 : decode cX5_imagesKept 33 = .ok (.iadd, 1) := by decide +kernel
theorem dX5_imagesKept_34 : decode cX5_imagesKept 34 = .ok (.istore_n 1, 1) := by decide +kernel
theorem dX5_imagesKept_35 : decode cX5_imagesKept 35 = .ok (.iinc 2 1, 3) := by decide +kernel
theorem dX5_imagesKept_38 : decode cX5_imagesKept 38 = .ok (.goto (-34), 3) := by decide +kernel
theorem dX5_imagesKept_41 : decode cX5_imagesKept 41 = .ok (.iload_n 1, 1) := by decide +kernel
theorem dX5_imagesKept_42 : decode cX5_imagesKept 42 = .ok (.ireturn, 1) := by decide +kernel
theorem dX5_folded_0 : decode cX5_folded 0 = .ok (.iload_n 0, 1) := by decide +kernel
theorem dX5_folded_1 : decode cX5_folded 1 = .ok (.iload_n 1, 1) := by decide +kernel
theorem dX5_folded_2 : decode cX5_folded 2 = .ok (.iload_n 2, 1) := by decide +kernel
theorem dX5_folded_3 : decode cX5_folded 3 = .ok (.iadd, 1) := by decide +kernel
theorem dX5_folded_4 : decode cX5_folded 4 = .ok (.if_icmp .lt 8, 3) := by decide +kernel
theorem dX5_folded_7 : decode cX5_folded 7 = .ok (.iload_n 2, 1) := by decide +kernel
theorem dX5_folded_8 : decode cX5_folded 8 = .ok (.iconst 1, 1) := by decide +kernel
theorem dX5_folded_9 : decode cX5_folded 9 = .ok (.if_icmp .ge 7, 3) := by decide +kernel
theorem dX5_folded_12 : decode cX5_folded 12 = .ok (.iload_n 0, 1) := by decide +kernel
theorem dX5_folded_13 : decode cX5_folded 13 = .ok (.goto 10, 3) := by decide +kernel
theorem dX5_folded_16 : decode cX5_folded 16 = .ok (.iload_n 1, 1) := by decide +kernel
theorem dX5_folded_17 : decode cX5_folded 17 = .ok (.iload_n 0, 1) := by decide +kernel
theorem dX5_folded_18 : decode cX5_folded 18 = .ok (.iload_n 1, 1) := by decide +kernel
theorem dX5_folded_19 : decode cX5_folded 19 = .ok (.isub, 1) := by decide +kernel
theorem dX5_folded_20 : decode cX5_folded 20 = .ok (.iload_n 2, 1) := by decide +kernel
theorem dX5_folded_21 : decode cX5_folded 21 = .ok (.irem, 1) := by decide +kernel
theorem dX5_folded_22 : decode cX5_folded 22 = .ok (.iadd, 1) := by decide +kernel
theorem dX5_folded_23 : decode cX5_folded 23 = .ok (.ireturn, 1) := by decide +kernel
theorem dX5_bit_0 : decode cX5_bit 0 = .ok (.iload_n 1, 1) := by decide +kernel
theorem dX5_bit_1 : decode cX5_bit 1 = .ok (.bipush 6, 2) := by decide +kernel
theorem dX5_bit_3 : decode cX5_bit 3 = .ok (.ishr, 1) := by decide +kernel
theorem dX5_bit_4 : decode cX5_bit 4 = .ok (.istore_n 2, 1) := by decide +kernel
theorem dX5_bit_5 : decode cX5_bit 5 = .ok (.iload_n 2, 1) := by decide +kernel
theorem dX5_bit_6 : decode cX5_bit 6 = .ok (.ifCond .lt 25, 3) := by decide +kernel
theorem dX5_bit_9 : decode cX5_bit 9 = .ok (.iload_n 2, 1) := by decide +kernel
theorem dX5_bit_10 : decode cX5_bit 10 = .ok (.aload_n 0, 1) := by decide +kernel
theorem dX5_bit_11 : decode cX5_bit 11 = .ok (.arraylength, 1) := by decide +kernel
theorem dX5_bit_12 : decode cX5_bit 12 = .ok (.if_icmp .ge 19, 3) := by decide +kernel
theorem dX5_bit_15 : decode cX5_bit 15 = .ok (.aload_n 0, 1) := by decide +kernel
theorem dX5_bit_16 : decode cX5_bit 16 = .ok (.iload_n 2, 1) := by decide +kernel
theorem dX5_bit_17 : decode cX5_bit 17 = .ok (.laload, 1) := by decide +kernel
theorem dX5_bit_18 : decode cX5_bit 18 = .ok (.iload_n 1, 1) := by decide +kernel
theorem dX5_bit_19 : decode cX5_bit 19 = .ok (.lushr, 1) := by decide +kernel
theorem dX5_bit_20 : decode cX5_bit 20 = .ok (.lconst 1, 1) := by decide +kernel
theorem dX5_bit_21 : decode cX5_bit 21 = .ok (.land, 1) := by decide +kernel
theorem dX5_bit_22 : decode cX5_bit 22 = .ok (.lconst 0, 1) := by decide +kernel
theorem dX5_bit_23 : decode cX5_bit 23 = .ok (.lcmp, 1) := by decide +kernel
theorem dX5_bit_24 : decode cX5_bit 24 = .ok (.ifCond .eq 7, 3) := by decide +kernel
theorem dX5_bit_27 : decode cX5_bit 27 = .ok (.iconst 1, 1) := by decide +kernel
theorem dX5_bit_28 : decode cX5_bit 28 = .ok (.goto 4, 3) := by decide +kernel
theorem dX5_bit_31 : decode cX5_bit 31 = .ok (.iconst 0, 1) := by decide +kernel
theorem dX5_bit_32 : decode cX5_bit 32 = .ok (.ireturn, 1) := by decide +kernel
theorem dX5_setBit_0 : decode cX5_setBit 0 = .ok (.iload_n 1, 1) := by decide +kernel
theorem dX5_setBit_1 : decode cX5_setBit 1 = .ok (.bipush 6, 2) := by decide +kernel
theorem dX5_setBit_3 : decode cX5_setBit 3 = .ok (.ishr, 1) := by decide +kernel
theorem dX5_setBit_4 : decode cX5_setBit 4 = .ok (.istore_n 2, 1) := by decide +kernel
theorem dX5_setBit_5 : decode cX5_setBit 5 = .ok (.iload_n 2, 1) := by decide +kernel
theorem dX5_setBit_6 : decode cX5_setBit 6 = .ok (.ifCond .lt 18, 3) := by decide +kernel
theorem dX5_setBit_9 : decode cX5_setBit 9 = .ok (.iload_n 2, 1) := by decide +kernel
theorem dX5_setBit_10 : decode cX5_setBit 10 = .ok (.aload_n 0, 1) := by decide +kernel
theorem dX5_setBit_11 : decode cX5_setBit 11 = .ok (.arraylength, 1) := by decide +kernel
theorem dX5_setBit_12 : decode cX5_setBit 12 = .ok (.if_icmp .ge 12, 3) := by decide +kernel
theorem dX5_setBit_15 : decode cX5_setBit 15 = .ok (.aload_n 0, 1) := by decide +kernel
theorem dX5_setBit_16 : decode cX5_setBit 16 = .ok (.iload_n 2, 1) := by decide +kernel
theorem dX5_setBit_17 : decode cX5_setBit 17 = .ok (.dup2, 1) := by decide +kernel
theorem dX5_setBit_18 : decode cX5_setBit 18 = .ok (.laload, 1) := by decide +kernel
theorem dX5_setBit_19 : decode cX5_setBit 19 = .ok (.lconst 1, 1) := by decide +kernel
theorem dX5_setBit_20 : decode cX5_setBit 20 = .ok (.iload_n 1, 1) := by decide +kernel
theorem dX5_setBit_21 : decode cX5_setBit 21 = .ok (.lshl, 1) := by decide +kernel
theorem dX5_setBit_22 : decode cX5_setBit 22 = .ok (.lor, 1) := by decide +kernel
theorem dX5_setBit_23 : decode cX5_setBit 23 = .ok (.lastore, 1) := by decide +kernel
theorem dX5_setBit_24 : decode cX5_setBit 24 = .ok (.return_, 1) := by decide +kernel
theorem dX5_clearBit_0 : decode cX5_clearBit 0 = .ok (.iload_n 1, 1) := by decide +kernel
theorem dX5_clearBit_1 : decode cX5_clearBit 1 = .ok (.bipush 6, 2) := by decide +kernel
theorem dX5_clearBit_3 : decode cX5_clearBit 3 = .ok (.ishr, 1) := by decide +kernel
theorem dX5_clearBit_4 : decode cX5_clearBit 4 = .ok (.istore_n 2, 1) := by decide +kernel
theorem dX5_clearBit_5 : decode cX5_clearBit 5 = .ok (.iload_n 2, 1) := by decide +kernel
theorem dX5_clearBit_6 : decode cX5_clearBit 6 = .ok (.ifCond .lt 22, 3) := by decide +kernel
theorem dX5_clearBit_9 : decode cX5_clearBit 9 = .ok (.iload_n 2, 1) := by decide +kernel
theorem dX5_clearBit_10 : decode cX5_clearBit 10 = .ok (.aload_n 0, 1) := by decide +kernel
theorem dX5_clearBit_11 : decode cX5_clearBit 11 = .ok (.arraylength, 1) := by decide +kernel
theorem dX5_clearBit_12 : decode cX5_clearBit 12 = .ok (.if_icmp .ge 16, 3) := by decide +kernel
theorem dX5_clearBit_15 : decode cX5_clearBit 15 = .ok (.aload_n 0, 1) := by decide +kernel
theorem dX5_clearBit_16 : decode cX5_clearBit 16 = .ok (.iload_n 2, 1) := by decide +kernel
theorem dX5_clearBit_17 : decode cX5_clearBit 17 = .ok (.dup2, 1) := by decide +kernel
theorem dX5_clearBit_18 : decode cX5_clearBit 18 = .ok (.laload, 1) := by decide +kernel
theorem dX5_clearBit_19 : decode cX5_clearBit 19 = .ok (.lconst 1, 1) := by decide +kernel
theorem dX5_clearBit_20 : decode cX5_clearBit 20 = .ok (.iload_n 1, 1) := by decide +kernel
theorem dX5_clearBit_21 : decode cX5_clearBit 21 = .ok (.lshl, 1) := by decide +kernel
theorem dX5_clearBit_22 : decode cX5_clearBit 22 = .ok (.ldc2_w 217, 3) := by decide +kernel
theorem dX5_clearBit_25 : decode cX5_clearBit 25 = .ok (.lxor, 1) := by decide +kernel
theorem dX5_clearBit_26 : decode cX5_clearBit 26 = .ok (.land, 1) := by decide +kernel
theorem dX5_clearBit_27 : decode cX5_clearBit 27 = .ok (.lastore, 1) := by decide +kernel
theorem dX5_clearBit_28 : decode cX5_clearBit 28 = .ok (.return_, 1) := by decide +kernel
theorem dX6_init_0 : decode cX6_init 0 = .ok (.aload_n 0, 1) := by decide +kernel
theorem dX6_init_1 : decode cX6_init 1 = .ok (.invokespecial 1, 3) := by decide +kernel
theorem dX6_init_4 : decode cX6_init 4 = .ok (.aload_n 0, 1) := by decide +kernel
theorem dX6_init_5 : decode cX6_init 5 = .ok (.iconst 2, 1) := by decide +kernel
theorem dX6_init_6 : decode cX6_init 6 = .ok (.putfield 7, 3) := by decide +kernel
theorem dX6_init_9 : decode cX6_init 9 = .ok (.aload_n 0, 1) := by decide +kernel
theorem dX6_init_10 : decode cX6_init 10 = .ok (.bipush 84, 2) := by decide +kernel
theorem dX6_init_12 : decode cX6_init 12 = .ok (.newarray .int, 2) := by decide +kernel
theorem dX6_init_14 : decode cX6_init 14 = .ok (.putfield 13, 3) := by decide +kernel
theorem dX6_init_17 : decode cX6_init 17 = .ok (.aload_n 0, 1) := by decide +kernel
theorem dX6_init_18 : decode cX6_init 18 = .ok (.bipush 84, 2) := by decide +kernel
theorem dX6_init_20 : decode cX6_init 20 = .ok (.newarray .int, 2) := by decide +kernel
theorem dX6_init_22 : decode cX6_init 22 = .ok (.putfield 17, 3) := by decide +kernel
theorem dX6_init_25 : decode cX6_init 25 = .ok (.aload_n 0, 1) := by decide +kernel
theorem dX6_init_26 : decode cX6_init 26 = .ok (.sipush 252, 3) := by decide +kernel
theorem dX6_init_29 : decode cX6_init 29 = .ok (.newarray .long, 2) := by decide +kernel
theorem dX6_init_31 : decode cX6_init 31 = .ok (.putfield 20, 3) := by decide +kernel
theorem dX6_init_34 : decode cX6_init 34 = .ok (.aload_n 0, 1) := by decide +kernel
theorem dX6_init_35 : decode cX6_init 35 = .ok (.sipush 4096, 3) := by decide +kernel
theorem dX6_init_38 : decode cX6_init 38 = .ok (.newarray .boolean, 2) := by decide +kernel
theorem dX6_init_40 : decode cX6_init 40 = .ok (.putfield 24, 3) := by decide +kernel
theorem dX6_init_43 : decode cX6_init 43 = .ok (.aload_n 0, 1) := by decide +kernel
theorem dX6_init_44 : decode cX6_init 44 = .ok (.sipush 325, 3) := by decide +kernel
theorem dX6_init_47 : decode cX6_init 47 = .ok (.newarray .int, 2) := by decide +kernel
theorem dX6_init_49 : decode cX6_init 49 = .ok (.putfield 28, 3) := by decide +kernel
theorem dX6_init_52 : decode cX6_init 52 = .ok (.aload_n 0, 1) := by decide +kernel
theorem dX6_init_53 : decode cX6_init 53 = .ok (.bipush 65, 2) := by decide +kernel
theorem dX6_init_55 : decode cX6_init 55 = .ok (.newarray .int, 2) := by decide +kernel
theorem dX6_init_57 : decode cX6_init 57 = .ok (.putfield 31, 3) := by decide +kernel
theorem dX6_init_60 : decode cX6_init 60 = .ok (.aload_n 0, 1) := by decide +kernel
theorem dX6_init_61 : decode cX6_init 61 = .ok (.iconst 2, 1) := by decide +kernel
theorem dX6_init_62 : decode cX6_init 62 = .ok (.newarray .int, 2) := by decide +kernel
theorem dX6_init_64 : decode cX6_init 64 = .ok (.putfield 34, 3) := by decide +kernel
theorem dX6_init_67 : decode cX6_init 67 = .ok (.aload_n 0, 1) := by decide +kernel
theorem dX6_init_68 : decode cX6_init 68 = .ok (.iconst 2, 1) := by decide +kernel
theorem dX6_init_69 : decode cX6_init 69 = .ok (.newarray .boolean, 2) := by decide +kernel
theorem dX6_init_71 : decode cX6_init 71 = .ok (.putfield 37, 3) := by decide +kernel
theorem dX6_init_74 : decode cX6_init 74 = .ok (.iconst 0, 1) := by decide +kernel
theorem dX6_init_75 : decode cX6_init 75 = .ok (.istore_n 1, 1) := by decide +kernel
theorem dX6_init_76 : decode cX6_init 76 = .ok (.iload_n 1, 1) := by decide +kernel
theorem dX6_init_77 : decode cX6_init 77 = .ok (.bipush 84, 2) := by decide +kernel
theorem dX6_init_79 : decode cX6_init 79 = .ok (.if_icmp .ge 16, 3) := by decide +kernel
theorem dX6_init_82 : decode cX6_init 82 = .ok (.aload_n 0, 1) := by decide +kernel
theorem dX6_init_83 : decode cX6_init 83 = .ok (.getfield 17, 3) := by decide +kernel
theorem dX6_init_86 : decode cX6_init 86 = .ok (.iload_n 1, 1) := by decide +kernel
theorem dX6_init_87 : decode cX6_init 87 = .ok (.iconst 1, 1) := by decide +kernel
theorem dX6_init_88 : decode cX6_init 88 = .ok (.iastore, 1) := by decide +kernel
theorem dX6_init_89 : decode cX6_init 89 = .ok (.iinc 1 1, 3) := by decide +kernel
theorem dX6_init_92 : decode cX6_init 92 = .ok (.goto (-16), 3) := by decide +kernel
theorem dX6_init_95 : decode cX6_init 95 = .ok (.return_, 1) := by decide +kernel
theorem dX6_in_0 : decode cX6_in 0 = .ok (.iload_n 0, 1) := by decide +kernel
theorem dX6_in_1 : decode cX6_in 1 = .ok (.iload_n 1, 1) := by decide +kernel
theorem dX6_in_2 : decode cX6_in 2 = .ok (.if_icmp .lt 12, 3) := by decide +kernel
theorem dX6_in_5 : decode cX6_in 5 = .ok (.iload_n 0, 1) := by decide +kernel
theorem dX6_in_6 : decode cX6_in 6 = .ok (.iload_n 2, 1) := by decide +kernel
theorem dX6_in_7 : decode cX6_in 7 = .ok (.if_icmp .gt 7, 3) := by decide +kernel
theorem dX6_in_10 : decode cX6_in 10 = .ok (.iconst 1, 1) := by decide +kernel
theorem dX6_in_11 : decode cX6_in 11 = .ok (.goto 4, 3) := by decide +kernel
theorem dX6_in_14 : decode cX6_in 14 = .ok (.iconst 0, 1) := by decide +kernel
theorem dX6_in_15 : decode cX6_in 15 = .ok (.ireturn, 1) := by decide +kernel
theorem dX6_isSlot_0 : decode cX6_isSlot 0 = .ok (.iload_n 0, 1) := by decide +kernel
theorem dX6_isSlot_1 : decode cX6_isSlot 1 = .ok (.iconst 0, 1) := by decide +kernel
theorem dX6_isSlot_2 : decode cX6_isSlot 2 = .ok (.iconst 5, 1) := by decide +kernel
theorem dX6_isSlot_3 : decode cX6_isSlot 3 = .ok (.invokestatic 40, 3) := by decide +kernel
theorem dX6_isSlot_6 : decode cX6_isSlot 6 = .ok (.ireturn, 1) := by decide +kernel
theorem dX6_isIn_0 : decode cX6_isIn 0 = .ok (.aload_n 0, 1) := by decide +kernel
theorem dX6_isIn_1 : decode cX6_isIn 1 = .ok (.getfield 13, 3) := by decide +kernel
theorem dX6_isIn_4 : decode cX6_isIn 4 = .ok (.iload_n 1, 1) := by decide +kernel
theorem dX6_isIn_5 : decode cX6_isIn 5 = .ok (.iaload, 1) := by decide +kernel
theorem dX6_isIn_6 : decode cX6_isIn 6 = .ok (.istore_n 3, 1) := by decide +kernel
theorem dX6_isIn_7 : decode cX6_isIn 7 = .ok (.aload_n 0, 1) := by decide +kernel
theorem dX6_isIn_8 : decode cX6_isIn 8 = .ok (.getfield 17, 3) := by decide +kernel
theorem dX6_isIn_11 : decode cX6_isIn 11 = .ok (.iload_n 1, 1) := by decide +kernel
theorem dX6_isIn_12 : decode cX6_isIn 12 = .ok (.iaload, 1) := by decide +kernel
theorem dX6_isIn_13 : decode cX6_isIn 13 = .ok (.istore 4, 2) := by decide +kernel
theorem dX6_isIn_15 : decode cX6_isIn 15 = .ok (.iload_n 2, 1) := by decide +kernel
theorem dX6_isIn_16 : decode cX6_isIn 16 = .ok (.iload_n 3, 1) := by decide +kernel
theorem dX6_isIn_17 : decode cX6_isIn 17 = .ok (.iload 4, 2) := by decide +kernel
theorem dX6_isIn_19 : decode cX6_isIn 19 = .ok (.iadd, 1) := by decide +kernel
theorem dX6_isIn_20 : decode cX6_isIn 20 = .ok (.if_icmp .ge 7, 3) := by decide +kernel
theorem dX6_isIn_23 : decode cX6_isIn 23 = .ok (.iload_n 2, 1) := by decide +kernel
theorem dX6_isIn_24 : decode cX6_isIn 24 = .ok (.goto 11, 3) := by decide +kernel
theorem dX6_isIn_27 : decode cX6_isIn 27 = .ok (.iload_n 3, 1) := by decide +kernel
theorem dX6_isIn_28 : decode cX6_isIn 28 = .ok (.iload_n 2, 1) := by decide +kernel
theorem dX6_isIn_29 : decode cX6_isIn 29 = .ok (.iload_n 3, 1) := by decide +kernel
theorem dX6_isIn_30 : decode cX6_isIn 30 = .ok (.isub, 1) := by decide +kernel
theorem dX6_isIn_31 : decode cX6_isIn 31 = .ok (.iload 4, 2) := by decide +kernel
theorem dX6_isIn_33 : decode cX6_isIn 33 = .ok (.irem, 1) := by decide +kernel
theorem dX6_isIn_34 : decode cX6_isIn 34 = .ok (.iadd, 1) := by decide +kernel
theorem dX6_isIn_35 : decode cX6_isIn 35 = .ok (.istore 5, 2) := by decide +kernel
theorem dX6_isIn_37 : decode cX6_isIn 37 = .ok (.aload_n 0, 1) := by decide +kernel
theorem dX6_isIn_38 : decode cX6_isIn 38 = .ok (.getfield 20, 3) := by decide +kernel
theorem dX6_isIn_41 : decode cX6_isIn 41 = .ok (.iconst 3, 1) := by decide +kernel
theorem dX6_isIn_42 : decode cX6_isIn 42 = .ok (.iload_n 1, 1) := by decide +kernel
theorem dX6_isIn_43 : decode cX6_isIn 43 = .ok (.imul, 1) := by decide +kernel
theorem dX6_isIn_44 : decode cX6_isIn 44 = .ok (.iload 5, 2) := by decide +kernel
theorem dX6_isIn_46 : decode cX6_isIn 46 = .ok (.bipush 64, 2) := by decide +kernel
theorem dX6_isIn_48 : decode cX6_isIn 48 = .ok (.idiv, 1) := by decide +kernel
theorem dX6_isIn_49 : decode cX6_isIn 49 = .ok (.iadd, 1) := by decide +kernel
theorem dX6_isIn_50 : decode cX6_isIn 50 = .ok (.laload, 1) := by decide +kernel
theorem dX6_isIn_51 : decode cX6_isIn 51 = .ok (.iload 5, 2) := by decide +kernel
theorem dX6_isIn_53 : decode cX6_isIn 53 = .ok (.bipush 64, 2) := by decide +kernel
theorem dX6_isIn_55 : decode cX6_isIn 55 = .ok (.irem, 1) := by decide +kernel
theorem dX6_isIn_56 : decode cX6_isIn 56 = .ok (.lshr, 1) := by decide +kernel
theorem dX6_isIn_57 : decode cX6_isIn 57 = .ok (.lconst 1, 1) := by decide +kernel
theorem dX6_isIn_58 : decode cX6_isIn 58 = .ok (.land, 1) := by decide +kernel
theorem dX6_isIn_59 : decode cX6_isIn 59 = .ok (.lconst 1, 1) := by decide +kernel
theorem dX6_isIn_60 : decode cX6_isIn 60 = .ok (.lcmp, 1) := by decide +kernel
theorem dX6_isIn_61 : decode cX6_isIn 61 = .ok (.ifCond .ne 7, 3) := by decide +kernel
theorem dX6_isIn_64 : decode cX6_isIn 64 = .ok (.iconst 1, 1) := by decide +kernel
theorem dX6_isIn_65 : decode cX6_isIn 65 = .ok (.goto 4, 3) := by decide +kernel
theorem dX6_isIn_68 : decode cX6_isIn 68 = .ok (.iconst 0, 1) := by decide +kernel
theorem dX6_isIn_69 : decode cX6_isIn 69 = .ok (.ireturn, 1) := by decide +kernel
theorem dX6_copy_0 : decode cX6_copy 0 = .ok (.aload_n 0, 1) := by decide +kernel
theorem dX6_copy_1 : decode cX6_copy 1 = .ok (.getfield 13, 3) := by decide +kernel
theorem dX6_copy_4 : decode cX6_copy 4 = .ok (.iload_n 2, 1) := by decide +kernel
theorem dX6_copy_5 : decode cX6_copy 5 = .ok (.aload_n 0, 1) := by decide +kernel
theorem dX6_copy_6 : decode cX6_copy 6 = .ok (.getfield 13, 3) := by decide +kernel
theorem dX6_copy_9 : decode cX6_copy 9 = .ok (.iload_n 1, 1) := by decide +kernel
theorem dX6_copy_10 : decode cX6_copy 10 = .ok (.iaload, 1) := by decide +kernel
theorem dX6_copy_11 : decode cX6_copy 11 = .ok (.iastore, 1) := by decide +kernel
theorem dX6_copy_12 : decode cX6_copy 12 = .ok (.aload_n 0, 1) := by decide +kernel
theorem dX6_copy_13 : decode cX6_copy 13 = .ok (.getfield 17, 3) := by decide +kernel
theorem dX6_copy_16 : decode cX6_copy 16 = .ok (.iload_n 2, 1) := by decide +kernel
theorem dX6_copy_17 : decode cX6_copy 17 = .ok (.aload_n 0, 1) := by decide +kernel
theorem dX6_copy_18 : decode cX6_copy 18 = .ok (.getfield 17, 3) := by decide +kernel
theorem dX6_copy_21 : decode cX6_copy 21 = .ok (.iload_n 1, 1) := by decide +kernel
theorem dX6_copy_22 : decode cX6_copy 22 = .ok (.iaload, 1) := by decide +kernel
theorem dX6_copy_23 : decode cX6_copy 23 = .ok (.iastore, 1) := by decide +kernel
theorem dX6_copy_24 : decode cX6_copy 24 = .ok (.iconst 0, 1) := by decide +kernel
theorem dX6_copy_25 : decode cX6_copy 25 = .ok (.istore_n 3, 1) := by decide +kernel
theorem dX6_copy_26 : decode cX6_copy 26 = .ok (.iload_n 3, 1) := by decide +kernel
theorem dX6_copy_27 : decode cX6_copy 27 = .ok (.iconst 3, 1) := by decide +kernel
theorem dX6_copy_28 : decode cX6_copy 28 = .ok (.if_icmp .ge 29, 3) := by decide +kernel
theorem dX6_copy_31 : decode cX6_copy 31 = .ok (.aload_n 0, 1) := by decide +kernel
theorem dX6_copy_32 : decode cX6_copy 32 = .ok (.getfield 20, 3) := by decide +kernel
theorem dX6_copy_35 : decode cX6_copy 35 = .ok (.iconst 3, 1) := by decide +kernel
theorem dX6_copy_36 : decode cX6_copy 36 = .ok (.iload_n 2, 1) := by decide +kernel
theorem dX6_copy_37 : decode cX6_copy 37 = .ok (.imul, 1) := by decide +kernel
theorem dX6_copy_38 : decode cX6_copy 38 = .ok (.iload_n 3, 1) := by decide +kernel
theorem dX6_copy_39 : decode cX6_copy 39 = .ok (.iadd, 1) := by decide +kernel
theorem dX6_copy_40 : decode cX6_copy 40 = .ok (.aload_n 0, 1) := by decide +kernel
theorem dX6_copy_41 : decode cX6_copy 41 = .ok (.getfield 20, 3) := by decide +kernel
theorem dX6_copy_44 : decode cX6_copy 44 = .ok (.iconst 3, 1) := by decide +kernel
theorem dX6_copy_45 : decode cX6_copy 45 = .ok (.iload_n 1, 1) := by decide +kernel
theorem dX6_copy_46 : decode cX6_copy 46 = .ok (.imul, 1) := by decide +kernel
theorem dX6_copy_47 : decode cX6_copy 47 = .ok (.iload_n 3, 1) := by decide +kernel
theorem dX6_copy_48 : decode cX6_copy 48 = .ok (.iadd, 1) := by decide +kernel
theorem dX6_copy_49 : decode cX6_copy 49 = .ok (.laload, 1) := by decide +kernel
theorem dX6_copy_50 : decode cX6_copy 50 = .ok (.lastore, 1) := by decide +kernel
theorem dX6_copy_51 : decode cX6_copy 51 = .ok (.iinc 3 1, 3) := by decide +kernel
theorem dX6_copy_54 : decode cX6_copy 54 = .ok (.goto (-28), 3) := by decide +kernel
theorem dX6_copy_57 : decode cX6_copy 57 = .ok (.return_, 1) := by decide +kernel
theorem dX6_areSame_0 : decode cX6_areSame 0 = .ok (.aload_n 0, 1) := by decide +kernel
theorem dX6_areSame_1 : decode cX6_areSame 1 = .ok (.getfield 13, 3) := by decide +kernel
theorem dX6_areSame_4 : decode cX6_areSame 4 = .ok (.iload_n 1, 1) := by decide +kernel
theorem dX6_areSame_5 : decode cX6_areSame 5 = .ok (.iaload, 1) := by decide +kernel
theorem dX6_areSame_6 : decode cX6_areSame 6 = .ok (.aload_n 0, 1) := by decide +kernel
theorem dX6_areSame_7 : decode cX6_areSame 7 = .ok (.getfield 13, 3) := by decide +kernel
theorem dX6_areSame_10 : decode cX6_areSame 10 = .ok (.iload_n 2, 1) := by decide +kernel
theorem dX6_areSame_11 : decode cX6_areSame 11 = .ok (.iaload, 1) := by decide +kernel
theorem dX6_areSame_12 : decode cX6_areSame 12 = .ok (.if_icmp .ne 22, 3) := by decide +kernel
theorem dX6_areSame_15 : decode cX6_areSame 15 = .ok (.aload_n 0, 1) := by decide +kernel
theorem dX6_areSame_16 : decode cX6_areSame 16 = .ok (.getfield 17, 3) := by decide +kernel
theorem dX6_areSame_19 : decode cX6_areSame 19 = .ok (.iload_n 1, 1) := by decide +kernel
theorem dX6_areSame_20 : decode cX6_areSame 20 = .ok (.iaload, 1) := by decide +kernel
theorem dX6_areSame_21 : decode cX6_areSame 21 = .ok (.aload_n 0, 1) := by decide +kernel
theorem dX6_areSame_22 : decode cX6_areSame 22 = .ok (.getfield 17, 3) := by decide +kernel
theorem dX6_areSame_25 : decode cX6_areSame 25 = .ok (.iload_n 2, 1) := by decide +kernel
theorem dX6_areSame_26 : decode cX6_areSame 26 = .ok (.iaload, 1) := by decide +kernel
theorem dX6_areSame_27 : decode cX6_areSame 27 = .ok (.if_icmp .ne 7, 3) := by decide +kernel
theorem dX6_areSame_30 : decode cX6_areSame 30 = .ok (.iconst 1, 1) := by decide +kernel
theorem dX6_areSame_31 : decode cX6_areSame 31 = .ok (.goto 4, 3) := by decide +kernel
theorem dX6_areSame_34 : decode cX6_areSame 34 = .ok (.iconst 0, 1) := by decide +kernel
theorem dX6_areSame_35 : decode cX6_areSame 35 = .ok (.istore_n 3, 1) := by decide +kernel
theorem dX6_areSame_36 : decode cX6_areSame 36 = .ok (.iconst 0, 1) := by decide +kernel
theorem dX6_areSame_37 : decode cX6_areSame 37 = .ok (.istore 4, 2) := by decide +kernel
theorem dX6_areSame_39 : decode cX6_areSame 39 = .ok (.iload 4, 2) := by decide +kernel
theorem dX6_areSame_41 : decode cX6_areSame 41 = .ok (.iconst 3, 1) := by decide +kernel
theorem dX6_areSame_42 : decode cX6_areSame 42 = .ok (.if_icmp .ge 45, 3) := by decide +kernel
theorem dX6_areSame_45 : decode cX6_areSame 45 = .ok (.iload_n 3, 1) := by decide +kernel
theorem dX6_areSame_46 : decode cX6_areSame 46 = .ok (.ifCond .eq 33, 3) := by decide +kernel
theorem dX6_areSame_49 : decode cX6_areSame 49 = .ok (.aload_n 0, 1) := by decide +kernel
theorem dX6_areSame_50 : decode cX6_areSame 50 = .ok (.getfield 20, 3) := by decide +kernel
theorem dX6_areSame_53 : decode cX6_areSame 53 = .ok (.iconst 3, 1) := by decide +kernel
theorem dX6_areSame_54 : decode cX6_areSame 54 = .ok (.iload_n 1, 1) := by decide +kernel
theorem dX6_areSame_55 : decode cX6_areSame 55 = .ok (.imul, 1) := by decide +kernel
theorem dX6_areSame_56 : decode cX6_areSame 56 = .ok (.iload 4, 2) := by decide +kernel
theorem dX6_areSame_58 : decode cX6_areSame 58 = .ok (.iadd, 1) := by decide +kernel
theorem dX6_areSame_59 : decode cX6_areSame 59 = .ok (.laload, 1) := by decide +kernel
theorem dX6_areSame_60 : decode cX6_areSame 60 = .ok (.aload_n 0, 1) := by decide +kernel
theorem dX6_areSame_61 : decode cX6_areSame 61 = .ok (.getfield 20, 3) := by decide +kernel
theorem dX6_areSame_64 : decode cX6_areSame 64 = .ok (.iconst 3, 1) := by decide +kernel
theorem dX6_areSame_65 : decode cX6_areSame 65 = .ok (.iload_n 2, 1) := by decide +kernel
theorem dX6_areSame_66 : decode cX6_areSame 66 = .ok (.imul, 1) := by decide +kernel
theorem dX6_areSame_67 : decode cX6_areSame 67 = .ok (.iload 4, 2) := by decide +kernel
theorem dX6_areSame_69 : decode cX6_areSame 69 = .ok (.iadd, 1) := by decide +kernel
theorem dX6_areSame_70 : decode cX6_areSame 70 = .ok (.laload, 1) := by decide +kernel
theorem dX6_areSame_71 : decode cX6_areSame 71 = .ok (.lcmp, 1) := by decide +kernel
theorem dX6_areSame_72 : decode cX6_areSame 72 = .ok (.ifCond .ne 7, 3) := by decide +kernel
theorem dX6_areSame_75 : decode cX6_areSame 75 = .ok (.iconst 1, 1) := by decide +kernel
theorem dX6_areSame_76 : decode cX6_areSame 76 = .ok (.goto 4, 3) := by decide +kernel
theorem dX6_areSame_79 : decode cX6_areSame 79 = .ok (.iconst 0, 1) := by decide +kernel
theorem dX6_areSame_80 : decode cX6_areSame 80 = .ok (.istore_n 3, 1) := by decide +kernel
theorem dX6_areSame_81 : decode cX6_areSame 81 = .ok (.iinc 4 1, 3) := by decide +kernel
theorem dX6_areSame_84 : decode cX6_areSame 84 = .ok (.goto (-45), 3) := by decide +kernel
theorem dX6_areSame_87 : decode cX6_areSame 87 = .ok (.iload_n 3, 1) := by decide +kernel
theorem dX6_areSame_88 : decode cX6_areSame 88 = .ok (.ireturn, 1) := by decide +kernel
theorem dX6_inRow_0 : decode cX6_inRow 0 = .ok (.aload_n 0, 1) := by decide +kernel
theorem dX6_inRow_1 : decode cX6_inRow 1 = .ok (.getfield 24, 3) := by decide +kernel
theorem dX6_inRow_4 : decode cX6_inRow 4 = .ok (.iload_n 1, 1) := by decide +kernel
theorem dX6_inRow_5 : decode cX6_inRow 5 = .ok (.aload_n 0, 1) := by decide +kernel
theorem dX6_inRow_6 : decode cX6_inRow 6 = .ok (.getfield 44, 3) := by decide +kernel
theorem dX6_inRow_9 : decode cX6_inRow 9 = .ok (.aload_n 0, 1) := by decide +kernel
theorem dX6_inRow_10 : decode cX6_inRow 10 = .ok (.getfield 47, 3) := by decide +kernel
theorem dX6_inRow_13 : decode cX6_inRow 13 = .ok (.iadd, 1) := by decide +kernel
theorem dX6_inRow_14 : decode cX6_inRow 14 = .ok (.if_icmp .ge 7, 3) := by decide +kernel
theorem dX6_inRow_17 : decode cX6_inRow 17 = .ok (.iload_n 1, 1) := by decide +kernel
theorem dX6_inRow_18 : decode cX6_inRow 18 = .ok (.goto 19, 3) := by decide +kernel
theorem dX6_inRow_21 : decode cX6_inRow 21 = .ok (.aload_n 0, 1) := by decide +kernel
theorem dX6_inRow_22 : decode cX6_inRow 22 = .ok (.getfield 44, 3) := by decide +kernel
theorem dX6_inRow_25 : decode cX6_inRow 25 = .ok (.iload_n 1, 1) := by decide +kernel
theorem dX6_inRow_26 : decode cX6_inRow 26 = .ok (.aload_n 0, 1) := by decide +kernel
theorem dX6_inRow_27 : decode cX6_inRow 27 = .ok (.getfield 44, 3) := by decide +kernel
theorem dX6_inRow_30 : decode cX6_inRow 30 = .ok (.isub, 1) := by decide +kernel
theorem dX6_inRow_31 : decode cX6_inRow 31 = .ok (.aload_n 0, 1) := by decide +kernel
theorem dX6_inRow_32 : decode cX6_inRow 32 = .ok (.getfield 47, 3) := by decide +kernel
theorem dX6_inRow_35 : decode cX6_inRow 35 = .ok (.irem, 1) := by decide +kernel
theorem dX6_inRow_36 : decode cX6_inRow 36 = .ok (.iadd, 1) := by decide +kernel
theorem dX6_inRow_37 : decode cX6_inRow 37 = .ok (.baload, 1) := by decide +kernel
theorem dX6_inRow_38 : decode cX6_inRow 38 = .ok (.ireturn, 1) := by decide +kernel
theorem dX6_shorten_0 : decode cX6_shorten 0 = .ok (.iconst 1, 1) := by decide +kernel
theorem dX6_shorten_1 : decode cX6_shorten 1 = .ok (.istore_n 1, 1) := by decide +kernel
theorem dX6_shorten_2 : decode cX6_shorten 2 = .ok (.aload_n 0, 1) := by decide +kernel
theorem dX6_shorten_3 : decode cX6_shorten 3 = .ok (.iload_n 1, 1) := by decide +kernel
theorem dX6_shorten_4 : decode cX6_shorten 4 = .ok (.invokevirtual 50, 3) := by decide +kernel
theorem dX6_shorten_7 : decode cX6_shorten 7 = .ok (.ifCond .ne 9, 3) := by decide +kernel
theorem dX6_shorten_10 : decode cX6_shorten 10 = .ok (.iinc 1 1, 3) := by decide +kernel
theorem dX6_shorten_13 : decode cX6_shorten 13 = .ok (.goto (-11), 3) := by decide +kernel
theorem dX6_shorten_16 : decode cX6_shorten 16 = .ok (.aload_n 0, 1) := by decide +kernel
theorem dX6_shorten_17 : decode cX6_shorten 17 = .ok (.getfield 44, 3) := by decide +kernel
theorem dX6_shorten_20 : decode cX6_shorten 20 = .ok (.istore_n 2, 1) := by decide +kernel
theorem dX6_shorten_21 : decode cX6_shorten 21 = .ok (.iload_n 2, 1) := by decide +kernel
theorem dX6_shorten_22 : decode cX6_shorten 22 = .ok (.ifCond .le 29, 3) := by decide +kernel
theorem dX6_shorten_25 : decode cX6_shorten 25 = .ok (.aload_n 0, 1) := by decide +kernel
theorem dX6_shorten_26 : decode cX6_shorten 26 = .ok (.getfield 24, 3) := by decide +kernel
theorem dX6_shorten_29 : decode cX6_shorten 29 = .ok (.iload_n 2, 1) := by decide +kernel
theorem dX6_shorten_30 : decode cX6_shorten 30 = .ok (.iconst 1, 1) := by decide +kernel
theorem dX6_shorten_31 : decode cX6_shorten 31 = .ok (.isub, 1) := by decide +kernel
theorem dX6_shorten_32 : decode cX6_shorten 32 = .ok (.baload, 1) := by decide +kernel
theorem dX6_shorten_33 : decode cX6_shorten 33 = .ok (.aload_n 0, 1) := by decide +kernel
theorem dX6_shorten_34 : decode cX6_shorten 34 = .ok (.iload_n 2, 1) := by decide +kernel
theorem dX6_shorten_35 : decode cX6_shorten 35 = .ok (.iconst 1, 1) := by decide +kernel
theorem dX6_shorten_36 : decode cX6_shorten 36 = .ok (.isub, 1) := by decide +kernel
theorem dX6_shorten_37 : decode cX6_shorten 37 = .ok (.iload_n 1, 1) := by decide +kernel
theorem dX6_shorten_38 : decode cX6_shorten 38 = .ok (.iadd, 1) := by decide +kernel
theorem dX6_shorten_39 : decode cX6_shorten 39 = .ok (.invokevirtual 54, 3) := by decide +kernel
theorem dX6_shorten_42 : decode cX6_shorten 42 = .ok (.if_icmp .ne 9, 3) := by decide +kernel
theorem dX6_shorten_45 : decode cX6_shorten 45 = .ok (.iinc 2 (-1), 3) := by decide +kernel
theorem dX6_shorten_48 : decode cX6_shorten 48 = .ok (.goto (-27), 3) := by decide +kernel
theorem dX6_shorten_51 : decode cX6_shorten 51 = .ok (.aload_n 0, 1) := by decide +kernel
theorem dX6_shorten_52 : decode cX6_shorten 52 = .ok (.iload_n 2, 1) := by decide +kernel
theorem dX6_shorten_53 : decode cX6_shorten 53 = .ok (.putfield 44, 3) := by decide +kernel
theorem dX6_shorten_56 : decode cX6_shorten 56 = .ok (.aload_n 0, 1) := by decide +kernel
theorem dX6_shorten_57 : decode cX6_shorten 57 = .ok (.iload_n 1, 1) := by decide +kernel
theorem dX6_shorten_58 : decode cX6_shorten 58 = .ok (.putfield 47, 3) := by decide +kernel
theorem dX6_shorten_61 : decode cX6_shorten 61 = .ok (.return_, 1) := by decide +kernel
theorem dX6_comesRound_0 : decode cX6_comesRound 0 = .ok (.aload_n 0, 1) := by decide +kernel
theorem dX6_comesRound_1 : decode cX6_comesRound 1 = .ok (.getfield 47, 3) := by decide +kernel
theorem dX6_comesRound_4 : decode cX6_comesRound 4 = .ok (.iload_n 1, 1) := by decide +kernel
theorem dX6_comesRound_5 : decode cX6_comesRound 5 = .ok (.irem, 1) := by decide +kernel
theorem dX6_comesRound_6 : decode cX6_comesRound 6 = .ok (.ifCond .eq 5, 3) := by decide +kernel
theorem dX6_comesRound_9 : decode cX6_comesRound 9 = .ok (.iconst 0, 1) := by decide +kernel
theorem dX6_comesRound_10 : decode cX6_comesRound 10 = .ok (.ireturn, 1) := by decide +kernel
theorem dX6_comesRound_11 : decode cX6_comesRound 11 = .ok (.iconst 1, 1) := by decide +kernel
theorem dX6_comesRound_12 : decode cX6_comesRound 12 = .ok (.istore_n 2, 1) := by decide +kernel
theorem dX6_comesRound_13 : decode cX6_comesRound 13 = .ok (.iconst 0, 1) := by decide +kernel
theorem dX6_comesRound_14 : decode cX6_comesRound 14 = .ok (.istore_n 3, 1) := by decide +kernel
theorem dX6_comesRound_15 : decode cX6_comesRound 15 = .ok (.iload_n 3, 1) := by decide +kernel
theorem dX6_comesRound_16 : decode cX6_comesRound 16 = .ok (.aload_n 0, 1) := by decide +kernel
theorem dX6_comesRound_17 : decode cX6_comesRound 17 = .ok (.getfield 47, 3) := by decide +kernel
theorem dX6_comesRound_20 : decode cX6_comesRound 20 = .ok (.if_icmp .ge 51, 3) := by decide +kernel
theorem dX6_comesRound_23 : decode cX6_comesRound 23 = .ok (.iload_n 2, 1) := by decide +kernel
theorem dX6_comesRound_24 : decode cX6_comesRound 24 = .ok (.ifCond .eq 39, 3) := by decide +kernel
theorem dX6_comesRound_27 : decode cX6_comesRound 27 = .ok (.aload_n 0, 1) := by decide +kernel
theorem dX6_comesRound_28 : decode cX6_comesRound 28 = .ok (.getfield 24, 3) := by decide +kernel
theorem dX6_comesRound_31 : decode cX6_comesRound 31 = .ok (.aload_n 0, 1) := by decide +kernel
theorem dX6_comesRound_32 : decode cX6_comesRound 32 = .ok (.getfield 44, 3) := by decide +kernel
theorem dX6_comesRound_35 : decode cX6_comesRound 35 = .ok (.iload_n 3, 1) := by decide +kernel
theorem dX6_comesRound_36 : decode cX6_comesRound 36 = .ok (.iadd, 1) := by decide +kernel
theorem dX6_comesRound_37 : decode cX6_comesRound 37 = .ok (.baload, 1) := by decide +kernel
theorem dX6_comesRound_38 : decode cX6_comesRound 38 = .ok (.aload_n 0, 1) := by decide +kernel
theorem dX6_comesRound_39 : decode cX6_comesRound 39 = .ok (.getfield 24, 3) := by decide +kernel
theorem dX6_comesRound_42 : decode cX6_comesRound 42 = .ok (.aload_n 0, 1) := by decide +kernel
theorem dX6_comesRound_43 : decode cX6_comesRound 43 = .ok (.getfield 44, 3) := by decide +kernel
theorem dX6_comesRound_46 : decode cX6_comesRound 46 = .ok (.iload_n 3, 1) := by decide +kernel
theorem dX6_comesRound_47 : decode cX6_comesRound 47 = .ok (.iload_n 1, 1) := by decide +kernel
theorem dX6_comesRound_48 : decode cX6_comesRound 48 = .ok (.iadd, 1) := by decide +kernel
theorem dX6_comesRound_49 : decode cX6_comesRound 49 = .ok (.aload_n 0, 1) := by decide +kernel
theorem dX6_comesRound_50 : decode cX6_comesRound 50 = .ok (.getfield 47, 3) := by decide +kernel
theorem dX6_comesRound_53 : decode cX6_comesRound 53 = .ok (.irem, 1) := by decide +kernel
theorem dX6_comesRound_54 : decode cX6_comesRound 54 = .ok (.iadd, 1) := by decide +kernel
theorem dX6_comesRound_55 : decode cX6_comesRound 55 = .ok (.baload, 1) := by decide +kernel
theorem dX6_comesRound_56 : decode cX6_comesRound 56 = .ok (.if_icmp .ne 7, 3) := by decide +kernel
theorem dX6_comesRound_59 : decode cX6_comesRound 59 = .ok (.iconst 1, 1) := by decide +kernel
theorem dX6_comesRound_60 : decode cX6_comesRound 60 = .ok (.goto 4, 3) := by decide +kernel
theorem dX6_comesRound_63 : decode cX6_comesRound 63 = .ok (.iconst 0, 1) := by decide +kernel
theorem dX6_comesRound_64 : decode cX6_comesRound 64 = .ok (.istore_n 2, 1) := by decide +kernel
theorem dX6_comesRound_65 : decode cX6_comesRound 65 = .ok (.iinc 3 1, 3) := by decide +kernel
theorem dX6_comesRound_68 : decode cX6_comesRound 68 = .ok (.goto (-53), 3) := by decide +kernel
theorem dX6_comesRound_71 : decode cX6_comesRound 71 = .ok (.iload_n 2, 1) := by decide +kernel
theorem dX6_comesRound_72 : decode cX6_comesRound 72 = .ok (.ireturn, 1) := by decide +kernel
theorem dX6_isKept_0 : decode cX6_isKept 0 = .ok (.aload_n 0, 1) := by decide +kernel
theorem dX6_isKept_1 : decode cX6_isKept 1 = .ok (.invokevirtual 57, 3) := by decide +kernel
theorem dX6_isKept_4 : decode cX6_isKept 4 = .ok (.aload_n 0, 1) := by decide +kernel
theorem dX6_isKept_5 : decode cX6_isKept 5 = .ok (.getfield 47, 3) := by decide +kernel
theorem dX6_isKept_8 : decode cX6_isKept 8 = .ok (.bipush 60, 2) := by decide +kernel
theorem dX6_isKept_10 : decode cX6_isKept 10 = .ok (.if_icmp .gt 12, 3) := by decide +kernel
theorem dX6_isKept_13 : decode cX6_isKept 13 = .ok (.aload_n 0, 1) := by decide +kernel
theorem dX6_isKept_14 : decode cX6_isKept 14 = .ok (.getfield 44, 3) := by decide +kernel
theorem dX6_isKept_17 : decode cX6_isKept 17 = .ok (.bipush 120, 2) := by decide +kernel
theorem dX6_isKept_19 : decode cX6_isKept 19 = .ok (.if_icmp .le 5, 3) := by decide +kernel
theorem dX6_isKept_22 : decode cX6_isKept 22 = .ok (.iconst 0, 1) := by decide +kernel
theorem dX6_isKept_23 : decode cX6_isKept 23 = .ok (.ireturn, 1) := by decide +kernel
theorem dX6_isKept_24 : decode cX6_isKept 24 = .ok (.aload_n 0, 1) := by decide +kernel
theorem dX6_isKept_25 : decode cX6_isKept 25 = .ok (.getfield 13, 3) := by decide +kernel
theorem dX6_isKept_28 : decode cX6_isKept 28 = .ok (.iload_n 1, 1) := by decide +kernel
theorem dX6_isKept_29 : decode cX6_isKept 29 = .ok (.aload_n 0, 1) := by decide +kernel
theorem dX6_isKept_30 : decode cX6_isKept 30 = .ok (.getfield 44, 3) := by decide +kernel
theorem dX6_isKept_33 : decode cX6_isKept 33 = .ok (.iastore, 1) := by decide +kernel
theorem dX6_isKept_34 : decode cX6_isKept 34 = .ok (.aload_n 0, 1) := by decide +kernel
theorem dX6_isKept_35 : decode cX6_isKept 35 = .ok (.getfield 17, 3) := by decide +kernel
theorem dX6_isKept_38 : decode cX6_isKept 38 = .ok (.iload_n 1, 1) := by decide +kernel
theorem dX6_isKept_39 : decode cX6_isKept 39 = .ok (.aload_n 0, 1) := by decide +kernel
theorem dX6_isKept_40 : decode cX6_isKept 40 = .ok (.getfield 47, 3) := by decide +kernel
theorem dX6_isKept_43 : decode cX6_isKept 43 = .ok (.iastore, 1) := by decide +kernel
theorem dX6_isKept_44 : decode cX6_isKept 44 = .ok (.iconst 0, 1) := by decide +kernel
theorem dX6_isKept_45 : decode cX6_isKept 45 = .ok (.istore_n 2, 1) := by decide +kernel
theorem dX6_isKept_46 : decode cX6_isKept 46 = .ok (.iload_n 2, 1) := by decide +kernel
theorem dX6_isKept_47 : decode cX6_isKept 47 = .ok (.iconst 3, 1) := by decide +kernel
theorem dX6_isKept_48 : decode cX6_isKept 48 = .ok (.if_icmp .ge 20, 3) := by decide +kernel
theorem dX6_isKept_51 : decode cX6_isKept 51 = .ok (.aload_n 0, 1) := by decide +kernel
theorem dX6_isKept_52 : decode cX6_isKept 52 = .ok (.getfield 20, 3) := by decide +kernel
theorem dX6_isKept_55 : decode cX6_isKept 55 = .ok (.iconst 3, 1) := by decide +kernel
theorem dX6_isKept_56 : decode cX6_isKept 56 = .ok (.iload_n 1, 1) := by decide +kernel
theorem dX6_isKept_57 : decode cX6_isKept 57 = .ok (.imul, 1) := by decide +kernel
theorem dX6_isKept_58 : decode cX6_isKept 58 = .ok (.iload_n 2, 1) := by decide +kernel
theorem dX6_isKept_59 : decode cX6_isKept 59 = .ok (.iadd, 1) := by decide +kernel
theorem dX6_isKept_60 : decode cX6_isKept 60 = .ok (.lconst 0, 1) := by decide +kernel
theorem dX6_isKept_61 : decode cX6_isKept 61 = .ok (.lastore, 1) := by decide +kernel
theorem dX6_isKept_62 : decode cX6_isKept 62 = .ok (.iinc 2 1, 3) := by decide +kernel
theorem dX6_isKept_65 : decode cX6_isKept 65 = .ok (.goto (-19), 3) := by decide +kernel
theorem dX6_isKept_68 : decode cX6_isKept 68 = .ok (.iconst 0, 1) := by decide +kernel
theorem dX6_isKept_69 : decode cX6_isKept 69 = .ok (.istore_n 2, 1) := by decide +kernel
theorem dX6_isKept_70 : decode cX6_isKept 70 = .ok (.iload_n 2, 1) := by decide +kernel
theorem dX6_isKept_71 : decode cX6_isKept 71 = .ok (.aload_n 0, 1) := by decide +kernel
theorem dX6_isKept_72 : decode cX6_isKept 72 = .ok (.getfield 44, 3) := by decide +kernel
theorem dX6_isKept_75 : decode cX6_isKept 75 = .ok (.aload_n 0, 1) := by decide +kernel
theorem dX6_isKept_76 : decode cX6_isKept 76 = .ok (.getfield 47, 3) := by decide +kernel
theorem dX6_isKept_79 : decode cX6_isKept 79 = .ok (.iadd, 1) := by decide +kernel
theorem dX6_isKept_80 : decode cX6_isKept 80 = .ok (.if_icmp .ge 44, 3) := by decide +kernel
theorem dX6_isKept_83 : decode cX6_isKept 83 = .ok (.aload_n 0, 1) := by decide +kernel
theorem dX6_isKept_84 : decode cX6_isKept 84 = .ok (.getfield 20, 3) := by decide +kernel
theorem dX6_isKept_87 : decode cX6_isKept 87 = .ok (.iconst 3, 1) := by decide +kernel
theorem dX6_isKept_88 : decode cX6_isKept 88 = .ok (.iload_n 1, 1) := by decide +kernel
theorem dX6_isKept_89 : decode cX6_isKept 89 = .ok (.imul, 1) := by decide +kernel
theorem dX6_isKept_90 : decode cX6_isKept 90 = .ok (.iload_n 2, 1) := by decide +kernel
theorem dX6_isKept_91 : decode cX6_isKept 91 = .ok (.bipush 64, 2) := by decide +kernel
theorem dX6_isKept_93 : decode cX6_isKept 93 = .ok (.idiv, 1) := by decide +kernel
theorem dX6_isKept_94 : decode cX6_isKept 94 = .ok (.iadd, 1) := by decide +kernel
theorem dX6_isKept_95 : decode cX6_isKept 95 = .ok (.dup2, 1) := by decide +kernel
theorem dX6_isKept_96 : decode cX6_isKept 96 = .ok (.laload, 1) := by decide +kernel
theorem dX6_isKept_97 : decode cX6_isKept 97 = .ok (.aload_n 0, 1) := by decide +kernel
theorem dX6_isKept_98 : decode cX6_isKept 98 = .ok (.getfield 24, 3) := by decide +kernel
theorem dX6_isKept_101 : decode cX6_isKept 101 = .ok (.iload_n 2, 1) := by decide +kernel
theorem dX6_isKept_102 : decode cX6_isKept 102 = .ok (.baload, 1) := by decide +kernel
theorem dX6_isKept_103 : decode cX6_isKept 103 = .ok (.ifCond .eq 12, 3) := by decide +kernel
theorem dX6_isKept_106 : decode cX6_isKept 106 = .ok (.lconst 1, 1) := by decide +kernel
theorem dX6_isKept_107 : decode cX6_isKept 107 = .ok (.iload_n 2, 1) := by decide +kernel
theorem dX6_isKept_108 : decode cX6_isKept 108 = .ok (.bipush 64, 2) := by decide +kernel
theorem dX6_isKept_110 : decode cX6_isKept 110 = .ok (.irem, 1) := by decide +kernel
theorem dX6_isKept_111 : decode cX6_isKept 111 = .ok (.lshl, 1) := by decide +kernel
theorem dX6_isKept_112 : decode cX6_isKept 112 = .ok (.goto 4, 3) := by decide +kernel
theorem dX6_isKept_115 : decode cX6_isKept 115 = .ok (.lconst 0, 1) := by decide +kernel
theorem dX6_isKept_116 : decode cX6_isKept 116 = .ok (.lor, 1) := by decide +kernel
theorem dX6_isKept_117 : decode cX6_isKept 117 = .ok (.lastore, 1) := by decide +kernel
theorem dX6_isKept_118 : decode cX6_isKept 118 = .ok (.iinc 2 1, 3) := by decide +kernel
theorem dX6_isKept_121 : decode cX6_isKept 121 = .ok (.goto (-51), 3) := by decide +kernel
theorem dX6_isKept_124 : decode cX6_isKept 124 = .ok (.iconst 1, 1) := by decide +kernel
theorem dX6_isKept_125 : decode cX6_isKept 125 = .ok (.ireturn, 1) := by decide +kernel
theorem dX6_layRest_0 : decode cX6_layRest 0 = .ok (.aload_n 0, 1) := by decide +kernel
theorem dX6_layRest_1 : decode cX6_layRest 1 = .ok (.aload_n 0, 1) := by decide +kernel
theorem dX6_layRest_2 : decode cX6_layRest 2 = .ok (.getfield 13, 3) := by decide +kernel
theorem dX6_layRest_5 : decode cX6_layRest 5 = .ok (.iload_n 1, 1) := by decide +kernel
theorem dX6_layRest_6 : decode cX6_layRest 6 = .ok (.iaload, 1) := by decide +kernel
theorem dX6_layRest_7 : decode cX6_layRest 7 = .ok (.putfield 44, 3) := by decide +kernel
theorem dX6_layRest_10 : decode cX6_layRest 10 = .ok (.aload_n 0, 1) := by decide +kernel
theorem dX6_layRest_11 : decode cX6_layRest 11 = .ok (.aload_n 0, 1) := by decide +kernel
theorem dX6_layRest_12 : decode cX6_layRest 12 = .ok (.getfield 17, 3) := by decide +kernel
theorem dX6_layRest_15 : decode cX6_layRest 15 = .ok (.iload_n 1, 1) := by decide +kernel
theorem dX6_layRest_16 : decode cX6_layRest 16 = .ok (.iaload, 1) := by decide +kernel
theorem dX6_layRest_17 : decode cX6_layRest 17 = .ok (.putfield 47, 3) := by decide +kernel
theorem dX6_layRest_20 : decode cX6_layRest 20 = .ok (.iconst 0, 1) := by decide +kernel
theorem dX6_layRest_21 : decode cX6_layRest 21 = .ok (.istore 4, 2) := by decide +kernel
theorem dX6_layRest_23 : decode cX6_layRest 23 = .ok (.iload 4, 2) := by decide +kernel
theorem dX6_layRest_25 : decode cX6_layRest 25 = .ok (.aload_n 0, 1) := by decide +kernel
theorem dX6_layRest_26 : decode cX6_layRest 26 = .ok (.getfield 44, 3) := by decide +kernel
theorem dX6_layRest_29 : decode cX6_layRest 29 = .ok (.aload_n 0, 1) := by decide +kernel
theorem dX6_layRest_30 : decode cX6_layRest 30 = .ok (.getfield 47, 3) := by decide +kernel
theorem dX6_layRest_33 : decode cX6_layRest 33 = .ok (.iadd, 1) := by decide +kernel
theorem dX6_layRest_34 : decode cX6_layRest 34 = .ok (.if_icmp .ge 30, 3) := by decide +kernel
theorem dX6_layRest_37 : decode cX6_layRest 37 = .ok (.aload_n 0, 1) := by decide +kernel
theorem dX6_layRest_38 : decode cX6_layRest 38 = .ok (.getfield 24, 3) := by decide +kernel
theorem dX6_layRest_41 : decode cX6_layRest 41 = .ok (.iload 4, 2) := by decide +kernel
theorem dX6_layRest_43 : decode cX6_layRest 43 = .ok (.aload_n 0, 1) := by decide +kernel
theorem dX6_layRest_44 : decode cX6_layRest 44 = .ok (.iload_n 1, 1) := by decide +kernel
theorem dX6_layRest_45 : decode cX6_layRest 45 = .ok (.aload_n 0, 1) := by decide +kernel
theorem dX6_layRest_46 : decode cX6_layRest 46 = .ok (.getfield 7, 3) := by decide +kernel
theorem dX6_layRest_49 : decode cX6_layRest 49 = .ok (.iload 4, 2) := by decide +kernel
theorem dX6_layRest_51 : decode cX6_layRest 51 = .ok (.imul, 1) := by decide +kernel
theorem dX6_layRest_52 : decode cX6_layRest 52 = .ok (.iload_n 2, 1) := by decide +kernel
theorem dX6_layRest_53 : decode cX6_layRest 53 = .ok (.iadd, 1) := by decide +kernel
theorem dX6_layRest_54 : decode cX6_layRest 54 = .ok (.invokevirtual 60, 3) := by decide +kernel
theorem dX6_layRest_57 : decode cX6_layRest 57 = .ok (.bastore, 1) := by decide +kernel
theorem dX6_layRest_58 : decode cX6_layRest 58 = .ok (.iinc 4 1, 3) := by decide +kernel
theorem dX6_layRest_61 : decode cX6_layRest 61 = .ok (.goto (-38), 3) := by decide +kernel
theorem dX6_layRest_64 : decode cX6_layRest 64 = .ok (.aload_n 0, 1) := by decide +kernel
theorem dX6_layRest_65 : decode cX6_layRest 65 = .ok (.iload_n 3, 1) := by decide +kernel
theorem dX6_layRest_66 : decode cX6_layRest 66 = .ok (.invokevirtual 64, 3) := by decide +kernel
theorem dX6_layRest_69 : decode cX6_layRest 69 = .ok (.pop, 1) := by decide +kernel
theorem dX6_layRest_70 : decode cX6_layRest 70 = .ok (.return_, 1) := by decide +kernel
theorem dX6_layMachine_0 : decode cX6_layMachine 0 = .ok (.aload_n 0, 1) := by decide +kernel
theorem dX6_layMachine_1 : decode cX6_layMachine 1 = .ok (.iload_n 1, 1) := by decide +kernel
theorem dX6_layMachine_2 : decode cX6_layMachine 2 = .ok (.bipush 18, 2) := by decide +kernel
theorem dX6_layMachine_4 : decode cX6_layMachine 4 = .ok (.invokevirtual 67, 3) := by decide +kernel
theorem dX6_layMachine_7 : decode cX6_layMachine 7 = .ok (.aload_n 0, 1) := by decide +kernel
theorem dX6_layMachine_8 : decode cX6_layMachine 8 = .ok (.iconst 1, 1) := by decide +kernel
theorem dX6_layMachine_9 : decode cX6_layMachine 9 = .ok (.putfield 71, 3) := by decide +kernel
theorem dX6_layMachine_12 : decode cX6_layMachine 12 = .ok (.iconst 0, 1) := by decide +kernel
theorem dX6_layMachine_13 : decode cX6_layMachine 13 = .ok (.istore_n 2, 1) := by decide +kernel
theorem dX6_layMachine_14 : decode cX6_layMachine 14 = .ok (.iload_n 2, 1) := by decide +kernel
theorem dX6_layMachine_15 : decode cX6_layMachine 15 = .ok (.aload_n 0, 1) := by decide +kernel
theorem dX6_layMachine_16 : decode cX6_layMachine 16 = .ok (.getfield 71, 3) := by decide +kernel
theorem dX6_layMachine_19 : decode cX6_layMachine 19 = .ok (.if_icmp .ge 130, 3) := by decide +kernel
theorem dX6_layMachine_22 : decode cX6_layMachine 22 = .ok (.aload_n 0, 1) := by decide +kernel
theorem dX6_layMachine_23 : decode cX6_layMachine 23 = .ok (.getfield 71, 3) := by decide +kernel
theorem dX6_layMachine_26 : decode cX6_layMachine 26 = .ok (.bipush 64, 2) := by decide +kernel
theorem dX6_layMachine_28 : decode cX6_layMachine 28 = .ok (.if_icmp .gt 121, 3) := by decide +kernel
theorem dX6_layMachine_31 : decode cX6_layMachine 31 = .ok (.iconst 0, 1) := by decide +kernel
theorem dX6_layMachine_32 : decode cX6_layMachine 32 = .ok (.istore_n 3, 1) := by decide +kernel
theorem dX6_layMachine_33 : decode cX6_layMachine 33 = .ok (.iload_n 3, 1) := by decide +kernel
theorem dX6_layMachine_34 : decode cX6_layMachine 34 = .ok (.aload_n 0, 1) := by decide +kernel
theorem dX6_layMachine_35 : decode cX6_layMachine 35 = .ok (.getfield 7, 3) := by decide +kernel
theorem dX6_layMachine_38 : decode cX6_layMachine 38 = .ok (.if_icmp .ge 105, 3) := by decide +kernel
theorem dX6_layMachine_41 : decode cX6_layMachine 41 = .ok (.aload_n 0, 1) := by decide +kernel
theorem dX6_layMachine_42 : decode cX6_layMachine 42 = .ok (.getfield 71, 3) := by decide +kernel
theorem dX6_layMachine_45 : decode cX6_layMachine 45 = .ok (.bipush 64, 2) := by decide +kernel
theorem dX6_layMachine_47 : decode cX6_layMachine 47 = .ok (.if_icmp .gt 96, 3) := by decide +kernel
theorem dX6_layMachine_50 : decode cX6_layMachine 50 = .ok (.aload_n 0, 1) := by decide +kernel
theorem dX6_layMachine_51 : decode cX6_layMachine 51 = .ok (.bipush 18, 2) := by decide +kernel
theorem dX6_layMachine_53 : decode cX6_layMachine 53 = .ok (.iload_n 2, 1) := by decide +kernel
theorem dX6_layMachine_54 : decode cX6_layMachine 54 = .ok (.iadd, 1) := by decide +kernel
theorem dX6_layMachine_55 : decode cX6_layMachine 55 = .ok (.iload_n 3, 1) := by decide +kernel
theorem dX6_layMachine_56 : decode cX6_layMachine 56 = .ok (.bipush 83, 2) := by decide +kernel
theorem dX6_layMachine_58 : decode cX6_layMachine 58 = .ok (.invokevirtual 74, 3) := by decide +kernel
theorem dX6_layMachine_61 : decode cX6_layMachine 61 = .ok (.iconst 0, 1) := by decide +kernel
theorem dX6_layMachine_62 : decode cX6_layMachine 62 = .ok (.istore 4, 2) := by decide +kernel
theorem dX6_layMachine_64 : decode cX6_layMachine 64 = .ok (.iload 4, 2) := by decide +kernel
theorem dX6_layMachine_66 : decode cX6_layMachine 66 = .ok (.aload_n 0, 1) := by decide +kernel
theorem dX6_layMachine_67 : decode cX6_layMachine 67 = .ok (.getfield 71, 3) := by decide +kernel
theorem dX6_layMachine_70 : decode cX6_layMachine 70 = .ok (.if_icmp .ge 23, 3) := by decide +kernel
theorem dX6_layMachine_73 : decode cX6_layMachine 73 = .ok (.aload_n 0, 1) := by decide +kernel
theorem dX6_layMachine_74 : decode cX6_layMachine 74 = .ok (.bipush 18, 2) := by decide +kernel
theorem dX6_layMachine_76 : decode cX6_layMachine 76 = .ok (.iload 4, 2) := by decide +kernel
theorem dX6_layMachine_78 : decode cX6_layMachine 78 = .ok (.iadd, 1) := by decide +kernel
theorem dX6_layMachine_79 : decode cX6_layMachine 79 = .ok (.bipush 83, 2) := by decide +kernel
theorem dX6_layMachine_81 : decode cX6_layMachine 81 = .ok (.invokevirtual 78, 3) := by decide +kernel
theorem dX6_layMachine_84 : decode cX6_layMachine 84 = .ok (.ifCond .ne 9, 3) := by decide +kernel
theorem dX6_layMachine_87 : decode cX6_layMachine 87 = .ok (.iinc 4 1, 3) := by decide +kernel
theorem dX6_layMachine_90 : decode cX6_layMachine 90 = .ok (.goto (-26), 3) := by decide +kernel
theorem dX6_layMachine_93 : decode cX6_layMachine 93 = .ok (.iload 4, 2) := by decide +kernel
theorem dX6_layMachine_95 : decode cX6_layMachine 95 = .ok (.aload_n 0, 1) := by decide +kernel
theorem dX6_layMachine_96 : decode cX6_layMachine 96 = .ok (.getfield 71, 3) := by decide +kernel
theorem dX6_layMachine_99 : decode cX6_layMachine 99 = .ok (.if_icmp .ne 26, 3) := by decide +kernel
theorem dX6_layMachine_102 : decode cX6_layMachine 102 = .ok (.aload_n 0, 1) := by decide +kernel
theorem dX6_layMachine_103 : decode cX6_layMachine 103 = .ok (.bipush 83, 2) := by decide +kernel
theorem dX6_layMachine_105 : decode cX6_layMachine 105 = .ok (.bipush 18, 2) := by decide +kernel
theorem dX6_layMachine_107 : decode cX6_layMachine 107 = .ok (.aload_n 0, 1) := by decide +kernel
theorem dX6_layMachine_108 : decode cX6_layMachine 108 = .ok (.getfield 71, 3) := by decide +kernel
theorem dX6_layMachine_111 : decode cX6_layMachine 111 = .ok (.iadd, 1) := by decide +kernel
theorem dX6_layMachine_112 : decode cX6_layMachine 112 = .ok (.invokevirtual 67, 3) := by decide +kernel
theorem dX6_layMachine_115 : decode cX6_layMachine 115 = .ok (.aload_n 0, 1) := by decide +kernel
theorem dX6_layMachine_116 : decode cX6_layMachine 116 = .ok (.dup, 1) := by decide +kernel
theorem dX6_layMachine_117 : decode cX6_layMachine 117 = .ok (.getfield 71, 3) := by decide +kernel
theorem dX6_layMachine_120 : decode cX6_layMachine 120 = .ok (.iconst 1, 1) := by decide +kernel
theorem dX6_layMachine_121 : decode cX6_layMachine 121 = .ok (.iadd, 1) := by decide +kernel
theorem dX6_layMachine_122 : decode cX6_layMachine 122 = .ok (.putfield 71, 3) := by decide +kernel
theorem dX6_layMachine_125 : decode cX6_layMachine 125 = .ok (.aload_n 0, 1) := by decide +kernel
theorem dX6_layMachine_126 : decode cX6_layMachine 126 = .ok (.getfield 28, 3) := by decide +kernel
theorem dX6_layMachine_129 : decode cX6_layMachine 129 = .ok (.iconst 5, 1) := by decide +kernel
theorem dX6_layMachine_130 : decode cX6_layMachine 130 = .ok (.iload_n 2, 1) := by decide +kernel
theorem dX6_layMachine_131 : decode cX6_layMachine 131 = .ok (.imul, 1) := by decide +kernel
theorem dX6_layMachine_132 : decode cX6_layMachine 132 = .ok (.iload_n 3, 1) := by decide +kernel
theorem dX6_layMachine_133 : decode cX6_layMachine 133 = .ok (.iadd, 1) := by decide +kernel
theorem dX6_layMachine_134 : decode cX6_layMachine 134 = .ok (.iload 4, 2) := by decide +kernel
theorem dX6_layMachine_136 : decode cX6_layMachine 136 = .ok (.iastore, 1) := by decide +kernel
theorem dX6_layMachine_137 : decode cX6_layMachine 137 = .ok (.iinc 3 1, 3) := by decide +kernel
theorem dX6_layMachine_140 : decode cX6_layMachine 140 = .ok (.goto (-107), 3) := by decide +kernel
theorem dX6_layMachine_143 : decode cX6_layMachine 143 = .ok (.iinc 2 1, 3) := by decide +kernel
theorem dX6_layMachine_146 : decode cX6_layMachine 146 = .ok (.goto (-132), 3) := by decide +kernel
theorem dX6_layMachine_149 : decode cX6_layMachine 149 = .ok (.return_, 1) := by decide +kernel
theorem dX6_keep_0 : decode cX6_keep 0 = .ok (.aload_n 0, 1) := by decide +kernel
theorem dX6_keep_1 : decode cX6_keep 1 = .ok (.bipush 83, 2) := by decide +kernel
theorem dX6_keep_3 : decode cX6_keep 3 = .ok (.invokevirtual 64, 3) := by decide +kernel
theorem dX6_keep_6 : decode cX6_keep 6 = .ok (.ifCond .ne 6, 3) := by decide +kernel
theorem dX6_keep_9 : decode cX6_keep 9 = .ok (.bipush (-4), 2) := by decide +kernel
theorem dX6_keep_11 : decode cX6_keep 11 = .ok (.ireturn, 1) := by decide +kernel
theorem dX6_keep_12 : decode cX6_keep 12 = .ok (.aload_n 0, 1) := by decide +kernel
theorem dX6_keep_13 : decode cX6_keep 13 = .ok (.bipush 83, 2) := by decide +kernel
theorem dX6_keep_15 : decode cX6_keep 15 = .ok (.bipush 18, 2) := by decide +kernel
theorem dX6_keep_17 : decode cX6_keep 17 = .ok (.invokevirtual 67, 3) := by decide +kernel
theorem dX6_keep_20 : decode cX6_keep 20 = .ok (.aload_n 0, 1) := by decide +kernel
theorem dX6_keep_21 : decode cX6_keep 21 = .ok (.bipush 18, 2) := by decide +kernel
theorem dX6_keep_23 : decode cX6_keep 23 = .ok (.invokevirtual 81, 3) := by decide +kernel
theorem dX6_keep_26 : decode cX6_keep 26 = .ok (.aload_n 0, 1) := by decide +kernel
theorem dX6_keep_27 : decode cX6_keep 27 = .ok (.getfield 71, 3) := by decide +kernel
theorem dX6_keep_30 : decode cX6_keep 30 = .ok (.bipush 64, 2) := by decide +kernel
theorem dX6_keep_32 : decode cX6_keep 32 = .ok (.if_icmp .le 6, 3) := by decide +kernel
theorem dX6_keep_35 : decode cX6_keep 35 = .ok (.bipush (-4), 2) := by decide +kernel
theorem dX6_keep_37 : decode cX6_keep 37 = .ok (.ireturn, 1) := by decide +kernel
theorem dX6_keep_38 : decode cX6_keep 38 = .ok (.aload_n 0, 1) := by decide +kernel
theorem dX6_keep_39 : decode cX6_keep 39 = .ok (.bipush 18, 2) := by decide +kernel
theorem dX6_keep_41 : decode cX6_keep 41 = .ok (.iload_n 1, 1) := by decide +kernel
theorem dX6_keep_42 : decode cX6_keep 42 = .ok (.invokevirtual 67, 3) := by decide +kernel
theorem dX6_keep_45 : decode cX6_keep 45 = .ok (.aload_n 0, 1) := by decide +kernel
theorem dX6_keep_46 : decode cX6_keep 46 = .ok (.getfield 71, 3) := by decide +kernel
theorem dX6_keep_49 : decode cX6_keep 49 = .ok (.ireturn, 1) := by decide +kernel
theorem dX6_base_0 : decode cX6_base 0 = .ok (.iload_n 1, 1) := by decide +kernel
theorem dX6_base_1 : decode cX6_base 1 = .ok (.iconst 2, 1) := by decide +kernel
theorem dX6_base_2 : decode cX6_base 2 = .ok (.if_icmp .eq 16, 3) := by decide +kernel
theorem dX6_base_5 : decode cX6_base 5 = .ok (.iload_n 1, 1) := by decide +kernel
theorem dX6_base_6 : decode cX6_base 6 = .ok (.iconst 3, 1) := by decide +kernel
theorem dX6_base_7 : decode cX6_base 7 = .ok (.if_icmp .eq 11, 3) := by decide +kernel
theorem dX6_base_10 : decode cX6_base 10 = .ok (.iload_n 1, 1) := by decide +kernel
theorem dX6_base_11 : decode cX6_base 11 = .ok (.iconst 5, 1) := by decide +kernel
theorem dX6_base_12 : decode cX6_base 12 = .ok (.if_icmp .eq 6, 3) := by decide +kernel
theorem dX6_base_15 : decode cX6_base 15 = .ok (.bipush (-2), 2) := by decide +kernel
theorem dX6_base_17 : decode cX6_base 17 = .ok (.ireturn, 1) := by decide +kernel
theorem dX6_base_18 : decode cX6_base 18 = .ok (.aload_n 0, 1) := by decide +kernel
theorem dX6_base_19 : decode cX6_base 19 = .ok (.getfield 7, 3) := by decide +kernel
theorem dX6_base_22 : decode cX6_base 22 = .ok (.istore_n 2, 1) := by decide +kernel
theorem dX6_base_23 : decode cX6_base 23 = .ok (.aload_n 0, 1) := by decide +kernel
theorem dX6_base_24 : decode cX6_base 24 = .ok (.iload_n 1, 1) := by decide +kernel
theorem dX6_base_25 : decode cX6_base 25 = .ok (.putfield 7, 3) := by decide +kernel
theorem dX6_base_28 : decode cX6_base 28 = .ok (.iconst 0, 1) := by decide +kernel
theorem dX6_base_29 : decode cX6_base 29 = .ok (.istore_n 3, 1) := by decide +kernel
theorem dX6_base_30 : decode cX6_base 30 = .ok (.iload_n 3, 1) := by decide +kernel
theorem dX6_base_31 : decode cX6_base 31 = .ok (.bipush 6, 2) := by decide +kernel
theorem dX6_base_33 : decode cX6_base 33 = .ok (.if_icmp .ge 50, 3) := by decide +kernel
theorem dX6_base_36 : decode cX6_base 36 = .ok (.aload_n 0, 1) := by decide +kernel
theorem dX6_base_37 : decode cX6_base 37 = .ok (.getfield 13, 3) := by decide +kernel
theorem dX6_base_40 : decode cX6_base 40 = .ok (.iload_n 3, 1) := by decide +kernel
theorem dX6_base_41 : decode cX6_base 41 = .ok (.iconst 0, 1) := by decide +kernel
theorem dX6_base_42 : decode cX6_base 42 = .ok (.iastore, 1) := by decide +kernel
theorem dX6_base_43 : decode cX6_base 43 = .ok (.aload_n 0, 1) := by decide +kernel
theorem dX6_base_44 : decode cX6_base 44 = .ok (.getfield 17, 3) := by decide +kernel
theorem dX6_base_47 : decode cX6_base 47 = .ok (.iload_n 3, 1) := by decide +kernel
theorem dX6_base_48 : decode cX6_base 48 = .ok (.iconst 1, 1) := by decide +kernel
theorem dX6_base_49 : decode cX6_base 49 = .ok (.iastore, 1) := by decide +kernel
theorem dX6_base_50 : decode cX6_base 50 = .ok (.iconst 0, 1) := by decide +kernel
theorem dX6_base_51 : decode cX6_base 51 = .ok (.istore 4, 2) := by decide +kernel
theorem dX6_base_53 : decode cX6_base 53 = .ok (.iload 4, 2) := by decide +kernel
theorem dX6_base_55 : decode cX6_base 55 = .ok (.iconst 3, 1) := by decide +kernel
theorem dX6_base_56 : decode cX6_base 56 = .ok (.if_icmp .ge 21, 3) := by decide +kernel
theorem dX6_base_59 : decode cX6_base 59 = .ok (.aload_n 0, 1) := by decide +kernel
theorem dX6_base_60 : decode cX6_base 60 = .ok (.getfield 20, 3) := by decide +kernel
theorem dX6_base_63 : decode cX6_base 63 = .ok (.iconst 3, 1) := by decide +kernel
theorem dX6_base_64 : decode cX6_base 64 = .ok (.iload_n 3, 1) := by decide +kernel
theorem dX6_base_65 : decode cX6_base 65 = .ok (.imul, 1) := by decide +kernel
theorem dX6_base_66 : decode cX6_base 66 = .ok (.iload 4, 2) := by decide +kernel
theorem dX6_base_68 : decode cX6_base 68 = .ok (.iadd, 1) := by decide +kernel
theorem dX6_base_69 : decode cX6_base 69 = .ok (.lconst 0, 1) := by decide +kernel
theorem dX6_base_70 : decode cX6_base 70 = .ok (.lastore, 1) := by decide +kernel
theorem dX6_base_71 : decode cX6_base 71 = .ok (.iinc 4 1, 3) := by decide +kernel
theorem dX6_base_74 : decode cX6_base 74 = .ok (.goto (-21), 3) := by decide +kernel
theorem dX6_base_77 : decode cX6_base 77 = .ok (.iinc 3 1, 3) := by decide +kernel
theorem dX6_base_80 : decode cX6_base 80 = .ok (.goto (-50), 3) := by decide +kernel
theorem dX6_base_83 : decode cX6_base 83 = .ok (.iload_n 2, 1) := by decide +kernel
theorem dX6_base_84 : decode cX6_base 84 = .ok (.ireturn, 1) := by decide +kernel
theorem dX6_put_0 : decode cX6_put 0 = .ok (.iload_n 1, 1) := by decide +kernel
theorem dX6_put_1 : decode cX6_put 1 = .ok (.invokestatic 85, 3) := by decide +kernel
theorem dX6_put_4 : decode cX6_put 4 = .ok (.ifCond .ne 5, 3) := by decide +kernel
theorem dX6_put_7 : decode cX6_put 7 = .ok (.iconst (-1), 1) := by decide +kernel
theorem dX6_put_8 : decode cX6_put 8 = .ok (.ireturn, 1) := by decide +kernel
theorem dX6_put_9 : decode cX6_put 9 = .ok (.iload_n 2, 1) := by decide +kernel
theorem dX6_put_10 : decode cX6_put 10 = .ok (.iconst 0, 1) := by decide +kernel
theorem dX6_put_11 : decode cX6_put 11 = .ok (.iconst 4, 1) := by decide +kernel
theorem dX6_put_12 : decode cX6_put 12 = .ok (.invokestatic 40, 3) := by decide +kernel
theorem dX6_put_15 : decode cX6_put 15 = .ok (.ifCond .eq 34, 3) := by decide +kernel
theorem dX6_put_18 : decode cX6_put 18 = .ok (.iload_n 2, 1) := by decide +kernel
theorem dX6_put_19 : decode cX6_put 19 = .ok (.iconst 3, 1) := by decide +kernel
theorem dX6_put_20 : decode cX6_put 20 = .ok (.if_icmp .ge 13, 3) := by decide +kernel
theorem dX6_put_23 : decode cX6_put 23 = .ok (.iload_n 3, 1) := by decide +kernel
theorem dX6_put_24 : decode cX6_put 24 = .ok (.iconst 0, 1) := by decide +kernel
theorem dX6_put_25 : decode cX6_put 25 = .ok (.bipush 100, 2) := by decide +kernel
theorem dX6_put_27 : decode cX6_put 27 = .ok (.invokestatic 40, 3) := by decide +kernel
theorem dX6_put_30 : decode cX6_put 30 = .ok (.ifCond .eq 19, 3) := by decide +kernel
theorem dX6_put_33 : decode cX6_put 33 = .ok (.iload_n 2, 1) := by decide +kernel
theorem dX6_put_34 : decode cX6_put 34 = .ok (.iconst 2, 1) := by decide +kernel
theorem dX6_put_35 : decode cX6_put 35 = .ok (.if_icmp .ne 17, 3) := by decide +kernel
theorem dX6_put_38 : decode cX6_put 38 = .ok (.iload 4, 2) := by decide +kernel
theorem dX6_put_40 : decode cX6_put 40 = .ok (.iconst 1, 1) := by decide +kernel
theorem dX6_put_41 : decode cX6_put 41 = .ok (.bipush 60, 2) := by decide +kernel
theorem dX6_put_43 : decode cX6_put 43 = .ok (.invokestatic 40, 3) := by decide +kernel
theorem dX6_put_46 : decode cX6_put 46 = .ok (.ifCond .ne 6, 3) := by decide +kernel
theorem dX6_put_49 : decode cX6_put 49 = .ok (.bipush (-2), 2) := by decide +kernel
theorem dX6_put_51 : decode cX6_put 51 = .ok (.ireturn, 1) := by decide +kernel
theorem dX6_put_52 : decode cX6_put 52 = .ok (.aload_n 0, 1) := by decide +kernel
theorem dX6_put_53 : decode cX6_put 53 = .ok (.iload_n 2, 1) := by decide +kernel
theorem dX6_put_54 : decode cX6_put 54 = .ok (.ifCond .ne 9, 3) := by decide +kernel
theorem dX6_put_57 : decode cX6_put 57 = .ok (.iload_n 3, 1) := by decide +kernel
theorem dX6_put_58 : decode cX6_put 58 = .ok (.iconst 1, 1) := by decide +kernel
theorem dX6_put_59 : decode cX6_put 59 = .ok (.iadd, 1) := by decide +kernel
theorem dX6_put_60 : decode cX6_put 60 = .ok (.goto 13, 3) := by decide +kernel
theorem dX6_put_63 : decode cX6_put 63 = .ok (.iload_n 2, 1) := by decide +kernel
theorem dX6_put_64 : decode cX6_put 64 = .ok (.iconst 1, 1) := by decide +kernel
theorem dX6_put_65 : decode cX6_put 65 = .ok (.if_icmp .ne 7, 3) := by decide +kernel
theorem dX6_put_68 : decode cX6_put 68 = .ok (.iload_n 3, 1) := by decide +kernel
theorem dX6_put_69 : decode cX6_put 69 = .ok (.goto 4, 3) := by decide +kernel
theorem dX6_put_72 : decode cX6_put 72 = .ok (.iconst 0, 1) := by decide +kernel
theorem dX6_put_73 : decode cX6_put 73 = .ok (.putfield 44, 3) := by decide +kernel
theorem dX6_put_76 : decode cX6_put 76 = .ok (.aload_n 0, 1) := by decide +kernel
theorem dX6_put_77 : decode cX6_put 77 = .ok (.iload_n 2, 1) := by decide +kernel
theorem dX6_put_78 : decode cX6_put 78 = .ok (.iconst 2, 1) := by decide +kernel
theorem dX6_put_79 : decode cX6_put 79 = .ok (.if_icmp .ne 8, 3) := by decide +kernel
theorem dX6_put_82 : decode cX6_put 82 = .ok (.iload 4, 2) := by decide +kernel
theorem dX6_put_84 : decode cX6_put 84 = .ok (.goto 4, 3) := by decide +kernel
theorem dX6_put_87 : decode cX6_put 87 = .ok (.iconst 1, 1) := by decide +kernel
theorem dX6_put_88 : decode cX6_put 88 = .ok (.putfield 47, 3) := by decide +kernel
theorem dX6_put_91 : decode cX6_put 91 = .ok (.iconst 0, 1) := by decide +kernel
theorem dX6_put_92 : decode cX6_put 92 = .ok (.istore 5, 2) := by decide +kernel
theorem dX6_put_94 : decode cX6_put 94 = .ok (.iload 5, 2) := by decide +kernel
theorem dX6_put_96 : decode cX6_put 96 = .ok (.aload_n 0, 1) := by decide +kernel
theorem dX6_put_97 : decode cX6_put 97 = .ok (.getfield 44, 3) := by decide +kernel
theorem dX6_put_100 : decode cX6_put 100 = .ok (.aload_n 0, 1) := by decide +kernel
theorem dX6_put_101 : decode cX6_put 101 = .ok (.getfield 47, 3) := by decide +kernel
theorem dX6_put_104 : decode cX6_put 104 = .ok (.iadd, 1) := by decide +kernel
theorem dX6_put_105 : decode cX6_put 105 = .ok (.if_icmp .ge 88, 3) := by decide +kernel
theorem dX6_put_108 : decode cX6_put 108 = .ok (.aload_n 0, 1) := by decide +kernel
theorem dX6_put_109 : decode cX6_put 109 = .ok (.getfield 24, 3) := by decide +kernel
theorem dX6_put_112 : decode cX6_put 112 = .ok (.iload 5, 2) := by decide +kernel
theorem dX6_put_114 : decode cX6_put 114 = .ok (.iload_n 2, 1) := by decide +kernel
theorem dX6_put_115 : decode cX6_put 115 = .ok (.ifCond .ne 17, 3) := by decide +kernel
theorem dX6_put_118 : decode cX6_put 118 = .ok (.iload 5, 2) := by decide +kernel
theorem dX6_put_120 : decode cX6_put 120 = .ok (.iload_n 3, 1) := by decide +kernel
theorem dX6_put_121 : decode cX6_put 121 = .ok (.if_icmp .ne 7, 3) := by decide +kernel
theorem dX6_put_124 : decode cX6_put 124 = .ok (.iconst 1, 1) := by decide +kernel
theorem dX6_put_125 : decode cX6_put 125 = .ok (.goto 61, 3) := by decide +kernel
theorem dX6_put_128 : decode cX6_put 128 = .ok (.iconst 0, 1) := by decide +kernel
theorem dX6_put_129 : decode cX6_put 129 = .ok (.goto 57, 3) := by decide +kernel
theorem dX6_put_132 : decode cX6_put 132 = .ok (.iload_n 2, 1) := by decide +kernel
theorem dX6_put_133 : decode cX6_put 133 = .ok (.iconst 1, 1) := by decide +kernel
theorem dX6_put_134 : decode cX6_put 134 = .ok (.if_icmp .ne 17, 3) := by decide +kernel
theorem dX6_put_137 : decode cX6_put 137 = .ok (.iload 5, 2) := by decide +kernel
theorem dX6_put_139 : decode cX6_put 139 = .ok (.iload_n 3, 1) := by decide +kernel
theorem dX6_put_140 : decode cX6_put 140 = .ok (.if_icmp .lt 7, 3) := by decide +kernel
theorem dX6_put_143 : decode cX6_put 143 = .ok (.iconst 1, 1) := by decide +kernel
theorem dX6_put_144 : decode cX6_put 144 = .ok (.goto 42, 3) := by decide +kernel
theorem dX6_put_147 : decode cX6_put 147 = .ok (.iconst 0, 1) := by decide +kernel
theorem dX6_put_148 : decode cX6_put 148 = .ok (.goto 38, 3) := by decide +kernel
theorem dX6_put_151 : decode cX6_put 151 = .ok (.iload_n 2, 1) := by decide +kernel
theorem dX6_put_152 : decode cX6_put 152 = .ok (.iconst 2, 1) := by decide +kernel
theorem dX6_put_153 : decode cX6_put 153 = .ok (.if_icmp .ne 23, 3) := by decide +kernel
theorem dX6_put_156 : decode cX6_put 156 = .ok (.iload 5, 2) := by decide +kernel
theorem dX6_put_158 : decode cX6_put 158 = .ok (.iload 4, 2) := by decide +kernel
theorem dX6_put_160 : decode cX6_put 160 = .ok (.irem, 1) := by decide +kernel
theorem dX6_put_161 : decode cX6_put 161 = .ok (.iload_n 3, 1) := by decide +kernel
theorem dX6_put_162 : decode cX6_put 162 = .ok (.iload 4, 2) := by decide +kernel
theorem dX6_put_164 : decode cX6_put 164 = .ok (.irem, 1) := by decide +kernel
theorem dX6_put_165 : decode cX6_put 165 = .ok (.if_icmp .ne 7, 3) := by decide +kernel
theorem dX6_put_168 : decode cX6_put 168 = .ok (.iconst 1, 1) := by decide +kernel
theorem dX6_put_169 : decode cX6_put 169 = .ok (.goto 17, 3) := by decide +kernel
theorem dX6_put_172 : decode cX6_put 172 = .ok (.iconst 0, 1) := by decide +kernel
theorem dX6_put_173 : decode cX6_put 173 = .ok (.goto 13, 3) := by decide +kernel
theorem dX6_put_176 : decode cX6_put 176 = .ok (.iload_n 2, 1) := by decide +kernel
theorem dX6_put_177 : decode cX6_put 177 = .ok (.iconst 4, 1) := by decide +kernel
theorem dX6_put_178 : decode cX6_put 178 = .ok (.if_icmp .ne 7, 3) := by decide +kernel
theorem dX6_put_181 : decode cX6_put 181 = .ok (.iconst 1, 1) := by decide +kernel
theorem dX6_put_182 : decode cX6_put 182 = .ok (.goto 4, 3) := by decide +kernel
theorem dX6_put_185 : decode cX6_put 185 = .ok (.iconst 0, 1) := by decide +kernel
theorem dX6_put_186 : decode cX6_put 186 = .ok (.bastore, 1) := by decide +kernel
theorem dX6_put_187 : decode cX6_put 187 = .ok (.iinc 5 1, 3) := by decide +kernel
theorem dX6_put_190 : decode cX6_put 190 = .ok (.goto (-96), 3) := by decide +kernel
theorem dX6_put_193 : decode cX6_put 193 = .ok (.aload_n 0, 1) := by decide +kernel
theorem dX6_put_194 : decode cX6_put 194 = .ok (.iload_n 1, 1) := by decide +kernel
theorem dX6_put_195 : decode cX6_put 195 = .ok (.invokevirtual 88, 3) := by decide +kernel
theorem dX6_put_198 : decode cX6_put 198 = .ok (.ireturn, 1) := by decide +kernel
theorem dX6_common_0 : decode cX6_common 0 = .ok (.iload_n 0, 1) := by decide +kernel
theorem dX6_common_1 : decode cX6_common 1 = .ok (.istore_n 2, 1) := by decide +kernel
theorem dX6_common_2 : decode cX6_common 2 = .ok (.iload_n 1, 1) := by decide +kernel
theorem dX6_common_3 : decode cX6_common 3 = .ok (.istore_n 3, 1) := by decide +kernel
theorem dX6_common_4 : decode cX6_common 4 = .ok (.iconst 0, 1) := by decide +kernel
theorem dX6_common_5 : decode cX6_common 5 = .ok (.istore 4, 2) := by decide +kernel
theorem dX6_common_7 : decode cX6_common 7 = .ok (.iload 4, 2) := by decide +kernel
theorem dX6_common_9 : decode cX6_common 9 = .ok (.bipush 100, 2) := by decide +kernel
theorem dX6_common_11 : decode cX6_common 11 = .ok (.if_icmp .ge 23, 3) := by decide +kernel
theorem dX6_common_14 : decode cX6_common 14 = .ok (.iload_n 3, 1) := by decide +kernel
theorem dX6_common_15 : decode cX6_common 15 = .ok (.ifCond .eq 19, 3) := by decide +kernel
theorem dX6_common_18 : decode cX6_common 18 = .ok (.iload_n 2, 1) := by decide +kernel
theorem dX6_common_19 : decode cX6_common 19 = .ok (.iload_n 3, 1) := by decide +kernel
theorem dX6_common_20 : decode cX6_common 20 = .ok (.irem, 1) := by decide +kernel
theorem dX6_common_21 : decode cX6_common 21 = .ok (.istore 5, 2) := by decide +kernel
theorem dX6_common_23 : decode cX6_common 23 = .ok (.iload_n 3, 1) := by decide +kernel
theorem dX6_common_24 : decode cX6_common 24 = .ok (.istore_n 2, 1) := by decide +kernel
theorem dX6_common_25 : decode cX6_common 25 = .ok (.iload 5, 2) := by decide +kernel
theorem dX6_common_27 : decode cX6_common 27 = .ok (.istore_n 3, 1) := by decide +kernel
theorem dX6_common_28 : decode cX6_common 28 = .ok (.iinc 4 1, 3) := by decide +kernel
theorem dX6_common_31 : decode cX6_common 31 = .ok (.goto (-24), 3) := by decide +kernel
theorem dX6_common_34 : decode cX6_common 34 = .ok (.iload_n 2, 1) := by decide +kernel
theorem dX6_common_35 : decode cX6_common 35 = .ok (.ireturn, 1) := by decide +kernel
theorem dX6_together_0 : decode cX6_together 0 = .ok (.aload_n 0, 1) := by decide +kernel
theorem dX6_together_1 : decode cX6_together 1 = .ok (.getfield 17, 3) := by decide +kernel
theorem dX6_together_4 : decode cX6_together 4 = .ok (.iload_n 1, 1) := by decide +kernel
theorem dX6_together_5 : decode cX6_together 5 = .ok (.iaload, 1) := by decide +kernel
theorem dX6_together_6 : decode cX6_together 6 = .ok (.aload_n 0, 1) := by decide +kernel
theorem dX6_together_7 : decode cX6_together 7 = .ok (.getfield 17, 3) := by decide +kernel
theorem dX6_together_10 : decode cX6_together 10 = .ok (.iload_n 1, 1) := by decide +kernel
theorem dX6_together_11 : decode cX6_together 11 = .ok (.iaload, 1) := by decide +kernel
theorem dX6_together_12 : decode cX6_together 12 = .ok (.aload_n 0, 1) := by decide +kernel
theorem dX6_together_13 : decode cX6_together 13 = .ok (.getfield 17, 3) := by decide +kernel
theorem dX6_together_16 : decode cX6_together 16 = .ok (.iload_n 2, 1) := by decide +kernel
theorem dX6_together_17 : decode cX6_together 17 = .ok (.iaload, 1) := by decide +kernel
theorem dX6_together_18 : decode cX6_together 18 = .ok (.invokestatic 92, 3) := by decide +kernel
theorem dX6_together_21 : decode cX6_together 21 = .ok (.idiv, 1) := by decide +kernel
theorem dX6_together_22 : decode cX6_together 22 = .ok (.aload_n 0, 1) := by decide +kernel
theorem dX6_together_23 : decode cX6_together 23 = .ok (.getfield 17, 3) := by decide +kernel
theorem dX6_together_26 : decode cX6_together 26 = .ok (.iload_n 2, 1) := by decide +kernel
theorem dX6_together_27 : decode cX6_together 27 = .ok (.iaload, 1) := by decide +kernel
theorem dX6_together_28 : decode cX6_together 28 = .ok (.imul, 1) := by decide +kernel
theorem dX6_together_29 : decode cX6_together 29 = .ok (.ireturn, 1) := by decide +kernel
theorem dX6_later_0 : decode cX6_later 0 = .ok (.aload_n 0, 1) := by decide +kernel
theorem dX6_later_1 : decode cX6_later 1 = .ok (.getfield 13, 3) := by decide +kernel
theorem dX6_later_4 : decode cX6_later 4 = .ok (.iload_n 1, 1) := by decide +kernel
theorem dX6_later_5 : decode cX6_later 5 = .ok (.iaload, 1) := by decide +kernel
theorem dX6_later_6 : decode cX6_later 6 = .ok (.aload_n 0, 1) := by decide +kernel
theorem dX6_later_7 : decode cX6_later 7 = .ok (.getfield 13, 3) := by decide +kernel
theorem dX6_later_10 : decode cX6_later 10 = .ok (.iload_n 2, 1) := by decide +kernel
theorem dX6_later_11 : decode cX6_later 11 = .ok (.iaload, 1) := by decide +kernel
theorem dX6_later_12 : decode cX6_later 12 = .ok (.if_icmp .le 12, 3) := by decide +kernel
theorem dX6_later_15 : decode cX6_later 15 = .ok (.aload_n 0, 1) := by decide +kernel
theorem dX6_later_16 : decode cX6_later 16 = .ok (.getfield 13, 3) := by decide +kernel
theorem dX6_later_19 : decode cX6_later 19 = .ok (.iload_n 1, 1) := by decide +kernel
theorem dX6_later_20 : decode cX6_later 20 = .ok (.iaload, 1) := by decide +kernel
theorem dX6_later_21 : decode cX6_later 21 = .ok (.goto 9, 3) := by decide +kernel
theorem dX6_later_24 : decode cX6_later 24 = .ok (.aload_n 0, 1) := by decide +kernel
theorem dX6_later_25 : decode cX6_later 25 = .ok (.getfield 13, 3) := by decide +kernel
theorem dX6_later_28 : decode cX6_later 28 = .ok (.iload_n 2, 1) := by decide +kernel
theorem dX6_later_29 : decode cX6_later 29 = .ok (.iaload, 1) := by decide +kernel
theorem dX6_later_30 : decode cX6_later 30 = .ok (.ireturn, 1) := by decide +kernel
theorem dX6_join_0 : decode cX6_join 0 = .ok (.iload_n 1, 1) := by decide +kernel
theorem dX6_join_1 : decode cX6_join 1 = .ok (.invokestatic 85, 3) := by decide +kernel
theorem dX6_join_4 : decode cX6_join 4 = .ok (.ifCond .eq 17, 3) := by decide +kernel
theorem dX6_join_7 : decode cX6_join 7 = .ok (.iload_n 2, 1) := by decide +kernel
theorem dX6_join_8 : decode cX6_join 8 = .ok (.invokestatic 85, 3) := by decide +kernel
theorem dX6_join_11 : decode cX6_join 11 = .ok (.ifCond .eq 10, 3) := by decide +kernel
theorem dX6_join_14 : decode cX6_join 14 = .ok (.iload_n 3, 1) := by decide +kernel
theorem dX6_join_15 : decode cX6_join 15 = .ok (.invokestatic 85, 3) := by decide +kernel
theorem dX6_join_18 : decode cX6_join 18 = .ok (.ifCond .ne 5, 3) := by decide +kernel
theorem dX6_join_21 : decode cX6_join 21 = .ok (.iconst (-1), 1) := by decide +kernel
theorem dX6_join_22 : decode cX6_join 22 = .ok (.ireturn, 1) := by decide +kernel
theorem dX6_join_23 : decode cX6_join 23 = .ok (.iload 4, 2) := by decide +kernel
theorem dX6_join_25 : decode cX6_join 25 = .ok (.iconst 0, 1) := by decide +kernel
theorem dX6_join_26 : decode cX6_join 26 = .ok (.iconst 3, 1) := by decide +kernel
theorem dX6_join_27 : decode cX6_join 27 = .ok (.invokestatic 40, 3) := by decide +kernel
theorem dX6_join_30 : decode cX6_join 30 = .ok (.ifCond .ne 6, 3) := by decide +kernel
theorem dX6_join_33 : decode cX6_join 33 = .ok (.bipush (-2), 2) := by decide +kernel
theorem dX6_join_35 : decode cX6_join 35 = .ok (.ireturn, 1) := by decide +kernel
theorem dX6_join_36 : decode cX6_join 36 = .ok (.aload_n 0, 1) := by decide +kernel
theorem dX6_join_37 : decode cX6_join 37 = .ok (.aload_n 0, 1) := by decide +kernel
theorem dX6_join_38 : decode cX6_join 38 = .ok (.iload_n 2, 1) := by decide +kernel
theorem dX6_join_39 : decode cX6_join 39 = .ok (.iload_n 3, 1) := by decide +kernel
theorem dX6_join_40 : decode cX6_join 40 = .ok (.invokevirtual 96, 3) := by decide +kernel
theorem dX6_join_43 : decode cX6_join 43 = .ok (.putfield 44, 3) := by decide +kernel
theorem dX6_join_46 : decode cX6_join 46 = .ok (.aload_n 0, 1) := by decide +kernel
theorem dX6_join_47 : decode cX6_join 47 = .ok (.aload_n 0, 1) := by decide +kernel
theorem dX6_join_48 : decode cX6_join 48 = .ok (.iload_n 2, 1) := by decide +kernel
theorem dX6_join_49 : decode cX6_join 49 = .ok (.iload_n 3, 1) := by decide +kernel
theorem dX6_join_50 : decode cX6_join 50 = .ok (.invokevirtual 99, 3) := by decide +kernel
theorem dX6_join_53 : decode cX6_join 53 = .ok (.putfield 47, 3) := by decide +kernel
theorem dX6_join_56 : decode cX6_join 56 = .ok (.iconst 0, 1) := by decide +kernel
theorem dX6_join_57 : decode cX6_join 57 = .ok (.istore 5, 2) := by decide +kernel
theorem dX6_join_59 : decode cX6_join 59 = .ok (.iload 5, 2) := by decide +kernel
theorem dX6_join_61 : decode cX6_join 61 = .ok (.aload_n 0, 1) := by decide +kernel
theorem dX6_join_62 : decode cX6_join 62 = .ok (.getfield 44, 3) := by decide +kernel
theorem dX6_join_65 : decode cX6_join 65 = .ok (.aload_n 0, 1) := by decide +kernel
theorem dX6_join_66 : decode cX6_join 66 = .ok (.getfield 47, 3) := by decide +kernel
theorem dX6_join_69 : decode cX6_join 69 = .ok (.iadd, 1) := by decide +kernel
theorem dX6_join_70 : decode cX6_join 70 = .ok (.if_icmp .ge 117, 3) := by decide +kernel
theorem dX6_join_73 : decode cX6_join 73 = .ok (.aload_n 0, 1) := by decide +kernel
theorem dX6_join_74 : decode cX6_join 74 = .ok (.iload_n 2, 1) := by decide +kernel
theorem dX6_join_75 : decode cX6_join 75 = .ok (.iload 5, 2) := by decide +kernel
theorem dX6_join_77 : decode cX6_join 77 = .ok (.invokevirtual 60, 3) := by decide +kernel
theorem dX6_join_80 : decode cX6_join 80 = .ok (.istore 6, 2) := by decide +kernel
theorem dX6_join_82 : decode cX6_join 82 = .ok (.aload_n 0, 1) := by decide +kernel
theorem dX6_join_83 : decode cX6_join 83 = .ok (.iload_n 3, 1) := by decide +kernel
theorem dX6_join_84 : decode cX6_join 84 = .ok (.iload 5, 2) := by decide +kernel
theorem dX6_join_86 : decode cX6_join 86 = .ok (.invokevirtual 60, 3) := by decide +kernel
theorem dX6_join_89 : decode cX6_join 89 = .ok (.istore 7, 2) := by decide +kernel
theorem dX6_join_91 : decode cX6_join 91 = .ok (.aload_n 0, 1) := by decide +kernel
theorem dX6_join_92 : decode cX6_join 92 = .ok (.getfield 24, 3) := by decide +kernel
theorem dX6_join_95 : decode cX6_join 95 = .ok (.iload 5, 2) := by decide +kernel
theorem dX6_join_97 : decode cX6_join 97 = .ok (.iload 4, 2) := by decide +kernel
theorem dX6_join_99 : decode cX6_join 99 = .ok (.ifCond .ne 21, 3) := by decide +kernel
theorem dX6_join_102 : decode cX6_join 102 = .ok (.iload 6, 2) := by decide +kernel
theorem dX6_join_104 : decode cX6_join 104 = .ok (.ifCond .ne 8, 3) := by decide +kernel
theorem dX6_join_107 : decode cX6_join 107 = .ok (.iload 7, 2) := by decide +kernel
theorem dX6_join_109 : decode cX6_join 109 = .ok (.ifCond .eq 7, 3) := by decide +kernel
theorem dX6_join_112 : decode cX6_join 112 = .ok (.iconst 1, 1) := by decide +kernel
theorem dX6_join_113 : decode cX6_join 113 = .ok (.goto 67, 3) := by decide +kernel
theorem dX6_join_116 : decode cX6_join 116 = .ok (.iconst 0, 1) := by decide +kernel
theorem dX6_join_117 : decode cX6_join 117 = .ok (.goto 63, 3) := by decide +kernel
theorem dX6_join_120 : decode cX6_join 120 = .ok (.iload 4, 2) := by decide +kernel
theorem dX6_join_122 : decode cX6_join 122 = .ok (.iconst 1, 1) := by decide +kernel
theorem dX6_join_123 : decode cX6_join 123 = .ok (.if_icmp .ne 21, 3) := by decide +kernel
theorem dX6_join_126 : decode cX6_join 126 = .ok (.iload 6, 2) := by decide +kernel
theorem dX6_join_128 : decode cX6_join 128 = .ok (.ifCond .eq 12, 3) := by decide +kernel
theorem dX6_join_131 : decode cX6_join 131 = .ok (.iload 7, 2) := by decide +kernel
theorem dX6_join_133 : decode cX6_join 133 = .ok (.ifCond .eq 7, 3) := by decide +kernel
theorem dX6_join_136 : decode cX6_join 136 = .ok (.iconst 1, 1) := by decide +kernel
theorem dX6_join_137 : decode cX6_join 137 = .ok (.goto 43, 3) := by decide +kernel
theorem dX6_join_140 : decode cX6_join 140 = .ok (.iconst 0, 1) := by decide +kernel
theorem dX6_join_141 : decode cX6_join 141 = .ok (.goto 39, 3) := by decide +kernel
theorem dX6_join_144 : decode cX6_join 144 = .ok (.iload 4, 2) := by decide +kernel
theorem dX6_join_146 : decode cX6_join 146 = .ok (.iconst 2, 1) := by decide +kernel
theorem dX6_join_147 : decode cX6_join 147 = .ok (.if_icmp .ne 21, 3) := by decide +kernel
theorem dX6_join_150 : decode cX6_join 150 = .ok (.iload 6, 2) := by decide +kernel
theorem dX6_join_152 : decode cX6_join 152 = .ok (.ifCond .eq 12, 3) := by decide +kernel
theorem dX6_join_155 : decode cX6_join 155 = .ok (.iload 7, 2) := by decide +kernel
theorem dX6_join_157 : decode cX6_join 157 = .ok (.ifCond .ne 7, 3) := by decide +kernel
theorem dX6_join_160 : decode cX6_join 160 = .ok (.iconst 1, 1) := by decide +kernel
theorem dX6_join_161 : decode cX6_join 161 = .ok (.goto 19, 3) := by decide +kernel
theorem dX6_join_164 : decode cX6_join 164 = .ok (.iconst 0, 1) := by decide +kernel
theorem dX6_join_165 : decode cX6_join 165 = .ok (.goto 15, 3) := by decide +kernel
theorem dX6_join_168 : decode cX6_join 168 = .ok (.iload 6, 2) := by decide +kernel
theorem dX6_join_170 : decode cX6_join 170 = .ok (.iload 7, 2) := by decide +kernel
theorem dX6_join_172 : decode cX6_join 172 = .ok (.if_icmp .eq 7, 3) := by decide +kernel
theorem dX6_join_175 : decode cX6_join 175 = .ok (.iconst 1, 1) := by decide +kernel
theorem dX6_join_176 : decode cX6_join 176 = .ok (.goto 4, 3) := by decide +kernel
theorem dX6_join_179 : decode cX6_join 179 = .ok (.iconst 0, 1) := by decide +kernel
theorem dX6_join_180 : decode cX6_join 180 = .ok (.bastore, 1) := by decide +kernel
theorem dX6_join_181 : decode cX6_join 181 = .ok (.iinc 5 1, 3) := by decide +kernel
theorem dX6_join_184 : decode cX6_join 184 = .ok (.goto (-125), 3) := by decide +kernel
theorem dX6_join_187 : decode cX6_join 187 = .ok (.aload_n 0, 1) := by decide +kernel
theorem dX6_join_188 : decode cX6_join 188 = .ok (.iload_n 1, 1) := by decide +kernel
theorem dX6_join_189 : decode cX6_join 189 = .ok (.invokevirtual 88, 3) := by decide +kernel
theorem dX6_join_192 : decode cX6_join 192 = .ok (.ireturn, 1) := by decide +kernel
theorem dX6_turn_0 : decode cX6_turn 0 = .ok (.iload_n 1, 1) := by decide +kernel
theorem dX6_turn_1 : decode cX6_turn 1 = .ok (.invokestatic 85, 3) := by decide +kernel
theorem dX6_turn_4 : decode cX6_turn 4 = .ok (.ifCond .eq 10, 3) := by decide +kernel
theorem dX6_turn_7 : decode cX6_turn 7 = .ok (.iload_n 2, 1) := by decide +kernel
theorem dX6_turn_8 : decode cX6_turn 8 = .ok (.invokestatic 85, 3) := by decide +kernel
theorem dX6_turn_11 : decode cX6_turn 11 = .ok (.ifCond .ne 5, 3) := by decide +kernel
theorem dX6_turn_14 : decode cX6_turn 14 = .ok (.iconst (-1), 1) := by decide +kernel
theorem dX6_turn_15 : decode cX6_turn 15 = .ok (.ireturn, 1) := by decide +kernel
theorem dX6_turn_16 : decode cX6_turn 16 = .ok (.aload_n 0, 1) := by decide +kernel
theorem dX6_turn_17 : decode cX6_turn 17 = .ok (.aload_n 0, 1) := by decide +kernel
theorem dX6_turn_18 : decode cX6_turn 18 = .ok (.getfield 13, 3) := by decide +kernel
theorem dX6_turn_21 : decode cX6_turn 21 = .ok (.iload_n 2, 1) := by decide +kernel
theorem dX6_turn_22 : decode cX6_turn 22 = .ok (.iaload, 1) := by decide +kernel
theorem dX6_turn_23 : decode cX6_turn 23 = .ok (.putfield 44, 3) := by decide +kernel
theorem dX6_turn_26 : decode cX6_turn 26 = .ok (.aload_n 0, 1) := by decide +kernel
theorem dX6_turn_27 : decode cX6_turn 27 = .ok (.aload_n 0, 1) := by decide +kernel
theorem dX6_turn_28 : decode cX6_turn 28 = .ok (.getfield 17, 3) := by decide +kernel
theorem dX6_turn_31 : decode cX6_turn 31 = .ok (.iload_n 2, 1) := by decide +kernel
theorem dX6_turn_32 : decode cX6_turn 32 = .ok (.iaload, 1) := by decide +kernel
theorem dX6_turn_33 : decode cX6_turn 33 = .ok (.putfield 47, 3) := by decide +kernel
theorem dX6_turn_36 : decode cX6_turn 36 = .ok (.iconst 0, 1) := by decide +kernel
theorem dX6_turn_37 : decode cX6_turn 37 = .ok (.istore_n 3, 1) := by decide +kernel
theorem dX6_turn_38 : decode cX6_turn 38 = .ok (.iload_n 3, 1) := by decide +kernel
theorem dX6_turn_39 : decode cX6_turn 39 = .ok (.aload_n 0, 1) := by decide +kernel
theorem dX6_turn_40 : decode cX6_turn 40 = .ok (.getfield 44, 3) := by decide +kernel
theorem dX6_turn_43 : decode cX6_turn 43 = .ok (.aload_n 0, 1) := by decide +kernel
theorem dX6_turn_44 : decode cX6_turn 44 = .ok (.getfield 47, 3) := by decide +kernel
theorem dX6_turn_47 : decode cX6_turn 47 = .ok (.iadd, 1) := by decide +kernel
theorem dX6_turn_48 : decode cX6_turn 48 = .ok (.if_icmp .ge 29, 3) := by decide +kernel
theorem dX6_turn_51 : decode cX6_turn 51 = .ok (.aload_n 0, 1) := by decide +kernel
theorem dX6_turn_52 : decode cX6_turn 52 = .ok (.getfield 24, 3) := by decide +kernel
theorem dX6_turn_55 : decode cX6_turn 55 = .ok (.iload_n 3, 1) := by decide +kernel
theorem dX6_turn_56 : decode cX6_turn 56 = .ok (.aload_n 0, 1) := by decide +kernel
theorem dX6_turn_57 : decode cX6_turn 57 = .ok (.iload_n 2, 1) := by decide +kernel
theorem dX6_turn_58 : decode cX6_turn 58 = .ok (.iload_n 3, 1) := by decide +kernel
theorem dX6_turn_59 : decode cX6_turn 59 = .ok (.invokevirtual 60, 3) := by decide +kernel
theorem dX6_turn_62 : decode cX6_turn 62 = .ok (.ifCond .ne 7, 3) := by decide +kernel
theorem dX6_turn_65 : decode cX6_turn 65 = .ok (.iconst 1, 1) := by decide +kernel
theorem dX6_turn_66 : decode cX6_turn 66 = .ok (.goto 4, 3) := by decide +kernel
theorem dX6_turn_69 : decode cX6_turn 69 = .ok (.iconst 0, 1) := by decide +kernel
theorem dX6_turn_70 : decode cX6_turn 70 = .ok (.bastore, 1) := by decide +kernel
theorem dX6_turn_71 : decode cX6_turn 71 = .ok (.iinc 3 1, 3) := by decide +kernel
theorem dX6_turn_74 : decode cX6_turn 74 = .ok (.goto (-36), 3) := by decide +kernel
theorem dX6_turn_77 : decode cX6_turn 77 = .ok (.aload_n 0, 1) := by decide +kernel
theorem dX6_turn_78 : decode cX6_turn 78 = .ok (.iload_n 1, 1) := by decide +kernel
theorem dX6_turn_79 : decode cX6_turn 79 = .ok (.invokevirtual 88, 3) := by decide +kernel
theorem dX6_turn_82 : decode cX6_turn 82 = .ok (.ireturn, 1) := by decide +kernel
theorem dX6_shift_0 : decode cX6_shift 0 = .ok (.iload_n 1, 1) := by decide +kernel
theorem dX6_shift_1 : decode cX6_shift 1 = .ok (.invokestatic 85, 3) := by decide +kernel
theorem dX6_shift_4 : decode cX6_shift 4 = .ok (.ifCond .eq 10, 3) := by decide +kernel
theorem dX6_shift_7 : decode cX6_shift 7 = .ok (.iload_n 2, 1) := by decide +kernel
theorem dX6_shift_8 : decode cX6_shift 8 = .ok (.invokestatic 85, 3) := by decide +kernel
theorem dX6_shift_11 : decode cX6_shift 11 = .ok (.ifCond .ne 5, 3) := by decide +kernel
theorem dX6_shift_14 : decode cX6_shift 14 = .ok (.iconst (-1), 1) := by decide +kernel
theorem dX6_shift_15 : decode cX6_shift 15 = .ok (.ireturn, 1) := by decide +kernel
theorem dX6_shift_16 : decode cX6_shift 16 = .ok (.iload_n 3, 1) := by decide +kernel
theorem dX6_shift_17 : decode cX6_shift 17 = .ok (.bipush (-100), 2) := by decide +kernel
theorem dX6_shift_19 : decode cX6_shift 19 = .ok (.bipush 100, 2) := by decide +kernel
theorem dX6_shift_21 : decode cX6_shift 21 = .ok (.invokestatic 40, 3) := by decide +kernel
theorem dX6_shift_24 : decode cX6_shift 24 = .ok (.ifCond .ne 6, 3) := by decide +kernel
theorem dX6_shift_27 : decode cX6_shift 27 = .ok (.bipush (-2), 2) := by decide +kernel
theorem dX6_shift_29 : decode cX6_shift 29 = .ok (.ireturn, 1) := by decide +kernel
theorem dX6_shift_30 : decode cX6_shift 30 = .ok (.aload_n 0, 1) := by decide +kernel
theorem dX6_shift_31 : decode cX6_shift 31 = .ok (.aload_n 0, 1) := by decide +kernel
theorem dX6_shift_32 : decode cX6_shift 32 = .ok (.getfield 13, 3) := by decide +kernel
theorem dX6_shift_35 : decode cX6_shift 35 = .ok (.iload_n 2, 1) := by decide +kernel
theorem dX6_shift_36 : decode cX6_shift 36 = .ok (.iaload, 1) := by decide +kernel
theorem dX6_shift_37 : decode cX6_shift 37 = .ok (.iload_n 3, 1) := by decide +kernel
theorem dX6_shift_38 : decode cX6_shift 38 = .ok (.iadd, 1) := by decide +kernel
theorem dX6_shift_39 : decode cX6_shift 39 = .ok (.ifCond .le 14, 3) := by decide +kernel
theorem dX6_shift_42 : decode cX6_shift 42 = .ok (.aload_n 0, 1) := by decide +kernel
theorem dX6_shift_43 : decode cX6_shift 43 = .ok (.getfield 13, 3) := by decide +kernel
theorem dX6_shift_46 : decode cX6_shift 46 = .ok (.iload_n 2, 1) := by decide +kernel
theorem dX6_shift_47 : decode cX6_shift 47 = .ok (.iaload, 1) := by decide +kernel
theorem dX6_shift_48 : decode cX6_shift 48 = .ok (.iload_n 3, 1) := by decide +kernel
theorem dX6_shift_49 : decode cX6_shift 49 = .ok (.iadd, 1) := by decide +kernel
theorem dX6_shift_50 : decode cX6_shift 50 = .ok (.goto 4, 3) := by decide +kernel
theorem dX6_shift_53 : decode cX6_shift 53 = .ok (.iconst 0, 1) := by decide +kernel
theorem dX6_shift_54 : decode cX6_shift 54 = .ok (.putfield 44, 3) := by decide +kernel
theorem dX6_shift_57 : decode cX6_shift 57 = .ok (.aload_n 0, 1) := by decide +kernel
theorem dX6_shift_58 : decode cX6_shift 58 = .ok (.aload_n 0, 1) := by decide +kernel
theorem dX6_shift_59 : decode cX6_shift 59 = .ok (.getfield 17, 3) := by decide +kernel
theorem dX6_shift_62 : decode cX6_shift 62 = .ok (.iload_n 2, 1) := by decide +kernel
theorem dX6_shift_63 : decode cX6_shift 63 = .ok (.iaload, 1) := by decide +kernel
theorem dX6_shift_64 : decode cX6_shift 64 = .ok (.putfield 47, 3) := by decide +kernel
theorem dX6_shift_67 : decode cX6_shift 67 = .ok (.iconst 0, 1) := by decide +kernel
theorem dX6_shift_68 : decode cX6_shift 68 = .ok (.istore 4, 2) := by decide +kernel
theorem dX6_shift_70 : decode cX6_shift 70 = .ok (.iload 4, 2) := by decide +kernel
theorem dX6_shift_72 : decode cX6_shift 72 = .ok (.aload_n 0, 1) := by decide +kernel
theorem dX6_shift_73 : decode cX6_shift 73 = .ok (.getfield 44, 3) := by decide +kernel
theorem dX6_shift_76 : decode cX6_shift 76 = .ok (.aload_n 0, 1) := by decide +kernel
theorem dX6_shift_77 : decode cX6_shift 77 = .ok (.getfield 47, 3) := by decide +kernel
theorem dX6_shift_80 : decode cX6_shift 80 = .ok (.iadd, 1) := by decide +kernel
theorem dX6_shift_81 : decode cX6_shift 81 = .ok (.if_icmp .ge 39, 3) := by decide +kernel
theorem dX6_shift_84 : decode cX6_shift 84 = .ok (.aload_n 0, 1) := by decide +kernel
theorem dX6_shift_85 : decode cX6_shift 85 = .ok (.getfield 24, 3) := by decide +kernel
theorem dX6_shift_88 : decode cX6_shift 88 = .ok (.iload 4, 2) := by decide +kernel
theorem dX6_shift_90 : decode cX6_shift 90 = .ok (.iload 4, 2) := by decide +kernel
theorem dX6_shift_92 : decode cX6_shift 92 = .ok (.iload_n 3, 1) := by decide +kernel
theorem dX6_shift_93 : decode cX6_shift 93 = .ok (.if_icmp .lt 19, 3) := by decide +kernel
theorem dX6_shift_96 : decode cX6_shift 96 = .ok (.aload_n 0, 1) := by decide +kernel
theorem dX6_shift_97 : decode cX6_shift 97 = .ok (.iload_n 2, 1) := by decide +kernel
theorem dX6_shift_98 : decode cX6_shift 98 = .ok (.iload 4, 2) := by decide +kernel
theorem dX6_shift_100 : decode cX6_shift 100 = .ok (.iload_n 3, 1) := by decide +kernel
theorem dX6_shift_101 : decode cX6_shift 101 = .ok (.isub, 1) := by decide +kernel
theorem dX6_shift_102 : decode cX6_shift 102 = .ok (.invokevirtual 60, 3) := by decide +kernel
theorem dX6_shift_105 : decode cX6_shift 105 = .ok (.ifCond .eq 7, 3) := by decide +kernel
theorem dX6_shift_108 : decode cX6_shift 108 = .ok (.iconst 1, 1) := by decide +kernel
theorem dX6_shift_109 : decode cX6_shift 109 = .ok (.goto 4, 3) := by decide +kernel
theorem dX6_shift_112 : decode cX6_shift 112 = .ok (.iconst 0, 1) := by decide +kernel
theorem dX6_shift_113 : decode cX6_shift 113 = .ok (.bastore, 1) := by decide +kernel
theorem dX6_shift_114 : decode cX6_shift 114 = .ok (.iinc 4 1, 3) := by decide +kernel
theorem dX6_shift_117 : decode cX6_shift 117 = .ok (.goto (-47), 3) := by decide +kernel
theorem dX6_shift_120 : decode cX6_shift 120 = .ok (.aload_n 0, 1) := by decide +kernel
theorem dX6_shift_121 : decode cX6_shift 121 = .ok (.iload_n 1, 1) := by decide +kernel
theorem dX6_shift_122 : decode cX6_shift 122 = .ok (.invokevirtual 88, 3) := by decide +kernel
theorem dX6_shift_125 : decode cX6_shift 125 = .ok (.ireturn, 1) := by decide +kernel
theorem dX6_stretch_0 : decode cX6_stretch 0 = .ok (.iload_n 1, 1) := by decide +kernel
theorem dX6_stretch_1 : decode cX6_stretch 1 = .ok (.invokestatic 85, 3) := by decide +kernel
theorem dX6_stretch_4 : decode cX6_stretch 4 = .ok (.ifCond .eq 10, 3) := by decide +kernel
theorem dX6_stretch_7 : decode cX6_stretch 7 = .ok (.iload_n 2, 1) := by decide +kernel
theorem dX6_stretch_8 : decode cX6_stretch 8 = .ok (.invokestatic 85, 3) := by decide +kernel
theorem dX6_stretch_11 : decode cX6_stretch 11 = .ok (.ifCond .ne 5, 3) := by decide +kernel
theorem dX6_stretch_14 : decode cX6_stretch 14 = .ok (.iconst (-1), 1) := by decide +kernel
theorem dX6_stretch_15 : decode cX6_stretch 15 = .ok (.ireturn, 1) := by decide +kernel
theorem dX6_stretch_16 : decode cX6_stretch 16 = .ok (.iload_n 3, 1) := by decide +kernel
theorem dX6_stretch_17 : decode cX6_stretch 17 = .ok (.iconst 1, 1) := by decide +kernel
theorem dX6_stretch_18 : decode cX6_stretch 18 = .ok (.bipush 12, 2) := by decide +kernel
theorem dX6_stretch_20 : decode cX6_stretch 20 = .ok (.invokestatic 40, 3) := by decide +kernel
theorem dX6_stretch_23 : decode cX6_stretch 23 = .ok (.ifCond .eq 14, 3) := by decide +kernel
theorem dX6_stretch_26 : decode cX6_stretch 26 = .ok (.iload 4, 2) := by decide +kernel
theorem dX6_stretch_28 : decode cX6_stretch 28 = .ok (.iconst 0, 1) := by decide +kernel
theorem dX6_stretch_29 : decode cX6_stretch 29 = .ok (.bipush 20, 2) := by decide +kernel
theorem dX6_stretch_31 : decode cX6_stretch 31 = .ok (.invokestatic 40, 3) := by decide +kernel
theorem dX6_stretch_34 : decode cX6_stretch 34 = .ok (.ifCond .ne 6, 3) := by decide +kernel
theorem dX6_stretch_37 : decode cX6_stretch 37 = .ok (.bipush (-2), 2) := by decide +kernel
theorem dX6_stretch_39 : decode cX6_stretch 39 = .ok (.ireturn, 1) := by decide +kernel
theorem dX6_stretch_40 : decode cX6_stretch 40 = .ok (.aload_n 0, 1) := by decide +kernel
theorem dX6_stretch_41 : decode cX6_stretch 41 = .ok (.iload_n 3, 1) := by decide +kernel
theorem dX6_stretch_42 : decode cX6_stretch 42 = .ok (.aload_n 0, 1) := by decide +kernel
theorem dX6_stretch_43 : decode cX6_stretch 43 = .ok (.getfield 13, 3) := by decide +kernel
theorem dX6_stretch_46 : decode cX6_stretch 46 = .ok (.iload_n 2, 1) := by decide +kernel
theorem dX6_stretch_47 : decode cX6_stretch 47 = .ok (.iaload, 1) := by decide +kernel
theorem dX6_stretch_48 : decode cX6_stretch 48 = .ok (.imul, 1) := by decide +kernel
theorem dX6_stretch_49 : decode cX6_stretch 49 = .ok (.iload 4, 2) := by decide +kernel
theorem dX6_stretch_51 : decode cX6_stretch 51 = .ok (.iadd, 1) := by decide +kernel
theorem dX6_stretch_52 : decode cX6_stretch 52 = .ok (.putfield 44, 3) := by decide +kernel
theorem dX6_stretch_55 : decode cX6_stretch 55 = .ok (.aload_n 0, 1) := by decide +kernel
theorem dX6_stretch_56 : decode cX6_stretch 56 = .ok (.iload_n 3, 1) := by decide +kernel
theorem dX6_stretch_57 : decode cX6_stretch 57 = .ok (.aload_n 0, 1) := by decide +kernel
theorem dX6_stretch_58 : decode cX6_stretch 58 = .ok (.getfield 17, 3) := by decide +kernel
theorem dX6_stretch_61 : decode cX6_stretch 61 = .ok (.iload_n 2, 1) := by decide +kernel
theorem dX6_stretch_62 : decode cX6_stretch 62 = .ok (.iaload, 1) := by decide +kernel
theorem dX6_stretch_63 : decode cX6_stretch 63 = .ok (.imul, 1) := by decide +kernel
theorem dX6_stretch_64 : decode cX6_stretch 64 = .ok (.putfield 47, 3) := by decide +kernel
theorem dX6_stretch_67 : decode cX6_stretch 67 = .ok (.iconst 0, 1) := by decide +kernel
theorem dX6_stretch_68 : decode cX6_stretch 68 = .ok (.istore 5, 2) := by decide +kernel
theorem dX6_stretch_70 : decode cX6_stretch 70 = .ok (.iload 5, 2) := by decide +kernel
theorem dX6_stretch_72 : decode cX6_stretch 72 = .ok (.aload_n 0, 1) := by decide +kernel
theorem dX6_stretch_73 : decode cX6_stretch 73 = .ok (.getfield 44, 3) := by decide +kernel
theorem dX6_stretch_76 : decode cX6_stretch 76 = .ok (.aload_n 0, 1) := by decide +kernel
theorem dX6_stretch_77 : decode cX6_stretch 77 = .ok (.getfield 47, 3) := by decide +kernel
theorem dX6_stretch_80 : decode cX6_stretch 80 = .ok (.iadd, 1) := by decide +kernel
theorem dX6_stretch_81 : decode cX6_stretch 81 = .ok (.if_icmp .ge 53, 3) := by decide +kernel
theorem dX6_stretch_84 : decode cX6_stretch 84 = .ok (.aload_n 0, 1) := by decide +kernel
theorem dX6_stretch_85 : decode cX6_stretch 85 = .ok (.getfield 24, 3) := by decide +kernel
theorem dX6_stretch_88 : decode cX6_stretch 88 = .ok (.iload 5, 2) := by decide +kernel
theorem dX6_stretch_90 : decode cX6_stretch 90 = .ok (.iload 5, 2) := by decide +kernel
theorem dX6_stretch_92 : decode cX6_stretch 92 = .ok (.iload 4, 2) := by decide +kernel
theorem dX6_stretch_94 : decode cX6_stretch 94 = .ok (.if_icmp .lt 32, 3) := by decide +kernel
theorem dX6_stretch_97 : decode cX6_stretch 97 = .ok (.iload 5, 2) := by decide +kernel
theorem dX6_stretch_99 : decode cX6_stretch 99 = .ok (.iload 4, 2) := by decide +kernel
theorem dX6_stretch_101 : decode cX6_stretch 101 = .ok (.isub, 1) := by decide +kernel
theorem dX6_stretch_102 : decode cX6_stretch 102 = .ok (.iload_n 3, 1) := by decide +kernel
theorem dX6_stretch_103 : decode cX6_stretch 103 = .ok (.irem, 1) := by decide +kernel
theorem dX6_stretch_104 : decode cX6_stretch 104 = .ok (.ifCond .ne 22, 3) := by decide +kernel
theorem dX6_stretch_107 : decode cX6_stretch 107 = .ok (.aload_n 0, 1) := by decide +kernel
theorem dX6_stretch_108 : decode cX6_stretch 108 = .ok (.iload_n 2, 1) := by decide +kernel
theorem dX6_stretch_109 : decode cX6_stretch 109 = .ok (.iload 5, 2) := by decide +kernel
theorem dX6_stretch_111 : decode cX6_stretch 111 = .ok (.iload 4, 2) := by decide +kernel
theorem dX6_stretch_113 : decode cX6_stretch 113 = .ok (.isub, 1) := by decide +kernel
theorem dX6_stretch_114 : decode cX6_stretch 114 = .ok (.iload_n 3, 1) := by decide +kernel
theorem dX6_stretch_115 : decode cX6_stretch 115 = .ok (.idiv, 1) := by decide +kernel
theorem dX6_stretch_116 : decode cX6_stretch 116 = .ok (.invokevirtual 60, 3) := by decide +kernel
theorem dX6_stretch_119 : decode cX6_stretch 119 = .ok (.ifCond .eq 7, 3) := by decide +kernel
theorem dX6_stretch_122 : decode cX6_stretch 122 = .ok (.iconst 1, 1) := by decide +kernel
theorem dX6_stretch_123 : decode cX6_stretch 123 = .ok (.goto 4, 3) := by decide +kernel
