theorem dX6_stretch_126 : decode cX6_stretch 126 = .ok (.iconst 0, 1) := by decide +kernel
theorem dX6_stretch_127 : decode cX6_stretch 127 = .ok (.bastore, 1) := by decide +kernel
theorem dX6_stretch_128 : decode cX6_stretch 128 = .ok (.iinc 5 1, 3) := by decide +kernel
theorem dX6_stretch_131 : decode cX6_stretch 131 = .ok (.goto (-61), 3) := by decide +kernel
theorem dX6_stretch_134 : decode cX6_stretch 134 = .ok (.aload_n 0, 1) := by decide +kernel
theorem dX6_stretch_135 : decode cX6_stretch 135 = .ok (.iload_n 1, 1) := by decide +kernel
theorem dX6_stretch_136 : decode cX6_stretch 136 = .ok (.invokevirtual 88, 3) := by decide +kernel
theorem dX6_stretch_139 : decode cX6_stretch 139 = .ok (.ireturn, 1) := by decide +kernel
theorem dX6_shrink_0 : decode cX6_shrink 0 = .ok (.iload_n 1, 1) := by decide +kernel
theorem dX6_shrink_1 : decode cX6_shrink 1 = .ok (.invokestatic 85, 3) := by decide +kernel
theorem dX6_shrink_4 : decode cX6_shrink 4 = .ok (.ifCond .eq 10, 3) := by decide +kernel
theorem dX6_shrink_7 : decode cX6_shrink 7 = .ok (.iload_n 2, 1) := by decide +kernel
theorem dX6_shrink_8 : decode cX6_shrink 8 = .ok (.invokestatic 85, 3) := by decide +kernel
theorem dX6_shrink_11 : decode cX6_shrink 11 = .ok (.ifCond .ne 5, 3) := by decide +kernel
theorem dX6_shrink_14 : decode cX6_shrink 14 = .ok (.iconst (-1), 1) := by decide +kernel
theorem dX6_shrink_15 : decode cX6_shrink 15 = .ok (.ireturn, 1) := by decide +kernel
theorem dX6_shrink_16 : decode cX6_shrink 16 = .ok (.iload_n 3, 1) := by decide +kernel
theorem dX6_shrink_17 : decode cX6_shrink 17 = .ok (.iconst 1, 1) := by decide +kernel
theorem dX6_shrink_18 : decode cX6_shrink 18 = .ok (.bipush 12, 2) := by decide +kernel
theorem dX6_shrink_20 : decode cX6_shrink 20 = .ok (.invokestatic 40, 3) := by decide +kernel
theorem dX6_shrink_23 : decode cX6_shrink 23 = .ok (.ifCond .eq 14, 3) := by decide +kernel
theorem dX6_shrink_26 : decode cX6_shrink 26 = .ok (.iload 4, 2) := by decide +kernel
theorem dX6_shrink_28 : decode cX6_shrink 28 = .ok (.iconst 0, 1) := by decide +kernel
theorem dX6_shrink_29 : decode cX6_shrink 29 = .ok (.bipush 20, 2) := by decide +kernel
theorem dX6_shrink_31 : decode cX6_shrink 31 = .ok (.invokestatic 40, 3) := by decide +kernel
theorem dX6_shrink_34 : decode cX6_shrink 34 = .ok (.ifCond .ne 6, 3) := by decide +kernel
theorem dX6_shrink_37 : decode cX6_shrink 37 = .ok (.bipush (-2), 2) := by decide +kernel
theorem dX6_shrink_39 : decode cX6_shrink 39 = .ok (.ireturn, 1) := by decide +kernel
theorem dX6_shrink_40 : decode cX6_shrink 40 = .ok (.aload_n 0, 1) := by decide +kernel
theorem dX6_shrink_41 : decode cX6_shrink 41 = .ok (.aload_n 0, 1) := by decide +kernel
theorem dX6_shrink_42 : decode cX6_shrink 42 = .ok (.getfield 13, 3) := by decide +kernel
theorem dX6_shrink_45 : decode cX6_shrink 45 = .ok (.iload_n 2, 1) := by decide +kernel
theorem dX6_shrink_46 : decode cX6_shrink 46 = .ok (.iaload, 1) := by decide +kernel
theorem dX6_shrink_47 : decode cX6_shrink 47 = .ok (.putfield 44, 3) := by decide +kernel
theorem dX6_shrink_50 : decode cX6_shrink 50 = .ok (.aload_n 0, 1) := by decide +kernel
theorem dX6_shrink_51 : decode cX6_shrink 51 = .ok (.aload_n 0, 1) := by decide +kernel
theorem dX6_shrink_52 : decode cX6_shrink 52 = .ok (.getfield 17, 3) := by decide +kernel
theorem dX6_shrink_55 : decode cX6_shrink 55 = .ok (.iload_n 2, 1) := by decide +kernel
theorem dX6_shrink_56 : decode cX6_shrink 56 = .ok (.iaload, 1) := by decide +kernel
theorem dX6_shrink_57 : decode cX6_shrink 57 = .ok (.putfield 47, 3) := by decide +kernel
theorem dX6_shrink_60 : decode cX6_shrink 60 = .ok (.iconst 0, 1) := by decide +kernel
theorem dX6_shrink_61 : decode cX6_shrink 61 = .ok (.istore 5, 2) := by decide +kernel
theorem dX6_shrink_63 : decode cX6_shrink 63 = .ok (.iload 5, 2) := by decide +kernel
theorem dX6_shrink_65 : decode cX6_shrink 65 = .ok (.aload_n 0, 1) := by decide +kernel
theorem dX6_shrink_66 : decode cX6_shrink 66 = .ok (.getfield 44, 3) := by decide +kernel
theorem dX6_shrink_69 : decode cX6_shrink 69 = .ok (.aload_n 0, 1) := by decide +kernel
theorem dX6_shrink_70 : decode cX6_shrink 70 = .ok (.getfield 47, 3) := by decide +kernel
theorem dX6_shrink_73 : decode cX6_shrink 73 = .ok (.iadd, 1) := by decide +kernel
theorem dX6_shrink_74 : decode cX6_shrink 74 = .ok (.if_icmp .ge 28, 3) := by decide +kernel
theorem dX6_shrink_77 : decode cX6_shrink 77 = .ok (.aload_n 0, 1) := by decide +kernel
theorem dX6_shrink_78 : decode cX6_shrink 78 = .ok (.getfield 24, 3) := by decide +kernel
theorem dX6_shrink_81 : decode cX6_shrink 81 = .ok (.iload 5, 2) := by decide +kernel
theorem dX6_shrink_83 : decode cX6_shrink 83 = .ok (.aload_n 0, 1) := by decide +kernel
theorem dX6_shrink_84 : decode cX6_shrink 84 = .ok (.iload_n 2, 1) := by decide +kernel
theorem dX6_shrink_85 : decode cX6_shrink 85 = .ok (.iload_n 3, 1) := by decide +kernel
theorem dX6_shrink_86 : decode cX6_shrink 86 = .ok (.iload 5, 2) := by decide +kernel
theorem dX6_shrink_88 : decode cX6_shrink 88 = .ok (.imul, 1) := by decide +kernel
theorem dX6_shrink_89 : decode cX6_shrink 89 = .ok (.iload 4, 2) := by decide +kernel
theorem dX6_shrink_91 : decode cX6_shrink 91 = .ok (.iadd, 1) := by decide +kernel
theorem dX6_shrink_92 : decode cX6_shrink 92 = .ok (.invokevirtual 60, 3) := by decide +kernel
theorem dX6_shrink_95 : decode cX6_shrink 95 = .ok (.bastore, 1) := by decide +kernel
theorem dX6_shrink_96 : decode cX6_shrink 96 = .ok (.iinc 5 1, 3) := by decide +kernel
theorem dX6_shrink_99 : decode cX6_shrink 99 = .ok (.goto (-36), 3) := by decide +kernel
theorem dX6_shrink_102 : decode cX6_shrink 102 = .ok (.aload_n 0, 1) := by decide +kernel
theorem dX6_shrink_103 : decode cX6_shrink 103 = .ok (.iload_n 1, 1) := by decide +kernel
theorem dX6_shrink_104 : decode cX6_shrink 104 = .ok (.invokevirtual 88, 3) := by decide +kernel
theorem dX6_shrink_107 : decode cX6_shrink 107 = .ok (.ireturn, 1) := by decide +kernel
theorem dX6_countUpTo_0 : decode cX6_countUpTo 0 = .ok (.iconst 0, 1) := by decide +kernel
theorem dX6_countUpTo_1 : decode cX6_countUpTo 1 = .ok (.istore 4, 2) := by decide +kernel
theorem dX6_countUpTo_3 : decode cX6_countUpTo 3 = .ok (.iload_n 2, 1) := by decide +kernel
theorem dX6_countUpTo_4 : decode cX6_countUpTo 4 = .ok (.istore 5, 2) := by decide +kernel
theorem dX6_countUpTo_6 : decode cX6_countUpTo 6 = .ok (.iload 5, 2) := by decide +kernel
theorem dX6_countUpTo_8 : decode cX6_countUpTo 8 = .ok (.iload_n 3, 1) := by decide +kernel
theorem dX6_countUpTo_9 : decode cX6_countUpTo 9 = .ok (.if_icmp .ge 29, 3) := by decide +kernel
theorem dX6_countUpTo_12 : decode cX6_countUpTo 12 = .ok (.iload 4, 2) := by decide +kernel
theorem dX6_countUpTo_14 : decode cX6_countUpTo 14 = .ok (.aload_n 0, 1) := by decide +kernel
theorem dX6_countUpTo_15 : decode cX6_countUpTo 15 = .ok (.iload_n 1, 1) := by decide +kernel
theorem dX6_countUpTo_16 : decode cX6_countUpTo 16 = .ok (.iload 5, 2) := by decide +kernel
theorem dX6_countUpTo_18 : decode cX6_countUpTo 18 = .ok (.invokevirtual 60, 3) := by decide +kernel
theorem dX6_countUpTo_21 : decode cX6_countUpTo 21 = .ok (.ifCond .eq 7, 3) := by decide +kernel
theorem dX6_countUpTo_24 : decode cX6_countUpTo 24 = .ok (.iconst 1, 1) := by decide +kernel
theorem dX6_countUpTo_25 : decode cX6_countUpTo 25 = .ok (.goto 4, 3) := by decide +kernel
theorem dX6_countUpTo_28 : decode cX6_countUpTo 28 = .ok (.iconst 0, 1) := by decide +kernel
theorem dX6_countUpTo_29 : decode cX6_countUpTo 29 = .ok (.iadd, 1) := by decide +kernel
theorem dX6_countUpTo_30 : decode cX6_countUpTo 30 = .ok (.istore 4, 2) := by decide +kernel
theorem dX6_countUpTo_32 : decode cX6_countUpTo 32 = .ok (.iinc 5 1, 3) := by decide +kernel
theorem dX6_countUpTo_35 : decode cX6_countUpTo 35 = .ok (.goto (-29), 3) := by decide +kernel
theorem dX6_countUpTo_38 : decode cX6_countUpTo 38 = .ok (.iload 4, 2) := by decide +kernel
theorem dX6_countUpTo_40 : decode cX6_countUpTo 40 = .ok (.ireturn, 1) := by decide +kernel
theorem dX6_isGood_0 : decode cX6_isGood 0 = .ok (.aload_n 0, 1) := by decide +kernel
theorem dX6_isGood_1 : decode cX6_isGood 1 = .ok (.bipush 18, 2) := by decide +kernel
theorem dX6_isGood_3 : decode cX6_isGood 3 = .ok (.iload_n 1, 1) := by decide +kernel
theorem dX6_isGood_4 : decode cX6_isGood 4 = .ok (.iadd, 1) := by decide +kernel
theorem dX6_isGood_5 : decode cX6_isGood 5 = .ok (.iconst 0, 1) := by decide +kernel
theorem dX6_isGood_6 : decode cX6_isGood 6 = .ok (.invokevirtual 60, 3) := by decide +kernel
theorem dX6_isGood_9 : decode cX6_isGood 9 = .ok (.ireturn, 1) := by decide +kernel
theorem dX6_told_0 : decode cX6_told 0 = .ok (.iload_n 1, 1) := by decide +kernel
theorem dX6_told_1 : decode cX6_told 1 = .ok (.invokestatic 85, 3) := by decide +kernel
theorem dX6_told_4 : decode cX6_told 4 = .ok (.ifCond .ne 5, 3) := by decide +kernel
theorem dX6_told_7 : decode cX6_told 7 = .ok (.iconst (-1), 1) := by decide +kernel
theorem dX6_told_8 : decode cX6_told 8 = .ok (.ireturn, 1) := by decide +kernel
theorem dX6_told_9 : decode cX6_told 9 = .ok (.iload_n 2, 1) := by decide +kernel
theorem dX6_told_10 : decode cX6_told 10 = .ok (.iconst 0, 1) := by decide +kernel
theorem dX6_told_11 : decode cX6_told 11 = .ok (.iconst 5, 1) := by decide +kernel
theorem dX6_told_12 : decode cX6_told 12 = .ok (.invokestatic 40, 3) := by decide +kernel
theorem dX6_told_15 : decode cX6_told 15 = .ok (.ifCond .ne 6, 3) := by decide +kernel
theorem dX6_told_18 : decode cX6_told 18 = .ok (.bipush (-2), 2) := by decide +kernel
theorem dX6_told_20 : decode cX6_told 20 = .ok (.ireturn, 1) := by decide +kernel
theorem dX6_told_21 : decode cX6_told 21 = .ok (.aload_n 0, 1) := by decide +kernel
theorem dX6_told_22 : decode cX6_told 22 = .ok (.getfield 13, 3) := by decide +kernel
theorem dX6_told_25 : decode cX6_told 25 = .ok (.iload_n 1, 1) := by decide +kernel
theorem dX6_told_26 : decode cX6_told 26 = .ok (.iaload, 1) := by decide +kernel
theorem dX6_told_27 : decode cX6_told 27 = .ok (.istore_n 3, 1) := by decide +kernel
theorem dX6_told_28 : decode cX6_told 28 = .ok (.aload_n 0, 1) := by decide +kernel
theorem dX6_told_29 : decode cX6_told 29 = .ok (.getfield 17, 3) := by decide +kernel
theorem dX6_told_32 : decode cX6_told 32 = .ok (.iload_n 1, 1) := by decide +kernel
theorem dX6_told_33 : decode cX6_told 33 = .ok (.iaload, 1) := by decide +kernel
theorem dX6_told_34 : decode cX6_told 34 = .ok (.istore 4, 2) := by decide +kernel
theorem dX6_told_36 : decode cX6_told 36 = .ok (.aload_n 0, 1) := by decide +kernel
theorem dX6_told_37 : decode cX6_told 37 = .ok (.iload_n 1, 1) := by decide +kernel
theorem dX6_told_38 : decode cX6_told 38 = .ok (.invokevirtual 81, 3) := by decide +kernel
theorem dX6_told_41 : decode cX6_told 41 = .ok (.iconst 0, 1) := by decide +kernel
theorem dX6_told_42 : decode cX6_told 42 = .ok (.istore 5, 2) := by decide +kernel
theorem dX6_told_44 : decode cX6_told 44 = .ok (.iconst 0, 1) := by decide +kernel
theorem dX6_told_45 : decode cX6_told 45 = .ok (.istore 6, 2) := by decide +kernel
theorem dX6_told_47 : decode cX6_told 47 = .ok (.iload 6, 2) := by decide +kernel
theorem dX6_told_49 : decode cX6_told 49 = .ok (.aload_n 0, 1) := by decide +kernel
theorem dX6_told_50 : decode cX6_told 50 = .ok (.getfield 71, 3) := by decide +kernel
theorem dX6_told_53 : decode cX6_told 53 = .ok (.if_icmp .ge 28, 3) := by decide +kernel
theorem dX6_told_56 : decode cX6_told 56 = .ok (.iload 5, 2) := by decide +kernel
theorem dX6_told_58 : decode cX6_told 58 = .ok (.aload_n 0, 1) := by decide +kernel
theorem dX6_told_59 : decode cX6_told 59 = .ok (.iload 6, 2) := by decide +kernel
theorem dX6_told_61 : decode cX6_told 61 = .ok (.invokevirtual 102, 3) := by decide +kernel
theorem dX6_told_64 : decode cX6_told 64 = .ok (.ifCond .eq 7, 3) := by decide +kernel
theorem dX6_told_67 : decode cX6_told 67 = .ok (.iconst 1, 1) := by decide +kernel
theorem dX6_told_68 : decode cX6_told 68 = .ok (.goto 4, 3) := by decide +kernel
theorem dX6_told_71 : decode cX6_told 71 = .ok (.iconst 0, 1) := by decide +kernel
theorem dX6_told_72 : decode cX6_told 72 = .ok (.iadd, 1) := by decide +kernel
theorem dX6_told_73 : decode cX6_told 73 = .ok (.istore 5, 2) := by decide +kernel
theorem dX6_told_75 : decode cX6_told 75 = .ok (.iinc 6 1, 3) := by decide +kernel
theorem dX6_told_78 : decode cX6_told 78 = .ok (.goto (-31), 3) := by decide +kernel
theorem dX6_told_81 : decode cX6_told 81 = .ok (.iload_n 2, 1) := by decide +kernel
theorem dX6_told_82 : decode cX6_told 82 = .ok (.ifCond .ne 7, 3) := by decide +kernel
theorem dX6_told_85 : decode cX6_told 85 = .ok (.iload_n 3, 1) := by decide +kernel
theorem dX6_told_86 : decode cX6_told 86 = .ok (.goto 60, 3) := by decide +kernel
theorem dX6_told_89 : decode cX6_told 89 = .ok (.iload_n 2, 1) := by decide +kernel
theorem dX6_told_90 : decode cX6_told 90 = .ok (.iconst 1, 1) := by decide +kernel
theorem dX6_told_91 : decode cX6_told 91 = .ok (.if_icmp .ne 8, 3) := by decide +kernel
theorem dX6_told_94 : decode cX6_told 94 = .ok (.iload 4, 2) := by decide +kernel
theorem dX6_told_96 : decode cX6_told 96 = .ok (.goto 50, 3) := by decide +kernel
theorem dX6_told_99 : decode cX6_told 99 = .ok (.iload_n 2, 1) := by decide +kernel
theorem dX6_told_100 : decode cX6_told 100 = .ok (.iconst 2, 1) := by decide +kernel
theorem dX6_told_101 : decode cX6_told 101 = .ok (.if_icmp .ne 10, 3) := by decide +kernel
theorem dX6_told_104 : decode cX6_told 104 = .ok (.aload_n 0, 1) := by decide +kernel
theorem dX6_told_105 : decode cX6_told 105 = .ok (.getfield 71, 3) := by decide +kernel
theorem dX6_told_108 : decode cX6_told 108 = .ok (.goto 38, 3) := by decide +kernel
theorem dX6_told_111 : decode cX6_told 111 = .ok (.iload_n 2, 1) := by decide +kernel
theorem dX6_told_112 : decode cX6_told 112 = .ok (.iconst 3, 1) := by decide +kernel
theorem dX6_told_113 : decode cX6_told 113 = .ok (.if_icmp .ne 8, 3) := by decide +kernel
theorem dX6_told_116 : decode cX6_told 116 = .ok (.iload 5, 2) := by decide +kernel
theorem dX6_told_118 : decode cX6_told 118 = .ok (.goto 28, 3) := by decide +kernel
theorem dX6_told_121 : decode cX6_told 121 = .ok (.iload_n 2, 1) := by decide +kernel
theorem dX6_told_122 : decode cX6_told 122 = .ok (.iconst 4, 1) := by decide +kernel
theorem dX6_told_123 : decode cX6_told 123 = .ok (.if_icmp .ne 13, 3) := by decide +kernel
theorem dX6_told_126 : decode cX6_told 126 = .ok (.aload_n 0, 1) := by decide +kernel
theorem dX6_told_127 : decode cX6_told 127 = .ok (.iload_n 1, 1) := by decide +kernel
theorem dX6_told_128 : decode cX6_told 128 = .ok (.iconst 0, 1) := by decide +kernel
theorem dX6_told_129 : decode cX6_told 129 = .ok (.iload_n 3, 1) := by decide +kernel
theorem dX6_told_130 : decode cX6_told 130 = .ok (.invokevirtual 105, 3) := by decide +kernel
theorem dX6_told_133 : decode cX6_told 133 = .ok (.goto 13, 3) := by decide +kernel
theorem dX6_told_136 : decode cX6_told 136 = .ok (.aload_n 0, 1) := by decide +kernel
theorem dX6_told_137 : decode cX6_told 137 = .ok (.iload_n 1, 1) := by decide +kernel
theorem dX6_told_138 : decode cX6_told 138 = .ok (.iload_n 3, 1) := by decide +kernel
theorem dX6_told_139 : decode cX6_told 139 = .ok (.iload_n 3, 1) := by decide +kernel
theorem dX6_told_140 : decode cX6_told 140 = .ok (.iload 4, 2) := by decide +kernel
theorem dX6_told_142 : decode cX6_told 142 = .ok (.iadd, 1) := by decide +kernel
theorem dX6_told_143 : decode cX6_told 143 = .ok (.invokevirtual 105, 3) := by decide +kernel
theorem dX6_told_146 : decode cX6_told 146 = .ok (.ireturn, 1) := by decide +kernel
theorem dX6_layFar_0 : decode cX6_layFar 0 = .ok (.iconst 0, 1) := by decide +kernel
theorem dX6_layFar_1 : decode cX6_layFar 1 = .ok (.istore_n 2, 1) := by decide +kernel
theorem dX6_layFar_2 : decode cX6_layFar 2 = .ok (.iload_n 2, 1) := by decide +kernel
theorem dX6_layFar_3 : decode cX6_layFar 3 = .ok (.aload_n 0, 1) := by decide +kernel
theorem dX6_layFar_4 : decode cX6_layFar 4 = .ok (.getfield 71, 3) := by decide +kernel
theorem dX6_layFar_7 : decode cX6_layFar 7 = .ok (.if_icmp .ge 40, 3) := by decide +kernel
theorem dX6_layFar_10 : decode cX6_layFar 10 = .ok (.aload_n 0, 1) := by decide +kernel
theorem dX6_layFar_11 : decode cX6_layFar 11 = .ok (.getfield 31, 3) := by decide +kernel
theorem dX6_layFar_14 : decode cX6_layFar 14 = .ok (.iload_n 2, 1) := by decide +kernel
theorem dX6_layFar_15 : decode cX6_layFar 15 = .ok (.iload_n 1, 1) := by decide +kernel
theorem dX6_layFar_16 : decode cX6_layFar 16 = .ok (.ifCond .eq 14, 3) := by decide +kernel
theorem dX6_layFar_19 : decode cX6_layFar 19 = .ok (.aload_n 0, 1) := by decide +kernel
theorem dX6_layFar_20 : decode cX6_layFar 20 = .ok (.iload_n 2, 1) := by decide +kernel
theorem dX6_layFar_21 : decode cX6_layFar 21 = .ok (.invokevirtual 102, 3) := by decide +kernel
theorem dX6_layFar_24 : decode cX6_layFar 24 = .ok (.ifCond .eq 14, 3) := by decide +kernel
theorem dX6_layFar_27 : decode cX6_layFar 27 = .ok (.goto 7, 3) := by decide +kernel
theorem dX6_layFar_30 : decode cX6_layFar 30 = .ok (.iload_n 2, 1) := by decide +kernel
theorem dX6_layFar_31 : decode cX6_layFar 31 = .ok (.ifCond .ne 7, 3) := by decide +kernel
theorem dX6_layFar_34 : decode cX6_layFar 34 = .ok (.iconst 0, 1) := by decide +kernel
theorem dX6_layFar_35 : decode cX6_layFar 35 = .ok (.goto 5, 3) := by decide +kernel
theorem dX6_layFar_38 : decode cX6_layFar 38 = .ok (.bipush (-6), 2) := by decide +kernel
theorem dX6_layFar_40 : decode cX6_layFar 40 = .ok (.iastore, 1) := by decide +kernel
theorem dX6_layFar_41 : decode cX6_layFar 41 = .ok (.iinc 2 1, 3) := by decide +kernel
theorem dX6_layFar_44 : decode cX6_layFar 44 = .ok (.goto (-42), 3) := by decide +kernel
theorem dX6_layFar_47 : decode cX6_layFar 47 = .ok (.iconst 0, 1) := by decide +kernel
theorem dX6_layFar_48 : decode cX6_layFar 48 = .ok (.istore_n 2, 1) := by decide +kernel
theorem dX6_layFar_49 : decode cX6_layFar 49 = .ok (.iload_n 2, 1) := by decide +kernel
theorem dX6_layFar_50 : decode cX6_layFar 50 = .ok (.aload_n 0, 1) := by decide +kernel
theorem dX6_layFar_51 : decode cX6_layFar 51 = .ok (.getfield 71, 3) := by decide +kernel
theorem dX6_layFar_54 : decode cX6_layFar 54 = .ok (.if_icmp .ge 113, 3) := by decide +kernel
theorem dX6_layFar_57 : decode cX6_layFar 57 = .ok (.iconst 0, 1) := by decide +kernel
theorem dX6_layFar_58 : decode cX6_layFar 58 = .ok (.istore_n 3, 1) := by decide +kernel
theorem dX6_layFar_59 : decode cX6_layFar 59 = .ok (.iload_n 3, 1) := by decide +kernel
theorem dX6_layFar_60 : decode cX6_layFar 60 = .ok (.aload_n 0, 1) := by decide +kernel
theorem dX6_layFar_61 : decode cX6_layFar 61 = .ok (.getfield 71, 3) := by decide +kernel
theorem dX6_layFar_64 : decode cX6_layFar 64 = .ok (.aload_n 0, 1) := by decide +kernel
theorem dX6_layFar_65 : decode cX6_layFar 65 = .ok (.getfield 7, 3) := by decide +kernel
theorem dX6_layFar_68 : decode cX6_layFar 68 = .ok (.imul, 1) := by decide +kernel
theorem dX6_layFar_69 : decode cX6_layFar 69 = .ok (.if_icmp .ge 92, 3) := by decide +kernel
theorem dX6_layFar_72 : decode cX6_layFar 72 = .ok (.iload_n 3, 1) := by decide +kernel
theorem dX6_layFar_73 : decode cX6_layFar 73 = .ok (.aload_n 0, 1) := by decide +kernel
theorem dX6_layFar_74 : decode cX6_layFar 74 = .ok (.getfield 7, 3) := by decide +kernel
theorem dX6_layFar_77 : decode cX6_layFar 77 = .ok (.idiv, 1) := by decide +kernel
theorem dX6_layFar_78 : decode cX6_layFar 78 = .ok (.istore 4, 2) := by decide +kernel
theorem dX6_layFar_80 : decode cX6_layFar 80 = .ok (.aload_n 0, 1) := by decide +kernel
theorem dX6_layFar_81 : decode cX6_layFar 81 = .ok (.getfield 28, 3) := by decide +kernel
theorem dX6_layFar_84 : decode cX6_layFar 84 = .ok (.iconst 5, 1) := by decide +kernel
theorem dX6_layFar_85 : decode cX6_layFar 85 = .ok (.iload 4, 2) := by decide +kernel
theorem dX6_layFar_87 : decode cX6_layFar 87 = .ok (.imul, 1) := by decide +kernel
theorem dX6_layFar_88 : decode cX6_layFar 88 = .ok (.iload_n 3, 1) := by decide +kernel
theorem dX6_layFar_89 : decode cX6_layFar 89 = .ok (.aload_n 0, 1) := by decide +kernel
theorem dX6_layFar_90 : decode cX6_layFar 90 = .ok (.getfield 7, 3) := by decide +kernel
theorem dX6_layFar_93 : decode cX6_layFar 93 = .ok (.irem, 1) := by decide +kernel
theorem dX6_layFar_94 : decode cX6_layFar 94 = .ok (.iadd, 1) := by decide +kernel
theorem dX6_layFar_95 : decode cX6_layFar 95 = .ok (.iaload, 1) := by decide +kernel
theorem dX6_layFar_96 : decode cX6_layFar 96 = .ok (.istore 5, 2) := by decide +kernel
theorem dX6_layFar_98 : decode cX6_layFar 98 = .ok (.iload_n 1, 1) := by decide +kernel
theorem dX6_layFar_99 : decode cX6_layFar 99 = .ok (.ifCond .eq 8, 3) := by decide +kernel
theorem dX6_layFar_102 : decode cX6_layFar 102 = .ok (.iload 5, 2) := by decide +kernel
theorem dX6_layFar_104 : decode cX6_layFar 104 = .ok (.goto 5, 3) := by decide +kernel
theorem dX6_layFar_107 : decode cX6_layFar 107 = .ok (.iload 4, 2) := by decide +kernel
theorem dX6_layFar_109 : decode cX6_layFar 109 = .ok (.istore 6, 2) := by decide +kernel
theorem dX6_layFar_111 : decode cX6_layFar 111 = .ok (.iload_n 1, 1) := by decide +kernel
theorem dX6_layFar_112 : decode cX6_layFar 112 = .ok (.ifCond .eq 8, 3) := by decide +kernel
theorem dX6_layFar_115 : decode cX6_layFar 115 = .ok (.iload 4, 2) := by decide +kernel
theorem dX6_layFar_117 : decode cX6_layFar 117 = .ok (.goto 5, 3) := by decide +kernel
theorem dX6_layFar_120 : decode cX6_layFar 120 = .ok (.iload 5, 2) := by decide +kernel
theorem dX6_layFar_122 : decode cX6_layFar 122 = .ok (.istore 7, 2) := by decide +kernel
theorem dX6_layFar_124 : decode cX6_layFar 124 = .ok (.aload_n 0, 1) := by decide +kernel
theorem dX6_layFar_125 : decode cX6_layFar 125 = .ok (.getfield 31, 3) := by decide +kernel
theorem dX6_layFar_128 : decode cX6_layFar 128 = .ok (.iload 6, 2) := by decide +kernel
theorem dX6_layFar_130 : decode cX6_layFar 130 = .ok (.iaload, 1) := by decide +kernel
theorem dX6_layFar_131 : decode cX6_layFar 131 = .ok (.iload_n 2, 1) := by decide +kernel
theorem dX6_layFar_132 : decode cX6_layFar 132 = .ok (.if_icmp .ne 23, 3) := by decide +kernel
theorem dX6_layFar_135 : decode cX6_layFar 135 = .ok (.aload_n 0, 1) := by decide +kernel
theorem dX6_layFar_136 : decode cX6_layFar 136 = .ok (.getfield 31, 3) := by decide +kernel
theorem dX6_layFar_139 : decode cX6_layFar 139 = .ok (.iload 7, 2) := by decide +kernel
theorem dX6_layFar_141 : decode cX6_layFar 141 = .ok (.iaload, 1) := by decide +kernel
theorem dX6_layFar_142 : decode cX6_layFar 142 = .ok (.ifCond .ge 13, 3) := by decide +kernel
theorem dX6_layFar_145 : decode cX6_layFar 145 = .ok (.aload_n 0, 1) := by decide +kernel
theorem dX6_layFar_146 : decode cX6_layFar 146 = .ok (.getfield 31, 3) := by decide +kernel
theorem dX6_layFar_149 : decode cX6_layFar 149 = .ok (.iload 7, 2) := by decide +kernel
theorem dX6_layFar_151 : decode cX6_layFar 151 = .ok (.iload_n 2, 1) := by decide +kernel
theorem dX6_layFar_152 : decode cX6_layFar 152 = .ok (.iconst 1, 1) := by decide +kernel
theorem dX6_layFar_153 : decode cX6_layFar 153 = .ok (.iadd, 1) := by decide +kernel
theorem dX6_layFar_154 : decode cX6_layFar 154 = .ok (.iastore, 1) := by decide +kernel
theorem dX6_layFar_155 : decode cX6_layFar 155 = .ok (.iinc 3 1, 3) := by decide +kernel
theorem dX6_layFar_158 : decode cX6_layFar 158 = .ok (.goto (-99), 3) := by decide +kernel
theorem dX6_layFar_161 : decode cX6_layFar 161 = .ok (.iinc 2 1, 3) := by decide +kernel
theorem dX6_layFar_164 : decode cX6_layFar 164 = .ok (.goto (-115), 3) := by decide +kernel
theorem dX6_layFar_167 : decode cX6_layFar 167 = .ok (.return_, 1) := by decide +kernel
theorem dX6_state_0 : decode cX6_state 0 = .ok (.iload_n 1, 1) := by decide +kernel
theorem dX6_state_1 : decode cX6_state 1 = .ok (.invokestatic 85, 3) := by decide +kernel
theorem dX6_state_4 : decode cX6_state 4 = .ok (.ifCond .ne 5, 3) := by decide +kernel
theorem dX6_state_7 : decode cX6_state 7 = .ok (.iconst (-1), 1) := by decide +kernel
theorem dX6_state_8 : decode cX6_state 8 = .ok (.ireturn, 1) := by decide +kernel
theorem dX6_state_9 : decode cX6_state 9 = .ok (.aload_n 0, 1) := by decide +kernel
theorem dX6_state_10 : decode cX6_state 10 = .ok (.iload_n 1, 1) := by decide +kernel
theorem dX6_state_11 : decode cX6_state 11 = .ok (.invokevirtual 81, 3) := by decide +kernel
theorem dX6_state_14 : decode cX6_state 14 = .ok (.iload_n 2, 1) := by decide +kernel
theorem dX6_state_15 : decode cX6_state 15 = .ok (.iconst 0, 1) := by decide +kernel
theorem dX6_state_16 : decode cX6_state 16 = .ok (.aload_n 0, 1) := by decide +kernel
theorem dX6_state_17 : decode cX6_state 17 = .ok (.getfield 71, 3) := by decide +kernel
theorem dX6_state_20 : decode cX6_state 20 = .ok (.iconst 1, 1) := by decide +kernel
theorem dX6_state_21 : decode cX6_state 21 = .ok (.isub, 1) := by decide +kernel
theorem dX6_state_22 : decode cX6_state 22 = .ok (.invokestatic 40, 3) := by decide +kernel
theorem dX6_state_25 : decode cX6_state 25 = .ok (.ifCond .ne 5, 3) := by decide +kernel
theorem dX6_state_28 : decode cX6_state 28 = .ok (.iconst (-1), 1) := by decide +kernel
theorem dX6_state_29 : decode cX6_state 29 = .ok (.ireturn, 1) := by decide +kernel
theorem dX6_state_30 : decode cX6_state 30 = .ok (.iload_n 3, 1) := by decide +kernel
theorem dX6_state_31 : decode cX6_state 31 = .ok (.iconst 0, 1) := by decide +kernel
theorem dX6_state_32 : decode cX6_state 32 = .ok (.bipush 7, 2) := by decide +kernel
theorem dX6_state_34 : decode cX6_state 34 = .ok (.invokestatic 40, 3) := by decide +kernel
theorem dX6_state_37 : decode cX6_state 37 = .ok (.ifCond .ne 6, 3) := by decide +kernel
theorem dX6_state_40 : decode cX6_state 40 = .ok (.bipush (-2), 2) := by decide +kernel
theorem dX6_state_42 : decode cX6_state 42 = .ok (.ireturn, 1) := by decide +kernel
theorem dX6_state_43 : decode cX6_state 43 = .ok (.iload_n 3, 1) := by decide +kernel
theorem dX6_state_44 : decode cX6_state 44 = .ok (.iconst 5, 1) := by decide +kernel
theorem dX6_state_45 : decode cX6_state 45 = .ok (.if_icmp .ge 27, 3) := by decide +kernel
theorem dX6_state_48 : decode cX6_state 48 = .ok (.iload_n 3, 1) := by decide +kernel
theorem dX6_state_49 : decode cX6_state 49 = .ok (.aload_n 0, 1) := by decide +kernel
theorem dX6_state_50 : decode cX6_state 50 = .ok (.getfield 7, 3) := by decide +kernel
theorem dX6_state_53 : decode cX6_state 53 = .ok (.if_icmp .ge 16, 3) := by decide +kernel
theorem dX6_state_56 : decode cX6_state 56 = .ok (.aload_n 0, 1) := by decide +kernel
theorem dX6_state_57 : decode cX6_state 57 = .ok (.getfield 28, 3) := by decide +kernel
theorem dX6_state_60 : decode cX6_state 60 = .ok (.iconst 5, 1) := by decide +kernel
theorem dX6_state_61 : decode cX6_state 61 = .ok (.iload_n 2, 1) := by decide +kernel
theorem dX6_state_62 : decode cX6_state 62 = .ok (.imul, 1) := by decide +kernel
theorem dX6_state_63 : decode cX6_state 63 = .ok (.iload_n 3, 1) := by decide +kernel
theorem dX6_state_64 : decode cX6_state 64 = .ok (.iadd, 1) := by decide +kernel
theorem dX6_state_65 : decode cX6_state 65 = .ok (.iaload, 1) := by decide +kernel
theorem dX6_state_66 : decode cX6_state 66 = .ok (.goto 5, 3) := by decide +kernel
theorem dX6_state_69 : decode cX6_state 69 = .ok (.bipush (-3), 2) := by decide +kernel
theorem dX6_state_71 : decode cX6_state 71 = .ok (.ireturn, 1) := by decide +kernel
theorem dX6_state_72 : decode cX6_state 72 = .ok (.iload_n 3, 1) := by decide +kernel
theorem dX6_state_73 : decode cX6_state 73 = .ok (.iconst 5, 1) := by decide +kernel
theorem dX6_state_74 : decode cX6_state 74 = .ok (.if_icmp .ne 17, 3) := by decide +kernel
theorem dX6_state_77 : decode cX6_state 77 = .ok (.aload_n 0, 1) := by decide +kernel
theorem dX6_state_78 : decode cX6_state 78 = .ok (.iload_n 2, 1) := by decide +kernel
theorem dX6_state_79 : decode cX6_state 79 = .ok (.invokevirtual 102, 3) := by decide +kernel
theorem dX6_state_82 : decode cX6_state 82 = .ok (.ifCond .eq 7, 3) := by decide +kernel
theorem dX6_state_85 : decode cX6_state 85 = .ok (.iconst 1, 1) := by decide +kernel
theorem dX6_state_86 : decode cX6_state 86 = .ok (.goto 4, 3) := by decide +kernel
theorem dX6_state_89 : decode cX6_state 89 = .ok (.iconst 0, 1) := by decide +kernel
theorem dX6_state_90 : decode cX6_state 90 = .ok (.ireturn, 1) := by decide +kernel
theorem dX6_state_91 : decode cX6_state 91 = .ok (.aload_n 0, 1) := by decide +kernel
theorem dX6_state_92 : decode cX6_state 92 = .ok (.iload_n 3, 1) := by decide +kernel
theorem dX6_state_93 : decode cX6_state 93 = .ok (.bipush 7, 2) := by decide +kernel
theorem dX6_state_95 : decode cX6_state 95 = .ok (.if_icmp .ne 7, 3) := by decide +kernel
theorem dX6_state_98 : decode cX6_state 98 = .ok (.iconst 1, 1) := by decide +kernel
theorem dX6_state_99 : decode cX6_state 99 = .ok (.goto 4, 3) := by decide +kernel
theorem dX6_state_102 : decode cX6_state 102 = .ok (.iconst 0, 1) := by decide +kernel
theorem dX6_state_103 : decode cX6_state 103 = .ok (.invokevirtual 109, 3) := by decide +kernel
theorem dX6_state_106 : decode cX6_state 106 = .ok (.aload_n 0, 1) := by decide +kernel
theorem dX6_state_107 : decode cX6_state 107 = .ok (.getfield 31, 3) := by decide +kernel
theorem dX6_state_110 : decode cX6_state 110 = .ok (.iload_n 2, 1) := by decide +kernel
theorem dX6_state_111 : decode cX6_state 111 = .ok (.iaload, 1) := by decide +kernel
theorem dX6_state_112 : decode cX6_state 112 = .ok (.ireturn, 1) := by decide +kernel
theorem dX6_walk_0 : decode cX6_walk 0 = .ok (.iload_n 1, 1) := by decide +kernel
theorem dX6_walk_1 : decode cX6_walk 1 = .ok (.invokestatic 85, 3) := by decide +kernel
theorem dX6_walk_4 : decode cX6_walk 4 = .ok (.ifCond .ne 5, 3) := by decide +kernel
theorem dX6_walk_7 : decode cX6_walk 7 = .ok (.iconst (-1), 1) := by decide +kernel
theorem dX6_walk_8 : decode cX6_walk 8 = .ok (.ireturn, 1) := by decide +kernel
theorem dX6_walk_9 : decode cX6_walk 9 = .ok (.iload_n 3, 1) := by decide +kernel
theorem dX6_walk_10 : decode cX6_walk 10 = .ok (.iconst 0, 1) := by decide +kernel
theorem dX6_walk_11 : decode cX6_walk 11 = .ok (.bipush 40, 2) := by decide +kernel
theorem dX6_walk_13 : decode cX6_walk 13 = .ok (.invokestatic 40, 3) := by decide +kernel
theorem dX6_walk_16 : decode cX6_walk 16 = .ok (.ifCond .eq 7, 3) := by decide +kernel
theorem dX6_walk_19 : decode cX6_walk 19 = .ok (.iload_n 2, 1) := by decide +kernel
theorem dX6_walk_20 : decode cX6_walk 20 = .ok (.ifCond .ge 6, 3) := by decide +kernel
theorem dX6_walk_23 : decode cX6_walk 23 = .ok (.bipush (-2), 2) := by decide +kernel
theorem dX6_walk_25 : decode cX6_walk 25 = .ok (.ireturn, 1) := by decide +kernel
theorem dX6_walk_26 : decode cX6_walk 26 = .ok (.aload_n 0, 1) := by decide +kernel
theorem dX6_walk_27 : decode cX6_walk 27 = .ok (.iload_n 1, 1) := by decide +kernel
theorem dX6_walk_28 : decode cX6_walk 28 = .ok (.invokevirtual 81, 3) := by decide +kernel
theorem dX6_walk_31 : decode cX6_walk 31 = .ok (.iconst 0, 1) := by decide +kernel
theorem dX6_walk_32 : decode cX6_walk 32 = .ok (.istore 4, 2) := by decide +kernel
theorem dX6_walk_34 : decode cX6_walk 34 = .ok (.iload_n 2, 1) := by decide +kernel
theorem dX6_walk_35 : decode cX6_walk 35 = .ok (.istore 5, 2) := by decide +kernel
theorem dX6_walk_37 : decode cX6_walk 37 = .ok (.iconst 0, 1) := by decide +kernel
theorem dX6_walk_38 : decode cX6_walk 38 = .ok (.istore 6, 2) := by decide +kernel
theorem dX6_walk_40 : decode cX6_walk 40 = .ok (.iload 6, 2) := by decide +kernel
theorem dX6_walk_42 : decode cX6_walk 42 = .ok (.iload_n 3, 1) := by decide +kernel
theorem dX6_walk_43 : decode cX6_walk 43 = .ok (.if_icmp .ge 37, 3) := by decide +kernel
theorem dX6_walk_46 : decode cX6_walk 46 = .ok (.aload_n 0, 1) := by decide +kernel
theorem dX6_walk_47 : decode cX6_walk 47 = .ok (.getfield 28, 3) := by decide +kernel
theorem dX6_walk_50 : decode cX6_walk 50 = .ok (.iconst 5, 1) := by decide +kernel
theorem dX6_walk_51 : decode cX6_walk 51 = .ok (.iload 4, 2) := by decide +kernel
theorem dX6_walk_53 : decode cX6_walk 53 = .ok (.imul, 1) := by decide +kernel
theorem dX6_walk_54 : decode cX6_walk 54 = .ok (.iload 5, 2) := by decide +kernel
theorem dX6_walk_56 : decode cX6_walk 56 = .ok (.aload_n 0, 1) := by decide +kernel
theorem dX6_walk_57 : decode cX6_walk 57 = .ok (.getfield 7, 3) := by decide +kernel
theorem dX6_walk_60 : decode cX6_walk 60 = .ok (.irem, 1) := by decide +kernel
theorem dX6_walk_61 : decode cX6_walk 61 = .ok (.iadd, 1) := by decide +kernel
theorem dX6_walk_62 : decode cX6_walk 62 = .ok (.iaload, 1) := by decide +kernel
theorem dX6_walk_63 : decode cX6_walk 63 = .ok (.istore 4, 2) := by decide +kernel
theorem dX6_walk_65 : decode cX6_walk 65 = .ok (.iload 5, 2) := by decide +kernel
theorem dX6_walk_67 : decode cX6_walk 67 = .ok (.aload_n 0, 1) := by decide +kernel
theorem dX6_walk_68 : decode cX6_walk 68 = .ok (.getfield 7, 3) := by decide +kernel
theorem dX6_walk_71 : decode cX6_walk 71 = .ok (.idiv, 1) := by decide +kernel
theorem dX6_walk_72 : decode cX6_walk 72 = .ok (.istore 5, 2) := by decide +kernel
theorem dX6_walk_74 : decode cX6_walk 74 = .ok (.iinc 6 1, 3) := by decide +kernel
theorem dX6_walk_77 : decode cX6_walk 77 = .ok (.goto (-37), 3) := by decide +kernel
theorem dX6_walk_80 : decode cX6_walk 80 = .ok (.iload 4, 2) := by decide +kernel
theorem dX6_walk_82 : decode cX6_walk 82 = .ok (.ireturn, 1) := by decide +kernel
theorem dX6_has_0 : decode cX6_has 0 = .ok (.iload_n 1, 1) := by decide +kernel
theorem dX6_has_1 : decode cX6_has 1 = .ok (.invokestatic 85, 3) := by decide +kernel
theorem dX6_has_4 : decode cX6_has 4 = .ok (.ifCond .ne 5, 3) := by decide +kernel
theorem dX6_has_7 : decode cX6_has 7 = .ok (.iconst (-1), 1) := by decide +kernel
theorem dX6_has_8 : decode cX6_has 8 = .ok (.ireturn, 1) := by decide +kernel
theorem dX6_has_9 : decode cX6_has 9 = .ok (.iload_n 2, 1) := by decide +kernel
theorem dX6_has_10 : decode cX6_has 10 = .ok (.iconst 0, 1) := by decide +kernel
theorem dX6_has_11 : decode cX6_has 11 = .ok (.ldc 113, 2) := by decide +kernel
theorem dX6_has_13 : decode cX6_has 13 = .ok (.invokestatic 40, 3) := by decide +kernel
theorem dX6_has_16 : decode cX6_has 16 = .ok (.ifCond .ne 8, 3) := by decide +kernel
theorem dX6_has_19 : decode cX6_has 19 = .ok (.bipush (-2), 2) := by decide +kernel
theorem dX6_has_21 : decode cX6_has 21 = .ok (.goto 17, 3) := by decide +kernel
theorem dX6_has_24 : decode cX6_has 24 = .ok (.aload_n 0, 1) := by decide +kernel
theorem dX6_has_25 : decode cX6_has 25 = .ok (.iload_n 1, 1) := by decide +kernel
theorem dX6_has_26 : decode cX6_has 26 = .ok (.iload_n 2, 1) := by decide +kernel
theorem dX6_has_27 : decode cX6_has 27 = .ok (.invokevirtual 60, 3) := by decide +kernel
theorem dX6_has_30 : decode cX6_has 30 = .ok (.ifCond .eq 7, 3) := by decide +kernel
theorem dX6_has_33 : decode cX6_has 33 = .ok (.iconst 1, 1) := by decide +kernel
theorem dX6_has_34 : decode cX6_has 34 = .ok (.goto 4, 3) := by decide +kernel
theorem dX6_has_37 : decode cX6_has 37 = .ok (.iconst 0, 1) := by decide +kernel
theorem dX6_has_38 : decode cX6_has 38 = .ok (.ireturn, 1) := by decide +kernel
theorem dX6_next_0 : decode cX6_next 0 = .ok (.iload_n 1, 1) := by decide +kernel
theorem dX6_next_1 : decode cX6_next 1 = .ok (.invokestatic 85, 3) := by decide +kernel
theorem dX6_next_4 : decode cX6_next 4 = .ok (.ifCond .ne 5, 3) := by decide +kernel
theorem dX6_next_7 : decode cX6_next 7 = .ok (.iconst (-1), 1) := by decide +kernel
theorem dX6_next_8 : decode cX6_next 8 = .ok (.ireturn, 1) := by decide +kernel
theorem dX6_next_9 : decode cX6_next 9 = .ok (.iload_n 2, 1) := by decide +kernel
theorem dX6_next_10 : decode cX6_next 10 = .ok (.iconst 0, 1) := by decide +kernel
theorem dX6_next_11 : decode cX6_next 11 = .ok (.ldc 113, 2) := by decide +kernel
theorem dX6_next_13 : decode cX6_next 13 = .ok (.invokestatic 40, 3) := by decide +kernel
theorem dX6_next_16 : decode cX6_next 16 = .ok (.ifCond .ne 6, 3) := by decide +kernel
theorem dX6_next_19 : decode cX6_next 19 = .ok (.bipush (-2), 2) := by decide +kernel
theorem dX6_next_21 : decode cX6_next 21 = .ok (.ireturn, 1) := by decide +kernel
theorem dX6_next_22 : decode cX6_next 22 = .ok (.iconst 0, 1) := by decide +kernel
theorem dX6_next_23 : decode cX6_next 23 = .ok (.istore_n 3, 1) := by decide +kernel
theorem dX6_next_24 : decode cX6_next 24 = .ok (.iload_n 3, 1) := by decide +kernel
theorem dX6_next_25 : decode cX6_next 25 = .ok (.aload_n 0, 1) := by decide +kernel
theorem dX6_next_26 : decode cX6_next 26 = .ok (.getfield 13, 3) := by decide +kernel
theorem dX6_next_29 : decode cX6_next 29 = .ok (.iload_n 1, 1) := by decide +kernel
theorem dX6_next_30 : decode cX6_next 30 = .ok (.iaload, 1) := by decide +kernel
theorem dX6_next_31 : decode cX6_next 31 = .ok (.aload_n 0, 1) := by decide +kernel
theorem dX6_next_32 : decode cX6_next 32 = .ok (.getfield 17, 3) := by decide +kernel
theorem dX6_next_35 : decode cX6_next 35 = .ok (.iload_n 1, 1) := by decide +kernel
theorem dX6_next_36 : decode cX6_next 36 = .ok (.iaload, 1) := by decide +kernel
theorem dX6_next_37 : decode cX6_next 37 = .ok (.iadd, 1) := by decide +kernel
theorem dX6_next_38 : decode cX6_next 38 = .ok (.if_icmp .ge 24, 3) := by decide +kernel
theorem dX6_next_41 : decode cX6_next 41 = .ok (.aload_n 0, 1) := by decide +kernel
theorem dX6_next_42 : decode cX6_next 42 = .ok (.iload_n 1, 1) := by decide +kernel
theorem dX6_next_43 : decode cX6_next 43 = .ok (.iload_n 2, 1) := by decide +kernel
theorem dX6_next_44 : decode cX6_next 44 = .ok (.iload_n 3, 1) := by decide +kernel
theorem dX6_next_45 : decode cX6_next 45 = .ok (.iadd, 1) := by decide +kernel
theorem dX6_next_46 : decode cX6_next 46 = .ok (.invokevirtual 60, 3) := by decide +kernel
theorem dX6_next_49 : decode cX6_next 49 = .ok (.ifCond .eq 7, 3) := by decide +kernel
theorem dX6_next_52 : decode cX6_next 52 = .ok (.iload_n 2, 1) := by decide +kernel
theorem dX6_next_53 : decode cX6_next 53 = .ok (.iload_n 3, 1) := by decide +kernel
theorem dX6_next_54 : decode cX6_next 54 = .ok (.iadd, 1) := by decide +kernel
theorem dX6_next_55 : decode cX6_next 55 = .ok (.ireturn, 1) := by decide +kernel
theorem dX6_next_56 : decode cX6_next 56 = .ok (.iinc 3 1, 3) := by decide +kernel
theorem dX6_next_59 : decode cX6_next 59 = .ok (.goto (-35), 3) := by decide +kernel
theorem dX6_next_62 : decode cX6_next 62 = .ok (.bipush (-6), 2) := by decide +kernel
theorem dX6_next_64 : decode cX6_next 64 = .ok (.ireturn, 1) := by decide +kernel
theorem dX6_below_0 : decode cX6_below 0 = .ok (.iload_n 1, 1) := by decide +kernel
theorem dX6_below_1 : decode cX6_below 1 = .ok (.invokestatic 85, 3) := by decide +kernel
theorem dX6_below_4 : decode cX6_below 4 = .ok (.ifCond .ne 5, 3) := by decide +kernel
theorem dX6_below_7 : decode cX6_below 7 = .ok (.iconst (-1), 1) := by decide +kernel
theorem dX6_below_8 : decode cX6_below 8 = .ok (.ireturn, 1) := by decide +kernel
theorem dX6_below_9 : decode cX6_below 9 = .ok (.iload_n 2, 1) := by decide +kernel
theorem dX6_below_10 : decode cX6_below 10 = .ok (.iconst 0, 1) := by decide +kernel
theorem dX6_below_11 : decode cX6_below 11 = .ok (.ldc 113, 2) := by decide +kernel
theorem dX6_below_13 : decode cX6_below 13 = .ok (.invokestatic 40, 3) := by decide +kernel
theorem dX6_below_16 : decode cX6_below 16 = .ok (.ifCond .ne 6, 3) := by decide +kernel
theorem dX6_below_19 : decode cX6_below 19 = .ok (.bipush (-2), 2) := by decide +kernel
theorem dX6_below_21 : decode cX6_below 21 = .ok (.ireturn, 1) := by decide +kernel
theorem dX6_below_22 : decode cX6_below 22 = .ok (.aload_n 0, 1) := by decide +kernel
theorem dX6_below_23 : decode cX6_below 23 = .ok (.getfield 13, 3) := by decide +kernel
theorem dX6_below_26 : decode cX6_below 26 = .ok (.iload_n 1, 1) := by decide +kernel
theorem dX6_below_27 : decode cX6_below 27 = .ok (.iaload, 1) := by decide +kernel
theorem dX6_below_28 : decode cX6_below 28 = .ok (.istore_n 3, 1) := by decide +kernel
theorem dX6_below_29 : decode cX6_below 29 = .ok (.aload_n 0, 1) := by decide +kernel
theorem dX6_below_30 : decode cX6_below 30 = .ok (.getfield 17, 3) := by decide +kernel
theorem dX6_below_33 : decode cX6_below 33 = .ok (.iload_n 1, 1) := by decide +kernel
theorem dX6_below_34 : decode cX6_below 34 = .ok (.iaload, 1) := by decide +kernel
theorem dX6_below_35 : decode cX6_below 35 = .ok (.istore 4, 2) := by decide +kernel
theorem dX6_below_37 : decode cX6_below 37 = .ok (.iload_n 2, 1) := by decide +kernel
theorem dX6_below_38 : decode cX6_below 38 = .ok (.iload_n 3, 1) := by decide +kernel
theorem dX6_below_39 : decode cX6_below 39 = .ok (.if_icmp .gt 11, 3) := by decide +kernel
theorem dX6_below_42 : decode cX6_below 42 = .ok (.aload_n 0, 1) := by decide +kernel
theorem dX6_below_43 : decode cX6_below 43 = .ok (.iload_n 1, 1) := by decide +kernel
theorem dX6_below_44 : decode cX6_below 44 = .ok (.iconst 0, 1) := by decide +kernel
theorem dX6_below_45 : decode cX6_below 45 = .ok (.iload_n 2, 1) := by decide +kernel
theorem dX6_below_46 : decode cX6_below 46 = .ok (.invokevirtual 105, 3) := by decide +kernel
theorem dX6_below_49 : decode cX6_below 49 = .ok (.ireturn, 1) := by decide +kernel
theorem dX6_below_50 : decode cX6_below 50 = .ok (.iload_n 2, 1) := by decide +kernel
theorem dX6_below_51 : decode cX6_below 51 = .ok (.iload_n 3, 1) := by decide +kernel
theorem dX6_below_52 : decode cX6_below 52 = .ok (.isub, 1) := by decide +kernel
theorem dX6_below_53 : decode cX6_below 53 = .ok (.iload 4, 2) := by decide +kernel
theorem dX6_below_55 : decode cX6_below 55 = .ok (.idiv, 1) := by decide +kernel
theorem dX6_below_56 : decode cX6_below 56 = .ok (.istore 5, 2) := by decide +kernel
theorem dX6_below_58 : decode cX6_below 58 = .ok (.aload_n 0, 1) := by decide +kernel
theorem dX6_below_59 : decode cX6_below 59 = .ok (.iload_n 1, 1) := by decide +kernel
theorem dX6_below_60 : decode cX6_below 60 = .ok (.iconst 0, 1) := by decide +kernel
theorem dX6_below_61 : decode cX6_below 61 = .ok (.iload_n 3, 1) := by decide +kernel
theorem dX6_below_62 : decode cX6_below 62 = .ok (.invokevirtual 105, 3) := by decide +kernel
theorem dX6_below_65 : decode cX6_below 65 = .ok (.iload 5, 2) := by decide +kernel
theorem dX6_below_67 : decode cX6_below 67 = .ok (.aload_n 0, 1) := by decide +kernel
theorem dX6_below_68 : decode cX6_below 68 = .ok (.iload_n 1, 1) := by decide +kernel
theorem dX6_below_69 : decode cX6_below 69 = .ok (.iload_n 3, 1) := by decide +kernel
theorem dX6_below_70 : decode cX6_below 70 = .ok (.iload_n 3, 1) := by decide +kernel
theorem dX6_below_71 : decode cX6_below 71 = .ok (.iload 4, 2) := by decide +kernel
theorem dX6_below_73 : decode cX6_below 73 = .ok (.iadd, 1) := by decide +kernel
theorem dX6_below_74 : decode cX6_below 74 = .ok (.invokevirtual 105, 3) := by decide +kernel
theorem dX6_below_77 : decode cX6_below 77 = .ok (.imul, 1) := by decide +kernel
theorem dX6_below_78 : decode cX6_below 78 = .ok (.iadd, 1) := by decide +kernel
theorem dX6_below_79 : decode cX6_below 79 = .ok (.aload_n 0, 1) := by decide +kernel
theorem dX6_below_80 : decode cX6_below 80 = .ok (.iload_n 1, 1) := by decide +kernel
theorem dX6_below_81 : decode cX6_below 81 = .ok (.iload_n 3, 1) := by decide +kernel
theorem dX6_below_82 : decode cX6_below 82 = .ok (.iload_n 3, 1) := by decide +kernel
theorem dX6_below_83 : decode cX6_below 83 = .ok (.iload_n 2, 1) := by decide +kernel
theorem dX6_below_84 : decode cX6_below 84 = .ok (.iload_n 3, 1) := by decide +kernel
theorem dX6_below_85 : decode cX6_below 85 = .ok (.isub, 1) := by decide +kernel
theorem dX6_below_86 : decode cX6_below 86 = .ok (.iload 4, 2) := by decide +kernel
theorem dX6_below_88 : decode cX6_below 88 = .ok (.irem, 1) := by decide +kernel
theorem dX6_below_89 : decode cX6_below 89 = .ok (.iadd, 1) := by decide +kernel
theorem dX6_below_90 : decode cX6_below 90 = .ok (.invokevirtual 105, 3) := by decide +kernel
theorem dX6_below_93 : decode cX6_below 93 = .ok (.iadd, 1) := by decide +kernel
theorem dX6_below_94 : decode cX6_below 94 = .ok (.ireturn, 1) := by decide +kernel
theorem dX6_alike_0 : decode cX6_alike 0 = .ok (.iload_n 1, 1) := by decide +kernel
theorem dX6_alike_1 : decode cX6_alike 1 = .ok (.invokestatic 85, 3) := by decide +kernel
theorem dX6_alike_4 : decode cX6_alike 4 = .ok (.ifCond .eq 10, 3) := by decide +kernel
theorem dX6_alike_7 : decode cX6_alike 7 = .ok (.iload_n 2, 1) := by decide +kernel
theorem dX6_alike_8 : decode cX6_alike 8 = .ok (.invokestatic 85, 3) := by decide +kernel
theorem dX6_alike_11 : decode cX6_alike 11 = .ok (.ifCond .ne 5, 3) := by decide +kernel
theorem dX6_alike_14 : decode cX6_alike 14 = .ok (.iconst (-1), 1) := by decide +kernel
theorem dX6_alike_15 : decode cX6_alike 15 = .ok (.ireturn, 1) := by decide +kernel
theorem dX6_alike_16 : decode cX6_alike 16 = .ok (.iload_n 3, 1) := by decide +kernel
theorem dX6_alike_17 : decode cX6_alike 17 = .ok (.iconst 0, 1) := by decide +kernel
theorem dX6_alike_18 : decode cX6_alike 18 = .ok (.iconst 4, 1) := by decide +kernel
theorem dX6_alike_19 : decode cX6_alike 19 = .ok (.invokestatic 40, 3) := by decide +kernel
theorem dX6_alike_22 : decode cX6_alike 22 = .ok (.ifCond .ne 6, 3) := by decide +kernel
theorem dX6_alike_25 : decode cX6_alike 25 = .ok (.bipush (-2), 2) := by decide +kernel
theorem dX6_alike_27 : decode cX6_alike 27 = .ok (.ireturn, 1) := by decide +kernel
theorem dX6_alike_28 : decode cX6_alike 28 = .ok (.bipush (-6), 2) := by decide +kernel
theorem dX6_alike_30 : decode cX6_alike 30 = .ok (.istore 4, 2) := by decide +kernel
theorem dX6_alike_32 : decode cX6_alike 32 = .ok (.bipush (-6), 2) := by decide +kernel
theorem dX6_alike_34 : decode cX6_alike 34 = .ok (.istore 5, 2) := by decide +kernel
theorem dX6_alike_36 : decode cX6_alike 36 = .ok (.iconst 1, 1) := by decide +kernel
theorem dX6_alike_37 : decode cX6_alike 37 = .ok (.istore 6, 2) := by decide +kernel
theorem dX6_alike_39 : decode cX6_alike 39 = .ok (.aload_n 0, 1) := by decide +kernel
theorem dX6_alike_40 : decode cX6_alike 40 = .ok (.iload_n 1, 1) := by decide +kernel
theorem dX6_alike_41 : decode cX6_alike 41 = .ok (.iload_n 2, 1) := by decide +kernel
theorem dX6_alike_42 : decode cX6_alike 42 = .ok (.invokevirtual 96, 3) := by decide +kernel
theorem dX6_alike_45 : decode cX6_alike 45 = .ok (.aload_n 0, 1) := by decide +kernel
theorem dX6_alike_46 : decode cX6_alike 46 = .ok (.iload_n 1, 1) := by decide +kernel
theorem dX6_alike_47 : decode cX6_alike 47 = .ok (.iload_n 2, 1) := by decide +kernel
theorem dX6_alike_48 : decode cX6_alike 48 = .ok (.invokevirtual 99, 3) := by decide +kernel
theorem dX6_alike_51 : decode cX6_alike 51 = .ok (.iadd, 1) := by decide +kernel
theorem dX6_alike_52 : decode cX6_alike 52 = .ok (.iconst 1, 1) := by decide +kernel
theorem dX6_alike_53 : decode cX6_alike 53 = .ok (.isub, 1) := by decide +kernel
theorem dX6_alike_54 : decode cX6_alike 54 = .ok (.istore 7, 2) := by decide +kernel
theorem dX6_alike_56 : decode cX6_alike 56 = .ok (.iload 7, 2) := by decide +kernel
theorem dX6_alike_58 : decode cX6_alike 58 = .ok (.ifCond .lt 84, 3) := by decide +kernel
theorem dX6_alike_61 : decode cX6_alike 61 = .ok (.aload_n 0, 1) := by decide +kernel
theorem dX6_alike_62 : decode cX6_alike 62 = .ok (.iload_n 1, 1) := by decide +kernel
theorem dX6_alike_63 : decode cX6_alike 63 = .ok (.iload 7, 2) := by decide +kernel
theorem dX6_alike_65 : decode cX6_alike 65 = .ok (.invokevirtual 60, 3) := by decide +kernel
theorem dX6_alike_68 : decode cX6_alike 68 = .ok (.istore 8, 2) := by decide +kernel
theorem dX6_alike_70 : decode cX6_alike 70 = .ok (.aload_n 0, 1) := by decide +kernel
theorem dX6_alike_71 : decode cX6_alike 71 = .ok (.iload_n 2, 1) := by decide +kernel
theorem dX6_alike_72 : decode cX6_alike 72 = .ok (.iload 7, 2) := by decide +kernel
theorem dX6_alike_74 : decode cX6_alike 74 = .ok (.invokevirtual 60, 3) := by decide +kernel
theorem dX6_alike_77 : decode cX6_alike 77 = .ok (.istore 9, 2) := by decide +kernel
theorem dX6_alike_79 : decode cX6_alike 79 = .ok (.iload 8, 2) := by decide +kernel
theorem dX6_alike_81 : decode cX6_alike 81 = .ok (.iload 9, 2) := by decide +kernel
theorem dX6_alike_83 : decode cX6_alike 83 = .ok (.if_icmp .eq 8, 3) := by decide +kernel
theorem dX6_alike_86 : decode cX6_alike 86 = .ok (.iload 7, 2) := by decide +kernel
theorem dX6_alike_88 : decode cX6_alike 88 = .ok (.goto 5, 3) := by decide +kernel
theorem dX6_alike_91 : decode cX6_alike 91 = .ok (.iload 4, 2) := by decide +kernel
theorem dX6_alike_93 : decode cX6_alike 93 = .ok (.istore 4, 2) := by decide +kernel
theorem dX6_alike_95 : decode cX6_alike 95 = .ok (.iload 8, 2) := by decide +kernel
theorem dX6_alike_97 : decode cX6_alike 97 = .ok (.ifCond .eq 13, 3) := by decide +kernel
theorem dX6_alike_100 : decode cX6_alike 100 = .ok (.iload 9, 2) := by decide +kernel
theorem dX6_alike_102 : decode cX6_alike 102 = .ok (.ifCond .eq 8, 3) := by decide +kernel
theorem dX6_alike_105 : decode cX6_alike 105 = .ok (.iload 7, 2) := by decide +kernel
theorem dX6_alike_107 : decode cX6_alike 107 = .ok (.goto 5, 3) := by decide +kernel
theorem dX6_alike_110 : decode cX6_alike 110 = .ok (.iload 5, 2) := by decide +kernel
theorem dX6_alike_112 : decode cX6_alike 112 = .ok (.istore 5, 2) := by decide +kernel
theorem dX6_alike_114 : decode cX6_alike 114 = .ok (.iload 6, 2) := by decide +kernel
theorem dX6_alike_116 : decode cX6_alike 116 = .ok (.ifCond .eq 17, 3) := by decide +kernel
theorem dX6_alike_119 : decode cX6_alike 119 = .ok (.iload 8, 2) := by decide +kernel
theorem dX6_alike_121 : decode cX6_alike 121 = .ok (.ifCond .eq 8, 3) := by decide +kernel
theorem dX6_alike_124 : decode cX6_alike 124 = .ok (.iload 9, 2) := by decide +kernel
theorem dX6_alike_126 : decode cX6_alike 126 = .ok (.ifCond .eq 7, 3) := by decide +kernel
theorem dX6_alike_129 : decode cX6_alike 129 = .ok (.iconst 1, 1) := by decide +kernel
theorem dX6_alike_130 : decode cX6_alike 130 = .ok (.goto 4, 3) := by decide +kernel
theorem dX6_alike_133 : decode cX6_alike 133 = .ok (.iconst 0, 1) := by decide +kernel
theorem dX6_alike_134 : decode cX6_alike 134 = .ok (.istore 6, 2) := by decide +kernel
theorem dX6_alike_136 : decode cX6_alike 136 = .ok (.iinc 7 (-1), 3) := by decide +kernel
theorem dX6_alike_139 : decode cX6_alike 139 = .ok (.goto (-83), 3) := by decide +kernel
theorem dX6_alike_142 : decode cX6_alike 142 = .ok (.iload_n 3, 1) := by decide +kernel
theorem dX6_alike_143 : decode cX6_alike 143 = .ok (.ifCond .ne 16, 3) := by decide +kernel
theorem dX6_alike_146 : decode cX6_alike 146 = .ok (.iload 4, 2) := by decide +kernel
theorem dX6_alike_148 : decode cX6_alike 148 = .ok (.ifCond .ge 7, 3) := by decide +kernel
theorem dX6_alike_151 : decode cX6_alike 151 = .ok (.iconst 1, 1) := by decide +kernel
theorem dX6_alike_152 : decode cX6_alike 152 = .ok (.goto 55, 3) := by decide +kernel
theorem dX6_alike_155 : decode cX6_alike 155 = .ok (.iconst 0, 1) := by decide +kernel
theorem dX6_alike_156 : decode cX6_alike 156 = .ok (.goto 51, 3) := by decide +kernel
theorem dX6_alike_159 : decode cX6_alike 159 = .ok (.iload_n 3, 1) := by decide +kernel
theorem dX6_alike_160 : decode cX6_alike 160 = .ok (.iconst 1, 1) := by decide +kernel
theorem dX6_alike_161 : decode cX6_alike 161 = .ok (.if_icmp .ne 16, 3) := by decide +kernel
theorem dX6_alike_164 : decode cX6_alike 164 = .ok (.iload 6, 2) := by decide +kernel
theorem dX6_alike_166 : decode cX6_alike 166 = .ok (.ifCond .eq 7, 3) := by decide +kernel
theorem dX6_alike_169 : decode cX6_alike 169 = .ok (.iconst 1, 1) := by decide +kernel
theorem dX6_alike_170 : decode cX6_alike 170 = .ok (.goto 37, 3) := by decide +kernel
theorem dX6_alike_173 : decode cX6_alike 173 = .ok (.iconst 0, 1) := by decide +kernel
theorem dX6_alike_174 : decode cX6_alike 174 = .ok (.goto 33, 3) := by decide +kernel
theorem dX6_alike_177 : decode cX6_alike 177 = .ok (.iload_n 3, 1) := by decide +kernel
theorem dX6_alike_178 : decode cX6_alike 178 = .ok (.iconst 2, 1) := by decide +kernel
theorem dX6_alike_179 : decode cX6_alike 179 = .ok (.if_icmp .ne 16, 3) := by decide +kernel
theorem dX6_alike_182 : decode cX6_alike 182 = .ok (.iload 5, 2) := by decide +kernel
theorem dX6_alike_184 : decode cX6_alike 184 = .ok (.ifCond .ge 7, 3) := by decide +kernel
theorem dX6_alike_187 : decode cX6_alike 187 = .ok (.iconst 1, 1) := by decide +kernel
theorem dX6_alike_188 : decode cX6_alike 188 = .ok (.goto 19, 3) := by decide +kernel
theorem dX6_alike_191 : decode cX6_alike 191 = .ok (.iconst 0, 1) := by decide +kernel
theorem dX6_alike_192 : decode cX6_alike 192 = .ok (.goto 15, 3) := by decide +kernel
theorem dX6_alike_195 : decode cX6_alike 195 = .ok (.iload_n 3, 1) := by decide +kernel
theorem dX6_alike_196 : decode cX6_alike 196 = .ok (.iconst 3, 1) := by decide +kernel
theorem dX6_alike_197 : decode cX6_alike 197 = .ok (.if_icmp .ne 8, 3) := by decide +kernel
theorem dX6_alike_200 : decode cX6_alike 200 = .ok (.iload 4, 2) := by decide +kernel
theorem dX6_alike_202 : decode cX6_alike 202 = .ok (.goto 5, 3) := by decide +kernel
theorem dX6_alike_205 : decode cX6_alike 205 = .ok (.iload 5, 2) := by decide +kernel
theorem dX6_alike_207 : decode cX6_alike 207 = .ok (.ireturn, 1) := by decide +kernel
theorem dX6_image_0 : decode cX6_image 0 = .ok (.iload_n 1, 1) := by decide +kernel
theorem dX6_image_1 : decode cX6_image 1 = .ok (.iconst 0, 1) := by decide +kernel
theorem dX6_image_2 : decode cX6_image 2 = .ok (.iconst 1, 1) := by decide +kernel
theorem dX6_image_3 : decode cX6_image 3 = .ok (.invokestatic 40, 3) := by decide +kernel
theorem dX6_image_6 : decode cX6_image 6 = .ok (.ifCond .ne 6, 3) := by decide +kernel
theorem dX6_image_9 : decode cX6_image 9 = .ok (.bipush (-2), 2) := by decide +kernel
theorem dX6_image_11 : decode cX6_image 11 = .ok (.ireturn, 1) := by decide +kernel
theorem dX6_image_12 : decode cX6_image 12 = .ok (.iconst 0, 1) := by decide +kernel
theorem dX6_image_13 : decode cX6_image 13 = .ok (.istore_n 2, 1) := by decide +kernel
theorem dX6_image_14 : decode cX6_image 14 = .ok (.iload_n 2, 1) := by decide +kernel
theorem dX6_image_15 : decode cX6_image 15 = .ok (.bipush 6, 2) := by decide +kernel
theorem dX6_image_17 : decode cX6_image 17 = .ok (.if_icmp .ge 23, 3) := by decide +kernel
theorem dX6_image_20 : decode cX6_image 20 = .ok (.aload_n 0, 1) := by decide +kernel
theorem dX6_image_21 : decode cX6_image 21 = .ok (.iload_n 2, 1) := by decide +kernel
theorem dX6_image_22 : decode cX6_image 22 = .ok (.bipush 6, 2) := by decide +kernel
theorem dX6_image_24 : decode cX6_image 24 = .ok (.bipush 6, 2) := by decide +kernel
theorem dX6_image_26 : decode cX6_image 26 = .ok (.iload_n 1, 1) := by decide +kernel
theorem dX6_image_27 : decode cX6_image 27 = .ok (.imul, 1) := by decide +kernel
theorem dX6_image_28 : decode cX6_image 28 = .ok (.iadd, 1) := by decide +kernel
theorem dX6_image_29 : decode cX6_image 29 = .ok (.iload_n 2, 1) := by decide +kernel
theorem dX6_image_30 : decode cX6_image 30 = .ok (.iadd, 1) := by decide +kernel
theorem dX6_image_31 : decode cX6_image 31 = .ok (.invokevirtual 67, 3) := by decide +kernel
theorem dX6_image_34 : decode cX6_image 34 = .ok (.iinc 2 1, 3) := by decide +kernel
theorem dX6_image_37 : decode cX6_image 37 = .ok (.goto (-23), 3) := by decide +kernel
theorem dX6_image_40 : decode cX6_image 40 = .ok (.aload_n 0, 1) := by decide +kernel
theorem dX6_image_41 : decode cX6_image 41 = .ok (.getfield 34, 3) := by decide +kernel
theorem dX6_image_44 : decode cX6_image 44 = .ok (.iload_n 1, 1) := by decide +kernel
theorem dX6_image_45 : decode cX6_image 45 = .ok (.aload_n 0, 1) := by decide +kernel
theorem dX6_image_46 : decode cX6_image 46 = .ok (.getfield 7, 3) := by decide +kernel
theorem dX6_image_49 : decode cX6_image 49 = .ok (.iastore, 1) := by decide +kernel
theorem dX6_image_50 : decode cX6_image 50 = .ok (.aload_n 0, 1) := by decide +kernel
theorem dX6_image_51 : decode cX6_image 51 = .ok (.getfield 37, 3) := by decide +kernel
theorem dX6_image_54 : decode cX6_image 54 = .ok (.iload_n 1, 1) := by decide +kernel
theorem dX6_image_55 : decode cX6_image 55 = .ok (.iconst 1, 1) := by decide +kernel
theorem dX6_image_56 : decode cX6_image 56 = .ok (.bastore, 1) := by decide +kernel
theorem dX6_image_57 : decode cX6_image 57 = .ok (.iconst 1, 1) := by decide +kernel
theorem dX6_image_58 : decode cX6_image 58 = .ok (.ireturn, 1) := by decide +kernel
theorem dX6_restore_0 : decode cX6_restore 0 = .ok (.iload_n 1, 1) := by decide +kernel
theorem dX6_restore_1 : decode cX6_restore 1 = .ok (.iconst 0, 1) := by decide +kernel
theorem dX6_restore_2 : decode cX6_restore 2 = .ok (.iconst 1, 1) := by decide +kernel
theorem dX6_restore_3 : decode cX6_restore 3 = .ok (.invokestatic 40, 3) := by decide +kernel
theorem dX6_restore_6 : decode cX6_restore 6 = .ok (.ifCond .ne 6, 3) := by decide +kernel
theorem dX6_restore_9 : decode cX6_restore 9 = .ok (.bipush (-2), 2) := by decide +kernel
theorem dX6_restore_11 : decode cX6_restore 11 = .ok (.ireturn, 1) := by decide +kernel
theorem dX6_restore_12 : decode cX6_restore 12 = .ok (.aload_n 0, 1) := by decide +kernel
theorem dX6_restore_13 : decode cX6_restore 13 = .ok (.getfield 37, 3) := by decide +kernel
theorem dX6_restore_16 : decode cX6_restore 16 = .ok (.iload_n 1, 1) := by decide +kernel
theorem dX6_restore_17 : decode cX6_restore 17 = .ok (.baload, 1) := by decide +kernel
theorem dX6_restore_18 : decode cX6_restore 18 = .ok (.ifCond .ne 6, 3) := by decide +kernel
theorem dX6_restore_21 : decode cX6_restore 21 = .ok (.bipush (-3), 2) := by decide +kernel
theorem dX6_restore_23 : decode cX6_restore 23 = .ok (.ireturn, 1) := by decide +kernel
theorem dX6_restore_24 : decode cX6_restore 24 = .ok (.iconst 0, 1) := by decide +kernel
theorem dX6_restore_25 : decode cX6_restore 25 = .ok (.istore_n 2, 1) := by decide +kernel
theorem dX6_restore_26 : decode cX6_restore 26 = .ok (.iload_n 2, 1) := by decide +kernel
theorem dX6_restore_27 : decode cX6_restore 27 = .ok (.bipush 6, 2) := by decide +kernel
theorem dX6_restore_29 : decode cX6_restore 29 = .ok (.if_icmp .ge 23, 3) := by decide +kernel
theorem dX6_restore_32 : decode cX6_restore 32 = .ok (.aload_n 0, 1) := by decide +kernel
theorem dX6_restore_33 : decode cX6_restore 33 = .ok (.bipush 6, 2) := by decide +kernel
theorem dX6_restore_35 : decode cX6_restore 35 = .ok (.bipush 6, 2) := by decide +kernel
theorem dX6_restore_37 : decode cX6_restore 37 = .ok (.iload_n 1, 1) := by decide +kernel
theorem dX6_restore_38 : decode cX6_restore 38 = .ok (.imul, 1) := by decide +kernel
theorem dX6_restore_39 : decode cX6_restore 39 = .ok (.iadd, 1) := by decide +kernel
theorem dX6_restore_40 : decode cX6_restore 40 = .ok (.iload_n 2, 1) := by decide +kernel
theorem dX6_restore_41 : decode cX6_restore 41 = .ok (.iadd, 1) := by decide +kernel
theorem dX6_restore_42 : decode cX6_restore 42 = .ok (.iload_n 2, 1) := by decide +kernel
theorem dX6_restore_43 : decode cX6_restore 43 = .ok (.invokevirtual 67, 3) := by decide +kernel
theorem dX6_restore_46 : decode cX6_restore 46 = .ok (.iinc 2 1, 3) := by decide +kernel
theorem dX6_restore_49 : decode cX6_restore 49 = .ok (.goto (-23), 3) := by decide +kernel
theorem dX6_restore_52 : decode cX6_restore 52 = .ok (.aload_n 0, 1) := by decide +kernel
theorem dX6_restore_53 : decode cX6_restore 53 = .ok (.aload_n 0, 1) := by decide +kernel
theorem dX6_restore_54 : decode cX6_restore 54 = .ok (.getfield 34, 3) := by decide +kernel
theorem dX6_restore_57 : decode cX6_restore 57 = .ok (.iload_n 1, 1) := by decide +kernel
theorem dX6_restore_58 : decode cX6_restore 58 = .ok (.iaload, 1) := by decide +kernel
theorem dX6_restore_59 : decode cX6_restore 59 = .ok (.putfield 7, 3) := by decide +kernel
theorem dX6_restore_62 : decode cX6_restore 62 = .ok (.iconst 1, 1) := by decide +kernel
theorem dX6_restore_63 : decode cX6_restore 63 = .ok (.ireturn, 1) := by decide +kernel
theorem dX6_allStates_0 : decode cX6_allStates 0 = .ok (.iconst 0, 1) := by decide +kernel
theorem dX6_allStates_1 : decode cX6_allStates 1 = .ok (.istore_n 1, 1) := by decide +kernel
theorem dX6_allStates_2 : decode cX6_allStates 2 = .ok (.iconst 0, 1) := by decide +kernel
theorem dX6_allStates_3 : decode cX6_allStates 3 = .ok (.istore_n 2, 1) := by decide +kernel
theorem dX6_allStates_4 : decode cX6_allStates 4 = .ok (.iload_n 2, 1) := by decide +kernel
theorem dX6_allStates_5 : decode cX6_allStates 5 = .ok (.bipush 6, 2) := by decide +kernel
theorem dX6_allStates_7 : decode cX6_allStates 7 = .ok (.if_icmp .ge 21, 3) := by decide +kernel
theorem dX6_allStates_10 : decode cX6_allStates 10 = .ok (.aload_n 0, 1) := by decide +kernel
theorem dX6_allStates_11 : decode cX6_allStates 11 = .ok (.iload_n 2, 1) := by decide +kernel
theorem dX6_allStates_12 : decode cX6_allStates 12 = .ok (.invokevirtual 81, 3) := by decide +kernel
theorem dX6_allStates_15 : decode cX6_allStates 15 = .ok (.iload_n 1, 1) := by decide +kernel
theorem dX6_allStates_16 : decode cX6_allStates 16 = .ok (.aload_n 0, 1) := by decide +kernel
theorem dX6_allStates_17 : decode cX6_allStates 17 = .ok (.getfield 71, 3) := by decide +kernel
theorem dX6_allStates_20 : decode cX6_allStates 20 = .ok (.iadd, 1) := by decide +kernel
theorem dX6_allStates_21 : decode cX6_allStates 21 = .ok (.istore_n 1, 1) := by decide +kernel
theorem dX6_allStates_22 : decode cX6_allStates 22 = .ok (.iinc 2 1, 3) := by decide +kernel
theorem dX6_allStates_25 : decode cX6_allStates 25 = .ok (.goto (-21), 3) := by decide +kernel
theorem dX6_allStates_28 : decode cX6_allStates 28 = .ok (.iload_n 1, 1) := by decide +kernel
theorem dX6_allStates_29 : decode cX6_allStates 29 = .ok (.ireturn, 1) := by decide +kernel
theorem dX6_count_0 : decode cX6_count 0 = .ok (.iload_n 1, 1) := by decide +kernel
theorem dX6_count_1 : decode cX6_count 1 = .ok (.iconst 0, 1) := by decide +kernel
theorem dX6_count_2 : decode cX6_count 2 = .ok (.iconst 4, 1) := by decide +kernel
theorem dX6_count_3 : decode cX6_count 3 = .ok (.invokestatic 40, 3) := by decide +kernel
theorem dX6_count_6 : decode cX6_count 6 = .ok (.ifCond .ne 6, 3) := by decide +kernel
theorem dX6_count_9 : decode cX6_count 9 = .ok (.bipush (-2), 2) := by decide +kernel
theorem dX6_count_11 : decode cX6_count 11 = .ok (.ireturn, 1) := by decide +kernel
theorem dX6_count_12 : decode cX6_count 12 = .ok (.iconst 0, 1) := by decide +kernel
theorem dX6_count_13 : decode cX6_count 13 = .ok (.istore_n 2, 1) := by decide +kernel
theorem dX6_count_14 : decode cX6_count 14 = .ok (.iconst 0, 1) := by decide +kernel
theorem dX6_count_15 : decode cX6_count 15 = .ok (.istore_n 3, 1) := by decide +kernel
theorem dX6_count_16 : decode cX6_count 16 = .ok (.iconst 0, 1) := by decide +kernel
theorem dX6_count_17 : decode cX6_count 17 = .ok (.istore 4, 2) := by decide +kernel
theorem dX6_count_19 : decode cX6_count 19 = .ok (.iload 4, 2) := by decide +kernel
theorem dX6_count_21 : decode cX6_count 21 = .ok (.bipush 6, 2) := by decide +kernel
theorem dX6_count_23 : decode cX6_count 23 = .ok (.if_icmp .ge 118, 3) := by decide +kernel
theorem dX6_count_26 : decode cX6_count 26 = .ok (.iload_n 2, 1) := by decide +kernel
theorem dX6_count_27 : decode cX6_count 27 = .ok (.aload_n 0, 1) := by decide +kernel
theorem dX6_count_28 : decode cX6_count 28 = .ok (.getfield 20, 3) := by decide +kernel
theorem dX6_count_31 : decode cX6_count 31 = .ok (.iconst 3, 1) := by decide +kernel
theorem dX6_count_32 : decode cX6_count 32 = .ok (.iload 4, 2) := by decide +kernel
theorem dX6_count_34 : decode cX6_count 34 = .ok (.imul, 1) := by decide +kernel
theorem dX6_count_35 : decode cX6_count 35 = .ok (.laload, 1) := by decide +kernel
theorem dX6_count_36 : decode cX6_count 36 = .ok (.lconst 0, 1) := by decide +kernel
theorem dX6_count_37 : decode cX6_count 37 = .ok (.lcmp, 1) := by decide +kernel
theorem dX6_count_38 : decode cX6_count 38 = .ok (.ifCond .ne 35, 3) := by decide +kernel
theorem dX6_count_41 : decode cX6_count 41 = .ok (.aload_n 0, 1) := by decide +kernel
theorem dX6_count_42 : decode cX6_count 42 = .ok (.getfield 20, 3) := by decide +kernel
theorem dX6_count_45 : decode cX6_count 45 = .ok (.iconst 3, 1) := by decide +kernel
theorem dX6_count_46 : decode cX6_count 46 = .ok (.iload 4, 2) := by decide +kernel
theorem dX6_count_48 : decode cX6_count 48 = .ok (.imul, 1) := by decide +kernel
theorem dX6_count_49 : decode cX6_count 49 = .ok (.iconst 1, 1) := by decide +kernel
theorem dX6_count_50 : decode cX6_count 50 = .ok (.iadd, 1) := by decide +kernel
theorem dX6_count_51 : decode cX6_count 51 = .ok (.laload, 1) := by decide +kernel
theorem dX6_count_52 : decode cX6_count 52 = .ok (.lconst 0, 1) := by decide +kernel
theorem dX6_count_53 : decode cX6_count 53 = .ok (.lcmp, 1) := by decide +kernel
theorem dX6_count_54 : decode cX6_count 54 = .ok (.ifCond .ne 19, 3) := by decide +kernel
theorem dX6_count_57 : decode cX6_count 57 = .ok (.aload_n 0, 1) := by decide +kernel
theorem dX6_count_58 : decode cX6_count 58 = .ok (.getfield 20, 3) := by decide +kernel
theorem dX6_count_61 : decode cX6_count 61 = .ok (.iconst 3, 1) := by decide +kernel
theorem dX6_count_62 : decode cX6_count 62 = .ok (.iload 4, 2) := by decide +kernel
theorem dX6_count_64 : decode cX6_count 64 = .ok (.imul, 1) := by decide +kernel
theorem dX6_count_65 : decode cX6_count 65 = .ok (.iconst 2, 1) := by decide +kernel
theorem dX6_count_66 : decode cX6_count 66 = .ok (.iadd, 1) := by decide +kernel
theorem dX6_count_67 : decode cX6_count 67 = .ok (.laload, 1) := by decide +kernel
theorem dX6_count_68 : decode cX6_count 68 = .ok (.lconst 0, 1) := by decide +kernel
theorem dX6_count_69 : decode cX6_count 69 = .ok (.lcmp, 1) := by decide +kernel
theorem dX6_count_70 : decode cX6_count 70 = .ok (.ifCond .eq 7, 3) := by decide +kernel
theorem dX6_count_73 : decode cX6_count 73 = .ok (.iconst 1, 1) := by decide +kernel
theorem dX6_count_74 : decode cX6_count 74 = .ok (.goto 4, 3) := by decide +kernel
theorem dX6_count_77 : decode cX6_count 77 = .ok (.iconst 0, 1) := by decide +kernel
theorem dX6_count_78 : decode cX6_count 78 = .ok (.iadd, 1) := by decide +kernel
theorem dX6_count_79 : decode cX6_count 79 = .ok (.istore_n 2, 1) := by decide +kernel
theorem dX6_count_80 : decode cX6_count 80 = .ok (.iconst 1, 1) := by decide +kernel
theorem dX6_count_81 : decode cX6_count 81 = .ok (.istore 5, 2) := by decide +kernel
theorem dX6_count_83 : decode cX6_count 83 = .ok (.iconst 0, 1) := by decide +kernel
theorem dX6_count_84 : decode cX6_count 84 = .ok (.istore 6, 2) := by decide +kernel
theorem dX6_count_86 : decode cX6_count 86 = .ok (.iload 6, 2) := by decide +kernel
theorem dX6_count_88 : decode cX6_count 88 = .ok (.iload 4, 2) := by decide +kernel
theorem dX6_count_90 : decode cX6_count 90 = .ok (.if_icmp .ge 32, 3) := by decide +kernel
theorem dX6_count_93 : decode cX6_count 93 = .ok (.iload 5, 2) := by decide +kernel
theorem dX6_count_95 : decode cX6_count 95 = .ok (.ifCond .eq 18, 3) := by decide +kernel
theorem dX6_count_98 : decode cX6_count 98 = .ok (.aload_n 0, 1) := by decide +kernel
theorem dX6_count_99 : decode cX6_count 99 = .ok (.iload 6, 2) := by decide +kernel
theorem dX6_count_101 : decode cX6_count 101 = .ok (.iload 4, 2) := by decide +kernel
theorem dX6_count_103 : decode cX6_count 103 = .ok (.invokevirtual 78, 3) := by decide +kernel
theorem dX6_count_106 : decode cX6_count 106 = .ok (.ifCond .ne 7, 3) := by decide +kernel
theorem dX6_count_109 : decode cX6_count 109 = .ok (.iconst 1, 1) := by decide +kernel
theorem dX6_count_110 : decode cX6_count 110 = .ok (.goto 4, 3) := by decide +kernel
theorem dX6_count_113 : decode cX6_count 113 = .ok (.iconst 0, 1) := by decide +kernel
theorem dX6_count_114 : decode cX6_count 114 = .ok (.istore 5, 2) := by decide +kernel
theorem dX6_count_116 : decode cX6_count 116 = .ok (.iinc 6 1, 3) := by decide +kernel
theorem dX6_count_119 : decode cX6_count 119 = .ok (.goto (-33), 3) := by decide +kernel
theorem dX6_count_122 : decode cX6_count 122 = .ok (.iload_n 3, 1) := by decide +kernel
theorem dX6_count_123 : decode cX6_count 123 = .ok (.iload 5, 2) := by decide +kernel
theorem dX6_count_125 : decode cX6_count 125 = .ok (.ifCond .eq 7, 3) := by decide +kernel
theorem dX6_count_128 : decode cX6_count 128 = .ok (.iconst 1, 1) := by decide +kernel
theorem dX6_count_129 : decode cX6_count 129 = .ok (.goto 4, 3) := by decide +kernel
theorem dX6_count_132 : decode cX6_count 132 = .ok (.iconst 0, 1) := by decide +kernel
theorem dX6_count_133 : decode cX6_count 133 = .ok (.iadd, 1) := by decide +kernel
theorem dX6_count_134 : decode cX6_count 134 = .ok (.istore_n 3, 1) := by decide +kernel
theorem dX6_count_135 : decode cX6_count 135 = .ok (.iinc 4 1, 3) := by decide +kernel
theorem dX6_count_138 : decode cX6_count 138 = .ok (.goto (-119), 3) := by decide +kernel
theorem dX6_count_141 : decode cX6_count 141 = .ok (.iload_n 1, 1) := by decide +kernel
theorem dX6_count_142 : decode cX6_count 142 = .ok (.ifCond .ne 7, 3) := by decide +kernel
theorem dX6_count_145 : decode cX6_count 145 = .ok (.iload_n 2, 1) := by decide +kernel
theorem dX6_count_146 : decode cX6_count 146 = .ok (.goto 65, 3) := by decide +kernel
theorem dX6_count_149 : decode cX6_count 149 = .ok (.iload_n 1, 1) := by decide +kernel
theorem dX6_count_150 : decode cX6_count 150 = .ok (.iconst 1, 1) := by decide +kernel
theorem dX6_count_151 : decode cX6_count 151 = .ok (.if_icmp .ne 7, 3) := by decide +kernel
theorem dX6_count_154 : decode cX6_count 154 = .ok (.iload_n 3, 1) := by decide +kernel
theorem dX6_count_155 : decode cX6_count 155 = .ok (.goto 56, 3) := by decide +kernel
theorem dX6_count_158 : decode cX6_count 158 = .ok (.iload_n 1, 1) := by decide +kernel
theorem dX6_count_159 : decode cX6_count 159 = .ok (.iconst 2, 1) := by decide +kernel
theorem dX6_count_160 : decode cX6_count 160 = .ok (.if_icmp .ne 10, 3) := by decide +kernel
theorem dX6_count_163 : decode cX6_count 163 = .ok (.aload_n 0, 1) := by decide +kernel
theorem dX6_count_164 : decode cX6_count 164 = .ok (.getfield 7, 3) := by decide +kernel
theorem dX6_count_167 : decode cX6_count 167 = .ok (.goto 44, 3) := by decide +kernel
theorem dX6_count_170 : decode cX6_count 170 = .ok (.iload_n 1, 1) := by decide +kernel
theorem dX6_count_171 : decode cX6_count 171 = .ok (.iconst 3, 1) := by decide +kernel
theorem dX6_count_172 : decode cX6_count 172 = .ok (.if_icmp .ne 10, 3) := by decide +kernel
theorem dX6_count_175 : decode cX6_count 175 = .ok (.aload_n 0, 1) := by decide +kernel
theorem dX6_count_176 : decode cX6_count 176 = .ok (.invokevirtual 114, 3) := by decide +kernel
theorem dX6_count_179 : decode cX6_count 179 = .ok (.goto 32, 3) := by decide +kernel
theorem dX6_count_182 : decode cX6_count 182 = .ok (.aload_n 0, 1) := by decide +kernel
theorem dX6_count_183 : decode cX6_count 183 = .ok (.getfield 37, 3) := by decide +kernel
theorem dX6_count_186 : decode cX6_count 186 = .ok (.iconst 0, 1) := by decide +kernel
theorem dX6_count_187 : decode cX6_count 187 = .ok (.baload, 1) := by decide +kernel
theorem dX6_count_188 : decode cX6_count 188 = .ok (.ifCond .eq 7, 3) := by decide +kernel
theorem dX6_count_191 : decode cX6_count 191 = .ok (.iconst 1, 1) := by decide +kernel
theorem dX6_count_192 : decode cX6_count 192 = .ok (.goto 4, 3) := by decide +kernel
theorem dX6_count_195 : decode cX6_count 195 = .ok (.iconst 0, 1) := by decide +kernel
theorem dX6_count_196 : decode cX6_count 196 = .ok (.aload_n 0, 1) := by decide +kernel
theorem dX6_count_197 : decode cX6_count 197 = .ok (.getfield 37, 3) := by decide +kernel
theorem dX6_count_200 : decode cX6_count 200 = .ok (.iconst 1, 1) := by decide +kernel
theorem dX6_count_201 : decode cX6_count 201 = .ok (.baload, 1) := by decide +kernel
theorem dX6_count_202 : decode cX6_count 202 = .ok (.ifCond .eq 7, 3) := by decide +kernel
theorem dX6_count_205 : decode cX6_count 205 = .ok (.iconst 2, 1) := by decide +kernel
theorem dX6_count_206 : decode cX6_count 206 = .ok (.goto 4, 3) := by decide +kernel
theorem dX6_count_209 : decode cX6_count 209 = .ok (.iconst 0, 1) := by decide +kernel
theorem dX6_count_210 : decode cX6_count 210 = .ok (.iadd, 1) := by decide +kernel
theorem dX6_count_211 : decode cX6_count 211 = .ok (.ireturn, 1) := by decide +kernel
theorem dJ13_bitCount_95d88_0 : decode cJ13_bitCount_95d88 0 = .ok (.lload_n 0, 1) := by decide +kernel
theorem dJ13_bitCount_95d88_1 : decode cJ13_bitCount_95d88 1 = .ok (.lload_n 0, 1) := by decide +kernel
theorem dJ13_bitCount_95d88_2 : decode cJ13_bitCount_95d88 2 = .ok (.iconst 1, 1) := by decide +kernel
theorem dJ13_bitCount_95d88_3 : decode cJ13_bitCount_95d88 3 = .ok (.lushr, 1) := by decide +kernel
theorem dJ13_bitCount_95d88_4 : decode cJ13_bitCount_95d88 4 = .ok (.ldc2_w 314, 3) := by decide +kernel
theorem dJ13_bitCount_95d88_7 : decode cJ13_bitCount_95d88 7 = .ok (.land, 1) := by decide +kernel
theorem dJ13_bitCount_95d88_8 : decode cJ13_bitCount_95d88 8 = .ok (.lsub, 1) := by decide +kernel
theorem dJ13_bitCount_95d88_9 : decode cJ13_bitCount_95d88 9 = .ok (.lstore_n 0, 1) := by decide +kernel
theorem dJ13_bitCount_95d88_10 : decode cJ13_bitCount_95d88 10 = .ok (.lload_n 0, 1) := by decide +kernel
theorem dJ13_bitCount_95d88_11 : decode cJ13_bitCount_95d88 11 = .ok (.ldc2_w 316, 3) := by decide +kernel
theorem dJ13_bitCount_95d88_14 : decode cJ13_bitCount_95d88 14 = .ok (.land, 1) := by decide +kernel
theorem dJ13_bitCount_95d88_15 : decode cJ13_bitCount_95d88 15 = .ok (.lload_n 0, 1) := by decide +kernel
theorem dJ13_bitCount_95d88_16 : decode cJ13_bitCount_95d88 16 = .ok (.iconst 2, 1) := by decide +kernel
theorem dJ13_bitCount_95d88_17 : decode cJ13_bitCount_95d88 17 = .ok (.lushr, 1) := by decide +kernel
theorem dJ13_bitCount_95d88_18 : decode cJ13_bitCount_95d88 18 = .ok (.ldc2_w 316, 3) := by decide +kernel
theorem dJ13_bitCount_95d88_21 : decode cJ13_bitCount_95d88 21 = .ok (.land, 1) := by decide +kernel
theorem dJ13_bitCount_95d88_22 : decode cJ13_bitCount_95d88 22 = .ok (.ladd, 1) := by decide +kernel
theorem dJ13_bitCount_95d88_23 : decode cJ13_bitCount_95d88 23 = .ok (.lstore_n 0, 1) := by decide +kernel
theorem dJ13_bitCount_95d88_24 : decode cJ13_bitCount_95d88 24 = .ok (.lload_n 0, 1) := by decide +kernel
theorem dJ13_bitCount_95d88_25 : decode cJ13_bitCount_95d88 25 = .ok (.lload_n 0, 1) := by decide +kernel
theorem dJ13_bitCount_95d88_26 : decode cJ13_bitCount_95d88 26 = .ok (.iconst 4, 1) := by decide +kernel
theorem dJ13_bitCount_95d88_27 : decode cJ13_bitCount_95d88 27 = .ok (.lushr, 1) := by decide +kernel
theorem dJ13_bitCount_95d88_28 : decode cJ13_bitCount_95d88 28 = .ok (.ladd, 1) := by decide +kernel
theorem dJ13_bitCount_95d88_29 : decode cJ13_bitCount_95d88 29 = .ok (.ldc2_w 318, 3) := by decide +kernel
theorem dJ13_bitCount_95d88_32 : decode cJ13_bitCount_95d88 32 = .ok (.land, 1) := by decide +kernel
theorem dJ13_bitCount_95d88_33 : decode cJ13_bitCount_95d88 33 = .ok (.lstore_n 0, 1) := by decide +kernel
theorem dJ13_bitCount_95d88_34 : decode cJ13_bitCount_95d88 34 = .ok (.lload_n 0, 1) := by decide +kernel
theorem dJ13_bitCount_95d88_35 : decode cJ13_bitCount_95d88 35 = .ok (.lload_n 0, 1) := by decide +kernel
theorem dJ13_bitCount_95d88_36 : decode cJ13_bitCount_95d88 36 = .ok (.bipush 8, 2) := by decide +kernel
theorem dJ13_bitCount_95d88_38 : decode cJ13_bitCount_95d88 38 = .ok (.lushr, 1) := by decide +kernel
theorem dJ13_bitCount_95d88_39 : decode cJ13_bitCount_95d88 39 = .ok (.ladd, 1) := by decide +kernel
theorem dJ13_bitCount_95d88_40 : decode cJ13_bitCount_95d88 40 = .ok (.lstore_n 0, 1) := by decide +kernel
theorem dJ13_bitCount_95d88_41 : decode cJ13_bitCount_95d88 41 = .ok (.lload_n 0, 1) := by decide +kernel
theorem dJ13_bitCount_95d88_42 : decode cJ13_bitCount_95d88 42 = .ok (.lload_n 0, 1) := by decide +kernel
theorem dJ13_bitCount_95d88_43 : decode cJ13_bitCount_95d88 43 = .ok (.bipush 16, 2) := by decide +kernel
theorem dJ13_bitCount_95d88_45 : decode cJ13_bitCount_95d88 45 = .ok (.lushr, 1) := by decide +kernel
theorem dJ13_bitCount_95d88_46 : decode cJ13_bitCount_95d88 46 = .ok (.ladd, 1) := by decide +kernel
theorem dJ13_bitCount_95d88_47 : decode cJ13_bitCount_95d88 47 = .ok (.lstore_n 0, 1) := by decide +kernel
theorem dJ13_bitCount_95d88_48 : decode cJ13_bitCount_95d88 48 = .ok (.lload_n 0, 1) := by decide +kernel
theorem dJ13_bitCount_95d88_49 : decode cJ13_bitCount_95d88 49 = .ok (.lload_n 0, 1) := by decide +kernel
theorem dJ13_bitCount_95d88_50 : decode cJ13_bitCount_95d88 50 = .ok (.bipush 32, 2) := by decide +kernel
theorem dJ13_bitCount_95d88_52 : decode cJ13_bitCount_95d88 52 = .ok (.lushr, 1) := by decide +kernel
theorem dJ13_bitCount_95d88_53 : decode cJ13_bitCount_95d88 53 = .ok (.ladd, 1) := by decide +kernel
theorem dJ13_bitCount_95d88_54 : decode cJ13_bitCount_95d88 54 = .ok (.lstore_n 0, 1) := by decide +kernel
theorem dJ13_bitCount_95d88_55 : decode cJ13_bitCount_95d88 55 = .ok (.lload_n 0, 1) := by decide +kernel
theorem dJ13_bitCount_95d88_56 : decode cJ13_bitCount_95d88 56 = .ok (.l2i, 1) := by decide +kernel
theorem dJ13_bitCount_95d88_57 : decode cJ13_bitCount_95d88 57 = .ok (.bipush 127, 2) := by decide +kernel
theorem dJ13_bitCount_95d88_59 : decode cJ13_bitCount_95d88 59 = .ok (.iand, 1) := by decide +kernel
theorem dJ13_bitCount_95d88_60 : decode cJ13_bitCount_95d88 60 = .ok (.ireturn, 1) := by decide +kernel
theorem dJ9_max_7cf53_0 : decode cJ9_max_7cf53 0 = .ok (.iload_n 0, 1) := by decide +kernel
theorem dJ9_max_7cf53_1 : decode cJ9_max_7cf53 1 = .ok (.iload_n 1, 1) := by decide +kernel
theorem dJ9_max_7cf53_2 : decode cJ9_max_7cf53 2 = .ok (.if_icmp .lt 7, 3) := by decide +kernel
theorem dJ9_max_7cf53_5 : decode cJ9_max_7cf53 5 = .ok (.iload_n 0, 1) := by decide +kernel
theorem dJ9_max_7cf53_6 : decode cJ9_max_7cf53 6 = .ok (.goto 4, 3) := by decide +kernel
theorem dJ9_max_7cf53_9 : decode cJ9_max_7cf53 9 = .ok (.iload_n 1, 1) := by decide +kernel
theorem dJ9_max_7cf53_10 : decode cJ9_max_7cf53 10 = .ok (.ireturn, 1) := by decide +kernel
theorem dJ9_min_7cf53_0 : decode cJ9_min_7cf53 0 = .ok (.iload_n 0, 1) := by decide +kernel
theorem dJ9_min_7cf53_1 : decode cJ9_min_7cf53 1 = .ok (.iload_n 1, 1) := by decide +kernel
theorem dJ9_min_7cf53_2 : decode cJ9_min_7cf53 2 = .ok (.if_icmp .gt 7, 3) := by decide +kernel
theorem dJ9_min_7cf53_5 : decode cJ9_min_7cf53 5 = .ok (.iload_n 0, 1) := by decide +kernel
theorem dJ9_min_7cf53_6 : decode cJ9_min_7cf53 6 = .ok (.goto 4, 3) := by decide +kernel
theorem dJ9_min_7cf53_9 : decode cJ9_min_7cf53 9 = .ok (.iload_n 1, 1) := by decide +kernel
theorem dJ9_min_7cf53_10 : decode cJ9_min_7cf53 10 = .ok (.ireturn, 1) := by decide +kernel
theorem dJ7_fill_d0a16_0 : decode cJ7_fill_d0a16 0 = .ok (.iconst 0, 1) := by decide +kernel
theorem dJ7_fill_d0a16_1 : decode cJ7_fill_d0a16 1 = .ok (.istore_n 3, 1) := by decide +kernel
theorem dJ7_fill_d0a16_2 : decode cJ7_fill_d0a16 2 = .ok (.aload_n 0, 1) := by decide +kernel
theorem dJ7_fill_d0a16_3 : decode cJ7_fill_d0a16 3 = .ok (.arraylength, 1) := by decide +kernel
theorem dJ7_fill_d0a16_4 : decode cJ7_fill_d0a16 4 = .ok (.istore 4, 2) := by decide +kernel
theorem dJ7_fill_d0a16_6 : decode cJ7_fill_d0a16 6 = .ok (.iload_n 3, 1) := by decide +kernel
theorem dJ7_fill_d0a16_7 : decode cJ7_fill_d0a16 7 = .ok (.iload 4, 2) := by decide +kernel
theorem dJ7_fill_d0a16_9 : decode cJ7_fill_d0a16 9 = .ok (.if_icmp .ge 13, 3) := by decide +kernel
theorem dJ7_fill_d0a16_12 : decode cJ7_fill_d0a16 12 = .ok (.aload_n 0, 1) := by decide +kernel
theorem dJ7_fill_d0a16_13 : decode cJ7_fill_d0a16 13 = .ok (.iload_n 3, 1) := by decide +kernel
theorem dJ7_fill_d0a16_14 : decode cJ7_fill_d0a16 14 = .ok (.lload_n 1, 1) := by decide +kernel
theorem dJ7_fill_d0a16_15 : decode cJ7_fill_d0a16 15 = .ok (.lastore, 1) := by decide +kernel
theorem dJ7_fill_d0a16_16 : decode cJ7_fill_d0a16 16 = .ok (.iinc 3 1, 3) := by decide +kernel
theorem dJ7_fill_d0a16_19 : decode cJ7_fill_d0a16 19 = .ok (.goto (-13), 3) := by decide +kernel
theorem dJ7_fill_d0a16_22 : decode cJ7_fill_d0a16 22 = .ok (.return_, 1) := by decide +kernel
theorem dJ7_copyOf_59c91_0 : decode cJ7_copyOf_59c91 0 = .ok (.iload_n 1, 1) := by decide +kernel
theorem dJ7_copyOf_59c91_1 : decode cJ7_copyOf_59c91 1 = .ok (.aload_n 0, 1) := by decide +kernel
theorem dJ7_copyOf_59c91_2 : decode cJ7_copyOf_59c91 2 = .ok (.arraylength, 1) := by decide +kernel
theorem dJ7_copyOf_59c91_3 : decode cJ7_copyOf_59c91 3 = .ok (.if_icmp .ne 11, 3) := by decide +kernel
theorem dJ7_copyOf_59c91_6 : decode cJ7_copyOf_59c91 6 = .ok (.aload_n 0, 1) := by decide +kernel
theorem dJ7_copyOf_59c91_7 : decode cJ7_copyOf_59c91 7 = .ok (.invokevirtual 316, 3) := by decide +kernel
theorem dJ7_copyOf_59c91_10 : decode cJ7_copyOf_59c91 10 = .ok (.checkcast 317, 3) := by decide +kernel
theorem dJ7_copyOf_59c91_13 : decode cJ7_copyOf_59c91 13 = .ok (.areturn, 1) := by decide +kernel
theorem dJ7_copyOf_59c91_14 : decode cJ7_copyOf_59c91 14 = .ok (.iload_n 1, 1) := by decide +kernel
theorem dJ7_copyOf_59c91_15 : decode cJ7_copyOf_59c91 15 = .ok (.newarray .int, 2) := by decide +kernel
theorem dJ7_copyOf_59c91_17 : decode cJ7_copyOf_59c91 17 = .ok (.astore_n 2, 1) := by decide +kernel
theorem dJ7_copyOf_59c91_18 : decode cJ7_copyOf_59c91 18 = .ok (.aload_n 0, 1) := by decide +kernel
theorem dJ7_copyOf_59c91_19 : decode cJ7_copyOf_59c91 19 = .ok (.iconst 0, 1) := by decide +kernel
theorem dJ7_copyOf_59c91_20 : decode cJ7_copyOf_59c91 20 = .ok (.aload_n 2, 1) := by decide +kernel
theorem dJ7_copyOf_59c91_21 : decode cJ7_copyOf_59c91 21 = .ok (.iconst 0, 1) := by decide +kernel
theorem dJ7_copyOf_59c91_22 : decode cJ7_copyOf_59c91 22 = .ok (.aload_n 0, 1) := by decide +kernel
theorem dJ7_copyOf_59c91_23 : decode cJ7_copyOf_59c91 23 = .ok (.arraylength, 1) := by decide +kernel
theorem dJ7_copyOf_59c91_24 : decode cJ7_copyOf_59c91 24 = .ok (.iload_n 1, 1) := by decide +kernel
theorem dJ7_copyOf_59c91_25 : decode cJ7_copyOf_59c91 25 = .ok (.invokestatic 304, 3) := by decide +kernel
theorem dJ7_copyOf_59c91_28 : decode cJ7_copyOf_59c91 28 = .ok (.invokestatic 150, 3) := by decide +kernel
theorem dJ7_copyOf_59c91_31 : decode cJ7_copyOf_59c91 31 = .ok (.aload_n 2, 1) := by decide +kernel
theorem dJ7_copyOf_59c91_32 : decode cJ7_copyOf_59c91 32 = .ok (.areturn, 1) := by decide +kernel
theorem dJ7_copyOf_c38d5_0 : decode cJ7_copyOf_c38d5 0 = .ok (.iload_n 1, 1) := by decide +kernel
theorem dJ7_copyOf_c38d5_1 : decode cJ7_copyOf_c38d5 1 = .ok (.aload_n 0, 1) := by decide +kernel
theorem dJ7_copyOf_c38d5_2 : decode cJ7_copyOf_c38d5 2 = .ok (.arraylength, 1) := by decide +kernel
theorem dJ7_copyOf_c38d5_3 : decode cJ7_copyOf_c38d5 3 = .ok (.if_icmp .ne 11, 3) := by decide +kernel
theorem dJ7_copyOf_c38d5_6 : decode cJ7_copyOf_c38d5 6 = .ok (.aload_n 0, 1) := by decide +kernel
theorem dJ7_copyOf_c38d5_7 : decode cJ7_copyOf_c38d5 7 = .ok (.invokevirtual 319, 3) := by decide +kernel
theorem dJ7_copyOf_c38d5_10 : decode cJ7_copyOf_c38d5 10 = .ok (.checkcast 320, 3) := by decide +kernel
theorem dJ7_copyOf_c38d5_13 : decode cJ7_copyOf_c38d5 13 = .ok (.areturn, 1) := by decide +kernel
theorem dJ7_copyOf_c38d5_14 : decode cJ7_copyOf_c38d5 14 = .ok (.iload_n 1, 1) := by decide +kernel
theorem dJ7_copyOf_c38d5_15 : decode cJ7_copyOf_c38d5 15 = .ok (.newarray .long, 2) := by decide +kernel
theorem dJ7_copyOf_c38d5_17 : decode cJ7_copyOf_c38d5 17 = .ok (.astore_n 2, 1) := by decide +kernel
theorem dJ7_copyOf_c38d5_18 : decode cJ7_copyOf_c38d5 18 = .ok (.aload_n 0, 1) := by decide +kernel
theorem dJ7_copyOf_c38d5_19 : decode cJ7_copyOf_c38d5 19 = .ok (.iconst 0, 1) := by decide +kernel
theorem dJ7_copyOf_c38d5_20 : decode cJ7_copyOf_c38d5 20 = .ok (.aload_n 2, 1) := by decide +kernel
theorem dJ7_copyOf_c38d5_21 : decode cJ7_copyOf_c38d5 21 = .ok (.iconst 0, 1) := by decide +kernel
theorem dJ7_copyOf_c38d5_22 : decode cJ7_copyOf_c38d5 22 = .ok (.aload_n 0, 1) := by decide +kernel
theorem dJ7_copyOf_c38d5_23 : decode cJ7_copyOf_c38d5 23 = .ok (.arraylength, 1) := by decide +kernel
theorem dJ7_copyOf_c38d5_24 : decode cJ7_copyOf_c38d5 24 = .ok (.iload_n 1, 1) := by decide +kernel
theorem dJ7_copyOf_c38d5_25 : decode cJ7_copyOf_c38d5 25 = .ok (.invokestatic 304, 3) := by decide +kernel
theorem dJ7_copyOf_c38d5_28 : decode cJ7_copyOf_c38d5 28 = .ok (.invokestatic 150, 3) := by decide +kernel
theorem dJ7_copyOf_c38d5_31 : decode cJ7_copyOf_c38d5 31 = .ok (.aload_n 2, 1) := by decide +kernel
theorem dJ7_copyOf_c38d5_32 : decode cJ7_copyOf_c38d5 32 = .ok (.areturn, 1) := by decide +kernel
theorem dL_law_0 : decode cL_law 0 = .ok (.new 7, 3) := by decide +kernel
theorem dL_law_3 : decode cL_law 3 = .ok (.dup, 1) := by decide +kernel
theorem dL_law_4 : decode cL_law 4 = .ok (.invokespecial 9, 3) := by decide +kernel
theorem dL_law_7 : decode cL_law 7 = .ok (.astore_n 1, 1) := by decide +kernel
theorem dL_law_8 : decode cL_law 8 = .ok (.new 10, 3) := by decide +kernel
theorem dL_law_11 : decode cL_law 11 = .ok (.dup, 1) := by decide +kernel
theorem dL_law_12 : decode cL_law 12 = .ok (.invokespecial 12, 3) := by decide +kernel
theorem dL_law_15 : decode cL_law 15 = .ok (.astore_n 2, 1) := by decide +kernel
theorem dL_law_16 : decode cL_law 16 = .ok (.iconst 0, 1) := by decide +kernel
theorem dL_law_17 : decode cL_law 17 = .ok (.istore_n 3, 1) := by decide +kernel
theorem dL_law_18 : decode cL_law 18 = .ok (.iload_n 3, 1) := by decide +kernel
theorem dL_law_19 : decode cL_law 19 = .ok (.aload_n 0, 1) := by decide +kernel
theorem dL_law_20 : decode cL_law 20 = .ok (.arraylength, 1) := by decide +kernel
theorem dL_law_21 : decode cL_law 21 = .ok (.iconst 5, 1) := by decide +kernel
theorem dL_law_22 : decode cL_law 22 = .ok (.isub, 1) := by decide +kernel
theorem dL_law_23 : decode cL_law 23 = .ok (.if_icmp .gt 740, 3) := by decide +kernel
theorem dL_law_26 : decode cL_law 26 = .ok (.aload_n 0, 1) := by decide +kernel
theorem dL_law_27 : decode cL_law 27 = .ok (.iload_n 3, 1) := by decide +kernel
theorem dL_law_28 : decode cL_law 28 = .ok (.iaload, 1) := by decide +kernel
theorem dL_law_29 : decode cL_law 29 = .ok (.bipush 31, 2) := by decide +kernel
theorem dL_law_31 : decode cL_law 31 = .ok (.iand, 1) := by decide +kernel
theorem dL_law_32 : decode cL_law 32 = .ok (.tableswitch 725 0 16 #[84, 107, 160, 213, 246, 289, 342, 395, 428, 471, 514, 547, 580, 613, 656, 679, 702], 84) := by decide +kernel
theorem dL_law_116 : decode cL_law 116 = .ok (.aload_n 1, 1) := by decide +kernel
theorem dL_law_117 : decode cL_law 117 = .ok (.aload_n 0, 1) := by decide +kernel
theorem dL_law_118 : decode cL_law 118 = .ok (.iload_n 3, 1) := by decide +kernel
theorem dL_law_119 : decode cL_law 119 = .ok (.iconst 1, 1) := by decide +kernel
theorem dL_law_120 : decode cL_law 120 = .ok (.iadd, 1) := by decide +kernel
theorem dL_law_121 : decode cL_law 121 = .ok (.iaload, 1) := by decide +kernel
theorem dL_law_122 : decode cL_law 122 = .ok (.invokevirtual 13, 3) := by decide +kernel
theorem dL_law_125 : decode cL_law 125 = .ok (.aload_n 2, 1) := by decide +kernel
theorem dL_law_126 : decode cL_law 126 = .ok (.aload_n 0, 1) := by decide +kernel
theorem dL_law_127 : decode cL_law 127 = .ok (.iload_n 3, 1) := by decide +kernel
theorem dL_law_128 : decode cL_law 128 = .ok (.iconst 1, 1) := by decide +kernel
theorem dL_law_129 : decode cL_law 129 = .ok (.iadd, 1) := by decide +kernel
theorem dL_law_130 : decode cL_law 130 = .ok (.iaload, 1) := by decide +kernel
theorem dL_law_131 : decode cL_law 131 = .ok (.invokevirtual 17, 3) := by decide +kernel
theorem dL_law_134 : decode cL_law 134 = .ok (.if_icmp .eq 623, 3) := by decide +kernel
theorem dL_law_137 : decode cL_law 137 = .ok (.iconst 0, 1) := by decide +kernel
theorem dL_law_138 : decode cL_law 138 = .ok (.ireturn, 1) := by decide +kernel
theorem dL_law_139 : decode cL_law 139 = .ok (.aload_n 1, 1) := by decide +kernel
theorem dL_law_140 : decode cL_law 140 = .ok (.aload_n 0, 1) := by decide +kernel
theorem dL_law_141 : decode cL_law 141 = .ok (.iload_n 3, 1) := by decide +kernel
theorem dL_law_142 : decode cL_law 142 = .ok (.iconst 1, 1) := by decide +kernel
theorem dL_law_143 : decode cL_law 143 = .ok (.iadd, 1) := by decide +kernel
theorem dL_law_144 : decode cL_law 144 = .ok (.iaload, 1) := by decide +kernel
theorem dL_law_145 : decode cL_law 145 = .ok (.aload_n 0, 1) := by decide +kernel
theorem dL_law_146 : decode cL_law 146 = .ok (.iload_n 3, 1) := by decide +kernel
theorem dL_law_147 : decode cL_law 147 = .ok (.iconst 2, 1) := by decide +kernel
theorem dL_law_148 : decode cL_law 148 = .ok (.iadd, 1) := by decide +kernel
theorem dL_law_149 : decode cL_law 149 = .ok (.iaload, 1) := by decide +kernel
theorem dL_law_150 : decode cL_law 150 = .ok (.aload_n 0, 1) := by decide +kernel
theorem dL_law_151 : decode cL_law 151 = .ok (.iload_n 3, 1) := by decide +kernel
theorem dL_law_152 : decode cL_law 152 = .ok (.iconst 3, 1) := by decide +kernel
theorem dL_law_153 : decode cL_law 153 = .ok (.iadd, 1) := by decide +kernel
theorem dL_law_154 : decode cL_law 154 = .ok (.iaload, 1) := by decide +kernel
theorem dL_law_155 : decode cL_law 155 = .ok (.aload_n 0, 1) := by decide +kernel
theorem dL_law_156 : decode cL_law 156 = .ok (.iload_n 3, 1) := by decide +kernel
theorem dL_law_157 : decode cL_law 157 = .ok (.iconst 4, 1) := by decide +kernel
theorem dL_law_158 : decode cL_law 158 = .ok (.iadd, 1) := by decide +kernel
theorem dL_law_159 : decode cL_law 159 = .ok (.iaload, 1) := by decide +kernel
theorem dL_law_160 : decode cL_law 160 = .ok (.invokevirtual 18, 3) := by decide +kernel
theorem dL_law_163 : decode cL_law 163 = .ok (.aload_n 2, 1) := by decide +kernel
theorem dL_law_164 : decode cL_law 164 = .ok (.aload_n 0, 1) := by decide +kernel
theorem dL_law_165 : decode cL_law 165 = .ok (.iload_n 3, 1) := by decide +kernel
theorem dL_law_166 : decode cL_law 166 = .ok (.iconst 1, 1) := by decide +kernel
theorem dL_law_167 : decode cL_law 167 = .ok (.iadd, 1) := by decide +kernel
theorem dL_law_168 : decode cL_law 168 = .ok (.iaload, 1) := by decide +kernel
theorem dL_law_169 : decode cL_law 169 = .ok (.aload_n 0, 1) := by decide +kernel
theorem dL_law_170 : decode cL_law 170 = .ok (.iload_n 3, 1) := by decide +kernel
theorem dL_law_171 : decode cL_law 171 = .ok (.iconst 2, 1) := by decide +kernel
theorem dL_law_172 : decode cL_law 172 = .ok (.iadd, 1) := by decide +kernel
theorem dL_law_173 : decode cL_law 173 = .ok (.iaload, 1) := by decide +kernel
theorem dL_law_174 : decode cL_law 174 = .ok (.aload_n 0, 1) := by decide +kernel
theorem dL_law_175 : decode cL_law 175 = .ok (.iload_n 3, 1) := by decide +kernel
theorem dL_law_176 : decode cL_law 176 = .ok (.iconst 3, 1) := by decide +kernel
theorem dL_law_177 : decode cL_law 177 = .ok (.iadd, 1) := by decide +kernel
theorem dL_law_178 : decode cL_law 178 = .ok (.iaload, 1) := by decide +kernel
theorem dL_law_179 : decode cL_law 179 = .ok (.aload_n 0, 1) := by decide +kernel
theorem dL_law_180 : decode cL_law 180 = .ok (.iload_n 3, 1) := by decide +kernel
theorem dL_law_181 : decode cL_law 181 = .ok (.iconst 4, 1) := by decide +kernel
theorem dL_law_182 : decode cL_law 182 = .ok (.iadd, 1) := by decide +kernel
theorem dL_law_183 : decode cL_law 183 = .ok (.iaload, 1) := by decide +kernel
theorem dL_law_184 : decode cL_law 184 = .ok (.invokevirtual 22, 3) := by decide +kernel
theorem dL_law_187 : decode cL_law 187 = .ok (.if_icmp .eq 570, 3) := by decide +kernel
theorem dL_law_190 : decode cL_law 190 = .ok (.iconst 0, 1) := by decide +kernel
theorem dL_law_191 : decode cL_law 191 = .ok (.ireturn, 1) := by decide +kernel
theorem dL_law_192 : decode cL_law 192 = .ok (.aload_n 1, 1) := by decide +kernel
theorem dL_law_193 : decode cL_law 193 = .ok (.aload_n 0, 1) := by decide +kernel
theorem dL_law_194 : decode cL_law 194 = .ok (.iload_n 3, 1) := by decide +kernel
theorem dL_law_195 : decode cL_law 195 = .ok (.iconst 1, 1) := by decide +kernel
theorem dL_law_196 : decode cL_law 196 = .ok (.iadd, 1) := by decide +kernel
theorem dL_law_197 : decode cL_law 197 = .ok (.iaload, 1) := by decide +kernel
theorem dL_law_198 : decode cL_law 198 = .ok (.aload_n 0, 1) := by decide +kernel
theorem dL_law_199 : decode cL_law 199 = .ok (.iload_n 3, 1) := by decide +kernel
theorem dL_law_200 : decode cL_law 200 = .ok (.iconst 2, 1) := by decide +kernel
theorem dL_law_201 : decode cL_law 201 = .ok (.iadd, 1) := by decide +kernel
theorem dL_law_202 : decode cL_law 202 = .ok (.iaload, 1) := by decide +kernel
theorem dL_law_203 : decode cL_law 203 = .ok (.aload_n 0, 1) := by decide +kernel
theorem dL_law_204 : decode cL_law 204 = .ok (.iload_n 3, 1) := by decide +kernel
theorem dL_law_205 : decode cL_law 205 = .ok (.iconst 3, 1) := by decide +kernel
theorem dL_law_206 : decode cL_law 206 = .ok (.iadd, 1) := by decide +kernel
theorem dL_law_207 : decode cL_law 207 = .ok (.iaload, 1) := by decide +kernel
theorem dL_law_208 : decode cL_law 208 = .ok (.aload_n 0, 1) := by decide +kernel
theorem dL_law_209 : decode cL_law 209 = .ok (.iload_n 3, 1) := by decide +kernel
theorem dL_law_210 : decode cL_law 210 = .ok (.iconst 4, 1) := by decide +kernel
theorem dL_law_211 : decode cL_law 211 = .ok (.iadd, 1) := by decide +kernel
theorem dL_law_212 : decode cL_law 212 = .ok (.iaload, 1) := by decide +kernel
theorem dL_law_213 : decode cL_law 213 = .ok (.invokevirtual 23, 3) := by decide +kernel
theorem dL_law_216 : decode cL_law 216 = .ok (.aload_n 2, 1) := by decide +kernel
theorem dL_law_217 : decode cL_law 217 = .ok (.aload_n 0, 1) := by decide +kernel
theorem dL_law_218 : decode cL_law 218 = .ok (.iload_n 3, 1) := by decide +kernel
theorem dL_law_219 : decode cL_law 219 = .ok (.iconst 1, 1) := by decide +kernel
theorem dL_law_220 : decode cL_law 220 = .ok (.iadd, 1) := by decide +kernel
theorem dL_law_221 : decode cL_law 221 = .ok (.iaload, 1) := by decide +kernel
theorem dL_law_222 : decode cL_law 222 = .ok (.aload_n 0, 1) := by decide +kernel
theorem dL_law_223 : decode cL_law 223 = .ok (.iload_n 3, 1) := by decide +kernel
theorem dL_law_224 : decode cL_law 224 = .ok (.iconst 2, 1) := by decide +kernel
theorem dL_law_225 : decode cL_law 225 = .ok (.iadd, 1) := by decide +kernel
theorem dL_law_226 : decode cL_law 226 = .ok (.iaload, 1) := by decide +kernel
theorem dL_law_227 : decode cL_law 227 = .ok (.aload_n 0, 1) := by decide +kernel
theorem dL_law_228 : decode cL_law 228 = .ok (.iload_n 3, 1) := by decide +kernel
theorem dL_law_229 : decode cL_law 229 = .ok (.iconst 3, 1) := by decide +kernel
theorem dL_law_230 : decode cL_law 230 = .ok (.iadd, 1) := by decide +kernel
theorem dL_law_231 : decode cL_law 231 = .ok (.iaload, 1) := by decide +kernel
theorem dL_law_232 : decode cL_law 232 = .ok (.aload_n 0, 1) := by decide +kernel
theorem dL_law_233 : decode cL_law 233 = .ok (.iload_n 3, 1) := by decide +kernel
theorem dL_law_234 : decode cL_law 234 = .ok (.iconst 4, 1) := by decide +kernel
theorem dL_law_235 : decode cL_law 235 = .ok (.iadd, 1) := by decide +kernel
theorem dL_law_236 : decode cL_law 236 = .ok (.iaload, 1) := by decide +kernel
theorem dL_law_237 : decode cL_law 237 = .ok (.invokevirtual 26, 3) := by decide +kernel
theorem dL_law_240 : decode cL_law 240 = .ok (.if_icmp .eq 517, 3) := by decide +kernel
theorem dL_law_243 : decode cL_law 243 = .ok (.iconst 0, 1) := by decide +kernel
theorem dL_law_244 : decode cL_law 244 = .ok (.ireturn, 1) := by decide +kernel
theorem dL_law_245 : decode cL_law 245 = .ok (.aload_n 1, 1) := by decide +kernel
theorem dL_law_246 : decode cL_law 246 = .ok (.aload_n 0, 1) := by decide +kernel
theorem dL_law_247 : decode cL_law 247 = .ok (.iload_n 3, 1) := by decide +kernel
theorem dL_law_248 : decode cL_law 248 = .ok (.iconst 1, 1) := by decide +kernel
theorem dL_law_249 : decode cL_law 249 = .ok (.iadd, 1) := by decide +kernel
theorem dL_law_250 : decode cL_law 250 = .ok (.iaload, 1) := by decide +kernel
theorem dL_law_251 : decode cL_law 251 = .ok (.aload_n 0, 1) := by decide +kernel
theorem dL_law_252 : decode cL_law 252 = .ok (.iload_n 3, 1) := by decide +kernel
theorem dL_law_253 : decode cL_law 253 = .ok (.iconst 2, 1) := by decide +kernel
theorem dL_law_254 : decode cL_law 254 = .ok (.iadd, 1) := by decide +kernel
theorem dL_law_255 : decode cL_law 255 = .ok (.iaload, 1) := by decide +kernel
theorem dL_law_256 : decode cL_law 256 = .ok (.invokevirtual 27, 3) := by decide +kernel
theorem dL_law_259 : decode cL_law 259 = .ok (.aload_n 2, 1) := by decide +kernel
theorem dL_law_260 : decode cL_law 260 = .ok (.aload_n 0, 1) := by decide +kernel
theorem dL_law_261 : decode cL_law 261 = .ok (.iload_n 3, 1) := by decide +kernel
theorem dL_law_262 : decode cL_law 262 = .ok (.iconst 1, 1) := by decide +kernel
theorem dL_law_263 : decode cL_law 263 = .ok (.iadd, 1) := by decide +kernel
theorem dL_law_264 : decode cL_law 264 = .ok (.iaload, 1) := by decide +kernel
theorem dL_law_265 : decode cL_law 265 = .ok (.aload_n 0, 1) := by decide +kernel
theorem dL_law_266 : decode cL_law 266 = .ok (.iload_n 3, 1) := by decide +kernel
theorem dL_law_267 : decode cL_law 267 = .ok (.iconst 2, 1) := by decide +kernel
theorem dL_law_268 : decode cL_law 268 = .ok (.iadd, 1) := by decide +kernel
theorem dL_law_269 : decode cL_law 269 = .ok (.iaload, 1) := by decide +kernel
theorem dL_law_270 : decode cL_law 270 = .ok (.invokevirtual 31, 3) := by decide +kernel
theorem dL_law_273 : decode cL_law 273 = .ok (.if_icmp .eq 484, 3) := by decide +kernel
theorem dL_law_276 : decode cL_law 276 = .ok (.iconst 0, 1) := by decide +kernel
theorem dL_law_277 : decode cL_law 277 = .ok (.ireturn, 1) := by decide +kernel
theorem dL_law_278 : decode cL_law 278 = .ok (.aload_n 1, 1) := by decide +kernel
theorem dL_law_279 : decode cL_law 279 = .ok (.aload_n 0, 1) := by decide +kernel
theorem dL_law_280 : decode cL_law 280 = .ok (.iload_n 3, 1) := by decide +kernel
theorem dL_law_281 : decode cL_law 281 = .ok (.iconst 1, 1) := by decide +kernel
theorem dL_law_282 : decode cL_law 282 = .ok (.iadd, 1) := by decide +kernel
theorem dL_law_283 : decode cL_law 283 = .ok (.iaload, 1) := by decide +kernel
theorem dL_law_284 : decode cL_law 284 = .ok (.aload_n 0, 1) := by decide +kernel
theorem dL_law_285 : decode cL_law 285 = .ok (.iload_n 3, 1) := by decide +kernel
theorem dL_law_286 : decode cL_law 286 = .ok (.iconst 2, 1) := by decide +kernel
theorem dL_law_287 : decode cL_law 287 = .ok (.iadd, 1) := by decide +kernel
theorem dL_law_288 : decode cL_law 288 = .ok (.iaload, 1) := by decide +kernel
theorem dL_law_289 : decode cL_law 289 = .ok (.aload_n 0, 1) := by decide +kernel
theorem dL_law_290 : decode cL_law 290 = .ok (.iload_n 3, 1) := by decide +kernel
theorem dL_law_291 : decode cL_law 291 = .ok (.iconst 3, 1) := by decide +kernel
theorem dL_law_292 : decode cL_law 292 = .ok (.iadd, 1) := by decide +kernel
theorem dL_law_293 : decode cL_law 293 = .ok (.iaload, 1) := by decide +kernel
theorem dL_law_294 : decode cL_law 294 = .ok (.invokevirtual 32, 3) := by decide +kernel
theorem dL_law_297 : decode cL_law 297 = .ok (.aload_n 2, 1) := by decide +kernel
theorem dL_law_298 : decode cL_law 298 = .ok (.aload_n 0, 1) := by decide +kernel
theorem dL_law_299 : decode cL_law 299 = .ok (.iload_n 3, 1) := by decide +kernel
theorem dL_law_300 : decode cL_law 300 = .ok (.iconst 1, 1) := by decide +kernel
theorem dL_law_301 : decode cL_law 301 = .ok (.iadd, 1) := by decide +kernel
theorem dL_law_302 : decode cL_law 302 = .ok (.iaload, 1) := by decide +kernel
theorem dL_law_303 : decode cL_law 303 = .ok (.aload_n 0, 1) := by decide +kernel
theorem dL_law_304 : decode cL_law 304 = .ok (.iload_n 3, 1) := by decide +kernel
theorem dL_law_305 : decode cL_law 305 = .ok (.iconst 2, 1) := by decide +kernel
theorem dL_law_306 : decode cL_law 306 = .ok (.iadd, 1) := by decide +kernel
theorem dL_law_307 : decode cL_law 307 = .ok (.iaload, 1) := by decide +kernel
theorem dL_law_308 : decode cL_law 308 = .ok (.aload_n 0, 1) := by decide +kernel
theorem dL_law_309 : decode cL_law 309 = .ok (.iload_n 3, 1) := by decide +kernel
theorem dL_law_310 : decode cL_law 310 = .ok (.iconst 3, 1) := by decide +kernel
theorem dL_law_311 : decode cL_law 311 = .ok (.iadd, 1) := by decide +kernel
theorem dL_law_312 : decode cL_law 312 = .ok (.iaload, 1) := by decide +kernel
theorem dL_law_313 : decode cL_law 313 = .ok (.invokevirtual 36, 3) := by decide +kernel
theorem dL_law_316 : decode cL_law 316 = .ok (.if_icmp .eq 441, 3) := by decide +kernel
theorem dL_law_319 : decode cL_law 319 = .ok (.iconst 0, 1) := by decide +kernel
theorem dL_law_320 : decode cL_law 320 = .ok (.ireturn, 1) := by decide +kernel
theorem dL_law_321 : decode cL_law 321 = .ok (.aload_n 1, 1) := by decide +kernel
theorem dL_law_322 : decode cL_law 322 = .ok (.aload_n 0, 1) := by decide +kernel
theorem dL_law_323 : decode cL_law 323 = .ok (.iload_n 3, 1) := by decide +kernel
theorem dL_law_324 : decode cL_law 324 = .ok (.iconst 1, 1) := by decide +kernel
theorem dL_law_325 : decode cL_law 325 = .ok (.iadd, 1) := by decide +kernel
theorem dL_law_326 : decode cL_law 326 = .ok (.iaload, 1) := by decide +kernel
theorem dL_law_327 : decode cL_law 327 = .ok (.aload_n 0, 1) := by decide +kernel
theorem dL_law_328 : decode cL_law 328 = .ok (.iload_n 3, 1) := by decide +kernel
theorem dL_law_329 : decode cL_law 329 = .ok (.iconst 2, 1) := by decide +kernel
theorem dL_law_330 : decode cL_law 330 = .ok (.iadd, 1) := by decide +kernel
theorem dL_law_331 : decode cL_law 331 = .ok (.iaload, 1) := by decide +kernel
theorem dL_law_332 : decode cL_law 332 = .ok (.aload_n 0, 1) := by decide +kernel
theorem dL_law_333 : decode cL_law 333 = .ok (.iload_n 3, 1) := by decide +kernel
theorem dL_law_334 : decode cL_law 334 = .ok (.iconst 3, 1) := by decide +kernel
theorem dL_law_335 : decode cL_law 335 = .ok (.iadd, 1) := by decide +kernel
theorem dL_law_336 : decode cL_law 336 = .ok (.iaload, 1) := by decide +kernel
theorem dL_law_337 : decode cL_law 337 = .ok (.aload_n 0, 1) := by decide +kernel
theorem dL_law_338 : decode cL_law 338 = .ok (.iload_n 3, 1) := by decide +kernel
theorem dL_law_339 : decode cL_law 339 = .ok (.iconst 4, 1) := by decide +kernel
theorem dL_law_340 : decode cL_law 340 = .ok (.iadd, 1) := by decide +kernel
theorem dL_law_341 : decode cL_law 341 = .ok (.iaload, 1) := by decide +kernel
theorem dL_law_342 : decode cL_law 342 = .ok (.invokevirtual 37, 3) := by decide +kernel
theorem dL_law_345 : decode cL_law 345 = .ok (.aload_n 2, 1) := by decide +kernel
theorem dL_law_346 : decode cL_law 346 = .ok (.aload_n 0, 1) := by decide +kernel
theorem dL_law_347 : decode cL_law 347 = .ok (.iload_n 3, 1) := by decide +kernel
theorem dL_law_348 : decode cL_law 348 = .ok (.iconst 1, 1) := by decide +kernel
theorem dL_law_349 : decode cL_law 349 = .ok (.iadd, 1) := by decide +kernel
theorem dL_law_350 : decode cL_law 350 = .ok (.iaload, 1) := by decide +kernel
theorem dL_law_351 : decode cL_law 351 = .ok (.aload_n 0, 1) := by decide +kernel
theorem dL_law_352 : decode cL_law 352 = .ok (.iload_n 3, 1) := by decide +kernel
theorem dL_law_353 : decode cL_law 353 = .ok (.iconst 2, 1) := by decide +kernel
theorem dL_law_354 : decode cL_law 354 = .ok (.iadd, 1) := by decide +kernel
theorem dL_law_355 : decode cL_law 355 = .ok (.iaload, 1) := by decide +kernel
theorem dL_law_356 : decode cL_law 356 = .ok (.aload_n 0, 1) := by decide +kernel
theorem dL_law_357 : decode cL_law 357 = .ok (.iload_n 3, 1) := by decide +kernel
theorem dL_law_358 : decode cL_law 358 = .ok (.iconst 3, 1) := by decide +kernel
theorem dL_law_359 : decode cL_law 359 = .ok (.iadd, 1) := by decide +kernel
theorem dL_law_360 : decode cL_law 360 = .ok (.iaload, 1) := by decide +kernel
theorem dL_law_361 : decode cL_law 361 = .ok (.aload_n 0, 1) := by decide +kernel
theorem dL_law_362 : decode cL_law 362 = .ok (.iload_n 3, 1) := by decide +kernel
theorem dL_law_363 : decode cL_law 363 = .ok (.iconst 4, 1) := by decide +kernel
theorem dL_law_364 : decode cL_law 364 = .ok (.iadd, 1) := by decide +kernel
theorem dL_law_365 : decode cL_law 365 = .ok (.iaload, 1) := by decide +kernel
theorem dL_law_366 : decode cL_law 366 = .ok (.invokevirtual 40, 3) := by decide +kernel
theorem dL_law_369 : decode cL_law 369 = .ok (.if_icmp .eq 388, 3) := by decide +kernel
theorem dL_law_372 : decode cL_law 372 = .ok (.iconst 0, 1) := by decide +kernel
theorem dL_law_373 : decode cL_law 373 = .ok (.ireturn, 1) := by decide +kernel
theorem dL_law_374 : decode cL_law 374 = .ok (.aload_n 1, 1) := by decide +kernel
theorem dL_law_375 : decode cL_law 375 = .ok (.aload_n 0, 1) := by decide +kernel
theorem dL_law_376 : decode cL_law 376 = .ok (.iload_n 3, 1) := by decide +kernel
theorem dL_law_377 : decode cL_law 377 = .ok (.iconst 1, 1) := by decide +kernel
theorem dL_law_378 : decode cL_law 378 = .ok (.iadd, 1) := by decide +kernel
theorem dL_law_379 : decode cL_law 379 = .ok (.iaload, 1) := by decide +kernel
theorem dL_law_380 : decode cL_law 380 = .ok (.aload_n 0, 1) := by decide +kernel
theorem dL_law_381 : decode cL_law 381 = .ok (.iload_n 3, 1) := by decide +kernel
theorem dL_law_382 : decode cL_law 382 = .ok (.iconst 2, 1) := by decide +kernel
theorem dL_law_383 : decode cL_law 383 = .ok (.iadd, 1) := by decide +kernel
theorem dL_law_384 : decode cL_law 384 = .ok (.iaload, 1) := by decide +kernel
theorem dL_law_385 : decode cL_law 385 = .ok (.aload_n 0, 1) := by decide +kernel
theorem dL_law_386 : decode cL_law 386 = .ok (.iload_n 3, 1) := by decide +kernel
theorem dL_law_387 : decode cL_law 387 = .ok (.iconst 3, 1) := by decide +kernel
theorem dL_law_388 : decode cL_law 388 = .ok (.iadd, 1) := by decide +kernel
theorem dL_law_389 : decode cL_law 389 = .ok (.iaload, 1) := by decide +kernel
theorem dL_law_390 : decode cL_law 390 = .ok (.aload_n 0, 1) := by decide +kernel
theorem dL_law_391 : decode cL_law 391 = .ok (.iload_n 3, 1) := by decide +kernel
theorem dL_law_392 : decode cL_law 392 = .ok (.iconst 4, 1) := by decide +kernel
theorem dL_law_393 : decode cL_law 393 = .ok (.iadd, 1) := by decide +kernel
theorem dL_law_394 : decode cL_law 394 = .ok (.iaload, 1) := by decide +kernel
theorem dL_law_395 : decode cL_law 395 = .ok (.invokevirtual 41, 3) := by decide +kernel
theorem dL_law_398 : decode cL_law 398 = .ok (.aload_n 2, 1) := by decide +kernel
theorem dL_law_399 : decode cL_law 399 = .ok (.aload_n 0, 1) := by decide +kernel
theorem dL_law_400 : decode cL_law 400 = .ok (.iload_n 3, 1) := by decide +kernel
theorem dL_law_401 : decode cL_law 401 = .ok (.iconst 1, 1) := by decide +kernel
theorem dL_law_402 : decode cL_law 402 = .ok (.iadd, 1) := by decide +kernel
theorem dL_law_403 : decode cL_law 403 = .ok (.iaload, 1) := by decide +kernel
theorem dL_law_404 : decode cL_law 404 = .ok (.aload_n 0, 1) := by decide +kernel
theorem dL_law_405 : decode cL_law 405 = .ok (.iload_n 3, 1) := by decide +kernel
theorem dL_law_406 : decode cL_law 406 = .ok (.iconst 2, 1) := by decide +kernel
theorem dL_law_407 : decode cL_law 407 = .ok (.iadd, 1) := by decide +kernel
theorem dL_law_408 : decode cL_law 408 = .ok (.iaload, 1) := by decide +kernel
theorem dL_law_409 : decode cL_law 409 = .ok (.aload_n 0, 1) := by decide +kernel
theorem dL_law_410 : decode cL_law 410 = .ok (.iload_n 3, 1) := by decide +kernel
theorem dL_law_411 : decode cL_law 411 = .ok (.iconst 3, 1) := by decide +kernel
theorem dL_law_412 : decode cL_law 412 = .ok (.iadd, 1) := by decide +kernel
theorem dL_law_413 : decode cL_law 413 = .ok (.iaload, 1) := by decide +kernel
theorem dL_law_414 : decode cL_law 414 = .ok (.aload_n 0, 1) := by decide +kernel
theorem dL_law_415 : decode cL_law 415 = .ok (.iload_n 3, 1) := by decide +kernel
theorem dL_law_416 : decode cL_law 416 = .ok (.iconst 4, 1) := by decide +kernel
theorem dL_law_417 : decode cL_law 417 = .ok (.iadd, 1) := by decide +kernel
theorem dL_law_418 : decode cL_law 418 = .ok (.iaload, 1) := by decide +kernel
theorem dL_law_419 : decode cL_law 419 = .ok (.invokevirtual 44, 3) := by decide +kernel
theorem dL_law_422 : decode cL_law 422 = .ok (.if_icmp .eq 335, 3) := by decide +kernel
theorem dL_law_425 : decode cL_law 425 = .ok (.iconst 0, 1) := by decide +kernel
theorem dL_law_426 : decode cL_law 426 = .ok (.ireturn, 1) := by decide +kernel
theorem dL_law_427 : decode cL_law 427 = .ok (.aload_n 1, 1) := by decide +kernel
theorem dL_law_428 : decode cL_law 428 = .ok (.aload_n 0, 1) := by decide +kernel
theorem dL_law_429 : decode cL_law 429 = .ok (.iload_n 3, 1) := by decide +kernel
theorem dL_law_430 : decode cL_law 430 = .ok (.iconst 1, 1) := by decide +kernel
theorem dL_law_431 : decode cL_law 431 = .ok (.iadd, 1) := by decide +kernel
theorem dL_law_432 : decode cL_law 432 = .ok (.iaload, 1) := by decide +kernel
theorem dL_law_433 : decode cL_law 433 = .ok (.aload_n 0, 1) := by decide +kernel
theorem dL_law_434 : decode cL_law 434 = .ok (.iload_n 3, 1) := by decide +kernel
theorem dL_law_435 : decode cL_law 435 = .ok (.iconst 2, 1) := by decide +kernel
theorem dL_law_436 : decode cL_law 436 = .ok (.iadd, 1) := by decide +kernel
theorem dL_law_437 : decode cL_law 437 = .ok (.iaload, 1) := by decide +kernel
theorem dL_law_438 : decode cL_law 438 = .ok (.invokevirtual 45, 3) := by decide +kernel
theorem dL_law_441 : decode cL_law 441 = .ok (.aload_n 2, 1) := by decide +kernel
theorem dL_law_442 : decode cL_law 442 = .ok (.aload_n 0, 1) := by decide +kernel
theorem dL_law_443 : decode cL_law 443 = .ok (.iload_n 3, 1) := by decide +kernel
theorem dL_law_444 : decode cL_law 444 = .ok (.iconst 1, 1) := by decide +kernel
theorem dL_law_445 : decode cL_law 445 = .ok (.iadd, 1) := by decide +kernel
theorem dL_law_446 : decode cL_law 446 = .ok (.iaload, 1) := by decide +kernel
theorem dL_law_447 : decode cL_law 447 = .ok (.aload_n 0, 1) := by decide +kernel
theorem dL_law_448 : decode cL_law 448 = .ok (.iload_n 3, 1) := by decide +kernel
theorem dL_law_449 : decode cL_law 449 = .ok (.iconst 2, 1) := by decide +kernel
theorem dL_law_450 : decode cL_law 450 = .ok (.iadd, 1) := by decide +kernel
theorem dL_law_451 : decode cL_law 451 = .ok (.iaload, 1) := by decide +kernel
theorem dL_law_452 : decode cL_law 452 = .ok (.invokevirtual 48, 3) := by decide +kernel
theorem dL_law_455 : decode cL_law 455 = .ok (.if_icmp .eq 302, 3) := by decide +kernel
theorem dL_law_458 : decode cL_law 458 = .ok (.iconst 0, 1) := by decide +kernel
theorem dL_law_459 : decode cL_law 459 = .ok (.ireturn, 1) := by decide +kernel
theorem dL_law_460 : decode cL_law 460 = .ok (.aload_n 1, 1) := by decide +kernel
theorem dL_law_461 : decode cL_law 461 = .ok (.aload_n 0, 1) := by decide +kernel
theorem dL_law_462 : decode cL_law 462 = .ok (.iload_n 3, 1) := by decide +kernel
theorem dL_law_463 : decode cL_law 463 = .ok (.iconst 1, 1) := by decide +kernel
theorem dL_law_464 : decode cL_law 464 = .ok (.iadd, 1) := by decide +kernel
theorem dL_law_465 : decode cL_law 465 = .ok (.iaload, 1) := by decide +kernel
theorem dL_law_466 : decode cL_law 466 = .ok (.aload_n 0, 1) := by decide +kernel
theorem dL_law_467 : decode cL_law 467 = .ok (.iload_n 3, 1) := by decide +kernel
theorem dL_law_468 : decode cL_law 468 = .ok (.iconst 2, 1) := by decide +kernel
theorem dL_law_469 : decode cL_law 469 = .ok (.iadd, 1) := by decide +kernel
theorem dL_law_470 : decode cL_law 470 = .ok (.iaload, 1) := by decide +kernel
theorem dL_law_471 : decode cL_law 471 = .ok (.aload_n 0, 1) := by decide +kernel
theorem dL_law_472 : decode cL_law 472 = .ok (.iload_n 3, 1) := by decide +kernel
theorem dL_law_473 : decode cL_law 473 = .ok (.iconst 3, 1) := by decide +kernel
theorem dL_law_474 : decode cL_law 474 = .ok (.iadd, 1) := by decide +kernel
theorem dL_law_475 : decode cL_law 475 = .ok (.iaload, 1) := by decide +kernel
theorem dL_law_476 : decode cL_law 476 = .ok (.invokevirtual 49, 3) := by decide +kernel
theorem dL_law_479 : decode cL_law 479 = .ok (.aload_n 2, 1) := by decide +kernel
theorem dL_law_480 : decode cL_law 480 = .ok (.aload_n 0, 1) := by decide +kernel
theorem dL_law_481 : decode cL_law 481 = .ok (.iload_n 3, 1) := by decide +kernel
theorem dL_law_482 : decode cL_law 482 = .ok (.iconst 1, 1) := by decide +kernel
theorem dL_law_483 : decode cL_law 483 = .ok (.iadd, 1) := by decide +kernel
theorem dL_law_484 : decode cL_law 484 = .ok (.iaload, 1) := by decide +kernel
theorem dL_law_485 : decode cL_law 485 = .ok (.aload_n 0, 1) := by decide +kernel
theorem dL_law_486 : decode cL_law 486 = .ok (.iload_n 3, 1) := by decide +kernel
theorem dL_law_487 : decode cL_law 487 = .ok (.iconst 2, 1) := by decide +kernel
theorem dL_law_488 : decode cL_law 488 = .ok (.iadd, 1) := by decide +kernel
theorem dL_law_489 : decode cL_law 489 = .ok (.iaload, 1) := by decide +kernel
theorem dL_law_490 : decode cL_law 490 = .ok (.aload_n 0, 1) := by decide +kernel
theorem dL_law_491 : decode cL_law 491 = .ok (.iload_n 3, 1) := by decide +kernel
theorem dL_law_492 : decode cL_law 492 = .ok (.iconst 3, 1) := by decide +kernel
theorem dL_law_493 : decode cL_law 493 = .ok (.iadd, 1) := by decide +kernel
theorem dL_law_494 : decode cL_law 494 = .ok (.iaload, 1) := by decide +kernel
theorem dL_law_495 : decode cL_law 495 = .ok (.invokevirtual 52, 3) := by decide +kernel
theorem dL_law_498 : decode cL_law 498 = .ok (.if_icmp .eq 259, 3) := by decide +kernel
theorem dL_law_501 : decode cL_law 501 = .ok (.iconst 0, 1) := by decide +kernel
theorem dL_law_502 : decode cL_law 502 = .ok (.ireturn, 1) := by decide +kernel
theorem dL_law_503 : decode cL_law 503 = .ok (.aload_n 1, 1) := by decide +kernel
theorem dL_law_504 : decode cL_law 504 = .ok (.aload_n 0, 1) := by decide +kernel
theorem dL_law_505 : decode cL_law 505 = .ok (.iload_n 3, 1) := by decide +kernel
theorem dL_law_506 : decode cL_law 506 = .ok (.iconst 1, 1) := by decide +kernel
theorem dL_law_507 : decode cL_law 507 = .ok (.iadd, 1) := by decide +kernel
theorem dL_law_508 : decode cL_law 508 = .ok (.iaload, 1) := by decide +kernel
theorem dL_law_509 : decode cL_law 509 = .ok (.aload_n 0, 1) := by decide +kernel
theorem dL_law_510 : decode cL_law 510 = .ok (.iload_n 3, 1) := by decide +kernel
theorem dL_law_511 : decode cL_law 511 = .ok (.iconst 2, 1) := by decide +kernel
theorem dL_law_512 : decode cL_law 512 = .ok (.iadd, 1) := by decide +kernel
theorem dL_law_513 : decode cL_law 513 = .ok (.iaload, 1) := by decide +kernel
theorem dL_law_514 : decode cL_law 514 = .ok (.aload_n 0, 1) := by decide +kernel
theorem dL_law_515 : decode cL_law 515 = .ok (.iload_n 3, 1) := by decide +kernel
theorem dL_law_516 : decode cL_law 516 = .ok (.iconst 3, 1) := by decide +kernel
theorem dL_law_517 : decode cL_law 517 = .ok (.iadd, 1) := by decide +kernel
theorem dL_law_518 : decode cL_law 518 = .ok (.iaload, 1) := by decide +kernel
theorem dL_law_519 : decode cL_law 519 = .ok (.invokevirtual 53, 3) := by decide +kernel
theorem dL_law_522 : decode cL_law 522 = .ok (.aload_n 2, 1) := by decide +kernel
theorem dL_law_523 : decode cL_law 523 = .ok (.aload_n 0, 1) := by decide +kernel
theorem dL_law_524 : decode cL_law 524 = .ok (.iload_n 3, 1) := by decide +kernel
theorem dL_law_525 : decode cL_law 525 = .ok (.iconst 1, 1) := by decide +kernel
theorem dL_law_526 : decode cL_law 526 = .ok (.iadd, 1) := by decide +kernel
theorem dL_law_527 : decode cL_law 527 = .ok (.iaload, 1) := by decide +kernel
theorem dL_law_528 : decode cL_law 528 = .ok (.aload_n 0, 1) := by decide +kernel
theorem dL_law_529 : decode cL_law 529 = .ok (.iload_n 3, 1) := by decide +kernel
theorem dL_law_530 : decode cL_law 530 = .ok (.iconst 2, 1) := by decide +kernel
theorem dL_law_531 : decode cL_law 531 = .ok (.iadd, 1) := by decide +kernel
theorem dL_law_532 : decode cL_law 532 = .ok (.iaload, 1) := by decide +kernel
theorem dL_law_533 : decode cL_law 533 = .ok (.aload_n 0, 1) := by decide +kernel
theorem dL_law_534 : decode cL_law 534 = .ok (.iload_n 3, 1) := by decide +kernel
theorem dL_law_535 : decode cL_law 535 = .ok (.iconst 3, 1) := by decide +kernel
theorem dL_law_536 : decode cL_law 536 = .ok (.iadd, 1) := by decide +kernel
theorem dL_law_537 : decode cL_law 537 = .ok (.iaload, 1) := by decide +kernel
theorem dL_law_538 : decode cL_law 538 = .ok (.invokevirtual 56, 3) := by decide +kernel
theorem dL_law_541 : decode cL_law 541 = .ok (.if_icmp .eq 216, 3) := by decide +kernel
theorem dL_law_544 : decode cL_law 544 = .ok (.iconst 0, 1) := by decide +kernel
theorem dL_law_545 : decode cL_law 545 = .ok (.ireturn, 1) := by decide +kernel
theorem dL_law_546 : decode cL_law 546 = .ok (.aload_n 1, 1) := by decide +kernel
theorem dL_law_547 : decode cL_law 547 = .ok (.aload_n 0, 1) := by decide +kernel
theorem dL_law_548 : decode cL_law 548 = .ok (.iload_n 3, 1) := by decide +kernel
theorem dL_law_549 : decode cL_law 549 = .ok (.iconst 1, 1) := by decide +kernel
theorem dL_law_550 : decode cL_law 550 = .ok (.iadd, 1) := by decide +kernel
theorem dL_law_551 : decode cL_law 551 = .ok (.iaload, 1) := by decide +kernel
theorem dL_law_552 : decode cL_law 552 = .ok (.aload_n 0, 1) := by decide +kernel
theorem dL_law_553 : decode cL_law 553 = .ok (.iload_n 3, 1) := by decide +kernel
theorem dL_law_554 : decode cL_law 554 = .ok (.iconst 2, 1) := by decide +kernel
theorem dL_law_555 : decode cL_law 555 = .ok (.iadd, 1) := by decide +kernel
theorem dL_law_556 : decode cL_law 556 = .ok (.iaload, 1) := by decide +kernel
theorem dL_law_557 : decode cL_law 557 = .ok (.invokevirtual 57, 3) := by decide +kernel
theorem dL_law_560 : decode cL_law 560 = .ok (.aload_n 2, 1) := by decide +kernel
theorem dL_law_561 : decode cL_law 561 = .ok (.aload_n 0, 1) := by decide +kernel
theorem dL_law_562 : decode cL_law 562 = .ok (.iload_n 3, 1) := by decide +kernel
theorem dL_law_563 : decode cL_law 563 = .ok (.iconst 1, 1) := by decide +kernel
theorem dL_law_564 : decode cL_law 564 = .ok (.iadd, 1) := by decide +kernel
theorem dL_law_565 : decode cL_law 565 = .ok (.iaload, 1) := by decide +kernel
theorem dL_law_566 : decode cL_law 566 = .ok (.aload_n 0, 1) := by decide +kernel
theorem dL_law_567 : decode cL_law 567 = .ok (.iload_n 3, 1) := by decide +kernel
theorem dL_law_568 : decode cL_law 568 = .ok (.iconst 2, 1) := by decide +kernel
theorem dL_law_569 : decode cL_law 569 = .ok (.iadd, 1) := by decide +kernel
theorem dL_law_570 : decode cL_law 570 = .ok (.iaload, 1) := by decide +kernel
theorem dL_law_571 : decode cL_law 571 = .ok (.invokevirtual 60, 3) := by decide +kernel
theorem dL_law_574 : decode cL_law 574 = .ok (.if_icmp .eq 183, 3) := by decide +kernel
theorem dL_law_577 : decode cL_law 577 = .ok (.iconst 0, 1) := by decide +kernel
theorem dL_law_578 : decode cL_law 578 = .ok (.ireturn, 1) := by decide +kernel
theorem dL_law_579 : decode cL_law 579 = .ok (.aload_n 1, 1) := by decide +kernel
theorem dL_law_580 : decode cL_law 580 = .ok (.aload_n 0, 1) := by decide +kernel
theorem dL_law_581 : decode cL_law 581 = .ok (.iload_n 3, 1) := by decide +kernel
theorem dL_law_582 : decode cL_law 582 = .ok (.iconst 1, 1) := by decide +kernel
theorem dL_law_583 : decode cL_law 583 = .ok (.iadd, 1) := by decide +kernel
theorem dL_law_584 : decode cL_law 584 = .ok (.iaload, 1) := by decide +kernel
theorem dL_law_585 : decode cL_law 585 = .ok (.aload_n 0, 1) := by decide +kernel
theorem dL_law_586 : decode cL_law 586 = .ok (.iload_n 3, 1) := by decide +kernel
theorem dL_law_587 : decode cL_law 587 = .ok (.iconst 2, 1) := by decide +kernel
theorem dL_law_588 : decode cL_law 588 = .ok (.iadd, 1) := by decide +kernel
theorem dL_law_589 : decode cL_law 589 = .ok (.iaload, 1) := by decide +kernel
theorem dL_law_590 : decode cL_law 590 = .ok (.invokevirtual 61, 3) := by decide +kernel
theorem dL_law_593 : decode cL_law 593 = .ok (.aload_n 2, 1) := by decide +kernel
theorem dL_law_594 : decode cL_law 594 = .ok (.aload_n 0, 1) := by decide +kernel
theorem dL_law_595 : decode cL_law 595 = .ok (.iload_n 3, 1) := by decide +kernel
theorem dL_law_596 : decode cL_law 596 = .ok (.iconst 1, 1) := by decide +kernel
theorem dL_law_597 : decode cL_law 597 = .ok (.iadd, 1) := by decide +kernel
theorem dL_law_598 : decode cL_law 598 = .ok (.iaload, 1) := by decide +kernel
theorem dL_law_599 : decode cL_law 599 = .ok (.aload_n 0, 1) := by decide +kernel
theorem dL_law_600 : decode cL_law 600 = .ok (.iload_n 3, 1) := by decide +kernel
theorem dL_law_601 : decode cL_law 601 = .ok (.iconst 2, 1) := by decide +kernel
theorem dL_law_602 : decode cL_law 602 = .ok (.iadd, 1) := by decide +kernel
theorem dL_law_603 : decode cL_law 603 = .ok (.iaload, 1) := by decide +kernel
theorem dL_law_604 : decode cL_law 604 = .ok (.invokevirtual 64, 3) := by decide +kernel
theorem dL_law_607 : decode cL_law 607 = .ok (.if_icmp .eq 150, 3) := by decide +kernel
theorem dL_law_610 : decode cL_law 610 = .ok (.iconst 0, 1) := by decide +kernel
theorem dL_law_611 : decode cL_law 611 = .ok (.ireturn, 1) := by decide +kernel
theorem dL_law_612 : decode cL_law 612 = .ok (.aload_n 1, 1) := by decide +kernel
theorem dL_law_613 : decode cL_law 613 = .ok (.aload_n 0, 1) := by decide +kernel
theorem dL_law_614 : decode cL_law 614 = .ok (.iload_n 3, 1) := by decide +kernel
theorem dL_law_615 : decode cL_law 615 = .ok (.iconst 1, 1) := by decide +kernel
theorem dL_law_616 : decode cL_law 616 = .ok (.iadd, 1) := by decide +kernel
theorem dL_law_617 : decode cL_law 617 = .ok (.iaload, 1) := by decide +kernel
theorem dL_law_618 : decode cL_law 618 = .ok (.aload_n 0, 1) := by decide +kernel
theorem dL_law_619 : decode cL_law 619 = .ok (.iload_n 3, 1) := by decide +kernel
theorem dL_law_620 : decode cL_law 620 = .ok (.iconst 2, 1) := by decide +kernel
theorem dL_law_621 : decode cL_law 621 = .ok (.iadd, 1) := by decide +kernel
theorem dL_law_622 : decode cL_law 622 = .ok (.iaload, 1) := by decide +kernel
theorem dL_law_623 : decode cL_law 623 = .ok (.invokevirtual 65, 3) := by decide +kernel
theorem dL_law_626 : decode cL_law 626 = .ok (.aload_n 2, 1) := by decide +kernel
theorem dL_law_627 : decode cL_law 627 = .ok (.aload_n 0, 1) := by decide +kernel
theorem dL_law_628 : decode cL_law 628 = .ok (.iload_n 3, 1) := by decide +kernel
theorem dL_law_629 : decode cL_law 629 = .ok (.iconst 1, 1) := by decide +kernel
theorem dL_law_630 : decode cL_law 630 = .ok (.iadd, 1) := by decide +kernel
theorem dL_law_631 : decode cL_law 631 = .ok (.iaload, 1) := by decide +kernel
theorem dL_law_632 : decode cL_law 632 = .ok (.aload_n 0, 1) := by decide +kernel
theorem dL_law_633 : decode cL_law 633 = .ok (.iload_n 3, 1) := by decide +kernel
theorem dL_law_634 : decode cL_law 634 = .ok (.iconst 2, 1) := by decide +kernel
theorem dL_law_635 : decode cL_law 635 = .ok (.iadd, 1) := by decide +kernel
theorem dL_law_636 : decode cL_law 636 = .ok (.iaload, 1) := by decide +kernel
theorem dL_law_637 : decode cL_law 637 = .ok (.invokevirtual 68, 3) := by decide +kernel
theorem dL_law_640 : decode cL_law 640 = .ok (.if_icmp .eq 117, 3) := by decide +kernel
theorem dL_law_643 : decode cL_law 643 = .ok (.iconst 0, 1) := by decide +kernel
theorem dL_law_644 : decode cL_law 644 = .ok (.ireturn, 1) := by decide +kernel
theorem dL_law_645 : decode cL_law 645 = .ok (.aload_n 1, 1) := by decide +kernel
theorem dL_law_646 : decode cL_law 646 = .ok (.aload_n 0, 1) := by decide +kernel
theorem dL_law_647 : decode cL_law 647 = .ok (.iload_n 3, 1) := by decide +kernel
theorem dL_law_648 : decode cL_law 648 = .ok (.iconst 1, 1) := by decide +kernel
theorem dL_law_649 : decode cL_law 649 = .ok (.iadd, 1) := by decide +kernel
theorem dL_law_650 : decode cL_law 650 = .ok (.iaload, 1) := by decide +kernel
theorem dL_law_651 : decode cL_law 651 = .ok (.aload_n 0, 1) := by decide +kernel
theorem dL_law_652 : decode cL_law 652 = .ok (.iload_n 3, 1) := by decide +kernel
theorem dL_law_653 : decode cL_law 653 = .ok (.iconst 2, 1) := by decide +kernel
theorem dL_law_654 : decode cL_law 654 = .ok (.iadd, 1) := by decide +kernel
theorem dL_law_655 : decode cL_law 655 = .ok (.iaload, 1) := by decide +kernel
theorem dL_law_656 : decode cL_law 656 = .ok (.aload_n 0, 1) := by decide +kernel
theorem dL_law_657 : decode cL_law 657 = .ok (.iload_n 3, 1) := by decide +kernel
theorem dL_law_658 : decode cL_law 658 = .ok (.iconst 3, 1) := by decide +kernel
theorem dL_law_659 : decode cL_law 659 = .ok (.iadd, 1) := by decide +kernel
theorem dL_law_660 : decode cL_law 660 = .ok (.iaload, 1) := by decide +kernel
theorem dL_law_661 : decode cL_law 661 = .ok (.invokevirtual 69, 3) := by decide +kernel
theorem dL_law_664 : decode cL_law 664 = .ok (.aload_n 2, 1) := by decide +kernel
theorem dL_law_665 : decode cL_law 665 = .ok (.aload_n 0, 1) := by decide +kernel
theorem dL_law_666 : decode cL_law 666 = .ok (.iload_n 3, 1) := by decide +kernel
theorem dL_law_667 : decode cL_law 667 = .ok (.iconst 1, 1) := by decide +kernel
theorem dL_law_668 : decode cL_law 668 = .ok (.iadd, 1) := by decide +kernel
theorem dL_law_669 : decode cL_law 669 = .ok (.iaload, 1) := by decide +kernel
theorem dL_law_670 : decode cL_law 670 = .ok (.aload_n 0, 1) := by decide +kernel
theorem dL_law_671 : decode cL_law 671 = .ok (.iload_n 3, 1) := by decide +kernel
theorem dL_law_672 : decode cL_law 672 = .ok (.iconst 2, 1) := by decide +kernel
theorem dL_law_673 : decode cL_law 673 = .ok (.iadd, 1) := by decide +kernel
theorem dL_law_674 : decode cL_law 674 = .ok (.iaload, 1) := by decide +kernel
theorem dL_law_675 : decode cL_law 675 = .ok (.aload_n 0, 1) := by decide +kernel
theorem dL_law_676 : decode cL_law 676 = .ok (.iload_n 3, 1) := by decide +kernel
theorem dL_law_677 : decode cL_law 677 = .ok (.iconst 3, 1) := by decide +kernel
theorem dL_law_678 : decode cL_law 678 = .ok (.iadd, 1) := by decide +kernel
theorem dL_law_679 : decode cL_law 679 = .ok (.iaload, 1) := by decide +kernel
theorem dL_law_680 : decode cL_law 680 = .ok (.invokevirtual 72, 3) := by decide +kernel
theorem dL_law_683 : decode cL_law 683 = .ok (.if_icmp .eq 74, 3) := by decide +kernel
theorem dL_law_686 : decode cL_law 686 = .ok (.iconst 0, 1) := by decide +kernel
theorem dL_law_687 : decode cL_law 687 = .ok (.ireturn, 1) := by decide +kernel
theorem dL_law_688 : decode cL_law 688 = .ok (.aload_n 1, 1) := by decide +kernel
theorem dL_law_689 : decode cL_law 689 = .ok (.aload_n 0, 1) := by decide +kernel
theorem dL_law_690 : decode cL_law 690 = .ok (.iload_n 3, 1) := by decide +kernel
theorem dL_law_691 : decode cL_law 691 = .ok (.iconst 1, 1) := by decide +kernel
theorem dL_law_692 : decode cL_law 692 = .ok (.iadd, 1) := by decide +kernel
theorem dL_law_693 : decode cL_law 693 = .ok (.iaload, 1) := by decide +kernel
theorem dL_law_694 : decode cL_law 694 = .ok (.invokevirtual 73, 3) := by decide +kernel
theorem dL_law_697 : decode cL_law 697 = .ok (.aload_n 2, 1) := by decide +kernel
theorem dL_law_698 : decode cL_law 698 = .ok (.aload_n 0, 1) := by decide +kernel
theorem dL_law_699 : decode cL_law 699 = .ok (.iload_n 3, 1) := by decide +kernel
theorem dL_law_700 : decode cL_law 700 = .ok (.iconst 1, 1) := by decide +kernel
theorem dL_law_701 : decode cL_law 701 = .ok (.iadd, 1) := by decide +kernel
theorem dL_law_702 : decode cL_law 702 = .ok (.iaload, 1) := by decide +kernel
theorem dL_law_703 : decode cL_law 703 = .ok (.invokevirtual 76, 3) := by decide +kernel
theorem dL_law_706 : decode cL_law 706 = .ok (.if_icmp .eq 51, 3) := by decide +kernel
theorem dL_law_709 : decode cL_law 709 = .ok (.iconst 0, 1) := by decide +kernel
theorem dL_law_710 : decode cL_law 710 = .ok (.ireturn, 1) := by decide +kernel
theorem dL_law_711 : decode cL_law 711 = .ok (.aload_n 1, 1) := by decide +kernel
theorem dL_law_712 : decode cL_law 712 = .ok (.aload_n 0, 1) := by decide +kernel
theorem dL_law_713 : decode cL_law 713 = .ok (.iload_n 3, 1) := by decide +kernel
theorem dL_law_714 : decode cL_law 714 = .ok (.iconst 1, 1) := by decide +kernel
theorem dL_law_715 : decode cL_law 715 = .ok (.iadd, 1) := by decide +kernel
theorem dL_law_716 : decode cL_law 716 = .ok (.iaload, 1) := by decide +kernel
theorem dL_law_717 : decode cL_law 717 = .ok (.invokevirtual 77, 3) := by decide +kernel
theorem dL_law_720 : decode cL_law 720 = .ok (.aload_n 2, 1) := by decide +kernel
theorem dL_law_721 : decode cL_law 721 = .ok (.aload_n 0, 1) := by decide +kernel
theorem dL_law_722 : decode cL_law 722 = .ok (.iload_n 3, 1) := by decide +kernel
theorem dL_law_723 : decode cL_law 723 = .ok (.iconst 1, 1) := by decide +kernel
theorem dL_law_724 : decode cL_law 724 = .ok (.iadd, 1) := by decide +kernel
theorem dL_law_725 : decode cL_law 725 = .ok (.iaload, 1) := by decide +kernel
theorem dL_law_726 : decode cL_law 726 = .ok (.invokevirtual 80, 3) := by decide +kernel
theorem dL_law_729 : decode cL_law 729 = .ok (.if_icmp .eq 28, 3) := by decide +kernel
theorem dL_law_732 : decode cL_law 732 = .ok (.iconst 0, 1) := by decide +kernel
theorem dL_law_733 : decode cL_law 733 = .ok (.ireturn, 1) := by decide +kernel
theorem dL_law_734 : decode cL_law 734 = .ok (.aload_n 1, 1) := by decide +kernel
theorem dL_law_735 : decode cL_law 735 = .ok (.aload_n 0, 1) := by decide +kernel
theorem dL_law_736 : decode cL_law 736 = .ok (.iload_n 3, 1) := by decide +kernel
theorem dL_law_737 : decode cL_law 737 = .ok (.iconst 1, 1) := by decide +kernel
theorem dL_law_738 : decode cL_law 738 = .ok (.iadd, 1) := by decide +kernel
theorem dL_law_739 : decode cL_law 739 = .ok (.iaload, 1) := by decide +kernel
theorem dL_law_740 : decode cL_law 740 = .ok (.invokevirtual 81, 3) := by decide +kernel
theorem dL_law_743 : decode cL_law 743 = .ok (.aload_n 2, 1) := by decide +kernel
theorem dL_law_744 : decode cL_law 744 = .ok (.aload_n 0, 1) := by decide +kernel
theorem dL_law_745 : decode cL_law 745 = .ok (.iload_n 3, 1) := by decide +kernel
theorem dL_law_746 : decode cL_law 746 = .ok (.iconst 1, 1) := by decide +kernel
theorem dL_law_747 : decode cL_law 747 = .ok (.iadd, 1) := by decide +kernel
theorem dL_law_748 : decode cL_law 748 = .ok (.iaload, 1) := by decide +kernel
theorem dL_law_749 : decode cL_law 749 = .ok (.invokevirtual 84, 3) := by decide +kernel
theorem dL_law_752 : decode cL_law 752 = .ok (.if_icmp .eq 5, 3) := by decide +kernel
theorem dL_law_755 : decode cL_law 755 = .ok (.iconst 0, 1) := by decide +kernel
theorem dL_law_756 : decode cL_law 756 = .ok (.ireturn, 1) := by decide +kernel
theorem dL_law_757 : decode cL_law 757 = .ok (.iinc 3 5, 3) := by decide +kernel
theorem dL_law_760 : decode cL_law 760 = .ok (.goto (-742), 3) := by decide +kernel
theorem dL_law_763 : decode cL_law 763 = .ok (.iconst 1, 1) := by decide +kernel
theorem dL_law_764 : decode cL_law 764 = .ok (.ireturn, 1) := by decide +kernel
