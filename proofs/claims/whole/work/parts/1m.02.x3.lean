theorem dX8_in_0 : decode cX8_in 0 = .ok (.iload_n 0, 1) := by decide +kernel
theorem dX8_in_1 : decode cX8_in 1 = .ok (.iload_n 1, 1) := by decide +kernel
theorem dX8_in_2 : decode cX8_in 2 = .ok (.if_icmp .lt 12, 3) := by decide +kernel
theorem dX8_in_5 : decode cX8_in 5 = .ok (.iload_n 0, 1) := by decide +kernel
theorem dX8_in_6 : decode cX8_in 6 = .ok (.iload_n 2, 1) := by decide +kernel
theorem dX8_in_7 : decode cX8_in 7 = .ok (.if_icmp .gt 7, 3) := by decide +kernel
theorem dX8_in_10 : decode cX8_in 10 = .ok (.iconst 1, 1) := by decide +kernel
theorem dX8_in_11 : decode cX8_in 11 = .ok (.goto 4, 3) := by decide +kernel
theorem dX8_in_14 : decode cX8_in 14 = .ok (.iconst 0, 1) := by decide +kernel
theorem dX8_in_15 : decode cX8_in 15 = .ok (.ireturn, 1) := by decide +kernel
theorem dX8_init_0 : decode cX8_init 0 = .ok (.aload_n 0, 1) := by decide +kernel
theorem dX8_init_1 : decode cX8_init 1 = .ok (.invokespecial 1, 3) := by decide +kernel
theorem dX8_init_4 : decode cX8_init 4 = .ok (.aload_n 0, 1) := by decide +kernel
theorem dX8_init_5 : decode cX8_init 5 = .ok (.sipush 2048, 3) := by decide +kernel
theorem dX8_init_8 : decode cX8_init 8 = .ok (.newarray .int, 2) := by decide +kernel
theorem dX8_init_10 : decode cX8_init 10 = .ok (.putfield 7, 3) := by decide +kernel
theorem dX8_init_13 : decode cX8_init 13 = .ok (.aload_n 0, 1) := by decide +kernel
theorem dX8_init_14 : decode cX8_init 14 = .ok (.iconst 1, 1) := by decide +kernel
theorem dX8_init_15 : decode cX8_init 15 = .ok (.putfield 13, 3) := by decide +kernel
theorem dX8_init_18 : decode cX8_init 18 = .ok (.aload_n 0, 1) := by decide +kernel
theorem dX8_init_19 : decode cX8_init 19 = .ok (.bipush 48, 2) := by decide +kernel
theorem dX8_init_21 : decode cX8_init 21 = .ok (.newarray .int, 2) := by decide +kernel
theorem dX8_init_23 : decode cX8_init 23 = .ok (.putfield 17, 3) := by decide +kernel
theorem dX8_init_26 : decode cX8_init 26 = .ok (.aload_n 0, 1) := by decide +kernel
theorem dX8_init_27 : decode cX8_init 27 = .ok (.sipush 384, 3) := by decide +kernel
theorem dX8_init_30 : decode cX8_init 30 = .ok (.newarray .int, 2) := by decide +kernel
theorem dX8_init_32 : decode cX8_init 32 = .ok (.putfield 20, 3) := by decide +kernel
theorem dX8_init_35 : decode cX8_init 35 = .ok (.aload_n 0, 1) := by decide +kernel
theorem dX8_init_36 : decode cX8_init 36 = .ok (.bipush 48, 2) := by decide +kernel
theorem dX8_init_38 : decode cX8_init 38 = .ok (.newarray .int, 2) := by decide +kernel
theorem dX8_init_40 : decode cX8_init 40 = .ok (.putfield 23, 3) := by decide +kernel
theorem dX8_init_43 : decode cX8_init 43 = .ok (.aload_n 0, 1) := by decide +kernel
theorem dX8_init_44 : decode cX8_init 44 = .ok (.bipush 8, 2) := by decide +kernel
theorem dX8_init_46 : decode cX8_init 46 = .ok (.newarray .int, 2) := by decide +kernel
theorem dX8_init_48 : decode cX8_init 48 = .ok (.putfield 26, 3) := by decide +kernel
theorem dX8_init_51 : decode cX8_init 51 = .ok (.aload_n 0, 1) := by decide +kernel
theorem dX8_init_52 : decode cX8_init 52 = .ok (.bipush 8, 2) := by decide +kernel
theorem dX8_init_54 : decode cX8_init 54 = .ok (.newarray .int, 2) := by decide +kernel
theorem dX8_init_56 : decode cX8_init 56 = .ok (.putfield 29, 3) := by decide +kernel
theorem dX8_init_59 : decode cX8_init 59 = .ok (.aload_n 0, 1) := by decide +kernel
theorem dX8_init_60 : decode cX8_init 60 = .ok (.bipush 32, 2) := by decide +kernel
theorem dX8_init_62 : decode cX8_init 62 = .ok (.newarray .int, 2) := by decide +kernel
theorem dX8_init_64 : decode cX8_init 64 = .ok (.putfield 32, 3) := by decide +kernel
theorem dX8_init_67 : decode cX8_init 67 = .ok (.aload_n 0, 1) := by decide +kernel
theorem dX8_init_68 : decode cX8_init 68 = .ok (.bipush 32, 2) := by decide +kernel
theorem dX8_init_70 : decode cX8_init 70 = .ok (.newarray .int, 2) := by decide +kernel
theorem dX8_init_72 : decode cX8_init 72 = .ok (.putfield 35, 3) := by decide +kernel
theorem dX8_init_75 : decode cX8_init 75 = .ok (.aload_n 0, 1) := by decide +kernel
theorem dX8_init_76 : decode cX8_init 76 = .ok (.bipush 32, 2) := by decide +kernel
theorem dX8_init_78 : decode cX8_init 78 = .ok (.newarray .boolean, 2) := by decide +kernel
theorem dX8_init_80 : decode cX8_init 80 = .ok (.putfield 38, 3) := by decide +kernel
theorem dX8_init_83 : decode cX8_init 83 = .ok (.aload_n 0, 1) := by decide +kernel
theorem dX8_init_84 : decode cX8_init 84 = .ok (.sipush 800, 3) := by decide +kernel
theorem dX8_init_87 : decode cX8_init 87 = .ok (.newarray .int, 2) := by decide +kernel
theorem dX8_init_89 : decode cX8_init 89 = .ok (.putfield 42, 3) := by decide +kernel
theorem dX8_init_92 : decode cX8_init 92 = .ok (.aload_n 0, 1) := by decide +kernel
theorem dX8_init_93 : decode cX8_init 93 = .ok (.sipush 800, 3) := by decide +kernel
theorem dX8_init_96 : decode cX8_init 96 = .ok (.newarray .int, 2) := by decide +kernel
theorem dX8_init_98 : decode cX8_init 98 = .ok (.putfield 45, 3) := by decide +kernel
theorem dX8_init_101 : decode cX8_init 101 = .ok (.aload_n 0, 1) := by decide +kernel
theorem dX8_init_102 : decode cX8_init 102 = .ok (.sipush 800, 3) := by decide +kernel
theorem dX8_init_105 : decode cX8_init 105 = .ok (.newarray .int, 2) := by decide +kernel
theorem dX8_init_107 : decode cX8_init 107 = .ok (.putfield 48, 3) := by decide +kernel
theorem dX8_init_110 : decode cX8_init 110 = .ok (.aload_n 0, 1) := by decide +kernel
theorem dX8_init_111 : decode cX8_init 111 = .ok (.sipush 800, 3) := by decide +kernel
theorem dX8_init_114 : decode cX8_init 114 = .ok (.newarray .int, 2) := by decide +kernel
theorem dX8_init_116 : decode cX8_init 116 = .ok (.putfield 51, 3) := by decide +kernel
theorem dX8_init_119 : decode cX8_init 119 = .ok (.aload_n 0, 1) := by decide +kernel
theorem dX8_init_120 : decode cX8_init 120 = .ok (.sipush 800, 3) := by decide +kernel
theorem dX8_init_123 : decode cX8_init 123 = .ok (.newarray .int, 2) := by decide +kernel
theorem dX8_init_125 : decode cX8_init 125 = .ok (.putfield 54, 3) := by decide +kernel
theorem dX8_init_128 : decode cX8_init 128 = .ok (.aload_n 0, 1) := by decide +kernel
theorem dX8_init_129 : decode cX8_init 129 = .ok (.sipush 4096, 3) := by decide +kernel
theorem dX8_init_132 : decode cX8_init 132 = .ok (.newarray .int, 2) := by decide +kernel
theorem dX8_init_134 : decode cX8_init 134 = .ok (.putfield 57, 3) := by decide +kernel
theorem dX8_init_137 : decode cX8_init 137 = .ok (.aload_n 0, 1) := by decide +kernel
theorem dX8_init_138 : decode cX8_init 138 = .ok (.iconst 2, 1) := by decide +kernel
theorem dX8_init_139 : decode cX8_init 139 = .ok (.newarray .int, 2) := by decide +kernel
theorem dX8_init_141 : decode cX8_init 141 = .ok (.putfield 60, 3) := by decide +kernel
theorem dX8_init_144 : decode cX8_init 144 = .ok (.aload_n 0, 1) := by decide +kernel
theorem dX8_init_145 : decode cX8_init 145 = .ok (.iconst 2, 1) := by decide +kernel
theorem dX8_init_146 : decode cX8_init 146 = .ok (.newarray .int, 2) := by decide +kernel
theorem dX8_init_148 : decode cX8_init 148 = .ok (.putfield 63, 3) := by decide +kernel
theorem dX8_init_151 : decode cX8_init 151 = .ok (.aload_n 0, 1) := by decide +kernel
theorem dX8_init_152 : decode cX8_init 152 = .ok (.bipush 120, 2) := by decide +kernel
theorem dX8_init_154 : decode cX8_init 154 = .ok (.newarray .int, 2) := by decide +kernel
theorem dX8_init_156 : decode cX8_init 156 = .ok (.putfield 66, 3) := by decide +kernel
theorem dX8_init_159 : decode cX8_init 159 = .ok (.aload_n 0, 1) := by decide +kernel
theorem dX8_init_160 : decode cX8_init 160 = .ok (.getfield 7, 3) := by decide +kernel
theorem dX8_init_163 : decode cX8_init 163 = .ok (.iconst 0, 1) := by decide +kernel
theorem dX8_init_164 : decode cX8_init 164 = .ok (.iconst 1, 1) := by decide +kernel
theorem dX8_init_165 : decode cX8_init 165 = .ok (.iastore, 1) := by decide +kernel
theorem dX8_init_166 : decode cX8_init 166 = .ok (.return_, 1) := by decide +kernel
theorem dX8_at_0 : decode cX8_at 0 = .ok (.aload_n 0, 1) := by decide +kernel
theorem dX8_at_1 : decode cX8_at 1 = .ok (.getfield 7, 3) := by decide +kernel
theorem dX8_at_4 : decode cX8_at 4 = .ok (.bipush 64, 2) := by decide +kernel
theorem dX8_at_6 : decode cX8_at 6 = .ok (.iload_n 1, 1) := by decide +kernel
theorem dX8_at_7 : decode cX8_at 7 = .ok (.imul, 1) := by decide +kernel
theorem dX8_at_8 : decode cX8_at 8 = .ok (.iload_n 2, 1) := by decide +kernel
theorem dX8_at_9 : decode cX8_at 9 = .ok (.iadd, 1) := by decide +kernel
theorem dX8_at_10 : decode cX8_at 10 = .ok (.iaload, 1) := by decide +kernel
theorem dX8_at_11 : decode cX8_at 11 = .ok (.ireturn, 1) := by decide +kernel
theorem dX8_clears_0 : decode cX8_clears 0 = .ok (.iconst 0, 1) := by decide +kernel
theorem dX8_clears_1 : decode cX8_clears 1 = .ok (.istore_n 2, 1) := by decide +kernel
theorem dX8_clears_2 : decode cX8_clears 2 = .ok (.iload_n 2, 1) := by decide +kernel
theorem dX8_clears_3 : decode cX8_clears 3 = .ok (.bipush 64, 2) := by decide +kernel
theorem dX8_clears_5 : decode cX8_clears 5 = .ok (.if_icmp .ge 21, 3) := by decide +kernel
theorem dX8_clears_8 : decode cX8_clears 8 = .ok (.aload_n 0, 1) := by decide +kernel
theorem dX8_clears_9 : decode cX8_clears 9 = .ok (.getfield 7, 3) := by decide +kernel
theorem dX8_clears_12 : decode cX8_clears 12 = .ok (.bipush 64, 2) := by decide +kernel
theorem dX8_clears_14 : decode cX8_clears 14 = .ok (.iload_n 1, 1) := by decide +kernel
theorem dX8_clears_15 : decode cX8_clears 15 = .ok (.imul, 1) := by decide +kernel
theorem dX8_clears_16 : decode cX8_clears 16 = .ok (.iload_n 2, 1) := by decide +kernel
theorem dX8_clears_17 : decode cX8_clears 17 = .ok (.iadd, 1) := by decide +kernel
theorem dX8_clears_18 : decode cX8_clears 18 = .ok (.iconst 0, 1) := by decide +kernel
theorem dX8_clears_19 : decode cX8_clears 19 = .ok (.iastore, 1) := by decide +kernel
theorem dX8_clears_20 : decode cX8_clears 20 = .ok (.iinc 2 1, 3) := by decide +kernel
theorem dX8_clears_23 : decode cX8_clears 23 = .ok (.goto (-21), 3) := by decide +kernel
theorem dX8_clears_26 : decode cX8_clears 26 = .ok (.return_, 1) := by decide +kernel
theorem dX8_lowestFree_0 : decode cX8_lowestFree 0 = .ok (.iconst 0, 1) := by decide +kernel
theorem dX8_lowestFree_1 : decode cX8_lowestFree 1 = .ok (.istore_n 1, 1) := by decide +kernel
theorem dX8_lowestFree_2 : decode cX8_lowestFree 2 = .ok (.aload_n 0, 1) := by decide +kernel
theorem dX8_lowestFree_3 : decode cX8_lowestFree 3 = .ok (.iload_n 1, 1) := by decide +kernel
theorem dX8_lowestFree_4 : decode cX8_lowestFree 4 = .ok (.iconst 0, 1) := by decide +kernel
theorem dX8_lowestFree_5 : decode cX8_lowestFree 5 = .ok (.invokevirtual 69, 3) := by decide +kernel
theorem dX8_lowestFree_8 : decode cX8_lowestFree 8 = .ok (.ifCond .eq 9, 3) := by decide +kernel
theorem dX8_lowestFree_11 : decode cX8_lowestFree 11 = .ok (.iinc 1 1, 3) := by decide +kernel
theorem dX8_lowestFree_14 : decode cX8_lowestFree 14 = .ok (.goto (-12), 3) := by decide +kernel
theorem dX8_lowestFree_17 : decode cX8_lowestFree 17 = .ok (.iload_n 1, 1) := by decide +kernel
theorem dX8_lowestFree_18 : decode cX8_lowestFree 18 = .ok (.ireturn, 1) := by decide +kernel
theorem dX8_freeMany_0 : decode cX8_freeMany 0 = .ok (.iconst 0, 1) := by decide +kernel
theorem dX8_freeMany_1 : decode cX8_freeMany 1 = .ok (.istore_n 1, 1) := by decide +kernel
theorem dX8_freeMany_2 : decode cX8_freeMany 2 = .ok (.iconst 0, 1) := by decide +kernel
theorem dX8_freeMany_3 : decode cX8_freeMany 3 = .ok (.istore_n 2, 1) := by decide +kernel
theorem dX8_freeMany_4 : decode cX8_freeMany 4 = .ok (.iload_n 2, 1) := by decide +kernel
theorem dX8_freeMany_5 : decode cX8_freeMany 5 = .ok (.bipush 32, 2) := by decide +kernel
theorem dX8_freeMany_7 : decode cX8_freeMany 7 = .ok (.if_icmp .ge 26, 3) := by decide +kernel
theorem dX8_freeMany_10 : decode cX8_freeMany 10 = .ok (.iload_n 1, 1) := by decide +kernel
theorem dX8_freeMany_11 : decode cX8_freeMany 11 = .ok (.aload_n 0, 1) := by decide +kernel
theorem dX8_freeMany_12 : decode cX8_freeMany 12 = .ok (.iload_n 2, 1) := by decide +kernel
theorem dX8_freeMany_13 : decode cX8_freeMany 13 = .ok (.iconst 0, 1) := by decide +kernel
theorem dX8_freeMany_14 : decode cX8_freeMany 14 = .ok (.invokevirtual 69, 3) := by decide +kernel
theorem dX8_freeMany_17 : decode cX8_freeMany 17 = .ok (.ifCond .ne 7, 3) := by decide +kernel
theorem dX8_freeMany_20 : decode cX8_freeMany 20 = .ok (.iconst 1, 1) := by decide +kernel
theorem dX8_freeMany_21 : decode cX8_freeMany 21 = .ok (.goto 4, 3) := by decide +kernel
theorem dX8_freeMany_24 : decode cX8_freeMany 24 = .ok (.iconst 0, 1) := by decide +kernel
theorem dX8_freeMany_25 : decode cX8_freeMany 25 = .ok (.iadd, 1) := by decide +kernel
theorem dX8_freeMany_26 : decode cX8_freeMany 26 = .ok (.istore_n 1, 1) := by decide +kernel
theorem dX8_freeMany_27 : decode cX8_freeMany 27 = .ok (.iinc 2 1, 3) := by decide +kernel
theorem dX8_freeMany_30 : decode cX8_freeMany 30 = .ok (.goto (-26), 3) := by decide +kernel
theorem dX8_freeMany_33 : decode cX8_freeMany 33 = .ok (.iload_n 1, 1) := by decide +kernel
theorem dX8_freeMany_34 : decode cX8_freeMany 34 = .ok (.ireturn, 1) := by decide +kernel
theorem dX8_startOf_0 : decode cX8_startOf 0 = .ok (.iconst 3, 1) := by decide +kernel
theorem dX8_startOf_1 : decode cX8_startOf 1 = .ok (.istore_n 3, 1) := by decide +kernel
theorem dX8_startOf_2 : decode cX8_startOf 2 = .ok (.iconst 0, 1) := by decide +kernel
theorem dX8_startOf_3 : decode cX8_startOf 3 = .ok (.istore 4, 2) := by decide +kernel
theorem dX8_startOf_5 : decode cX8_startOf 5 = .ok (.iload 4, 2) := by decide +kernel
theorem dX8_startOf_7 : decode cX8_startOf 7 = .ok (.iload_n 2, 1) := by decide +kernel
theorem dX8_startOf_8 : decode cX8_startOf 8 = .ok (.if_icmp .ge 20, 3) := by decide +kernel
theorem dX8_startOf_11 : decode cX8_startOf 11 = .ok (.iload_n 3, 1) := by decide +kernel
theorem dX8_startOf_12 : decode cX8_startOf 12 = .ok (.aload_n 0, 1) := by decide +kernel
theorem dX8_startOf_13 : decode cX8_startOf 13 = .ok (.iload_n 1, 1) := by decide +kernel
theorem dX8_startOf_14 : decode cX8_startOf 14 = .ok (.iload_n 3, 1) := by decide +kernel
theorem dX8_startOf_15 : decode cX8_startOf 15 = .ok (.invokevirtual 69, 3) := by decide +kernel
theorem dX8_startOf_18 : decode cX8_startOf 18 = .ok (.iconst 2, 1) := by decide +kernel
theorem dX8_startOf_19 : decode cX8_startOf 19 = .ok (.iadd, 1) := by decide +kernel
theorem dX8_startOf_20 : decode cX8_startOf 20 = .ok (.iadd, 1) := by decide +kernel
theorem dX8_startOf_21 : decode cX8_startOf 21 = .ok (.istore_n 3, 1) := by decide +kernel
theorem dX8_startOf_22 : decode cX8_startOf 22 = .ok (.iinc 4 1, 3) := by decide +kernel
theorem dX8_startOf_25 : decode cX8_startOf 25 = .ok (.goto (-20), 3) := by decide +kernel
theorem dX8_startOf_28 : decode cX8_startOf 28 = .ok (.iload_n 3, 1) := by decide +kernel
theorem dX8_startOf_29 : decode cX8_startOf 29 = .ok (.ireturn, 1) := by decide +kernel
theorem dX8_usedOf_0 : decode cX8_usedOf 0 = .ok (.aload_n 0, 1) := by decide +kernel
theorem dX8_usedOf_1 : decode cX8_usedOf 1 = .ok (.iload_n 1, 1) := by decide +kernel
theorem dX8_usedOf_2 : decode cX8_usedOf 2 = .ok (.iconst 0, 1) := by decide +kernel
theorem dX8_usedOf_3 : decode cX8_usedOf 3 = .ok (.invokevirtual 69, 3) := by decide +kernel
theorem dX8_usedOf_6 : decode cX8_usedOf 6 = .ok (.ifCond .ne 7, 3) := by decide +kernel
theorem dX8_usedOf_9 : decode cX8_usedOf 9 = .ok (.iconst 0, 1) := by decide +kernel
theorem dX8_usedOf_10 : decode cX8_usedOf 10 = .ok (.goto 14, 3) := by decide +kernel
theorem dX8_usedOf_13 : decode cX8_usedOf 13 = .ok (.aload_n 0, 1) := by decide +kernel
theorem dX8_usedOf_14 : decode cX8_usedOf 14 = .ok (.iload_n 1, 1) := by decide +kernel
theorem dX8_usedOf_15 : decode cX8_usedOf 15 = .ok (.aload_n 0, 1) := by decide +kernel
theorem dX8_usedOf_16 : decode cX8_usedOf 16 = .ok (.iload_n 1, 1) := by decide +kernel
theorem dX8_usedOf_17 : decode cX8_usedOf 17 = .ok (.iconst 1, 1) := by decide +kernel
theorem dX8_usedOf_18 : decode cX8_usedOf 18 = .ok (.invokevirtual 69, 3) := by decide +kernel
theorem dX8_usedOf_21 : decode cX8_usedOf 21 = .ok (.invokevirtual 73, 3) := by decide +kernel
theorem dX8_usedOf_24 : decode cX8_usedOf 24 = .ok (.ireturn, 1) := by decide +kernel
theorem dX8_childOf_0 : decode cX8_childOf 0 = .ok (.iload_n 2, 1) := by decide +kernel
theorem dX8_childOf_1 : decode cX8_childOf 1 = .ok (.ifCond .ne 10, 3) := by decide +kernel
theorem dX8_childOf_4 : decode cX8_childOf 4 = .ok (.aload_n 0, 1) := by decide +kernel
theorem dX8_childOf_5 : decode cX8_childOf 5 = .ok (.iload_n 1, 1) := by decide +kernel
theorem dX8_childOf_6 : decode cX8_childOf 6 = .ok (.iconst 2, 1) := by decide +kernel
theorem dX8_childOf_7 : decode cX8_childOf 7 = .ok (.invokevirtual 69, 3) := by decide +kernel
theorem dX8_childOf_10 : decode cX8_childOf 10 = .ok (.ireturn, 1) := by decide +kernel
theorem dX8_childOf_11 : decode cX8_childOf 11 = .ok (.aload_n 0, 1) := by decide +kernel
theorem dX8_childOf_12 : decode cX8_childOf 12 = .ok (.iload_n 1, 1) := by decide +kernel
theorem dX8_childOf_13 : decode cX8_childOf 13 = .ok (.iload_n 2, 1) := by decide +kernel
theorem dX8_childOf_14 : decode cX8_childOf 14 = .ok (.iconst 1, 1) := by decide +kernel
theorem dX8_childOf_15 : decode cX8_childOf 15 = .ok (.isub, 1) := by decide +kernel
theorem dX8_childOf_16 : decode cX8_childOf 16 = .ok (.invokevirtual 73, 3) := by decide +kernel
theorem dX8_childOf_19 : decode cX8_childOf 19 = .ok (.istore_n 3, 1) := by decide +kernel
theorem dX8_childOf_20 : decode cX8_childOf 20 = .ok (.aload_n 0, 1) := by decide +kernel
theorem dX8_childOf_21 : decode cX8_childOf 21 = .ok (.iload_n 1, 1) := by decide +kernel
theorem dX8_childOf_22 : decode cX8_childOf 22 = .ok (.iload_n 3, 1) := by decide +kernel
theorem dX8_childOf_23 : decode cX8_childOf 23 = .ok (.aload_n 0, 1) := by decide +kernel
theorem dX8_childOf_24 : decode cX8_childOf 24 = .ok (.iload_n 1, 1) := by decide +kernel
theorem dX8_childOf_25 : decode cX8_childOf 25 = .ok (.iload_n 3, 1) := by decide +kernel
theorem dX8_childOf_26 : decode cX8_childOf 26 = .ok (.invokevirtual 69, 3) := by decide +kernel
theorem dX8_childOf_29 : decode cX8_childOf 29 = .ok (.iadd, 1) := by decide +kernel
theorem dX8_childOf_30 : decode cX8_childOf 30 = .ok (.iconst 1, 1) := by decide +kernel
theorem dX8_childOf_31 : decode cX8_childOf 31 = .ok (.iadd, 1) := by decide +kernel
theorem dX8_childOf_32 : decode cX8_childOf 32 = .ok (.invokevirtual 69, 3) := by decide +kernel
theorem dX8_childOf_35 : decode cX8_childOf 35 = .ok (.ireturn, 1) := by decide +kernel
theorem dX8_bytesOf_0 : decode cX8_bytesOf 0 = .ok (.iconst 0, 1) := by decide +kernel
theorem dX8_bytesOf_1 : decode cX8_bytesOf 1 = .ok (.istore_n 3, 1) := by decide +kernel
theorem dX8_bytesOf_2 : decode cX8_bytesOf 2 = .ok (.iload_n 1, 1) := by decide +kernel
theorem dX8_bytesOf_3 : decode cX8_bytesOf 3 = .ok (.istore 4, 2) := by decide +kernel
theorem dX8_bytesOf_5 : decode cX8_bytesOf 5 = .ok (.iload 4, 2) := by decide +kernel
theorem dX8_bytesOf_7 : decode cX8_bytesOf 7 = .ok (.iload_n 2, 1) := by decide +kernel
theorem dX8_bytesOf_8 : decode cX8_bytesOf 8 = .ok (.if_icmp .ge 21, 3) := by decide +kernel
theorem dX8_bytesOf_11 : decode cX8_bytesOf 11 = .ok (.iload_n 3, 1) := by decide +kernel
theorem dX8_bytesOf_12 : decode cX8_bytesOf 12 = .ok (.aload_n 0, 1) := by decide +kernel
theorem dX8_bytesOf_13 : decode cX8_bytesOf 13 = .ok (.getfield 17, 3) := by decide +kernel
theorem dX8_bytesOf_16 : decode cX8_bytesOf 16 = .ok (.iload 4, 2) := by decide +kernel
theorem dX8_bytesOf_18 : decode cX8_bytesOf 18 = .ok (.iaload, 1) := by decide +kernel
theorem dX8_bytesOf_19 : decode cX8_bytesOf 19 = .ok (.iconst 2, 1) := by decide +kernel
theorem dX8_bytesOf_20 : decode cX8_bytesOf 20 = .ok (.iadd, 1) := by decide +kernel
theorem dX8_bytesOf_21 : decode cX8_bytesOf 21 = .ok (.iadd, 1) := by decide +kernel
theorem dX8_bytesOf_22 : decode cX8_bytesOf 22 = .ok (.istore_n 3, 1) := by decide +kernel
theorem dX8_bytesOf_23 : decode cX8_bytesOf 23 = .ok (.iinc 4 1, 3) := by decide +kernel
theorem dX8_bytesOf_26 : decode cX8_bytesOf 26 = .ok (.goto (-21), 3) := by decide +kernel
theorem dX8_bytesOf_29 : decode cX8_bytesOf 29 = .ok (.iload_n 3, 1) := by decide +kernel
theorem dX8_bytesOf_30 : decode cX8_bytesOf 30 = .ok (.ireturn, 1) := by decide +kernel
theorem dX8_comeOut_0 : decode cX8_comeOut 0 = .ok (.iconst 3, 1) := by decide +kernel
theorem dX8_comeOut_1 : decode cX8_comeOut 1 = .ok (.istore_n 2, 1) := by decide +kernel
theorem dX8_comeOut_2 : decode cX8_comeOut 2 = .ok (.iconst 0, 1) := by decide +kernel
theorem dX8_comeOut_3 : decode cX8_comeOut 3 = .ok (.istore_n 3, 1) := by decide +kernel
theorem dX8_comeOut_4 : decode cX8_comeOut 4 = .ok (.iload_n 3, 1) := by decide +kernel
theorem dX8_comeOut_5 : decode cX8_comeOut 5 = .ok (.aload_n 0, 1) := by decide +kernel
theorem dX8_comeOut_6 : decode cX8_comeOut 6 = .ok (.iload_n 1, 1) := by decide +kernel
theorem dX8_comeOut_7 : decode cX8_comeOut 7 = .ok (.iconst 1, 1) := by decide +kernel
theorem dX8_comeOut_8 : decode cX8_comeOut 8 = .ok (.invokevirtual 69, 3) := by decide +kernel
theorem dX8_comeOut_11 : decode cX8_comeOut 11 = .ok (.if_icmp .ge 107, 3) := by decide +kernel
theorem dX8_comeOut_14 : decode cX8_comeOut 14 = .ok (.aload_n 0, 1) := by decide +kernel
theorem dX8_comeOut_15 : decode cX8_comeOut 15 = .ok (.iload_n 1, 1) := by decide +kernel
theorem dX8_comeOut_16 : decode cX8_comeOut 16 = .ok (.iload_n 2, 1) := by decide +kernel
theorem dX8_comeOut_17 : decode cX8_comeOut 17 = .ok (.invokevirtual 69, 3) := by decide +kernel
theorem dX8_comeOut_20 : decode cX8_comeOut 20 = .ok (.istore 4, 2) := by decide +kernel
theorem dX8_comeOut_22 : decode cX8_comeOut 22 = .ok (.aload_n 0, 1) := by decide +kernel
theorem dX8_comeOut_23 : decode cX8_comeOut 23 = .ok (.getfield 17, 3) := by decide +kernel
theorem dX8_comeOut_26 : decode cX8_comeOut 26 = .ok (.aload_n 0, 1) := by decide +kernel
theorem dX8_comeOut_27 : decode cX8_comeOut 27 = .ok (.getfield 76, 3) := by decide +kernel
theorem dX8_comeOut_30 : decode cX8_comeOut 30 = .ok (.iload 4, 2) := by decide +kernel
theorem dX8_comeOut_32 : decode cX8_comeOut 32 = .ok (.iastore, 1) := by decide +kernel
theorem dX8_comeOut_33 : decode cX8_comeOut 33 = .ok (.iconst 0, 1) := by decide +kernel
theorem dX8_comeOut_34 : decode cX8_comeOut 34 = .ok (.istore 5, 2) := by decide +kernel
theorem dX8_comeOut_36 : decode cX8_comeOut 36 = .ok (.iload 5, 2) := by decide +kernel
theorem dX8_comeOut_38 : decode cX8_comeOut 38 = .ok (.iload 4, 2) := by decide +kernel
theorem dX8_comeOut_40 : decode cX8_comeOut 40 = .ok (.if_icmp .ge 35, 3) := by decide +kernel
theorem dX8_comeOut_43 : decode cX8_comeOut 43 = .ok (.aload_n 0, 1) := by decide +kernel
theorem dX8_comeOut_44 : decode cX8_comeOut 44 = .ok (.getfield 20, 3) := by decide +kernel
theorem dX8_comeOut_47 : decode cX8_comeOut 47 = .ok (.bipush 8, 2) := by decide +kernel
theorem dX8_comeOut_49 : decode cX8_comeOut 49 = .ok (.aload_n 0, 1) := by decide +kernel
theorem dX8_comeOut_50 : decode cX8_comeOut 50 = .ok (.getfield 76, 3) := by decide +kernel
theorem dX8_comeOut_53 : decode cX8_comeOut 53 = .ok (.imul, 1) := by decide +kernel
theorem dX8_comeOut_54 : decode cX8_comeOut 54 = .ok (.iload 5, 2) := by decide +kernel
theorem dX8_comeOut_56 : decode cX8_comeOut 56 = .ok (.iadd, 1) := by decide +kernel
theorem dX8_comeOut_57 : decode cX8_comeOut 57 = .ok (.aload_n 0, 1) := by decide +kernel
theorem dX8_comeOut_58 : decode cX8_comeOut 58 = .ok (.iload_n 1, 1) := by decide +kernel
theorem dX8_comeOut_59 : decode cX8_comeOut 59 = .ok (.iload_n 2, 1) := by decide +kernel
theorem dX8_comeOut_60 : decode cX8_comeOut 60 = .ok (.iconst 1, 1) := by decide +kernel
theorem dX8_comeOut_61 : decode cX8_comeOut 61 = .ok (.iadd, 1) := by decide +kernel
theorem dX8_comeOut_62 : decode cX8_comeOut 62 = .ok (.iload 5, 2) := by decide +kernel
theorem dX8_comeOut_64 : decode cX8_comeOut 64 = .ok (.iadd, 1) := by decide +kernel
theorem dX8_comeOut_65 : decode cX8_comeOut 65 = .ok (.invokevirtual 69, 3) := by decide +kernel
theorem dX8_comeOut_68 : decode cX8_comeOut 68 = .ok (.iastore, 1) := by decide +kernel
theorem dX8_comeOut_69 : decode cX8_comeOut 69 = .ok (.iinc 5 1, 3) := by decide +kernel
theorem dX8_comeOut_72 : decode cX8_comeOut 72 = .ok (.goto (-36), 3) := by decide +kernel
theorem dX8_comeOut_75 : decode cX8_comeOut 75 = .ok (.aload_n 0, 1) := by decide +kernel
theorem dX8_comeOut_76 : decode cX8_comeOut 76 = .ok (.getfield 23, 3) := by decide +kernel
theorem dX8_comeOut_79 : decode cX8_comeOut 79 = .ok (.aload_n 0, 1) := by decide +kernel
theorem dX8_comeOut_80 : decode cX8_comeOut 80 = .ok (.getfield 76, 3) := by decide +kernel
theorem dX8_comeOut_83 : decode cX8_comeOut 83 = .ok (.aload_n 0, 1) := by decide +kernel
theorem dX8_comeOut_84 : decode cX8_comeOut 84 = .ok (.iload_n 1, 1) := by decide +kernel
theorem dX8_comeOut_85 : decode cX8_comeOut 85 = .ok (.iload_n 2, 1) := by decide +kernel
theorem dX8_comeOut_86 : decode cX8_comeOut 86 = .ok (.iconst 1, 1) := by decide +kernel
theorem dX8_comeOut_87 : decode cX8_comeOut 87 = .ok (.iadd, 1) := by decide +kernel
theorem dX8_comeOut_88 : decode cX8_comeOut 88 = .ok (.iload 4, 2) := by decide +kernel
theorem dX8_comeOut_90 : decode cX8_comeOut 90 = .ok (.iadd, 1) := by decide +kernel
theorem dX8_comeOut_91 : decode cX8_comeOut 91 = .ok (.invokevirtual 69, 3) := by decide +kernel
theorem dX8_comeOut_94 : decode cX8_comeOut 94 = .ok (.iastore, 1) := by decide +kernel
theorem dX8_comeOut_95 : decode cX8_comeOut 95 = .ok (.aload_n 0, 1) := by decide +kernel
theorem dX8_comeOut_96 : decode cX8_comeOut 96 = .ok (.dup, 1) := by decide +kernel
theorem dX8_comeOut_97 : decode cX8_comeOut 97 = .ok (.getfield 76, 3) := by decide +kernel
theorem dX8_comeOut_100 : decode cX8_comeOut 100 = .ok (.iconst 1, 1) := by decide +kernel
theorem dX8_comeOut_101 : decode cX8_comeOut 101 = .ok (.iadd, 1) := by decide +kernel
theorem dX8_comeOut_102 : decode cX8_comeOut 102 = .ok (.putfield 76, 3) := by decide +kernel
theorem dX8_comeOut_105 : decode cX8_comeOut 105 = .ok (.iload_n 2, 1) := by decide +kernel
theorem dX8_comeOut_106 : decode cX8_comeOut 106 = .ok (.iload 4, 2) := by decide +kernel
theorem dX8_comeOut_108 : decode cX8_comeOut 108 = .ok (.iconst 2, 1) := by decide +kernel
theorem dX8_comeOut_109 : decode cX8_comeOut 109 = .ok (.iadd, 1) := by decide +kernel
theorem dX8_comeOut_110 : decode cX8_comeOut 110 = .ok (.iadd, 1) := by decide +kernel
theorem dX8_comeOut_111 : decode cX8_comeOut 111 = .ok (.istore_n 2, 1) := by decide +kernel
theorem dX8_comeOut_112 : decode cX8_comeOut 112 = .ok (.iinc 3 1, 3) := by decide +kernel
theorem dX8_comeOut_115 : decode cX8_comeOut 115 = .ok (.goto (-111), 3) := by decide +kernel
theorem dX8_comeOut_118 : decode cX8_comeOut 118 = .ok (.return_, 1) := by decide +kernel
theorem dX8_goBack_0 : decode cX8_goBack 0 = .ok (.aload_n 0, 1) := by decide +kernel
theorem dX8_goBack_1 : decode cX8_goBack 1 = .ok (.iload_n 1, 1) := by decide +kernel
theorem dX8_goBack_2 : decode cX8_goBack 2 = .ok (.invokevirtual 79, 3) := by decide +kernel
theorem dX8_goBack_5 : decode cX8_goBack 5 = .ok (.aload_n 0, 1) := by decide +kernel
theorem dX8_goBack_6 : decode cX8_goBack 6 = .ok (.getfield 7, 3) := by decide +kernel
theorem dX8_goBack_9 : decode cX8_goBack 9 = .ok (.bipush 64, 2) := by decide +kernel
theorem dX8_goBack_11 : decode cX8_goBack 11 = .ok (.iload_n 1, 1) := by decide +kernel
theorem dX8_goBack_12 : decode cX8_goBack 12 = .ok (.imul, 1) := by decide +kernel
theorem dX8_goBack_13 : decode cX8_goBack 13 = .ok (.iload_n 2, 1) := by decide +kernel
theorem dX8_goBack_14 : decode cX8_goBack 14 = .ok (.iastore, 1) := by decide +kernel
theorem dX8_goBack_15 : decode cX8_goBack 15 = .ok (.aload_n 0, 1) := by decide +kernel
theorem dX8_goBack_16 : decode cX8_goBack 16 = .ok (.getfield 7, 3) := by decide +kernel
theorem dX8_goBack_19 : decode cX8_goBack 19 = .ok (.bipush 64, 2) := by decide +kernel
theorem dX8_goBack_21 : decode cX8_goBack 21 = .ok (.iload_n 1, 1) := by decide +kernel
theorem dX8_goBack_22 : decode cX8_goBack 22 = .ok (.imul, 1) := by decide +kernel
theorem dX8_goBack_23 : decode cX8_goBack 23 = .ok (.iconst 1, 1) := by decide +kernel
theorem dX8_goBack_24 : decode cX8_goBack 24 = .ok (.iadd, 1) := by decide +kernel
theorem dX8_goBack_25 : decode cX8_goBack 25 = .ok (.iload 5, 2) := by decide +kernel
theorem dX8_goBack_27 : decode cX8_goBack 27 = .ok (.iload 4, 2) := by decide +kernel
theorem dX8_goBack_29 : decode cX8_goBack 29 = .ok (.isub, 1) := by decide +kernel
theorem dX8_goBack_30 : decode cX8_goBack 30 = .ok (.iastore, 1) := by decide +kernel
theorem dX8_goBack_31 : decode cX8_goBack 31 = .ok (.aload_n 0, 1) := by decide +kernel
theorem dX8_goBack_32 : decode cX8_goBack 32 = .ok (.getfield 7, 3) := by decide +kernel
theorem dX8_goBack_35 : decode cX8_goBack 35 = .ok (.bipush 64, 2) := by decide +kernel
theorem dX8_goBack_37 : decode cX8_goBack 37 = .ok (.iload_n 1, 1) := by decide +kernel
theorem dX8_goBack_38 : decode cX8_goBack 38 = .ok (.imul, 1) := by decide +kernel
theorem dX8_goBack_39 : decode cX8_goBack 39 = .ok (.iconst 2, 1) := by decide +kernel
theorem dX8_goBack_40 : decode cX8_goBack 40 = .ok (.iadd, 1) := by decide +kernel
theorem dX8_goBack_41 : decode cX8_goBack 41 = .ok (.iload_n 3, 1) := by decide +kernel
theorem dX8_goBack_42 : decode cX8_goBack 42 = .ok (.iastore, 1) := by decide +kernel
theorem dX8_goBack_43 : decode cX8_goBack 43 = .ok (.bipush 64, 2) := by decide +kernel
theorem dX8_goBack_45 : decode cX8_goBack 45 = .ok (.iload_n 1, 1) := by decide +kernel
theorem dX8_goBack_46 : decode cX8_goBack 46 = .ok (.imul, 1) := by decide +kernel
theorem dX8_goBack_47 : decode cX8_goBack 47 = .ok (.iconst 3, 1) := by decide +kernel
theorem dX8_goBack_48 : decode cX8_goBack 48 = .ok (.iadd, 1) := by decide +kernel
theorem dX8_goBack_49 : decode cX8_goBack 49 = .ok (.istore 6, 2) := by decide +kernel
theorem dX8_goBack_51 : decode cX8_goBack 51 = .ok (.iload 4, 2) := by decide +kernel
theorem dX8_goBack_53 : decode cX8_goBack 53 = .ok (.istore 7, 2) := by decide +kernel
theorem dX8_goBack_55 : decode cX8_goBack 55 = .ok (.iload 7, 2) := by decide +kernel
theorem dX8_goBack_57 : decode cX8_goBack 57 = .ok (.iload 5, 2) := by decide +kernel
theorem dX8_goBack_59 : decode cX8_goBack 59 = .ok (.if_icmp .ge 107, 3) := by decide +kernel
theorem dX8_goBack_62 : decode cX8_goBack 62 = .ok (.aload_n 0, 1) := by decide +kernel
theorem dX8_goBack_63 : decode cX8_goBack 63 = .ok (.getfield 7, 3) := by decide +kernel
theorem dX8_goBack_66 : decode cX8_goBack 66 = .ok (.iload 6, 2) := by decide +kernel
theorem dX8_goBack_68 : decode cX8_goBack 68 = .ok (.aload_n 0, 1) := by decide +kernel
theorem dX8_goBack_69 : decode cX8_goBack 69 = .ok (.getfield 17, 3) := by decide +kernel
theorem dX8_goBack_72 : decode cX8_goBack 72 = .ok (.iload 7, 2) := by decide +kernel
theorem dX8_goBack_74 : decode cX8_goBack 74 = .ok (.iaload, 1) := by decide +kernel
theorem dX8_goBack_75 : decode cX8_goBack 75 = .ok (.iastore, 1) := by decide +kernel
theorem dX8_goBack_76 : decode cX8_goBack 76 = .ok (.iconst 0, 1) := by decide +kernel
theorem dX8_goBack_77 : decode cX8_goBack 77 = .ok (.istore 8, 2) := by decide +kernel
theorem dX8_goBack_79 : decode cX8_goBack 79 = .ok (.iload 8, 2) := by decide +kernel
theorem dX8_goBack_81 : decode cX8_goBack 81 = .ok (.aload_n 0, 1) := by decide +kernel
theorem dX8_goBack_82 : decode cX8_goBack 82 = .ok (.getfield 17, 3) := by decide +kernel
theorem dX8_goBack_85 : decode cX8_goBack 85 = .ok (.iload 7, 2) := by decide +kernel
theorem dX8_goBack_87 : decode cX8_goBack 87 = .ok (.iaload, 1) := by decide +kernel
theorem dX8_goBack_88 : decode cX8_goBack 88 = .ok (.if_icmp .ge 34, 3) := by decide +kernel
theorem dX8_goBack_91 : decode cX8_goBack 91 = .ok (.aload_n 0, 1) := by decide +kernel
theorem dX8_goBack_92 : decode cX8_goBack 92 = .ok (.getfield 7, 3) := by decide +kernel
theorem dX8_goBack_95 : decode cX8_goBack 95 = .ok (.iload 6, 2) := by decide +kernel
theorem dX8_goBack_97 : decode cX8_goBack 97 = .ok (.iconst 1, 1) := by decide +kernel
theorem dX8_goBack_98 : decode cX8_goBack 98 = .ok (.iadd, 1) := by decide +kernel
theorem dX8_goBack_99 : decode cX8_goBack 99 = .ok (.iload 8, 2) := by decide +kernel
theorem dX8_goBack_101 : decode cX8_goBack 101 = .ok (.iadd, 1) := by decide +kernel
theorem dX8_goBack_102 : decode cX8_goBack 102 = .ok (.aload_n 0, 1) := by decide +kernel
theorem dX8_goBack_103 : decode cX8_goBack 103 = .ok (.getfield 20, 3) := by decide +kernel
theorem dX8_goBack_106 : decode cX8_goBack 106 = .ok (.bipush 8, 2) := by decide +kernel
theorem dX8_goBack_108 : decode cX8_goBack 108 = .ok (.iload 7, 2) := by decide +kernel
theorem dX8_goBack_110 : decode cX8_goBack 110 = .ok (.imul, 1) := by decide +kernel
theorem dX8_goBack_111 : decode cX8_goBack 111 = .ok (.iload 8, 2) := by decide +kernel
theorem dX8_goBack_113 : decode cX8_goBack 113 = .ok (.iadd, 1) := by decide +kernel
theorem dX8_goBack_114 : decode cX8_goBack 114 = .ok (.iaload, 1) := by decide +kernel
theorem dX8_goBack_115 : decode cX8_goBack 115 = .ok (.iastore, 1) := by decide +kernel
theorem dX8_goBack_116 : decode cX8_goBack 116 = .ok (.iinc 8 1, 3) := by decide +kernel
theorem dX8_goBack_119 : decode cX8_goBack 119 = .ok (.goto (-40), 3) := by decide +kernel
theorem dX8_goBack_122 : decode cX8_goBack 122 = .ok (.aload_n 0, 1) := by decide +kernel
theorem dX8_goBack_123 : decode cX8_goBack 123 = .ok (.getfield 7, 3) := by decide +kernel
theorem dX8_goBack_126 : decode cX8_goBack 126 = .ok (.iload 6, 2) := by decide +kernel
theorem dX8_goBack_128 : decode cX8_goBack 128 = .ok (.iconst 1, 1) := by decide +kernel
theorem dX8_goBack_129 : decode cX8_goBack 129 = .ok (.iadd, 1) := by decide +kernel
theorem dX8_goBack_130 : decode cX8_goBack 130 = .ok (.aload_n 0, 1) := by decide +kernel
theorem dX8_goBack_131 : decode cX8_goBack 131 = .ok (.getfield 17, 3) := by decide +kernel
theorem dX8_goBack_134 : decode cX8_goBack 134 = .ok (.iload 7, 2) := by decide +kernel
theorem dX8_goBack_136 : decode cX8_goBack 136 = .ok (.iaload, 1) := by decide +kernel
theorem dX8_goBack_137 : decode cX8_goBack 137 = .ok (.iadd, 1) := by decide +kernel
theorem dX8_goBack_138 : decode cX8_goBack 138 = .ok (.aload_n 0, 1) := by decide +kernel
theorem dX8_goBack_139 : decode cX8_goBack 139 = .ok (.getfield 23, 3) := by decide +kernel
theorem dX8_goBack_142 : decode cX8_goBack 142 = .ok (.iload 7, 2) := by decide +kernel
theorem dX8_goBack_144 : decode cX8_goBack 144 = .ok (.iaload, 1) := by decide +kernel
theorem dX8_goBack_145 : decode cX8_goBack 145 = .ok (.iastore, 1) := by decide +kernel
theorem dX8_goBack_146 : decode cX8_goBack 146 = .ok (.iload 6, 2) := by decide +kernel
theorem dX8_goBack_148 : decode cX8_goBack 148 = .ok (.aload_n 0, 1) := by decide +kernel
theorem dX8_goBack_149 : decode cX8_goBack 149 = .ok (.getfield 17, 3) := by decide +kernel
theorem dX8_goBack_152 : decode cX8_goBack 152 = .ok (.iload 7, 2) := by decide +kernel
theorem dX8_goBack_154 : decode cX8_goBack 154 = .ok (.iaload, 1) := by decide +kernel
theorem dX8_goBack_155 : decode cX8_goBack 155 = .ok (.iconst 2, 1) := by decide +kernel
theorem dX8_goBack_156 : decode cX8_goBack 156 = .ok (.iadd, 1) := by decide +kernel
theorem dX8_goBack_157 : decode cX8_goBack 157 = .ok (.iadd, 1) := by decide +kernel
theorem dX8_goBack_158 : decode cX8_goBack 158 = .ok (.istore 6, 2) := by decide +kernel
theorem dX8_goBack_160 : decode cX8_goBack 160 = .ok (.iinc 7 1, 3) := by decide +kernel
theorem dX8_goBack_163 : decode cX8_goBack 163 = .ok (.goto (-108), 3) := by decide +kernel
theorem dX8_goBack_166 : decode cX8_goBack 166 = .ok (.return_, 1) := by decide +kernel
theorem dX8_copies_0 : decode cX8_copies 0 = .ok (.aload_n 0, 1) := by decide +kernel
theorem dX8_copies_1 : decode cX8_copies 1 = .ok (.getfield 17, 3) := by decide +kernel
theorem dX8_copies_4 : decode cX8_copies 4 = .ok (.iload_n 2, 1) := by decide +kernel
theorem dX8_copies_5 : decode cX8_copies 5 = .ok (.aload_n 0, 1) := by decide +kernel
theorem dX8_copies_6 : decode cX8_copies 6 = .ok (.getfield 17, 3) := by decide +kernel
theorem dX8_copies_9 : decode cX8_copies 9 = .ok (.iload_n 1, 1) := by decide +kernel
theorem dX8_copies_10 : decode cX8_copies 10 = .ok (.iaload, 1) := by decide +kernel
theorem dX8_copies_11 : decode cX8_copies 11 = .ok (.iastore, 1) := by decide +kernel
theorem dX8_copies_12 : decode cX8_copies 12 = .ok (.aload_n 0, 1) := by decide +kernel
theorem dX8_copies_13 : decode cX8_copies 13 = .ok (.getfield 23, 3) := by decide +kernel
theorem dX8_copies_16 : decode cX8_copies 16 = .ok (.iload_n 2, 1) := by decide +kernel
theorem dX8_copies_17 : decode cX8_copies 17 = .ok (.aload_n 0, 1) := by decide +kernel
theorem dX8_copies_18 : decode cX8_copies 18 = .ok (.getfield 23, 3) := by decide +kernel
theorem dX8_copies_21 : decode cX8_copies 21 = .ok (.iload_n 1, 1) := by decide +kernel
theorem dX8_copies_22 : decode cX8_copies 22 = .ok (.iaload, 1) := by decide +kernel
theorem dX8_copies_23 : decode cX8_copies 23 = .ok (.iastore, 1) := by decide +kernel
theorem dX8_copies_24 : decode cX8_copies 24 = .ok (.iconst 0, 1) := by decide +kernel
theorem dX8_copies_25 : decode cX8_copies 25 = .ok (.istore_n 3, 1) := by decide +kernel
theorem dX8_copies_26 : decode cX8_copies 26 = .ok (.iload_n 3, 1) := by decide +kernel
theorem dX8_copies_27 : decode cX8_copies 27 = .ok (.bipush 8, 2) := by decide +kernel
theorem dX8_copies_29 : decode cX8_copies 29 = .ok (.if_icmp .ge 31, 3) := by decide +kernel
theorem dX8_copies_32 : decode cX8_copies 32 = .ok (.aload_n 0, 1) := by decide +kernel
theorem dX8_copies_33 : decode cX8_copies 33 = .ok (.getfield 20, 3) := by decide +kernel
theorem dX8_copies_36 : decode cX8_copies 36 = .ok (.bipush 8, 2) := by decide +kernel
theorem dX8_copies_38 : decode cX8_copies 38 = .ok (.iload_n 2, 1) := by decide +kernel
theorem dX8_copies_39 : decode cX8_copies 39 = .ok (.imul, 1) := by decide +kernel
theorem dX8_copies_40 : decode cX8_copies 40 = .ok (.iload_n 3, 1) := by decide +kernel
theorem dX8_copies_41 : decode cX8_copies 41 = .ok (.iadd, 1) := by decide +kernel
theorem dX8_copies_42 : decode cX8_copies 42 = .ok (.aload_n 0, 1) := by decide +kernel
theorem dX8_copies_43 : decode cX8_copies 43 = .ok (.getfield 20, 3) := by decide +kernel
theorem dX8_copies_46 : decode cX8_copies 46 = .ok (.bipush 8, 2) := by decide +kernel
theorem dX8_copies_48 : decode cX8_copies 48 = .ok (.iload_n 1, 1) := by decide +kernel
theorem dX8_copies_49 : decode cX8_copies 49 = .ok (.imul, 1) := by decide +kernel
theorem dX8_copies_50 : decode cX8_copies 50 = .ok (.iload_n 3, 1) := by decide +kernel
theorem dX8_copies_51 : decode cX8_copies 51 = .ok (.iadd, 1) := by decide +kernel
theorem dX8_copies_52 : decode cX8_copies 52 = .ok (.iaload, 1) := by decide +kernel
theorem dX8_copies_53 : decode cX8_copies 53 = .ok (.iastore, 1) := by decide +kernel
theorem dX8_copies_54 : decode cX8_copies 54 = .ok (.iinc 3 1, 3) := by decide +kernel
theorem dX8_copies_57 : decode cX8_copies 57 = .ok (.goto (-31), 3) := by decide +kernel
theorem dX8_copies_60 : decode cX8_copies 60 = .ok (.return_, 1) := by decide +kernel
theorem dX8_comesIn_0 : decode cX8_comesIn 0 = .ok (.aload_n 0, 1) := by decide +kernel
theorem dX8_comesIn_1 : decode cX8_comesIn 1 = .ok (.getfield 76, 3) := by decide +kernel
theorem dX8_comesIn_4 : decode cX8_comesIn 4 = .ok (.istore 5, 2) := by decide +kernel
theorem dX8_comesIn_6 : decode cX8_comesIn 6 = .ok (.iload 5, 2) := by decide +kernel
theorem dX8_comesIn_8 : decode cX8_comesIn 8 = .ok (.iload_n 1, 1) := by decide +kernel
theorem dX8_comesIn_9 : decode cX8_comesIn 9 = .ok (.if_icmp .le 19, 3) := by decide +kernel
theorem dX8_comesIn_12 : decode cX8_comesIn 12 = .ok (.aload_n 0, 1) := by decide +kernel
theorem dX8_comesIn_13 : decode cX8_comesIn 13 = .ok (.iload 5, 2) := by decide +kernel
theorem dX8_comesIn_15 : decode cX8_comesIn 15 = .ok (.iconst 1, 1) := by decide +kernel
theorem dX8_comesIn_16 : decode cX8_comesIn 16 = .ok (.isub, 1) := by decide +kernel
theorem dX8_comesIn_17 : decode cX8_comesIn 17 = .ok (.iload 5, 2) := by decide +kernel
theorem dX8_comesIn_19 : decode cX8_comesIn 19 = .ok (.invokevirtual 83, 3) := by decide +kernel
theorem dX8_comesIn_22 : decode cX8_comesIn 22 = .ok (.iinc 5 (-1), 3) := by decide +kernel
theorem dX8_comesIn_25 : decode cX8_comesIn 25 = .ok (.goto (-19), 3) := by decide +kernel
theorem dX8_comesIn_28 : decode cX8_comesIn 28 = .ok (.aload_n 0, 1) := by decide +kernel
theorem dX8_comesIn_29 : decode cX8_comesIn 29 = .ok (.getfield 17, 3) := by decide +kernel
theorem dX8_comesIn_32 : decode cX8_comesIn 32 = .ok (.iload_n 1, 1) := by decide +kernel
theorem dX8_comesIn_33 : decode cX8_comesIn 33 = .ok (.iload_n 3, 1) := by decide +kernel
theorem dX8_comesIn_34 : decode cX8_comesIn 34 = .ok (.iastore, 1) := by decide +kernel
theorem dX8_comesIn_35 : decode cX8_comesIn 35 = .ok (.aload_n 0, 1) := by decide +kernel
theorem dX8_comesIn_36 : decode cX8_comesIn 36 = .ok (.getfield 23, 3) := by decide +kernel
theorem dX8_comesIn_39 : decode cX8_comesIn 39 = .ok (.iload_n 1, 1) := by decide +kernel
theorem dX8_comesIn_40 : decode cX8_comesIn 40 = .ok (.iload 4, 2) := by decide +kernel
theorem dX8_comesIn_42 : decode cX8_comesIn 42 = .ok (.iastore, 1) := by decide +kernel
theorem dX8_comesIn_43 : decode cX8_comesIn 43 = .ok (.iconst 0, 1) := by decide +kernel
theorem dX8_comesIn_44 : decode cX8_comesIn 44 = .ok (.istore 5, 2) := by decide +kernel
theorem dX8_comesIn_46 : decode cX8_comesIn 46 = .ok (.iload 5, 2) := by decide +kernel
theorem dX8_comesIn_48 : decode cX8_comesIn 48 = .ok (.iload_n 3, 1) := by decide +kernel
theorem dX8_comesIn_49 : decode cX8_comesIn 49 = .ok (.if_icmp .ge 25, 3) := by decide +kernel
theorem dX8_comesIn_52 : decode cX8_comesIn 52 = .ok (.aload_n 0, 1) := by decide +kernel
theorem dX8_comesIn_53 : decode cX8_comesIn 53 = .ok (.getfield 20, 3) := by decide +kernel
theorem dX8_comesIn_56 : decode cX8_comesIn 56 = .ok (.bipush 8, 2) := by decide +kernel
theorem dX8_comesIn_58 : decode cX8_comesIn 58 = .ok (.iload_n 1, 1) := by decide +kernel
theorem dX8_comesIn_59 : decode cX8_comesIn 59 = .ok (.imul, 1) := by decide +kernel
theorem dX8_comesIn_60 : decode cX8_comesIn 60 = .ok (.iload 5, 2) := by decide +kernel
theorem dX8_comesIn_62 : decode cX8_comesIn 62 = .ok (.iadd, 1) := by decide +kernel
theorem dX8_comesIn_63 : decode cX8_comesIn 63 = .ok (.aload_n 2, 1) := by decide +kernel
theorem dX8_comesIn_64 : decode cX8_comesIn 64 = .ok (.iload 5, 2) := by decide +kernel
theorem dX8_comesIn_66 : decode cX8_comesIn 66 = .ok (.iaload, 1) := by decide +kernel
theorem dX8_comesIn_67 : decode cX8_comesIn 67 = .ok (.iastore, 1) := by decide +kernel
theorem dX8_comesIn_68 : decode cX8_comesIn 68 = .ok (.iinc 5 1, 3) := by decide +kernel
theorem dX8_comesIn_71 : decode cX8_comesIn 71 = .ok (.goto (-25), 3) := by decide +kernel
theorem dX8_comesIn_74 : decode cX8_comesIn 74 = .ok (.aload_n 0, 1) := by decide +kernel
theorem dX8_comesIn_75 : decode cX8_comesIn 75 = .ok (.dup, 1) := by decide +kernel
theorem dX8_comesIn_76 : decode cX8_comesIn 76 = .ok (.getfield 76, 3) := by decide +kernel
theorem dX8_comesIn_79 : decode cX8_comesIn 79 = .ok (.iconst 1, 1) := by decide +kernel
theorem dX8_comesIn_80 : decode cX8_comesIn 80 = .ok (.iadd, 1) := by decide +kernel
theorem dX8_comesIn_81 : decode cX8_comesIn 81 = .ok (.putfield 76, 3) := by decide +kernel
theorem dX8_comesIn_84 : decode cX8_comesIn 84 = .ok (.return_, 1) := by decide +kernel
theorem dX8_goesOut_0 : decode cX8_goesOut 0 = .ok (.iload_n 1, 1) := by decide +kernel
theorem dX8_goesOut_1 : decode cX8_goesOut 1 = .ok (.iconst 1, 1) := by decide +kernel
theorem dX8_goesOut_2 : decode cX8_goesOut 2 = .ok (.iadd, 1) := by decide +kernel
theorem dX8_goesOut_3 : decode cX8_goesOut 3 = .ok (.istore_n 2, 1) := by decide +kernel
theorem dX8_goesOut_4 : decode cX8_goesOut 4 = .ok (.iload_n 2, 1) := by decide +kernel
theorem dX8_goesOut_5 : decode cX8_goesOut 5 = .ok (.aload_n 0, 1) := by decide +kernel
theorem dX8_goesOut_6 : decode cX8_goesOut 6 = .ok (.getfield 76, 3) := by decide +kernel
theorem dX8_goesOut_9 : decode cX8_goesOut 9 = .ok (.if_icmp .ge 17, 3) := by decide +kernel
theorem dX8_goesOut_12 : decode cX8_goesOut 12 = .ok (.aload_n 0, 1) := by decide +kernel
theorem dX8_goesOut_13 : decode cX8_goesOut 13 = .ok (.iload_n 2, 1) := by decide +kernel
theorem dX8_goesOut_14 : decode cX8_goesOut 14 = .ok (.iload_n 2, 1) := by decide +kernel
theorem dX8_goesOut_15 : decode cX8_goesOut 15 = .ok (.iconst 1, 1) := by decide +kernel
theorem dX8_goesOut_16 : decode cX8_goesOut 16 = .ok (.isub, 1) := by decide +kernel
theorem dX8_goesOut_17 : decode cX8_goesOut 17 = .ok (.invokevirtual 83, 3) := by decide +kernel
theorem dX8_goesOut_20 : decode cX8_goesOut 20 = .ok (.iinc 2 1, 3) := by decide +kernel
theorem dX8_goesOut_23 : decode cX8_goesOut 23 = .ok (.goto (-19), 3) := by decide +kernel
theorem dX8_goesOut_26 : decode cX8_goesOut 26 = .ok (.aload_n 0, 1) := by decide +kernel
theorem dX8_goesOut_27 : decode cX8_goesOut 27 = .ok (.dup, 1) := by decide +kernel
theorem dX8_goesOut_28 : decode cX8_goesOut 28 = .ok (.getfield 76, 3) := by decide +kernel
theorem dX8_goesOut_31 : decode cX8_goesOut 31 = .ok (.iconst 1, 1) := by decide +kernel
theorem dX8_goesOut_32 : decode cX8_goesOut 32 = .ok (.isub, 1) := by decide +kernel
theorem dX8_goesOut_33 : decode cX8_goesOut 33 = .ok (.putfield 76, 3) := by decide +kernel
theorem dX8_goesOut_36 : decode cX8_goesOut 36 = .ok (.return_, 1) := by decide +kernel
theorem dX8_half_0 : decode cX8_half 0 = .ok (.aload_n 0, 1) := by decide +kernel
theorem dX8_half_1 : decode cX8_half 1 = .ok (.iconst 0, 1) := by decide +kernel
theorem dX8_half_2 : decode cX8_half 2 = .ok (.aload_n 0, 1) := by decide +kernel
theorem dX8_half_3 : decode cX8_half 3 = .ok (.getfield 76, 3) := by decide +kernel
theorem dX8_half_6 : decode cX8_half 6 = .ok (.invokevirtual 87, 3) := by decide +kernel
theorem dX8_half_9 : decode cX8_half 9 = .ok (.istore_n 1, 1) := by decide +kernel
theorem dX8_half_10 : decode cX8_half 10 = .ok (.iconst 0, 1) := by decide +kernel
theorem dX8_half_11 : decode cX8_half 11 = .ok (.istore_n 2, 1) := by decide +kernel
theorem dX8_half_12 : decode cX8_half 12 = .ok (.iconst 2, 1) := by decide +kernel
theorem dX8_half_13 : decode cX8_half 13 = .ok (.aload_n 0, 1) := by decide +kernel
theorem dX8_half_14 : decode cX8_half 14 = .ok (.iconst 0, 1) := by decide +kernel
theorem dX8_half_15 : decode cX8_half 15 = .ok (.iload_n 2, 1) := by decide +kernel
theorem dX8_half_16 : decode cX8_half 16 = .ok (.invokevirtual 87, 3) := by decide +kernel
theorem dX8_half_19 : decode cX8_half 19 = .ok (.imul, 1) := by decide +kernel
theorem dX8_half_20 : decode cX8_half 20 = .ok (.iload_n 1, 1) := by decide +kernel
theorem dX8_half_21 : decode cX8_half 21 = .ok (.if_icmp .ge 9, 3) := by decide +kernel
theorem dX8_half_24 : decode cX8_half 24 = .ok (.iinc 2 1, 3) := by decide +kernel
theorem dX8_half_27 : decode cX8_half 27 = .ok (.goto (-15), 3) := by decide +kernel
theorem dX8_half_30 : decode cX8_half 30 = .ok (.iload_n 2, 1) := by decide +kernel
theorem dX8_half_31 : decode cX8_half 31 = .ok (.ireturn, 1) := by decide +kernel
theorem dX8_shortest_0 : decode cX8_shortest 0 = .ok (.iconst 0, 1) := by decide +kernel
theorem dX8_shortest_1 : decode cX8_shortest 1 = .ok (.istore_n 2, 1) := by decide +kernel
theorem dX8_shortest_2 : decode cX8_shortest 2 = .ok (.iload_n 2, 1) := by decide +kernel
theorem dX8_shortest_3 : decode cX8_shortest 3 = .ok (.aload_n 0, 1) := by decide +kernel
theorem dX8_shortest_4 : decode cX8_shortest 4 = .ok (.getfield 17, 3) := by decide +kernel
theorem dX8_shortest_7 : decode cX8_shortest 7 = .ok (.iload_n 1, 1) := by decide +kernel
theorem dX8_shortest_8 : decode cX8_shortest 8 = .ok (.iconst 1, 1) := by decide +kernel
theorem dX8_shortest_9 : decode cX8_shortest 9 = .ok (.isub, 1) := by decide +kernel
theorem dX8_shortest_10 : decode cX8_shortest 10 = .ok (.iaload, 1) := by decide +kernel
theorem dX8_shortest_11 : decode cX8_shortest 11 = .ok (.if_icmp .ge 46, 3) := by decide +kernel
theorem dX8_shortest_14 : decode cX8_shortest 14 = .ok (.iload_n 2, 1) := by decide +kernel
theorem dX8_shortest_15 : decode cX8_shortest 15 = .ok (.aload_n 0, 1) := by decide +kernel
theorem dX8_shortest_16 : decode cX8_shortest 16 = .ok (.getfield 17, 3) := by decide +kernel
theorem dX8_shortest_19 : decode cX8_shortest 19 = .ok (.iload_n 1, 1) := by decide +kernel
theorem dX8_shortest_20 : decode cX8_shortest 20 = .ok (.iaload, 1) := by decide +kernel
theorem dX8_shortest_21 : decode cX8_shortest 21 = .ok (.if_icmp .ge 36, 3) := by decide +kernel
theorem dX8_shortest_24 : decode cX8_shortest 24 = .ok (.aload_n 0, 1) := by decide +kernel
theorem dX8_shortest_25 : decode cX8_shortest 25 = .ok (.getfield 20, 3) := by decide +kernel
theorem dX8_shortest_28 : decode cX8_shortest 28 = .ok (.bipush 8, 2) := by decide +kernel
theorem dX8_shortest_30 : decode cX8_shortest 30 = .ok (.iload_n 1, 1) := by decide +kernel
theorem dX8_shortest_31 : decode cX8_shortest 31 = .ok (.iconst 1, 1) := by decide +kernel
theorem dX8_shortest_32 : decode cX8_shortest 32 = .ok (.isub, 1) := by decide +kernel
theorem dX8_shortest_33 : decode cX8_shortest 33 = .ok (.imul, 1) := by decide +kernel
theorem dX8_shortest_34 : decode cX8_shortest 34 = .ok (.iload_n 2, 1) := by decide +kernel
theorem dX8_shortest_35 : decode cX8_shortest 35 = .ok (.iadd, 1) := by decide +kernel
theorem dX8_shortest_36 : decode cX8_shortest 36 = .ok (.iaload, 1) := by decide +kernel
theorem dX8_shortest_37 : decode cX8_shortest 37 = .ok (.aload_n 0, 1) := by decide +kernel
theorem dX8_shortest_38 : decode cX8_shortest 38 = .ok (.getfield 20, 3) := by decide +kernel
theorem dX8_shortest_41 : decode cX8_shortest 41 = .ok (.bipush 8, 2) := by decide +kernel
theorem dX8_shortest_43 : decode cX8_shortest 43 = .ok (.iload_n 1, 1) := by decide +kernel
theorem dX8_shortest_44 : decode cX8_shortest 44 = .ok (.imul, 1) := by decide +kernel
theorem dX8_shortest_45 : decode cX8_shortest 45 = .ok (.iload_n 2, 1) := by decide +kernel
theorem dX8_shortest_46 : decode cX8_shortest 46 = .ok (.iadd, 1) := by decide +kernel
theorem dX8_shortest_47 : decode cX8_shortest 47 = .ok (.iaload, 1) := by decide +kernel
theorem dX8_shortest_48 : decode cX8_shortest 48 = .ok (.if_icmp .ne 9, 3) := by decide +kernel
theorem dX8_shortest_51 : decode cX8_shortest 51 = .ok (.iinc 2 1, 3) := by decide +kernel
theorem dX8_shortest_54 : decode cX8_shortest 54 = .ok (.goto (-52), 3) := by decide +kernel
theorem dX8_shortest_57 : decode cX8_shortest 57 = .ok (.iload_n 2, 1) := by decide +kernel
theorem dX8_shortest_58 : decode cX8_shortest 58 = .ok (.iconst 1, 1) := by decide +kernel
theorem dX8_shortest_59 : decode cX8_shortest 59 = .ok (.iadd, 1) := by decide +kernel
theorem dX8_shortest_60 : decode cX8_shortest 60 = .ok (.ireturn, 1) := by decide +kernel
theorem dX8_goesUp_0 : decode cX8_goesUp 0 = .ok (.aload_n 0, 1) := by decide +kernel
theorem dX8_goesUp_1 : decode cX8_goesUp 1 = .ok (.iload_n 2, 1) := by decide +kernel
theorem dX8_goesUp_2 : decode cX8_goesUp 2 = .ok (.putfield 90, 3) := by decide +kernel
theorem dX8_goesUp_5 : decode cX8_goesUp 5 = .ok (.iconst 0, 1) := by decide +kernel
theorem dX8_goesUp_6 : decode cX8_goesUp 6 = .ok (.istore_n 3, 1) := by decide +kernel
theorem dX8_goesUp_7 : decode cX8_goesUp 7 = .ok (.iload_n 3, 1) := by decide +kernel
theorem dX8_goesUp_8 : decode cX8_goesUp 8 = .ok (.iload_n 2, 1) := by decide +kernel
theorem dX8_goesUp_9 : decode cX8_goesUp 9 = .ok (.if_icmp .ge 26, 3) := by decide +kernel
theorem dX8_goesUp_12 : decode cX8_goesUp 12 = .ok (.aload_n 0, 1) := by decide +kernel
theorem dX8_goesUp_13 : decode cX8_goesUp 13 = .ok (.getfield 26, 3) := by decide +kernel
theorem dX8_goesUp_16 : decode cX8_goesUp 16 = .ok (.iload_n 3, 1) := by decide +kernel
theorem dX8_goesUp_17 : decode cX8_goesUp 17 = .ok (.aload_n 0, 1) := by decide +kernel
theorem dX8_goesUp_18 : decode cX8_goesUp 18 = .ok (.getfield 20, 3) := by decide +kernel
theorem dX8_goesUp_21 : decode cX8_goesUp 21 = .ok (.bipush 8, 2) := by decide +kernel
theorem dX8_goesUp_23 : decode cX8_goesUp 23 = .ok (.iload_n 1, 1) := by decide +kernel
theorem dX8_goesUp_24 : decode cX8_goesUp 24 = .ok (.imul, 1) := by decide +kernel
theorem dX8_goesUp_25 : decode cX8_goesUp 25 = .ok (.iload_n 3, 1) := by decide +kernel
theorem dX8_goesUp_26 : decode cX8_goesUp 26 = .ok (.iadd, 1) := by decide +kernel
theorem dX8_goesUp_27 : decode cX8_goesUp 27 = .ok (.iaload, 1) := by decide +kernel
theorem dX8_goesUp_28 : decode cX8_goesUp 28 = .ok (.iastore, 1) := by decide +kernel
theorem dX8_goesUp_29 : decode cX8_goesUp 29 = .ok (.iinc 3 1, 3) := by decide +kernel
theorem dX8_goesUp_32 : decode cX8_goesUp 32 = .ok (.goto (-25), 3) := by decide +kernel
theorem dX8_goesUp_35 : decode cX8_goesUp 35 = .ok (.return_, 1) := by decide +kernel
theorem dX8_setUp_0 : decode cX8_setUp 0 = .ok (.aload_n 0, 1) := by decide +kernel
theorem dX8_setUp_1 : decode cX8_setUp 1 = .ok (.iload_n 2, 1) := by decide +kernel
theorem dX8_setUp_2 : decode cX8_setUp 2 = .ok (.iload_n 1, 1) := by decide +kernel
theorem dX8_setUp_3 : decode cX8_setUp 3 = .ok (.iconst 1, 1) := by decide +kernel
theorem dX8_setUp_4 : decode cX8_setUp 4 = .ok (.if_icmp .ne 11, 3) := by decide +kernel
theorem dX8_setUp_7 : decode cX8_setUp 7 = .ok (.aload_n 0, 1) := by decide +kernel
theorem dX8_setUp_8 : decode cX8_setUp 8 = .ok (.iload_n 2, 1) := by decide +kernel
theorem dX8_setUp_9 : decode cX8_setUp 9 = .ok (.invokevirtual 93, 3) := by decide +kernel
theorem dX8_setUp_12 : decode cX8_setUp 12 = .ok (.goto 9, 3) := by decide +kernel
theorem dX8_setUp_15 : decode cX8_setUp 15 = .ok (.aload_n 0, 1) := by decide +kernel
theorem dX8_setUp_16 : decode cX8_setUp 16 = .ok (.getfield 17, 3) := by decide +kernel
theorem dX8_setUp_19 : decode cX8_setUp 19 = .ok (.iload_n 2, 1) := by decide +kernel
theorem dX8_setUp_20 : decode cX8_setUp 20 = .ok (.iaload, 1) := by decide +kernel
theorem dX8_setUp_21 : decode cX8_setUp 21 = .ok (.invokevirtual 97, 3) := by decide +kernel
theorem dX8_setUp_24 : decode cX8_setUp 24 = .ok (.return_, 1) := by decide +kernel
theorem dX8_share_0 : decode cX8_share 0 = .ok (.aload_n 0, 1) := by decide +kernel
theorem dX8_share_1 : decode cX8_share 1 = .ok (.invokevirtual 100, 3) := by decide +kernel
theorem dX8_share_4 : decode cX8_share 4 = .ok (.istore 6, 2) := by decide +kernel
theorem dX8_share_6 : decode cX8_share 6 = .ok (.aload_n 0, 1) := by decide +kernel
theorem dX8_share_7 : decode cX8_share 7 = .ok (.iload_n 3, 1) := by decide +kernel
theorem dX8_share_8 : decode cX8_share 8 = .ok (.iload 6, 2) := by decide +kernel
theorem dX8_share_10 : decode cX8_share 10 = .ok (.invokevirtual 104, 3) := by decide +kernel
theorem dX8_share_13 : decode cX8_share 13 = .ok (.iload_n 3, 1) := by decide +kernel
theorem dX8_share_14 : decode cX8_share 14 = .ok (.iconst 1, 1) := by decide +kernel
theorem dX8_share_15 : decode cX8_share 15 = .ok (.if_icmp .ne 32, 3) := by decide +kernel
theorem dX8_share_18 : decode cX8_share 18 = .ok (.aload_n 0, 1) := by decide +kernel
theorem dX8_share_19 : decode cX8_share 19 = .ok (.iload_n 1, 1) := by decide +kernel
theorem dX8_share_20 : decode cX8_share 20 = .ok (.iconst 1, 1) := by decide +kernel
theorem dX8_share_21 : decode cX8_share 21 = .ok (.iload_n 2, 1) := by decide +kernel
theorem dX8_share_22 : decode cX8_share 22 = .ok (.iconst 1, 1) := by decide +kernel
theorem dX8_share_23 : decode cX8_share 23 = .ok (.iadd, 1) := by decide +kernel
theorem dX8_share_24 : decode cX8_share 24 = .ok (.iconst 0, 1) := by decide +kernel
theorem dX8_share_25 : decode cX8_share 25 = .ok (.iload 6, 2) := by decide +kernel
theorem dX8_share_27 : decode cX8_share 27 = .ok (.invokevirtual 107, 3) := by decide +kernel
theorem dX8_share_30 : decode cX8_share 30 = .ok (.aload_n 0, 1) := by decide +kernel
theorem dX8_share_31 : decode cX8_share 31 = .ok (.iload_n 2, 1) := by decide +kernel
theorem dX8_share_32 : decode cX8_share 32 = .ok (.iconst 1, 1) := by decide +kernel
theorem dX8_share_33 : decode cX8_share 33 = .ok (.iload 5, 2) := by decide +kernel
theorem dX8_share_35 : decode cX8_share 35 = .ok (.iload 6, 2) := by decide +kernel
theorem dX8_share_37 : decode cX8_share 37 = .ok (.aload_n 0, 1) := by decide +kernel
theorem dX8_share_38 : decode cX8_share 38 = .ok (.getfield 76, 3) := by decide +kernel
theorem dX8_share_41 : decode cX8_share 41 = .ok (.invokevirtual 107, 3) := by decide +kernel
theorem dX8_share_44 : decode cX8_share 44 = .ok (.goto 39, 3) := by decide +kernel
theorem dX8_share_47 : decode cX8_share 47 = .ok (.aload_n 0, 1) := by decide +kernel
theorem dX8_share_48 : decode cX8_share 48 = .ok (.getfield 23, 3) := by decide +kernel
theorem dX8_share_51 : decode cX8_share 51 = .ok (.iload 6, 2) := by decide +kernel
theorem dX8_share_53 : decode cX8_share 53 = .ok (.iaload, 1) := by decide +kernel
theorem dX8_share_54 : decode cX8_share 54 = .ok (.istore 7, 2) := by decide +kernel
theorem dX8_share_56 : decode cX8_share 56 = .ok (.aload_n 0, 1) := by decide +kernel
theorem dX8_share_57 : decode cX8_share 57 = .ok (.iload_n 1, 1) := by decide +kernel
theorem dX8_share_58 : decode cX8_share 58 = .ok (.iconst 2, 1) := by decide +kernel
theorem dX8_share_59 : decode cX8_share 59 = .ok (.iload 4, 2) := by decide +kernel
theorem dX8_share_61 : decode cX8_share 61 = .ok (.iconst 0, 1) := by decide +kernel
theorem dX8_share_62 : decode cX8_share 62 = .ok (.iload 6, 2) := by decide +kernel
theorem dX8_share_64 : decode cX8_share 64 = .ok (.invokevirtual 107, 3) := by decide +kernel
theorem dX8_share_67 : decode cX8_share 67 = .ok (.aload_n 0, 1) := by decide +kernel
theorem dX8_share_68 : decode cX8_share 68 = .ok (.iload_n 2, 1) := by decide +kernel
theorem dX8_share_69 : decode cX8_share 69 = .ok (.iconst 2, 1) := by decide +kernel
theorem dX8_share_70 : decode cX8_share 70 = .ok (.iload 7, 2) := by decide +kernel
theorem dX8_share_72 : decode cX8_share 72 = .ok (.iload 6, 2) := by decide +kernel
theorem dX8_share_74 : decode cX8_share 74 = .ok (.iconst 1, 1) := by decide +kernel
theorem dX8_share_75 : decode cX8_share 75 = .ok (.iadd, 1) := by decide +kernel
theorem dX8_share_76 : decode cX8_share 76 = .ok (.aload_n 0, 1) := by decide +kernel
theorem dX8_share_77 : decode cX8_share 77 = .ok (.getfield 76, 3) := by decide +kernel
theorem dX8_share_80 : decode cX8_share 80 = .ok (.invokevirtual 107, 3) := by decide +kernel
theorem dX8_share_83 : decode cX8_share 83 = .ok (.return_, 1) := by decide +kernel
theorem dX8_spells_0 : decode cX8_spells 0 = .ok (.iload_n 1, 1) := by decide +kernel
theorem dX8_spells_1 : decode cX8_spells 1 = .ok (.istore_n 3, 1) := by decide +kernel
theorem dX8_spells_2 : decode cX8_spells 2 = .ok (.aload_n 0, 1) := by decide +kernel
theorem dX8_spells_3 : decode cX8_spells 3 = .ok (.iload_n 2, 1) := by decide +kernel
theorem dX8_spells_4 : decode cX8_spells 4 = .ok (.putfield 111, 3) := by decide +kernel
theorem dX8_spells_7 : decode cX8_spells 7 = .ok (.iload_n 2, 1) := by decide +kernel
theorem dX8_spells_8 : decode cX8_spells 8 = .ok (.iconst 1, 1) := by decide +kernel
theorem dX8_spells_9 : decode cX8_spells 9 = .ok (.isub, 1) := by decide +kernel
theorem dX8_spells_10 : decode cX8_spells 10 = .ok (.istore 4, 2) := by decide +kernel
theorem dX8_spells_12 : decode cX8_spells 12 = .ok (.iload 4, 2) := by decide +kernel
theorem dX8_spells_14 : decode cX8_spells 14 = .ok (.ifCond .lt 28, 3) := by decide +kernel
theorem dX8_spells_17 : decode cX8_spells 17 = .ok (.aload_n 0, 1) := by decide +kernel
theorem dX8_spells_18 : decode cX8_spells 18 = .ok (.getfield 29, 3) := by decide +kernel
theorem dX8_spells_21 : decode cX8_spells 21 = .ok (.iload 4, 2) := by decide +kernel
theorem dX8_spells_23 : decode cX8_spells 23 = .ok (.bipush 97, 2) := by decide +kernel
theorem dX8_spells_25 : decode cX8_spells 25 = .ok (.iload_n 3, 1) := by decide +kernel
theorem dX8_spells_26 : decode cX8_spells 26 = .ok (.bipush 26, 2) := by decide +kernel
theorem dX8_spells_28 : decode cX8_spells 28 = .ok (.irem, 1) := by decide +kernel
theorem dX8_spells_29 : decode cX8_spells 29 = .ok (.iadd, 1) := by decide +kernel
theorem dX8_spells_30 : decode cX8_spells 30 = .ok (.iastore, 1) := by decide +kernel
theorem dX8_spells_31 : decode cX8_spells 31 = .ok (.iload_n 3, 1) := by decide +kernel
theorem dX8_spells_32 : decode cX8_spells 32 = .ok (.bipush 26, 2) := by decide +kernel
theorem dX8_spells_34 : decode cX8_spells 34 = .ok (.idiv, 1) := by decide +kernel
theorem dX8_spells_35 : decode cX8_spells 35 = .ok (.istore_n 3, 1) := by decide +kernel
theorem dX8_spells_36 : decode cX8_spells 36 = .ok (.iinc 4 (-1), 3) := by decide +kernel
theorem dX8_spells_39 : decode cX8_spells 39 = .ok (.goto (-27), 3) := by decide +kernel
theorem dX8_spells_42 : decode cX8_spells 42 = .ok (.return_, 1) := by decide +kernel
theorem dX8_isSpelled_0 : decode cX8_isSpelled 0 = .ok (.iconst 1, 1) := by decide +kernel
theorem dX8_isSpelled_1 : decode cX8_isSpelled 1 = .ok (.istore_n 2, 1) := by decide +kernel
theorem dX8_isSpelled_2 : decode cX8_isSpelled 2 = .ok (.iconst 0, 1) := by decide +kernel
theorem dX8_isSpelled_3 : decode cX8_isSpelled 3 = .ok (.istore_n 3, 1) := by decide +kernel
theorem dX8_isSpelled_4 : decode cX8_isSpelled 4 = .ok (.iload_n 3, 1) := by decide +kernel
theorem dX8_isSpelled_5 : decode cX8_isSpelled 5 = .ok (.iload_n 1, 1) := by decide +kernel
theorem dX8_isSpelled_6 : decode cX8_isSpelled 6 = .ok (.if_icmp .ge 19, 3) := by decide +kernel
theorem dX8_isSpelled_9 : decode cX8_isSpelled 9 = .ok (.iload_n 3, 1) := by decide +kernel
theorem dX8_isSpelled_10 : decode cX8_isSpelled 10 = .ok (.iconst 5, 1) := by decide +kernel
theorem dX8_isSpelled_11 : decode cX8_isSpelled 11 = .ok (.if_icmp .ge 14, 3) := by decide +kernel
theorem dX8_isSpelled_14 : decode cX8_isSpelled 14 = .ok (.iload_n 2, 1) := by decide +kernel
theorem dX8_isSpelled_15 : decode cX8_isSpelled 15 = .ok (.bipush 26, 2) := by decide +kernel
theorem dX8_isSpelled_17 : decode cX8_isSpelled 17 = .ok (.imul, 1) := by decide +kernel
theorem dX8_isSpelled_18 : decode cX8_isSpelled 18 = .ok (.istore_n 2, 1) := by decide +kernel
theorem dX8_isSpelled_19 : decode cX8_isSpelled 19 = .ok (.iinc 3 1, 3) := by decide +kernel
theorem dX8_isSpelled_22 : decode cX8_isSpelled 22 = .ok (.goto (-18), 3) := by decide +kernel
theorem dX8_isSpelled_25 : decode cX8_isSpelled 25 = .ok (.iload_n 1, 1) := by decide +kernel
theorem dX8_isSpelled_26 : decode cX8_isSpelled 26 = .ok (.iconst 1, 1) := by decide +kernel
theorem dX8_isSpelled_27 : decode cX8_isSpelled 27 = .ok (.iconst 5, 1) := by decide +kernel
theorem dX8_isSpelled_28 : decode cX8_isSpelled 28 = .ok (.invokestatic 114, 3) := by decide +kernel
theorem dX8_isSpelled_31 : decode cX8_isSpelled 31 = .ok (.ifCond .eq 18, 3) := by decide +kernel
theorem dX8_isSpelled_34 : decode cX8_isSpelled 34 = .ok (.iload_n 0, 1) := by decide +kernel
theorem dX8_isSpelled_35 : decode cX8_isSpelled 35 = .ok (.iconst 0, 1) := by decide +kernel
theorem dX8_isSpelled_36 : decode cX8_isSpelled 36 = .ok (.iload_n 2, 1) := by decide +kernel
theorem dX8_isSpelled_37 : decode cX8_isSpelled 37 = .ok (.iconst 1, 1) := by decide +kernel
theorem dX8_isSpelled_38 : decode cX8_isSpelled 38 = .ok (.isub, 1) := by decide +kernel
theorem dX8_isSpelled_39 : decode cX8_isSpelled 39 = .ok (.invokestatic 114, 3) := by decide +kernel
theorem dX8_isSpelled_42 : decode cX8_isSpelled 42 = .ok (.ifCond .eq 7, 3) := by decide +kernel
theorem dX8_isSpelled_45 : decode cX8_isSpelled 45 = .ok (.iconst 1, 1) := by decide +kernel
theorem dX8_isSpelled_46 : decode cX8_isSpelled 46 = .ok (.goto 4, 3) := by decide +kernel
theorem dX8_isSpelled_49 : decode cX8_isSpelled 49 = .ok (.iconst 0, 1) := by decide +kernel
theorem dX8_isSpelled_50 : decode cX8_isSpelled 50 = .ok (.ireturn, 1) := by decide +kernel
theorem dX8_against_0 : decode cX8_against 0 = .ok (.aload_n 0, 1) := by decide +kernel
theorem dX8_against_1 : decode cX8_against 1 = .ok (.iload_n 1, 1) := by decide +kernel
theorem dX8_against_2 : decode cX8_against 2 = .ok (.iload_n 2, 1) := by decide +kernel
theorem dX8_against_3 : decode cX8_against 3 = .ok (.invokevirtual 69, 3) := by decide +kernel
theorem dX8_against_6 : decode cX8_against 6 = .ok (.istore_n 3, 1) := by decide +kernel
theorem dX8_against_7 : decode cX8_against 7 = .ok (.iconst 0, 1) := by decide +kernel
theorem dX8_against_8 : decode cX8_against 8 = .ok (.istore 4, 2) := by decide +kernel
theorem dX8_against_10 : decode cX8_against 10 = .ok (.iload 4, 2) := by decide +kernel
theorem dX8_against_12 : decode cX8_against 12 = .ok (.aload_n 0, 1) := by decide +kernel
theorem dX8_against_13 : decode cX8_against 13 = .ok (.getfield 111, 3) := by decide +kernel
theorem dX8_against_16 : decode cX8_against 16 = .ok (.if_icmp .ge 36, 3) := by decide +kernel
theorem dX8_against_19 : decode cX8_against 19 = .ok (.iload 4, 2) := by decide +kernel
theorem dX8_against_21 : decode cX8_against 21 = .ok (.iload_n 3, 1) := by decide +kernel
theorem dX8_against_22 : decode cX8_against 22 = .ok (.if_icmp .ge 30, 3) := by decide +kernel
theorem dX8_against_25 : decode cX8_against 25 = .ok (.aload_n 0, 1) := by decide +kernel
theorem dX8_against_26 : decode cX8_against 26 = .ok (.getfield 29, 3) := by decide +kernel
theorem dX8_against_29 : decode cX8_against 29 = .ok (.iload 4, 2) := by decide +kernel
theorem dX8_against_31 : decode cX8_against 31 = .ok (.iaload, 1) := by decide +kernel
theorem dX8_against_32 : decode cX8_against 32 = .ok (.aload_n 0, 1) := by decide +kernel
theorem dX8_against_33 : decode cX8_against 33 = .ok (.iload_n 1, 1) := by decide +kernel
theorem dX8_against_34 : decode cX8_against 34 = .ok (.iload_n 2, 1) := by decide +kernel
theorem dX8_against_35 : decode cX8_against 35 = .ok (.iconst 1, 1) := by decide +kernel
theorem dX8_against_36 : decode cX8_against 36 = .ok (.iadd, 1) := by decide +kernel
theorem dX8_against_37 : decode cX8_against 37 = .ok (.iload 4, 2) := by decide +kernel
theorem dX8_against_39 : decode cX8_against 39 = .ok (.iadd, 1) := by decide +kernel
theorem dX8_against_40 : decode cX8_against 40 = .ok (.invokevirtual 69, 3) := by decide +kernel
theorem dX8_against_43 : decode cX8_against 43 = .ok (.if_icmp .ne 9, 3) := by decide +kernel
theorem dX8_against_46 : decode cX8_against 46 = .ok (.iinc 4 1, 3) := by decide +kernel
theorem dX8_against_49 : decode cX8_against 49 = .ok (.goto (-39), 3) := by decide +kernel
theorem dX8_against_52 : decode cX8_against 52 = .ok (.iload 4, 2) := by decide +kernel
theorem dX8_against_54 : decode cX8_against 54 = .ok (.aload_n 0, 1) := by decide +kernel
theorem dX8_against_55 : decode cX8_against 55 = .ok (.getfield 111, 3) := by decide +kernel
theorem dX8_against_58 : decode cX8_against 58 = .ok (.if_icmp .ge 29, 3) := by decide +kernel
theorem dX8_against_61 : decode cX8_against 61 = .ok (.iload 4, 2) := by decide +kernel
theorem dX8_against_63 : decode cX8_against 63 = .ok (.iload_n 3, 1) := by decide +kernel
theorem dX8_against_64 : decode cX8_against 64 = .ok (.if_icmp .ge 23, 3) := by decide +kernel
theorem dX8_against_67 : decode cX8_against 67 = .ok (.aload_n 0, 1) := by decide +kernel
theorem dX8_against_68 : decode cX8_against 68 = .ok (.getfield 29, 3) := by decide +kernel
theorem dX8_against_71 : decode cX8_against 71 = .ok (.iload 4, 2) := by decide +kernel
theorem dX8_against_73 : decode cX8_against 73 = .ok (.iaload, 1) := by decide +kernel
theorem dX8_against_74 : decode cX8_against 74 = .ok (.aload_n 0, 1) := by decide +kernel
theorem dX8_against_75 : decode cX8_against 75 = .ok (.iload_n 1, 1) := by decide +kernel
theorem dX8_against_76 : decode cX8_against 76 = .ok (.iload_n 2, 1) := by decide +kernel
theorem dX8_against_77 : decode cX8_against 77 = .ok (.iconst 1, 1) := by decide +kernel
theorem dX8_against_78 : decode cX8_against 78 = .ok (.iadd, 1) := by decide +kernel
theorem dX8_against_79 : decode cX8_against 79 = .ok (.iload 4, 2) := by decide +kernel
theorem dX8_against_81 : decode cX8_against 81 = .ok (.iadd, 1) := by decide +kernel
theorem dX8_against_82 : decode cX8_against 82 = .ok (.invokevirtual 69, 3) := by decide +kernel
theorem dX8_against_85 : decode cX8_against 85 = .ok (.isub, 1) := by decide +kernel
theorem dX8_against_86 : decode cX8_against 86 = .ok (.ireturn, 1) := by decide +kernel
theorem dX8_against_87 : decode cX8_against 87 = .ok (.aload_n 0, 1) := by decide +kernel
theorem dX8_against_88 : decode cX8_against 88 = .ok (.getfield 111, 3) := by decide +kernel
theorem dX8_against_91 : decode cX8_against 91 = .ok (.iload_n 3, 1) := by decide +kernel
theorem dX8_against_92 : decode cX8_against 92 = .ok (.isub, 1) := by decide +kernel
theorem dX8_against_93 : decode cX8_against 93 = .ok (.ireturn, 1) := by decide +kernel
theorem dX8_goesDown_0 : decode cX8_goesDown 0 = .ok (.aload_n 0, 1) := by decide +kernel
theorem dX8_goesDown_1 : decode cX8_goesDown 1 = .ok (.getfield 118, 3) := by decide +kernel
theorem dX8_goesDown_4 : decode cX8_goesDown 4 = .ok (.istore_n 1, 1) := by decide +kernel
theorem dX8_goesDown_5 : decode cX8_goesDown 5 = .ok (.iconst 0, 1) := by decide +kernel
theorem dX8_goesDown_6 : decode cX8_goesDown 6 = .ok (.istore_n 2, 1) := by decide +kernel
theorem dX8_goesDown_7 : decode cX8_goesDown 7 = .ok (.iload_n 2, 1) := by decide +kernel
theorem dX8_goesDown_8 : decode cX8_goesDown 8 = .ok (.aload_n 0, 1) := by decide +kernel
theorem dX8_goesDown_9 : decode cX8_goesDown 9 = .ok (.getfield 13, 3) := by decide +kernel
theorem dX8_goesDown_12 : decode cX8_goesDown 12 = .ok (.if_icmp .ge 85, 3) := by decide +kernel
theorem dX8_goesDown_15 : decode cX8_goesDown 15 = .ok (.aload_n 0, 1) := by decide +kernel
theorem dX8_goesDown_16 : decode cX8_goesDown 16 = .ok (.getfield 32, 3) := by decide +kernel
theorem dX8_goesDown_19 : decode cX8_goesDown 19 = .ok (.iload_n 2, 1) := by decide +kernel
theorem dX8_goesDown_20 : decode cX8_goesDown 20 = .ok (.iload_n 1, 1) := by decide +kernel
theorem dX8_goesDown_21 : decode cX8_goesDown 21 = .ok (.iastore, 1) := by decide +kernel
theorem dX8_goesDown_22 : decode cX8_goesDown 22 = .ok (.iload_n 2, 1) := by decide +kernel
theorem dX8_goesDown_23 : decode cX8_goesDown 23 = .ok (.aload_n 0, 1) := by decide +kernel
theorem dX8_goesDown_24 : decode cX8_goesDown 24 = .ok (.getfield 13, 3) := by decide +kernel
theorem dX8_goesDown_27 : decode cX8_goesDown 27 = .ok (.iconst 1, 1) := by decide +kernel
theorem dX8_goesDown_28 : decode cX8_goesDown 28 = .ok (.isub, 1) := by decide +kernel
theorem dX8_goesDown_29 : decode cX8_goesDown 29 = .ok (.if_icmp .ge 62, 3) := by decide +kernel
theorem dX8_goesDown_32 : decode cX8_goesDown 32 = .ok (.iconst 0, 1) := by decide +kernel
theorem dX8_goesDown_33 : decode cX8_goesDown 33 = .ok (.istore_n 3, 1) := by decide +kernel
theorem dX8_goesDown_34 : decode cX8_goesDown 34 = .ok (.iconst 3, 1) := by decide +kernel
theorem dX8_goesDown_35 : decode cX8_goesDown 35 = .ok (.istore 4, 2) := by decide +kernel
theorem dX8_goesDown_37 : decode cX8_goesDown 37 = .ok (.iload_n 3, 1) := by decide +kernel
theorem dX8_goesDown_38 : decode cX8_goesDown 38 = .ok (.aload_n 0, 1) := by decide +kernel
theorem dX8_goesDown_39 : decode cX8_goesDown 39 = .ok (.iload_n 1, 1) := by decide +kernel
theorem dX8_goesDown_40 : decode cX8_goesDown 40 = .ok (.iconst 1, 1) := by decide +kernel
theorem dX8_goesDown_41 : decode cX8_goesDown 41 = .ok (.invokevirtual 69, 3) := by decide +kernel
theorem dX8_goesDown_44 : decode cX8_goesDown 44 = .ok (.if_icmp .ge 33, 3) := by decide +kernel
theorem dX8_goesDown_47 : decode cX8_goesDown 47 = .ok (.aload_n 0, 1) := by decide +kernel
theorem dX8_goesDown_48 : decode cX8_goesDown 48 = .ok (.iload_n 1, 1) := by decide +kernel
theorem dX8_goesDown_49 : decode cX8_goesDown 49 = .ok (.iload 4, 2) := by decide +kernel
theorem dX8_goesDown_51 : decode cX8_goesDown 51 = .ok (.invokevirtual 121, 3) := by decide +kernel
theorem dX8_goesDown_54 : decode cX8_goesDown 54 = .ok (.ifCond .lt 23, 3) := by decide +kernel
theorem dX8_goesDown_57 : decode cX8_goesDown 57 = .ok (.iload 4, 2) := by decide +kernel
theorem dX8_goesDown_59 : decode cX8_goesDown 59 = .ok (.aload_n 0, 1) := by decide +kernel
theorem dX8_goesDown_60 : decode cX8_goesDown 60 = .ok (.iload_n 1, 1) := by decide +kernel
theorem dX8_goesDown_61 : decode cX8_goesDown 61 = .ok (.iload 4, 2) := by decide +kernel
theorem dX8_goesDown_63 : decode cX8_goesDown 63 = .ok (.invokevirtual 69, 3) := by decide +kernel
theorem dX8_goesDown_66 : decode cX8_goesDown 66 = .ok (.iconst 2, 1) := by decide +kernel
theorem dX8_goesDown_67 : decode cX8_goesDown 67 = .ok (.iadd, 1) := by decide +kernel
theorem dX8_goesDown_68 : decode cX8_goesDown 68 = .ok (.iadd, 1) := by decide +kernel
theorem dX8_goesDown_69 : decode cX8_goesDown 69 = .ok (.istore 4, 2) := by decide +kernel
theorem dX8_goesDown_71 : decode cX8_goesDown 71 = .ok (.iinc 3 1, 3) := by decide +kernel
theorem dX8_goesDown_74 : decode cX8_goesDown 74 = .ok (.goto (-37), 3) := by decide +kernel
theorem dX8_goesDown_77 : decode cX8_goesDown 77 = .ok (.aload_n 0, 1) := by decide +kernel
theorem dX8_goesDown_78 : decode cX8_goesDown 78 = .ok (.getfield 35, 3) := by decide +kernel
theorem dX8_goesDown_81 : decode cX8_goesDown 81 = .ok (.iload_n 2, 1) := by decide +kernel
theorem dX8_goesDown_82 : decode cX8_goesDown 82 = .ok (.iload_n 3, 1) := by decide +kernel
theorem dX8_goesDown_83 : decode cX8_goesDown 83 = .ok (.iastore, 1) := by decide +kernel
theorem dX8_goesDown_84 : decode cX8_goesDown 84 = .ok (.aload_n 0, 1) := by decide +kernel
theorem dX8_goesDown_85 : decode cX8_goesDown 85 = .ok (.iload_n 1, 1) := by decide +kernel
theorem dX8_goesDown_86 : decode cX8_goesDown 86 = .ok (.iload_n 3, 1) := by decide +kernel
theorem dX8_goesDown_87 : decode cX8_goesDown 87 = .ok (.invokevirtual 124, 3) := by decide +kernel
theorem dX8_goesDown_90 : decode cX8_goesDown 90 = .ok (.istore_n 1, 1) := by decide +kernel
theorem dX8_goesDown_91 : decode cX8_goesDown 91 = .ok (.iinc 2 1, 3) := by decide +kernel
theorem dX8_goesDown_94 : decode cX8_goesDown 94 = .ok (.goto (-87), 3) := by decide +kernel
theorem dX8_goesDown_97 : decode cX8_goesDown 97 = .ok (.return_, 1) := by decide +kernel
theorem dX8_placeIn_0 : decode cX8_placeIn 0 = .ok (.iconst 0, 1) := by decide +kernel
theorem dX8_placeIn_1 : decode cX8_placeIn 1 = .ok (.istore_n 2, 1) := by decide +kernel
theorem dX8_placeIn_2 : decode cX8_placeIn 2 = .ok (.iconst 3, 1) := by decide +kernel
theorem dX8_placeIn_3 : decode cX8_placeIn 3 = .ok (.istore_n 3, 1) := by decide +kernel
theorem dX8_placeIn_4 : decode cX8_placeIn 4 = .ok (.iload_n 2, 1) := by decide +kernel
theorem dX8_placeIn_5 : decode cX8_placeIn 5 = .ok (.aload_n 0, 1) := by decide +kernel
theorem dX8_placeIn_6 : decode cX8_placeIn 6 = .ok (.iload_n 1, 1) := by decide +kernel
theorem dX8_placeIn_7 : decode cX8_placeIn 7 = .ok (.iconst 1, 1) := by decide +kernel
theorem dX8_placeIn_8 : decode cX8_placeIn 8 = .ok (.invokevirtual 69, 3) := by decide +kernel
theorem dX8_placeIn_11 : decode cX8_placeIn 11 = .ok (.if_icmp .ge 29, 3) := by decide +kernel
theorem dX8_placeIn_14 : decode cX8_placeIn 14 = .ok (.aload_n 0, 1) := by decide +kernel
theorem dX8_placeIn_15 : decode cX8_placeIn 15 = .ok (.iload_n 1, 1) := by decide +kernel
theorem dX8_placeIn_16 : decode cX8_placeIn 16 = .ok (.iload_n 3, 1) := by decide +kernel
theorem dX8_placeIn_17 : decode cX8_placeIn 17 = .ok (.invokevirtual 121, 3) := by decide +kernel
theorem dX8_placeIn_20 : decode cX8_placeIn 20 = .ok (.ifCond .le 20, 3) := by decide +kernel
theorem dX8_placeIn_23 : decode cX8_placeIn 23 = .ok (.iload_n 3, 1) := by decide +kernel
theorem dX8_placeIn_24 : decode cX8_placeIn 24 = .ok (.aload_n 0, 1) := by decide +kernel
theorem dX8_placeIn_25 : decode cX8_placeIn 25 = .ok (.iload_n 1, 1) := by decide +kernel
theorem dX8_placeIn_26 : decode cX8_placeIn 26 = .ok (.iload_n 3, 1) := by decide +kernel
theorem dX8_placeIn_27 : decode cX8_placeIn 27 = .ok (.invokevirtual 69, 3) := by decide +kernel
theorem dX8_placeIn_30 : decode cX8_placeIn 30 = .ok (.iconst 2, 1) := by decide +kernel
theorem dX8_placeIn_31 : decode cX8_placeIn 31 = .ok (.iadd, 1) := by decide +kernel
theorem dX8_placeIn_32 : decode cX8_placeIn 32 = .ok (.iadd, 1) := by decide +kernel
theorem dX8_placeIn_33 : decode cX8_placeIn 33 = .ok (.istore_n 3, 1) := by decide +kernel
theorem dX8_placeIn_34 : decode cX8_placeIn 34 = .ok (.iinc 2 1, 3) := by decide +kernel
theorem dX8_placeIn_37 : decode cX8_placeIn 37 = .ok (.goto (-33), 3) := by decide +kernel
theorem dX8_placeIn_40 : decode cX8_placeIn 40 = .ok (.iload_n 2, 1) := by decide +kernel
theorem dX8_placeIn_41 : decode cX8_placeIn 41 = .ok (.ireturn, 1) := by decide +kernel
theorem dX8_isAt_0 : decode cX8_isAt 0 = .ok (.iload_n 2, 1) := by decide +kernel
theorem dX8_isAt_1 : decode cX8_isAt 1 = .ok (.aload_n 0, 1) := by decide +kernel
theorem dX8_isAt_2 : decode cX8_isAt 2 = .ok (.iload_n 1, 1) := by decide +kernel
theorem dX8_isAt_3 : decode cX8_isAt 3 = .ok (.iconst 1, 1) := by decide +kernel
theorem dX8_isAt_4 : decode cX8_isAt 4 = .ok (.invokevirtual 69, 3) := by decide +kernel
theorem dX8_isAt_7 : decode cX8_isAt 7 = .ok (.if_icmp .ge 21, 3) := by decide +kernel
theorem dX8_isAt_10 : decode cX8_isAt 10 = .ok (.aload_n 0, 1) := by decide +kernel
theorem dX8_isAt_11 : decode cX8_isAt 11 = .ok (.iload_n 1, 1) := by decide +kernel
theorem dX8_isAt_12 : decode cX8_isAt 12 = .ok (.aload_n 0, 1) := by decide +kernel
theorem dX8_isAt_13 : decode cX8_isAt 13 = .ok (.iload_n 1, 1) := by decide +kernel
theorem dX8_isAt_14 : decode cX8_isAt 14 = .ok (.iload_n 2, 1) := by decide +kernel
theorem dX8_isAt_15 : decode cX8_isAt 15 = .ok (.invokevirtual 73, 3) := by decide +kernel
theorem dX8_isAt_18 : decode cX8_isAt 18 = .ok (.invokevirtual 121, 3) := by decide +kernel
theorem dX8_isAt_21 : decode cX8_isAt 21 = .ok (.ifCond .ne 7, 3) := by decide +kernel
theorem dX8_isAt_24 : decode cX8_isAt 24 = .ok (.iconst 1, 1) := by decide +kernel
theorem dX8_isAt_25 : decode cX8_isAt 25 = .ok (.goto 4, 3) := by decide +kernel
theorem dX8_isAt_28 : decode cX8_isAt 28 = .ok (.iconst 0, 1) := by decide +kernel
theorem dX8_isAt_29 : decode cX8_isAt 29 = .ok (.ireturn, 1) := by decide +kernel
theorem dX8_tellAt_0 : decode cX8_tellAt 0 = .ok (.aload_n 0, 1) := by decide +kernel
theorem dX8_tellAt_1 : decode cX8_tellAt 1 = .ok (.iload_n 1, 1) := by decide +kernel
theorem dX8_tellAt_2 : decode cX8_tellAt 2 = .ok (.iload_n 2, 1) := by decide +kernel
theorem dX8_tellAt_3 : decode cX8_tellAt 3 = .ok (.invokevirtual 73, 3) := by decide +kernel
theorem dX8_tellAt_6 : decode cX8_tellAt 6 = .ok (.istore_n 3, 1) := by decide +kernel
theorem dX8_tellAt_7 : decode cX8_tellAt 7 = .ok (.bipush 64, 2) := by decide +kernel
theorem dX8_tellAt_9 : decode cX8_tellAt 9 = .ok (.iload_n 1, 1) := by decide +kernel
theorem dX8_tellAt_10 : decode cX8_tellAt 10 = .ok (.imul, 1) := by decide +kernel
theorem dX8_tellAt_11 : decode cX8_tellAt 11 = .ok (.iload_n 3, 1) := by decide +kernel
theorem dX8_tellAt_12 : decode cX8_tellAt 12 = .ok (.iadd, 1) := by decide +kernel
theorem dX8_tellAt_13 : decode cX8_tellAt 13 = .ok (.aload_n 0, 1) := by decide +kernel
theorem dX8_tellAt_14 : decode cX8_tellAt 14 = .ok (.iload_n 1, 1) := by decide +kernel
theorem dX8_tellAt_15 : decode cX8_tellAt 15 = .ok (.iload_n 3, 1) := by decide +kernel
theorem dX8_tellAt_16 : decode cX8_tellAt 16 = .ok (.invokevirtual 69, 3) := by decide +kernel
theorem dX8_tellAt_19 : decode cX8_tellAt 19 = .ok (.iadd, 1) := by decide +kernel
theorem dX8_tellAt_20 : decode cX8_tellAt 20 = .ok (.iconst 1, 1) := by decide +kernel
theorem dX8_tellAt_21 : decode cX8_tellAt 21 = .ok (.iadd, 1) := by decide +kernel
theorem dX8_tellAt_22 : decode cX8_tellAt 22 = .ok (.ireturn, 1) := by decide +kernel
theorem dX8_valueOf_0 : decode cX8_valueOf 0 = .ok (.aload_n 0, 1) := by decide +kernel
theorem dX8_valueOf_1 : decode cX8_valueOf 1 = .ok (.invokevirtual 127, 3) := by decide +kernel
theorem dX8_valueOf_4 : decode cX8_valueOf 4 = .ok (.aload_n 0, 1) := by decide +kernel
theorem dX8_valueOf_5 : decode cX8_valueOf 5 = .ok (.getfield 32, 3) := by decide +kernel
theorem dX8_valueOf_8 : decode cX8_valueOf 8 = .ok (.aload_n 0, 1) := by decide +kernel
theorem dX8_valueOf_9 : decode cX8_valueOf 9 = .ok (.getfield 13, 3) := by decide +kernel
theorem dX8_valueOf_12 : decode cX8_valueOf 12 = .ok (.iconst 1, 1) := by decide +kernel
theorem dX8_valueOf_13 : decode cX8_valueOf 13 = .ok (.isub, 1) := by decide +kernel
theorem dX8_valueOf_14 : decode cX8_valueOf 14 = .ok (.iaload, 1) := by decide +kernel
theorem dX8_valueOf_15 : decode cX8_valueOf 15 = .ok (.istore_n 1, 1) := by decide +kernel
theorem dX8_valueOf_16 : decode cX8_valueOf 16 = .ok (.aload_n 0, 1) := by decide +kernel
theorem dX8_valueOf_17 : decode cX8_valueOf 17 = .ok (.iload_n 1, 1) := by decide +kernel
theorem dX8_valueOf_18 : decode cX8_valueOf 18 = .ok (.invokevirtual 130, 3) := by decide +kernel
theorem dX8_valueOf_21 : decode cX8_valueOf 21 = .ok (.istore_n 2, 1) := by decide +kernel
theorem dX8_valueOf_22 : decode cX8_valueOf 22 = .ok (.aload_n 0, 1) := by decide +kernel
theorem dX8_valueOf_23 : decode cX8_valueOf 23 = .ok (.iload_n 1, 1) := by decide +kernel
theorem dX8_valueOf_24 : decode cX8_valueOf 24 = .ok (.iload_n 2, 1) := by decide +kernel
theorem dX8_valueOf_25 : decode cX8_valueOf 25 = .ok (.invokevirtual 133, 3) := by decide +kernel
theorem dX8_valueOf_28 : decode cX8_valueOf 28 = .ok (.ifCond .eq 17, 3) := by decide +kernel
theorem dX8_valueOf_31 : decode cX8_valueOf 31 = .ok (.aload_n 0, 1) := by decide +kernel
theorem dX8_valueOf_32 : decode cX8_valueOf 32 = .ok (.getfield 7, 3) := by decide +kernel
theorem dX8_valueOf_35 : decode cX8_valueOf 35 = .ok (.aload_n 0, 1) := by decide +kernel
theorem dX8_valueOf_36 : decode cX8_valueOf 36 = .ok (.iload_n 1, 1) := by decide +kernel
theorem dX8_valueOf_37 : decode cX8_valueOf 37 = .ok (.iload_n 2, 1) := by decide +kernel
theorem dX8_valueOf_38 : decode cX8_valueOf 38 = .ok (.invokevirtual 137, 3) := by decide +kernel
theorem dX8_valueOf_41 : decode cX8_valueOf 41 = .ok (.iaload, 1) := by decide +kernel
theorem dX8_valueOf_42 : decode cX8_valueOf 42 = .ok (.goto 5, 3) := by decide +kernel
theorem dX8_valueOf_45 : decode cX8_valueOf 45 = .ok (.bipush (-9), 2) := by decide +kernel
theorem dX8_valueOf_47 : decode cX8_valueOf 47 = .ok (.ireturn, 1) := by decide +kernel
theorem dX8_putKey_0 : decode cX8_putKey 0 = .ok (.aload_n 0, 1) := by decide +kernel
theorem dX8_putKey_1 : decode cX8_putKey 1 = .ok (.invokevirtual 127, 3) := by decide +kernel
theorem dX8_putKey_4 : decode cX8_putKey 4 = .ok (.aload_n 0, 1) := by decide +kernel
theorem dX8_putKey_5 : decode cX8_putKey 5 = .ok (.getfield 13, 3) := by decide +kernel
theorem dX8_putKey_8 : decode cX8_putKey 8 = .ok (.iconst 1, 1) := by decide +kernel
theorem dX8_putKey_9 : decode cX8_putKey 9 = .ok (.isub, 1) := by decide +kernel
theorem dX8_putKey_10 : decode cX8_putKey 10 = .ok (.istore_n 2, 1) := by decide +kernel
theorem dX8_putKey_11 : decode cX8_putKey 11 = .ok (.aload_n 0, 1) := by decide +kernel
theorem dX8_putKey_12 : decode cX8_putKey 12 = .ok (.getfield 32, 3) := by decide +kernel
theorem dX8_putKey_15 : decode cX8_putKey 15 = .ok (.iload_n 2, 1) := by decide +kernel
theorem dX8_putKey_16 : decode cX8_putKey 16 = .ok (.iaload, 1) := by decide +kernel
theorem dX8_putKey_17 : decode cX8_putKey 17 = .ok (.istore_n 3, 1) := by decide +kernel
theorem dX8_putKey_18 : decode cX8_putKey 18 = .ok (.aload_n 0, 1) := by decide +kernel
theorem dX8_putKey_19 : decode cX8_putKey 19 = .ok (.iload_n 3, 1) := by decide +kernel
theorem dX8_putKey_20 : decode cX8_putKey 20 = .ok (.invokevirtual 130, 3) := by decide +kernel
theorem dX8_putKey_23 : decode cX8_putKey 23 = .ok (.istore 4, 2) := by decide +kernel
theorem dX8_putKey_25 : decode cX8_putKey 25 = .ok (.aload_n 0, 1) := by decide +kernel
theorem dX8_putKey_26 : decode cX8_putKey 26 = .ok (.iload_n 3, 1) := by decide +kernel
theorem dX8_putKey_27 : decode cX8_putKey 27 = .ok (.iload 4, 2) := by decide +kernel
theorem dX8_putKey_29 : decode cX8_putKey 29 = .ok (.invokevirtual 133, 3) := by decide +kernel
theorem dX8_putKey_32 : decode cX8_putKey 32 = .ok (.ifCond .eq 33, 3) := by decide +kernel
theorem dX8_putKey_35 : decode cX8_putKey 35 = .ok (.aload_n 0, 1) := by decide +kernel
theorem dX8_putKey_36 : decode cX8_putKey 36 = .ok (.getfield 7, 3) := by decide +kernel
theorem dX8_putKey_39 : decode cX8_putKey 39 = .ok (.aload_n 0, 1) := by decide +kernel
theorem dX8_putKey_40 : decode cX8_putKey 40 = .ok (.iload_n 3, 1) := by decide +kernel
theorem dX8_putKey_41 : decode cX8_putKey 41 = .ok (.iload 4, 2) := by decide +kernel
theorem dX8_putKey_43 : decode cX8_putKey 43 = .ok (.invokevirtual 137, 3) := by decide +kernel
theorem dX8_putKey_46 : decode cX8_putKey 46 = .ok (.iaload, 1) := by decide +kernel
theorem dX8_putKey_47 : decode cX8_putKey 47 = .ok (.istore 5, 2) := by decide +kernel
theorem dX8_putKey_49 : decode cX8_putKey 49 = .ok (.aload_n 0, 1) := by decide +kernel
theorem dX8_putKey_50 : decode cX8_putKey 50 = .ok (.getfield 7, 3) := by decide +kernel
theorem dX8_putKey_53 : decode cX8_putKey 53 = .ok (.aload_n 0, 1) := by decide +kernel
theorem dX8_putKey_54 : decode cX8_putKey 54 = .ok (.iload_n 3, 1) := by decide +kernel
theorem dX8_putKey_55 : decode cX8_putKey 55 = .ok (.iload 4, 2) := by decide +kernel
theorem dX8_putKey_57 : decode cX8_putKey 57 = .ok (.invokevirtual 137, 3) := by decide +kernel
theorem dX8_putKey_60 : decode cX8_putKey 60 = .ok (.iload_n 1, 1) := by decide +kernel
theorem dX8_putKey_61 : decode cX8_putKey 61 = .ok (.iastore, 1) := by decide +kernel
theorem dX8_putKey_62 : decode cX8_putKey 62 = .ok (.iload 5, 2) := by decide +kernel
theorem dX8_putKey_64 : decode cX8_putKey 64 = .ok (.ireturn, 1) := by decide +kernel
theorem dX8_putKey_65 : decode cX8_putKey 65 = .ok (.aload_n 0, 1) := by decide +kernel
theorem dX8_putKey_66 : decode cX8_putKey 66 = .ok (.invokevirtual 140, 3) := by decide +kernel
theorem dX8_putKey_69 : decode cX8_putKey 69 = .ok (.aload_n 0, 1) := by decide +kernel
theorem dX8_putKey_70 : decode cX8_putKey 70 = .ok (.getfield 13, 3) := by decide +kernel
theorem dX8_putKey_73 : decode cX8_putKey 73 = .ok (.if_icmp .gt 6, 3) := by decide +kernel
theorem dX8_putKey_76 : decode cX8_putKey 76 = .ok (.bipush (-3), 2) := by decide +kernel
theorem dX8_putKey_78 : decode cX8_putKey 78 = .ok (.ireturn, 1) := by decide +kernel
theorem dX8_putKey_79 : decode cX8_putKey 79 = .ok (.aload_n 0, 1) := by decide +kernel
theorem dX8_putKey_80 : decode cX8_putKey 80 = .ok (.iconst 0, 1) := by decide +kernel
theorem dX8_putKey_81 : decode cX8_putKey 81 = .ok (.putfield 76, 3) := by decide +kernel
theorem dX8_putKey_84 : decode cX8_putKey 84 = .ok (.aload_n 0, 1) := by decide +kernel
theorem dX8_putKey_85 : decode cX8_putKey 85 = .ok (.iload_n 3, 1) := by decide +kernel
theorem dX8_putKey_86 : decode cX8_putKey 86 = .ok (.invokevirtual 143, 3) := by decide +kernel
theorem dX8_putKey_89 : decode cX8_putKey 89 = .ok (.aload_n 0, 1) := by decide +kernel
theorem dX8_putKey_90 : decode cX8_putKey 90 = .ok (.iload 4, 2) := by decide +kernel
theorem dX8_putKey_92 : decode cX8_putKey 92 = .ok (.aload_n 0, 1) := by decide +kernel
theorem dX8_putKey_93 : decode cX8_putKey 93 = .ok (.getfield 29, 3) := by decide +kernel
theorem dX8_putKey_96 : decode cX8_putKey 96 = .ok (.aload_n 0, 1) := by decide +kernel
theorem dX8_putKey_97 : decode cX8_putKey 97 = .ok (.getfield 111, 3) := by decide +kernel
theorem dX8_putKey_100 : decode cX8_putKey 100 = .ok (.iload_n 1, 1) := by decide +kernel
theorem dX8_putKey_101 : decode cX8_putKey 101 = .ok (.invokevirtual 146, 3) := by decide +kernel
theorem dX8_putKey_104 : decode cX8_putKey 104 = .ok (.aload_n 0, 1) := by decide +kernel
theorem dX8_putKey_105 : decode cX8_putKey 105 = .ok (.iconst 0, 1) := by decide +kernel
theorem dX8_putKey_106 : decode cX8_putKey 106 = .ok (.aload_n 0, 1) := by decide +kernel
theorem dX8_putKey_107 : decode cX8_putKey 107 = .ok (.getfield 76, 3) := by decide +kernel
theorem dX8_putKey_110 : decode cX8_putKey 110 = .ok (.invokevirtual 87, 3) := by decide +kernel
theorem dX8_putKey_113 : decode cX8_putKey 113 = .ok (.bipush 61, 2) := by decide +kernel
theorem dX8_putKey_115 : decode cX8_putKey 115 = .ok (.if_icmp .le 105, 3) := by decide +kernel
theorem dX8_putKey_118 : decode cX8_putKey 118 = .ok (.aload_n 0, 1) := by decide +kernel
theorem dX8_putKey_119 : decode cX8_putKey 119 = .ok (.iload_n 3, 1) := by decide +kernel
theorem dX8_putKey_120 : decode cX8_putKey 120 = .ok (.iconst 0, 1) := by decide +kernel
theorem dX8_putKey_121 : decode cX8_putKey 121 = .ok (.invokevirtual 69, 3) := by decide +kernel
theorem dX8_putKey_124 : decode cX8_putKey 124 = .ok (.istore 5, 2) := by decide +kernel
theorem dX8_putKey_126 : decode cX8_putKey 126 = .ok (.aload_n 0, 1) := by decide +kernel
theorem dX8_putKey_127 : decode cX8_putKey 127 = .ok (.invokevirtual 150, 3) := by decide +kernel
theorem dX8_putKey_130 : decode cX8_putKey 130 = .ok (.istore 6, 2) := by decide +kernel
theorem dX8_putKey_132 : decode cX8_putKey 132 = .ok (.aload_n 0, 1) := by decide +kernel
theorem dX8_putKey_133 : decode cX8_putKey 133 = .ok (.iload_n 3, 1) := by decide +kernel
theorem dX8_putKey_134 : decode cX8_putKey 134 = .ok (.iload 6, 2) := by decide +kernel
theorem dX8_putKey_136 : decode cX8_putKey 136 = .ok (.iload 5, 2) := by decide +kernel
theorem dX8_putKey_138 : decode cX8_putKey 138 = .ok (.aload_n 0, 1) := by decide +kernel
theorem dX8_putKey_139 : decode cX8_putKey 139 = .ok (.iload_n 3, 1) := by decide +kernel
theorem dX8_putKey_140 : decode cX8_putKey 140 = .ok (.iconst 2, 1) := by decide +kernel
theorem dX8_putKey_141 : decode cX8_putKey 141 = .ok (.invokevirtual 69, 3) := by decide +kernel
theorem dX8_putKey_144 : decode cX8_putKey 144 = .ok (.aload_n 0, 1) := by decide +kernel
theorem dX8_putKey_145 : decode cX8_putKey 145 = .ok (.iload_n 3, 1) := by decide +kernel
theorem dX8_putKey_146 : decode cX8_putKey 146 = .ok (.iconst 2, 1) := by decide +kernel
theorem dX8_putKey_147 : decode cX8_putKey 147 = .ok (.invokevirtual 69, 3) := by decide +kernel
theorem dX8_putKey_150 : decode cX8_putKey 150 = .ok (.invokevirtual 153, 3) := by decide +kernel
theorem dX8_putKey_153 : decode cX8_putKey 153 = .ok (.aload_n 0, 1) := by decide +kernel
theorem dX8_putKey_154 : decode cX8_putKey 154 = .ok (.dup, 1) := by decide +kernel
theorem dX8_putKey_155 : decode cX8_putKey 155 = .ok (.getfield 156, 3) := by decide +kernel
theorem dX8_putKey_158 : decode cX8_putKey 158 = .ok (.iconst 1, 1) := by decide +kernel
theorem dX8_putKey_159 : decode cX8_putKey 159 = .ok (.iadd, 1) := by decide +kernel
theorem dX8_putKey_160 : decode cX8_putKey 160 = .ok (.putfield 156, 3) := by decide +kernel
theorem dX8_putKey_163 : decode cX8_putKey 163 = .ok (.iload_n 2, 1) := by decide +kernel
theorem dX8_putKey_164 : decode cX8_putKey 164 = .ok (.ifCond .ne 13, 3) := by decide +kernel
theorem dX8_putKey_167 : decode cX8_putKey 167 = .ok (.aload_n 0, 1) := by decide +kernel
theorem dX8_putKey_168 : decode cX8_putKey 168 = .ok (.iload_n 3, 1) := by decide +kernel
theorem dX8_putKey_169 : decode cX8_putKey 169 = .ok (.iload 6, 2) := by decide +kernel
theorem dX8_putKey_171 : decode cX8_putKey 171 = .ok (.invokevirtual 159, 3) := by decide +kernel
theorem dX8_putKey_174 : decode cX8_putKey 174 = .ok (.bipush (-9), 2) := by decide +kernel
theorem dX8_putKey_176 : decode cX8_putKey 176 = .ok (.ireturn, 1) := by decide +kernel
theorem dX8_putKey_177 : decode cX8_putKey 177 = .ok (.iinc 2 (-1), 3) := by decide +kernel
theorem dX8_putKey_180 : decode cX8_putKey 180 = .ok (.aload_n 0, 1) := by decide +kernel
theorem dX8_putKey_181 : decode cX8_putKey 181 = .ok (.getfield 32, 3) := by decide +kernel
theorem dX8_putKey_184 : decode cX8_putKey 184 = .ok (.iload_n 2, 1) := by decide +kernel
theorem dX8_putKey_185 : decode cX8_putKey 185 = .ok (.iaload, 1) := by decide +kernel
theorem dX8_putKey_186 : decode cX8_putKey 186 = .ok (.istore_n 3, 1) := by decide +kernel
theorem dX8_putKey_187 : decode cX8_putKey 187 = .ok (.aload_n 0, 1) := by decide +kernel
theorem dX8_putKey_188 : decode cX8_putKey 188 = .ok (.iconst 0, 1) := by decide +kernel
theorem dX8_putKey_189 : decode cX8_putKey 189 = .ok (.putfield 76, 3) := by decide +kernel
theorem dX8_putKey_192 : decode cX8_putKey 192 = .ok (.aload_n 0, 1) := by decide +kernel
theorem dX8_putKey_193 : decode cX8_putKey 193 = .ok (.iload_n 3, 1) := by decide +kernel
theorem dX8_putKey_194 : decode cX8_putKey 194 = .ok (.invokevirtual 143, 3) := by decide +kernel
theorem dX8_putKey_197 : decode cX8_putKey 197 = .ok (.aload_n 0, 1) := by decide +kernel
theorem dX8_putKey_198 : decode cX8_putKey 198 = .ok (.aload_n 0, 1) := by decide +kernel
theorem dX8_putKey_199 : decode cX8_putKey 199 = .ok (.getfield 35, 3) := by decide +kernel
theorem dX8_putKey_202 : decode cX8_putKey 202 = .ok (.iload_n 2, 1) := by decide +kernel
theorem dX8_putKey_203 : decode cX8_putKey 203 = .ok (.iaload, 1) := by decide +kernel
theorem dX8_putKey_204 : decode cX8_putKey 204 = .ok (.aload_n 0, 1) := by decide +kernel
theorem dX8_putKey_205 : decode cX8_putKey 205 = .ok (.getfield 26, 3) := by decide +kernel
theorem dX8_putKey_208 : decode cX8_putKey 208 = .ok (.aload_n 0, 1) := by decide +kernel
theorem dX8_putKey_209 : decode cX8_putKey 209 = .ok (.getfield 90, 3) := by decide +kernel
theorem dX8_putKey_212 : decode cX8_putKey 212 = .ok (.iload 6, 2) := by decide +kernel
theorem dX8_putKey_214 : decode cX8_putKey 214 = .ok (.invokevirtual 146, 3) := by decide +kernel
theorem dX8_putKey_217 : decode cX8_putKey 217 = .ok (.goto (-113), 3) := by decide +kernel
theorem dX8_putKey_220 : decode cX8_putKey 220 = .ok (.aload_n 0, 1) := by decide +kernel
theorem dX8_putKey_221 : decode cX8_putKey 221 = .ok (.iload_n 3, 1) := by decide +kernel
theorem dX8_putKey_222 : decode cX8_putKey 222 = .ok (.aload_n 0, 1) := by decide +kernel
theorem dX8_putKey_223 : decode cX8_putKey 223 = .ok (.iload_n 3, 1) := by decide +kernel
theorem dX8_putKey_224 : decode cX8_putKey 224 = .ok (.iconst 0, 1) := by decide +kernel
theorem dX8_putKey_225 : decode cX8_putKey 225 = .ok (.invokevirtual 69, 3) := by decide +kernel
theorem dX8_putKey_228 : decode cX8_putKey 228 = .ok (.aload_n 0, 1) := by decide +kernel
theorem dX8_putKey_229 : decode cX8_putKey 229 = .ok (.iload_n 3, 1) := by decide +kernel
theorem dX8_putKey_230 : decode cX8_putKey 230 = .ok (.iconst 2, 1) := by decide +kernel
theorem dX8_putKey_231 : decode cX8_putKey 231 = .ok (.invokevirtual 69, 3) := by decide +kernel
theorem dX8_putKey_234 : decode cX8_putKey 234 = .ok (.iconst 0, 1) := by decide +kernel
theorem dX8_putKey_235 : decode cX8_putKey 235 = .ok (.aload_n 0, 1) := by decide +kernel
theorem dX8_putKey_236 : decode cX8_putKey 236 = .ok (.getfield 76, 3) := by decide +kernel
theorem dX8_putKey_239 : decode cX8_putKey 239 = .ok (.invokevirtual 107, 3) := by decide +kernel
theorem dX8_putKey_242 : decode cX8_putKey 242 = .ok (.bipush (-9), 2) := by decide +kernel
theorem dX8_putKey_244 : decode cX8_putKey 244 = .ok (.ireturn, 1) := by decide +kernel
theorem dX8_newRoot_0 : decode cX8_newRoot 0 = .ok (.aload_n 0, 1) := by decide +kernel
theorem dX8_newRoot_1 : decode cX8_newRoot 1 = .ok (.aload_n 0, 1) := by decide +kernel
theorem dX8_newRoot_2 : decode cX8_newRoot 2 = .ok (.invokevirtual 150, 3) := by decide +kernel
theorem dX8_newRoot_5 : decode cX8_newRoot 5 = .ok (.putfield 118, 3) := by decide +kernel
theorem dX8_newRoot_8 : decode cX8_newRoot 8 = .ok (.aload_n 0, 1) := by decide +kernel
theorem dX8_newRoot_9 : decode cX8_newRoot 9 = .ok (.dup, 1) := by decide +kernel
theorem dX8_newRoot_10 : decode cX8_newRoot 10 = .ok (.getfield 13, 3) := by decide +kernel
theorem dX8_newRoot_13 : decode cX8_newRoot 13 = .ok (.iconst 1, 1) := by decide +kernel
theorem dX8_newRoot_14 : decode cX8_newRoot 14 = .ok (.iadd, 1) := by decide +kernel
theorem dX8_newRoot_15 : decode cX8_newRoot 15 = .ok (.putfield 13, 3) := by decide +kernel
theorem dX8_newRoot_18 : decode cX8_newRoot 18 = .ok (.aload_n 0, 1) := by decide +kernel
theorem dX8_newRoot_19 : decode cX8_newRoot 19 = .ok (.iconst 0, 1) := by decide +kernel
theorem dX8_newRoot_20 : decode cX8_newRoot 20 = .ok (.putfield 76, 3) := by decide +kernel
theorem dX8_newRoot_23 : decode cX8_newRoot 23 = .ok (.aload_n 0, 1) := by decide +kernel
theorem dX8_newRoot_24 : decode cX8_newRoot 24 = .ok (.iconst 0, 1) := by decide +kernel
theorem dX8_newRoot_25 : decode cX8_newRoot 25 = .ok (.aload_n 0, 1) := by decide +kernel
theorem dX8_newRoot_26 : decode cX8_newRoot 26 = .ok (.getfield 26, 3) := by decide +kernel
theorem dX8_newRoot_29 : decode cX8_newRoot 29 = .ok (.aload_n 0, 1) := by decide +kernel
theorem dX8_newRoot_30 : decode cX8_newRoot 30 = .ok (.getfield 90, 3) := by decide +kernel
theorem dX8_newRoot_33 : decode cX8_newRoot 33 = .ok (.iload_n 2, 1) := by decide +kernel
theorem dX8_newRoot_34 : decode cX8_newRoot 34 = .ok (.invokevirtual 146, 3) := by decide +kernel
theorem dX8_newRoot_37 : decode cX8_newRoot 37 = .ok (.aload_n 0, 1) := by decide +kernel
theorem dX8_newRoot_38 : decode cX8_newRoot 38 = .ok (.aload_n 0, 1) := by decide +kernel
theorem dX8_newRoot_39 : decode cX8_newRoot 39 = .ok (.getfield 118, 3) := by decide +kernel
theorem dX8_newRoot_42 : decode cX8_newRoot 42 = .ok (.iconst 2, 1) := by decide +kernel
theorem dX8_newRoot_43 : decode cX8_newRoot 43 = .ok (.iload_n 1, 1) := by decide +kernel
theorem dX8_newRoot_44 : decode cX8_newRoot 44 = .ok (.iconst 0, 1) := by decide +kernel
theorem dX8_newRoot_45 : decode cX8_newRoot 45 = .ok (.iconst 1, 1) := by decide +kernel
theorem dX8_newRoot_46 : decode cX8_newRoot 46 = .ok (.invokevirtual 107, 3) := by decide +kernel
theorem dX8_newRoot_49 : decode cX8_newRoot 49 = .ok (.return_, 1) := by decide +kernel
theorem dX8_put_0 : decode cX8_put 0 = .ok (.iload_n 1, 1) := by decide +kernel
theorem dX8_put_1 : decode cX8_put 1 = .ok (.iload_n 2, 1) := by decide +kernel
theorem dX8_put_2 : decode cX8_put 2 = .ok (.invokestatic 162, 3) := by decide +kernel
theorem dX8_put_5 : decode cX8_put 5 = .ok (.ifCond .eq 14, 3) := by decide +kernel
theorem dX8_put_8 : decode cX8_put 8 = .ok (.iload_n 3, 1) := by decide +kernel
theorem dX8_put_9 : decode cX8_put 9 = .ok (.iconst 0, 1) := by decide +kernel
theorem dX8_put_10 : decode cX8_put 10 = .ok (.sipush 255, 3) := by decide +kernel
theorem dX8_put_13 : decode cX8_put 13 = .ok (.invokestatic 114, 3) := by decide +kernel
theorem dX8_put_16 : decode cX8_put 16 = .ok (.ifCond .ne 5, 3) := by decide +kernel
theorem dX8_put_19 : decode cX8_put 19 = .ok (.iconst (-1), 1) := by decide +kernel
theorem dX8_put_20 : decode cX8_put 20 = .ok (.ireturn, 1) := by decide +kernel
theorem dX8_put_21 : decode cX8_put 21 = .ok (.aload_n 0, 1) := by decide +kernel
theorem dX8_put_22 : decode cX8_put 22 = .ok (.iload_n 1, 1) := by decide +kernel
theorem dX8_put_23 : decode cX8_put 23 = .ok (.iload_n 2, 1) := by decide +kernel
theorem dX8_put_24 : decode cX8_put 24 = .ok (.invokevirtual 165, 3) := by decide +kernel
theorem dX8_put_27 : decode cX8_put 27 = .ok (.aload_n 0, 1) := by decide +kernel
theorem dX8_put_28 : decode cX8_put 28 = .ok (.iload_n 3, 1) := by decide +kernel
theorem dX8_put_29 : decode cX8_put 29 = .ok (.invokevirtual 168, 3) := by decide +kernel
theorem dX8_put_32 : decode cX8_put 32 = .ok (.ireturn, 1) := by decide +kernel
theorem dX8_takeKey_0 : decode cX8_takeKey 0 = .ok (.aload_n 0, 1) := by decide +kernel
theorem dX8_takeKey_1 : decode cX8_takeKey 1 = .ok (.invokevirtual 127, 3) := by decide +kernel
theorem dX8_takeKey_4 : decode cX8_takeKey 4 = .ok (.aload_n 0, 1) := by decide +kernel
theorem dX8_takeKey_5 : decode cX8_takeKey 5 = .ok (.getfield 13, 3) := by decide +kernel
theorem dX8_takeKey_8 : decode cX8_takeKey 8 = .ok (.iconst 1, 1) := by decide +kernel
theorem dX8_takeKey_9 : decode cX8_takeKey 9 = .ok (.isub, 1) := by decide +kernel
theorem dX8_takeKey_10 : decode cX8_takeKey 10 = .ok (.istore_n 1, 1) := by decide +kernel
theorem dX8_takeKey_11 : decode cX8_takeKey 11 = .ok (.aload_n 0, 1) := by decide +kernel
theorem dX8_takeKey_12 : decode cX8_takeKey 12 = .ok (.getfield 32, 3) := by decide +kernel
theorem dX8_takeKey_15 : decode cX8_takeKey 15 = .ok (.iload_n 1, 1) := by decide +kernel
theorem dX8_takeKey_16 : decode cX8_takeKey 16 = .ok (.iaload, 1) := by decide +kernel
theorem dX8_takeKey_17 : decode cX8_takeKey 17 = .ok (.istore_n 2, 1) := by decide +kernel
theorem dX8_takeKey_18 : decode cX8_takeKey 18 = .ok (.aload_n 0, 1) := by decide +kernel
theorem dX8_takeKey_19 : decode cX8_takeKey 19 = .ok (.iload_n 2, 1) := by decide +kernel
theorem dX8_takeKey_20 : decode cX8_takeKey 20 = .ok (.invokevirtual 130, 3) := by decide +kernel
theorem dX8_takeKey_23 : decode cX8_takeKey 23 = .ok (.istore_n 3, 1) := by decide +kernel
theorem dX8_takeKey_24 : decode cX8_takeKey 24 = .ok (.aload_n 0, 1) := by decide +kernel
theorem dX8_takeKey_25 : decode cX8_takeKey 25 = .ok (.iload_n 2, 1) := by decide +kernel
theorem dX8_takeKey_26 : decode cX8_takeKey 26 = .ok (.iload_n 3, 1) := by decide +kernel
theorem dX8_takeKey_27 : decode cX8_takeKey 27 = .ok (.invokevirtual 133, 3) := by decide +kernel
theorem dX8_takeKey_30 : decode cX8_takeKey 30 = .ok (.ifCond .ne 6, 3) := by decide +kernel
theorem dX8_takeKey_33 : decode cX8_takeKey 33 = .ok (.bipush (-9), 2) := by decide +kernel
theorem dX8_takeKey_35 : decode cX8_takeKey 35 = .ok (.ireturn, 1) := by decide +kernel
theorem dX8_takeKey_36 : decode cX8_takeKey 36 = .ok (.aload_n 0, 1) := by decide +kernel
theorem dX8_takeKey_37 : decode cX8_takeKey 37 = .ok (.getfield 7, 3) := by decide +kernel
theorem dX8_takeKey_40 : decode cX8_takeKey 40 = .ok (.aload_n 0, 1) := by decide +kernel
theorem dX8_takeKey_41 : decode cX8_takeKey 41 = .ok (.iload_n 2, 1) := by decide +kernel
theorem dX8_takeKey_42 : decode cX8_takeKey 42 = .ok (.iload_n 3, 1) := by decide +kernel
theorem dX8_takeKey_43 : decode cX8_takeKey 43 = .ok (.invokevirtual 137, 3) := by decide +kernel
theorem dX8_takeKey_46 : decode cX8_takeKey 46 = .ok (.iaload, 1) := by decide +kernel
theorem dX8_takeKey_47 : decode cX8_takeKey 47 = .ok (.istore 4, 2) := by decide +kernel
theorem dX8_takeKey_49 : decode cX8_takeKey 49 = .ok (.aload_n 0, 1) := by decide +kernel
theorem dX8_takeKey_50 : decode cX8_takeKey 50 = .ok (.iconst 0, 1) := by decide +kernel
theorem dX8_takeKey_51 : decode cX8_takeKey 51 = .ok (.putfield 76, 3) := by decide +kernel
theorem dX8_takeKey_54 : decode cX8_takeKey 54 = .ok (.aload_n 0, 1) := by decide +kernel
theorem dX8_takeKey_55 : decode cX8_takeKey 55 = .ok (.iload_n 2, 1) := by decide +kernel
theorem dX8_takeKey_56 : decode cX8_takeKey 56 = .ok (.invokevirtual 143, 3) := by decide +kernel
theorem dX8_takeKey_59 : decode cX8_takeKey 59 = .ok (.aload_n 0, 1) := by decide +kernel
theorem dX8_takeKey_60 : decode cX8_takeKey 60 = .ok (.iload_n 3, 1) := by decide +kernel
theorem dX8_takeKey_61 : decode cX8_takeKey 61 = .ok (.invokevirtual 171, 3) := by decide +kernel
theorem dX8_takeKey_64 : decode cX8_takeKey 64 = .ok (.aload_n 0, 1) := by decide +kernel
theorem dX8_takeKey_65 : decode cX8_takeKey 65 = .ok (.iload_n 2, 1) := by decide +kernel
theorem dX8_takeKey_66 : decode cX8_takeKey 66 = .ok (.iconst 1, 1) := by decide +kernel
theorem dX8_takeKey_67 : decode cX8_takeKey 67 = .ok (.aload_n 0, 1) := by decide +kernel
theorem dX8_takeKey_68 : decode cX8_takeKey 68 = .ok (.iload_n 2, 1) := by decide +kernel
theorem dX8_takeKey_69 : decode cX8_takeKey 69 = .ok (.iconst 2, 1) := by decide +kernel
theorem dX8_takeKey_70 : decode cX8_takeKey 70 = .ok (.invokevirtual 69, 3) := by decide +kernel
theorem dX8_takeKey_73 : decode cX8_takeKey 73 = .ok (.iconst 0, 1) := by decide +kernel
theorem dX8_takeKey_74 : decode cX8_takeKey 74 = .ok (.aload_n 0, 1) := by decide +kernel
theorem dX8_takeKey_75 : decode cX8_takeKey 75 = .ok (.getfield 76, 3) := by decide +kernel
theorem dX8_takeKey_78 : decode cX8_takeKey 78 = .ok (.invokevirtual 107, 3) := by decide +kernel
theorem dX8_takeKey_81 : decode cX8_takeKey 81 = .ok (.iload_n 1, 1) := by decide +kernel
theorem dX8_takeKey_82 : decode cX8_takeKey 82 = .ok (.ifCond .le 32, 3) := by decide +kernel
theorem dX8_takeKey_85 : decode cX8_takeKey 85 = .ok (.aload_n 0, 1) := by decide +kernel
theorem dX8_takeKey_86 : decode cX8_takeKey 86 = .ok (.aload_n 0, 1) := by decide +kernel
theorem dX8_takeKey_87 : decode cX8_takeKey 87 = .ok (.getfield 32, 3) := by decide +kernel
theorem dX8_takeKey_90 : decode cX8_takeKey 90 = .ok (.iload_n 1, 1) := by decide +kernel
theorem dX8_takeKey_91 : decode cX8_takeKey 91 = .ok (.iaload, 1) := by decide +kernel
theorem dX8_takeKey_92 : decode cX8_takeKey 92 = .ok (.invokevirtual 174, 3) := by decide +kernel
theorem dX8_takeKey_95 : decode cX8_takeKey 95 = .ok (.bipush 32, 2) := by decide +kernel
theorem dX8_takeKey_97 : decode cX8_takeKey 97 = .ok (.if_icmp .ge 17, 3) := by decide +kernel
theorem dX8_takeKey_100 : decode cX8_takeKey 100 = .ok (.aload_n 0, 1) := by decide +kernel
theorem dX8_takeKey_101 : decode cX8_takeKey 101 = .ok (.iload_n 1, 1) := by decide +kernel
theorem dX8_takeKey_102 : decode cX8_takeKey 102 = .ok (.invokevirtual 177, 3) := by decide +kernel
theorem dX8_takeKey_105 : decode cX8_takeKey 105 = .ok (.ifCond .eq 9, 3) := by decide +kernel
theorem dX8_takeKey_108 : decode cX8_takeKey 108 = .ok (.iinc 1 (-1), 3) := by decide +kernel
theorem dX8_takeKey_111 : decode cX8_takeKey 111 = .ok (.goto (-30), 3) := by decide +kernel
theorem dX8_takeKey_114 : decode cX8_takeKey 114 = .ok (.aload_n 0, 1) := by decide +kernel
theorem dX8_takeKey_115 : decode cX8_takeKey 115 = .ok (.aload_n 0, 1) := by decide +kernel
theorem dX8_takeKey_116 : decode cX8_takeKey 116 = .ok (.getfield 118, 3) := by decide +kernel
theorem dX8_takeKey_119 : decode cX8_takeKey 119 = .ok (.iconst 0, 1) := by decide +kernel
theorem dX8_takeKey_120 : decode cX8_takeKey 120 = .ok (.invokevirtual 69, 3) := by decide +kernel
theorem dX8_takeKey_123 : decode cX8_takeKey 123 = .ok (.iconst 2, 1) := by decide +kernel
theorem dX8_takeKey_124 : decode cX8_takeKey 124 = .ok (.if_icmp .ne 48, 3) := by decide +kernel
theorem dX8_takeKey_127 : decode cX8_takeKey 127 = .ok (.aload_n 0, 1) := by decide +kernel
theorem dX8_takeKey_128 : decode cX8_takeKey 128 = .ok (.aload_n 0, 1) := by decide +kernel
theorem dX8_takeKey_129 : decode cX8_takeKey 129 = .ok (.getfield 118, 3) := by decide +kernel
theorem dX8_takeKey_132 : decode cX8_takeKey 132 = .ok (.iconst 1, 1) := by decide +kernel
theorem dX8_takeKey_133 : decode cX8_takeKey 133 = .ok (.invokevirtual 69, 3) := by decide +kernel
theorem dX8_takeKey_136 : decode cX8_takeKey 136 = .ok (.ifCond .ne 36, 3) := by decide +kernel
theorem dX8_takeKey_139 : decode cX8_takeKey 139 = .ok (.aload_n 0, 1) := by decide +kernel
theorem dX8_takeKey_140 : decode cX8_takeKey 140 = .ok (.getfield 118, 3) := by decide +kernel
theorem dX8_takeKey_143 : decode cX8_takeKey 143 = .ok (.istore 5, 2) := by decide +kernel
theorem dX8_takeKey_145 : decode cX8_takeKey 145 = .ok (.aload_n 0, 1) := by decide +kernel
theorem dX8_takeKey_146 : decode cX8_takeKey 146 = .ok (.aload_n 0, 1) := by decide +kernel
theorem dX8_takeKey_147 : decode cX8_takeKey 147 = .ok (.iload 5, 2) := by decide +kernel
theorem dX8_takeKey_149 : decode cX8_takeKey 149 = .ok (.iconst 2, 1) := by decide +kernel
theorem dX8_takeKey_150 : decode cX8_takeKey 150 = .ok (.invokevirtual 69, 3) := by decide +kernel
theorem dX8_takeKey_153 : decode cX8_takeKey 153 = .ok (.putfield 118, 3) := by decide +kernel
theorem dX8_takeKey_156 : decode cX8_takeKey 156 = .ok (.aload_n 0, 1) := by decide +kernel
theorem dX8_takeKey_157 : decode cX8_takeKey 157 = .ok (.iload 5, 2) := by decide +kernel
theorem dX8_takeKey_159 : decode cX8_takeKey 159 = .ok (.invokevirtual 79, 3) := by decide +kernel
theorem dX8_takeKey_162 : decode cX8_takeKey 162 = .ok (.aload_n 0, 1) := by decide +kernel
theorem dX8_takeKey_163 : decode cX8_takeKey 163 = .ok (.dup, 1) := by decide +kernel
theorem dX8_takeKey_164 : decode cX8_takeKey 164 = .ok (.getfield 13, 3) := by decide +kernel
theorem dX8_takeKey_167 : decode cX8_takeKey 167 = .ok (.iconst 1, 1) := by decide +kernel
theorem dX8_takeKey_168 : decode cX8_takeKey 168 = .ok (.isub, 1) := by decide +kernel
theorem dX8_takeKey_169 : decode cX8_takeKey 169 = .ok (.putfield 13, 3) := by decide +kernel
theorem dX8_takeKey_172 : decode cX8_takeKey 172 = .ok (.iload 4, 2) := by decide +kernel
theorem dX8_takeKey_174 : decode cX8_takeKey 174 = .ok (.ireturn, 1) := by decide +kernel
theorem dX8_mends_0 : decode cX8_mends 0 = .ok (.aload_n 0, 1) := by decide +kernel
theorem dX8_mends_1 : decode cX8_mends 1 = .ok (.getfield 32, 3) := by decide +kernel
theorem dX8_mends_4 : decode cX8_mends 4 = .ok (.iload_n 1, 1) := by decide +kernel
theorem dX8_mends_5 : decode cX8_mends 5 = .ok (.iconst 1, 1) := by decide +kernel
theorem dX8_mends_6 : decode cX8_mends 6 = .ok (.isub, 1) := by decide +kernel
theorem dX8_mends_7 : decode cX8_mends 7 = .ok (.iaload, 1) := by decide +kernel
theorem dX8_mends_8 : decode cX8_mends 8 = .ok (.istore_n 2, 1) := by decide +kernel
theorem dX8_mends_9 : decode cX8_mends 9 = .ok (.aload_n 0, 1) := by decide +kernel
theorem dX8_mends_10 : decode cX8_mends 10 = .ok (.iload_n 2, 1) := by decide +kernel
theorem dX8_mends_11 : decode cX8_mends 11 = .ok (.iconst 1, 1) := by decide +kernel
theorem dX8_mends_12 : decode cX8_mends 12 = .ok (.invokevirtual 69, 3) := by decide +kernel
theorem dX8_mends_15 : decode cX8_mends 15 = .ok (.istore_n 3, 1) := by decide +kernel
theorem dX8_mends_16 : decode cX8_mends 16 = .ok (.iload_n 3, 1) := by decide +kernel
theorem dX8_mends_17 : decode cX8_mends 17 = .ok (.ifCond .ne 5, 3) := by decide +kernel
theorem dX8_mends_20 : decode cX8_mends 20 = .ok (.iconst 0, 1) := by decide +kernel
theorem dX8_mends_21 : decode cX8_mends 21 = .ok (.ireturn, 1) := by decide +kernel
theorem dX8_mends_22 : decode cX8_mends 22 = .ok (.aload_n 0, 1) := by decide +kernel
theorem dX8_mends_23 : decode cX8_mends 23 = .ok (.getfield 35, 3) := by decide +kernel
theorem dX8_mends_26 : decode cX8_mends 26 = .ok (.iload_n 1, 1) := by decide +kernel
theorem dX8_mends_27 : decode cX8_mends 27 = .ok (.iconst 1, 1) := by decide +kernel
theorem dX8_mends_28 : decode cX8_mends 28 = .ok (.isub, 1) := by decide +kernel
theorem dX8_mends_29 : decode cX8_mends 29 = .ok (.iaload, 1) := by decide +kernel
theorem dX8_mends_30 : decode cX8_mends 30 = .ok (.iload_n 3, 1) := by decide +kernel
theorem dX8_mends_31 : decode cX8_mends 31 = .ok (.if_icmp .ge 14, 3) := by decide +kernel
theorem dX8_mends_34 : decode cX8_mends 34 = .ok (.aload_n 0, 1) := by decide +kernel
theorem dX8_mends_35 : decode cX8_mends 35 = .ok (.getfield 35, 3) := by decide +kernel
theorem dX8_mends_38 : decode cX8_mends 38 = .ok (.iload_n 1, 1) := by decide +kernel
theorem dX8_mends_39 : decode cX8_mends 39 = .ok (.iconst 1, 1) := by decide +kernel
theorem dX8_mends_40 : decode cX8_mends 40 = .ok (.isub, 1) := by decide +kernel
theorem dX8_mends_41 : decode cX8_mends 41 = .ok (.iaload, 1) := by decide +kernel
theorem dX8_mends_42 : decode cX8_mends 42 = .ok (.goto 6, 3) := by decide +kernel
theorem dX8_mends_45 : decode cX8_mends 45 = .ok (.iload_n 3, 1) := by decide +kernel
theorem dX8_mends_46 : decode cX8_mends 46 = .ok (.iconst 1, 1) := by decide +kernel
theorem dX8_mends_47 : decode cX8_mends 47 = .ok (.isub, 1) := by decide +kernel
theorem dX8_mends_48 : decode cX8_mends 48 = .ok (.istore 4, 2) := by decide +kernel
theorem dX8_mends_50 : decode cX8_mends 50 = .ok (.aload_n 0, 1) := by decide +kernel
theorem dX8_mends_51 : decode cX8_mends 51 = .ok (.iload_n 2, 1) := by decide +kernel
theorem dX8_mends_52 : decode cX8_mends 52 = .ok (.iload 4, 2) := by decide +kernel
theorem dX8_mends_54 : decode cX8_mends 54 = .ok (.invokevirtual 124, 3) := by decide +kernel
theorem dX8_mends_57 : decode cX8_mends 57 = .ok (.istore 5, 2) := by decide +kernel
theorem dX8_mends_59 : decode cX8_mends 59 = .ok (.aload_n 0, 1) := by decide +kernel
theorem dX8_mends_60 : decode cX8_mends 60 = .ok (.iload_n 2, 1) := by decide +kernel
theorem dX8_mends_61 : decode cX8_mends 61 = .ok (.iload 4, 2) := by decide +kernel
theorem dX8_mends_63 : decode cX8_mends 63 = .ok (.iconst 1, 1) := by decide +kernel
theorem dX8_mends_64 : decode cX8_mends 64 = .ok (.iadd, 1) := by decide +kernel
theorem dX8_mends_65 : decode cX8_mends 65 = .ok (.invokevirtual 124, 3) := by decide +kernel
theorem dX8_mends_68 : decode cX8_mends 68 = .ok (.istore 6, 2) := by decide +kernel
theorem dX8_mends_70 : decode cX8_mends 70 = .ok (.aload_n 0, 1) := by decide +kernel
theorem dX8_mends_71 : decode cX8_mends 71 = .ok (.iload 5, 2) := by decide +kernel
theorem dX8_mends_73 : decode cX8_mends 73 = .ok (.iconst 0, 1) := by decide +kernel
theorem dX8_mends_74 : decode cX8_mends 74 = .ok (.invokevirtual 69, 3) := by decide +kernel
theorem dX8_mends_77 : decode cX8_mends 77 = .ok (.istore 7, 2) := by decide +kernel
theorem dX8_mends_79 : decode cX8_mends 79 = .ok (.aload_n 0, 1) := by decide +kernel
theorem dX8_mends_80 : decode cX8_mends 80 = .ok (.iload_n 2, 1) := by decide +kernel
theorem dX8_mends_81 : decode cX8_mends 81 = .ok (.iload 4, 2) := by decide +kernel
theorem dX8_mends_83 : decode cX8_mends 83 = .ok (.invokevirtual 73, 3) := by decide +kernel
theorem dX8_mends_86 : decode cX8_mends 86 = .ok (.istore 8, 2) := by decide +kernel
theorem dX8_mends_88 : decode cX8_mends 88 = .ok (.aload_n 0, 1) := by decide +kernel
theorem dX8_mends_89 : decode cX8_mends 89 = .ok (.iconst 0, 1) := by decide +kernel
theorem dX8_mends_90 : decode cX8_mends 90 = .ok (.putfield 76, 3) := by decide +kernel
theorem dX8_mends_93 : decode cX8_mends 93 = .ok (.aload_n 0, 1) := by decide +kernel
theorem dX8_mends_94 : decode cX8_mends 94 = .ok (.iload 5, 2) := by decide +kernel
theorem dX8_mends_96 : decode cX8_mends 96 = .ok (.invokevirtual 143, 3) := by decide +kernel
theorem dX8_mends_99 : decode cX8_mends 99 = .ok (.iload 7, 2) := by decide +kernel
theorem dX8_mends_101 : decode cX8_mends 101 = .ok (.iconst 2, 1) := by decide +kernel
theorem dX8_mends_102 : decode cX8_mends 102 = .ok (.if_icmp .ne 69, 3) := by decide +kernel
theorem dX8_mends_105 : decode cX8_mends 105 = .ok (.iconst 0, 1) := by decide +kernel
theorem dX8_mends_106 : decode cX8_mends 106 = .ok (.istore 9, 2) := by decide +kernel
theorem dX8_mends_108 : decode cX8_mends 108 = .ok (.iload 9, 2) := by decide +kernel
theorem dX8_mends_110 : decode cX8_mends 110 = .ok (.aload_n 0, 1) := by decide +kernel
theorem dX8_mends_111 : decode cX8_mends 111 = .ok (.iload_n 2, 1) := by decide +kernel
theorem dX8_mends_112 : decode cX8_mends 112 = .ok (.iload 8, 2) := by decide +kernel
theorem dX8_mends_114 : decode cX8_mends 114 = .ok (.invokevirtual 69, 3) := by decide +kernel
theorem dX8_mends_117 : decode cX8_mends 117 = .ok (.if_icmp .ge 28, 3) := by decide +kernel
theorem dX8_mends_120 : decode cX8_mends 120 = .ok (.aload_n 0, 1) := by decide +kernel
theorem dX8_mends_121 : decode cX8_mends 121 = .ok (.getfield 26, 3) := by decide +kernel
theorem dX8_mends_124 : decode cX8_mends 124 = .ok (.iload 9, 2) := by decide +kernel
theorem dX8_mends_126 : decode cX8_mends 126 = .ok (.aload_n 0, 1) := by decide +kernel
theorem dX8_mends_127 : decode cX8_mends 127 = .ok (.iload_n 2, 1) := by decide +kernel
theorem dX8_mends_128 : decode cX8_mends 128 = .ok (.iload 8, 2) := by decide +kernel
theorem dX8_mends_130 : decode cX8_mends 130 = .ok (.iconst 1, 1) := by decide +kernel
theorem dX8_mends_131 : decode cX8_mends 131 = .ok (.iadd, 1) := by decide +kernel
theorem dX8_mends_132 : decode cX8_mends 132 = .ok (.iload 9, 2) := by decide +kernel
theorem dX8_mends_134 : decode cX8_mends 134 = .ok (.iadd, 1) := by decide +kernel
theorem dX8_mends_135 : decode cX8_mends 135 = .ok (.invokevirtual 69, 3) := by decide +kernel
theorem dX8_mends_138 : decode cX8_mends 138 = .ok (.iastore, 1) := by decide +kernel
theorem dX8_mends_139 : decode cX8_mends 139 = .ok (.iinc 9 1, 3) := by decide +kernel
theorem dX8_mends_142 : decode cX8_mends 142 = .ok (.goto (-34), 3) := by decide +kernel
theorem dX8_mends_145 : decode cX8_mends 145 = .ok (.aload_n 0, 1) := by decide +kernel
theorem dX8_mends_146 : decode cX8_mends 146 = .ok (.aload_n 0, 1) := by decide +kernel
theorem dX8_mends_147 : decode cX8_mends 147 = .ok (.getfield 76, 3) := by decide +kernel
theorem dX8_mends_150 : decode cX8_mends 150 = .ok (.aload_n 0, 1) := by decide +kernel
theorem dX8_mends_151 : decode cX8_mends 151 = .ok (.getfield 26, 3) := by decide +kernel
theorem dX8_mends_154 : decode cX8_mends 154 = .ok (.aload_n 0, 1) := by decide +kernel
theorem dX8_mends_155 : decode cX8_mends 155 = .ok (.iload_n 2, 1) := by decide +kernel
theorem dX8_mends_156 : decode cX8_mends 156 = .ok (.iload 8, 2) := by decide +kernel
theorem dX8_mends_158 : decode cX8_mends 158 = .ok (.invokevirtual 69, 3) := by decide +kernel
theorem dX8_mends_161 : decode cX8_mends 161 = .ok (.aload_n 0, 1) := by decide +kernel
theorem dX8_mends_162 : decode cX8_mends 162 = .ok (.iload 6, 2) := by decide +kernel
theorem dX8_mends_164 : decode cX8_mends 164 = .ok (.iconst 2, 1) := by decide +kernel
theorem dX8_mends_165 : decode cX8_mends 165 = .ok (.invokevirtual 69, 3) := by decide +kernel
theorem dX8_mends_168 : decode cX8_mends 168 = .ok (.invokevirtual 146, 3) := by decide +kernel
theorem dX8_mends_171 : decode cX8_mends 171 = .ok (.aload_n 0, 1) := by decide +kernel
theorem dX8_mends_172 : decode cX8_mends 172 = .ok (.iload 6, 2) := by decide +kernel
theorem dX8_mends_174 : decode cX8_mends 174 = .ok (.invokevirtual 143, 3) := by decide +kernel
theorem dX8_mends_177 : decode cX8_mends 177 = .ok (.aload_n 0, 1) := by decide +kernel
theorem dX8_mends_178 : decode cX8_mends 178 = .ok (.iconst 0, 1) := by decide +kernel
theorem dX8_mends_179 : decode cX8_mends 179 = .ok (.aload_n 0, 1) := by decide +kernel
theorem dX8_mends_180 : decode cX8_mends 180 = .ok (.getfield 76, 3) := by decide +kernel
theorem dX8_mends_183 : decode cX8_mends 183 = .ok (.invokevirtual 87, 3) := by decide +kernel
theorem dX8_mends_186 : decode cX8_mends 186 = .ok (.bipush 61, 2) := by decide +kernel
theorem dX8_mends_188 : decode cX8_mends 188 = .ok (.if_icmp .gt 90, 3) := by decide +kernel
theorem dX8_mends_191 : decode cX8_mends 191 = .ok (.aload_n 0, 1) := by decide +kernel
theorem dX8_mends_192 : decode cX8_mends 192 = .ok (.iload 5, 2) := by decide +kernel
theorem dX8_mends_194 : decode cX8_mends 194 = .ok (.iload 7, 2) := by decide +kernel
theorem dX8_mends_196 : decode cX8_mends 196 = .ok (.iload 7, 2) := by decide +kernel
theorem dX8_mends_198 : decode cX8_mends 198 = .ok (.iconst 1, 1) := by decide +kernel
theorem dX8_mends_199 : decode cX8_mends 199 = .ok (.if_icmp .ne 13, 3) := by decide +kernel
theorem dX8_mends_202 : decode cX8_mends 202 = .ok (.aload_n 0, 1) := by decide +kernel
theorem dX8_mends_203 : decode cX8_mends 203 = .ok (.iload 6, 2) := by decide +kernel
theorem dX8_mends_205 : decode cX8_mends 205 = .ok (.iconst 2, 1) := by decide +kernel
theorem dX8_mends_206 : decode cX8_mends 206 = .ok (.invokevirtual 69, 3) := by decide +kernel
theorem dX8_mends_209 : decode cX8_mends 209 = .ok (.goto 10, 3) := by decide +kernel
theorem dX8_mends_212 : decode cX8_mends 212 = .ok (.aload_n 0, 1) := by decide +kernel
theorem dX8_mends_213 : decode cX8_mends 213 = .ok (.iload 5, 2) := by decide +kernel
theorem dX8_mends_215 : decode cX8_mends 215 = .ok (.iconst 2, 1) := by decide +kernel
theorem dX8_mends_216 : decode cX8_mends 216 = .ok (.invokevirtual 69, 3) := by decide +kernel
theorem dX8_mends_219 : decode cX8_mends 219 = .ok (.iconst 0, 1) := by decide +kernel
theorem dX8_mends_220 : decode cX8_mends 220 = .ok (.aload_n 0, 1) := by decide +kernel
theorem dX8_mends_221 : decode cX8_mends 221 = .ok (.getfield 76, 3) := by decide +kernel
theorem dX8_mends_224 : decode cX8_mends 224 = .ok (.invokevirtual 107, 3) := by decide +kernel
theorem dX8_mends_227 : decode cX8_mends 227 = .ok (.aload_n 0, 1) := by decide +kernel
theorem dX8_mends_228 : decode cX8_mends 228 = .ok (.iload 6, 2) := by decide +kernel
theorem dX8_mends_230 : decode cX8_mends 230 = .ok (.invokevirtual 79, 3) := by decide +kernel
theorem dX8_mends_233 : decode cX8_mends 233 = .ok (.aload_n 0, 1) := by decide +kernel
theorem dX8_mends_234 : decode cX8_mends 234 = .ok (.iconst 0, 1) := by decide +kernel
theorem dX8_mends_235 : decode cX8_mends 235 = .ok (.putfield 76, 3) := by decide +kernel
theorem dX8_mends_238 : decode cX8_mends 238 = .ok (.aload_n 0, 1) := by decide +kernel
theorem dX8_mends_239 : decode cX8_mends 239 = .ok (.iload_n 2, 1) := by decide +kernel
theorem dX8_mends_240 : decode cX8_mends 240 = .ok (.invokevirtual 143, 3) := by decide +kernel
theorem dX8_mends_243 : decode cX8_mends 243 = .ok (.aload_n 0, 1) := by decide +kernel
theorem dX8_mends_244 : decode cX8_mends 244 = .ok (.iload 4, 2) := by decide +kernel
theorem dX8_mends_246 : decode cX8_mends 246 = .ok (.invokevirtual 171, 3) := by decide +kernel
theorem dX8_mends_249 : decode cX8_mends 249 = .ok (.aload_n 0, 1) := by decide +kernel
theorem dX8_mends_250 : decode cX8_mends 250 = .ok (.iload_n 2, 1) := by decide +kernel
theorem dX8_mends_251 : decode cX8_mends 251 = .ok (.iconst 2, 1) := by decide +kernel
theorem dX8_mends_252 : decode cX8_mends 252 = .ok (.aload_n 0, 1) := by decide +kernel
theorem dX8_mends_253 : decode cX8_mends 253 = .ok (.iload_n 2, 1) := by decide +kernel
theorem dX8_mends_254 : decode cX8_mends 254 = .ok (.iconst 2, 1) := by decide +kernel
theorem dX8_mends_255 : decode cX8_mends 255 = .ok (.invokevirtual 69, 3) := by decide +kernel
theorem dX8_mends_258 : decode cX8_mends 258 = .ok (.iconst 0, 1) := by decide +kernel
theorem dX8_mends_259 : decode cX8_mends 259 = .ok (.aload_n 0, 1) := by decide +kernel
theorem dX8_mends_260 : decode cX8_mends 260 = .ok (.getfield 76, 3) := by decide +kernel
theorem dX8_mends_263 : decode cX8_mends 263 = .ok (.invokevirtual 107, 3) := by decide +kernel
theorem dX8_mends_266 : decode cX8_mends 266 = .ok (.aload_n 0, 1) := by decide +kernel
theorem dX8_mends_267 : decode cX8_mends 267 = .ok (.dup, 1) := by decide +kernel
theorem dX8_mends_268 : decode cX8_mends 268 = .ok (.getfield 181, 3) := by decide +kernel
theorem dX8_mends_271 : decode cX8_mends 271 = .ok (.iconst 1, 1) := by decide +kernel
theorem dX8_mends_272 : decode cX8_mends 272 = .ok (.iadd, 1) := by decide +kernel
theorem dX8_mends_273 : decode cX8_mends 273 = .ok (.putfield 181, 3) := by decide +kernel
theorem dX8_mends_276 : decode cX8_mends 276 = .ok (.iconst 1, 1) := by decide +kernel
theorem dX8_mends_277 : decode cX8_mends 277 = .ok (.ireturn, 1) := by decide +kernel
theorem dX8_mends_278 : decode cX8_mends 278 = .ok (.aload_n 0, 1) := by decide +kernel
theorem dX8_mends_279 : decode cX8_mends 279 = .ok (.iload 7, 2) := by decide +kernel
theorem dX8_mends_281 : decode cX8_mends 281 = .ok (.aload_n 0, 1) := by decide +kernel
theorem dX8_mends_282 : decode cX8_mends 282 = .ok (.invokevirtual 100, 3) := by decide +kernel
theorem dX8_mends_285 : decode cX8_mends 285 = .ok (.invokevirtual 104, 3) := by decide +kernel
theorem dX8_mends_288 : decode cX8_mends 288 = .ok (.aload_n 0, 1) := by decide +kernel
theorem dX8_mends_289 : decode cX8_mends 289 = .ok (.iload_n 2, 1) := by decide +kernel
theorem dX8_mends_290 : decode cX8_mends 290 = .ok (.invokevirtual 174, 3) := by decide +kernel
theorem dX8_mends_293 : decode cX8_mends 293 = .ok (.aload_n 0, 1) := by decide +kernel
theorem dX8_mends_294 : decode cX8_mends 294 = .ok (.iload_n 2, 1) := by decide +kernel
theorem dX8_mends_295 : decode cX8_mends 295 = .ok (.iload 8, 2) := by decide +kernel
theorem dX8_mends_297 : decode cX8_mends 297 = .ok (.invokevirtual 69, 3) := by decide +kernel
theorem dX8_mends_300 : decode cX8_mends 300 = .ok (.isub, 1) := by decide +kernel
theorem dX8_mends_301 : decode cX8_mends 301 = .ok (.aload_n 0, 1) := by decide +kernel
theorem dX8_mends_302 : decode cX8_mends 302 = .ok (.getfield 90, 3) := by decide +kernel
theorem dX8_mends_305 : decode cX8_mends 305 = .ok (.iadd, 1) := by decide +kernel
theorem dX8_mends_306 : decode cX8_mends 306 = .ok (.bipush 64, 2) := by decide +kernel
theorem dX8_mends_308 : decode cX8_mends 308 = .ok (.if_icmp .gt 95, 3) := by decide +kernel
theorem dX8_mends_311 : decode cX8_mends 311 = .ok (.aload_n 0, 1) := by decide +kernel
theorem dX8_mends_312 : decode cX8_mends 312 = .ok (.iload 5, 2) := by decide +kernel
theorem dX8_mends_314 : decode cX8_mends 314 = .ok (.iload 6, 2) := by decide +kernel
theorem dX8_mends_316 : decode cX8_mends 316 = .ok (.iload 7, 2) := by decide +kernel
theorem dX8_mends_318 : decode cX8_mends 318 = .ok (.aload_n 0, 1) := by decide +kernel
theorem dX8_mends_319 : decode cX8_mends 319 = .ok (.iload 5, 2) := by decide +kernel
theorem dX8_mends_321 : decode cX8_mends 321 = .ok (.iconst 2, 1) := by decide +kernel
theorem dX8_mends_322 : decode cX8_mends 322 = .ok (.invokevirtual 69, 3) := by decide +kernel
theorem dX8_mends_325 : decode cX8_mends 325 = .ok (.aload_n 0, 1) := by decide +kernel
theorem dX8_mends_326 : decode cX8_mends 326 = .ok (.iload 6, 2) := by decide +kernel
theorem dX8_mends_328 : decode cX8_mends 328 = .ok (.iconst 2, 1) := by decide +kernel
theorem dX8_mends_329 : decode cX8_mends 329 = .ok (.invokevirtual 69, 3) := by decide +kernel
theorem dX8_mends_332 : decode cX8_mends 332 = .ok (.invokevirtual 153, 3) := by decide +kernel
theorem dX8_mends_335 : decode cX8_mends 335 = .ok (.aload_n 0, 1) := by decide +kernel
theorem dX8_mends_336 : decode cX8_mends 336 = .ok (.iconst 0, 1) := by decide +kernel
theorem dX8_mends_337 : decode cX8_mends 337 = .ok (.putfield 76, 3) := by decide +kernel
theorem dX8_mends_340 : decode cX8_mends 340 = .ok (.aload_n 0, 1) := by decide +kernel
theorem dX8_mends_341 : decode cX8_mends 341 = .ok (.iload_n 2, 1) := by decide +kernel
theorem dX8_mends_342 : decode cX8_mends 342 = .ok (.invokevirtual 143, 3) := by decide +kernel
theorem dX8_mends_345 : decode cX8_mends 345 = .ok (.aload_n 0, 1) := by decide +kernel
theorem dX8_mends_346 : decode cX8_mends 346 = .ok (.getfield 23, 3) := by decide +kernel
theorem dX8_mends_349 : decode cX8_mends 349 = .ok (.iload 4, 2) := by decide +kernel
theorem dX8_mends_351 : decode cX8_mends 351 = .ok (.iaload, 1) := by decide +kernel
theorem dX8_mends_352 : decode cX8_mends 352 = .ok (.istore 9, 2) := by decide +kernel
theorem dX8_mends_354 : decode cX8_mends 354 = .ok (.aload_n 0, 1) := by decide +kernel
theorem dX8_mends_355 : decode cX8_mends 355 = .ok (.iload 4, 2) := by decide +kernel
theorem dX8_mends_357 : decode cX8_mends 357 = .ok (.invokevirtual 171, 3) := by decide +kernel
theorem dX8_mends_360 : decode cX8_mends 360 = .ok (.aload_n 0, 1) := by decide +kernel
theorem dX8_mends_361 : decode cX8_mends 361 = .ok (.iload 4, 2) := by decide +kernel
theorem dX8_mends_363 : decode cX8_mends 363 = .ok (.aload_n 0, 1) := by decide +kernel
theorem dX8_mends_364 : decode cX8_mends 364 = .ok (.getfield 26, 3) := by decide +kernel
theorem dX8_mends_367 : decode cX8_mends 367 = .ok (.aload_n 0, 1) := by decide +kernel
theorem dX8_mends_368 : decode cX8_mends 368 = .ok (.getfield 90, 3) := by decide +kernel
theorem dX8_mends_371 : decode cX8_mends 371 = .ok (.iload 9, 2) := by decide +kernel
theorem dX8_mends_373 : decode cX8_mends 373 = .ok (.invokevirtual 146, 3) := by decide +kernel
theorem dX8_mends_376 : decode cX8_mends 376 = .ok (.aload_n 0, 1) := by decide +kernel
theorem dX8_mends_377 : decode cX8_mends 377 = .ok (.iload_n 2, 1) := by decide +kernel
theorem dX8_mends_378 : decode cX8_mends 378 = .ok (.iconst 2, 1) := by decide +kernel
theorem dX8_mends_379 : decode cX8_mends 379 = .ok (.aload_n 0, 1) := by decide +kernel
theorem dX8_mends_380 : decode cX8_mends 380 = .ok (.iload_n 2, 1) := by decide +kernel
theorem dX8_mends_381 : decode cX8_mends 381 = .ok (.iconst 2, 1) := by decide +kernel
theorem dX8_mends_382 : decode cX8_mends 382 = .ok (.invokevirtual 69, 3) := by decide +kernel
theorem dX8_mends_385 : decode cX8_mends 385 = .ok (.iconst 0, 1) := by decide +kernel
theorem dX8_mends_386 : decode cX8_mends 386 = .ok (.aload_n 0, 1) := by decide +kernel
theorem dX8_mends_387 : decode cX8_mends 387 = .ok (.getfield 76, 3) := by decide +kernel
theorem dX8_mends_390 : decode cX8_mends 390 = .ok (.invokevirtual 107, 3) := by decide +kernel
theorem dX8_mends_393 : decode cX8_mends 393 = .ok (.aload_n 0, 1) := by decide +kernel
theorem dX8_mends_394 : decode cX8_mends 394 = .ok (.dup, 1) := by decide +kernel
theorem dX8_mends_395 : decode cX8_mends 395 = .ok (.getfield 184, 3) := by decide +kernel
theorem dX8_mends_398 : decode cX8_mends 398 = .ok (.iconst 1, 1) := by decide +kernel
theorem dX8_mends_399 : decode cX8_mends 399 = .ok (.iadd, 1) := by decide +kernel
theorem dX8_mends_400 : decode cX8_mends 400 = .ok (.putfield 184, 3) := by decide +kernel
theorem dX8_mends_403 : decode cX8_mends 403 = .ok (.iconst 0, 1) := by decide +kernel
theorem dX8_mends_404 : decode cX8_mends 404 = .ok (.ireturn, 1) := by decide +kernel
theorem dX8_take_0 : decode cX8_take 0 = .ok (.iload_n 1, 1) := by decide +kernel
theorem dX8_take_1 : decode cX8_take 1 = .ok (.iload_n 2, 1) := by decide +kernel
theorem dX8_take_2 : decode cX8_take 2 = .ok (.invokestatic 162, 3) := by decide +kernel
theorem dX8_take_5 : decode cX8_take 5 = .ok (.ifCond .ne 5, 3) := by decide +kernel
theorem dX8_take_8 : decode cX8_take 8 = .ok (.iconst (-1), 1) := by decide +kernel
theorem dX8_take_9 : decode cX8_take 9 = .ok (.ireturn, 1) := by decide +kernel
theorem dX8_take_10 : decode cX8_take 10 = .ok (.aload_n 0, 1) := by decide +kernel
theorem dX8_take_11 : decode cX8_take 11 = .ok (.iload_n 1, 1) := by decide +kernel
theorem dX8_take_12 : decode cX8_take 12 = .ok (.iload_n 2, 1) := by decide +kernel
theorem dX8_take_13 : decode cX8_take 13 = .ok (.invokevirtual 165, 3) := by decide +kernel
theorem dX8_take_16 : decode cX8_take 16 = .ok (.aload_n 0, 1) := by decide +kernel
theorem dX8_take_17 : decode cX8_take 17 = .ok (.invokevirtual 187, 3) := by decide +kernel
theorem dX8_take_20 : decode cX8_take 20 = .ok (.ireturn, 1) := by decide +kernel
theorem dX8_isLoad_0 : decode cX8_isLoad 0 = .ok (.iload_n 0, 1) := by decide +kernel
theorem dX8_isLoad_1 : decode cX8_isLoad 1 = .ok (.iconst 0, 1) := by decide +kernel
theorem dX8_isLoad_2 : decode cX8_isLoad 2 = .ok (.sipush 17575, 3) := by decide +kernel
theorem dX8_isLoad_5 : decode cX8_isLoad 5 = .ok (.invokestatic 114, 3) := by decide +kernel
theorem dX8_isLoad_8 : decode cX8_isLoad 8 = .ok (.ifCond .eq 40, 3) := by decide +kernel
theorem dX8_isLoad_11 : decode cX8_isLoad 11 = .ok (.iload_n 1, 1) := by decide +kernel
theorem dX8_isLoad_12 : decode cX8_isLoad 12 = .ok (.iconst 1, 1) := by decide +kernel
theorem dX8_isLoad_13 : decode cX8_isLoad 13 = .ok (.bipush 99, 2) := by decide +kernel
theorem dX8_isLoad_15 : decode cX8_isLoad 15 = .ok (.invokestatic 114, 3) := by decide +kernel
theorem dX8_isLoad_18 : decode cX8_isLoad 18 = .ok (.ifCond .eq 30, 3) := by decide +kernel
theorem dX8_isLoad_21 : decode cX8_isLoad 21 = .ok (.iload_n 2, 1) := by decide +kernel
theorem dX8_isLoad_22 : decode cX8_isLoad 22 = .ok (.iconst 1, 1) := by decide +kernel
theorem dX8_isLoad_23 : decode cX8_isLoad 23 = .ok (.bipush 60, 2) := by decide +kernel
theorem dX8_isLoad_25 : decode cX8_isLoad 25 = .ok (.invokestatic 114, 3) := by decide +kernel
theorem dX8_isLoad_28 : decode cX8_isLoad 28 = .ok (.ifCond .eq 20, 3) := by decide +kernel
theorem dX8_isLoad_31 : decode cX8_isLoad 31 = .ok (.iload_n 0, 1) := by decide +kernel
theorem dX8_isLoad_32 : decode cX8_isLoad 32 = .ok (.iload_n 1, 1) := by decide +kernel
theorem dX8_isLoad_33 : decode cX8_isLoad 33 = .ok (.iload_n 2, 1) := by decide +kernel
theorem dX8_isLoad_34 : decode cX8_isLoad 34 = .ok (.iconst 1, 1) := by decide +kernel
theorem dX8_isLoad_35 : decode cX8_isLoad 35 = .ok (.isub, 1) := by decide +kernel
theorem dX8_isLoad_36 : decode cX8_isLoad 36 = .ok (.imul, 1) := by decide +kernel
theorem dX8_isLoad_37 : decode cX8_isLoad 37 = .ok (.iadd, 1) := by decide +kernel
theorem dX8_isLoad_38 : decode cX8_isLoad 38 = .ok (.sipush 17575, 3) := by decide +kernel
theorem dX8_isLoad_41 : decode cX8_isLoad 41 = .ok (.if_icmp .gt 7, 3) := by decide +kernel
theorem dX8_isLoad_44 : decode cX8_isLoad 44 = .ok (.iconst 1, 1) := by decide +kernel
theorem dX8_isLoad_45 : decode cX8_isLoad 45 = .ok (.goto 4, 3) := by decide +kernel
theorem dX8_isLoad_48 : decode cX8_isLoad 48 = .ok (.iconst 0, 1) := by decide +kernel
theorem dX8_isLoad_49 : decode cX8_isLoad 49 = .ok (.ireturn, 1) := by decide +kernel
theorem dX8_loads_0 : decode cX8_loads 0 = .ok (.iconst 0, 1) := by decide +kernel
theorem dX8_loads_1 : decode cX8_loads 1 = .ok (.istore 4, 2) := by decide +kernel
theorem dX8_loads_3 : decode cX8_loads 3 = .ok (.iload 4, 2) := by decide +kernel
theorem dX8_loads_5 : decode cX8_loads 5 = .ok (.bipush 32, 2) := by decide +kernel
theorem dX8_loads_7 : decode cX8_loads 7 = .ok (.if_icmp .ge 15, 3) := by decide +kernel
theorem dX8_loads_10 : decode cX8_loads 10 = .ok (.aload_n 0, 1) := by decide +kernel
theorem dX8_loads_11 : decode cX8_loads 11 = .ok (.iload 4, 2) := by decide +kernel
theorem dX8_loads_13 : decode cX8_loads 13 = .ok (.invokevirtual 79, 3) := by decide +kernel
theorem dX8_loads_16 : decode cX8_loads 16 = .ok (.iinc 4 1, 3) := by decide +kernel
theorem dX8_loads_19 : decode cX8_loads 19 = .ok (.goto (-16), 3) := by decide +kernel
theorem dX8_loads_22 : decode cX8_loads 22 = .ok (.iload_n 3, 1) := by decide +kernel
theorem dX8_loads_23 : decode cX8_loads 23 = .ok (.bipush 11, 2) := by decide +kernel
theorem dX8_loads_25 : decode cX8_loads 25 = .ok (.iadd, 1) := by decide +kernel
theorem dX8_loads_26 : decode cX8_loads 26 = .ok (.bipush 12, 2) := by decide +kernel
theorem dX8_loads_28 : decode cX8_loads 28 = .ok (.idiv, 1) := by decide +kernel
theorem dX8_loads_29 : decode cX8_loads 29 = .ok (.istore 4, 2) := by decide +kernel
theorem dX8_loads_31 : decode cX8_loads 31 = .ok (.iconst 0, 1) := by decide +kernel
theorem dX8_loads_32 : decode cX8_loads 32 = .ok (.istore 5, 2) := by decide +kernel
theorem dX8_loads_34 : decode cX8_loads 34 = .ok (.iload 5, 2) := by decide +kernel
theorem dX8_loads_36 : decode cX8_loads 36 = .ok (.iload 4, 2) := by decide +kernel
theorem dX8_loads_38 : decode cX8_loads 38 = .ok (.if_icmp .ge 101, 3) := by decide +kernel
theorem dX8_loads_41 : decode cX8_loads 41 = .ok (.aload_n 0, 1) := by decide +kernel
theorem dX8_loads_42 : decode cX8_loads 42 = .ok (.iconst 0, 1) := by decide +kernel
theorem dX8_loads_43 : decode cX8_loads 43 = .ok (.putfield 76, 3) := by decide +kernel
theorem dX8_loads_46 : decode cX8_loads 46 = .ok (.bipush 12, 2) := by decide +kernel
theorem dX8_loads_48 : decode cX8_loads 48 = .ok (.iload 5, 2) := by decide +kernel
theorem dX8_loads_50 : decode cX8_loads 50 = .ok (.imul, 1) := by decide +kernel
theorem dX8_loads_51 : decode cX8_loads 51 = .ok (.istore 6, 2) := by decide +kernel
theorem dX8_loads_53 : decode cX8_loads 53 = .ok (.iload 6, 2) := by decide +kernel
theorem dX8_loads_55 : decode cX8_loads 55 = .ok (.iload_n 3, 1) := by decide +kernel
theorem dX8_loads_56 : decode cX8_loads 56 = .ok (.if_icmp .ge 48, 3) := by decide +kernel
theorem dX8_loads_59 : decode cX8_loads 59 = .ok (.iload 6, 2) := by decide +kernel
theorem dX8_loads_61 : decode cX8_loads 61 = .ok (.bipush 12, 2) := by decide +kernel
theorem dX8_loads_63 : decode cX8_loads 63 = .ok (.iload 5, 2) := by decide +kernel
theorem dX8_loads_65 : decode cX8_loads 65 = .ok (.imul, 1) := by decide +kernel
theorem dX8_loads_66 : decode cX8_loads 66 = .ok (.bipush 12, 2) := by decide +kernel
theorem dX8_loads_68 : decode cX8_loads 68 = .ok (.iadd, 1) := by decide +kernel
theorem dX8_loads_69 : decode cX8_loads 69 = .ok (.if_icmp .ge 35, 3) := by decide +kernel
theorem dX8_loads_72 : decode cX8_loads 72 = .ok (.aload_n 0, 1) := by decide +kernel
theorem dX8_loads_73 : decode cX8_loads 73 = .ok (.iload_n 1, 1) := by decide +kernel
theorem dX8_loads_74 : decode cX8_loads 74 = .ok (.iload_n 2, 1) := by decide +kernel
theorem dX8_loads_75 : decode cX8_loads 75 = .ok (.iload 6, 2) := by decide +kernel
theorem dX8_loads_77 : decode cX8_loads 77 = .ok (.imul, 1) := by decide +kernel
theorem dX8_loads_78 : decode cX8_loads 78 = .ok (.iadd, 1) := by decide +kernel
theorem dX8_loads_79 : decode cX8_loads 79 = .ok (.iconst 3, 1) := by decide +kernel
theorem dX8_loads_80 : decode cX8_loads 80 = .ok (.invokevirtual 165, 3) := by decide +kernel
theorem dX8_loads_83 : decode cX8_loads 83 = .ok (.aload_n 0, 1) := by decide +kernel
theorem dX8_loads_84 : decode cX8_loads 84 = .ok (.aload_n 0, 1) := by decide +kernel
theorem dX8_loads_85 : decode cX8_loads 85 = .ok (.getfield 76, 3) := by decide +kernel
theorem dX8_loads_88 : decode cX8_loads 88 = .ok (.aload_n 0, 1) := by decide +kernel
theorem dX8_loads_89 : decode cX8_loads 89 = .ok (.getfield 29, 3) := by decide +kernel
theorem dX8_loads_92 : decode cX8_loads 92 = .ok (.iconst 3, 1) := by decide +kernel
theorem dX8_loads_93 : decode cX8_loads 93 = .ok (.iload 6, 2) := by decide +kernel
theorem dX8_loads_95 : decode cX8_loads 95 = .ok (.invokevirtual 146, 3) := by decide +kernel
theorem dX8_loads_98 : decode cX8_loads 98 = .ok (.iinc 6 1, 3) := by decide +kernel
theorem dX8_loads_101 : decode cX8_loads 101 = .ok (.goto (-48), 3) := by decide +kernel
theorem dX8_loads_104 : decode cX8_loads 104 = .ok (.aload_n 0, 1) := by decide +kernel
theorem dX8_loads_105 : decode cX8_loads 105 = .ok (.iload 5, 2) := by decide +kernel
theorem dX8_loads_107 : decode cX8_loads 107 = .ok (.iconst 1, 1) := by decide +kernel
theorem dX8_loads_108 : decode cX8_loads 108 = .ok (.iload 5, 2) := by decide +kernel
theorem dX8_loads_110 : decode cX8_loads 110 = .ok (.iload 4, 2) := by decide +kernel
theorem dX8_loads_112 : decode cX8_loads 112 = .ok (.iconst 1, 1) := by decide +kernel
theorem dX8_loads_113 : decode cX8_loads 113 = .ok (.isub, 1) := by decide +kernel
theorem dX8_loads_114 : decode cX8_loads 114 = .ok (.if_icmp .ge 10, 3) := by decide +kernel
theorem dX8_loads_117 : decode cX8_loads 117 = .ok (.iload 5, 2) := by decide +kernel
theorem dX8_loads_119 : decode cX8_loads 119 = .ok (.iconst 2, 1) := by decide +kernel
theorem dX8_loads_120 : decode cX8_loads 120 = .ok (.iadd, 1) := by decide +kernel
theorem dX8_loads_121 : decode cX8_loads 121 = .ok (.goto 4, 3) := by decide +kernel
theorem dX8_loads_124 : decode cX8_loads 124 = .ok (.iconst 0, 1) := by decide +kernel
theorem dX8_loads_125 : decode cX8_loads 125 = .ok (.iconst 0, 1) := by decide +kernel
theorem dX8_loads_126 : decode cX8_loads 126 = .ok (.aload_n 0, 1) := by decide +kernel
theorem dX8_loads_127 : decode cX8_loads 127 = .ok (.getfield 76, 3) := by decide +kernel
theorem dX8_loads_130 : decode cX8_loads 130 = .ok (.invokevirtual 107, 3) := by decide +kernel
theorem dX8_loads_133 : decode cX8_loads 133 = .ok (.iinc 5 1, 3) := by decide +kernel
theorem dX8_loads_136 : decode cX8_loads 136 = .ok (.goto (-102), 3) := by decide +kernel
theorem dX8_loads_139 : decode cX8_loads 139 = .ok (.iload 4, 2) := by decide +kernel
theorem dX8_loads_141 : decode cX8_loads 141 = .ok (.iconst 1, 1) := by decide +kernel
theorem dX8_loads_142 : decode cX8_loads 142 = .ok (.if_icmp .le 52, 3) := by decide +kernel
theorem dX8_loads_145 : decode cX8_loads 145 = .ok (.aload_n 0, 1) := by decide +kernel
theorem dX8_loads_146 : decode cX8_loads 146 = .ok (.iload 4, 2) := by decide +kernel
theorem dX8_loads_148 : decode cX8_loads 148 = .ok (.iconst 1, 1) := by decide +kernel
theorem dX8_loads_149 : decode cX8_loads 149 = .ok (.isub, 1) := by decide +kernel
theorem dX8_loads_150 : decode cX8_loads 150 = .ok (.invokevirtual 174, 3) := by decide +kernel
theorem dX8_loads_153 : decode cX8_loads 153 = .ok (.bipush 32, 2) := by decide +kernel
theorem dX8_loads_155 : decode cX8_loads 155 = .ok (.if_icmp .ge 39, 3) := by decide +kernel
theorem dX8_loads_158 : decode cX8_loads 158 = .ok (.aload_n 0, 1) := by decide +kernel
theorem dX8_loads_159 : decode cX8_loads 159 = .ok (.iconst 0, 1) := by decide +kernel
theorem dX8_loads_160 : decode cX8_loads 160 = .ok (.putfield 76, 3) := by decide +kernel
theorem dX8_loads_163 : decode cX8_loads 163 = .ok (.aload_n 0, 1) := by decide +kernel
theorem dX8_loads_164 : decode cX8_loads 164 = .ok (.iload 4, 2) := by decide +kernel
theorem dX8_loads_166 : decode cX8_loads 166 = .ok (.iconst 2, 1) := by decide +kernel
theorem dX8_loads_167 : decode cX8_loads 167 = .ok (.isub, 1) := by decide +kernel
theorem dX8_loads_168 : decode cX8_loads 168 = .ok (.invokevirtual 143, 3) := by decide +kernel
theorem dX8_loads_171 : decode cX8_loads 171 = .ok (.aload_n 0, 1) := by decide +kernel
theorem dX8_loads_172 : decode cX8_loads 172 = .ok (.iload 4, 2) := by decide +kernel
theorem dX8_loads_174 : decode cX8_loads 174 = .ok (.iconst 1, 1) := by decide +kernel
theorem dX8_loads_175 : decode cX8_loads 175 = .ok (.isub, 1) := by decide +kernel
theorem dX8_loads_176 : decode cX8_loads 176 = .ok (.invokevirtual 143, 3) := by decide +kernel
theorem dX8_loads_179 : decode cX8_loads 179 = .ok (.aload_n 0, 1) := by decide +kernel
theorem dX8_loads_180 : decode cX8_loads 180 = .ok (.iload 4, 2) := by decide +kernel
theorem dX8_loads_182 : decode cX8_loads 182 = .ok (.iconst 2, 1) := by decide +kernel
theorem dX8_loads_183 : decode cX8_loads 183 = .ok (.isub, 1) := by decide +kernel
theorem dX8_loads_184 : decode cX8_loads 184 = .ok (.iload 4, 2) := by decide +kernel
theorem dX8_loads_186 : decode cX8_loads 186 = .ok (.iconst 1, 1) := by decide +kernel
theorem dX8_loads_187 : decode cX8_loads 187 = .ok (.isub, 1) := by decide +kernel
theorem dX8_loads_188 : decode cX8_loads 188 = .ok (.iconst 1, 1) := by decide +kernel
theorem dX8_loads_189 : decode cX8_loads 189 = .ok (.iconst 0, 1) := by decide +kernel
theorem dX8_loads_190 : decode cX8_loads 190 = .ok (.iconst 0, 1) := by decide +kernel
theorem dX8_loads_191 : decode cX8_loads 191 = .ok (.invokevirtual 153, 3) := by decide +kernel
theorem dX8_loads_194 : decode cX8_loads 194 = .ok (.aload_n 0, 1) := by decide +kernel
theorem dX8_loads_195 : decode cX8_loads 195 = .ok (.iconst 0, 1) := by decide +kernel
theorem dX8_loads_196 : decode cX8_loads 196 = .ok (.putfield 118, 3) := by decide +kernel
theorem dX8_loads_199 : decode cX8_loads 199 = .ok (.aload_n 0, 1) := by decide +kernel
theorem dX8_loads_200 : decode cX8_loads 200 = .ok (.iconst 1, 1) := by decide +kernel
theorem dX8_loads_201 : decode cX8_loads 201 = .ok (.putfield 13, 3) := by decide +kernel
theorem dX8_loads_204 : decode cX8_loads 204 = .ok (.iload 4, 2) := by decide +kernel
theorem dX8_loads_206 : decode cX8_loads 206 = .ok (.iconst 1, 1) := by decide +kernel
theorem dX8_loads_207 : decode cX8_loads 207 = .ok (.if_icmp .le 9, 3) := by decide +kernel
theorem dX8_loads_210 : decode cX8_loads 210 = .ok (.aload_n 0, 1) := by decide +kernel
theorem dX8_loads_211 : decode cX8_loads 211 = .ok (.iload 4, 2) := by decide +kernel
theorem dX8_loads_213 : decode cX8_loads 213 = .ok (.invokevirtual 190, 3) := by decide +kernel
theorem dX8_loads_216 : decode cX8_loads 216 = .ok (.aload_n 0, 1) := by decide +kernel
theorem dX8_loads_217 : decode cX8_loads 217 = .ok (.getfield 13, 3) := by decide +kernel
theorem dX8_loads_220 : decode cX8_loads 220 = .ok (.ireturn, 1) := by decide +kernel
theorem dX8_loadsInner_0 : decode cX8_loadsInner 0 = .ok (.aload_n 0, 1) := by decide +kernel
theorem dX8_loadsInner_1 : decode cX8_loadsInner 1 = .ok (.iload_n 1, 1) := by decide +kernel
theorem dX8_loadsInner_2 : decode cX8_loadsInner 2 = .ok (.putfield 118, 3) := by decide +kernel
theorem dX8_loadsInner_5 : decode cX8_loadsInner 5 = .ok (.aload_n 0, 1) := by decide +kernel
theorem dX8_loadsInner_6 : decode cX8_loadsInner 6 = .ok (.iconst 2, 1) := by decide +kernel
theorem dX8_loadsInner_7 : decode cX8_loadsInner 7 = .ok (.putfield 13, 3) := by decide +kernel
theorem dX8_loadsInner_10 : decode cX8_loadsInner 10 = .ok (.aload_n 0, 1) := by decide +kernel
theorem dX8_loadsInner_11 : decode cX8_loadsInner 11 = .ok (.aload_n 0, 1) := by decide +kernel
theorem dX8_loadsInner_12 : decode cX8_loadsInner 12 = .ok (.getfield 118, 3) := by decide +kernel
theorem dX8_loadsInner_15 : decode cX8_loadsInner 15 = .ok (.iconst 2, 1) := by decide +kernel
theorem dX8_loadsInner_16 : decode cX8_loadsInner 16 = .ok (.iconst 0, 1) := by decide +kernel
theorem dX8_loadsInner_17 : decode cX8_loadsInner 17 = .ok (.iconst 0, 1) := by decide +kernel
theorem dX8_loadsInner_18 : decode cX8_loadsInner 18 = .ok (.iconst 0, 1) := by decide +kernel
theorem dX8_loadsInner_19 : decode cX8_loadsInner 19 = .ok (.invokevirtual 107, 3) := by decide +kernel
theorem dX8_loadsInner_22 : decode cX8_loadsInner 22 = .ok (.iconst 1, 1) := by decide +kernel
theorem dX8_loadsInner_23 : decode cX8_loadsInner 23 = .ok (.istore_n 2, 1) := by decide +kernel
theorem dX8_loadsInner_24 : decode cX8_loadsInner 24 = .ok (.iload_n 2, 1) := by decide +kernel
theorem dX8_loadsInner_25 : decode cX8_loadsInner 25 = .ok (.iload_n 1, 1) := by decide +kernel
theorem dX8_loadsInner_26 : decode cX8_loadsInner 26 = .ok (.if_icmp .ge 86, 3) := by decide +kernel
theorem dX8_loadsInner_29 : decode cX8_loadsInner 29 = .ok (.aload_n 0, 1) := by decide +kernel
theorem dX8_loadsInner_30 : decode cX8_loadsInner 30 = .ok (.iconst 0, 1) := by decide +kernel
theorem dX8_loadsInner_31 : decode cX8_loadsInner 31 = .ok (.putfield 76, 3) := by decide +kernel
theorem dX8_loadsInner_34 : decode cX8_loadsInner 34 = .ok (.aload_n 0, 1) := by decide +kernel
theorem dX8_loadsInner_35 : decode cX8_loadsInner 35 = .ok (.iload_n 2, 1) := by decide +kernel
theorem dX8_loadsInner_36 : decode cX8_loadsInner 36 = .ok (.iconst 1, 1) := by decide +kernel
theorem dX8_loadsInner_37 : decode cX8_loadsInner 37 = .ok (.isub, 1) := by decide +kernel
theorem dX8_loadsInner_38 : decode cX8_loadsInner 38 = .ok (.invokevirtual 143, 3) := by decide +kernel
theorem dX8_loadsInner_41 : decode cX8_loadsInner 41 = .ok (.aload_n 0, 1) := by decide +kernel
theorem dX8_loadsInner_42 : decode cX8_loadsInner 42 = .ok (.getfield 76, 3) := by decide +kernel
theorem dX8_loadsInner_45 : decode cX8_loadsInner 45 = .ok (.istore_n 3, 1) := by decide +kernel
theorem dX8_loadsInner_46 : decode cX8_loadsInner 46 = .ok (.aload_n 0, 1) := by decide +kernel
theorem dX8_loadsInner_47 : decode cX8_loadsInner 47 = .ok (.iload_n 2, 1) := by decide +kernel
theorem dX8_loadsInner_48 : decode cX8_loadsInner 48 = .ok (.invokevirtual 143, 3) := by decide +kernel
theorem dX8_loadsInner_51 : decode cX8_loadsInner 51 = .ok (.aload_n 0, 1) := by decide +kernel
theorem dX8_loadsInner_52 : decode cX8_loadsInner 52 = .ok (.iload_n 3, 1) := by decide +kernel
theorem dX8_loadsInner_53 : decode cX8_loadsInner 53 = .ok (.aload_n 0, 1) := by decide +kernel
theorem dX8_loadsInner_54 : decode cX8_loadsInner 54 = .ok (.iload_n 3, 1) := by decide +kernel
theorem dX8_loadsInner_55 : decode cX8_loadsInner 55 = .ok (.invokevirtual 93, 3) := by decide +kernel
theorem dX8_loadsInner_58 : decode cX8_loadsInner 58 = .ok (.invokevirtual 97, 3) := by decide +kernel
theorem dX8_loadsInner_61 : decode cX8_loadsInner 61 = .ok (.aload_n 0, 1) := by decide +kernel
theorem dX8_loadsInner_62 : decode cX8_loadsInner 62 = .ok (.iconst 0, 1) := by decide +kernel
theorem dX8_loadsInner_63 : decode cX8_loadsInner 63 = .ok (.putfield 76, 3) := by decide +kernel
theorem dX8_loadsInner_66 : decode cX8_loadsInner 66 = .ok (.aload_n 0, 1) := by decide +kernel
theorem dX8_loadsInner_67 : decode cX8_loadsInner 67 = .ok (.aload_n 0, 1) := by decide +kernel
theorem dX8_loadsInner_68 : decode cX8_loadsInner 68 = .ok (.getfield 118, 3) := by decide +kernel
theorem dX8_loadsInner_71 : decode cX8_loadsInner 71 = .ok (.invokevirtual 143, 3) := by decide +kernel
theorem dX8_loadsInner_74 : decode cX8_loadsInner 74 = .ok (.aload_n 0, 1) := by decide +kernel
theorem dX8_loadsInner_75 : decode cX8_loadsInner 75 = .ok (.aload_n 0, 1) := by decide +kernel
theorem dX8_loadsInner_76 : decode cX8_loadsInner 76 = .ok (.getfield 76, 3) := by decide +kernel
theorem dX8_loadsInner_79 : decode cX8_loadsInner 79 = .ok (.aload_n 0, 1) := by decide +kernel
theorem dX8_loadsInner_80 : decode cX8_loadsInner 80 = .ok (.getfield 26, 3) := by decide +kernel
theorem dX8_loadsInner_83 : decode cX8_loadsInner 83 = .ok (.aload_n 0, 1) := by decide +kernel
theorem dX8_loadsInner_84 : decode cX8_loadsInner 84 = .ok (.getfield 90, 3) := by decide +kernel
theorem dX8_loadsInner_87 : decode cX8_loadsInner 87 = .ok (.iload_n 2, 1) := by decide +kernel
theorem dX8_loadsInner_88 : decode cX8_loadsInner 88 = .ok (.invokevirtual 146, 3) := by decide +kernel
theorem dX8_loadsInner_91 : decode cX8_loadsInner 91 = .ok (.aload_n 0, 1) := by decide +kernel
theorem dX8_loadsInner_92 : decode cX8_loadsInner 92 = .ok (.aload_n 0, 1) := by decide +kernel
theorem dX8_loadsInner_93 : decode cX8_loadsInner 93 = .ok (.getfield 118, 3) := by decide +kernel
theorem dX8_loadsInner_96 : decode cX8_loadsInner 96 = .ok (.iconst 2, 1) := by decide +kernel
theorem dX8_loadsInner_97 : decode cX8_loadsInner 97 = .ok (.iconst 0, 1) := by decide +kernel
theorem dX8_loadsInner_98 : decode cX8_loadsInner 98 = .ok (.iconst 0, 1) := by decide +kernel
theorem dX8_loadsInner_99 : decode cX8_loadsInner 99 = .ok (.aload_n 0, 1) := by decide +kernel
theorem dX8_loadsInner_100 : decode cX8_loadsInner 100 = .ok (.getfield 76, 3) := by decide +kernel
theorem dX8_loadsInner_103 : decode cX8_loadsInner 103 = .ok (.invokevirtual 107, 3) := by decide +kernel
theorem dX8_loadsInner_106 : decode cX8_loadsInner 106 = .ok (.iinc 2 1, 3) := by decide +kernel
theorem dX8_loadsInner_109 : decode cX8_loadsInner 109 = .ok (.goto (-85), 3) := by decide +kernel
theorem dX8_loadsInner_112 : decode cX8_loadsInner 112 = .ok (.return_, 1) := by decide +kernel
theorem dX8_load_0 : decode cX8_load 0 = .ok (.iload_n 1, 1) := by decide +kernel
theorem dX8_load_1 : decode cX8_load 1 = .ok (.iload_n 2, 1) := by decide +kernel
theorem dX8_load_2 : decode cX8_load 2 = .ok (.iload_n 3, 1) := by decide +kernel
theorem dX8_load_3 : decode cX8_load 3 = .ok (.invokestatic 193, 3) := by decide +kernel
theorem dX8_load_6 : decode cX8_load 6 = .ok (.ifCond .eq 13, 3) := by decide +kernel
theorem dX8_load_9 : decode cX8_load 9 = .ok (.aload_n 0, 1) := by decide +kernel
theorem dX8_load_10 : decode cX8_load 10 = .ok (.iload_n 1, 1) := by decide +kernel
theorem dX8_load_11 : decode cX8_load 11 = .ok (.iload_n 2, 1) := by decide +kernel
theorem dX8_load_12 : decode cX8_load 12 = .ok (.iload_n 3, 1) := by decide +kernel
theorem dX8_load_13 : decode cX8_load 13 = .ok (.invokevirtual 196, 3) := by decide +kernel
theorem dX8_load_16 : decode cX8_load 16 = .ok (.goto 4, 3) := by decide +kernel
theorem dX8_load_19 : decode cX8_load 19 = .ok (.iconst (-1), 1) := by decide +kernel
theorem dX8_load_20 : decode cX8_load 20 = .ok (.ireturn, 1) := by decide +kernel
theorem dX8_find_0 : decode cX8_find 0 = .ok (.iload_n 1, 1) := by decide +kernel
theorem dX8_find_1 : decode cX8_find 1 = .ok (.iload_n 2, 1) := by decide +kernel
theorem dX8_find_2 : decode cX8_find 2 = .ok (.invokestatic 162, 3) := by decide +kernel
theorem dX8_find_5 : decode cX8_find 5 = .ok (.ifCond .ne 5, 3) := by decide +kernel
theorem dX8_find_8 : decode cX8_find 8 = .ok (.iconst (-1), 1) := by decide +kernel
theorem dX8_find_9 : decode cX8_find 9 = .ok (.ireturn, 1) := by decide +kernel
theorem dX8_find_10 : decode cX8_find 10 = .ok (.aload_n 0, 1) := by decide +kernel
theorem dX8_find_11 : decode cX8_find 11 = .ok (.iload_n 1, 1) := by decide +kernel
theorem dX8_find_12 : decode cX8_find 12 = .ok (.iload_n 2, 1) := by decide +kernel
theorem dX8_find_13 : decode cX8_find 13 = .ok (.invokevirtual 165, 3) := by decide +kernel
theorem dX8_find_16 : decode cX8_find 16 = .ok (.aload_n 0, 1) := by decide +kernel
theorem dX8_find_17 : decode cX8_find 17 = .ok (.invokevirtual 200, 3) := by decide +kernel
theorem dX8_find_20 : decode cX8_find 20 = .ok (.ireturn, 1) := by decide +kernel
theorem dX8_firstLeaf_0 : decode cX8_firstLeaf 0 = .ok (.aload_n 0, 1) := by decide +kernel
theorem dX8_firstLeaf_1 : decode cX8_firstLeaf 1 = .ok (.getfield 118, 3) := by decide +kernel
theorem dX8_firstLeaf_4 : decode cX8_firstLeaf 4 = .ok (.istore_n 1, 1) := by decide +kernel
theorem dX8_firstLeaf_5 : decode cX8_firstLeaf 5 = .ok (.aload_n 0, 1) := by decide +kernel
theorem dX8_firstLeaf_6 : decode cX8_firstLeaf 6 = .ok (.iload_n 1, 1) := by decide +kernel
theorem dX8_firstLeaf_7 : decode cX8_firstLeaf 7 = .ok (.iconst 0, 1) := by decide +kernel
theorem dX8_firstLeaf_8 : decode cX8_firstLeaf 8 = .ok (.invokevirtual 69, 3) := by decide +kernel
theorem dX8_firstLeaf_11 : decode cX8_firstLeaf 11 = .ok (.iconst 2, 1) := by decide +kernel
theorem dX8_firstLeaf_12 : decode cX8_firstLeaf 12 = .ok (.if_icmp .ne 13, 3) := by decide +kernel
theorem dX8_firstLeaf_15 : decode cX8_firstLeaf 15 = .ok (.aload_n 0, 1) := by decide +kernel
theorem dX8_firstLeaf_16 : decode cX8_firstLeaf 16 = .ok (.iload_n 1, 1) := by decide +kernel
theorem dX8_firstLeaf_17 : decode cX8_firstLeaf 17 = .ok (.iconst 2, 1) := by decide +kernel
theorem dX8_firstLeaf_18 : decode cX8_firstLeaf 18 = .ok (.invokevirtual 69, 3) := by decide +kernel
theorem dX8_firstLeaf_21 : decode cX8_firstLeaf 21 = .ok (.istore_n 1, 1) := by decide +kernel
theorem dX8_firstLeaf_22 : decode cX8_firstLeaf 22 = .ok (.goto (-17), 3) := by decide +kernel
theorem dX8_firstLeaf_25 : decode cX8_firstLeaf 25 = .ok (.iload_n 1, 1) := by decide +kernel
theorem dX8_firstLeaf_26 : decode cX8_firstLeaf 26 = .ok (.ireturn, 1) := by decide +kernel
theorem dX8_nextLeaf_0 : decode cX8_nextLeaf 0 = .ok (.aload_n 0, 1) := by decide +kernel
theorem dX8_nextLeaf_1 : decode cX8_nextLeaf 1 = .ok (.iload_n 1, 1) := by decide +kernel
theorem dX8_nextLeaf_2 : decode cX8_nextLeaf 2 = .ok (.iconst 2, 1) := by decide +kernel
theorem dX8_nextLeaf_3 : decode cX8_nextLeaf 3 = .ok (.invokevirtual 69, 3) := by decide +kernel
theorem dX8_nextLeaf_6 : decode cX8_nextLeaf 6 = .ok (.ifCond .ne 8, 3) := by decide +kernel
theorem dX8_nextLeaf_9 : decode cX8_nextLeaf 9 = .ok (.bipush (-9), 2) := by decide +kernel
theorem dX8_nextLeaf_11 : decode cX8_nextLeaf 11 = .ok (.goto 11, 3) := by decide +kernel
theorem dX8_nextLeaf_14 : decode cX8_nextLeaf 14 = .ok (.aload_n 0, 1) := by decide +kernel
theorem dX8_nextLeaf_15 : decode cX8_nextLeaf 15 = .ok (.iload_n 1, 1) := by decide +kernel
theorem dX8_nextLeaf_16 : decode cX8_nextLeaf 16 = .ok (.iconst 2, 1) := by decide +kernel
theorem dX8_nextLeaf_17 : decode cX8_nextLeaf 17 = .ok (.invokevirtual 69, 3) := by decide +kernel
theorem dX8_nextLeaf_20 : decode cX8_nextLeaf 20 = .ok (.iconst 1, 1) := by decide +kernel
theorem dX8_nextLeaf_21 : decode cX8_nextLeaf 21 = .ok (.isub, 1) := by decide +kernel
theorem dX8_nextLeaf_22 : decode cX8_nextLeaf 22 = .ok (.ireturn, 1) := by decide +kernel
theorem dX8_beginsSo_0 : decode cX8_beginsSo 0 = .ok (.aload_n 0, 1) := by decide +kernel
theorem dX8_beginsSo_1 : decode cX8_beginsSo 1 = .ok (.iload_n 1, 1) := by decide +kernel
theorem dX8_beginsSo_2 : decode cX8_beginsSo 2 = .ok (.iload_n 2, 1) := by decide +kernel
theorem dX8_beginsSo_3 : decode cX8_beginsSo 3 = .ok (.invokevirtual 69, 3) := by decide +kernel
theorem dX8_beginsSo_6 : decode cX8_beginsSo 6 = .ok (.aload_n 0, 1) := by decide +kernel
theorem dX8_beginsSo_7 : decode cX8_beginsSo 7 = .ok (.getfield 111, 3) := by decide +kernel
theorem dX8_beginsSo_10 : decode cX8_beginsSo 10 = .ok (.if_icmp .lt 7, 3) := by decide +kernel
theorem dX8_beginsSo_13 : decode cX8_beginsSo 13 = .ok (.iconst 1, 1) := by decide +kernel
theorem dX8_beginsSo_14 : decode cX8_beginsSo 14 = .ok (.goto 4, 3) := by decide +kernel
theorem dX8_beginsSo_17 : decode cX8_beginsSo 17 = .ok (.iconst 0, 1) := by decide +kernel
theorem dX8_beginsSo_18 : decode cX8_beginsSo 18 = .ok (.istore_n 3, 1) := by decide +kernel
theorem dX8_beginsSo_19 : decode cX8_beginsSo 19 = .ok (.iconst 0, 1) := by decide +kernel
theorem dX8_beginsSo_20 : decode cX8_beginsSo 20 = .ok (.istore 4, 2) := by decide +kernel
theorem dX8_beginsSo_22 : decode cX8_beginsSo 22 = .ok (.iload 4, 2) := by decide +kernel
theorem dX8_beginsSo_24 : decode cX8_beginsSo 24 = .ok (.aload_n 0, 1) := by decide +kernel
theorem dX8_beginsSo_25 : decode cX8_beginsSo 25 = .ok (.getfield 111, 3) := by decide +kernel
theorem dX8_beginsSo_28 : decode cX8_beginsSo 28 = .ok (.if_icmp .ge 40, 3) := by decide +kernel
theorem dX8_beginsSo_31 : decode cX8_beginsSo 31 = .ok (.iload_n 3, 1) := by decide +kernel
theorem dX8_beginsSo_32 : decode cX8_beginsSo 32 = .ok (.ifCond .eq 36, 3) := by decide +kernel
theorem dX8_beginsSo_35 : decode cX8_beginsSo 35 = .ok (.aload_n 0, 1) := by decide +kernel
theorem dX8_beginsSo_36 : decode cX8_beginsSo 36 = .ok (.iload_n 1, 1) := by decide +kernel
theorem dX8_beginsSo_37 : decode cX8_beginsSo 37 = .ok (.iload_n 2, 1) := by decide +kernel
theorem dX8_beginsSo_38 : decode cX8_beginsSo 38 = .ok (.iconst 1, 1) := by decide +kernel
theorem dX8_beginsSo_39 : decode cX8_beginsSo 39 = .ok (.iadd, 1) := by decide +kernel
theorem dX8_beginsSo_40 : decode cX8_beginsSo 40 = .ok (.iload 4, 2) := by decide +kernel
theorem dX8_beginsSo_42 : decode cX8_beginsSo 42 = .ok (.iadd, 1) := by decide +kernel
theorem dX8_beginsSo_43 : decode cX8_beginsSo 43 = .ok (.invokevirtual 69, 3) := by decide +kernel
theorem dX8_beginsSo_46 : decode cX8_beginsSo 46 = .ok (.aload_n 0, 1) := by decide +kernel
theorem dX8_beginsSo_47 : decode cX8_beginsSo 47 = .ok (.getfield 29, 3) := by decide +kernel
theorem dX8_beginsSo_50 : decode cX8_beginsSo 50 = .ok (.iload 4, 2) := by decide +kernel
theorem dX8_beginsSo_52 : decode cX8_beginsSo 52 = .ok (.iaload, 1) := by decide +kernel
theorem dX8_beginsSo_53 : decode cX8_beginsSo 53 = .ok (.if_icmp .ne 7, 3) := by decide +kernel
theorem dX8_beginsSo_56 : decode cX8_beginsSo 56 = .ok (.iconst 1, 1) := by decide +kernel
theorem dX8_beginsSo_57 : decode cX8_beginsSo 57 = .ok (.goto 4, 3) := by decide +kernel
theorem dX8_beginsSo_60 : decode cX8_beginsSo 60 = .ok (.iconst 0, 1) := by decide +kernel
theorem dX8_beginsSo_61 : decode cX8_beginsSo 61 = .ok (.istore_n 3, 1) := by decide +kernel
theorem dX8_beginsSo_62 : decode cX8_beginsSo 62 = .ok (.iinc 4 1, 3) := by decide +kernel
theorem dX8_beginsSo_65 : decode cX8_beginsSo 65 = .ok (.goto (-43), 3) := by decide +kernel
theorem dX8_beginsSo_68 : decode cX8_beginsSo 68 = .ok (.iload_n 3, 1) := by decide +kernel
theorem dX8_beginsSo_69 : decode cX8_beginsSo 69 = .ok (.ireturn, 1) := by decide +kernel
theorem dX8_rank_0 : decode cX8_rank 0 = .ok (.iload_n 1, 1) := by decide +kernel
theorem dX8_rank_1 : decode cX8_rank 1 = .ok (.iload_n 2, 1) := by decide +kernel
theorem dX8_rank_2 : decode cX8_rank 2 = .ok (.invokestatic 162, 3) := by decide +kernel
theorem dX8_rank_5 : decode cX8_rank 5 = .ok (.ifCond .eq 12, 3) := by decide +kernel
theorem dX8_rank_8 : decode cX8_rank 8 = .ok (.iload_n 3, 1) := by decide +kernel
theorem dX8_rank_9 : decode cX8_rank 9 = .ok (.iconst 0, 1) := by decide +kernel
theorem dX8_rank_10 : decode cX8_rank 10 = .ok (.iconst 1, 1) := by decide +kernel
theorem dX8_rank_11 : decode cX8_rank 11 = .ok (.invokestatic 114, 3) := by decide +kernel
theorem dX8_rank_14 : decode cX8_rank 14 = .ok (.ifCond .ne 5, 3) := by decide +kernel
theorem dX8_rank_17 : decode cX8_rank 17 = .ok (.iconst (-1), 1) := by decide +kernel
