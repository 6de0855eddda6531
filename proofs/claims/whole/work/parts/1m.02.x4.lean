theorem dX8_rank_18 : decode cX8_rank 18 = .ok (.ireturn, 1) := by decide +kernel
theorem dX8_rank_19 : decode cX8_rank 19 = .ok (.aload_n 0, 1) := by decide +kernel
theorem dX8_rank_20 : decode cX8_rank 20 = .ok (.iload_n 1, 1) := by decide +kernel
theorem dX8_rank_21 : decode cX8_rank 21 = .ok (.iload_n 2, 1) := by decide +kernel
theorem dX8_rank_22 : decode cX8_rank 22 = .ok (.invokevirtual 165, 3) := by decide +kernel
theorem dX8_rank_25 : decode cX8_rank 25 = .ok (.iconst 0, 1) := by decide +kernel
theorem dX8_rank_26 : decode cX8_rank 26 = .ok (.istore 4, 2) := by decide +kernel
theorem dX8_rank_28 : decode cX8_rank 28 = .ok (.aload_n 0, 1) := by decide +kernel
theorem dX8_rank_29 : decode cX8_rank 29 = .ok (.invokevirtual 203, 3) := by decide +kernel
theorem dX8_rank_32 : decode cX8_rank 32 = .ok (.istore 5, 2) := by decide +kernel
theorem dX8_rank_34 : decode cX8_rank 34 = .ok (.iload 5, 2) := by decide +kernel
theorem dX8_rank_36 : decode cX8_rank 36 = .ok (.bipush (-9), 2) := by decide +kernel
theorem dX8_rank_38 : decode cX8_rank 38 = .ok (.if_icmp .eq 101, 3) := by decide +kernel
theorem dX8_rank_41 : decode cX8_rank 41 = .ok (.iconst 3, 1) := by decide +kernel
theorem dX8_rank_42 : decode cX8_rank 42 = .ok (.istore 6, 2) := by decide +kernel
theorem dX8_rank_44 : decode cX8_rank 44 = .ok (.iconst 0, 1) := by decide +kernel
theorem dX8_rank_45 : decode cX8_rank 45 = .ok (.istore 7, 2) := by decide +kernel
theorem dX8_rank_47 : decode cX8_rank 47 = .ok (.iload 7, 2) := by decide +kernel
theorem dX8_rank_49 : decode cX8_rank 49 = .ok (.aload_n 0, 1) := by decide +kernel
theorem dX8_rank_50 : decode cX8_rank 50 = .ok (.iload 5, 2) := by decide +kernel
theorem dX8_rank_52 : decode cX8_rank 52 = .ok (.iconst 1, 1) := by decide +kernel
theorem dX8_rank_53 : decode cX8_rank 53 = .ok (.invokevirtual 69, 3) := by decide +kernel
theorem dX8_rank_56 : decode cX8_rank 56 = .ok (.if_icmp .ge 72, 3) := by decide +kernel
theorem dX8_rank_59 : decode cX8_rank 59 = .ok (.iload_n 3, 1) := by decide +kernel
theorem dX8_rank_60 : decode cX8_rank 60 = .ok (.ifCond .ne 22, 3) := by decide +kernel
theorem dX8_rank_63 : decode cX8_rank 63 = .ok (.aload_n 0, 1) := by decide +kernel
theorem dX8_rank_64 : decode cX8_rank 64 = .ok (.iload 5, 2) := by decide +kernel
theorem dX8_rank_66 : decode cX8_rank 66 = .ok (.iload 6, 2) := by decide +kernel
theorem dX8_rank_68 : decode cX8_rank 68 = .ok (.invokevirtual 121, 3) := by decide +kernel
theorem dX8_rank_71 : decode cX8_rank 71 = .ok (.ifCond .le 7, 3) := by decide +kernel
theorem dX8_rank_74 : decode cX8_rank 74 = .ok (.iconst 1, 1) := by decide +kernel
theorem dX8_rank_75 : decode cX8_rank 75 = .ok (.goto 15, 3) := by decide +kernel
theorem dX8_rank_78 : decode cX8_rank 78 = .ok (.iconst 0, 1) := by decide +kernel
theorem dX8_rank_79 : decode cX8_rank 79 = .ok (.goto 11, 3) := by decide +kernel
theorem dX8_rank_82 : decode cX8_rank 82 = .ok (.aload_n 0, 1) := by decide +kernel
theorem dX8_rank_83 : decode cX8_rank 83 = .ok (.iload 5, 2) := by decide +kernel
theorem dX8_rank_85 : decode cX8_rank 85 = .ok (.iload 6, 2) := by decide +kernel
theorem dX8_rank_87 : decode cX8_rank 87 = .ok (.invokevirtual 206, 3) := by decide +kernel
theorem dX8_rank_90 : decode cX8_rank 90 = .ok (.istore 8, 2) := by decide +kernel
theorem dX8_rank_92 : decode cX8_rank 92 = .ok (.iload 4, 2) := by decide +kernel
theorem dX8_rank_94 : decode cX8_rank 94 = .ok (.iload 8, 2) := by decide +kernel
theorem dX8_rank_96 : decode cX8_rank 96 = .ok (.ifCond .eq 7, 3) := by decide +kernel
theorem dX8_rank_99 : decode cX8_rank 99 = .ok (.iconst 1, 1) := by decide +kernel
theorem dX8_rank_100 : decode cX8_rank 100 = .ok (.goto 4, 3) := by decide +kernel
theorem dX8_rank_103 : decode cX8_rank 103 = .ok (.iconst 0, 1) := by decide +kernel
theorem dX8_rank_104 : decode cX8_rank 104 = .ok (.iadd, 1) := by decide +kernel
theorem dX8_rank_105 : decode cX8_rank 105 = .ok (.istore 4, 2) := by decide +kernel
theorem dX8_rank_107 : decode cX8_rank 107 = .ok (.iload 6, 2) := by decide +kernel
theorem dX8_rank_109 : decode cX8_rank 109 = .ok (.aload_n 0, 1) := by decide +kernel
theorem dX8_rank_110 : decode cX8_rank 110 = .ok (.iload 5, 2) := by decide +kernel
theorem dX8_rank_112 : decode cX8_rank 112 = .ok (.iload 6, 2) := by decide +kernel
theorem dX8_rank_114 : decode cX8_rank 114 = .ok (.invokevirtual 69, 3) := by decide +kernel
theorem dX8_rank_117 : decode cX8_rank 117 = .ok (.iconst 2, 1) := by decide +kernel
theorem dX8_rank_118 : decode cX8_rank 118 = .ok (.iadd, 1) := by decide +kernel
theorem dX8_rank_119 : decode cX8_rank 119 = .ok (.iadd, 1) := by decide +kernel
theorem dX8_rank_120 : decode cX8_rank 120 = .ok (.istore 6, 2) := by decide +kernel
theorem dX8_rank_122 : decode cX8_rank 122 = .ok (.iinc 7 1, 3) := by decide +kernel
theorem dX8_rank_125 : decode cX8_rank 125 = .ok (.goto (-78), 3) := by decide +kernel
theorem dX8_rank_128 : decode cX8_rank 128 = .ok (.aload_n 0, 1) := by decide +kernel
theorem dX8_rank_129 : decode cX8_rank 129 = .ok (.iload 5, 2) := by decide +kernel
theorem dX8_rank_131 : decode cX8_rank 131 = .ok (.invokevirtual 209, 3) := by decide +kernel
theorem dX8_rank_134 : decode cX8_rank 134 = .ok (.istore 5, 2) := by decide +kernel
theorem dX8_rank_136 : decode cX8_rank 136 = .ok (.goto (-102), 3) := by decide +kernel
theorem dX8_rank_139 : decode cX8_rank 139 = .ok (.iload 4, 2) := by decide +kernel
theorem dX8_rank_141 : decode cX8_rank 141 = .ok (.ireturn, 1) := by decide +kernel
theorem dX8_path_0 : decode cX8_path 0 = .ok (.iload_n 1, 1) := by decide +kernel
theorem dX8_path_1 : decode cX8_path 1 = .ok (.iload_n 2, 1) := by decide +kernel
theorem dX8_path_2 : decode cX8_path 2 = .ok (.invokestatic 162, 3) := by decide +kernel
theorem dX8_path_5 : decode cX8_path 5 = .ok (.ifCond .eq 7, 3) := by decide +kernel
theorem dX8_path_8 : decode cX8_path 8 = .ok (.iload_n 3, 1) := by decide +kernel
theorem dX8_path_9 : decode cX8_path 9 = .ok (.ifCond .ge 5, 3) := by decide +kernel
theorem dX8_path_12 : decode cX8_path 12 = .ok (.iconst (-1), 1) := by decide +kernel
theorem dX8_path_13 : decode cX8_path 13 = .ok (.ireturn, 1) := by decide +kernel
theorem dX8_path_14 : decode cX8_path 14 = .ok (.aload_n 0, 1) := by decide +kernel
theorem dX8_path_15 : decode cX8_path 15 = .ok (.iload_n 1, 1) := by decide +kernel
theorem dX8_path_16 : decode cX8_path 16 = .ok (.iload_n 2, 1) := by decide +kernel
theorem dX8_path_17 : decode cX8_path 17 = .ok (.invokevirtual 165, 3) := by decide +kernel
theorem dX8_path_20 : decode cX8_path 20 = .ok (.aload_n 0, 1) := by decide +kernel
theorem dX8_path_21 : decode cX8_path 21 = .ok (.invokevirtual 127, 3) := by decide +kernel
theorem dX8_path_24 : decode cX8_path 24 = .ok (.iload_n 3, 1) := by decide +kernel
theorem dX8_path_25 : decode cX8_path 25 = .ok (.aload_n 0, 1) := by decide +kernel
theorem dX8_path_26 : decode cX8_path 26 = .ok (.getfield 13, 3) := by decide +kernel
theorem dX8_path_29 : decode cX8_path 29 = .ok (.if_icmp .ge 12, 3) := by decide +kernel
theorem dX8_path_32 : decode cX8_path 32 = .ok (.aload_n 0, 1) := by decide +kernel
theorem dX8_path_33 : decode cX8_path 33 = .ok (.getfield 32, 3) := by decide +kernel
theorem dX8_path_36 : decode cX8_path 36 = .ok (.iload_n 3, 1) := by decide +kernel
theorem dX8_path_37 : decode cX8_path 37 = .ok (.iaload, 1) := by decide +kernel
theorem dX8_path_38 : decode cX8_path 38 = .ok (.goto 5, 3) := by decide +kernel
theorem dX8_path_41 : decode cX8_path 41 = .ok (.bipush (-9), 2) := by decide +kernel
theorem dX8_path_43 : decode cX8_path 43 = .ok (.ireturn, 1) := by decide +kernel
theorem dX8_keys_0 : decode cX8_keys 0 = .ok (.iconst 0, 1) := by decide +kernel
theorem dX8_keys_1 : decode cX8_keys 1 = .ok (.istore_n 1, 1) := by decide +kernel
theorem dX8_keys_2 : decode cX8_keys 2 = .ok (.aload_n 0, 1) := by decide +kernel
theorem dX8_keys_3 : decode cX8_keys 3 = .ok (.invokevirtual 203, 3) := by decide +kernel
theorem dX8_keys_6 : decode cX8_keys 6 = .ok (.istore_n 2, 1) := by decide +kernel
theorem dX8_keys_7 : decode cX8_keys 7 = .ok (.iload_n 2, 1) := by decide +kernel
theorem dX8_keys_8 : decode cX8_keys 8 = .ok (.bipush (-9), 2) := by decide +kernel
theorem dX8_keys_10 : decode cX8_keys 10 = .ok (.if_icmp .eq 21, 3) := by decide +kernel
theorem dX8_keys_13 : decode cX8_keys 13 = .ok (.iload_n 1, 1) := by decide +kernel
theorem dX8_keys_14 : decode cX8_keys 14 = .ok (.aload_n 0, 1) := by decide +kernel
theorem dX8_keys_15 : decode cX8_keys 15 = .ok (.iload_n 2, 1) := by decide +kernel
theorem dX8_keys_16 : decode cX8_keys 16 = .ok (.iconst 1, 1) := by decide +kernel
theorem dX8_keys_17 : decode cX8_keys 17 = .ok (.invokevirtual 69, 3) := by decide +kernel
theorem dX8_keys_20 : decode cX8_keys 20 = .ok (.iadd, 1) := by decide +kernel
theorem dX8_keys_21 : decode cX8_keys 21 = .ok (.istore_n 1, 1) := by decide +kernel
theorem dX8_keys_22 : decode cX8_keys 22 = .ok (.aload_n 0, 1) := by decide +kernel
theorem dX8_keys_23 : decode cX8_keys 23 = .ok (.iload_n 2, 1) := by decide +kernel
theorem dX8_keys_24 : decode cX8_keys 24 = .ok (.invokevirtual 209, 3) := by decide +kernel
theorem dX8_keys_27 : decode cX8_keys 27 = .ok (.istore_n 2, 1) := by decide +kernel
theorem dX8_keys_28 : decode cX8_keys 28 = .ok (.goto (-21), 3) := by decide +kernel
theorem dX8_keys_31 : decode cX8_keys 31 = .ok (.iload_n 1, 1) := by decide +kernel
theorem dX8_keys_32 : decode cX8_keys 32 = .ok (.ireturn, 1) := by decide +kernel
theorem dX8_whereIs_0 : decode cX8_whereIs 0 = .ok (.iload_n 1, 1) := by decide +kernel
theorem dX8_whereIs_1 : decode cX8_whereIs 1 = .ok (.istore_n 2, 1) := by decide +kernel
theorem dX8_whereIs_2 : decode cX8_whereIs 2 = .ok (.aload_n 0, 1) := by decide +kernel
theorem dX8_whereIs_3 : decode cX8_whereIs 3 = .ok (.invokevirtual 203, 3) := by decide +kernel
theorem dX8_whereIs_6 : decode cX8_whereIs 6 = .ok (.istore_n 3, 1) := by decide +kernel
theorem dX8_whereIs_7 : decode cX8_whereIs 7 = .ok (.iload_n 2, 1) := by decide +kernel
theorem dX8_whereIs_8 : decode cX8_whereIs 8 = .ok (.aload_n 0, 1) := by decide +kernel
theorem dX8_whereIs_9 : decode cX8_whereIs 9 = .ok (.iload_n 3, 1) := by decide +kernel
theorem dX8_whereIs_10 : decode cX8_whereIs 10 = .ok (.iconst 1, 1) := by decide +kernel
theorem dX8_whereIs_11 : decode cX8_whereIs 11 = .ok (.invokevirtual 69, 3) := by decide +kernel
theorem dX8_whereIs_14 : decode cX8_whereIs 14 = .ok (.if_icmp .lt 21, 3) := by decide +kernel
theorem dX8_whereIs_17 : decode cX8_whereIs 17 = .ok (.iload_n 2, 1) := by decide +kernel
theorem dX8_whereIs_18 : decode cX8_whereIs 18 = .ok (.aload_n 0, 1) := by decide +kernel
theorem dX8_whereIs_19 : decode cX8_whereIs 19 = .ok (.iload_n 3, 1) := by decide +kernel
theorem dX8_whereIs_20 : decode cX8_whereIs 20 = .ok (.iconst 1, 1) := by decide +kernel
theorem dX8_whereIs_21 : decode cX8_whereIs 21 = .ok (.invokevirtual 69, 3) := by decide +kernel
theorem dX8_whereIs_24 : decode cX8_whereIs 24 = .ok (.isub, 1) := by decide +kernel
theorem dX8_whereIs_25 : decode cX8_whereIs 25 = .ok (.istore_n 2, 1) := by decide +kernel
theorem dX8_whereIs_26 : decode cX8_whereIs 26 = .ok (.aload_n 0, 1) := by decide +kernel
theorem dX8_whereIs_27 : decode cX8_whereIs 27 = .ok (.iload_n 3, 1) := by decide +kernel
theorem dX8_whereIs_28 : decode cX8_whereIs 28 = .ok (.invokevirtual 209, 3) := by decide +kernel
theorem dX8_whereIs_31 : decode cX8_whereIs 31 = .ok (.istore_n 3, 1) := by decide +kernel
theorem dX8_whereIs_32 : decode cX8_whereIs 32 = .ok (.goto (-25), 3) := by decide +kernel
theorem dX8_whereIs_35 : decode cX8_whereIs 35 = .ok (.bipush 64, 2) := by decide +kernel
theorem dX8_whereIs_37 : decode cX8_whereIs 37 = .ok (.iload_n 3, 1) := by decide +kernel
theorem dX8_whereIs_38 : decode cX8_whereIs 38 = .ok (.imul, 1) := by decide +kernel
theorem dX8_whereIs_39 : decode cX8_whereIs 39 = .ok (.aload_n 0, 1) := by decide +kernel
theorem dX8_whereIs_40 : decode cX8_whereIs 40 = .ok (.iload_n 3, 1) := by decide +kernel
theorem dX8_whereIs_41 : decode cX8_whereIs 41 = .ok (.iload_n 2, 1) := by decide +kernel
theorem dX8_whereIs_42 : decode cX8_whereIs 42 = .ok (.invokevirtual 73, 3) := by decide +kernel
theorem dX8_whereIs_45 : decode cX8_whereIs 45 = .ok (.iadd, 1) := by decide +kernel
theorem dX8_whereIs_46 : decode cX8_whereIs 46 = .ok (.ireturn, 1) := by decide +kernel
theorem dX8_letter_0 : decode cX8_letter 0 = .ok (.iload_n 1, 1) := by decide +kernel
theorem dX8_letter_1 : decode cX8_letter 1 = .ok (.iconst 0, 1) := by decide +kernel
theorem dX8_letter_2 : decode cX8_letter 2 = .ok (.aload_n 0, 1) := by decide +kernel
theorem dX8_letter_3 : decode cX8_letter 3 = .ok (.invokevirtual 212, 3) := by decide +kernel
theorem dX8_letter_6 : decode cX8_letter 6 = .ok (.iconst 1, 1) := by decide +kernel
theorem dX8_letter_7 : decode cX8_letter 7 = .ok (.isub, 1) := by decide +kernel
theorem dX8_letter_8 : decode cX8_letter 8 = .ok (.invokestatic 114, 3) := by decide +kernel
theorem dX8_letter_11 : decode cX8_letter 11 = .ok (.ifCond .eq 13, 3) := by decide +kernel
theorem dX8_letter_14 : decode cX8_letter 14 = .ok (.iload_n 2, 1) := by decide +kernel
theorem dX8_letter_15 : decode cX8_letter 15 = .ok (.iconst 0, 1) := by decide +kernel
theorem dX8_letter_16 : decode cX8_letter 16 = .ok (.bipush 7, 2) := by decide +kernel
theorem dX8_letter_18 : decode cX8_letter 18 = .ok (.invokestatic 114, 3) := by decide +kernel
theorem dX8_letter_21 : decode cX8_letter 21 = .ok (.ifCond .ne 5, 3) := by decide +kernel
theorem dX8_letter_24 : decode cX8_letter 24 = .ok (.iconst (-1), 1) := by decide +kernel
theorem dX8_letter_25 : decode cX8_letter 25 = .ok (.ireturn, 1) := by decide +kernel
theorem dX8_letter_26 : decode cX8_letter 26 = .ok (.aload_n 0, 1) := by decide +kernel
theorem dX8_letter_27 : decode cX8_letter 27 = .ok (.iload_n 1, 1) := by decide +kernel
theorem dX8_letter_28 : decode cX8_letter 28 = .ok (.invokevirtual 215, 3) := by decide +kernel
theorem dX8_letter_31 : decode cX8_letter 31 = .ok (.istore_n 3, 1) := by decide +kernel
theorem dX8_letter_32 : decode cX8_letter 32 = .ok (.iload_n 2, 1) := by decide +kernel
theorem dX8_letter_33 : decode cX8_letter 33 = .ok (.aload_n 0, 1) := by decide +kernel
theorem dX8_letter_34 : decode cX8_letter 34 = .ok (.getfield 7, 3) := by decide +kernel
theorem dX8_letter_37 : decode cX8_letter 37 = .ok (.iload_n 3, 1) := by decide +kernel
theorem dX8_letter_38 : decode cX8_letter 38 = .ok (.iaload, 1) := by decide +kernel
theorem dX8_letter_39 : decode cX8_letter 39 = .ok (.if_icmp .ge 16, 3) := by decide +kernel
theorem dX8_letter_42 : decode cX8_letter 42 = .ok (.aload_n 0, 1) := by decide +kernel
theorem dX8_letter_43 : decode cX8_letter 43 = .ok (.getfield 7, 3) := by decide +kernel
theorem dX8_letter_46 : decode cX8_letter 46 = .ok (.iload_n 3, 1) := by decide +kernel
theorem dX8_letter_47 : decode cX8_letter 47 = .ok (.iconst 1, 1) := by decide +kernel
theorem dX8_letter_48 : decode cX8_letter 48 = .ok (.iadd, 1) := by decide +kernel
theorem dX8_letter_49 : decode cX8_letter 49 = .ok (.iload_n 2, 1) := by decide +kernel
theorem dX8_letter_50 : decode cX8_letter 50 = .ok (.iadd, 1) := by decide +kernel
theorem dX8_letter_51 : decode cX8_letter 51 = .ok (.iaload, 1) := by decide +kernel
theorem dX8_letter_52 : decode cX8_letter 52 = .ok (.goto 5, 3) := by decide +kernel
theorem dX8_letter_55 : decode cX8_letter 55 = .ok (.bipush (-9), 2) := by decide +kernel
theorem dX8_letter_57 : decode cX8_letter 57 = .ok (.ireturn, 1) := by decide +kernel
theorem dX8_value_0 : decode cX8_value 0 = .ok (.iload_n 1, 1) := by decide +kernel
theorem dX8_value_1 : decode cX8_value 1 = .ok (.iconst 0, 1) := by decide +kernel
theorem dX8_value_2 : decode cX8_value 2 = .ok (.aload_n 0, 1) := by decide +kernel
theorem dX8_value_3 : decode cX8_value 3 = .ok (.invokevirtual 212, 3) := by decide +kernel
theorem dX8_value_6 : decode cX8_value 6 = .ok (.iconst 1, 1) := by decide +kernel
theorem dX8_value_7 : decode cX8_value 7 = .ok (.isub, 1) := by decide +kernel
theorem dX8_value_8 : decode cX8_value 8 = .ok (.invokestatic 114, 3) := by decide +kernel
theorem dX8_value_11 : decode cX8_value 11 = .ok (.ifCond .ne 5, 3) := by decide +kernel
theorem dX8_value_14 : decode cX8_value 14 = .ok (.iconst (-1), 1) := by decide +kernel
theorem dX8_value_15 : decode cX8_value 15 = .ok (.ireturn, 1) := by decide +kernel
theorem dX8_value_16 : decode cX8_value 16 = .ok (.aload_n 0, 1) := by decide +kernel
theorem dX8_value_17 : decode cX8_value 17 = .ok (.iload_n 1, 1) := by decide +kernel
theorem dX8_value_18 : decode cX8_value 18 = .ok (.invokevirtual 215, 3) := by decide +kernel
theorem dX8_value_21 : decode cX8_value 21 = .ok (.istore_n 2, 1) := by decide +kernel
theorem dX8_value_22 : decode cX8_value 22 = .ok (.aload_n 0, 1) := by decide +kernel
theorem dX8_value_23 : decode cX8_value 23 = .ok (.getfield 7, 3) := by decide +kernel
theorem dX8_value_26 : decode cX8_value 26 = .ok (.iload_n 2, 1) := by decide +kernel
theorem dX8_value_27 : decode cX8_value 27 = .ok (.aload_n 0, 1) := by decide +kernel
theorem dX8_value_28 : decode cX8_value 28 = .ok (.getfield 7, 3) := by decide +kernel
theorem dX8_value_31 : decode cX8_value 31 = .ok (.iload_n 2, 1) := by decide +kernel
theorem dX8_value_32 : decode cX8_value 32 = .ok (.iaload, 1) := by decide +kernel
theorem dX8_value_33 : decode cX8_value 33 = .ok (.iadd, 1) := by decide +kernel
theorem dX8_value_34 : decode cX8_value 34 = .ok (.iconst 1, 1) := by decide +kernel
theorem dX8_value_35 : decode cX8_value 35 = .ok (.iadd, 1) := by decide +kernel
theorem dX8_value_36 : decode cX8_value 36 = .ok (.iaload, 1) := by decide +kernel
theorem dX8_value_37 : decode cX8_value 37 = .ok (.ireturn, 1) := by decide +kernel
theorem dX8_isPage_0 : decode cX8_isPage 0 = .ok (.iload_n 0, 1) := by decide +kernel
theorem dX8_isPage_1 : decode cX8_isPage 1 = .ok (.iconst 0, 1) := by decide +kernel
theorem dX8_isPage_2 : decode cX8_isPage 2 = .ok (.bipush 31, 2) := by decide +kernel
theorem dX8_isPage_4 : decode cX8_isPage 4 = .ok (.invokestatic 114, 3) := by decide +kernel
theorem dX8_isPage_7 : decode cX8_isPage 7 = .ok (.ireturn, 1) := by decide +kernel
theorem dX8_page_0 : decode cX8_page 0 = .ok (.iload_n 1, 1) := by decide +kernel
theorem dX8_page_1 : decode cX8_page 1 = .ok (.invokestatic 218, 3) := by decide +kernel
theorem dX8_page_4 : decode cX8_page 4 = .ok (.ifCond .eq 12, 3) := by decide +kernel
theorem dX8_page_7 : decode cX8_page 7 = .ok (.iload_n 2, 1) := by decide +kernel
theorem dX8_page_8 : decode cX8_page 8 = .ok (.iconst 0, 1) := by decide +kernel
theorem dX8_page_9 : decode cX8_page 9 = .ok (.iconst 3, 1) := by decide +kernel
theorem dX8_page_10 : decode cX8_page 10 = .ok (.invokestatic 114, 3) := by decide +kernel
theorem dX8_page_13 : decode cX8_page 13 = .ok (.ifCond .ne 5, 3) := by decide +kernel
theorem dX8_page_16 : decode cX8_page 16 = .ok (.iconst (-1), 1) := by decide +kernel
theorem dX8_page_17 : decode cX8_page 17 = .ok (.ireturn, 1) := by decide +kernel
theorem dX8_page_18 : decode cX8_page 18 = .ok (.iload_n 2, 1) := by decide +kernel
theorem dX8_page_19 : decode cX8_page 19 = .ok (.iconst 3, 1) := by decide +kernel
theorem dX8_page_20 : decode cX8_page 20 = .ok (.if_icmp .ge 12, 3) := by decide +kernel
theorem dX8_page_23 : decode cX8_page 23 = .ok (.aload_n 0, 1) := by decide +kernel
theorem dX8_page_24 : decode cX8_page 24 = .ok (.iload_n 1, 1) := by decide +kernel
theorem dX8_page_25 : decode cX8_page 25 = .ok (.iload_n 2, 1) := by decide +kernel
theorem dX8_page_26 : decode cX8_page 26 = .ok (.invokevirtual 69, 3) := by decide +kernel
theorem dX8_page_29 : decode cX8_page 29 = .ok (.goto 8, 3) := by decide +kernel
theorem dX8_page_32 : decode cX8_page 32 = .ok (.aload_n 0, 1) := by decide +kernel
theorem dX8_page_33 : decode cX8_page 33 = .ok (.iload_n 1, 1) := by decide +kernel
theorem dX8_page_34 : decode cX8_page 34 = .ok (.invokevirtual 174, 3) := by decide +kernel
theorem dX8_page_37 : decode cX8_page 37 = .ok (.ireturn, 1) := by decide +kernel
theorem dX8_byteAt_0 : decode cX8_byteAt 0 = .ok (.iload_n 1, 1) := by decide +kernel
theorem dX8_byteAt_1 : decode cX8_byteAt 1 = .ok (.invokestatic 218, 3) := by decide +kernel
theorem dX8_byteAt_4 : decode cX8_byteAt 4 = .ok (.ifCond .eq 22, 3) := by decide +kernel
theorem dX8_byteAt_7 : decode cX8_byteAt 7 = .ok (.iload_n 2, 1) := by decide +kernel
theorem dX8_byteAt_8 : decode cX8_byteAt 8 = .ok (.iconst 0, 1) := by decide +kernel
theorem dX8_byteAt_9 : decode cX8_byteAt 9 = .ok (.bipush 63, 2) := by decide +kernel
theorem dX8_byteAt_11 : decode cX8_byteAt 11 = .ok (.invokestatic 114, 3) := by decide +kernel
theorem dX8_byteAt_14 : decode cX8_byteAt 14 = .ok (.ifCond .eq 12, 3) := by decide +kernel
theorem dX8_byteAt_17 : decode cX8_byteAt 17 = .ok (.aload_n 0, 1) := by decide +kernel
theorem dX8_byteAt_18 : decode cX8_byteAt 18 = .ok (.iload_n 1, 1) := by decide +kernel
theorem dX8_byteAt_19 : decode cX8_byteAt 19 = .ok (.iload_n 2, 1) := by decide +kernel
theorem dX8_byteAt_20 : decode cX8_byteAt 20 = .ok (.invokevirtual 69, 3) := by decide +kernel
theorem dX8_byteAt_23 : decode cX8_byteAt 23 = .ok (.goto 4, 3) := by decide +kernel
theorem dX8_byteAt_26 : decode cX8_byteAt 26 = .ok (.iconst (-1), 1) := by decide +kernel
theorem dX8_byteAt_27 : decode cX8_byteAt 27 = .ok (.ireturn, 1) := by decide +kernel
theorem dX8_as_0 : decode cX8_as 0 = .ok (.bipush 64, 2) := by decide +kernel
theorem dX8_as_2 : decode cX8_as 2 = .ok (.iload_n 1, 1) := by decide +kernel
theorem dX8_as_3 : decode cX8_as 3 = .ok (.imul, 1) := by decide +kernel
theorem dX8_as_4 : decode cX8_as 4 = .ok (.iload_n 2, 1) := by decide +kernel
theorem dX8_as_5 : decode cX8_as 5 = .ok (.iadd, 1) := by decide +kernel
theorem dX8_as_6 : decode cX8_as 6 = .ok (.aload_n 0, 1) := by decide +kernel
theorem dX8_as_7 : decode cX8_as 7 = .ok (.getfield 221, 3) := by decide +kernel
theorem dX8_as_10 : decode cX8_as 10 = .ok (.if_icmp .ne 10, 3) := by decide +kernel
theorem dX8_as_13 : decode cX8_as 13 = .ok (.aload_n 0, 1) := by decide +kernel
theorem dX8_as_14 : decode cX8_as 14 = .ok (.getfield 224, 3) := by decide +kernel
theorem dX8_as_17 : decode cX8_as 17 = .ok (.goto 14, 3) := by decide +kernel
theorem dX8_as_20 : decode cX8_as 20 = .ok (.aload_n 0, 1) := by decide +kernel
theorem dX8_as_21 : decode cX8_as 21 = .ok (.getfield 7, 3) := by decide +kernel
theorem dX8_as_24 : decode cX8_as 24 = .ok (.bipush 64, 2) := by decide +kernel
theorem dX8_as_26 : decode cX8_as 26 = .ok (.iload_n 1, 1) := by decide +kernel
theorem dX8_as_27 : decode cX8_as 27 = .ok (.imul, 1) := by decide +kernel
theorem dX8_as_28 : decode cX8_as 28 = .ok (.iload_n 2, 1) := by decide +kernel
theorem dX8_as_29 : decode cX8_as 29 = .ok (.iadd, 1) := by decide +kernel
theorem dX8_as_30 : decode cX8_as 30 = .ok (.iaload, 1) := by decide +kernel
theorem dX8_as_31 : decode cX8_as 31 = .ok (.ireturn, 1) := by decide +kernel
theorem dX8_isRead_0 : decode cX8_isRead 0 = .ok (.aload_n 0, 1) := by decide +kernel
theorem dX8_isRead_1 : decode cX8_isRead 1 = .ok (.iload_n 1, 1) := by decide +kernel
theorem dX8_isRead_2 : decode cX8_isRead 2 = .ok (.iconst 1, 1) := by decide +kernel
theorem dX8_isRead_3 : decode cX8_isRead 3 = .ok (.invokevirtual 227, 3) := by decide +kernel
theorem dX8_isRead_6 : decode cX8_isRead 6 = .ok (.istore_n 3, 1) := by decide +kernel
theorem dX8_isRead_7 : decode cX8_isRead 7 = .ok (.iload_n 3, 1) := by decide +kernel
theorem dX8_isRead_8 : decode cX8_isRead 8 = .ok (.ifCond .ne 23, 3) := by decide +kernel
theorem dX8_isRead_11 : decode cX8_isRead 11 = .ok (.iload_n 1, 1) := by decide +kernel
theorem dX8_isRead_12 : decode cX8_isRead 12 = .ok (.aload_n 0, 1) := by decide +kernel
theorem dX8_isRead_13 : decode cX8_isRead 13 = .ok (.getfield 118, 3) := by decide +kernel
theorem dX8_isRead_16 : decode cX8_isRead 16 = .ok (.if_icmp .ne 13, 3) := by decide +kernel
theorem dX8_isRead_19 : decode cX8_isRead 19 = .ok (.iload_n 2, 1) := by decide +kernel
theorem dX8_isRead_20 : decode cX8_isRead 20 = .ok (.aload_n 0, 1) := by decide +kernel
theorem dX8_isRead_21 : decode cX8_isRead 21 = .ok (.getfield 13, 3) := by decide +kernel
theorem dX8_isRead_24 : decode cX8_isRead 24 = .ok (.iconst 1, 1) := by decide +kernel
theorem dX8_isRead_25 : decode cX8_isRead 25 = .ok (.isub, 1) := by decide +kernel
theorem dX8_isRead_26 : decode cX8_isRead 26 = .ok (.if_icmp .ge 5, 3) := by decide +kernel
theorem dX8_isRead_29 : decode cX8_isRead 29 = .ok (.iconst 0, 1) := by decide +kernel
theorem dX8_isRead_30 : decode cX8_isRead 30 = .ok (.ireturn, 1) := by decide +kernel
theorem dX8_isRead_31 : decode cX8_isRead 31 = .ok (.iconst 3, 1) := by decide +kernel
theorem dX8_isRead_32 : decode cX8_isRead 32 = .ok (.istore 4, 2) := by decide +kernel
theorem dX8_isRead_34 : decode cX8_isRead 34 = .ok (.iconst 0, 1) := by decide +kernel
theorem dX8_isRead_35 : decode cX8_isRead 35 = .ok (.istore 5, 2) := by decide +kernel
theorem dX8_isRead_37 : decode cX8_isRead 37 = .ok (.iload 5, 2) := by decide +kernel
theorem dX8_isRead_39 : decode cX8_isRead 39 = .ok (.iload_n 3, 1) := by decide +kernel
theorem dX8_isRead_40 : decode cX8_isRead 40 = .ok (.if_icmp .ge 103, 3) := by decide +kernel
theorem dX8_isRead_43 : decode cX8_isRead 43 = .ok (.iload 4, 2) := by decide +kernel
theorem dX8_isRead_45 : decode cX8_isRead 45 = .ok (.bipush 64, 2) := by decide +kernel
theorem dX8_isRead_47 : decode cX8_isRead 47 = .ok (.if_icmp .ge 13, 3) := by decide +kernel
theorem dX8_isRead_50 : decode cX8_isRead 50 = .ok (.aload_n 0, 1) := by decide +kernel
theorem dX8_isRead_51 : decode cX8_isRead 51 = .ok (.iload_n 1, 1) := by decide +kernel
theorem dX8_isRead_52 : decode cX8_isRead 52 = .ok (.iload 4, 2) := by decide +kernel
theorem dX8_isRead_54 : decode cX8_isRead 54 = .ok (.invokevirtual 227, 3) := by decide +kernel
theorem dX8_isRead_57 : decode cX8_isRead 57 = .ok (.goto 4, 3) := by decide +kernel
theorem dX8_isRead_60 : decode cX8_isRead 60 = .ok (.iconst 0, 1) := by decide +kernel
theorem dX8_isRead_61 : decode cX8_isRead 61 = .ok (.istore 6, 2) := by decide +kernel
theorem dX8_isRead_63 : decode cX8_isRead 63 = .ok (.iload 6, 2) := by decide +kernel
theorem dX8_isRead_65 : decode cX8_isRead 65 = .ok (.iconst 1, 1) := by decide +kernel
theorem dX8_isRead_66 : decode cX8_isRead 66 = .ok (.bipush 8, 2) := by decide +kernel
theorem dX8_isRead_68 : decode cX8_isRead 68 = .ok (.invokestatic 114, 3) := by decide +kernel
theorem dX8_isRead_71 : decode cX8_isRead 71 = .ok (.ifCond .eq 15, 3) := by decide +kernel
theorem dX8_isRead_74 : decode cX8_isRead 74 = .ok (.iload 4, 2) := by decide +kernel
theorem dX8_isRead_76 : decode cX8_isRead 76 = .ok (.iload 6, 2) := by decide +kernel
theorem dX8_isRead_78 : decode cX8_isRead 78 = .ok (.iadd, 1) := by decide +kernel
theorem dX8_isRead_79 : decode cX8_isRead 79 = .ok (.iconst 2, 1) := by decide +kernel
theorem dX8_isRead_80 : decode cX8_isRead 80 = .ok (.iadd, 1) := by decide +kernel
theorem dX8_isRead_81 : decode cX8_isRead 81 = .ok (.bipush 64, 2) := by decide +kernel
theorem dX8_isRead_83 : decode cX8_isRead 83 = .ok (.if_icmp .le 5, 3) := by decide +kernel
theorem dX8_isRead_86 : decode cX8_isRead 86 = .ok (.iconst 0, 1) := by decide +kernel
theorem dX8_isRead_87 : decode cX8_isRead 87 = .ok (.ireturn, 1) := by decide +kernel
theorem dX8_isRead_88 : decode cX8_isRead 88 = .ok (.iconst 0, 1) := by decide +kernel
theorem dX8_isRead_89 : decode cX8_isRead 89 = .ok (.istore 7, 2) := by decide +kernel
theorem dX8_isRead_91 : decode cX8_isRead 91 = .ok (.iload 7, 2) := by decide +kernel
theorem dX8_isRead_93 : decode cX8_isRead 93 = .ok (.iload 6, 2) := by decide +kernel
theorem dX8_isRead_95 : decode cX8_isRead 95 = .ok (.if_icmp .ge 33, 3) := by decide +kernel
theorem dX8_isRead_98 : decode cX8_isRead 98 = .ok (.aload_n 0, 1) := by decide +kernel
theorem dX8_isRead_99 : decode cX8_isRead 99 = .ok (.iload_n 1, 1) := by decide +kernel
theorem dX8_isRead_100 : decode cX8_isRead 100 = .ok (.iload 4, 2) := by decide +kernel
theorem dX8_isRead_102 : decode cX8_isRead 102 = .ok (.iconst 1, 1) := by decide +kernel
theorem dX8_isRead_103 : decode cX8_isRead 103 = .ok (.iadd, 1) := by decide +kernel
theorem dX8_isRead_104 : decode cX8_isRead 104 = .ok (.iload 7, 2) := by decide +kernel
theorem dX8_isRead_106 : decode cX8_isRead 106 = .ok (.iadd, 1) := by decide +kernel
theorem dX8_isRead_107 : decode cX8_isRead 107 = .ok (.invokevirtual 227, 3) := by decide +kernel
theorem dX8_isRead_110 : decode cX8_isRead 110 = .ok (.bipush 97, 2) := by decide +kernel
theorem dX8_isRead_112 : decode cX8_isRead 112 = .ok (.bipush 122, 2) := by decide +kernel
theorem dX8_isRead_114 : decode cX8_isRead 114 = .ok (.invokestatic 114, 3) := by decide +kernel
theorem dX8_isRead_117 : decode cX8_isRead 117 = .ok (.ifCond .ne 5, 3) := by decide +kernel
theorem dX8_isRead_120 : decode cX8_isRead 120 = .ok (.iconst 0, 1) := by decide +kernel
theorem dX8_isRead_121 : decode cX8_isRead 121 = .ok (.ireturn, 1) := by decide +kernel
theorem dX8_isRead_122 : decode cX8_isRead 122 = .ok (.iinc 7 1, 3) := by decide +kernel
theorem dX8_isRead_125 : decode cX8_isRead 125 = .ok (.goto (-34), 3) := by decide +kernel
theorem dX8_isRead_128 : decode cX8_isRead 128 = .ok (.iload 4, 2) := by decide +kernel
theorem dX8_isRead_130 : decode cX8_isRead 130 = .ok (.iload 6, 2) := by decide +kernel
theorem dX8_isRead_132 : decode cX8_isRead 132 = .ok (.iconst 2, 1) := by decide +kernel
theorem dX8_isRead_133 : decode cX8_isRead 133 = .ok (.iadd, 1) := by decide +kernel
theorem dX8_isRead_134 : decode cX8_isRead 134 = .ok (.iadd, 1) := by decide +kernel
theorem dX8_isRead_135 : decode cX8_isRead 135 = .ok (.istore 4, 2) := by decide +kernel
theorem dX8_isRead_137 : decode cX8_isRead 137 = .ok (.iinc 5 1, 3) := by decide +kernel
theorem dX8_isRead_140 : decode cX8_isRead 140 = .ok (.goto (-103), 3) := by decide +kernel
theorem dX8_isRead_143 : decode cX8_isRead 143 = .ok (.iconst 1, 1) := by decide +kernel
theorem dX8_isRead_144 : decode cX8_isRead 144 = .ok (.istore 5, 2) := by decide +kernel
theorem dX8_isRead_146 : decode cX8_isRead 146 = .ok (.iload 4, 2) := by decide +kernel
theorem dX8_isRead_148 : decode cX8_isRead 148 = .ok (.istore 6, 2) := by decide +kernel
theorem dX8_isRead_150 : decode cX8_isRead 150 = .ok (.iload 6, 2) := by decide +kernel
theorem dX8_isRead_152 : decode cX8_isRead 152 = .ok (.bipush 64, 2) := by decide +kernel
theorem dX8_isRead_154 : decode cX8_isRead 154 = .ok (.if_icmp .ge 31, 3) := by decide +kernel
theorem dX8_isRead_157 : decode cX8_isRead 157 = .ok (.iload 5, 2) := by decide +kernel
theorem dX8_isRead_159 : decode cX8_isRead 159 = .ok (.ifCond .eq 17, 3) := by decide +kernel
theorem dX8_isRead_162 : decode cX8_isRead 162 = .ok (.aload_n 0, 1) := by decide +kernel
theorem dX8_isRead_163 : decode cX8_isRead 163 = .ok (.iload_n 1, 1) := by decide +kernel
theorem dX8_isRead_164 : decode cX8_isRead 164 = .ok (.iload 6, 2) := by decide +kernel
theorem dX8_isRead_166 : decode cX8_isRead 166 = .ok (.invokevirtual 227, 3) := by decide +kernel
theorem dX8_isRead_169 : decode cX8_isRead 169 = .ok (.ifCond .ne 7, 3) := by decide +kernel
theorem dX8_isRead_172 : decode cX8_isRead 172 = .ok (.iconst 1, 1) := by decide +kernel
theorem dX8_isRead_173 : decode cX8_isRead 173 = .ok (.goto 4, 3) := by decide +kernel
theorem dX8_isRead_176 : decode cX8_isRead 176 = .ok (.iconst 0, 1) := by decide +kernel
theorem dX8_isRead_177 : decode cX8_isRead 177 = .ok (.istore 5, 2) := by decide +kernel
theorem dX8_isRead_179 : decode cX8_isRead 179 = .ok (.iinc 6 1, 3) := by decide +kernel
theorem dX8_isRead_182 : decode cX8_isRead 182 = .ok (.goto (-32), 3) := by decide +kernel
theorem dX8_isRead_185 : decode cX8_isRead 185 = .ok (.iload 5, 2) := by decide +kernel
theorem dX8_isRead_187 : decode cX8_isRead 187 = .ok (.ireturn, 1) := by decide +kernel
theorem dX8_compares_0 : decode cX8_compares 0 = .ok (.iload_n 1, 1) := by decide +kernel
theorem dX8_compares_1 : decode cX8_compares 1 = .ok (.bipush 64, 2) := by decide +kernel
theorem dX8_compares_3 : decode cX8_compares 3 = .ok (.idiv, 1) := by decide +kernel
theorem dX8_compares_4 : decode cX8_compares 4 = .ok (.istore_n 3, 1) := by decide +kernel
theorem dX8_compares_5 : decode cX8_compares 5 = .ok (.iload_n 2, 1) := by decide +kernel
theorem dX8_compares_6 : decode cX8_compares 6 = .ok (.bipush 64, 2) := by decide +kernel
theorem dX8_compares_8 : decode cX8_compares 8 = .ok (.idiv, 1) := by decide +kernel
theorem dX8_compares_9 : decode cX8_compares 9 = .ok (.istore 4, 2) := by decide +kernel
theorem dX8_compares_11 : decode cX8_compares 11 = .ok (.aload_n 0, 1) := by decide +kernel
theorem dX8_compares_12 : decode cX8_compares 12 = .ok (.iload_n 3, 1) := by decide +kernel
theorem dX8_compares_13 : decode cX8_compares 13 = .ok (.iload_n 1, 1) := by decide +kernel
theorem dX8_compares_14 : decode cX8_compares 14 = .ok (.bipush 64, 2) := by decide +kernel
theorem dX8_compares_16 : decode cX8_compares 16 = .ok (.irem, 1) := by decide +kernel
theorem dX8_compares_17 : decode cX8_compares 17 = .ok (.invokevirtual 227, 3) := by decide +kernel
theorem dX8_compares_20 : decode cX8_compares 20 = .ok (.istore 5, 2) := by decide +kernel
theorem dX8_compares_22 : decode cX8_compares 22 = .ok (.aload_n 0, 1) := by decide +kernel
theorem dX8_compares_23 : decode cX8_compares 23 = .ok (.iload 4, 2) := by decide +kernel
theorem dX8_compares_25 : decode cX8_compares 25 = .ok (.iload_n 2, 1) := by decide +kernel
theorem dX8_compares_26 : decode cX8_compares 26 = .ok (.bipush 64, 2) := by decide +kernel
theorem dX8_compares_28 : decode cX8_compares 28 = .ok (.irem, 1) := by decide +kernel
theorem dX8_compares_29 : decode cX8_compares 29 = .ok (.invokevirtual 227, 3) := by decide +kernel
theorem dX8_compares_32 : decode cX8_compares 32 = .ok (.istore 6, 2) := by decide +kernel
theorem dX8_compares_34 : decode cX8_compares 34 = .ok (.iconst 0, 1) := by decide +kernel
theorem dX8_compares_35 : decode cX8_compares 35 = .ok (.istore 7, 2) := by decide +kernel
theorem dX8_compares_37 : decode cX8_compares 37 = .ok (.iload 7, 2) := by decide +kernel
theorem dX8_compares_39 : decode cX8_compares 39 = .ok (.iload 5, 2) := by decide +kernel
theorem dX8_compares_41 : decode cX8_compares 41 = .ok (.if_icmp .ge 48, 3) := by decide +kernel
theorem dX8_compares_44 : decode cX8_compares 44 = .ok (.iload 7, 2) := by decide +kernel
theorem dX8_compares_46 : decode cX8_compares 46 = .ok (.iload 6, 2) := by decide +kernel
theorem dX8_compares_48 : decode cX8_compares 48 = .ok (.if_icmp .ge 41, 3) := by decide +kernel
theorem dX8_compares_51 : decode cX8_compares 51 = .ok (.aload_n 0, 1) := by decide +kernel
theorem dX8_compares_52 : decode cX8_compares 52 = .ok (.iload_n 3, 1) := by decide +kernel
theorem dX8_compares_53 : decode cX8_compares 53 = .ok (.iload_n 1, 1) := by decide +kernel
theorem dX8_compares_54 : decode cX8_compares 54 = .ok (.bipush 64, 2) := by decide +kernel
theorem dX8_compares_56 : decode cX8_compares 56 = .ok (.irem, 1) := by decide +kernel
theorem dX8_compares_57 : decode cX8_compares 57 = .ok (.iconst 1, 1) := by decide +kernel
theorem dX8_compares_58 : decode cX8_compares 58 = .ok (.iadd, 1) := by decide +kernel
theorem dX8_compares_59 : decode cX8_compares 59 = .ok (.iload 7, 2) := by decide +kernel
theorem dX8_compares_61 : decode cX8_compares 61 = .ok (.iadd, 1) := by decide +kernel
theorem dX8_compares_62 : decode cX8_compares 62 = .ok (.invokevirtual 227, 3) := by decide +kernel
theorem dX8_compares_65 : decode cX8_compares 65 = .ok (.aload_n 0, 1) := by decide +kernel
theorem dX8_compares_66 : decode cX8_compares 66 = .ok (.iload 4, 2) := by decide +kernel
theorem dX8_compares_68 : decode cX8_compares 68 = .ok (.iload_n 2, 1) := by decide +kernel
theorem dX8_compares_69 : decode cX8_compares 69 = .ok (.bipush 64, 2) := by decide +kernel
theorem dX8_compares_71 : decode cX8_compares 71 = .ok (.irem, 1) := by decide +kernel
theorem dX8_compares_72 : decode cX8_compares 72 = .ok (.iconst 1, 1) := by decide +kernel
theorem dX8_compares_73 : decode cX8_compares 73 = .ok (.iadd, 1) := by decide +kernel
theorem dX8_compares_74 : decode cX8_compares 74 = .ok (.iload 7, 2) := by decide +kernel
theorem dX8_compares_76 : decode cX8_compares 76 = .ok (.iadd, 1) := by decide +kernel
theorem dX8_compares_77 : decode cX8_compares 77 = .ok (.invokevirtual 227, 3) := by decide +kernel
theorem dX8_compares_80 : decode cX8_compares 80 = .ok (.if_icmp .ne 9, 3) := by decide +kernel
theorem dX8_compares_83 : decode cX8_compares 83 = .ok (.iinc 7 1, 3) := by decide +kernel
theorem dX8_compares_86 : decode cX8_compares 86 = .ok (.goto (-49), 3) := by decide +kernel
theorem dX8_compares_89 : decode cX8_compares 89 = .ok (.iload 7, 2) := by decide +kernel
theorem dX8_compares_91 : decode cX8_compares 91 = .ok (.iload 5, 2) := by decide +kernel
theorem dX8_compares_93 : decode cX8_compares 93 = .ok (.if_icmp .ge 41, 3) := by decide +kernel
theorem dX8_compares_96 : decode cX8_compares 96 = .ok (.iload 7, 2) := by decide +kernel
theorem dX8_compares_98 : decode cX8_compares 98 = .ok (.iload 6, 2) := by decide +kernel
theorem dX8_compares_100 : decode cX8_compares 100 = .ok (.if_icmp .ge 34, 3) := by decide +kernel
theorem dX8_compares_103 : decode cX8_compares 103 = .ok (.aload_n 0, 1) := by decide +kernel
theorem dX8_compares_104 : decode cX8_compares 104 = .ok (.iload_n 3, 1) := by decide +kernel
theorem dX8_compares_105 : decode cX8_compares 105 = .ok (.iload_n 1, 1) := by decide +kernel
theorem dX8_compares_106 : decode cX8_compares 106 = .ok (.bipush 64, 2) := by decide +kernel
theorem dX8_compares_108 : decode cX8_compares 108 = .ok (.irem, 1) := by decide +kernel
theorem dX8_compares_109 : decode cX8_compares 109 = .ok (.iconst 1, 1) := by decide +kernel
theorem dX8_compares_110 : decode cX8_compares 110 = .ok (.iadd, 1) := by decide +kernel
theorem dX8_compares_111 : decode cX8_compares 111 = .ok (.iload 7, 2) := by decide +kernel
theorem dX8_compares_113 : decode cX8_compares 113 = .ok (.iadd, 1) := by decide +kernel
theorem dX8_compares_114 : decode cX8_compares 114 = .ok (.invokevirtual 227, 3) := by decide +kernel
theorem dX8_compares_117 : decode cX8_compares 117 = .ok (.aload_n 0, 1) := by decide +kernel
theorem dX8_compares_118 : decode cX8_compares 118 = .ok (.iload 4, 2) := by decide +kernel
theorem dX8_compares_120 : decode cX8_compares 120 = .ok (.iload_n 2, 1) := by decide +kernel
theorem dX8_compares_121 : decode cX8_compares 121 = .ok (.bipush 64, 2) := by decide +kernel
theorem dX8_compares_123 : decode cX8_compares 123 = .ok (.irem, 1) := by decide +kernel
theorem dX8_compares_124 : decode cX8_compares 124 = .ok (.iconst 1, 1) := by decide +kernel
theorem dX8_compares_125 : decode cX8_compares 125 = .ok (.iadd, 1) := by decide +kernel
theorem dX8_compares_126 : decode cX8_compares 126 = .ok (.iload 7, 2) := by decide +kernel
theorem dX8_compares_128 : decode cX8_compares 128 = .ok (.iadd, 1) := by decide +kernel
theorem dX8_compares_129 : decode cX8_compares 129 = .ok (.invokevirtual 227, 3) := by decide +kernel
theorem dX8_compares_132 : decode cX8_compares 132 = .ok (.isub, 1) := by decide +kernel
theorem dX8_compares_133 : decode cX8_compares 133 = .ok (.ireturn, 1) := by decide +kernel
theorem dX8_compares_134 : decode cX8_compares 134 = .ok (.iload 5, 2) := by decide +kernel
theorem dX8_compares_136 : decode cX8_compares 136 = .ok (.iload 6, 2) := by decide +kernel
theorem dX8_compares_138 : decode cX8_compares 138 = .ok (.isub, 1) := by decide +kernel
theorem dX8_compares_139 : decode cX8_compares 139 = .ok (.ireturn, 1) := by decide +kernel
theorem dX8_rises_0 : decode cX8_rises 0 = .ok (.iconst 1, 1) := by decide +kernel
theorem dX8_rises_1 : decode cX8_rises 1 = .ok (.istore_n 2, 1) := by decide +kernel
theorem dX8_rises_2 : decode cX8_rises 2 = .ok (.iconst 3, 1) := by decide +kernel
theorem dX8_rises_3 : decode cX8_rises 3 = .ok (.istore_n 3, 1) := by decide +kernel
theorem dX8_rises_4 : decode cX8_rises 4 = .ok (.iconst 0, 1) := by decide +kernel
theorem dX8_rises_5 : decode cX8_rises 5 = .ok (.istore 4, 2) := by decide +kernel
theorem dX8_rises_7 : decode cX8_rises 7 = .ok (.iload 4, 2) := by decide +kernel
theorem dX8_rises_9 : decode cX8_rises 9 = .ok (.iconst 1, 1) := by decide +kernel
theorem dX8_rises_10 : decode cX8_rises 10 = .ok (.iadd, 1) := by decide +kernel
theorem dX8_rises_11 : decode cX8_rises 11 = .ok (.aload_n 0, 1) := by decide +kernel
theorem dX8_rises_12 : decode cX8_rises 12 = .ok (.iload_n 1, 1) := by decide +kernel
theorem dX8_rises_13 : decode cX8_rises 13 = .ok (.iconst 1, 1) := by decide +kernel
theorem dX8_rises_14 : decode cX8_rises 14 = .ok (.invokevirtual 227, 3) := by decide +kernel
theorem dX8_rises_17 : decode cX8_rises 17 = .ok (.if_icmp .ge 54, 3) := by decide +kernel
theorem dX8_rises_20 : decode cX8_rises 20 = .ok (.iload_n 3, 1) := by decide +kernel
theorem dX8_rises_21 : decode cX8_rises 21 = .ok (.aload_n 0, 1) := by decide +kernel
theorem dX8_rises_22 : decode cX8_rises 22 = .ok (.iload_n 1, 1) := by decide +kernel
theorem dX8_rises_23 : decode cX8_rises 23 = .ok (.iload_n 3, 1) := by decide +kernel
theorem dX8_rises_24 : decode cX8_rises 24 = .ok (.invokevirtual 227, 3) := by decide +kernel
theorem dX8_rises_27 : decode cX8_rises 27 = .ok (.iadd, 1) := by decide +kernel
theorem dX8_rises_28 : decode cX8_rises 28 = .ok (.iconst 2, 1) := by decide +kernel
theorem dX8_rises_29 : decode cX8_rises 29 = .ok (.iadd, 1) := by decide +kernel
theorem dX8_rises_30 : decode cX8_rises 30 = .ok (.istore 5, 2) := by decide +kernel
theorem dX8_rises_32 : decode cX8_rises 32 = .ok (.iload_n 2, 1) := by decide +kernel
theorem dX8_rises_33 : decode cX8_rises 33 = .ok (.ifCond .eq 27, 3) := by decide +kernel
theorem dX8_rises_36 : decode cX8_rises 36 = .ok (.aload_n 0, 1) := by decide +kernel
theorem dX8_rises_37 : decode cX8_rises 37 = .ok (.bipush 64, 2) := by decide +kernel
theorem dX8_rises_39 : decode cX8_rises 39 = .ok (.iload_n 1, 1) := by decide +kernel
theorem dX8_rises_40 : decode cX8_rises 40 = .ok (.imul, 1) := by decide +kernel
theorem dX8_rises_41 : decode cX8_rises 41 = .ok (.iload_n 3, 1) := by decide +kernel
theorem dX8_rises_42 : decode cX8_rises 42 = .ok (.iadd, 1) := by decide +kernel
theorem dX8_rises_43 : decode cX8_rises 43 = .ok (.bipush 64, 2) := by decide +kernel
theorem dX8_rises_45 : decode cX8_rises 45 = .ok (.iload_n 1, 1) := by decide +kernel
theorem dX8_rises_46 : decode cX8_rises 46 = .ok (.imul, 1) := by decide +kernel
theorem dX8_rises_47 : decode cX8_rises 47 = .ok (.iload 5, 2) := by decide +kernel
theorem dX8_rises_49 : decode cX8_rises 49 = .ok (.iadd, 1) := by decide +kernel
theorem dX8_rises_50 : decode cX8_rises 50 = .ok (.invokevirtual 230, 3) := by decide +kernel
theorem dX8_rises_53 : decode cX8_rises 53 = .ok (.ifCond .ge 7, 3) := by decide +kernel
theorem dX8_rises_56 : decode cX8_rises 56 = .ok (.iconst 1, 1) := by decide +kernel
theorem dX8_rises_57 : decode cX8_rises 57 = .ok (.goto 4, 3) := by decide +kernel
theorem dX8_rises_60 : decode cX8_rises 60 = .ok (.iconst 0, 1) := by decide +kernel
theorem dX8_rises_61 : decode cX8_rises 61 = .ok (.istore_n 2, 1) := by decide +kernel
theorem dX8_rises_62 : decode cX8_rises 62 = .ok (.iload 5, 2) := by decide +kernel
theorem dX8_rises_64 : decode cX8_rises 64 = .ok (.istore_n 3, 1) := by decide +kernel
theorem dX8_rises_65 : decode cX8_rises 65 = .ok (.iinc 4 1, 3) := by decide +kernel
theorem dX8_rises_68 : decode cX8_rises 68 = .ok (.goto (-61), 3) := by decide +kernel
theorem dX8_rises_71 : decode cX8_rises 71 = .ok (.iload_n 2, 1) := by decide +kernel
theorem dX8_rises_72 : decode cX8_rises 72 = .ok (.ireturn, 1) := by decide +kernel
theorem dX8_isWithin_0 : decode cX8_isWithin 0 = .ok (.iconst 1, 1) := by decide +kernel
theorem dX8_isWithin_1 : decode cX8_isWithin 1 = .ok (.istore 4, 2) := by decide +kernel
theorem dX8_isWithin_3 : decode cX8_isWithin 3 = .ok (.iconst 3, 1) := by decide +kernel
theorem dX8_isWithin_4 : decode cX8_isWithin 4 = .ok (.istore 5, 2) := by decide +kernel
theorem dX8_isWithin_6 : decode cX8_isWithin 6 = .ok (.iconst 0, 1) := by decide +kernel
theorem dX8_isWithin_7 : decode cX8_isWithin 7 = .ok (.istore 6, 2) := by decide +kernel
theorem dX8_isWithin_9 : decode cX8_isWithin 9 = .ok (.iload 6, 2) := by decide +kernel
theorem dX8_isWithin_11 : decode cX8_isWithin 11 = .ok (.aload_n 0, 1) := by decide +kernel
theorem dX8_isWithin_12 : decode cX8_isWithin 12 = .ok (.iload_n 1, 1) := by decide +kernel
theorem dX8_isWithin_13 : decode cX8_isWithin 13 = .ok (.iconst 1, 1) := by decide +kernel
theorem dX8_isWithin_14 : decode cX8_isWithin 14 = .ok (.invokevirtual 227, 3) := by decide +kernel
theorem dX8_isWithin_17 : decode cX8_isWithin 17 = .ok (.if_icmp .ge 76, 3) := by decide +kernel
theorem dX8_isWithin_20 : decode cX8_isWithin 20 = .ok (.bipush 64, 2) := by decide +kernel
theorem dX8_isWithin_22 : decode cX8_isWithin 22 = .ok (.iload_n 1, 1) := by decide +kernel
theorem dX8_isWithin_23 : decode cX8_isWithin 23 = .ok (.imul, 1) := by decide +kernel
theorem dX8_isWithin_24 : decode cX8_isWithin 24 = .ok (.iload 5, 2) := by decide +kernel
theorem dX8_isWithin_26 : decode cX8_isWithin 26 = .ok (.iadd, 1) := by decide +kernel
theorem dX8_isWithin_27 : decode cX8_isWithin 27 = .ok (.istore 7, 2) := by decide +kernel
theorem dX8_isWithin_29 : decode cX8_isWithin 29 = .ok (.iload 4, 2) := by decide +kernel
theorem dX8_isWithin_31 : decode cX8_isWithin 31 = .ok (.ifCond .eq 39, 3) := by decide +kernel
theorem dX8_isWithin_34 : decode cX8_isWithin 34 = .ok (.iload_n 2, 1) := by decide +kernel
theorem dX8_isWithin_35 : decode cX8_isWithin 35 = .ok (.bipush (-9), 2) := by decide +kernel
theorem dX8_isWithin_37 : decode cX8_isWithin 37 = .ok (.if_icmp .eq 13, 3) := by decide +kernel
theorem dX8_isWithin_40 : decode cX8_isWithin 40 = .ok (.aload_n 0, 1) := by decide +kernel
theorem dX8_isWithin_41 : decode cX8_isWithin 41 = .ok (.iload 7, 2) := by decide +kernel
theorem dX8_isWithin_43 : decode cX8_isWithin 43 = .ok (.iload_n 2, 1) := by decide +kernel
theorem dX8_isWithin_44 : decode cX8_isWithin 44 = .ok (.invokevirtual 230, 3) := by decide +kernel
theorem dX8_isWithin_47 : decode cX8_isWithin 47 = .ok (.ifCond .lt 23, 3) := by decide +kernel
theorem dX8_isWithin_50 : decode cX8_isWithin 50 = .ok (.iload_n 3, 1) := by decide +kernel
theorem dX8_isWithin_51 : decode cX8_isWithin 51 = .ok (.bipush (-9), 2) := by decide +kernel
theorem dX8_isWithin_53 : decode cX8_isWithin 53 = .ok (.if_icmp .eq 13, 3) := by decide +kernel
theorem dX8_isWithin_56 : decode cX8_isWithin 56 = .ok (.aload_n 0, 1) := by decide +kernel
theorem dX8_isWithin_57 : decode cX8_isWithin 57 = .ok (.iload 7, 2) := by decide +kernel
theorem dX8_isWithin_59 : decode cX8_isWithin 59 = .ok (.iload_n 3, 1) := by decide +kernel
theorem dX8_isWithin_60 : decode cX8_isWithin 60 = .ok (.invokevirtual 230, 3) := by decide +kernel
theorem dX8_isWithin_63 : decode cX8_isWithin 63 = .ok (.ifCond .ge 7, 3) := by decide +kernel
theorem dX8_isWithin_66 : decode cX8_isWithin 66 = .ok (.iconst 1, 1) := by decide +kernel
theorem dX8_isWithin_67 : decode cX8_isWithin 67 = .ok (.goto 4, 3) := by decide +kernel
theorem dX8_isWithin_70 : decode cX8_isWithin 70 = .ok (.iconst 0, 1) := by decide +kernel
theorem dX8_isWithin_71 : decode cX8_isWithin 71 = .ok (.istore 4, 2) := by decide +kernel
theorem dX8_isWithin_73 : decode cX8_isWithin 73 = .ok (.iload 5, 2) := by decide +kernel
theorem dX8_isWithin_75 : decode cX8_isWithin 75 = .ok (.aload_n 0, 1) := by decide +kernel
theorem dX8_isWithin_76 : decode cX8_isWithin 76 = .ok (.iload_n 1, 1) := by decide +kernel
theorem dX8_isWithin_77 : decode cX8_isWithin 77 = .ok (.iload 5, 2) := by decide +kernel
theorem dX8_isWithin_79 : decode cX8_isWithin 79 = .ok (.invokevirtual 227, 3) := by decide +kernel
theorem dX8_isWithin_82 : decode cX8_isWithin 82 = .ok (.iconst 2, 1) := by decide +kernel
theorem dX8_isWithin_83 : decode cX8_isWithin 83 = .ok (.iadd, 1) := by decide +kernel
theorem dX8_isWithin_84 : decode cX8_isWithin 84 = .ok (.iadd, 1) := by decide +kernel
theorem dX8_isWithin_85 : decode cX8_isWithin 85 = .ok (.istore 5, 2) := by decide +kernel
theorem dX8_isWithin_87 : decode cX8_isWithin 87 = .ok (.iinc 6 1, 3) := by decide +kernel
theorem dX8_isWithin_90 : decode cX8_isWithin 90 = .ok (.goto (-81), 3) := by decide +kernel
theorem dX8_isWithin_93 : decode cX8_isWithin 93 = .ok (.iload 4, 2) := by decide +kernel
theorem dX8_isWithin_95 : decode cX8_isWithin 95 = .ok (.ireturn, 1) := by decide +kernel
theorem dX8_childAs_0 : decode cX8_childAs 0 = .ok (.iload_n 2, 1) := by decide +kernel
theorem dX8_childAs_1 : decode cX8_childAs 1 = .ok (.ifCond .ne 10, 3) := by decide +kernel
theorem dX8_childAs_4 : decode cX8_childAs 4 = .ok (.aload_n 0, 1) := by decide +kernel
theorem dX8_childAs_5 : decode cX8_childAs 5 = .ok (.iload_n 1, 1) := by decide +kernel
theorem dX8_childAs_6 : decode cX8_childAs 6 = .ok (.iconst 2, 1) := by decide +kernel
theorem dX8_childAs_7 : decode cX8_childAs 7 = .ok (.invokevirtual 227, 3) := by decide +kernel
theorem dX8_childAs_10 : decode cX8_childAs 10 = .ok (.ireturn, 1) := by decide +kernel
theorem dX8_childAs_11 : decode cX8_childAs 11 = .ok (.iconst 3, 1) := by decide +kernel
theorem dX8_childAs_12 : decode cX8_childAs 12 = .ok (.istore_n 3, 1) := by decide +kernel
theorem dX8_childAs_13 : decode cX8_childAs 13 = .ok (.iconst 1, 1) := by decide +kernel
theorem dX8_childAs_14 : decode cX8_childAs 14 = .ok (.istore 4, 2) := by decide +kernel
theorem dX8_childAs_16 : decode cX8_childAs 16 = .ok (.iload 4, 2) := by decide +kernel
theorem dX8_childAs_18 : decode cX8_childAs 18 = .ok (.iload_n 2, 1) := by decide +kernel
theorem dX8_childAs_19 : decode cX8_childAs 19 = .ok (.if_icmp .ge 20, 3) := by decide +kernel
theorem dX8_childAs_22 : decode cX8_childAs 22 = .ok (.iload_n 3, 1) := by decide +kernel
theorem dX8_childAs_23 : decode cX8_childAs 23 = .ok (.aload_n 0, 1) := by decide +kernel
theorem dX8_childAs_24 : decode cX8_childAs 24 = .ok (.iload_n 1, 1) := by decide +kernel
theorem dX8_childAs_25 : decode cX8_childAs 25 = .ok (.iload_n 3, 1) := by decide +kernel
theorem dX8_childAs_26 : decode cX8_childAs 26 = .ok (.invokevirtual 227, 3) := by decide +kernel
theorem dX8_childAs_29 : decode cX8_childAs 29 = .ok (.iconst 2, 1) := by decide +kernel
theorem dX8_childAs_30 : decode cX8_childAs 30 = .ok (.iadd, 1) := by decide +kernel
theorem dX8_childAs_31 : decode cX8_childAs 31 = .ok (.iadd, 1) := by decide +kernel
theorem dX8_childAs_32 : decode cX8_childAs 32 = .ok (.istore_n 3, 1) := by decide +kernel
theorem dX8_childAs_33 : decode cX8_childAs 33 = .ok (.iinc 4 1, 3) := by decide +kernel
theorem dX8_childAs_36 : decode cX8_childAs 36 = .ok (.goto (-20), 3) := by decide +kernel
theorem dX8_childAs_39 : decode cX8_childAs 39 = .ok (.aload_n 0, 1) := by decide +kernel
theorem dX8_childAs_40 : decode cX8_childAs 40 = .ok (.iload_n 1, 1) := by decide +kernel
theorem dX8_childAs_41 : decode cX8_childAs 41 = .ok (.iload_n 3, 1) := by decide +kernel
theorem dX8_childAs_42 : decode cX8_childAs 42 = .ok (.aload_n 0, 1) := by decide +kernel
theorem dX8_childAs_43 : decode cX8_childAs 43 = .ok (.iload_n 1, 1) := by decide +kernel
theorem dX8_childAs_44 : decode cX8_childAs 44 = .ok (.iload_n 3, 1) := by decide +kernel
theorem dX8_childAs_45 : decode cX8_childAs 45 = .ok (.invokevirtual 227, 3) := by decide +kernel
theorem dX8_childAs_48 : decode cX8_childAs 48 = .ok (.iadd, 1) := by decide +kernel
theorem dX8_childAs_49 : decode cX8_childAs 49 = .ok (.iconst 1, 1) := by decide +kernel
theorem dX8_childAs_50 : decode cX8_childAs 50 = .ok (.iadd, 1) := by decide +kernel
theorem dX8_childAs_51 : decode cX8_childAs 51 = .ok (.invokevirtual 227, 3) := by decide +kernel
theorem dX8_childAs_54 : decode cX8_childAs 54 = .ok (.ireturn, 1) := by decide +kernel
theorem dX8_hasChildren_0 : decode cX8_hasChildren 0 = .ok (.iconst 1, 1) := by decide +kernel
theorem dX8_hasChildren_1 : decode cX8_hasChildren 1 = .ok (.istore_n 2, 1) := by decide +kernel
theorem dX8_hasChildren_2 : decode cX8_hasChildren 2 = .ok (.iconst 0, 1) := by decide +kernel
theorem dX8_hasChildren_3 : decode cX8_hasChildren 3 = .ok (.istore_n 3, 1) := by decide +kernel
theorem dX8_hasChildren_4 : decode cX8_hasChildren 4 = .ok (.iload_n 3, 1) := by decide +kernel
theorem dX8_hasChildren_5 : decode cX8_hasChildren 5 = .ok (.aload_n 0, 1) := by decide +kernel
theorem dX8_hasChildren_6 : decode cX8_hasChildren 6 = .ok (.iload_n 1, 1) := by decide +kernel
theorem dX8_hasChildren_7 : decode cX8_hasChildren 7 = .ok (.iconst 1, 1) := by decide +kernel
theorem dX8_hasChildren_8 : decode cX8_hasChildren 8 = .ok (.invokevirtual 227, 3) := by decide +kernel
theorem dX8_hasChildren_11 : decode cX8_hasChildren 11 = .ok (.if_icmp .gt 82, 3) := by decide +kernel
theorem dX8_hasChildren_14 : decode cX8_hasChildren 14 = .ok (.aload_n 0, 1) := by decide +kernel
theorem dX8_hasChildren_15 : decode cX8_hasChildren 15 = .ok (.iload_n 1, 1) := by decide +kernel
theorem dX8_hasChildren_16 : decode cX8_hasChildren 16 = .ok (.iload_n 3, 1) := by decide +kernel
theorem dX8_hasChildren_17 : decode cX8_hasChildren 17 = .ok (.invokevirtual 233, 3) := by decide +kernel
theorem dX8_hasChildren_20 : decode cX8_hasChildren 20 = .ok (.istore 4, 2) := by decide +kernel
theorem dX8_hasChildren_22 : decode cX8_hasChildren 22 = .ok (.iload_n 2, 1) := by decide +kernel
theorem dX8_hasChildren_23 : decode cX8_hasChildren 23 = .ok (.ifCond .eq 25, 3) := by decide +kernel
theorem dX8_hasChildren_26 : decode cX8_hasChildren 26 = .ok (.iload 4, 2) := by decide +kernel
theorem dX8_hasChildren_28 : decode cX8_hasChildren 28 = .ok (.invokestatic 218, 3) := by decide +kernel
theorem dX8_hasChildren_31 : decode cX8_hasChildren 31 = .ok (.ifCond .eq 17, 3) := by decide +kernel
theorem dX8_hasChildren_34 : decode cX8_hasChildren 34 = .ok (.aload_n 0, 1) := by decide +kernel
theorem dX8_hasChildren_35 : decode cX8_hasChildren 35 = .ok (.getfield 38, 3) := by decide +kernel
theorem dX8_hasChildren_38 : decode cX8_hasChildren 38 = .ok (.iload 4, 2) := by decide +kernel
theorem dX8_hasChildren_40 : decode cX8_hasChildren 40 = .ok (.baload, 1) := by decide +kernel
theorem dX8_hasChildren_41 : decode cX8_hasChildren 41 = .ok (.ifCond .ne 7, 3) := by decide +kernel
theorem dX8_hasChildren_44 : decode cX8_hasChildren 44 = .ok (.iconst 1, 1) := by decide +kernel
theorem dX8_hasChildren_45 : decode cX8_hasChildren 45 = .ok (.goto 4, 3) := by decide +kernel
theorem dX8_hasChildren_48 : decode cX8_hasChildren 48 = .ok (.iconst 0, 1) := by decide +kernel
theorem dX8_hasChildren_49 : decode cX8_hasChildren 49 = .ok (.istore_n 2, 1) := by decide +kernel
theorem dX8_hasChildren_50 : decode cX8_hasChildren 50 = .ok (.iconst 0, 1) := by decide +kernel
theorem dX8_hasChildren_51 : decode cX8_hasChildren 51 = .ok (.istore 5, 2) := by decide +kernel
theorem dX8_hasChildren_53 : decode cX8_hasChildren 53 = .ok (.iload 5, 2) := by decide +kernel
theorem dX8_hasChildren_55 : decode cX8_hasChildren 55 = .ok (.iload_n 3, 1) := by decide +kernel
theorem dX8_hasChildren_56 : decode cX8_hasChildren 56 = .ok (.if_icmp .ge 31, 3) := by decide +kernel
theorem dX8_hasChildren_59 : decode cX8_hasChildren 59 = .ok (.iload_n 2, 1) := by decide +kernel
theorem dX8_hasChildren_60 : decode cX8_hasChildren 60 = .ok (.ifCond .eq 19, 3) := by decide +kernel
theorem dX8_hasChildren_63 : decode cX8_hasChildren 63 = .ok (.aload_n 0, 1) := by decide +kernel
theorem dX8_hasChildren_64 : decode cX8_hasChildren 64 = .ok (.iload_n 1, 1) := by decide +kernel
theorem dX8_hasChildren_65 : decode cX8_hasChildren 65 = .ok (.iload 5, 2) := by decide +kernel
theorem dX8_hasChildren_67 : decode cX8_hasChildren 67 = .ok (.invokevirtual 233, 3) := by decide +kernel
theorem dX8_hasChildren_70 : decode cX8_hasChildren 70 = .ok (.iload 4, 2) := by decide +kernel
theorem dX8_hasChildren_72 : decode cX8_hasChildren 72 = .ok (.if_icmp .eq 7, 3) := by decide +kernel
theorem dX8_hasChildren_75 : decode cX8_hasChildren 75 = .ok (.iconst 1, 1) := by decide +kernel
theorem dX8_hasChildren_76 : decode cX8_hasChildren 76 = .ok (.goto 4, 3) := by decide +kernel
theorem dX8_hasChildren_79 : decode cX8_hasChildren 79 = .ok (.iconst 0, 1) := by decide +kernel
theorem dX8_hasChildren_80 : decode cX8_hasChildren 80 = .ok (.istore_n 2, 1) := by decide +kernel
theorem dX8_hasChildren_81 : decode cX8_hasChildren 81 = .ok (.iinc 5 1, 3) := by decide +kernel
theorem dX8_hasChildren_84 : decode cX8_hasChildren 84 = .ok (.goto (-31), 3) := by decide +kernel
theorem dX8_hasChildren_87 : decode cX8_hasChildren 87 = .ok (.iinc 3 1, 3) := by decide +kernel
theorem dX8_hasChildren_90 : decode cX8_hasChildren 90 = .ok (.goto (-86), 3) := by decide +kernel
theorem dX8_hasChildren_93 : decode cX8_hasChildren 93 = .ok (.iload_n 2, 1) := by decide +kernel
theorem dX8_hasChildren_94 : decode cX8_hasChildren 94 = .ok (.ireturn, 1) := by decide +kernel
theorem dX8_why_0 : decode cX8_why 0 = .ok (.iload_n 2, 1) := by decide +kernel
theorem dX8_why_1 : decode cX8_why 1 = .ok (.aload_n 0, 1) := by decide +kernel
theorem dX8_why_2 : decode cX8_why 2 = .ok (.getfield 13, 3) := by decide +kernel
theorem dX8_why_5 : decode cX8_why 5 = .ok (.iconst 1, 1) := by decide +kernel
theorem dX8_why_6 : decode cX8_why 6 = .ok (.isub, 1) := by decide +kernel
theorem dX8_why_7 : decode cX8_why 7 = .ok (.if_icmp .ne 7, 3) := by decide +kernel
theorem dX8_why_10 : decode cX8_why 10 = .ok (.iconst 1, 1) := by decide +kernel
theorem dX8_why_11 : decode cX8_why 11 = .ok (.goto 4, 3) := by decide +kernel
theorem dX8_why_14 : decode cX8_why 14 = .ok (.iconst 2, 1) := by decide +kernel
theorem dX8_why_15 : decode cX8_why 15 = .ok (.istore 5, 2) := by decide +kernel
theorem dX8_why_17 : decode cX8_why 17 = .ok (.aload_n 0, 1) := by decide +kernel
theorem dX8_why_18 : decode cX8_why 18 = .ok (.iload_n 1, 1) := by decide +kernel
theorem dX8_why_19 : decode cX8_why 19 = .ok (.iconst 0, 1) := by decide +kernel
theorem dX8_why_20 : decode cX8_why 20 = .ok (.invokevirtual 227, 3) := by decide +kernel
theorem dX8_why_23 : decode cX8_why 23 = .ok (.iload 5, 2) := by decide +kernel
theorem dX8_why_25 : decode cX8_why 25 = .ok (.if_icmp .eq 5, 3) := by decide +kernel
theorem dX8_why_28 : decode cX8_why 28 = .ok (.iconst 1, 1) := by decide +kernel
theorem dX8_why_29 : decode cX8_why 29 = .ok (.ireturn, 1) := by decide +kernel
theorem dX8_why_30 : decode cX8_why 30 = .ok (.aload_n 0, 1) := by decide +kernel
theorem dX8_why_31 : decode cX8_why 31 = .ok (.iload_n 1, 1) := by decide +kernel
theorem dX8_why_32 : decode cX8_why 32 = .ok (.iload_n 2, 1) := by decide +kernel
theorem dX8_why_33 : decode cX8_why 33 = .ok (.invokevirtual 236, 3) := by decide +kernel
theorem dX8_why_36 : decode cX8_why 36 = .ok (.ifCond .ne 5, 3) := by decide +kernel
theorem dX8_why_39 : decode cX8_why 39 = .ok (.iconst 2, 1) := by decide +kernel
theorem dX8_why_40 : decode cX8_why 40 = .ok (.ireturn, 1) := by decide +kernel
theorem dX8_why_41 : decode cX8_why 41 = .ok (.aload_n 0, 1) := by decide +kernel
theorem dX8_why_42 : decode cX8_why 42 = .ok (.iload_n 1, 1) := by decide +kernel
theorem dX8_why_43 : decode cX8_why 43 = .ok (.invokevirtual 239, 3) := by decide +kernel
theorem dX8_why_46 : decode cX8_why 46 = .ok (.ifCond .ne 5, 3) := by decide +kernel
theorem dX8_why_49 : decode cX8_why 49 = .ok (.iconst 3, 1) := by decide +kernel
theorem dX8_why_50 : decode cX8_why 50 = .ok (.ireturn, 1) := by decide +kernel
theorem dX8_why_51 : decode cX8_why 51 = .ok (.aload_n 0, 1) := by decide +kernel
theorem dX8_why_52 : decode cX8_why 52 = .ok (.iload_n 1, 1) := by decide +kernel
theorem dX8_why_53 : decode cX8_why 53 = .ok (.iload_n 3, 1) := by decide +kernel
theorem dX8_why_54 : decode cX8_why 54 = .ok (.iload 4, 2) := by decide +kernel
theorem dX8_why_56 : decode cX8_why 56 = .ok (.invokevirtual 242, 3) := by decide +kernel
theorem dX8_why_59 : decode cX8_why 59 = .ok (.ifCond .ne 5, 3) := by decide +kernel
theorem dX8_why_62 : decode cX8_why 62 = .ok (.iconst 4, 1) := by decide +kernel
theorem dX8_why_63 : decode cX8_why 63 = .ok (.ireturn, 1) := by decide +kernel
theorem dX8_why_64 : decode cX8_why 64 = .ok (.iload 5, 2) := by decide +kernel
theorem dX8_why_66 : decode cX8_why 66 = .ok (.iconst 2, 1) := by decide +kernel
theorem dX8_why_67 : decode cX8_why 67 = .ok (.if_icmp .ne 15, 3) := by decide +kernel
theorem dX8_why_70 : decode cX8_why 70 = .ok (.aload_n 0, 1) := by decide +kernel
theorem dX8_why_71 : decode cX8_why 71 = .ok (.iload_n 1, 1) := by decide +kernel
theorem dX8_why_72 : decode cX8_why 72 = .ok (.invokevirtual 245, 3) := by decide +kernel
theorem dX8_why_75 : decode cX8_why 75 = .ok (.ifCond .ne 7, 3) := by decide +kernel
theorem dX8_why_78 : decode cX8_why 78 = .ok (.iconst 5, 1) := by decide +kernel
theorem dX8_why_79 : decode cX8_why 79 = .ok (.goto 4, 3) := by decide +kernel
theorem dX8_why_82 : decode cX8_why 82 = .ok (.iconst 0, 1) := by decide +kernel
theorem dX8_why_83 : decode cX8_why 83 = .ok (.ireturn, 1) := by decide +kernel
theorem dX8_waits_0 : decode cX8_waits 0 = .ok (.aload_n 0, 1) := by decide +kernel
theorem dX8_waits_1 : decode cX8_waits 1 = .ok (.getfield 42, 3) := by decide +kernel
theorem dX8_waits_4 : decode cX8_waits 4 = .ok (.aload_n 0, 1) := by decide +kernel
theorem dX8_waits_5 : decode cX8_waits 5 = .ok (.getfield 248, 3) := by decide +kernel
theorem dX8_waits_8 : decode cX8_waits 8 = .ok (.iload_n 1, 1) := by decide +kernel
theorem dX8_waits_9 : decode cX8_waits 9 = .ok (.iastore, 1) := by decide +kernel
theorem dX8_waits_10 : decode cX8_waits 10 = .ok (.aload_n 0, 1) := by decide +kernel
theorem dX8_waits_11 : decode cX8_waits 11 = .ok (.getfield 45, 3) := by decide +kernel
theorem dX8_waits_14 : decode cX8_waits 14 = .ok (.aload_n 0, 1) := by decide +kernel
theorem dX8_waits_15 : decode cX8_waits 15 = .ok (.getfield 248, 3) := by decide +kernel
theorem dX8_waits_18 : decode cX8_waits 18 = .ok (.iload_n 2, 1) := by decide +kernel
theorem dX8_waits_19 : decode cX8_waits 19 = .ok (.iastore, 1) := by decide +kernel
theorem dX8_waits_20 : decode cX8_waits 20 = .ok (.aload_n 0, 1) := by decide +kernel
theorem dX8_waits_21 : decode cX8_waits 21 = .ok (.getfield 48, 3) := by decide +kernel
theorem dX8_waits_24 : decode cX8_waits 24 = .ok (.aload_n 0, 1) := by decide +kernel
theorem dX8_waits_25 : decode cX8_waits 25 = .ok (.getfield 248, 3) := by decide +kernel
theorem dX8_waits_28 : decode cX8_waits 28 = .ok (.iload_n 3, 1) := by decide +kernel
theorem dX8_waits_29 : decode cX8_waits 29 = .ok (.iastore, 1) := by decide +kernel
theorem dX8_waits_30 : decode cX8_waits 30 = .ok (.aload_n 0, 1) := by decide +kernel
theorem dX8_waits_31 : decode cX8_waits 31 = .ok (.getfield 51, 3) := by decide +kernel
theorem dX8_waits_34 : decode cX8_waits 34 = .ok (.aload_n 0, 1) := by decide +kernel
theorem dX8_waits_35 : decode cX8_waits 35 = .ok (.getfield 248, 3) := by decide +kernel
theorem dX8_waits_38 : decode cX8_waits 38 = .ok (.iload 4, 2) := by decide +kernel
theorem dX8_waits_40 : decode cX8_waits 40 = .ok (.iastore, 1) := by decide +kernel
theorem dX8_waits_41 : decode cX8_waits 41 = .ok (.aload_n 0, 1) := by decide +kernel
theorem dX8_waits_42 : decode cX8_waits 42 = .ok (.dup, 1) := by decide +kernel
theorem dX8_waits_43 : decode cX8_waits 43 = .ok (.getfield 248, 3) := by decide +kernel
theorem dX8_waits_46 : decode cX8_waits 46 = .ok (.iconst 1, 1) := by decide +kernel
theorem dX8_waits_47 : decode cX8_waits 47 = .ok (.iadd, 1) := by decide +kernel
theorem dX8_waits_48 : decode cX8_waits 48 = .ok (.putfield 248, 3) := by decide +kernel
theorem dX8_waits_51 : decode cX8_waits 51 = .ok (.return_, 1) := by decide +kernel
theorem dX8_childrenWait_0 : decode cX8_childrenWait 0 = .ok (.aload_n 0, 1) := by decide +kernel
theorem dX8_childrenWait_1 : decode cX8_childrenWait 1 = .ok (.iload_n 1, 1) := by decide +kernel
theorem dX8_childrenWait_2 : decode cX8_childrenWait 2 = .ok (.iconst 1, 1) := by decide +kernel
theorem dX8_childrenWait_3 : decode cX8_childrenWait 3 = .ok (.invokevirtual 227, 3) := by decide +kernel
theorem dX8_childrenWait_6 : decode cX8_childrenWait 6 = .ok (.istore 5, 2) := by decide +kernel
theorem dX8_childrenWait_8 : decode cX8_childrenWait 8 = .ok (.iload 5, 2) := by decide +kernel
theorem dX8_childrenWait_10 : decode cX8_childrenWait 10 = .ok (.istore 6, 2) := by decide +kernel
theorem dX8_childrenWait_12 : decode cX8_childrenWait 12 = .ok (.iload 6, 2) := by decide +kernel
theorem dX8_childrenWait_14 : decode cX8_childrenWait 14 = .ok (.ifCond .lt 78, 3) := by decide +kernel
theorem dX8_childrenWait_17 : decode cX8_childrenWait 17 = .ok (.iload 6, 2) := by decide +kernel
theorem dX8_childrenWait_19 : decode cX8_childrenWait 19 = .ok (.ifCond .ne 7, 3) := by decide +kernel
theorem dX8_childrenWait_22 : decode cX8_childrenWait 22 = .ok (.iload_n 3, 1) := by decide +kernel
theorem dX8_childrenWait_23 : decode cX8_childrenWait 23 = .ok (.goto 17, 3) := by decide +kernel
theorem dX8_childrenWait_26 : decode cX8_childrenWait 26 = .ok (.bipush 64, 2) := by decide +kernel
theorem dX8_childrenWait_28 : decode cX8_childrenWait 28 = .ok (.iload_n 1, 1) := by decide +kernel
theorem dX8_childrenWait_29 : decode cX8_childrenWait 29 = .ok (.imul, 1) := by decide +kernel
theorem dX8_childrenWait_30 : decode cX8_childrenWait 30 = .ok (.aload_n 0, 1) := by decide +kernel
theorem dX8_childrenWait_31 : decode cX8_childrenWait 31 = .ok (.iload_n 1, 1) := by decide +kernel
theorem dX8_childrenWait_32 : decode cX8_childrenWait 32 = .ok (.iload 6, 2) := by decide +kernel
theorem dX8_childrenWait_34 : decode cX8_childrenWait 34 = .ok (.iconst 1, 1) := by decide +kernel
theorem dX8_childrenWait_35 : decode cX8_childrenWait 35 = .ok (.isub, 1) := by decide +kernel
theorem dX8_childrenWait_36 : decode cX8_childrenWait 36 = .ok (.invokevirtual 251, 3) := by decide +kernel
theorem dX8_childrenWait_39 : decode cX8_childrenWait 39 = .ok (.iadd, 1) := by decide +kernel
theorem dX8_childrenWait_40 : decode cX8_childrenWait 40 = .ok (.istore 7, 2) := by decide +kernel
theorem dX8_childrenWait_42 : decode cX8_childrenWait 42 = .ok (.iload 6, 2) := by decide +kernel
theorem dX8_childrenWait_44 : decode cX8_childrenWait 44 = .ok (.iload 5, 2) := by decide +kernel
theorem dX8_childrenWait_46 : decode cX8_childrenWait 46 = .ok (.if_icmp .ne 8, 3) := by decide +kernel
theorem dX8_childrenWait_49 : decode cX8_childrenWait 49 = .ok (.iload 4, 2) := by decide +kernel
theorem dX8_childrenWait_51 : decode cX8_childrenWait 51 = .ok (.goto 15, 3) := by decide +kernel
theorem dX8_childrenWait_54 : decode cX8_childrenWait 54 = .ok (.bipush 64, 2) := by decide +kernel
theorem dX8_childrenWait_56 : decode cX8_childrenWait 56 = .ok (.iload_n 1, 1) := by decide +kernel
theorem dX8_childrenWait_57 : decode cX8_childrenWait 57 = .ok (.imul, 1) := by decide +kernel
theorem dX8_childrenWait_58 : decode cX8_childrenWait 58 = .ok (.aload_n 0, 1) := by decide +kernel
theorem dX8_childrenWait_59 : decode cX8_childrenWait 59 = .ok (.iload_n 1, 1) := by decide +kernel
theorem dX8_childrenWait_60 : decode cX8_childrenWait 60 = .ok (.iload 6, 2) := by decide +kernel
theorem dX8_childrenWait_62 : decode cX8_childrenWait 62 = .ok (.invokevirtual 251, 3) := by decide +kernel
theorem dX8_childrenWait_65 : decode cX8_childrenWait 65 = .ok (.iadd, 1) := by decide +kernel
theorem dX8_childrenWait_66 : decode cX8_childrenWait 66 = .ok (.istore 8, 2) := by decide +kernel
theorem dX8_childrenWait_68 : decode cX8_childrenWait 68 = .ok (.aload_n 0, 1) := by decide +kernel
theorem dX8_childrenWait_69 : decode cX8_childrenWait 69 = .ok (.aload_n 0, 1) := by decide +kernel
theorem dX8_childrenWait_70 : decode cX8_childrenWait 70 = .ok (.iload_n 1, 1) := by decide +kernel
theorem dX8_childrenWait_71 : decode cX8_childrenWait 71 = .ok (.iload 6, 2) := by decide +kernel
theorem dX8_childrenWait_73 : decode cX8_childrenWait 73 = .ok (.invokevirtual 233, 3) := by decide +kernel
theorem dX8_childrenWait_76 : decode cX8_childrenWait 76 = .ok (.iload_n 2, 1) := by decide +kernel
theorem dX8_childrenWait_77 : decode cX8_childrenWait 77 = .ok (.iconst 1, 1) := by decide +kernel
theorem dX8_childrenWait_78 : decode cX8_childrenWait 78 = .ok (.iadd, 1) := by decide +kernel
theorem dX8_childrenWait_79 : decode cX8_childrenWait 79 = .ok (.iload 7, 2) := by decide +kernel
theorem dX8_childrenWait_81 : decode cX8_childrenWait 81 = .ok (.iload 8, 2) := by decide +kernel
theorem dX8_childrenWait_83 : decode cX8_childrenWait 83 = .ok (.invokevirtual 254, 3) := by decide +kernel
theorem dX8_childrenWait_86 : decode cX8_childrenWait 86 = .ok (.iinc 6 (-1), 3) := by decide +kernel
theorem dX8_childrenWait_89 : decode cX8_childrenWait 89 = .ok (.goto (-77), 3) := by decide +kernel
theorem dX8_childrenWait_92 : decode cX8_childrenWait 92 = .ok (.return_, 1) := by decide +kernel
theorem dX8_startAs_0 : decode cX8_startAs 0 = .ok (.iconst 3, 1) := by decide +kernel
theorem dX8_startAs_1 : decode cX8_startAs 1 = .ok (.istore_n 3, 1) := by decide +kernel
theorem dX8_startAs_2 : decode cX8_startAs 2 = .ok (.iconst 0, 1) := by decide +kernel
theorem dX8_startAs_3 : decode cX8_startAs 3 = .ok (.istore 4, 2) := by decide +kernel
theorem dX8_startAs_5 : decode cX8_startAs 5 = .ok (.iload 4, 2) := by decide +kernel
theorem dX8_startAs_7 : decode cX8_startAs 7 = .ok (.iload_n 2, 1) := by decide +kernel
theorem dX8_startAs_8 : decode cX8_startAs 8 = .ok (.if_icmp .ge 20, 3) := by decide +kernel
theorem dX8_startAs_11 : decode cX8_startAs 11 = .ok (.iload_n 3, 1) := by decide +kernel
theorem dX8_startAs_12 : decode cX8_startAs 12 = .ok (.aload_n 0, 1) := by decide +kernel
theorem dX8_startAs_13 : decode cX8_startAs 13 = .ok (.iload_n 1, 1) := by decide +kernel
theorem dX8_startAs_14 : decode cX8_startAs 14 = .ok (.iload_n 3, 1) := by decide +kernel
theorem dX8_startAs_15 : decode cX8_startAs 15 = .ok (.invokevirtual 227, 3) := by decide +kernel
theorem dX8_startAs_18 : decode cX8_startAs 18 = .ok (.iconst 2, 1) := by decide +kernel
theorem dX8_startAs_19 : decode cX8_startAs 19 = .ok (.iadd, 1) := by decide +kernel
theorem dX8_startAs_20 : decode cX8_startAs 20 = .ok (.iadd, 1) := by decide +kernel
theorem dX8_startAs_21 : decode cX8_startAs 21 = .ok (.istore_n 3, 1) := by decide +kernel
theorem dX8_startAs_22 : decode cX8_startAs 22 = .ok (.iinc 4 1, 3) := by decide +kernel
theorem dX8_startAs_25 : decode cX8_startAs 25 = .ok (.goto (-20), 3) := by decide +kernel
theorem dX8_startAs_28 : decode cX8_startAs 28 = .ok (.iload_n 3, 1) := by decide +kernel
theorem dX8_startAs_29 : decode cX8_startAs 29 = .ok (.ireturn, 1) := by decide +kernel
theorem dX8_wrongDown_0 : decode cX8_wrongDown 0 = .ok (.aload_n 0, 1) := by decide +kernel
theorem dX8_wrongDown_1 : decode cX8_wrongDown 1 = .ok (.iconst 0, 1) := by decide +kernel
theorem dX8_wrongDown_2 : decode cX8_wrongDown 2 = .ok (.putfield 248, 3) := by decide +kernel
theorem dX8_wrongDown_5 : decode cX8_wrongDown 5 = .ok (.aload_n 0, 1) := by decide +kernel
theorem dX8_wrongDown_6 : decode cX8_wrongDown 6 = .ok (.iconst 0, 1) := by decide +kernel
theorem dX8_wrongDown_7 : decode cX8_wrongDown 7 = .ok (.putfield 258, 3) := by decide +kernel
theorem dX8_wrongDown_10 : decode cX8_wrongDown 10 = .ok (.iconst 0, 1) := by decide +kernel
theorem dX8_wrongDown_11 : decode cX8_wrongDown 11 = .ok (.istore_n 1, 1) := by decide +kernel
theorem dX8_wrongDown_12 : decode cX8_wrongDown 12 = .ok (.iload_n 1, 1) := by decide +kernel
theorem dX8_wrongDown_13 : decode cX8_wrongDown 13 = .ok (.bipush 32, 2) := by decide +kernel
theorem dX8_wrongDown_15 : decode cX8_wrongDown 15 = .ok (.if_icmp .ge 16, 3) := by decide +kernel
theorem dX8_wrongDown_18 : decode cX8_wrongDown 18 = .ok (.aload_n 0, 1) := by decide +kernel
theorem dX8_wrongDown_19 : decode cX8_wrongDown 19 = .ok (.getfield 38, 3) := by decide +kernel
theorem dX8_wrongDown_22 : decode cX8_wrongDown 22 = .ok (.iload_n 1, 1) := by decide +kernel
theorem dX8_wrongDown_23 : decode cX8_wrongDown 23 = .ok (.iconst 0, 1) := by decide +kernel
theorem dX8_wrongDown_24 : decode cX8_wrongDown 24 = .ok (.bastore, 1) := by decide +kernel
theorem dX8_wrongDown_25 : decode cX8_wrongDown 25 = .ok (.iinc 1 1, 3) := by decide +kernel
theorem dX8_wrongDown_28 : decode cX8_wrongDown 28 = .ok (.goto (-16), 3) := by decide +kernel
theorem dX8_wrongDown_31 : decode cX8_wrongDown 31 = .ok (.aload_n 0, 1) := by decide +kernel
theorem dX8_wrongDown_32 : decode cX8_wrongDown 32 = .ok (.aload_n 0, 1) := by decide +kernel
theorem dX8_wrongDown_33 : decode cX8_wrongDown 33 = .ok (.getfield 118, 3) := by decide +kernel
theorem dX8_wrongDown_36 : decode cX8_wrongDown 36 = .ok (.iconst 0, 1) := by decide +kernel
theorem dX8_wrongDown_37 : decode cX8_wrongDown 37 = .ok (.bipush (-9), 2) := by decide +kernel
theorem dX8_wrongDown_39 : decode cX8_wrongDown 39 = .ok (.bipush (-9), 2) := by decide +kernel
theorem dX8_wrongDown_41 : decode cX8_wrongDown 41 = .ok (.invokevirtual 254, 3) := by decide +kernel
theorem dX8_wrongDown_44 : decode cX8_wrongDown 44 = .ok (.aload_n 0, 1) := by decide +kernel
theorem dX8_wrongDown_45 : decode cX8_wrongDown 45 = .ok (.getfield 248, 3) := by decide +kernel
theorem dX8_wrongDown_48 : decode cX8_wrongDown 48 = .ok (.ifCond .le 130, 3) := by decide +kernel
theorem dX8_wrongDown_51 : decode cX8_wrongDown 51 = .ok (.aload_n 0, 1) := by decide +kernel
theorem dX8_wrongDown_52 : decode cX8_wrongDown 52 = .ok (.dup, 1) := by decide +kernel
theorem dX8_wrongDown_53 : decode cX8_wrongDown 53 = .ok (.getfield 248, 3) := by decide +kernel
theorem dX8_wrongDown_56 : decode cX8_wrongDown 56 = .ok (.iconst 1, 1) := by decide +kernel
theorem dX8_wrongDown_57 : decode cX8_wrongDown 57 = .ok (.isub, 1) := by decide +kernel
theorem dX8_wrongDown_58 : decode cX8_wrongDown 58 = .ok (.putfield 248, 3) := by decide +kernel
theorem dX8_wrongDown_61 : decode cX8_wrongDown 61 = .ok (.aload_n 0, 1) := by decide +kernel
theorem dX8_wrongDown_62 : decode cX8_wrongDown 62 = .ok (.getfield 42, 3) := by decide +kernel
theorem dX8_wrongDown_65 : decode cX8_wrongDown 65 = .ok (.aload_n 0, 1) := by decide +kernel
theorem dX8_wrongDown_66 : decode cX8_wrongDown 66 = .ok (.getfield 248, 3) := by decide +kernel
theorem dX8_wrongDown_69 : decode cX8_wrongDown 69 = .ok (.iaload, 1) := by decide +kernel
theorem dX8_wrongDown_70 : decode cX8_wrongDown 70 = .ok (.istore_n 1, 1) := by decide +kernel
theorem dX8_wrongDown_71 : decode cX8_wrongDown 71 = .ok (.aload_n 0, 1) := by decide +kernel
theorem dX8_wrongDown_72 : decode cX8_wrongDown 72 = .ok (.getfield 45, 3) := by decide +kernel
theorem dX8_wrongDown_75 : decode cX8_wrongDown 75 = .ok (.aload_n 0, 1) := by decide +kernel
theorem dX8_wrongDown_76 : decode cX8_wrongDown 76 = .ok (.getfield 248, 3) := by decide +kernel
theorem dX8_wrongDown_79 : decode cX8_wrongDown 79 = .ok (.iaload, 1) := by decide +kernel
theorem dX8_wrongDown_80 : decode cX8_wrongDown 80 = .ok (.istore_n 2, 1) := by decide +kernel
theorem dX8_wrongDown_81 : decode cX8_wrongDown 81 = .ok (.aload_n 0, 1) := by decide +kernel
theorem dX8_wrongDown_82 : decode cX8_wrongDown 82 = .ok (.getfield 48, 3) := by decide +kernel
theorem dX8_wrongDown_85 : decode cX8_wrongDown 85 = .ok (.aload_n 0, 1) := by decide +kernel
theorem dX8_wrongDown_86 : decode cX8_wrongDown 86 = .ok (.getfield 248, 3) := by decide +kernel
theorem dX8_wrongDown_89 : decode cX8_wrongDown 89 = .ok (.iaload, 1) := by decide +kernel
theorem dX8_wrongDown_90 : decode cX8_wrongDown 90 = .ok (.istore_n 3, 1) := by decide +kernel
theorem dX8_wrongDown_91 : decode cX8_wrongDown 91 = .ok (.aload_n 0, 1) := by decide +kernel
theorem dX8_wrongDown_92 : decode cX8_wrongDown 92 = .ok (.getfield 51, 3) := by decide +kernel
theorem dX8_wrongDown_95 : decode cX8_wrongDown 95 = .ok (.aload_n 0, 1) := by decide +kernel
theorem dX8_wrongDown_96 : decode cX8_wrongDown 96 = .ok (.getfield 248, 3) := by decide +kernel
theorem dX8_wrongDown_99 : decode cX8_wrongDown 99 = .ok (.iaload, 1) := by decide +kernel
theorem dX8_wrongDown_100 : decode cX8_wrongDown 100 = .ok (.istore 4, 2) := by decide +kernel
theorem dX8_wrongDown_102 : decode cX8_wrongDown 102 = .ok (.aload_n 0, 1) := by decide +kernel
theorem dX8_wrongDown_103 : decode cX8_wrongDown 103 = .ok (.getfield 38, 3) := by decide +kernel
theorem dX8_wrongDown_106 : decode cX8_wrongDown 106 = .ok (.iload_n 1, 1) := by decide +kernel
theorem dX8_wrongDown_107 : decode cX8_wrongDown 107 = .ok (.iconst 1, 1) := by decide +kernel
theorem dX8_wrongDown_108 : decode cX8_wrongDown 108 = .ok (.bastore, 1) := by decide +kernel
theorem dX8_wrongDown_109 : decode cX8_wrongDown 109 = .ok (.aload_n 0, 1) := by decide +kernel
theorem dX8_wrongDown_110 : decode cX8_wrongDown 110 = .ok (.iload_n 1, 1) := by decide +kernel
theorem dX8_wrongDown_111 : decode cX8_wrongDown 111 = .ok (.iload_n 2, 1) := by decide +kernel
theorem dX8_wrongDown_112 : decode cX8_wrongDown 112 = .ok (.iload_n 3, 1) := by decide +kernel
theorem dX8_wrongDown_113 : decode cX8_wrongDown 113 = .ok (.iload 4, 2) := by decide +kernel
theorem dX8_wrongDown_115 : decode cX8_wrongDown 115 = .ok (.invokevirtual 261, 3) := by decide +kernel
theorem dX8_wrongDown_118 : decode cX8_wrongDown 118 = .ok (.istore 5, 2) := by decide +kernel
theorem dX8_wrongDown_120 : decode cX8_wrongDown 120 = .ok (.iload 5, 2) := by decide +kernel
theorem dX8_wrongDown_122 : decode cX8_wrongDown 122 = .ok (.ifCond .le 11, 3) := by decide +kernel
theorem dX8_wrongDown_125 : decode cX8_wrongDown 125 = .ok (.bipush 100, 2) := by decide +kernel
theorem dX8_wrongDown_127 : decode cX8_wrongDown 127 = .ok (.iload 5, 2) := by decide +kernel
theorem dX8_wrongDown_129 : decode cX8_wrongDown 129 = .ok (.imul, 1) := by decide +kernel
theorem dX8_wrongDown_130 : decode cX8_wrongDown 130 = .ok (.iload_n 1, 1) := by decide +kernel
theorem dX8_wrongDown_131 : decode cX8_wrongDown 131 = .ok (.iadd, 1) := by decide +kernel
theorem dX8_wrongDown_132 : decode cX8_wrongDown 132 = .ok (.ireturn, 1) := by decide +kernel
theorem dX8_wrongDown_133 : decode cX8_wrongDown 133 = .ok (.iload_n 2, 1) := by decide +kernel
theorem dX8_wrongDown_134 : decode cX8_wrongDown 134 = .ok (.aload_n 0, 1) := by decide +kernel
theorem dX8_wrongDown_135 : decode cX8_wrongDown 135 = .ok (.getfield 13, 3) := by decide +kernel
theorem dX8_wrongDown_138 : decode cX8_wrongDown 138 = .ok (.iconst 1, 1) := by decide +kernel
theorem dX8_wrongDown_139 : decode cX8_wrongDown 139 = .ok (.isub, 1) := by decide +kernel
theorem dX8_wrongDown_140 : decode cX8_wrongDown 140 = .ok (.if_icmp .ge 15, 3) := by decide +kernel
theorem dX8_wrongDown_143 : decode cX8_wrongDown 143 = .ok (.aload_n 0, 1) := by decide +kernel
theorem dX8_wrongDown_144 : decode cX8_wrongDown 144 = .ok (.iload_n 1, 1) := by decide +kernel
theorem dX8_wrongDown_145 : decode cX8_wrongDown 145 = .ok (.iload_n 2, 1) := by decide +kernel
theorem dX8_wrongDown_146 : decode cX8_wrongDown 146 = .ok (.iload_n 3, 1) := by decide +kernel
theorem dX8_wrongDown_147 : decode cX8_wrongDown 147 = .ok (.iload 4, 2) := by decide +kernel
theorem dX8_wrongDown_149 : decode cX8_wrongDown 149 = .ok (.invokevirtual 265, 3) := by decide +kernel
theorem dX8_wrongDown_152 : decode cX8_wrongDown 152 = .ok (.goto 23, 3) := by decide +kernel
theorem dX8_wrongDown_155 : decode cX8_wrongDown 155 = .ok (.aload_n 0, 1) := by decide +kernel
theorem dX8_wrongDown_156 : decode cX8_wrongDown 156 = .ok (.getfield 54, 3) := by decide +kernel
theorem dX8_wrongDown_159 : decode cX8_wrongDown 159 = .ok (.aload_n 0, 1) := by decide +kernel
theorem dX8_wrongDown_160 : decode cX8_wrongDown 160 = .ok (.getfield 258, 3) := by decide +kernel
theorem dX8_wrongDown_163 : decode cX8_wrongDown 163 = .ok (.iload_n 1, 1) := by decide +kernel
theorem dX8_wrongDown_164 : decode cX8_wrongDown 164 = .ok (.iastore, 1) := by decide +kernel
theorem dX8_wrongDown_165 : decode cX8_wrongDown 165 = .ok (.aload_n 0, 1) := by decide +kernel
theorem dX8_wrongDown_166 : decode cX8_wrongDown 166 = .ok (.dup, 1) := by decide +kernel
theorem dX8_wrongDown_167 : decode cX8_wrongDown 167 = .ok (.getfield 258, 3) := by decide +kernel
theorem dX8_wrongDown_170 : decode cX8_wrongDown 170 = .ok (.iconst 1, 1) := by decide +kernel
theorem dX8_wrongDown_171 : decode cX8_wrongDown 171 = .ok (.iadd, 1) := by decide +kernel
theorem dX8_wrongDown_172 : decode cX8_wrongDown 172 = .ok (.putfield 258, 3) := by decide +kernel
theorem dX8_wrongDown_175 : decode cX8_wrongDown 175 = .ok (.goto (-131), 3) := by decide +kernel
theorem dX8_wrongDown_178 : decode cX8_wrongDown 178 = .ok (.iconst 0, 1) := by decide +kernel
theorem dX8_wrongDown_179 : decode cX8_wrongDown 179 = .ok (.ireturn, 1) := by decide +kernel
theorem dX8_wrongNext_0 : decode cX8_wrongNext 0 = .ok (.iconst 0, 1) := by decide +kernel
theorem dX8_wrongNext_1 : decode cX8_wrongNext 1 = .ok (.istore_n 1, 1) := by decide +kernel
theorem dX8_wrongNext_2 : decode cX8_wrongNext 2 = .ok (.iload_n 1, 1) := by decide +kernel
theorem dX8_wrongNext_3 : decode cX8_wrongNext 3 = .ok (.aload_n 0, 1) := by decide +kernel
theorem dX8_wrongNext_4 : decode cX8_wrongNext 4 = .ok (.getfield 258, 3) := by decide +kernel
theorem dX8_wrongNext_7 : decode cX8_wrongNext 7 = .ok (.if_icmp .ge 60, 3) := by decide +kernel
theorem dX8_wrongNext_10 : decode cX8_wrongNext 10 = .ok (.iload_n 1, 1) := by decide +kernel
theorem dX8_wrongNext_11 : decode cX8_wrongNext 11 = .ok (.iconst 1, 1) := by decide +kernel
theorem dX8_wrongNext_12 : decode cX8_wrongNext 12 = .ok (.iadd, 1) := by decide +kernel
theorem dX8_wrongNext_13 : decode cX8_wrongNext 13 = .ok (.aload_n 0, 1) := by decide +kernel
theorem dX8_wrongNext_14 : decode cX8_wrongNext 14 = .ok (.getfield 258, 3) := by decide +kernel
theorem dX8_wrongNext_17 : decode cX8_wrongNext 17 = .ok (.if_icmp .ge 16, 3) := by decide +kernel
theorem dX8_wrongNext_20 : decode cX8_wrongNext 20 = .ok (.aload_n 0, 1) := by decide +kernel
theorem dX8_wrongNext_21 : decode cX8_wrongNext 21 = .ok (.getfield 54, 3) := by decide +kernel
theorem dX8_wrongNext_24 : decode cX8_wrongNext 24 = .ok (.iload_n 1, 1) := by decide +kernel
theorem dX8_wrongNext_25 : decode cX8_wrongNext 25 = .ok (.iconst 1, 1) := by decide +kernel
theorem dX8_wrongNext_26 : decode cX8_wrongNext 26 = .ok (.iadd, 1) := by decide +kernel
theorem dX8_wrongNext_27 : decode cX8_wrongNext 27 = .ok (.iaload, 1) := by decide +kernel
theorem dX8_wrongNext_28 : decode cX8_wrongNext 28 = .ok (.iconst 1, 1) := by decide +kernel
theorem dX8_wrongNext_29 : decode cX8_wrongNext 29 = .ok (.iadd, 1) := by decide +kernel
theorem dX8_wrongNext_30 : decode cX8_wrongNext 30 = .ok (.goto 4, 3) := by decide +kernel
theorem dX8_wrongNext_33 : decode cX8_wrongNext 33 = .ok (.iconst 0, 1) := by decide +kernel
theorem dX8_wrongNext_34 : decode cX8_wrongNext 34 = .ok (.istore_n 2, 1) := by decide +kernel
theorem dX8_wrongNext_35 : decode cX8_wrongNext 35 = .ok (.aload_n 0, 1) := by decide +kernel
theorem dX8_wrongNext_36 : decode cX8_wrongNext 36 = .ok (.aload_n 0, 1) := by decide +kernel
theorem dX8_wrongNext_37 : decode cX8_wrongNext 37 = .ok (.getfield 54, 3) := by decide +kernel
theorem dX8_wrongNext_40 : decode cX8_wrongNext 40 = .ok (.iload_n 1, 1) := by decide +kernel
theorem dX8_wrongNext_41 : decode cX8_wrongNext 41 = .ok (.iaload, 1) := by decide +kernel
theorem dX8_wrongNext_42 : decode cX8_wrongNext 42 = .ok (.iconst 2, 1) := by decide +kernel
theorem dX8_wrongNext_43 : decode cX8_wrongNext 43 = .ok (.invokevirtual 227, 3) := by decide +kernel
theorem dX8_wrongNext_46 : decode cX8_wrongNext 46 = .ok (.iload_n 2, 1) := by decide +kernel
theorem dX8_wrongNext_47 : decode cX8_wrongNext 47 = .ok (.if_icmp .eq 14, 3) := by decide +kernel
theorem dX8_wrongNext_50 : decode cX8_wrongNext 50 = .ok (.sipush 600, 3) := by decide +kernel
theorem dX8_wrongNext_53 : decode cX8_wrongNext 53 = .ok (.aload_n 0, 1) := by decide +kernel
theorem dX8_wrongNext_54 : decode cX8_wrongNext 54 = .ok (.getfield 54, 3) := by decide +kernel
theorem dX8_wrongNext_57 : decode cX8_wrongNext 57 = .ok (.iload_n 1, 1) := by decide +kernel
theorem dX8_wrongNext_58 : decode cX8_wrongNext 58 = .ok (.iaload, 1) := by decide +kernel
theorem dX8_wrongNext_59 : decode cX8_wrongNext 59 = .ok (.iadd, 1) := by decide +kernel
theorem dX8_wrongNext_60 : decode cX8_wrongNext 60 = .ok (.ireturn, 1) := by decide +kernel
theorem dX8_wrongNext_61 : decode cX8_wrongNext 61 = .ok (.iinc 1 1, 3) := by decide +kernel
theorem dX8_wrongNext_64 : decode cX8_wrongNext 64 = .ok (.goto (-62), 3) := by decide +kernel
theorem dX8_wrongNext_67 : decode cX8_wrongNext 67 = .ok (.iconst 0, 1) := by decide +kernel
theorem dX8_wrongNext_68 : decode cX8_wrongNext 68 = .ok (.ireturn, 1) := by decide +kernel
theorem dX8_wrongFree_0 : decode cX8_wrongFree 0 = .ok (.iconst 0, 1) := by decide +kernel
theorem dX8_wrongFree_1 : decode cX8_wrongFree 1 = .ok (.istore_n 1, 1) := by decide +kernel
theorem dX8_wrongFree_2 : decode cX8_wrongFree 2 = .ok (.iload_n 1, 1) := by decide +kernel
theorem dX8_wrongFree_3 : decode cX8_wrongFree 3 = .ok (.bipush 32, 2) := by decide +kernel
theorem dX8_wrongFree_5 : decode cX8_wrongFree 5 = .ok (.if_icmp .ge 63, 3) := by decide +kernel
theorem dX8_wrongFree_8 : decode cX8_wrongFree 8 = .ok (.iconst 1, 1) := by decide +kernel
theorem dX8_wrongFree_9 : decode cX8_wrongFree 9 = .ok (.istore_n 2, 1) := by decide +kernel
theorem dX8_wrongFree_10 : decode cX8_wrongFree 10 = .ok (.iconst 0, 1) := by decide +kernel
theorem dX8_wrongFree_11 : decode cX8_wrongFree 11 = .ok (.istore_n 3, 1) := by decide +kernel
theorem dX8_wrongFree_12 : decode cX8_wrongFree 12 = .ok (.iload_n 3, 1) := by decide +kernel
theorem dX8_wrongFree_13 : decode cX8_wrongFree 13 = .ok (.bipush 64, 2) := by decide +kernel
theorem dX8_wrongFree_15 : decode cX8_wrongFree 15 = .ok (.if_icmp .ge 28, 3) := by decide +kernel
theorem dX8_wrongFree_18 : decode cX8_wrongFree 18 = .ok (.iload_n 2, 1) := by decide +kernel
theorem dX8_wrongFree_19 : decode cX8_wrongFree 19 = .ok (.ifCond .eq 16, 3) := by decide +kernel
theorem dX8_wrongFree_22 : decode cX8_wrongFree 22 = .ok (.aload_n 0, 1) := by decide +kernel
theorem dX8_wrongFree_23 : decode cX8_wrongFree 23 = .ok (.iload_n 1, 1) := by decide +kernel
theorem dX8_wrongFree_24 : decode cX8_wrongFree 24 = .ok (.iload_n 3, 1) := by decide +kernel
theorem dX8_wrongFree_25 : decode cX8_wrongFree 25 = .ok (.invokevirtual 227, 3) := by decide +kernel
theorem dX8_wrongFree_28 : decode cX8_wrongFree 28 = .ok (.ifCond .ne 7, 3) := by decide +kernel
theorem dX8_wrongFree_31 : decode cX8_wrongFree 31 = .ok (.iconst 1, 1) := by decide +kernel
theorem dX8_wrongFree_32 : decode cX8_wrongFree 32 = .ok (.goto 4, 3) := by decide +kernel
theorem dX8_wrongFree_35 : decode cX8_wrongFree 35 = .ok (.iconst 0, 1) := by decide +kernel
theorem dX8_wrongFree_36 : decode cX8_wrongFree 36 = .ok (.istore_n 2, 1) := by decide +kernel
theorem dX8_wrongFree_37 : decode cX8_wrongFree 37 = .ok (.iinc 3 1, 3) := by decide +kernel
theorem dX8_wrongFree_40 : decode cX8_wrongFree 40 = .ok (.goto (-28), 3) := by decide +kernel
theorem dX8_wrongFree_43 : decode cX8_wrongFree 43 = .ok (.aload_n 0, 1) := by decide +kernel
theorem dX8_wrongFree_44 : decode cX8_wrongFree 44 = .ok (.getfield 38, 3) := by decide +kernel
theorem dX8_wrongFree_47 : decode cX8_wrongFree 47 = .ok (.iload_n 1, 1) := by decide +kernel
theorem dX8_wrongFree_48 : decode cX8_wrongFree 48 = .ok (.baload, 1) := by decide +kernel
theorem dX8_wrongFree_49 : decode cX8_wrongFree 49 = .ok (.ifCond .ne 13, 3) := by decide +kernel
theorem dX8_wrongFree_52 : decode cX8_wrongFree 52 = .ok (.iload_n 2, 1) := by decide +kernel
theorem dX8_wrongFree_53 : decode cX8_wrongFree 53 = .ok (.ifCond .ne 9, 3) := by decide +kernel
theorem dX8_wrongFree_56 : decode cX8_wrongFree 56 = .ok (.sipush 700, 3) := by decide +kernel
theorem dX8_wrongFree_59 : decode cX8_wrongFree 59 = .ok (.iload_n 1, 1) := by decide +kernel
theorem dX8_wrongFree_60 : decode cX8_wrongFree 60 = .ok (.iadd, 1) := by decide +kernel
theorem dX8_wrongFree_61 : decode cX8_wrongFree 61 = .ok (.ireturn, 1) := by decide +kernel
theorem dX8_wrongFree_62 : decode cX8_wrongFree 62 = .ok (.iinc 1 1, 3) := by decide +kernel
theorem dX8_wrongFree_65 : decode cX8_wrongFree 65 = .ok (.goto (-63), 3) := by decide +kernel
theorem dX8_wrongFree_68 : decode cX8_wrongFree 68 = .ok (.iconst 0, 1) := by decide +kernel
theorem dX8_wrongFree_69 : decode cX8_wrongFree 69 = .ok (.ireturn, 1) := by decide +kernel
theorem dX8_check_0 : decode cX8_check 0 = .ok (.iload_n 1, 1) := by decide +kernel
theorem dX8_check_1 : decode cX8_check 1 = .ok (.invokestatic 218, 3) := by decide +kernel
theorem dX8_check_4 : decode cX8_check 4 = .ok (.ifCond .eq 24, 3) := by decide +kernel
theorem dX8_check_7 : decode cX8_check 7 = .ok (.iload_n 2, 1) := by decide +kernel
theorem dX8_check_8 : decode cX8_check 8 = .ok (.iconst 0, 1) := by decide +kernel
theorem dX8_check_9 : decode cX8_check 9 = .ok (.bipush 63, 2) := by decide +kernel
theorem dX8_check_11 : decode cX8_check 11 = .ok (.invokestatic 114, 3) := by decide +kernel
theorem dX8_check_14 : decode cX8_check 14 = .ok (.ifCond .eq 14, 3) := by decide +kernel
theorem dX8_check_17 : decode cX8_check 17 = .ok (.iload_n 3, 1) := by decide +kernel
theorem dX8_check_18 : decode cX8_check 18 = .ok (.iconst 0, 1) := by decide +kernel
theorem dX8_check_19 : decode cX8_check 19 = .ok (.sipush 255, 3) := by decide +kernel
theorem dX8_check_22 : decode cX8_check 22 = .ok (.invokestatic 114, 3) := by decide +kernel
theorem dX8_check_25 : decode cX8_check 25 = .ok (.ifCond .ne 5, 3) := by decide +kernel
theorem dX8_check_28 : decode cX8_check 28 = .ok (.iconst (-1), 1) := by decide +kernel
theorem dX8_check_29 : decode cX8_check 29 = .ok (.ireturn, 1) := by decide +kernel
theorem dX8_check_30 : decode cX8_check 30 = .ok (.aload_n 0, 1) := by decide +kernel
theorem dX8_check_31 : decode cX8_check 31 = .ok (.bipush 64, 2) := by decide +kernel
theorem dX8_check_33 : decode cX8_check 33 = .ok (.iload_n 1, 1) := by decide +kernel
theorem dX8_check_34 : decode cX8_check 34 = .ok (.imul, 1) := by decide +kernel
theorem dX8_check_35 : decode cX8_check 35 = .ok (.iload_n 2, 1) := by decide +kernel
theorem dX8_check_36 : decode cX8_check 36 = .ok (.iadd, 1) := by decide +kernel
theorem dX8_check_37 : decode cX8_check 37 = .ok (.putfield 221, 3) := by decide +kernel
theorem dX8_check_40 : decode cX8_check 40 = .ok (.aload_n 0, 1) := by decide +kernel
theorem dX8_check_41 : decode cX8_check 41 = .ok (.iload_n 3, 1) := by decide +kernel
theorem dX8_check_42 : decode cX8_check 42 = .ok (.putfield 224, 3) := by decide +kernel
theorem dX8_check_45 : decode cX8_check 45 = .ok (.aload_n 0, 1) := by decide +kernel
theorem dX8_check_46 : decode cX8_check 46 = .ok (.invokevirtual 268, 3) := by decide +kernel
theorem dX8_check_49 : decode cX8_check 49 = .ok (.istore 4, 2) := by decide +kernel
theorem dX8_check_51 : decode cX8_check 51 = .ok (.iload 4, 2) := by decide +kernel
theorem dX8_check_53 : decode cX8_check 53 = .ok (.ifCond .ne 10, 3) := by decide +kernel
theorem dX8_check_56 : decode cX8_check 56 = .ok (.aload_n 0, 1) := by decide +kernel
theorem dX8_check_57 : decode cX8_check 57 = .ok (.invokevirtual 271, 3) := by decide +kernel
theorem dX8_check_60 : decode cX8_check 60 = .ok (.goto 5, 3) := by decide +kernel
theorem dX8_check_63 : decode cX8_check 63 = .ok (.iload 4, 2) := by decide +kernel
theorem dX8_check_65 : decode cX8_check 65 = .ok (.istore 4, 2) := by decide +kernel
theorem dX8_check_67 : decode cX8_check 67 = .ok (.iload 4, 2) := by decide +kernel
theorem dX8_check_69 : decode cX8_check 69 = .ok (.ifCond .ne 10, 3) := by decide +kernel
theorem dX8_check_72 : decode cX8_check 72 = .ok (.aload_n 0, 1) := by decide +kernel
theorem dX8_check_73 : decode cX8_check 73 = .ok (.invokevirtual 274, 3) := by decide +kernel
theorem dX8_check_76 : decode cX8_check 76 = .ok (.goto 5, 3) := by decide +kernel
theorem dX8_check_79 : decode cX8_check 79 = .ok (.iload 4, 2) := by decide +kernel
theorem dX8_check_81 : decode cX8_check 81 = .ok (.ireturn, 1) := by decide +kernel
theorem dX8_usedAll_0 : decode cX8_usedAll 0 = .ok (.iconst 0, 1) := by decide +kernel
theorem dX8_usedAll_1 : decode cX8_usedAll 1 = .ok (.istore_n 1, 1) := by decide +kernel
theorem dX8_usedAll_2 : decode cX8_usedAll 2 = .ok (.iconst 0, 1) := by decide +kernel
theorem dX8_usedAll_3 : decode cX8_usedAll 3 = .ok (.istore_n 2, 1) := by decide +kernel
theorem dX8_usedAll_4 : decode cX8_usedAll 4 = .ok (.iload_n 2, 1) := by decide +kernel
theorem dX8_usedAll_5 : decode cX8_usedAll 5 = .ok (.bipush 32, 2) := by decide +kernel
theorem dX8_usedAll_7 : decode cX8_usedAll 7 = .ok (.if_icmp .ge 17, 3) := by decide +kernel
theorem dX8_usedAll_10 : decode cX8_usedAll 10 = .ok (.iload_n 1, 1) := by decide +kernel
theorem dX8_usedAll_11 : decode cX8_usedAll 11 = .ok (.aload_n 0, 1) := by decide +kernel
theorem dX8_usedAll_12 : decode cX8_usedAll 12 = .ok (.iload_n 2, 1) := by decide +kernel
theorem dX8_usedAll_13 : decode cX8_usedAll 13 = .ok (.invokevirtual 174, 3) := by decide +kernel
theorem dX8_usedAll_16 : decode cX8_usedAll 16 = .ok (.iadd, 1) := by decide +kernel
theorem dX8_usedAll_17 : decode cX8_usedAll 17 = .ok (.istore_n 1, 1) := by decide +kernel
theorem dX8_usedAll_18 : decode cX8_usedAll 18 = .ok (.iinc 2 1, 3) := by decide +kernel
theorem dX8_usedAll_21 : decode cX8_usedAll 21 = .ok (.goto (-17), 3) := by decide +kernel
theorem dX8_usedAll_24 : decode cX8_usedAll 24 = .ok (.iload_n 1, 1) := by decide +kernel
theorem dX8_usedAll_25 : decode cX8_usedAll 25 = .ok (.ireturn, 1) := by decide +kernel
theorem dX8_sorted_0 : decode cX8_sorted 0 = .ok (.iconst 0, 1) := by decide +kernel
theorem dX8_sorted_1 : decode cX8_sorted 1 = .ok (.istore_n 2, 1) := by decide +kernel
theorem dX8_sorted_2 : decode cX8_sorted 2 = .ok (.iconst 0, 1) := by decide +kernel
theorem dX8_sorted_3 : decode cX8_sorted 3 = .ok (.istore_n 3, 1) := by decide +kernel
theorem dX8_sorted_4 : decode cX8_sorted 4 = .ok (.iload_n 3, 1) := by decide +kernel
theorem dX8_sorted_5 : decode cX8_sorted 5 = .ok (.bipush 32, 2) := by decide +kernel
theorem dX8_sorted_7 : decode cX8_sorted 7 = .ok (.if_icmp .ge 27, 3) := by decide +kernel
theorem dX8_sorted_10 : decode cX8_sorted 10 = .ok (.iload_n 2, 1) := by decide +kernel
theorem dX8_sorted_11 : decode cX8_sorted 11 = .ok (.aload_n 0, 1) := by decide +kernel
theorem dX8_sorted_12 : decode cX8_sorted 12 = .ok (.iload_n 3, 1) := by decide +kernel
theorem dX8_sorted_13 : decode cX8_sorted 13 = .ok (.iconst 0, 1) := by decide +kernel
theorem dX8_sorted_14 : decode cX8_sorted 14 = .ok (.invokevirtual 69, 3) := by decide +kernel
theorem dX8_sorted_17 : decode cX8_sorted 17 = .ok (.iload_n 1, 1) := by decide +kernel
theorem dX8_sorted_18 : decode cX8_sorted 18 = .ok (.if_icmp .ne 7, 3) := by decide +kernel
theorem dX8_sorted_21 : decode cX8_sorted 21 = .ok (.iconst 1, 1) := by decide +kernel
theorem dX8_sorted_22 : decode cX8_sorted 22 = .ok (.goto 4, 3) := by decide +kernel
theorem dX8_sorted_25 : decode cX8_sorted 25 = .ok (.iconst 0, 1) := by decide +kernel
theorem dX8_sorted_26 : decode cX8_sorted 26 = .ok (.iadd, 1) := by decide +kernel
theorem dX8_sorted_27 : decode cX8_sorted 27 = .ok (.istore_n 2, 1) := by decide +kernel
theorem dX8_sorted_28 : decode cX8_sorted 28 = .ok (.iinc 3 1, 3) := by decide +kernel
theorem dX8_sorted_31 : decode cX8_sorted 31 = .ok (.goto (-27), 3) := by decide +kernel
theorem dX8_sorted_34 : decode cX8_sorted 34 = .ok (.iload_n 2, 1) := by decide +kernel
theorem dX8_sorted_35 : decode cX8_sorted 35 = .ok (.ireturn, 1) := by decide +kernel
theorem dX8_separators_0 : decode cX8_separators 0 = .ok (.iconst 0, 1) := by decide +kernel
theorem dX8_separators_1 : decode cX8_separators 1 = .ok (.istore_n 1, 1) := by decide +kernel
theorem dX8_separators_2 : decode cX8_separators 2 = .ok (.iconst 0, 1) := by decide +kernel
theorem dX8_separators_3 : decode cX8_separators 3 = .ok (.istore_n 2, 1) := by decide +kernel
theorem dX8_separators_4 : decode cX8_separators 4 = .ok (.iload_n 2, 1) := by decide +kernel
theorem dX8_separators_5 : decode cX8_separators 5 = .ok (.bipush 32, 2) := by decide +kernel
theorem dX8_separators_7 : decode cX8_separators 7 = .ok (.if_icmp .ge 42, 3) := by decide +kernel
theorem dX8_separators_10 : decode cX8_separators 10 = .ok (.iload_n 1, 1) := by decide +kernel
theorem dX8_separators_11 : decode cX8_separators 11 = .ok (.aload_n 0, 1) := by decide +kernel
theorem dX8_separators_12 : decode cX8_separators 12 = .ok (.iload_n 2, 1) := by decide +kernel
theorem dX8_separators_13 : decode cX8_separators 13 = .ok (.iconst 0, 1) := by decide +kernel
theorem dX8_separators_14 : decode cX8_separators 14 = .ok (.invokevirtual 69, 3) := by decide +kernel
theorem dX8_separators_17 : decode cX8_separators 17 = .ok (.iconst 2, 1) := by decide +kernel
theorem dX8_separators_18 : decode cX8_separators 18 = .ok (.if_icmp .ne 22, 3) := by decide +kernel
theorem dX8_separators_21 : decode cX8_separators 21 = .ok (.aload_n 0, 1) := by decide +kernel
theorem dX8_separators_22 : decode cX8_separators 22 = .ok (.iload_n 2, 1) := by decide +kernel
theorem dX8_separators_23 : decode cX8_separators 23 = .ok (.invokevirtual 174, 3) := by decide +kernel
theorem dX8_separators_26 : decode cX8_separators 26 = .ok (.iconst 3, 1) := by decide +kernel
theorem dX8_separators_27 : decode cX8_separators 27 = .ok (.isub, 1) := by decide +kernel
theorem dX8_separators_28 : decode cX8_separators 28 = .ok (.iconst 2, 1) := by decide +kernel
theorem dX8_separators_29 : decode cX8_separators 29 = .ok (.aload_n 0, 1) := by decide +kernel
theorem dX8_separators_30 : decode cX8_separators 30 = .ok (.iload_n 2, 1) := by decide +kernel
theorem dX8_separators_31 : decode cX8_separators 31 = .ok (.iconst 1, 1) := by decide +kernel
theorem dX8_separators_32 : decode cX8_separators 32 = .ok (.invokevirtual 69, 3) := by decide +kernel
theorem dX8_separators_35 : decode cX8_separators 35 = .ok (.imul, 1) := by decide +kernel
theorem dX8_separators_36 : decode cX8_separators 36 = .ok (.isub, 1) := by decide +kernel
theorem dX8_separators_37 : decode cX8_separators 37 = .ok (.goto 4, 3) := by decide +kernel
theorem dX8_separators_40 : decode cX8_separators 40 = .ok (.iconst 0, 1) := by decide +kernel
theorem dX8_separators_41 : decode cX8_separators 41 = .ok (.iadd, 1) := by decide +kernel
theorem dX8_separators_42 : decode cX8_separators 42 = .ok (.istore_n 1, 1) := by decide +kernel
theorem dX8_separators_43 : decode cX8_separators 43 = .ok (.iinc 2 1, 3) := by decide +kernel
theorem dX8_separators_46 : decode cX8_separators 46 = .ok (.goto (-42), 3) := by decide +kernel
theorem dX8_separators_49 : decode cX8_separators 49 = .ok (.iload_n 1, 1) := by decide +kernel
theorem dX8_separators_50 : decode cX8_separators 50 = .ok (.ireturn, 1) := by decide +kernel
theorem dX8_count_0 : decode cX8_count 0 = .ok (.iload_n 1, 1) := by decide +kernel
theorem dX8_count_1 : decode cX8_count 1 = .ok (.iconst 0, 1) := by decide +kernel
theorem dX8_count_2 : decode cX8_count 2 = .ok (.bipush 7, 2) := by decide +kernel
theorem dX8_count_4 : decode cX8_count 4 = .ok (.invokestatic 114, 3) := by decide +kernel
theorem dX8_count_7 : decode cX8_count 7 = .ok (.ifCond .ne 5, 3) := by decide +kernel
theorem dX8_count_10 : decode cX8_count 10 = .ok (.iconst (-1), 1) := by decide +kernel
theorem dX8_count_11 : decode cX8_count 11 = .ok (.ireturn, 1) := by decide +kernel
theorem dX8_count_12 : decode cX8_count 12 = .ok (.iload_n 1, 1) := by decide +kernel
theorem dX8_count_13 : decode cX8_count 13 = .ok (.tableswitch 79 0 6 #[43, 48, 53, 58, 63, 68, 74], 43) := by decide +kernel
theorem dX8_count_56 : decode cX8_count 56 = .ok (.aload_n 0, 1) := by decide +kernel
theorem dX8_count_57 : decode cX8_count 57 = .ok (.invokevirtual 212, 3) := by decide +kernel
theorem dX8_count_60 : decode cX8_count 60 = .ok (.ireturn, 1) := by decide +kernel
theorem dX8_count_61 : decode cX8_count 61 = .ok (.aload_n 0, 1) := by decide +kernel
theorem dX8_count_62 : decode cX8_count 62 = .ok (.getfield 13, 3) := by decide +kernel
theorem dX8_count_65 : decode cX8_count 65 = .ok (.ireturn, 1) := by decide +kernel
theorem dX8_count_66 : decode cX8_count 66 = .ok (.aload_n 0, 1) := by decide +kernel
theorem dX8_count_67 : decode cX8_count 67 = .ok (.getfield 118, 3) := by decide +kernel
theorem dX8_count_70 : decode cX8_count 70 = .ok (.ireturn, 1) := by decide +kernel
theorem dX8_count_71 : decode cX8_count 71 = .ok (.aload_n 0, 1) := by decide +kernel
theorem dX8_count_72 : decode cX8_count 72 = .ok (.invokevirtual 140, 3) := by decide +kernel
theorem dX8_count_75 : decode cX8_count 75 = .ok (.ireturn, 1) := by decide +kernel
theorem dX8_count_76 : decode cX8_count 76 = .ok (.aload_n 0, 1) := by decide +kernel
theorem dX8_count_77 : decode cX8_count 77 = .ok (.invokevirtual 277, 3) := by decide +kernel
theorem dX8_count_80 : decode cX8_count 80 = .ok (.ireturn, 1) := by decide +kernel
theorem dX8_count_81 : decode cX8_count 81 = .ok (.aload_n 0, 1) := by decide +kernel
theorem dX8_count_82 : decode cX8_count 82 = .ok (.iconst 1, 1) := by decide +kernel
theorem dX8_count_83 : decode cX8_count 83 = .ok (.invokevirtual 280, 3) := by decide +kernel
theorem dX8_count_86 : decode cX8_count 86 = .ok (.ireturn, 1) := by decide +kernel
theorem dX8_count_87 : decode cX8_count 87 = .ok (.aload_n 0, 1) := by decide +kernel
theorem dX8_count_88 : decode cX8_count 88 = .ok (.invokevirtual 203, 3) := by decide +kernel
theorem dX8_count_91 : decode cX8_count 91 = .ok (.ireturn, 1) := by decide +kernel
theorem dX8_count_92 : decode cX8_count 92 = .ok (.aload_n 0, 1) := by decide +kernel
theorem dX8_count_93 : decode cX8_count 93 = .ok (.invokevirtual 283, 3) := by decide +kernel
theorem dX8_count_96 : decode cX8_count 96 = .ok (.ireturn, 1) := by decide +kernel
theorem dX8_digest_0 : decode cX8_digest 0 = .ok (.ldc2_w 286, 3) := by decide +kernel
theorem dX8_digest_3 : decode cX8_digest 3 = .ok (.lstore_n 1, 1) := by decide +kernel
theorem dX8_digest_4 : decode cX8_digest 4 = .ok (.iconst 0, 1) := by decide +kernel
theorem dX8_digest_5 : decode cX8_digest 5 = .ok (.istore_n 3, 1) := by decide +kernel
theorem dX8_digest_6 : decode cX8_digest 6 = .ok (.iload_n 3, 1) := by decide +kernel
theorem dX8_digest_7 : decode cX8_digest 7 = .ok (.sipush 2048, 3) := by decide +kernel
theorem dX8_digest_10 : decode cX8_digest 10 = .ok (.if_icmp .ge 23, 3) := by decide +kernel
theorem dX8_digest_13 : decode cX8_digest 13 = .ok (.ldc2_w 288, 3) := by decide +kernel
theorem dX8_digest_16 : decode cX8_digest 16 = .ok (.lload_n 1, 1) := by decide +kernel
theorem dX8_digest_17 : decode cX8_digest 17 = .ok (.lmul, 1) := by decide +kernel
theorem dX8_digest_18 : decode cX8_digest 18 = .ok (.aload_n 0, 1) := by decide +kernel
theorem dX8_digest_19 : decode cX8_digest 19 = .ok (.getfield 7, 3) := by decide +kernel
theorem dX8_digest_22 : decode cX8_digest 22 = .ok (.iload_n 3, 1) := by decide +kernel
theorem dX8_digest_23 : decode cX8_digest 23 = .ok (.iaload, 1) := by decide +kernel
theorem dX8_digest_24 : decode cX8_digest 24 = .ok (.i2l, 1) := by decide +kernel
theorem dX8_digest_25 : decode cX8_digest 25 = .ok (.ladd, 1) := by decide +kernel
theorem dX8_digest_26 : decode cX8_digest 26 = .ok (.lstore_n 1, 1) := by decide +kernel
theorem dX8_digest_27 : decode cX8_digest 27 = .ok (.iinc 3 1, 3) := by decide +kernel
theorem dX8_digest_30 : decode cX8_digest 30 = .ok (.goto (-24), 3) := by decide +kernel
theorem dX8_digest_33 : decode cX8_digest 33 = .ok (.lload_n 1, 1) := by decide +kernel
theorem dX8_digest_34 : decode cX8_digest 34 = .ok (.lreturn, 1) := by decide +kernel
theorem dX8_keep_0 : decode cX8_keep 0 = .ok (.iload_n 1, 1) := by decide +kernel
theorem dX8_keep_1 : decode cX8_keep 1 = .ok (.iconst 0, 1) := by decide +kernel
theorem dX8_keep_2 : decode cX8_keep 2 = .ok (.iconst 1, 1) := by decide +kernel
theorem dX8_keep_3 : decode cX8_keep 3 = .ok (.invokestatic 114, 3) := by decide +kernel
theorem dX8_keep_6 : decode cX8_keep 6 = .ok (.ifCond .ne 5, 3) := by decide +kernel
theorem dX8_keep_9 : decode cX8_keep 9 = .ok (.iconst (-1), 1) := by decide +kernel
theorem dX8_keep_10 : decode cX8_keep 10 = .ok (.ireturn, 1) := by decide +kernel
theorem dX8_keep_11 : decode cX8_keep 11 = .ok (.iconst 0, 1) := by decide +kernel
theorem dX8_keep_12 : decode cX8_keep 12 = .ok (.istore_n 2, 1) := by decide +kernel
theorem dX8_keep_13 : decode cX8_keep 13 = .ok (.iload_n 2, 1) := by decide +kernel
theorem dX8_keep_14 : decode cX8_keep 14 = .ok (.sipush 2048, 3) := by decide +kernel
theorem dX8_keep_17 : decode cX8_keep 17 = .ok (.if_icmp .ge 27, 3) := by decide +kernel
theorem dX8_keep_20 : decode cX8_keep 20 = .ok (.aload_n 0, 1) := by decide +kernel
theorem dX8_keep_21 : decode cX8_keep 21 = .ok (.getfield 57, 3) := by decide +kernel
theorem dX8_keep_24 : decode cX8_keep 24 = .ok (.sipush 2048, 3) := by decide +kernel
theorem dX8_keep_27 : decode cX8_keep 27 = .ok (.iload_n 1, 1) := by decide +kernel
theorem dX8_keep_28 : decode cX8_keep 28 = .ok (.imul, 1) := by decide +kernel
theorem dX8_keep_29 : decode cX8_keep 29 = .ok (.iload_n 2, 1) := by decide +kernel
theorem dX8_keep_30 : decode cX8_keep 30 = .ok (.iadd, 1) := by decide +kernel
theorem dX8_keep_31 : decode cX8_keep 31 = .ok (.aload_n 0, 1) := by decide +kernel
theorem dX8_keep_32 : decode cX8_keep 32 = .ok (.getfield 7, 3) := by decide +kernel
theorem dX8_keep_35 : decode cX8_keep 35 = .ok (.iload_n 2, 1) := by decide +kernel
theorem dX8_keep_36 : decode cX8_keep 36 = .ok (.iaload, 1) := by decide +kernel
theorem dX8_keep_37 : decode cX8_keep 37 = .ok (.iastore, 1) := by decide +kernel
theorem dX8_keep_38 : decode cX8_keep 38 = .ok (.iinc 2 1, 3) := by decide +kernel
theorem dX8_keep_41 : decode cX8_keep 41 = .ok (.goto (-28), 3) := by decide +kernel
theorem dX8_keep_44 : decode cX8_keep 44 = .ok (.aload_n 0, 1) := by decide +kernel
theorem dX8_keep_45 : decode cX8_keep 45 = .ok (.getfield 60, 3) := by decide +kernel
theorem dX8_keep_48 : decode cX8_keep 48 = .ok (.iload_n 1, 1) := by decide +kernel
theorem dX8_keep_49 : decode cX8_keep 49 = .ok (.aload_n 0, 1) := by decide +kernel
theorem dX8_keep_50 : decode cX8_keep 50 = .ok (.getfield 118, 3) := by decide +kernel
theorem dX8_keep_53 : decode cX8_keep 53 = .ok (.iastore, 1) := by decide +kernel
theorem dX8_keep_54 : decode cX8_keep 54 = .ok (.aload_n 0, 1) := by decide +kernel
theorem dX8_keep_55 : decode cX8_keep 55 = .ok (.getfield 63, 3) := by decide +kernel
theorem dX8_keep_58 : decode cX8_keep 58 = .ok (.iload_n 1, 1) := by decide +kernel
theorem dX8_keep_59 : decode cX8_keep 59 = .ok (.aload_n 0, 1) := by decide +kernel
theorem dX8_keep_60 : decode cX8_keep 60 = .ok (.getfield 13, 3) := by decide +kernel
theorem dX8_keep_63 : decode cX8_keep 63 = .ok (.iastore, 1) := by decide +kernel
theorem dX8_keep_64 : decode cX8_keep 64 = .ok (.aload_n 0, 1) := by decide +kernel
theorem dX8_keep_65 : decode cX8_keep 65 = .ok (.invokevirtual 212, 3) := by decide +kernel
theorem dX8_keep_68 : decode cX8_keep 68 = .ok (.ireturn, 1) := by decide +kernel
theorem dX8_back_0 : decode cX8_back 0 = .ok (.iload_n 1, 1) := by decide +kernel
theorem dX8_back_1 : decode cX8_back 1 = .ok (.iconst 0, 1) := by decide +kernel
theorem dX8_back_2 : decode cX8_back 2 = .ok (.iconst 1, 1) := by decide +kernel
theorem dX8_back_3 : decode cX8_back 3 = .ok (.invokestatic 114, 3) := by decide +kernel
theorem dX8_back_6 : decode cX8_back 6 = .ok (.ifCond .ne 5, 3) := by decide +kernel
theorem dX8_back_9 : decode cX8_back 9 = .ok (.iconst (-1), 1) := by decide +kernel
theorem dX8_back_10 : decode cX8_back 10 = .ok (.ireturn, 1) := by decide +kernel
theorem dX8_back_11 : decode cX8_back 11 = .ok (.aload_n 0, 1) := by decide +kernel
theorem dX8_back_12 : decode cX8_back 12 = .ok (.getfield 63, 3) := by decide +kernel
theorem dX8_back_15 : decode cX8_back 15 = .ok (.iload_n 1, 1) := by decide +kernel
theorem dX8_back_16 : decode cX8_back 16 = .ok (.iaload, 1) := by decide +kernel
theorem dX8_back_17 : decode cX8_back 17 = .ok (.ifCond .ne 6, 3) := by decide +kernel
theorem dX8_back_20 : decode cX8_back 20 = .ok (.bipush (-2), 2) := by decide +kernel
theorem dX8_back_22 : decode cX8_back 22 = .ok (.ireturn, 1) := by decide +kernel
theorem dX8_back_23 : decode cX8_back 23 = .ok (.iconst 0, 1) := by decide +kernel
theorem dX8_back_24 : decode cX8_back 24 = .ok (.istore_n 2, 1) := by decide +kernel
theorem dX8_back_25 : decode cX8_back 25 = .ok (.iload_n 2, 1) := by decide +kernel
theorem dX8_back_26 : decode cX8_back 26 = .ok (.sipush 2048, 3) := by decide +kernel
theorem dX8_back_29 : decode cX8_back 29 = .ok (.if_icmp .ge 27, 3) := by decide +kernel
theorem dX8_back_32 : decode cX8_back 32 = .ok (.aload_n 0, 1) := by decide +kernel
theorem dX8_back_33 : decode cX8_back 33 = .ok (.getfield 7, 3) := by decide +kernel
theorem dX8_back_36 : decode cX8_back 36 = .ok (.iload_n 2, 1) := by decide +kernel
theorem dX8_back_37 : decode cX8_back 37 = .ok (.aload_n 0, 1) := by decide +kernel
theorem dX8_back_38 : decode cX8_back 38 = .ok (.getfield 57, 3) := by decide +kernel
theorem dX8_back_41 : decode cX8_back 41 = .ok (.sipush 2048, 3) := by decide +kernel
theorem dX8_back_44 : decode cX8_back 44 = .ok (.iload_n 1, 1) := by decide +kernel
theorem dX8_back_45 : decode cX8_back 45 = .ok (.imul, 1) := by decide +kernel
theorem dX8_back_46 : decode cX8_back 46 = .ok (.iload_n 2, 1) := by decide +kernel
theorem dX8_back_47 : decode cX8_back 47 = .ok (.iadd, 1) := by decide +kernel
theorem dX8_back_48 : decode cX8_back 48 = .ok (.iaload, 1) := by decide +kernel
theorem dX8_back_49 : decode cX8_back 49 = .ok (.iastore, 1) := by decide +kernel
theorem dX8_back_50 : decode cX8_back 50 = .ok (.iinc 2 1, 3) := by decide +kernel
theorem dX8_back_53 : decode cX8_back 53 = .ok (.goto (-28), 3) := by decide +kernel
theorem dX8_back_56 : decode cX8_back 56 = .ok (.aload_n 0, 1) := by decide +kernel
theorem dX8_back_57 : decode cX8_back 57 = .ok (.aload_n 0, 1) := by decide +kernel
theorem dX8_back_58 : decode cX8_back 58 = .ok (.getfield 60, 3) := by decide +kernel
theorem dX8_back_61 : decode cX8_back 61 = .ok (.iload_n 1, 1) := by decide +kernel
theorem dX8_back_62 : decode cX8_back 62 = .ok (.iaload, 1) := by decide +kernel
theorem dX8_back_63 : decode cX8_back 63 = .ok (.putfield 118, 3) := by decide +kernel
theorem dX8_back_66 : decode cX8_back 66 = .ok (.aload_n 0, 1) := by decide +kernel
theorem dX8_back_67 : decode cX8_back 67 = .ok (.aload_n 0, 1) := by decide +kernel
theorem dX8_back_68 : decode cX8_back 68 = .ok (.getfield 63, 3) := by decide +kernel
theorem dX8_back_71 : decode cX8_back 71 = .ok (.iload_n 1, 1) := by decide +kernel
theorem dX8_back_72 : decode cX8_back 72 = .ok (.iaload, 1) := by decide +kernel
theorem dX8_back_73 : decode cX8_back 73 = .ok (.putfield 13, 3) := by decide +kernel
theorem dX8_back_76 : decode cX8_back 76 = .ok (.aload_n 0, 1) := by decide +kernel
theorem dX8_back_77 : decode cX8_back 77 = .ok (.invokevirtual 212, 3) := by decide +kernel
theorem dX8_back_80 : decode cX8_back 80 = .ok (.ireturn, 1) := by decide +kernel
theorem dX8_type_0 : decode cX8_type 0 = .ok (.iload_n 1, 1) := by decide +kernel
theorem dX8_type_1 : decode cX8_type 1 = .ok (.iconst 0, 1) := by decide +kernel
theorem dX8_type_2 : decode cX8_type 2 = .ok (.sipush 255, 3) := by decide +kernel
theorem dX8_type_5 : decode cX8_type 5 = .ok (.invokestatic 114, 3) := by decide +kernel
theorem dX8_type_8 : decode cX8_type 8 = .ok (.ifCond .ne 5, 3) := by decide +kernel
theorem dX8_type_11 : decode cX8_type 11 = .ok (.iconst (-1), 1) := by decide +kernel
theorem dX8_type_12 : decode cX8_type 12 = .ok (.ireturn, 1) := by decide +kernel
theorem dX8_type_13 : decode cX8_type 13 = .ok (.aload_n 0, 1) := by decide +kernel
theorem dX8_type_14 : decode cX8_type 14 = .ok (.getfield 290, 3) := by decide +kernel
theorem dX8_type_17 : decode cX8_type 17 = .ok (.bipush 120, 2) := by decide +kernel
theorem dX8_type_19 : decode cX8_type 19 = .ok (.if_icmp .ne 6, 3) := by decide +kernel
theorem dX8_type_22 : decode cX8_type 22 = .ok (.bipush (-3), 2) := by decide +kernel
theorem dX8_type_24 : decode cX8_type 24 = .ok (.ireturn, 1) := by decide +kernel
theorem dX8_type_25 : decode cX8_type 25 = .ok (.aload_n 0, 1) := by decide +kernel
theorem dX8_type_26 : decode cX8_type 26 = .ok (.getfield 66, 3) := by decide +kernel
theorem dX8_type_29 : decode cX8_type 29 = .ok (.aload_n 0, 1) := by decide +kernel
theorem dX8_type_30 : decode cX8_type 30 = .ok (.getfield 290, 3) := by decide +kernel
theorem dX8_type_33 : decode cX8_type 33 = .ok (.iload_n 1, 1) := by decide +kernel
theorem dX8_type_34 : decode cX8_type 34 = .ok (.iastore, 1) := by decide +kernel
theorem dX8_type_35 : decode cX8_type 35 = .ok (.aload_n 0, 1) := by decide +kernel
theorem dX8_type_36 : decode cX8_type 36 = .ok (.dup, 1) := by decide +kernel
theorem dX8_type_37 : decode cX8_type 37 = .ok (.getfield 290, 3) := by decide +kernel
theorem dX8_type_40 : decode cX8_type 40 = .ok (.iconst 1, 1) := by decide +kernel
theorem dX8_type_41 : decode cX8_type 41 = .ok (.iadd, 1) := by decide +kernel
theorem dX8_type_42 : decode cX8_type 42 = .ok (.putfield 290, 3) := by decide +kernel
theorem dX8_type_45 : decode cX8_type 45 = .ok (.aload_n 0, 1) := by decide +kernel
theorem dX8_type_46 : decode cX8_type 46 = .ok (.getfield 290, 3) := by decide +kernel
theorem dX8_type_49 : decode cX8_type 49 = .ok (.ireturn, 1) := by decide +kernel
theorem dX8_clear_0 : decode cX8_clear 0 = .ok (.aload_n 0, 1) := by decide +kernel
theorem dX8_clear_1 : decode cX8_clear 1 = .ok (.getfield 290, 3) := by decide +kernel
theorem dX8_clear_4 : decode cX8_clear 4 = .ok (.istore_n 1, 1) := by decide +kernel
theorem dX8_clear_5 : decode cX8_clear 5 = .ok (.aload_n 0, 1) := by decide +kernel
theorem dX8_clear_6 : decode cX8_clear 6 = .ok (.iconst 0, 1) := by decide +kernel
theorem dX8_clear_7 : decode cX8_clear 7 = .ok (.putfield 290, 3) := by decide +kernel
theorem dX8_clear_10 : decode cX8_clear 10 = .ok (.iload_n 1, 1) := by decide +kernel
theorem dX8_clear_11 : decode cX8_clear 11 = .ok (.ireturn, 1) := by decide +kernel
theorem dX8_times_0 : decode cX8_times 0 = .ok (.iload_n 1, 1) := by decide +kernel
theorem dX8_times_1 : decode cX8_times 1 = .ok (.iconst 0, 1) := by decide +kernel
theorem dX8_times_2 : decode cX8_times 2 = .ok (.iconst 3, 1) := by decide +kernel
theorem dX8_times_3 : decode cX8_times 3 = .ok (.invokestatic 114, 3) := by decide +kernel
theorem dX8_times_6 : decode cX8_times 6 = .ok (.ifCond .ne 5, 3) := by decide +kernel
theorem dX8_times_9 : decode cX8_times 9 = .ok (.iconst (-1), 1) := by decide +kernel
theorem dX8_times_10 : decode cX8_times 10 = .ok (.ireturn, 1) := by decide +kernel
theorem dX8_times_11 : decode cX8_times 11 = .ok (.iload_n 1, 1) := by decide +kernel
theorem dX8_times_12 : decode cX8_times 12 = .ok (.ifCond .ne 10, 3) := by decide +kernel
theorem dX8_times_15 : decode cX8_times 15 = .ok (.aload_n 0, 1) := by decide +kernel
theorem dX8_times_16 : decode cX8_times 16 = .ok (.getfield 290, 3) := by decide +kernel
theorem dX8_times_19 : decode cX8_times 19 = .ok (.goto 31, 3) := by decide +kernel
theorem dX8_times_22 : decode cX8_times 22 = .ok (.iload_n 1, 1) := by decide +kernel
theorem dX8_times_23 : decode cX8_times 23 = .ok (.iconst 1, 1) := by decide +kernel
theorem dX8_times_24 : decode cX8_times 24 = .ok (.if_icmp .ne 10, 3) := by decide +kernel
theorem dX8_times_27 : decode cX8_times 27 = .ok (.aload_n 0, 1) := by decide +kernel
theorem dX8_times_28 : decode cX8_times 28 = .ok (.getfield 156, 3) := by decide +kernel
theorem dX8_times_31 : decode cX8_times 31 = .ok (.goto 19, 3) := by decide +kernel
theorem dX8_times_34 : decode cX8_times 34 = .ok (.iload_n 1, 1) := by decide +kernel
theorem dX8_times_35 : decode cX8_times 35 = .ok (.iconst 2, 1) := by decide +kernel
theorem dX8_times_36 : decode cX8_times 36 = .ok (.if_icmp .ne 10, 3) := by decide +kernel
theorem dX8_times_39 : decode cX8_times 39 = .ok (.aload_n 0, 1) := by decide +kernel
theorem dX8_times_40 : decode cX8_times 40 = .ok (.getfield 181, 3) := by decide +kernel
theorem dX8_times_43 : decode cX8_times 43 = .ok (.goto 7, 3) := by decide +kernel
theorem dX8_times_46 : decode cX8_times 46 = .ok (.aload_n 0, 1) := by decide +kernel
theorem dX8_times_47 : decode cX8_times 47 = .ok (.getfield 184, 3) := by decide +kernel
theorem dX8_times_50 : decode cX8_times 50 = .ok (.ireturn, 1) := by decide +kernel
theorem dX8_here_0 : decode cX8_here 0 = .ok (.aload_n 0, 1) := by decide +kernel
theorem dX8_here_1 : decode cX8_here 1 = .ok (.getfield 293, 3) := by decide +kernel
theorem dX8_here_4 : decode cX8_here 4 = .ok (.aload_n 0, 1) := by decide +kernel
theorem dX8_here_5 : decode cX8_here 5 = .ok (.getfield 290, 3) := by decide +kernel
theorem dX8_here_8 : decode cX8_here 8 = .ok (.if_icmp .ge 15, 3) := by decide +kernel
theorem dX8_here_11 : decode cX8_here 11 = .ok (.aload_n 0, 1) := by decide +kernel
theorem dX8_here_12 : decode cX8_here 12 = .ok (.getfield 66, 3) := by decide +kernel
theorem dX8_here_15 : decode cX8_here 15 = .ok (.aload_n 0, 1) := by decide +kernel
theorem dX8_here_16 : decode cX8_here 16 = .ok (.getfield 293, 3) := by decide +kernel
theorem dX8_here_19 : decode cX8_here 19 = .ok (.iaload, 1) := by decide +kernel
theorem dX8_here_20 : decode cX8_here 20 = .ok (.goto 5, 3) := by decide +kernel
theorem dX8_here_23 : decode cX8_here 23 = .ok (.bipush (-9), 2) := by decide +kernel
theorem dX8_here_25 : decode cX8_here 25 = .ok (.ireturn, 1) := by decide +kernel
theorem dX8_skip_0 : decode cX8_skip 0 = .ok (.aload_n 0, 1) := by decide +kernel
theorem dX8_skip_1 : decode cX8_skip 1 = .ok (.invokevirtual 296, 3) := by decide +kernel
theorem dX8_skip_4 : decode cX8_skip 4 = .ok (.bipush 32, 2) := by decide +kernel
theorem dX8_skip_6 : decode cX8_skip 6 = .ok (.if_icmp .ne 16, 3) := by decide +kernel
theorem dX8_skip_9 : decode cX8_skip 9 = .ok (.aload_n 0, 1) := by decide +kernel
theorem dX8_skip_10 : decode cX8_skip 10 = .ok (.dup, 1) := by decide +kernel
theorem dX8_skip_11 : decode cX8_skip 11 = .ok (.getfield 293, 3) := by decide +kernel
theorem dX8_skip_14 : decode cX8_skip 14 = .ok (.iconst 1, 1) := by decide +kernel
theorem dX8_skip_15 : decode cX8_skip 15 = .ok (.iadd, 1) := by decide +kernel
theorem dX8_skip_16 : decode cX8_skip 16 = .ok (.putfield 293, 3) := by decide +kernel
theorem dX8_skip_19 : decode cX8_skip 19 = .ok (.goto (-19), 3) := by decide +kernel
theorem dX8_skip_22 : decode cX8_skip 22 = .ok (.return_, 1) := by decide +kernel
theorem dX8_lettersHere_0 : decode cX8_lettersHere 0 = .ok (.iconst 0, 1) := by decide +kernel
theorem dX8_lettersHere_1 : decode cX8_lettersHere 1 = .ok (.istore_n 1, 1) := by decide +kernel
theorem dX8_lettersHere_2 : decode cX8_lettersHere 2 = .ok (.aload_n 0, 1) := by decide +kernel
theorem dX8_lettersHere_3 : decode cX8_lettersHere 3 = .ok (.getfield 293, 3) := by decide +kernel
theorem dX8_lettersHere_6 : decode cX8_lettersHere 6 = .ok (.iload_n 1, 1) := by decide +kernel
theorem dX8_lettersHere_7 : decode cX8_lettersHere 7 = .ok (.iadd, 1) := by decide +kernel
theorem dX8_lettersHere_8 : decode cX8_lettersHere 8 = .ok (.aload_n 0, 1) := by decide +kernel
theorem dX8_lettersHere_9 : decode cX8_lettersHere 9 = .ok (.getfield 290, 3) := by decide +kernel
theorem dX8_lettersHere_12 : decode cX8_lettersHere 12 = .ok (.if_icmp .ge 30, 3) := by decide +kernel
theorem dX8_lettersHere_15 : decode cX8_lettersHere 15 = .ok (.aload_n 0, 1) := by decide +kernel
theorem dX8_lettersHere_16 : decode cX8_lettersHere 16 = .ok (.getfield 66, 3) := by decide +kernel
theorem dX8_lettersHere_19 : decode cX8_lettersHere 19 = .ok (.aload_n 0, 1) := by decide +kernel
theorem dX8_lettersHere_20 : decode cX8_lettersHere 20 = .ok (.getfield 293, 3) := by decide +kernel
theorem dX8_lettersHere_23 : decode cX8_lettersHere 23 = .ok (.iload_n 1, 1) := by decide +kernel
theorem dX8_lettersHere_24 : decode cX8_lettersHere 24 = .ok (.iadd, 1) := by decide +kernel
theorem dX8_lettersHere_25 : decode cX8_lettersHere 25 = .ok (.iaload, 1) := by decide +kernel
theorem dX8_lettersHere_26 : decode cX8_lettersHere 26 = .ok (.bipush 97, 2) := by decide +kernel
theorem dX8_lettersHere_28 : decode cX8_lettersHere 28 = .ok (.bipush 122, 2) := by decide +kernel
theorem dX8_lettersHere_30 : decode cX8_lettersHere 30 = .ok (.invokestatic 114, 3) := by decide +kernel
theorem dX8_lettersHere_33 : decode cX8_lettersHere 33 = .ok (.ifCond .eq 9, 3) := by decide +kernel
theorem dX8_lettersHere_36 : decode cX8_lettersHere 36 = .ok (.iinc 1 1, 3) := by decide +kernel
theorem dX8_lettersHere_39 : decode cX8_lettersHere 39 = .ok (.goto (-37), 3) := by decide +kernel
theorem dX8_lettersHere_42 : decode cX8_lettersHere 42 = .ok (.iload_n 1, 1) := by decide +kernel
theorem dX8_lettersHere_43 : decode cX8_lettersHere 43 = .ok (.ireturn, 1) := by decide +kernel
theorem dX8_number_0 : decode cX8_number 0 = .ok (.aload_n 0, 1) := by decide +kernel
theorem dX8_number_1 : decode cX8_number 1 = .ok (.invokevirtual 299, 3) := by decide +kernel
theorem dX8_number_4 : decode cX8_number 4 = .ok (.iconst 0, 1) := by decide +kernel
theorem dX8_number_5 : decode cX8_number 5 = .ok (.istore_n 3, 1) := by decide +kernel
theorem dX8_number_6 : decode cX8_number 6 = .ok (.iconst 0, 1) := by decide +kernel
theorem dX8_number_7 : decode cX8_number 7 = .ok (.istore 4, 2) := by decide +kernel
theorem dX8_number_9 : decode cX8_number 9 = .ok (.aload_n 0, 1) := by decide +kernel
theorem dX8_number_10 : decode cX8_number 10 = .ok (.getfield 293, 3) := by decide +kernel
theorem dX8_number_13 : decode cX8_number 13 = .ok (.iload_n 3, 1) := by decide +kernel
theorem dX8_number_14 : decode cX8_number 14 = .ok (.iadd, 1) := by decide +kernel
theorem dX8_number_15 : decode cX8_number 15 = .ok (.aload_n 0, 1) := by decide +kernel
theorem dX8_number_16 : decode cX8_number 16 = .ok (.getfield 290, 3) := by decide +kernel
theorem dX8_number_19 : decode cX8_number 19 = .ok (.if_icmp .ge 62, 3) := by decide +kernel
theorem dX8_number_22 : decode cX8_number 22 = .ok (.aload_n 0, 1) := by decide +kernel
theorem dX8_number_23 : decode cX8_number 23 = .ok (.getfield 66, 3) := by decide +kernel
theorem dX8_number_26 : decode cX8_number 26 = .ok (.aload_n 0, 1) := by decide +kernel
theorem dX8_number_27 : decode cX8_number 27 = .ok (.getfield 293, 3) := by decide +kernel
theorem dX8_number_30 : decode cX8_number 30 = .ok (.iload_n 3, 1) := by decide +kernel
theorem dX8_number_31 : decode cX8_number 31 = .ok (.iadd, 1) := by decide +kernel
theorem dX8_number_32 : decode cX8_number 32 = .ok (.iaload, 1) := by decide +kernel
theorem dX8_number_33 : decode cX8_number 33 = .ok (.bipush 48, 2) := by decide +kernel
theorem dX8_number_35 : decode cX8_number 35 = .ok (.bipush 57, 2) := by decide +kernel
theorem dX8_number_37 : decode cX8_number 37 = .ok (.invokestatic 114, 3) := by decide +kernel
theorem dX8_number_40 : decode cX8_number 40 = .ok (.ifCond .eq 41, 3) := by decide +kernel
theorem dX8_number_43 : decode cX8_number 43 = .ok (.iload_n 3, 1) := by decide +kernel
theorem dX8_number_44 : decode cX8_number 44 = .ok (.iconst 5, 1) := by decide +kernel
theorem dX8_number_45 : decode cX8_number 45 = .ok (.if_icmp .ge 26, 3) := by decide +kernel
theorem dX8_number_48 : decode cX8_number 48 = .ok (.bipush 10, 2) := by decide +kernel
theorem dX8_number_50 : decode cX8_number 50 = .ok (.iload 4, 2) := by decide +kernel
theorem dX8_number_52 : decode cX8_number 52 = .ok (.imul, 1) := by decide +kernel
theorem dX8_number_53 : decode cX8_number 53 = .ok (.aload_n 0, 1) := by decide +kernel
theorem dX8_number_54 : decode cX8_number 54 = .ok (.getfield 66, 3) := by decide +kernel
theorem dX8_number_57 : decode cX8_number 57 = .ok (.aload_n 0, 1) := by decide +kernel
theorem dX8_number_58 : decode cX8_number 58 = .ok (.getfield 293, 3) := by decide +kernel
theorem dX8_number_61 : decode cX8_number 61 = .ok (.iload_n 3, 1) := by decide +kernel
theorem dX8_number_62 : decode cX8_number 62 = .ok (.iadd, 1) := by decide +kernel
theorem dX8_number_63 : decode cX8_number 63 = .ok (.iaload, 1) := by decide +kernel
theorem dX8_number_64 : decode cX8_number 64 = .ok (.iadd, 1) := by decide +kernel
theorem dX8_number_65 : decode cX8_number 65 = .ok (.bipush 48, 2) := by decide +kernel
theorem dX8_number_67 : decode cX8_number 67 = .ok (.isub, 1) := by decide +kernel
theorem dX8_number_68 : decode cX8_number 68 = .ok (.goto 5, 3) := by decide +kernel
theorem dX8_number_71 : decode cX8_number 71 = .ok (.iload 4, 2) := by decide +kernel
theorem dX8_number_73 : decode cX8_number 73 = .ok (.istore 4, 2) := by decide +kernel
theorem dX8_number_75 : decode cX8_number 75 = .ok (.iinc 3 1, 3) := by decide +kernel
theorem dX8_number_78 : decode cX8_number 78 = .ok (.goto (-69), 3) := by decide +kernel
theorem dX8_number_81 : decode cX8_number 81 = .ok (.iload_n 3, 1) := by decide +kernel
theorem dX8_number_82 : decode cX8_number 82 = .ok (.iconst 1, 1) := by decide +kernel
theorem dX8_number_83 : decode cX8_number 83 = .ok (.iconst 5, 1) := by decide +kernel
theorem dX8_number_84 : decode cX8_number 84 = .ok (.invokestatic 114, 3) := by decide +kernel
theorem dX8_number_87 : decode cX8_number 87 = .ok (.ifCond .eq 27, 3) := by decide +kernel
theorem dX8_number_90 : decode cX8_number 90 = .ok (.iload_n 3, 1) := by decide +kernel
theorem dX8_number_91 : decode cX8_number 91 = .ok (.iconst 1, 1) := by decide +kernel
theorem dX8_number_92 : decode cX8_number 92 = .ok (.if_icmp .le 12, 3) := by decide +kernel
theorem dX8_number_95 : decode cX8_number 95 = .ok (.aload_n 0, 1) := by decide +kernel
theorem dX8_number_96 : decode cX8_number 96 = .ok (.invokevirtual 296, 3) := by decide +kernel
theorem dX8_number_99 : decode cX8_number 99 = .ok (.bipush 48, 2) := by decide +kernel
theorem dX8_number_101 : decode cX8_number 101 = .ok (.if_icmp .eq 13, 3) := by decide +kernel
theorem dX8_number_104 : decode cX8_number 104 = .ok (.iload 4, 2) := by decide +kernel
theorem dX8_number_106 : decode cX8_number 106 = .ok (.iload_n 1, 1) := by decide +kernel
theorem dX8_number_107 : decode cX8_number 107 = .ok (.iload_n 2, 1) := by decide +kernel
theorem dX8_number_108 : decode cX8_number 108 = .ok (.invokestatic 114, 3) := by decide +kernel
theorem dX8_number_111 : decode cX8_number 111 = .ok (.ifCond .ne 5, 3) := by decide +kernel
theorem dX8_number_114 : decode cX8_number 114 = .ok (.iconst 0, 1) := by decide +kernel
theorem dX8_number_115 : decode cX8_number 115 = .ok (.ireturn, 1) := by decide +kernel
theorem dX8_number_116 : decode cX8_number 116 = .ok (.aload_n 0, 1) := by decide +kernel
theorem dX8_number_117 : decode cX8_number 117 = .ok (.iload 4, 2) := by decide +kernel
theorem dX8_number_119 : decode cX8_number 119 = .ok (.putfield 302, 3) := by decide +kernel
theorem dX8_number_122 : decode cX8_number 122 = .ok (.aload_n 0, 1) := by decide +kernel
theorem dX8_number_123 : decode cX8_number 123 = .ok (.dup, 1) := by decide +kernel
theorem dX8_number_124 : decode cX8_number 124 = .ok (.getfield 293, 3) := by decide +kernel
theorem dX8_number_127 : decode cX8_number 127 = .ok (.iload_n 3, 1) := by decide +kernel
theorem dX8_number_128 : decode cX8_number 128 = .ok (.iadd, 1) := by decide +kernel
theorem dX8_number_129 : decode cX8_number 129 = .ok (.putfield 293, 3) := by decide +kernel
theorem dX8_number_132 : decode cX8_number 132 = .ok (.iconst 1, 1) := by decide +kernel
theorem dX8_number_133 : decode cX8_number 133 = .ok (.ireturn, 1) := by decide +kernel
theorem dX8_ends_0 : decode cX8_ends 0 = .ok (.aload_n 0, 1) := by decide +kernel
theorem dX8_ends_1 : decode cX8_ends 1 = .ok (.invokevirtual 299, 3) := by decide +kernel
theorem dX8_ends_4 : decode cX8_ends 4 = .ok (.aload_n 0, 1) := by decide +kernel
theorem dX8_ends_5 : decode cX8_ends 5 = .ok (.invokevirtual 296, 3) := by decide +kernel
theorem dX8_ends_8 : decode cX8_ends 8 = .ok (.bipush 59, 2) := by decide +kernel
theorem dX8_ends_10 : decode cX8_ends 10 = .ok (.if_icmp .eq 5, 3) := by decide +kernel
theorem dX8_ends_13 : decode cX8_ends 13 = .ok (.iconst 0, 1) := by decide +kernel
theorem dX8_ends_14 : decode cX8_ends 14 = .ok (.ireturn, 1) := by decide +kernel
theorem dX8_ends_15 : decode cX8_ends 15 = .ok (.aload_n 0, 1) := by decide +kernel
theorem dX8_ends_16 : decode cX8_ends 16 = .ok (.dup, 1) := by decide +kernel
theorem dX8_ends_17 : decode cX8_ends 17 = .ok (.getfield 293, 3) := by decide +kernel
theorem dX8_ends_20 : decode cX8_ends 20 = .ok (.iconst 1, 1) := by decide +kernel
theorem dX8_ends_21 : decode cX8_ends 21 = .ok (.iadd, 1) := by decide +kernel
theorem dX8_ends_22 : decode cX8_ends 22 = .ok (.putfield 293, 3) := by decide +kernel
theorem dX8_ends_25 : decode cX8_ends 25 = .ok (.iconst 1, 1) := by decide +kernel
theorem dX8_ends_26 : decode cX8_ends 26 = .ok (.ireturn, 1) := by decide +kernel
theorem dX8_readsKey_0 : decode cX8_readsKey 0 = .ok (.aload_n 0, 1) := by decide +kernel
theorem dX8_readsKey_1 : decode cX8_readsKey 1 = .ok (.invokevirtual 299, 3) := by decide +kernel
theorem dX8_readsKey_4 : decode cX8_readsKey 4 = .ok (.aload_n 0, 1) := by decide +kernel
theorem dX8_readsKey_5 : decode cX8_readsKey 5 = .ok (.invokevirtual 305, 3) := by decide +kernel
theorem dX8_readsKey_8 : decode cX8_readsKey 8 = .ok (.istore_n 1, 1) := by decide +kernel
theorem dX8_readsKey_9 : decode cX8_readsKey 9 = .ok (.iload_n 1, 1) := by decide +kernel
theorem dX8_readsKey_10 : decode cX8_readsKey 10 = .ok (.iconst 1, 1) := by decide +kernel
theorem dX8_readsKey_11 : decode cX8_readsKey 11 = .ok (.bipush 8, 2) := by decide +kernel
theorem dX8_readsKey_13 : decode cX8_readsKey 13 = .ok (.invokestatic 114, 3) := by decide +kernel
theorem dX8_readsKey_16 : decode cX8_readsKey 16 = .ok (.ifCond .ne 5, 3) := by decide +kernel
theorem dX8_readsKey_19 : decode cX8_readsKey 19 = .ok (.iconst 0, 1) := by decide +kernel
theorem dX8_readsKey_20 : decode cX8_readsKey 20 = .ok (.ireturn, 1) := by decide +kernel
theorem dX8_readsKey_21 : decode cX8_readsKey 21 = .ok (.aload_n 0, 1) := by decide +kernel
theorem dX8_readsKey_22 : decode cX8_readsKey 22 = .ok (.iload_n 1, 1) := by decide +kernel
theorem dX8_readsKey_23 : decode cX8_readsKey 23 = .ok (.putfield 111, 3) := by decide +kernel
theorem dX8_readsKey_26 : decode cX8_readsKey 26 = .ok (.iconst 0, 1) := by decide +kernel
theorem dX8_readsKey_27 : decode cX8_readsKey 27 = .ok (.istore_n 2, 1) := by decide +kernel
theorem dX8_readsKey_28 : decode cX8_readsKey 28 = .ok (.iload_n 2, 1) := by decide +kernel
theorem dX8_readsKey_29 : decode cX8_readsKey 29 = .ok (.iload_n 1, 1) := by decide +kernel
theorem dX8_readsKey_30 : decode cX8_readsKey 30 = .ok (.if_icmp .ge 26, 3) := by decide +kernel
theorem dX8_readsKey_33 : decode cX8_readsKey 33 = .ok (.aload_n 0, 1) := by decide +kernel
theorem dX8_readsKey_34 : decode cX8_readsKey 34 = .ok (.getfield 29, 3) := by decide +kernel
theorem dX8_readsKey_37 : decode cX8_readsKey 37 = .ok (.iload_n 2, 1) := by decide +kernel
theorem dX8_readsKey_38 : decode cX8_readsKey 38 = .ok (.aload_n 0, 1) := by decide +kernel
theorem dX8_readsKey_39 : decode cX8_readsKey 39 = .ok (.getfield 66, 3) := by decide +kernel
theorem dX8_readsKey_42 : decode cX8_readsKey 42 = .ok (.aload_n 0, 1) := by decide +kernel
theorem dX8_readsKey_43 : decode cX8_readsKey 43 = .ok (.getfield 293, 3) := by decide +kernel
theorem dX8_readsKey_46 : decode cX8_readsKey 46 = .ok (.iload_n 2, 1) := by decide +kernel
theorem dX8_readsKey_47 : decode cX8_readsKey 47 = .ok (.iadd, 1) := by decide +kernel
theorem dX8_readsKey_48 : decode cX8_readsKey 48 = .ok (.iaload, 1) := by decide +kernel
theorem dX8_readsKey_49 : decode cX8_readsKey 49 = .ok (.iastore, 1) := by decide +kernel
theorem dX8_readsKey_50 : decode cX8_readsKey 50 = .ok (.iinc 2 1, 3) := by decide +kernel
theorem dX8_readsKey_53 : decode cX8_readsKey 53 = .ok (.goto (-25), 3) := by decide +kernel
theorem dX8_readsKey_56 : decode cX8_readsKey 56 = .ok (.aload_n 0, 1) := by decide +kernel
theorem dX8_readsKey_57 : decode cX8_readsKey 57 = .ok (.dup, 1) := by decide +kernel
theorem dX8_readsKey_58 : decode cX8_readsKey 58 = .ok (.getfield 293, 3) := by decide +kernel
theorem dX8_readsKey_61 : decode cX8_readsKey 61 = .ok (.iload_n 1, 1) := by decide +kernel
theorem dX8_readsKey_62 : decode cX8_readsKey 62 = .ok (.iadd, 1) := by decide +kernel
theorem dX8_readsKey_63 : decode cX8_readsKey 63 = .ok (.putfield 293, 3) := by decide +kernel
theorem dX8_readsKey_66 : decode cX8_readsKey 66 = .ok (.iconst 1, 1) := by decide +kernel
theorem dX8_readsKey_67 : decode cX8_readsKey 67 = .ok (.ireturn, 1) := by decide +kernel
theorem dX8_letterAt_0 : decode cX8_letterAt 0 = .ok (.aload_n 0, 1) := by decide +kernel
theorem dX8_letterAt_1 : decode cX8_letterAt 1 = .ok (.getfield 66, 3) := by decide +kernel
theorem dX8_letterAt_4 : decode cX8_letterAt 4 = .ok (.aload_n 0, 1) := by decide +kernel
theorem dX8_letterAt_5 : decode cX8_letterAt 5 = .ok (.getfield 293, 3) := by decide +kernel
theorem dX8_letterAt_8 : decode cX8_letterAt 8 = .ok (.iload_n 1, 1) := by decide +kernel
theorem dX8_letterAt_9 : decode cX8_letterAt 9 = .ok (.iadd, 1) := by decide +kernel
theorem dX8_letterAt_10 : decode cX8_letterAt 10 = .ok (.iaload, 1) := by decide +kernel
theorem dX8_letterAt_11 : decode cX8_letterAt 11 = .ok (.ireturn, 1) := by decide +kernel
theorem dX8_commandHere_0 : decode cX8_commandHere 0 = .ok (.aload_n 0, 1) := by decide +kernel
theorem dX8_commandHere_1 : decode cX8_commandHere 1 = .ok (.invokevirtual 305, 3) := by decide +kernel
theorem dX8_commandHere_4 : decode cX8_commandHere 4 = .ok (.istore_n 1, 1) := by decide +kernel
theorem dX8_commandHere_5 : decode cX8_commandHere 5 = .ok (.iload_n 1, 1) := by decide +kernel
theorem dX8_commandHere_6 : decode cX8_commandHere 6 = .ok (.iconst 3, 1) := by decide +kernel
theorem dX8_commandHere_7 : decode cX8_commandHere 7 = .ok (.if_icmp .ne 39, 3) := by decide +kernel
theorem dX8_commandHere_10 : decode cX8_commandHere 10 = .ok (.aload_n 0, 1) := by decide +kernel
theorem dX8_commandHere_11 : decode cX8_commandHere 11 = .ok (.iconst 0, 1) := by decide +kernel
theorem dX8_commandHere_12 : decode cX8_commandHere 12 = .ok (.invokevirtual 308, 3) := by decide +kernel
theorem dX8_commandHere_15 : decode cX8_commandHere 15 = .ok (.bipush 112, 2) := by decide +kernel
theorem dX8_commandHere_17 : decode cX8_commandHere 17 = .ok (.if_icmp .ne 27, 3) := by decide +kernel
theorem dX8_commandHere_20 : decode cX8_commandHere 20 = .ok (.aload_n 0, 1) := by decide +kernel
theorem dX8_commandHere_21 : decode cX8_commandHere 21 = .ok (.iconst 1, 1) := by decide +kernel
theorem dX8_commandHere_22 : decode cX8_commandHere 22 = .ok (.invokevirtual 308, 3) := by decide +kernel
theorem dX8_commandHere_25 : decode cX8_commandHere 25 = .ok (.bipush 117, 2) := by decide +kernel
theorem dX8_commandHere_27 : decode cX8_commandHere 27 = .ok (.if_icmp .ne 17, 3) := by decide +kernel
theorem dX8_commandHere_30 : decode cX8_commandHere 30 = .ok (.aload_n 0, 1) := by decide +kernel
theorem dX8_commandHere_31 : decode cX8_commandHere 31 = .ok (.iconst 2, 1) := by decide +kernel
theorem dX8_commandHere_32 : decode cX8_commandHere 32 = .ok (.invokevirtual 308, 3) := by decide +kernel
theorem dX8_commandHere_35 : decode cX8_commandHere 35 = .ok (.bipush 116, 2) := by decide +kernel
theorem dX8_commandHere_37 : decode cX8_commandHere 37 = .ok (.if_icmp .ne 7, 3) := by decide +kernel
theorem dX8_commandHere_40 : decode cX8_commandHere 40 = .ok (.iconst 1, 1) := by decide +kernel
theorem dX8_commandHere_41 : decode cX8_commandHere 41 = .ok (.goto 4, 3) := by decide +kernel
theorem dX8_commandHere_44 : decode cX8_commandHere 44 = .ok (.iconst 0, 1) := by decide +kernel
theorem dX8_commandHere_45 : decode cX8_commandHere 45 = .ok (.ireturn, 1) := by decide +kernel
theorem dX8_commandHere_46 : decode cX8_commandHere 46 = .ok (.iload_n 1, 1) := by decide +kernel
theorem dX8_commandHere_47 : decode cX8_commandHere 47 = .ok (.iconst 4, 1) := by decide +kernel
theorem dX8_commandHere_48 : decode cX8_commandHere 48 = .ok (.if_icmp .eq 5, 3) := by decide +kernel
theorem dX8_commandHere_51 : decode cX8_commandHere 51 = .ok (.iconst 0, 1) := by decide +kernel
theorem dX8_commandHere_52 : decode cX8_commandHere 52 = .ok (.ireturn, 1) := by decide +kernel
theorem dX8_commandHere_53 : decode cX8_commandHere 53 = .ok (.aload_n 0, 1) := by decide +kernel
theorem dX8_commandHere_54 : decode cX8_commandHere 54 = .ok (.iconst 0, 1) := by decide +kernel
theorem dX8_commandHere_55 : decode cX8_commandHere 55 = .ok (.invokevirtual 308, 3) := by decide +kernel
theorem dX8_commandHere_58 : decode cX8_commandHere 58 = .ok (.bipush 116, 2) := by decide +kernel
theorem dX8_commandHere_60 : decode cX8_commandHere 60 = .ok (.if_icmp .ne 35, 3) := by decide +kernel
theorem dX8_commandHere_63 : decode cX8_commandHere 63 = .ok (.aload_n 0, 1) := by decide +kernel
theorem dX8_commandHere_64 : decode cX8_commandHere 64 = .ok (.iconst 1, 1) := by decide +kernel
theorem dX8_commandHere_65 : decode cX8_commandHere 65 = .ok (.invokevirtual 308, 3) := by decide +kernel
theorem dX8_commandHere_68 : decode cX8_commandHere 68 = .ok (.bipush 97, 2) := by decide +kernel
theorem dX8_commandHere_70 : decode cX8_commandHere 70 = .ok (.if_icmp .ne 25, 3) := by decide +kernel
theorem dX8_commandHere_73 : decode cX8_commandHere 73 = .ok (.aload_n 0, 1) := by decide +kernel
theorem dX8_commandHere_74 : decode cX8_commandHere 74 = .ok (.iconst 2, 1) := by decide +kernel
theorem dX8_commandHere_75 : decode cX8_commandHere 75 = .ok (.invokevirtual 308, 3) := by decide +kernel
theorem dX8_commandHere_78 : decode cX8_commandHere 78 = .ok (.bipush 107, 2) := by decide +kernel
theorem dX8_commandHere_80 : decode cX8_commandHere 80 = .ok (.if_icmp .ne 15, 3) := by decide +kernel
theorem dX8_commandHere_83 : decode cX8_commandHere 83 = .ok (.aload_n 0, 1) := by decide +kernel
theorem dX8_commandHere_84 : decode cX8_commandHere 84 = .ok (.iconst 3, 1) := by decide +kernel
theorem dX8_commandHere_85 : decode cX8_commandHere 85 = .ok (.invokevirtual 308, 3) := by decide +kernel
theorem dX8_commandHere_88 : decode cX8_commandHere 88 = .ok (.bipush 101, 2) := by decide +kernel
theorem dX8_commandHere_90 : decode cX8_commandHere 90 = .ok (.if_icmp .ne 5, 3) := by decide +kernel
theorem dX8_commandHere_93 : decode cX8_commandHere 93 = .ok (.iconst 2, 1) := by decide +kernel
theorem dX8_commandHere_94 : decode cX8_commandHere 94 = .ok (.ireturn, 1) := by decide +kernel
theorem dX8_commandHere_95 : decode cX8_commandHere 95 = .ok (.aload_n 0, 1) := by decide +kernel
theorem dX8_commandHere_96 : decode cX8_commandHere 96 = .ok (.iconst 0, 1) := by decide +kernel
theorem dX8_commandHere_97 : decode cX8_commandHere 97 = .ok (.invokevirtual 308, 3) := by decide +kernel
theorem dX8_commandHere_100 : decode cX8_commandHere 100 = .ok (.bipush 108, 2) := by decide +kernel
theorem dX8_commandHere_102 : decode cX8_commandHere 102 = .ok (.if_icmp .ne 37, 3) := by decide +kernel
theorem dX8_commandHere_105 : decode cX8_commandHere 105 = .ok (.aload_n 0, 1) := by decide +kernel
theorem dX8_commandHere_106 : decode cX8_commandHere 106 = .ok (.iconst 1, 1) := by decide +kernel
theorem dX8_commandHere_107 : decode cX8_commandHere 107 = .ok (.invokevirtual 308, 3) := by decide +kernel
theorem dX8_commandHere_110 : decode cX8_commandHere 110 = .ok (.bipush 111, 2) := by decide +kernel
theorem dX8_commandHere_112 : decode cX8_commandHere 112 = .ok (.if_icmp .ne 27, 3) := by decide +kernel
theorem dX8_commandHere_115 : decode cX8_commandHere 115 = .ok (.aload_n 0, 1) := by decide +kernel
theorem dX8_commandHere_116 : decode cX8_commandHere 116 = .ok (.iconst 2, 1) := by decide +kernel
theorem dX8_commandHere_117 : decode cX8_commandHere 117 = .ok (.invokevirtual 308, 3) := by decide +kernel
theorem dX8_commandHere_120 : decode cX8_commandHere 120 = .ok (.bipush 97, 2) := by decide +kernel
theorem dX8_commandHere_122 : decode cX8_commandHere 122 = .ok (.if_icmp .ne 17, 3) := by decide +kernel
theorem dX8_commandHere_125 : decode cX8_commandHere 125 = .ok (.aload_n 0, 1) := by decide +kernel
theorem dX8_commandHere_126 : decode cX8_commandHere 126 = .ok (.iconst 3, 1) := by decide +kernel
theorem dX8_commandHere_127 : decode cX8_commandHere 127 = .ok (.invokevirtual 308, 3) := by decide +kernel
theorem dX8_commandHere_130 : decode cX8_commandHere 130 = .ok (.bipush 100, 2) := by decide +kernel
theorem dX8_commandHere_132 : decode cX8_commandHere 132 = .ok (.if_icmp .ne 7, 3) := by decide +kernel
theorem dX8_commandHere_135 : decode cX8_commandHere 135 = .ok (.iconst 3, 1) := by decide +kernel
theorem dX8_commandHere_136 : decode cX8_commandHere 136 = .ok (.goto 4, 3) := by decide +kernel
theorem dX8_commandHere_139 : decode cX8_commandHere 139 = .ok (.iconst 0, 1) := by decide +kernel
theorem dX8_commandHere_140 : decode cX8_commandHere 140 = .ok (.ireturn, 1) := by decide +kernel
theorem dX8_readsLoad_0 : decode cX8_readsLoad 0 = .ok (.aload_n 0, 1) := by decide +kernel
theorem dX8_readsLoad_1 : decode cX8_readsLoad 1 = .ok (.iconst 0, 1) := by decide +kernel
theorem dX8_readsLoad_2 : decode cX8_readsLoad 2 = .ok (.sipush 17575, 3) := by decide +kernel
theorem dX8_readsLoad_5 : decode cX8_readsLoad 5 = .ok (.invokevirtual 311, 3) := by decide +kernel
theorem dX8_readsLoad_8 : decode cX8_readsLoad 8 = .ok (.ifCond .ne 5, 3) := by decide +kernel
theorem dX8_readsLoad_11 : decode cX8_readsLoad 11 = .ok (.iconst 0, 1) := by decide +kernel
theorem dX8_readsLoad_12 : decode cX8_readsLoad 12 = .ok (.ireturn, 1) := by decide +kernel
theorem dX8_readsLoad_13 : decode cX8_readsLoad 13 = .ok (.aload_n 0, 1) := by decide +kernel
theorem dX8_readsLoad_14 : decode cX8_readsLoad 14 = .ok (.aload_n 0, 1) := by decide +kernel
theorem dX8_readsLoad_15 : decode cX8_readsLoad 15 = .ok (.getfield 302, 3) := by decide +kernel
theorem dX8_readsLoad_18 : decode cX8_readsLoad 18 = .ok (.putfield 314, 3) := by decide +kernel
theorem dX8_readsLoad_21 : decode cX8_readsLoad 21 = .ok (.aload_n 0, 1) := by decide +kernel
theorem dX8_readsLoad_22 : decode cX8_readsLoad 22 = .ok (.iconst 1, 1) := by decide +kernel
theorem dX8_readsLoad_23 : decode cX8_readsLoad 23 = .ok (.bipush 99, 2) := by decide +kernel
theorem dX8_readsLoad_25 : decode cX8_readsLoad 25 = .ok (.invokevirtual 311, 3) := by decide +kernel
theorem dX8_readsLoad_28 : decode cX8_readsLoad 28 = .ok (.ifCond .ne 5, 3) := by decide +kernel
theorem dX8_readsLoad_31 : decode cX8_readsLoad 31 = .ok (.iconst 0, 1) := by decide +kernel
theorem dX8_readsLoad_32 : decode cX8_readsLoad 32 = .ok (.ireturn, 1) := by decide +kernel
theorem dX8_readsLoad_33 : decode cX8_readsLoad 33 = .ok (.aload_n 0, 1) := by decide +kernel
theorem dX8_readsLoad_34 : decode cX8_readsLoad 34 = .ok (.aload_n 0, 1) := by decide +kernel
theorem dX8_readsLoad_35 : decode cX8_readsLoad 35 = .ok (.getfield 302, 3) := by decide +kernel
theorem dX8_readsLoad_38 : decode cX8_readsLoad 38 = .ok (.putfield 317, 3) := by decide +kernel
theorem dX8_readsLoad_41 : decode cX8_readsLoad 41 = .ok (.aload_n 0, 1) := by decide +kernel
theorem dX8_readsLoad_42 : decode cX8_readsLoad 42 = .ok (.invokevirtual 299, 3) := by decide +kernel
theorem dX8_readsLoad_45 : decode cX8_readsLoad 45 = .ok (.aload_n 0, 1) := by decide +kernel
theorem dX8_readsLoad_46 : decode cX8_readsLoad 46 = .ok (.getfield 293, 3) := by decide +kernel
theorem dX8_readsLoad_49 : decode cX8_readsLoad 49 = .ok (.istore_n 1, 1) := by decide +kernel
theorem dX8_readsLoad_50 : decode cX8_readsLoad 50 = .ok (.aload_n 0, 1) := by decide +kernel
theorem dX8_readsLoad_51 : decode cX8_readsLoad 51 = .ok (.iconst 1, 1) := by decide +kernel
theorem dX8_readsLoad_52 : decode cX8_readsLoad 52 = .ok (.bipush 60, 2) := by decide +kernel
theorem dX8_readsLoad_54 : decode cX8_readsLoad 54 = .ok (.invokevirtual 311, 3) := by decide +kernel
theorem dX8_readsLoad_57 : decode cX8_readsLoad 57 = .ok (.ifCond .ne 5, 3) := by decide +kernel
theorem dX8_readsLoad_60 : decode cX8_readsLoad 60 = .ok (.iconst 0, 1) := by decide +kernel
theorem dX8_readsLoad_61 : decode cX8_readsLoad 61 = .ok (.ireturn, 1) := by decide +kernel
theorem dX8_readsLoad_62 : decode cX8_readsLoad 62 = .ok (.aload_n 0, 1) := by decide +kernel
theorem dX8_readsLoad_63 : decode cX8_readsLoad 63 = .ok (.getfield 314, 3) := by decide +kernel
theorem dX8_readsLoad_66 : decode cX8_readsLoad 66 = .ok (.aload_n 0, 1) := by decide +kernel
theorem dX8_readsLoad_67 : decode cX8_readsLoad 67 = .ok (.getfield 317, 3) := by decide +kernel
theorem dX8_readsLoad_70 : decode cX8_readsLoad 70 = .ok (.aload_n 0, 1) := by decide +kernel
theorem dX8_readsLoad_71 : decode cX8_readsLoad 71 = .ok (.getfield 302, 3) := by decide +kernel
theorem dX8_readsLoad_74 : decode cX8_readsLoad 74 = .ok (.invokestatic 193, 3) := by decide +kernel
theorem dX8_readsLoad_77 : decode cX8_readsLoad 77 = .ok (.ifCond .ne 10, 3) := by decide +kernel
theorem dX8_readsLoad_80 : decode cX8_readsLoad 80 = .ok (.aload_n 0, 1) := by decide +kernel
theorem dX8_readsLoad_81 : decode cX8_readsLoad 81 = .ok (.iload_n 1, 1) := by decide +kernel
theorem dX8_readsLoad_82 : decode cX8_readsLoad 82 = .ok (.putfield 293, 3) := by decide +kernel
theorem dX8_readsLoad_85 : decode cX8_readsLoad 85 = .ok (.iconst 0, 1) := by decide +kernel
theorem dX8_readsLoad_86 : decode cX8_readsLoad 86 = .ok (.ireturn, 1) := by decide +kernel
theorem dX8_readsLoad_87 : decode cX8_readsLoad 87 = .ok (.iconst 1, 1) := by decide +kernel
theorem dX8_readsLoad_88 : decode cX8_readsLoad 88 = .ok (.ireturn, 1) := by decide +kernel
theorem dX8_readsRest_0 : decode cX8_readsRest 0 = .ok (.iload_n 1, 1) := by decide +kernel
theorem dX8_readsRest_1 : decode cX8_readsRest 1 = .ok (.iconst 3, 1) := by decide +kernel
theorem dX8_readsRest_2 : decode cX8_readsRest 2 = .ok (.if_icmp .ne 8, 3) := by decide +kernel
theorem dX8_readsRest_5 : decode cX8_readsRest 5 = .ok (.aload_n 0, 1) := by decide +kernel
theorem dX8_readsRest_6 : decode cX8_readsRest 6 = .ok (.invokevirtual 320, 3) := by decide +kernel
theorem dX8_readsRest_9 : decode cX8_readsRest 9 = .ok (.ireturn, 1) := by decide +kernel
theorem dX8_readsRest_10 : decode cX8_readsRest 10 = .ok (.aload_n 0, 1) := by decide +kernel
theorem dX8_readsRest_11 : decode cX8_readsRest 11 = .ok (.invokevirtual 324, 3) := by decide +kernel
theorem dX8_readsRest_14 : decode cX8_readsRest 14 = .ok (.ifCond .eq 23, 3) := by decide +kernel
theorem dX8_readsRest_17 : decode cX8_readsRest 17 = .ok (.iload_n 1, 1) := by decide +kernel
theorem dX8_readsRest_18 : decode cX8_readsRest 18 = .ok (.iconst 2, 1) := by decide +kernel
theorem dX8_readsRest_19 : decode cX8_readsRest 19 = .ok (.if_icmp .eq 14, 3) := by decide +kernel
theorem dX8_readsRest_22 : decode cX8_readsRest 22 = .ok (.aload_n 0, 1) := by decide +kernel
theorem dX8_readsRest_23 : decode cX8_readsRest 23 = .ok (.iconst 0, 1) := by decide +kernel
theorem dX8_readsRest_24 : decode cX8_readsRest 24 = .ok (.sipush 255, 3) := by decide +kernel
theorem dX8_readsRest_27 : decode cX8_readsRest 27 = .ok (.invokevirtual 311, 3) := by decide +kernel
theorem dX8_readsRest_30 : decode cX8_readsRest 30 = .ok (.ifCond .eq 7, 3) := by decide +kernel
theorem dX8_readsRest_33 : decode cX8_readsRest 33 = .ok (.iconst 1, 1) := by decide +kernel
theorem dX8_readsRest_34 : decode cX8_readsRest 34 = .ok (.goto 4, 3) := by decide +kernel
theorem dX8_readsRest_37 : decode cX8_readsRest 37 = .ok (.iconst 0, 1) := by decide +kernel
theorem dX8_readsRest_38 : decode cX8_readsRest 38 = .ok (.ireturn, 1) := by decide +kernel
theorem dX8_readsCommand_0 : decode cX8_readsCommand 0 = .ok (.aload_n 0, 1) := by decide +kernel
theorem dX8_readsCommand_1 : decode cX8_readsCommand 1 = .ok (.invokevirtual 327, 3) := by decide +kernel
theorem dX8_readsCommand_4 : decode cX8_readsCommand 4 = .ok (.istore_n 1, 1) := by decide +kernel
theorem dX8_readsCommand_5 : decode cX8_readsCommand 5 = .ok (.iload_n 1, 1) := by decide +kernel
theorem dX8_readsCommand_6 : decode cX8_readsCommand 6 = .ok (.ifCond .ne 5, 3) := by decide +kernel
theorem dX8_readsCommand_9 : decode cX8_readsCommand 9 = .ok (.iconst 0, 1) := by decide +kernel
theorem dX8_readsCommand_10 : decode cX8_readsCommand 10 = .ok (.ireturn, 1) := by decide +kernel
theorem dX8_readsCommand_11 : decode cX8_readsCommand 11 = .ok (.aload_n 0, 1) := by decide +kernel
theorem dX8_readsCommand_12 : decode cX8_readsCommand 12 = .ok (.dup, 1) := by decide +kernel
theorem dX8_readsCommand_13 : decode cX8_readsCommand 13 = .ok (.getfield 293, 3) := by decide +kernel
theorem dX8_readsCommand_16 : decode cX8_readsCommand 16 = .ok (.iload_n 1, 1) := by decide +kernel
theorem dX8_readsCommand_17 : decode cX8_readsCommand 17 = .ok (.iconst 1, 1) := by decide +kernel
theorem dX8_readsCommand_18 : decode cX8_readsCommand 18 = .ok (.if_icmp .ne 7, 3) := by decide +kernel
theorem dX8_readsCommand_21 : decode cX8_readsCommand 21 = .ok (.iconst 3, 1) := by decide +kernel
theorem dX8_readsCommand_22 : decode cX8_readsCommand 22 = .ok (.goto 4, 3) := by decide +kernel
theorem dX8_readsCommand_25 : decode cX8_readsCommand 25 = .ok (.iconst 4, 1) := by decide +kernel
theorem dX8_readsCommand_26 : decode cX8_readsCommand 26 = .ok (.iadd, 1) := by decide +kernel
theorem dX8_readsCommand_27 : decode cX8_readsCommand 27 = .ok (.putfield 293, 3) := by decide +kernel
theorem dX8_readsCommand_30 : decode cX8_readsCommand 30 = .ok (.aload_n 0, 1) := by decide +kernel
theorem dX8_readsCommand_31 : decode cX8_readsCommand 31 = .ok (.iload_n 1, 1) := by decide +kernel
theorem dX8_readsCommand_32 : decode cX8_readsCommand 32 = .ok (.invokevirtual 330, 3) := by decide +kernel
theorem dX8_readsCommand_35 : decode cX8_readsCommand 35 = .ok (.ifCond .eq 14, 3) := by decide +kernel
theorem dX8_readsCommand_38 : decode cX8_readsCommand 38 = .ok (.aload_n 0, 1) := by decide +kernel
theorem dX8_readsCommand_39 : decode cX8_readsCommand 39 = .ok (.invokevirtual 333, 3) := by decide +kernel
theorem dX8_readsCommand_42 : decode cX8_readsCommand 42 = .ok (.ifCond .eq 7, 3) := by decide +kernel
theorem dX8_readsCommand_45 : decode cX8_readsCommand 45 = .ok (.iload_n 1, 1) := by decide +kernel
theorem dX8_readsCommand_46 : decode cX8_readsCommand 46 = .ok (.goto 4, 3) := by decide +kernel
theorem dX8_readsCommand_49 : decode cX8_readsCommand 49 = .ok (.iconst 0, 1) := by decide +kernel
theorem dX8_readsCommand_50 : decode cX8_readsCommand 50 = .ok (.ireturn, 1) := by decide +kernel
theorem dX8_does_0 : decode cX8_does 0 = .ok (.iload_n 1, 1) := by decide +kernel
theorem dX8_does_1 : decode cX8_does 1 = .ok (.iconst 1, 1) := by decide +kernel
theorem dX8_does_2 : decode cX8_does 2 = .ok (.if_icmp .ne 22, 3) := by decide +kernel
theorem dX8_does_5 : decode cX8_does 5 = .ok (.aload_n 0, 1) := by decide +kernel
theorem dX8_does_6 : decode cX8_does 6 = .ok (.aload_n 0, 1) := by decide +kernel
theorem dX8_does_7 : decode cX8_does 7 = .ok (.getfield 302, 3) := by decide +kernel
theorem dX8_does_10 : decode cX8_does 10 = .ok (.invokevirtual 168, 3) := by decide +kernel
theorem dX8_does_13 : decode cX8_does 13 = .ok (.bipush (-3), 2) := by decide +kernel
theorem dX8_does_15 : decode cX8_does 15 = .ok (.if_icmp .eq 7, 3) := by decide +kernel
theorem dX8_does_18 : decode cX8_does 18 = .ok (.iconst 1, 1) := by decide +kernel
theorem dX8_does_19 : decode cX8_does 19 = .ok (.goto 4, 3) := by decide +kernel
theorem dX8_does_22 : decode cX8_does 22 = .ok (.iconst 0, 1) := by decide +kernel
theorem dX8_does_23 : decode cX8_does 23 = .ok (.ireturn, 1) := by decide +kernel
theorem dX8_does_24 : decode cX8_does 24 = .ok (.iload_n 1, 1) := by decide +kernel
theorem dX8_does_25 : decode cX8_does 25 = .ok (.iconst 2, 1) := by decide +kernel
theorem dX8_does_26 : decode cX8_does 26 = .ok (.if_icmp .ne 20, 3) := by decide +kernel
theorem dX8_does_29 : decode cX8_does 29 = .ok (.aload_n 0, 1) := by decide +kernel
theorem dX8_does_30 : decode cX8_does 30 = .ok (.invokevirtual 187, 3) := by decide +kernel
theorem dX8_does_33 : decode cX8_does 33 = .ok (.bipush (-9), 2) := by decide +kernel
theorem dX8_does_35 : decode cX8_does 35 = .ok (.if_icmp .eq 7, 3) := by decide +kernel
theorem dX8_does_38 : decode cX8_does 38 = .ok (.iconst 1, 1) := by decide +kernel
theorem dX8_does_39 : decode cX8_does 39 = .ok (.goto 31, 3) := by decide +kernel
theorem dX8_does_42 : decode cX8_does 42 = .ok (.iconst 0, 1) := by decide +kernel
theorem dX8_does_43 : decode cX8_does 43 = .ok (.goto 27, 3) := by decide +kernel
theorem dX8_does_46 : decode cX8_does 46 = .ok (.aload_n 0, 1) := by decide +kernel
theorem dX8_does_47 : decode cX8_does 47 = .ok (.aload_n 0, 1) := by decide +kernel
theorem dX8_does_48 : decode cX8_does 48 = .ok (.getfield 314, 3) := by decide +kernel
theorem dX8_does_51 : decode cX8_does 51 = .ok (.aload_n 0, 1) := by decide +kernel
theorem dX8_does_52 : decode cX8_does 52 = .ok (.getfield 317, 3) := by decide +kernel
theorem dX8_does_55 : decode cX8_does 55 = .ok (.aload_n 0, 1) := by decide +kernel
theorem dX8_does_56 : decode cX8_does 56 = .ok (.getfield 302, 3) := by decide +kernel
theorem dX8_does_59 : decode cX8_does 59 = .ok (.invokevirtual 196, 3) := by decide +kernel
theorem dX8_does_62 : decode cX8_does 62 = .ok (.ifCond .le 7, 3) := by decide +kernel
theorem dX8_does_65 : decode cX8_does 65 = .ok (.iconst 1, 1) := by decide +kernel
theorem dX8_does_66 : decode cX8_does 66 = .ok (.goto 4, 3) := by decide +kernel
theorem dX8_does_69 : decode cX8_does 69 = .ok (.iconst 0, 1) := by decide +kernel
theorem dX8_does_70 : decode cX8_does 70 = .ok (.ireturn, 1) := by decide +kernel
theorem dX8_run_0 : decode cX8_run 0 = .ok (.aload_n 0, 1) := by decide +kernel
theorem dX8_run_1 : decode cX8_run 1 = .ok (.iconst 0, 1) := by decide +kernel
theorem dX8_run_2 : decode cX8_run 2 = .ok (.putfield 293, 3) := by decide +kernel
theorem dX8_run_5 : decode cX8_run 5 = .ok (.aload_n 0, 1) := by decide +kernel
theorem dX8_run_6 : decode cX8_run 6 = .ok (.invokevirtual 299, 3) := by decide +kernel
theorem dX8_run_9 : decode cX8_run 9 = .ok (.aload_n 0, 1) := by decide +kernel
theorem dX8_run_10 : decode cX8_run 10 = .ok (.getfield 293, 3) := by decide +kernel
theorem dX8_run_13 : decode cX8_run 13 = .ok (.aload_n 0, 1) := by decide +kernel
theorem dX8_run_14 : decode cX8_run 14 = .ok (.getfield 290, 3) := by decide +kernel
theorem dX8_run_17 : decode cX8_run 17 = .ok (.if_icmp .ge 25, 3) := by decide +kernel
theorem dX8_run_20 : decode cX8_run 20 = .ok (.aload_n 0, 1) := by decide +kernel
theorem dX8_run_21 : decode cX8_run 21 = .ok (.invokevirtual 336, 3) := by decide +kernel
theorem dX8_run_24 : decode cX8_run 24 = .ok (.ifCond .ne 11, 3) := by decide +kernel
theorem dX8_run_27 : decode cX8_run 27 = .ok (.bipush (-10), 2) := by decide +kernel
theorem dX8_run_29 : decode cX8_run 29 = .ok (.aload_n 0, 1) := by decide +kernel
theorem dX8_run_30 : decode cX8_run 30 = .ok (.getfield 293, 3) := by decide +kernel
theorem dX8_run_33 : decode cX8_run 33 = .ok (.isub, 1) := by decide +kernel
theorem dX8_run_34 : decode cX8_run 34 = .ok (.ireturn, 1) := by decide +kernel
theorem dX8_run_35 : decode cX8_run 35 = .ok (.aload_n 0, 1) := by decide +kernel
theorem dX8_run_36 : decode cX8_run 36 = .ok (.invokevirtual 299, 3) := by decide +kernel
theorem dX8_run_39 : decode cX8_run 39 = .ok (.goto (-30), 3) := by decide +kernel
theorem dX8_run_42 : decode cX8_run 42 = .ok (.aload_n 0, 1) := by decide +kernel
theorem dX8_run_43 : decode cX8_run 43 = .ok (.iconst 0, 1) := by decide +kernel
theorem dX8_run_44 : decode cX8_run 44 = .ok (.putfield 293, 3) := by decide +kernel
theorem dX8_run_47 : decode cX8_run 47 = .ok (.aload_n 0, 1) := by decide +kernel
theorem dX8_run_48 : decode cX8_run 48 = .ok (.invokevirtual 299, 3) := by decide +kernel
theorem dX8_run_51 : decode cX8_run 51 = .ok (.iconst 0, 1) := by decide +kernel
theorem dX8_run_52 : decode cX8_run 52 = .ok (.istore_n 1, 1) := by decide +kernel
theorem dX8_run_53 : decode cX8_run 53 = .ok (.aload_n 0, 1) := by decide +kernel
theorem dX8_run_54 : decode cX8_run 54 = .ok (.getfield 293, 3) := by decide +kernel
theorem dX8_run_57 : decode cX8_run 57 = .ok (.aload_n 0, 1) := by decide +kernel
theorem dX8_run_58 : decode cX8_run 58 = .ok (.getfield 290, 3) := by decide +kernel
theorem dX8_run_61 : decode cX8_run 61 = .ok (.if_icmp .ge 29, 3) := by decide +kernel
theorem dX8_run_64 : decode cX8_run 64 = .ok (.iload_n 1, 1) := by decide +kernel
theorem dX8_run_65 : decode cX8_run 65 = .ok (.aload_n 0, 1) := by decide +kernel
theorem dX8_run_66 : decode cX8_run 66 = .ok (.aload_n 0, 1) := by decide +kernel
theorem dX8_run_67 : decode cX8_run 67 = .ok (.invokevirtual 336, 3) := by decide +kernel
theorem dX8_run_70 : decode cX8_run 70 = .ok (.invokevirtual 339, 3) := by decide +kernel
theorem dX8_run_73 : decode cX8_run 73 = .ok (.ifCond .eq 7, 3) := by decide +kernel
theorem dX8_run_76 : decode cX8_run 76 = .ok (.iconst 1, 1) := by decide +kernel
theorem dX8_run_77 : decode cX8_run 77 = .ok (.goto 4, 3) := by decide +kernel
theorem dX8_run_80 : decode cX8_run 80 = .ok (.iconst 0, 1) := by decide +kernel
theorem dX8_run_81 : decode cX8_run 81 = .ok (.iadd, 1) := by decide +kernel
theorem dX8_run_82 : decode cX8_run 82 = .ok (.istore_n 1, 1) := by decide +kernel
theorem dX8_run_83 : decode cX8_run 83 = .ok (.aload_n 0, 1) := by decide +kernel
theorem dX8_run_84 : decode cX8_run 84 = .ok (.invokevirtual 299, 3) := by decide +kernel
theorem dX8_run_87 : decode cX8_run 87 = .ok (.goto (-34), 3) := by decide +kernel
theorem dX8_run_90 : decode cX8_run 90 = .ok (.aload_n 0, 1) := by decide +kernel
theorem dX8_run_91 : decode cX8_run 91 = .ok (.iconst 0, 1) := by decide +kernel
theorem dX8_run_92 : decode cX8_run 92 = .ok (.putfield 290, 3) := by decide +kernel
theorem dX8_run_95 : decode cX8_run 95 = .ok (.iload_n 1, 1) := by decide +kernel
theorem dX8_run_96 : decode cX8_run 96 = .ok (.ireturn, 1) := by decide +kernel
