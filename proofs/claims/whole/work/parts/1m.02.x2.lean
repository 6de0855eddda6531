theorem dX4_init_0 : decode cX4_init 0 = .ok (.aload_n 0, 1) := by decide +kernel
theorem dX4_init_1 : decode cX4_init 1 = .ok (.invokespecial 3, 3) := by decide +kernel
theorem dX4_init_4 : decode cX4_init 4 = .ok (.aload_n 0, 1) := by decide +kernel
theorem dX4_init_5 : decode cX4_init 5 = .ok (.iload_n 1, 1) := by decide +kernel
theorem dX4_init_6 : decode cX4_init 6 = .ok (.bipush 64, 2) := by decide +kernel
theorem dX4_init_8 : decode cX4_init 8 = .ok (.invokestatic 9, 3) := by decide +kernel
theorem dX4_init_11 : decode cX4_init 11 = .ok (.newarray .int, 2) := by decide +kernel
theorem dX4_init_13 : decode cX4_init 13 = .ok (.putfield 15, 3) := by decide +kernel
theorem dX4_init_16 : decode cX4_init 16 = .ok (.return_, 1) := by decide +kernel
theorem dX4_at_0 : decode cX4_at 0 = .ok (.iload_n 1, 1) := by decide +kernel
theorem dX4_at_1 : decode cX4_at 1 = .ok (.ifCond .lt 21, 3) := by decide +kernel
theorem dX4_at_4 : decode cX4_at 4 = .ok (.iload_n 1, 1) := by decide +kernel
theorem dX4_at_5 : decode cX4_at 5 = .ok (.aload_n 0, 1) := by decide +kernel
theorem dX4_at_6 : decode cX4_at 6 = .ok (.getfield 15, 3) := by decide +kernel
theorem dX4_at_9 : decode cX4_at 9 = .ok (.arraylength, 1) := by decide +kernel
theorem dX4_at_10 : decode cX4_at 10 = .ok (.if_icmp .ge 12, 3) := by decide +kernel
theorem dX4_at_13 : decode cX4_at 13 = .ok (.aload_n 0, 1) := by decide +kernel
theorem dX4_at_14 : decode cX4_at 14 = .ok (.getfield 15, 3) := by decide +kernel
theorem dX4_at_17 : decode cX4_at 17 = .ok (.iload_n 1, 1) := by decide +kernel
theorem dX4_at_18 : decode cX4_at 18 = .ok (.iaload, 1) := by decide +kernel
theorem dX4_at_19 : decode cX4_at 19 = .ok (.goto 4, 3) := by decide +kernel
theorem dX4_at_22 : decode cX4_at 22 = .ok (.iconst 0, 1) := by decide +kernel
theorem dX4_at_23 : decode cX4_at 23 = .ok (.ireturn, 1) := by decide +kernel
theorem dX4_set_0 : decode cX4_set 0 = .ok (.iload_n 1, 1) := by decide +kernel
theorem dX4_set_1 : decode cX4_set 1 = .ok (.ifCond .lt 19, 3) := by decide +kernel
theorem dX4_set_4 : decode cX4_set 4 = .ok (.iload_n 1, 1) := by decide +kernel
theorem dX4_set_5 : decode cX4_set 5 = .ok (.aload_n 0, 1) := by decide +kernel
theorem dX4_set_6 : decode cX4_set 6 = .ok (.getfield 15, 3) := by decide +kernel
theorem dX4_set_9 : decode cX4_set 9 = .ok (.arraylength, 1) := by decide +kernel
theorem dX4_set_10 : decode cX4_set 10 = .ok (.if_icmp .ge 10, 3) := by decide +kernel
theorem dX4_set_13 : decode cX4_set 13 = .ok (.aload_n 0, 1) := by decide +kernel
theorem dX4_set_14 : decode cX4_set 14 = .ok (.getfield 15, 3) := by decide +kernel
theorem dX4_set_17 : decode cX4_set 17 = .ok (.iload_n 1, 1) := by decide +kernel
theorem dX4_set_18 : decode cX4_set 18 = .ok (.iload_n 2, 1) := by decide +kernel
theorem dX4_set_19 : decode cX4_set 19 = .ok (.iastore, 1) := by decide +kernel
theorem dX4_set_20 : decode cX4_set 20 = .ok (.return_, 1) := by decide +kernel
theorem dX4_sort_0 : decode cX4_sort 0 = .ok (.aload_n 0, 1) := by decide +kernel
theorem dX4_sort_1 : decode cX4_sort 1 = .ok (.getfield 15, 3) := by decide +kernel
theorem dX4_sort_4 : decode cX4_sort 4 = .ok (.iconst 0, 1) := by decide +kernel
theorem dX4_sort_5 : decode cX4_sort 5 = .ok (.iaload, 1) := by decide +kernel
theorem dX4_sort_6 : decode cX4_sort 6 = .ok (.ireturn, 1) := by decide +kernel
theorem dX4_entries_0 : decode cX4_entries 0 = .ok (.aload_n 0, 1) := by decide +kernel
theorem dX4_entries_1 : decode cX4_entries 1 = .ok (.getfield 15, 3) := by decide +kernel
theorem dX4_entries_4 : decode cX4_entries 4 = .ok (.iconst 1, 1) := by decide +kernel
theorem dX4_entries_5 : decode cX4_entries 5 = .ok (.iaload, 1) := by decide +kernel
theorem dX4_entries_6 : decode cX4_entries 6 = .ok (.ireturn, 1) := by decide +kernel
theorem dX4_link_0 : decode cX4_link 0 = .ok (.aload_n 0, 1) := by decide +kernel
theorem dX4_link_1 : decode cX4_link 1 = .ok (.getfield 15, 3) := by decide +kernel
theorem dX4_link_4 : decode cX4_link 4 = .ok (.iconst 2, 1) := by decide +kernel
theorem dX4_link_5 : decode cX4_link 5 = .ok (.iaload, 1) := by decide +kernel
theorem dX4_link_6 : decode cX4_link 6 = .ok (.ireturn, 1) := by decide +kernel
theorem dX4_setLink_0 : decode cX4_setLink 0 = .ok (.aload_n 0, 1) := by decide +kernel
theorem dX4_setLink_1 : decode cX4_setLink 1 = .ok (.getfield 15, 3) := by decide +kernel
theorem dX4_setLink_4 : decode cX4_setLink 4 = .ok (.iconst 2, 1) := by decide +kernel
theorem dX4_setLink_5 : decode cX4_setLink 5 = .ok (.iload_n 1, 1) := by decide +kernel
theorem dX4_setLink_6 : decode cX4_setLink 6 = .ok (.iastore, 1) := by decide +kernel
theorem dX4_setLink_7 : decode cX4_setLink 7 = .ok (.return_, 1) := by decide +kernel
theorem dX4_offset_0 : decode cX4_offset 0 = .ok (.iconst 3, 1) := by decide +kernel
theorem dX4_offset_1 : decode cX4_offset 1 = .ok (.istore_n 2, 1) := by decide +kernel
theorem dX4_offset_2 : decode cX4_offset 2 = .ok (.iconst 0, 1) := by decide +kernel
theorem dX4_offset_3 : decode cX4_offset 3 = .ok (.istore_n 3, 1) := by decide +kernel
theorem dX4_offset_4 : decode cX4_offset 4 = .ok (.iload_n 3, 1) := by decide +kernel
theorem dX4_offset_5 : decode cX4_offset 5 = .ok (.iload_n 1, 1) := by decide +kernel
theorem dX4_offset_6 : decode cX4_offset 6 = .ok (.if_icmp .ge 29, 3) := by decide +kernel
theorem dX4_offset_9 : decode cX4_offset 9 = .ok (.iload_n 2, 1) := by decide +kernel
theorem dX4_offset_10 : decode cX4_offset 10 = .ok (.aload_n 0, 1) := by decide +kernel
theorem dX4_offset_11 : decode cX4_offset 11 = .ok (.getfield 15, 3) := by decide +kernel
theorem dX4_offset_14 : decode cX4_offset 14 = .ok (.arraylength, 1) := by decide +kernel
theorem dX4_offset_15 : decode cX4_offset 15 = .ok (.if_icmp .ge 20, 3) := by decide +kernel
theorem dX4_offset_18 : decode cX4_offset 18 = .ok (.iload_n 2, 1) := by decide +kernel
theorem dX4_offset_19 : decode cX4_offset 19 = .ok (.aload_n 0, 1) := by decide +kernel
theorem dX4_offset_20 : decode cX4_offset 20 = .ok (.getfield 15, 3) := by decide +kernel
theorem dX4_offset_23 : decode cX4_offset 23 = .ok (.iload_n 2, 1) := by decide +kernel
theorem dX4_offset_24 : decode cX4_offset 24 = .ok (.iaload, 1) := by decide +kernel
theorem dX4_offset_25 : decode cX4_offset 25 = .ok (.iconst 2, 1) := by decide +kernel
theorem dX4_offset_26 : decode cX4_offset 26 = .ok (.iadd, 1) := by decide +kernel
theorem dX4_offset_27 : decode cX4_offset 27 = .ok (.iadd, 1) := by decide +kernel
theorem dX4_offset_28 : decode cX4_offset 28 = .ok (.istore_n 2, 1) := by decide +kernel
theorem dX4_offset_29 : decode cX4_offset 29 = .ok (.iinc 3 1, 3) := by decide +kernel
theorem dX4_offset_32 : decode cX4_offset 32 = .ok (.goto (-28), 3) := by decide +kernel
theorem dX4_offset_35 : decode cX4_offset 35 = .ok (.iload_n 2, 1) := by decide +kernel
theorem dX4_offset_36 : decode cX4_offset 36 = .ok (.ireturn, 1) := by decide +kernel
theorem dX4_used_0 : decode cX4_used 0 = .ok (.aload_n 0, 1) := by decide +kernel
theorem dX4_used_1 : decode cX4_used 1 = .ok (.invokevirtual 21, 3) := by decide +kernel
theorem dX4_used_4 : decode cX4_used 4 = .ok (.ifCond .ne 7, 3) := by decide +kernel
theorem dX4_used_7 : decode cX4_used 7 = .ok (.iconst 0, 1) := by decide +kernel
theorem dX4_used_8 : decode cX4_used 8 = .ok (.goto 11, 3) := by decide +kernel
theorem dX4_used_11 : decode cX4_used 11 = .ok (.aload_n 0, 1) := by decide +kernel
theorem dX4_used_12 : decode cX4_used 12 = .ok (.aload_n 0, 1) := by decide +kernel
theorem dX4_used_13 : decode cX4_used 13 = .ok (.invokevirtual 25, 3) := by decide +kernel
theorem dX4_used_16 : decode cX4_used 16 = .ok (.invokevirtual 28, 3) := by decide +kernel
theorem dX4_used_19 : decode cX4_used 19 = .ok (.ireturn, 1) := by decide +kernel
theorem dX4_letters_0 : decode cX4_letters 0 = .ok (.aload_n 0, 1) := by decide +kernel
theorem dX4_letters_1 : decode cX4_letters 1 = .ok (.aload_n 0, 1) := by decide +kernel
theorem dX4_letters_2 : decode cX4_letters 2 = .ok (.iload_n 1, 1) := by decide +kernel
theorem dX4_letters_3 : decode cX4_letters 3 = .ok (.invokevirtual 28, 3) := by decide +kernel
theorem dX4_letters_6 : decode cX4_letters 6 = .ok (.invokevirtual 32, 3) := by decide +kernel
theorem dX4_letters_9 : decode cX4_letters 9 = .ok (.ireturn, 1) := by decide +kernel
theorem dX4_letterOf_0 : decode cX4_letterOf 0 = .ok (.aload_n 0, 1) := by decide +kernel
theorem dX4_letterOf_1 : decode cX4_letterOf 1 = .ok (.iload_n 1, 1) := by decide +kernel
theorem dX4_letterOf_2 : decode cX4_letterOf 2 = .ok (.invokevirtual 28, 3) := by decide +kernel
theorem dX4_letterOf_5 : decode cX4_letterOf 5 = .ok (.istore_n 3, 1) := by decide +kernel
theorem dX4_letterOf_6 : decode cX4_letterOf 6 = .ok (.iload_n 2, 1) := by decide +kernel
theorem dX4_letterOf_7 : decode cX4_letterOf 7 = .ok (.ifCond .lt 24, 3) := by decide +kernel
theorem dX4_letterOf_10 : decode cX4_letterOf 10 = .ok (.iload_n 2, 1) := by decide +kernel
theorem dX4_letterOf_11 : decode cX4_letterOf 11 = .ok (.aload_n 0, 1) := by decide +kernel
theorem dX4_letterOf_12 : decode cX4_letterOf 12 = .ok (.iload_n 3, 1) := by decide +kernel
theorem dX4_letterOf_13 : decode cX4_letterOf 13 = .ok (.invokevirtual 32, 3) := by decide +kernel
theorem dX4_letterOf_16 : decode cX4_letterOf 16 = .ok (.if_icmp .ge 15, 3) := by decide +kernel
theorem dX4_letterOf_19 : decode cX4_letterOf 19 = .ok (.aload_n 0, 1) := by decide +kernel
theorem dX4_letterOf_20 : decode cX4_letterOf 20 = .ok (.iload_n 3, 1) := by decide +kernel
theorem dX4_letterOf_21 : decode cX4_letterOf 21 = .ok (.iconst 1, 1) := by decide +kernel
theorem dX4_letterOf_22 : decode cX4_letterOf 22 = .ok (.iadd, 1) := by decide +kernel
theorem dX4_letterOf_23 : decode cX4_letterOf 23 = .ok (.iload_n 2, 1) := by decide +kernel
theorem dX4_letterOf_24 : decode cX4_letterOf 24 = .ok (.iadd, 1) := by decide +kernel
theorem dX4_letterOf_25 : decode cX4_letterOf 25 = .ok (.invokevirtual 32, 3) := by decide +kernel
theorem dX4_letterOf_28 : decode cX4_letterOf 28 = .ok (.goto 4, 3) := by decide +kernel
theorem dX4_letterOf_31 : decode cX4_letterOf 31 = .ok (.iconst 0, 1) := by decide +kernel
theorem dX4_letterOf_32 : decode cX4_letterOf 32 = .ok (.ireturn, 1) := by decide +kernel
theorem dX4_tail_0 : decode cX4_tail 0 = .ok (.aload_n 0, 1) := by decide +kernel
theorem dX4_tail_1 : decode cX4_tail 1 = .ok (.aload_n 0, 1) := by decide +kernel
theorem dX4_tail_2 : decode cX4_tail 2 = .ok (.iload_n 1, 1) := by decide +kernel
theorem dX4_tail_3 : decode cX4_tail 3 = .ok (.iconst 1, 1) := by decide +kernel
theorem dX4_tail_4 : decode cX4_tail 4 = .ok (.iadd, 1) := by decide +kernel
theorem dX4_tail_5 : decode cX4_tail 5 = .ok (.invokevirtual 28, 3) := by decide +kernel
theorem dX4_tail_8 : decode cX4_tail 8 = .ok (.iconst 1, 1) := by decide +kernel
theorem dX4_tail_9 : decode cX4_tail 9 = .ok (.isub, 1) := by decide +kernel
theorem dX4_tail_10 : decode cX4_tail 10 = .ok (.invokevirtual 32, 3) := by decide +kernel
theorem dX4_tail_13 : decode cX4_tail 13 = .ok (.ireturn, 1) := by decide +kernel
theorem dX4_setTail_0 : decode cX4_setTail 0 = .ok (.aload_n 0, 1) := by decide +kernel
theorem dX4_setTail_1 : decode cX4_setTail 1 = .ok (.aload_n 0, 1) := by decide +kernel
theorem dX4_setTail_2 : decode cX4_setTail 2 = .ok (.iload_n 1, 1) := by decide +kernel
theorem dX4_setTail_3 : decode cX4_setTail 3 = .ok (.iconst 1, 1) := by decide +kernel
theorem dX4_setTail_4 : decode cX4_setTail 4 = .ok (.iadd, 1) := by decide +kernel
theorem dX4_setTail_5 : decode cX4_setTail 5 = .ok (.invokevirtual 28, 3) := by decide +kernel
theorem dX4_setTail_8 : decode cX4_setTail 8 = .ok (.iconst 1, 1) := by decide +kernel
theorem dX4_setTail_9 : decode cX4_setTail 9 = .ok (.isub, 1) := by decide +kernel
theorem dX4_setTail_10 : decode cX4_setTail 10 = .ok (.iload_n 2, 1) := by decide +kernel
theorem dX4_setTail_11 : decode cX4_setTail 11 = .ok (.invokevirtual 35, 3) := by decide +kernel
theorem dX4_setTail_14 : decode cX4_setTail 14 = .ok (.return_, 1) := by decide +kernel
theorem dX4_child_0 : decode cX4_child 0 = .ok (.iload_n 1, 1) := by decide +kernel
theorem dX4_child_1 : decode cX4_child 1 = .ok (.ifCond .le 17, 3) := by decide +kernel
theorem dX4_child_4 : decode cX4_child 4 = .ok (.aload_n 0, 1) := by decide +kernel
theorem dX4_child_5 : decode cX4_child 5 = .ok (.aload_n 0, 1) := by decide +kernel
theorem dX4_child_6 : decode cX4_child 6 = .ok (.iload_n 1, 1) := by decide +kernel
theorem dX4_child_7 : decode cX4_child 7 = .ok (.invokevirtual 28, 3) := by decide +kernel
theorem dX4_child_10 : decode cX4_child 10 = .ok (.iconst 1, 1) := by decide +kernel
theorem dX4_child_11 : decode cX4_child 11 = .ok (.isub, 1) := by decide +kernel
theorem dX4_child_12 : decode cX4_child 12 = .ok (.invokevirtual 32, 3) := by decide +kernel
theorem dX4_child_15 : decode cX4_child 15 = .ok (.goto 7, 3) := by decide +kernel
theorem dX4_child_18 : decode cX4_child 18 = .ok (.aload_n 0, 1) := by decide +kernel
theorem dX4_child_19 : decode cX4_child 19 = .ok (.invokevirtual 39, 3) := by decide +kernel
theorem dX4_child_22 : decode cX4_child 22 = .ok (.ireturn, 1) := by decide +kernel
theorem dX4_readKey_0 : decode cX4_readKey 0 = .ok (.aload_n 0, 1) := by decide +kernel
theorem dX4_readKey_1 : decode cX4_readKey 1 = .ok (.iload_n 1, 1) := by decide +kernel
theorem dX4_readKey_2 : decode cX4_readKey 2 = .ok (.invokevirtual 28, 3) := by decide +kernel
theorem dX4_readKey_5 : decode cX4_readKey 5 = .ok (.istore_n 3, 1) := by decide +kernel
theorem dX4_readKey_6 : decode cX4_readKey 6 = .ok (.aload_n 0, 1) := by decide +kernel
theorem dX4_readKey_7 : decode cX4_readKey 7 = .ok (.iload_n 3, 1) := by decide +kernel
theorem dX4_readKey_8 : decode cX4_readKey 8 = .ok (.invokevirtual 32, 3) := by decide +kernel
theorem dX4_readKey_11 : decode cX4_readKey 11 = .ok (.bipush 8, 2) := by decide +kernel
theorem dX4_readKey_13 : decode cX4_readKey 13 = .ok (.invokestatic 42, 3) := by decide +kernel
theorem dX4_readKey_16 : decode cX4_readKey 16 = .ok (.istore 4, 2) := by decide +kernel
theorem dX4_readKey_18 : decode cX4_readKey 18 = .ok (.aload_n 2, 1) := by decide +kernel
theorem dX4_readKey_19 : decode cX4_readKey 19 = .ok (.invokevirtual 45, 3) := by decide +kernel
theorem dX4_readKey_22 : decode cX4_readKey 22 = .ok (.iconst 1, 1) := by decide +kernel
theorem dX4_readKey_23 : decode cX4_readKey 23 = .ok (.istore 5, 2) := by decide +kernel
theorem dX4_readKey_25 : decode cX4_readKey 25 = .ok (.iload 5, 2) := by decide +kernel
theorem dX4_readKey_27 : decode cX4_readKey 27 = .ok (.iload 4, 2) := by decide +kernel
theorem dX4_readKey_29 : decode cX4_readKey 29 = .ok (.if_icmp .gt 21, 3) := by decide +kernel
theorem dX4_readKey_32 : decode cX4_readKey 32 = .ok (.aload_n 2, 1) := by decide +kernel
theorem dX4_readKey_33 : decode cX4_readKey 33 = .ok (.aload_n 0, 1) := by decide +kernel
theorem dX4_readKey_34 : decode cX4_readKey 34 = .ok (.iload_n 3, 1) := by decide +kernel
theorem dX4_readKey_35 : decode cX4_readKey 35 = .ok (.iload 5, 2) := by decide +kernel
theorem dX4_readKey_37 : decode cX4_readKey 37 = .ok (.iadd, 1) := by decide +kernel
theorem dX4_readKey_38 : decode cX4_readKey 38 = .ok (.invokevirtual 32, 3) := by decide +kernel
theorem dX4_readKey_41 : decode cX4_readKey 41 = .ok (.invokevirtual 50, 3) := by decide +kernel
theorem dX4_readKey_44 : decode cX4_readKey 44 = .ok (.iinc 5 1, 3) := by decide +kernel
theorem dX4_readKey_47 : decode cX4_readKey 47 = .ok (.goto (-22), 3) := by decide +kernel
theorem dX4_readKey_50 : decode cX4_readKey 50 = .ok (.return_, 1) := by decide +kernel
theorem dX4_compare_0 : decode cX4_compare 0 = .ok (.aload_n 0, 1) := by decide +kernel
theorem dX4_compare_1 : decode cX4_compare 1 = .ok (.iload_n 1, 1) := by decide +kernel
theorem dX4_compare_2 : decode cX4_compare 2 = .ok (.invokevirtual 28, 3) := by decide +kernel
theorem dX4_compare_5 : decode cX4_compare 5 = .ok (.istore_n 3, 1) := by decide +kernel
theorem dX4_compare_6 : decode cX4_compare 6 = .ok (.aload_n 0, 1) := by decide +kernel
theorem dX4_compare_7 : decode cX4_compare 7 = .ok (.iload_n 3, 1) := by decide +kernel
theorem dX4_compare_8 : decode cX4_compare 8 = .ok (.invokevirtual 32, 3) := by decide +kernel
theorem dX4_compare_11 : decode cX4_compare 11 = .ok (.istore 4, 2) := by decide +kernel
theorem dX4_compare_13 : decode cX4_compare 13 = .ok (.iconst 0, 1) := by decide +kernel
theorem dX4_compare_14 : decode cX4_compare 14 = .ok (.istore 5, 2) := by decide +kernel
theorem dX4_compare_16 : decode cX4_compare 16 = .ok (.iload 5, 2) := by decide +kernel
theorem dX4_compare_18 : decode cX4_compare 18 = .ok (.bipush 8, 2) := by decide +kernel
theorem dX4_compare_20 : decode cX4_compare 20 = .ok (.if_icmp .ge 60, 3) := by decide +kernel
theorem dX4_compare_23 : decode cX4_compare 23 = .ok (.iload 5, 2) := by decide +kernel
theorem dX4_compare_25 : decode cX4_compare 25 = .ok (.iload 4, 2) := by decide +kernel
theorem dX4_compare_27 : decode cX4_compare 27 = .ok (.if_icmp .ge 16, 3) := by decide +kernel
theorem dX4_compare_30 : decode cX4_compare 30 = .ok (.aload_n 0, 1) := by decide +kernel
theorem dX4_compare_31 : decode cX4_compare 31 = .ok (.iload_n 3, 1) := by decide +kernel
theorem dX4_compare_32 : decode cX4_compare 32 = .ok (.iconst 1, 1) := by decide +kernel
theorem dX4_compare_33 : decode cX4_compare 33 = .ok (.iadd, 1) := by decide +kernel
theorem dX4_compare_34 : decode cX4_compare 34 = .ok (.iload 5, 2) := by decide +kernel
theorem dX4_compare_36 : decode cX4_compare 36 = .ok (.iadd, 1) := by decide +kernel
theorem dX4_compare_37 : decode cX4_compare 37 = .ok (.invokevirtual 32, 3) := by decide +kernel
theorem dX4_compare_40 : decode cX4_compare 40 = .ok (.goto 4, 3) := by decide +kernel
theorem dX4_compare_43 : decode cX4_compare 43 = .ok (.iconst 0, 1) := by decide +kernel
theorem dX4_compare_44 : decode cX4_compare 44 = .ok (.istore 6, 2) := by decide +kernel
theorem dX4_compare_46 : decode cX4_compare 46 = .ok (.iload 6, 2) := by decide +kernel
theorem dX4_compare_48 : decode cX4_compare 48 = .ok (.aload_n 2, 1) := by decide +kernel
theorem dX4_compare_49 : decode cX4_compare 49 = .ok (.iload 5, 2) := by decide +kernel
theorem dX4_compare_51 : decode cX4_compare 51 = .ok (.invokevirtual 54, 3) := by decide +kernel
theorem dX4_compare_54 : decode cX4_compare 54 = .ok (.if_icmp .eq 20, 3) := by decide +kernel
theorem dX4_compare_57 : decode cX4_compare 57 = .ok (.iload 6, 2) := by decide +kernel
theorem dX4_compare_59 : decode cX4_compare 59 = .ok (.aload_n 2, 1) := by decide +kernel
theorem dX4_compare_60 : decode cX4_compare 60 = .ok (.iload 5, 2) := by decide +kernel
theorem dX4_compare_62 : decode cX4_compare 62 = .ok (.invokevirtual 54, 3) := by decide +kernel
theorem dX4_compare_65 : decode cX4_compare 65 = .ok (.if_icmp .ge 7, 3) := by decide +kernel
theorem dX4_compare_68 : decode cX4_compare 68 = .ok (.iconst (-1), 1) := by decide +kernel
theorem dX4_compare_69 : decode cX4_compare 69 = .ok (.goto 4, 3) := by decide +kernel
theorem dX4_compare_72 : decode cX4_compare 72 = .ok (.iconst 1, 1) := by decide +kernel
theorem dX4_compare_73 : decode cX4_compare 73 = .ok (.ireturn, 1) := by decide +kernel
theorem dX4_compare_74 : decode cX4_compare 74 = .ok (.iinc 5 1, 3) := by decide +kernel
theorem dX4_compare_77 : decode cX4_compare 77 = .ok (.goto (-61), 3) := by decide +kernel
theorem dX4_compare_80 : decode cX4_compare 80 = .ok (.iconst 0, 1) := by decide +kernel
theorem dX4_compare_81 : decode cX4_compare 81 = .ok (.ireturn, 1) := by decide +kernel
theorem dX4_isEntry_0 : decode cX4_isEntry 0 = .ok (.iload_n 1, 1) := by decide +kernel
theorem dX4_isEntry_1 : decode cX4_isEntry 1 = .ok (.aload_n 0, 1) := by decide +kernel
theorem dX4_isEntry_2 : decode cX4_isEntry 2 = .ok (.invokevirtual 25, 3) := by decide +kernel
theorem dX4_isEntry_5 : decode cX4_isEntry 5 = .ok (.if_icmp .ge 16, 3) := by decide +kernel
theorem dX4_isEntry_8 : decode cX4_isEntry 8 = .ok (.aload_n 0, 1) := by decide +kernel
theorem dX4_isEntry_9 : decode cX4_isEntry 9 = .ok (.iload_n 1, 1) := by decide +kernel
theorem dX4_isEntry_10 : decode cX4_isEntry 10 = .ok (.aload_n 2, 1) := by decide +kernel
theorem dX4_isEntry_11 : decode cX4_isEntry 11 = .ok (.invokevirtual 55, 3) := by decide +kernel
theorem dX4_isEntry_14 : decode cX4_isEntry 14 = .ok (.ifCond .ne 7, 3) := by decide +kernel
theorem dX4_isEntry_17 : decode cX4_isEntry 17 = .ok (.iconst 1, 1) := by decide +kernel
theorem dX4_isEntry_18 : decode cX4_isEntry 18 = .ok (.goto 4, 3) := by decide +kernel
theorem dX4_isEntry_21 : decode cX4_isEntry 21 = .ok (.iconst 0, 1) := by decide +kernel
theorem dX4_isEntry_22 : decode cX4_isEntry 22 = .ok (.ireturn, 1) := by decide +kernel
theorem dX4_entriesBelow_0 : decode cX4_entriesBelow 0 = .ok (.iconst 0, 1) := by decide +kernel
theorem dX4_entriesBelow_1 : decode cX4_entriesBelow 1 = .ok (.istore_n 3, 1) := by decide +kernel
theorem dX4_entriesBelow_2 : decode cX4_entriesBelow 2 = .ok (.iload_n 3, 1) := by decide +kernel
theorem dX4_entriesBelow_3 : decode cX4_entriesBelow 3 = .ok (.aload_n 0, 1) := by decide +kernel
theorem dX4_entriesBelow_4 : decode cX4_entriesBelow 4 = .ok (.invokevirtual 25, 3) := by decide +kernel
theorem dX4_entriesBelow_7 : decode cX4_entriesBelow 7 = .ok (.if_icmp .ge 27, 3) := by decide +kernel
theorem dX4_entriesBelow_10 : decode cX4_entriesBelow 10 = .ok (.aload_n 0, 1) := by decide +kernel
theorem dX4_entriesBelow_11 : decode cX4_entriesBelow 11 = .ok (.iload_n 3, 1) := by decide +kernel
theorem dX4_entriesBelow_12 : decode cX4_entriesBelow 12 = .ok (.aload_n 1, 1) := by decide +kernel
theorem dX4_entriesBelow_13 : decode cX4_entriesBelow 13 = .ok (.invokevirtual 55, 3) := by decide +kernel
theorem dX4_entriesBelow_16 : decode cX4_entriesBelow 16 = .ok (.iload_n 2, 1) := by decide +kernel
theorem dX4_entriesBelow_17 : decode cX4_entriesBelow 17 = .ok (.ifCond .eq 7, 3) := by decide +kernel
theorem dX4_entriesBelow_20 : decode cX4_entriesBelow 20 = .ok (.iconst 1, 1) := by decide +kernel
theorem dX4_entriesBelow_21 : decode cX4_entriesBelow 21 = .ok (.goto 4, 3) := by decide +kernel
theorem dX4_entriesBelow_24 : decode cX4_entriesBelow 24 = .ok (.iconst 0, 1) := by decide +kernel
theorem dX4_entriesBelow_25 : decode cX4_entriesBelow 25 = .ok (.if_icmp .ge 9, 3) := by decide +kernel
theorem dX4_entriesBelow_28 : decode cX4_entriesBelow 28 = .ok (.iinc 3 1, 3) := by decide +kernel
theorem dX4_entriesBelow_31 : decode cX4_entriesBelow 31 = .ok (.goto (-29), 3) := by decide +kernel
theorem dX4_entriesBelow_34 : decode cX4_entriesBelow 34 = .ok (.iload_n 3, 1) := by decide +kernel
theorem dX4_entriesBelow_35 : decode cX4_entriesBelow 35 = .ok (.ireturn, 1) := by decide +kernel
theorem dX4_entriesThatBegin_0 : decode cX4_entriesThatBegin 0 = .ok (.iconst 0, 1) := by decide +kernel
theorem dX4_entriesThatBegin_1 : decode cX4_entriesThatBegin 1 = .ok (.istore_n 2, 1) := by decide +kernel
theorem dX4_entriesThatBegin_2 : decode cX4_entriesThatBegin 2 = .ok (.iconst 0, 1) := by decide +kernel
theorem dX4_entriesThatBegin_3 : decode cX4_entriesThatBegin 3 = .ok (.istore_n 3, 1) := by decide +kernel
theorem dX4_entriesThatBegin_4 : decode cX4_entriesThatBegin 4 = .ok (.iload_n 3, 1) := by decide +kernel
theorem dX4_entriesThatBegin_5 : decode cX4_entriesThatBegin 5 = .ok (.aload_n 0, 1) := by decide +kernel
theorem dX4_entriesThatBegin_6 : decode cX4_entriesThatBegin 6 = .ok (.invokevirtual 25, 3) := by decide +kernel
theorem dX4_entriesThatBegin_9 : decode cX4_entriesThatBegin 9 = .ok (.if_icmp .ge 55, 3) := by decide +kernel
theorem dX4_entriesThatBegin_12 : decode cX4_entriesThatBegin 12 = .ok (.iconst 0, 1) := by decide +kernel
theorem dX4_entriesThatBegin_13 : decode cX4_entriesThatBegin 13 = .ok (.istore 4, 2) := by decide +kernel
theorem dX4_entriesThatBegin_15 : decode cX4_entriesThatBegin 15 = .ok (.iload 4, 2) := by decide +kernel
theorem dX4_entriesThatBegin_17 : decode cX4_entriesThatBegin 17 = .ok (.aload_n 1, 1) := by decide +kernel
theorem dX4_entriesThatBegin_18 : decode cX4_entriesThatBegin 18 = .ok (.getfield 59, 3) := by decide +kernel
theorem dX4_entriesThatBegin_21 : decode cX4_entriesThatBegin 21 = .ok (.if_icmp .ge 25, 3) := by decide +kernel
theorem dX4_entriesThatBegin_24 : decode cX4_entriesThatBegin 24 = .ok (.aload_n 0, 1) := by decide +kernel
theorem dX4_entriesThatBegin_25 : decode cX4_entriesThatBegin 25 = .ok (.iload_n 3, 1) := by decide +kernel
theorem dX4_entriesThatBegin_26 : decode cX4_entriesThatBegin 26 = .ok (.iload 4, 2) := by decide +kernel
theorem dX4_entriesThatBegin_28 : decode cX4_entriesThatBegin 28 = .ok (.invokevirtual 63, 3) := by decide +kernel
theorem dX4_entriesThatBegin_31 : decode cX4_entriesThatBegin 31 = .ok (.aload_n 1, 1) := by decide +kernel
theorem dX4_entriesThatBegin_32 : decode cX4_entriesThatBegin 32 = .ok (.iload 4, 2) := by decide +kernel
theorem dX4_entriesThatBegin_34 : decode cX4_entriesThatBegin 34 = .ok (.invokevirtual 54, 3) := by decide +kernel
theorem dX4_entriesThatBegin_37 : decode cX4_entriesThatBegin 37 = .ok (.if_icmp .ne 9, 3) := by decide +kernel
theorem dX4_entriesThatBegin_40 : decode cX4_entriesThatBegin 40 = .ok (.iinc 4 1, 3) := by decide +kernel
theorem dX4_entriesThatBegin_43 : decode cX4_entriesThatBegin 43 = .ok (.goto (-28), 3) := by decide +kernel
theorem dX4_entriesThatBegin_46 : decode cX4_entriesThatBegin 46 = .ok (.iload 4, 2) := by decide +kernel
theorem dX4_entriesThatBegin_48 : decode cX4_entriesThatBegin 48 = .ok (.aload_n 1, 1) := by decide +kernel
theorem dX4_entriesThatBegin_49 : decode cX4_entriesThatBegin 49 = .ok (.getfield 59, 3) := by decide +kernel
theorem dX4_entriesThatBegin_52 : decode cX4_entriesThatBegin 52 = .ok (.if_icmp .ne 6, 3) := by decide +kernel
theorem dX4_entriesThatBegin_55 : decode cX4_entriesThatBegin 55 = .ok (.iinc 2 1, 3) := by decide +kernel
theorem dX4_entriesThatBegin_58 : decode cX4_entriesThatBegin 58 = .ok (.iinc 3 1, 3) := by decide +kernel
theorem dX4_entriesThatBegin_61 : decode cX4_entriesThatBegin 61 = .ok (.goto (-57), 3) := by decide +kernel
theorem dX4_entriesThatBegin_64 : decode cX4_entriesThatBegin 64 = .ok (.iload_n 2, 1) := by decide +kernel
theorem dX4_entriesThatBegin_65 : decode cX4_entriesThatBegin 65 = .ok (.ireturn, 1) := by decide +kernel
theorem dX4_release_0 : decode cX4_release 0 = .ok (.aload_n 0, 1) := by decide +kernel
theorem dX4_release_1 : decode cX4_release 1 = .ok (.getfield 15, 3) := by decide +kernel
theorem dX4_release_4 : decode cX4_release 4 = .ok (.iconst 0, 1) := by decide +kernel
theorem dX4_release_5 : decode cX4_release 5 = .ok (.invokestatic 66, 3) := by decide +kernel
theorem dX4_release_8 : decode cX4_release 8 = .ok (.return_, 1) := by decide +kernel
theorem dX4_begin_0 : decode cX4_begin 0 = .ok (.aload_n 0, 1) := by decide +kernel
theorem dX4_begin_1 : decode cX4_begin 1 = .ok (.getfield 15, 3) := by decide +kernel
theorem dX4_begin_4 : decode cX4_begin 4 = .ok (.iconst 0, 1) := by decide +kernel
theorem dX4_begin_5 : decode cX4_begin 5 = .ok (.invokestatic 66, 3) := by decide +kernel
theorem dX4_begin_8 : decode cX4_begin 8 = .ok (.aload_n 0, 1) := by decide +kernel
theorem dX4_begin_9 : decode cX4_begin 9 = .ok (.getfield 15, 3) := by decide +kernel
theorem dX4_begin_12 : decode cX4_begin 12 = .ok (.iconst 0, 1) := by decide +kernel
theorem dX4_begin_13 : decode cX4_begin 13 = .ok (.iload_n 1, 1) := by decide +kernel
theorem dX4_begin_14 : decode cX4_begin 14 = .ok (.iastore, 1) := by decide +kernel
theorem dX4_begin_15 : decode cX4_begin 15 = .ok (.aload_n 0, 1) := by decide +kernel
theorem dX4_begin_16 : decode cX4_begin 16 = .ok (.getfield 15, 3) := by decide +kernel
theorem dX4_begin_19 : decode cX4_begin 19 = .ok (.iconst 2, 1) := by decide +kernel
theorem dX4_begin_20 : decode cX4_begin 20 = .ok (.iload_n 2, 1) := by decide +kernel
theorem dX4_begin_21 : decode cX4_begin 21 = .ok (.iastore, 1) := by decide +kernel
theorem dX4_begin_22 : decode cX4_begin 22 = .ok (.return_, 1) := by decide +kernel
theorem dX4_copyFrom_0 : decode cX4_copyFrom 0 = .ok (.iconst 0, 1) := by decide +kernel
theorem dX4_copyFrom_1 : decode cX4_copyFrom 1 = .ok (.istore_n 2, 1) := by decide +kernel
theorem dX4_copyFrom_2 : decode cX4_copyFrom 2 = .ok (.iload_n 2, 1) := by decide +kernel
theorem dX4_copyFrom_3 : decode cX4_copyFrom 3 = .ok (.aload_n 0, 1) := by decide +kernel
theorem dX4_copyFrom_4 : decode cX4_copyFrom 4 = .ok (.getfield 15, 3) := by decide +kernel
theorem dX4_copyFrom_7 : decode cX4_copyFrom 7 = .ok (.arraylength, 1) := by decide +kernel
theorem dX4_copyFrom_8 : decode cX4_copyFrom 8 = .ok (.if_icmp .ge 20, 3) := by decide +kernel
theorem dX4_copyFrom_11 : decode cX4_copyFrom 11 = .ok (.aload_n 0, 1) := by decide +kernel
theorem dX4_copyFrom_12 : decode cX4_copyFrom 12 = .ok (.getfield 15, 3) := by decide +kernel
theorem dX4_copyFrom_15 : decode cX4_copyFrom 15 = .ok (.iload_n 2, 1) := by decide +kernel
theorem dX4_copyFrom_16 : decode cX4_copyFrom 16 = .ok (.aload_n 1, 1) := by decide +kernel
theorem dX4_copyFrom_17 : decode cX4_copyFrom 17 = .ok (.iload_n 2, 1) := by decide +kernel
theorem dX4_copyFrom_18 : decode cX4_copyFrom 18 = .ok (.invokevirtual 32, 3) := by decide +kernel
theorem dX4_copyFrom_21 : decode cX4_copyFrom 21 = .ok (.iastore, 1) := by decide +kernel
theorem dX4_copyFrom_22 : decode cX4_copyFrom 22 = .ok (.iinc 2 1, 3) := by decide +kernel
theorem dX4_copyFrom_25 : decode cX4_copyFrom 25 = .ok (.goto (-23), 3) := by decide +kernel
theorem dX4_copyFrom_28 : decode cX4_copyFrom 28 = .ok (.return_, 1) := by decide +kernel
theorem dX4_append_0 : decode cX4_append 0 = .ok (.aload_n 0, 1) := by decide +kernel
theorem dX4_append_1 : decode cX4_append 1 = .ok (.aload_n 0, 1) := by decide +kernel
theorem dX4_append_2 : decode cX4_append 2 = .ok (.invokevirtual 25, 3) := by decide +kernel
theorem dX4_append_5 : decode cX4_append 5 = .ok (.invokevirtual 28, 3) := by decide +kernel
theorem dX4_append_8 : decode cX4_append 8 = .ok (.istore 4, 2) := by decide +kernel
theorem dX4_append_10 : decode cX4_append 10 = .ok (.aload_n 1, 1) := by decide +kernel
theorem dX4_append_11 : decode cX4_append 11 = .ok (.iload_n 2, 1) := by decide +kernel
theorem dX4_append_12 : decode cX4_append 12 = .ok (.invokevirtual 28, 3) := by decide +kernel
theorem dX4_append_15 : decode cX4_append 15 = .ok (.istore 5, 2) := by decide +kernel
theorem dX4_append_17 : decode cX4_append 17 = .ok (.aload_n 1, 1) := by decide +kernel
theorem dX4_append_18 : decode cX4_append 18 = .ok (.iload_n 3, 1) := by decide +kernel
theorem dX4_append_19 : decode cX4_append 19 = .ok (.invokevirtual 28, 3) := by decide +kernel
theorem dX4_append_22 : decode cX4_append 22 = .ok (.iload 5, 2) := by decide +kernel
theorem dX4_append_24 : decode cX4_append 24 = .ok (.isub, 1) := by decide +kernel
theorem dX4_append_25 : decode cX4_append 25 = .ok (.istore 6, 2) := by decide +kernel
theorem dX4_append_27 : decode cX4_append 27 = .ok (.iconst 0, 1) := by decide +kernel
theorem dX4_append_28 : decode cX4_append 28 = .ok (.istore 7, 2) := by decide +kernel
theorem dX4_append_30 : decode cX4_append 30 = .ok (.iload 7, 2) := by decide +kernel
theorem dX4_append_32 : decode cX4_append 32 = .ok (.iload 6, 2) := by decide +kernel
theorem dX4_append_34 : decode cX4_append 34 = .ok (.if_icmp .ge 27, 3) := by decide +kernel
theorem dX4_append_37 : decode cX4_append 37 = .ok (.aload_n 0, 1) := by decide +kernel
theorem dX4_append_38 : decode cX4_append 38 = .ok (.iload 4, 2) := by decide +kernel
theorem dX4_append_40 : decode cX4_append 40 = .ok (.iload 7, 2) := by decide +kernel
theorem dX4_append_42 : decode cX4_append 42 = .ok (.iadd, 1) := by decide +kernel
theorem dX4_append_43 : decode cX4_append 43 = .ok (.aload_n 1, 1) := by decide +kernel
theorem dX4_append_44 : decode cX4_append 44 = .ok (.iload 5, 2) := by decide +kernel
theorem dX4_append_46 : decode cX4_append 46 = .ok (.iload 7, 2) := by decide +kernel
theorem dX4_append_48 : decode cX4_append 48 = .ok (.iadd, 1) := by decide +kernel
theorem dX4_append_49 : decode cX4_append 49 = .ok (.invokevirtual 32, 3) := by decide +kernel
theorem dX4_append_52 : decode cX4_append 52 = .ok (.invokevirtual 35, 3) := by decide +kernel
theorem dX4_append_55 : decode cX4_append 55 = .ok (.iinc 7 1, 3) := by decide +kernel
theorem dX4_append_58 : decode cX4_append 58 = .ok (.goto (-28), 3) := by decide +kernel
theorem dX4_append_61 : decode cX4_append 61 = .ok (.aload_n 0, 1) := by decide +kernel
theorem dX4_append_62 : decode cX4_append 62 = .ok (.getfield 15, 3) := by decide +kernel
theorem dX4_append_65 : decode cX4_append 65 = .ok (.iconst 1, 1) := by decide +kernel
theorem dX4_append_66 : decode cX4_append 66 = .ok (.dup2, 1) := by decide +kernel
theorem dX4_append_67 : decode cX4_append 67 = .ok (.iaload, 1) := by decide +kernel
theorem dX4_append_68 : decode cX4_append 68 = .ok (.iload_n 3, 1) := by decide +kernel
theorem dX4_append_69 : decode cX4_append 69 = .ok (.iload_n 2, 1) := by decide +kernel
theorem dX4_append_70 : decode cX4_append 70 = .ok (.isub, 1) := by decide +kernel
theorem dX4_append_71 : decode cX4_append 71 = .ok (.iadd, 1) := by decide +kernel
theorem dX4_append_72 : decode cX4_append 72 = .ok (.iastore, 1) := by decide +kernel
theorem dX4_append_73 : decode cX4_append 73 = .ok (.return_, 1) := by decide +kernel
theorem dX4_insert_0 : decode cX4_insert 0 = .ok (.aload_n 0, 1) := by decide +kernel
theorem dX4_insert_1 : decode cX4_insert 1 = .ok (.iload_n 1, 1) := by decide +kernel
theorem dX4_insert_2 : decode cX4_insert 2 = .ok (.invokevirtual 28, 3) := by decide +kernel
theorem dX4_insert_5 : decode cX4_insert 5 = .ok (.istore 4, 2) := by decide +kernel
theorem dX4_insert_7 : decode cX4_insert 7 = .ok (.aload_n 2, 1) := by decide +kernel
theorem dX4_insert_8 : decode cX4_insert 8 = .ok (.getfield 59, 3) := by decide +kernel
theorem dX4_insert_11 : decode cX4_insert 11 = .ok (.iconst 2, 1) := by decide +kernel
theorem dX4_insert_12 : decode cX4_insert 12 = .ok (.iadd, 1) := by decide +kernel
theorem dX4_insert_13 : decode cX4_insert 13 = .ok (.istore 5, 2) := by decide +kernel
theorem dX4_insert_15 : decode cX4_insert 15 = .ok (.aload_n 0, 1) := by decide +kernel
theorem dX4_insert_16 : decode cX4_insert 16 = .ok (.aload_n 0, 1) := by decide +kernel
theorem dX4_insert_17 : decode cX4_insert 17 = .ok (.invokevirtual 25, 3) := by decide +kernel
theorem dX4_insert_20 : decode cX4_insert 20 = .ok (.invokevirtual 28, 3) := by decide +kernel
theorem dX4_insert_23 : decode cX4_insert 23 = .ok (.iconst 1, 1) := by decide +kernel
theorem dX4_insert_24 : decode cX4_insert 24 = .ok (.isub, 1) := by decide +kernel
theorem dX4_insert_25 : decode cX4_insert 25 = .ok (.istore 6, 2) := by decide +kernel
theorem dX4_insert_27 : decode cX4_insert 27 = .ok (.iload 6, 2) := by decide +kernel
theorem dX4_insert_29 : decode cX4_insert 29 = .ok (.iload 4, 2) := by decide +kernel
theorem dX4_insert_31 : decode cX4_insert 31 = .ok (.if_icmp .lt 24, 3) := by decide +kernel
theorem dX4_insert_34 : decode cX4_insert 34 = .ok (.aload_n 0, 1) := by decide +kernel
theorem dX4_insert_35 : decode cX4_insert 35 = .ok (.iload 6, 2) := by decide +kernel
theorem dX4_insert_37 : decode cX4_insert 37 = .ok (.iload 5, 2) := by decide +kernel
theorem dX4_insert_39 : decode cX4_insert 39 = .ok (.iadd, 1) := by decide +kernel
theorem dX4_insert_40 : decode cX4_insert 40 = .ok (.aload_n 0, 1) := by decide +kernel
theorem dX4_insert_41 : decode cX4_insert 41 = .ok (.iload 6, 2) := by decide +kernel
theorem dX4_insert_43 : decode cX4_insert 43 = .ok (.invokevirtual 32, 3) := by decide +kernel
theorem dX4_insert_46 : decode cX4_insert 46 = .ok (.invokevirtual 35, 3) := by decide +kernel
theorem dX4_insert_49 : decode cX4_insert 49 = .ok (.iinc 6 (-1), 3) := by decide +kernel
theorem dX4_insert_52 : decode cX4_insert 52 = .ok (.goto (-25), 3) := by decide +kernel
theorem dX4_insert_55 : decode cX4_insert 55 = .ok (.aload_n 0, 1) := by decide +kernel
theorem dX4_insert_56 : decode cX4_insert 56 = .ok (.iload 4, 2) := by decide +kernel
theorem dX4_insert_58 : decode cX4_insert 58 = .ok (.aload_n 2, 1) := by decide +kernel
theorem dX4_insert_59 : decode cX4_insert 59 = .ok (.getfield 59, 3) := by decide +kernel
theorem dX4_insert_62 : decode cX4_insert 62 = .ok (.invokevirtual 35, 3) := by decide +kernel
theorem dX4_insert_65 : decode cX4_insert 65 = .ok (.iconst 0, 1) := by decide +kernel
theorem dX4_insert_66 : decode cX4_insert 66 = .ok (.istore 6, 2) := by decide +kernel
theorem dX4_insert_68 : decode cX4_insert 68 = .ok (.iload 6, 2) := by decide +kernel
theorem dX4_insert_70 : decode cX4_insert 70 = .ok (.aload_n 2, 1) := by decide +kernel
theorem dX4_insert_71 : decode cX4_insert 71 = .ok (.getfield 59, 3) := by decide +kernel
theorem dX4_insert_74 : decode cX4_insert 74 = .ok (.if_icmp .ge 26, 3) := by decide +kernel
theorem dX4_insert_77 : decode cX4_insert 77 = .ok (.aload_n 0, 1) := by decide +kernel
theorem dX4_insert_78 : decode cX4_insert 78 = .ok (.iload 4, 2) := by decide +kernel
theorem dX4_insert_80 : decode cX4_insert 80 = .ok (.iconst 1, 1) := by decide +kernel
theorem dX4_insert_81 : decode cX4_insert 81 = .ok (.iadd, 1) := by decide +kernel
theorem dX4_insert_82 : decode cX4_insert 82 = .ok (.iload 6, 2) := by decide +kernel
theorem dX4_insert_84 : decode cX4_insert 84 = .ok (.iadd, 1) := by decide +kernel
theorem dX4_insert_85 : decode cX4_insert 85 = .ok (.aload_n 2, 1) := by decide +kernel
theorem dX4_insert_86 : decode cX4_insert 86 = .ok (.iload 6, 2) := by decide +kernel
theorem dX4_insert_88 : decode cX4_insert 88 = .ok (.invokevirtual 54, 3) := by decide +kernel
theorem dX4_insert_91 : decode cX4_insert 91 = .ok (.invokevirtual 35, 3) := by decide +kernel
theorem dX4_insert_94 : decode cX4_insert 94 = .ok (.iinc 6 1, 3) := by decide +kernel
theorem dX4_insert_97 : decode cX4_insert 97 = .ok (.goto (-29), 3) := by decide +kernel
theorem dX4_insert_100 : decode cX4_insert 100 = .ok (.aload_n 0, 1) := by decide +kernel
theorem dX4_insert_101 : decode cX4_insert 101 = .ok (.iload 4, 2) := by decide +kernel
theorem dX4_insert_103 : decode cX4_insert 103 = .ok (.iload 5, 2) := by decide +kernel
theorem dX4_insert_105 : decode cX4_insert 105 = .ok (.iadd, 1) := by decide +kernel
theorem dX4_insert_106 : decode cX4_insert 106 = .ok (.iconst 1, 1) := by decide +kernel
theorem dX4_insert_107 : decode cX4_insert 107 = .ok (.isub, 1) := by decide +kernel
theorem dX4_insert_108 : decode cX4_insert 108 = .ok (.iload_n 3, 1) := by decide +kernel
theorem dX4_insert_109 : decode cX4_insert 109 = .ok (.invokevirtual 35, 3) := by decide +kernel
theorem dX4_insert_112 : decode cX4_insert 112 = .ok (.aload_n 0, 1) := by decide +kernel
theorem dX4_insert_113 : decode cX4_insert 113 = .ok (.getfield 15, 3) := by decide +kernel
theorem dX4_insert_116 : decode cX4_insert 116 = .ok (.iconst 1, 1) := by decide +kernel
theorem dX4_insert_117 : decode cX4_insert 117 = .ok (.dup2, 1) := by decide +kernel
theorem dX4_insert_118 : decode cX4_insert 118 = .ok (.iaload, 1) := by decide +kernel
theorem dX4_insert_119 : decode cX4_insert 119 = .ok (.iconst 1, 1) := by decide +kernel
theorem dX4_insert_120 : decode cX4_insert 120 = .ok (.iadd, 1) := by decide +kernel
theorem dX4_insert_121 : decode cX4_insert 121 = .ok (.iastore, 1) := by decide +kernel
theorem dX4_insert_122 : decode cX4_insert 122 = .ok (.return_, 1) := by decide +kernel
theorem dX4_remove_0 : decode cX4_remove 0 = .ok (.aload_n 0, 1) := by decide +kernel
theorem dX4_remove_1 : decode cX4_remove 1 = .ok (.iload_n 1, 1) := by decide +kernel
theorem dX4_remove_2 : decode cX4_remove 2 = .ok (.invokevirtual 28, 3) := by decide +kernel
theorem dX4_remove_5 : decode cX4_remove 5 = .ok (.istore_n 2, 1) := by decide +kernel
theorem dX4_remove_6 : decode cX4_remove 6 = .ok (.aload_n 0, 1) := by decide +kernel
theorem dX4_remove_7 : decode cX4_remove 7 = .ok (.iload_n 1, 1) := by decide +kernel
theorem dX4_remove_8 : decode cX4_remove 8 = .ok (.iconst 1, 1) := by decide +kernel
theorem dX4_remove_9 : decode cX4_remove 9 = .ok (.iadd, 1) := by decide +kernel
theorem dX4_remove_10 : decode cX4_remove 10 = .ok (.invokevirtual 28, 3) := by decide +kernel
theorem dX4_remove_13 : decode cX4_remove 13 = .ok (.iload_n 2, 1) := by decide +kernel
theorem dX4_remove_14 : decode cX4_remove 14 = .ok (.isub, 1) := by decide +kernel
theorem dX4_remove_15 : decode cX4_remove 15 = .ok (.istore_n 3, 1) := by decide +kernel
theorem dX4_remove_16 : decode cX4_remove 16 = .ok (.iload_n 2, 1) := by decide +kernel
theorem dX4_remove_17 : decode cX4_remove 17 = .ok (.istore 4, 2) := by decide +kernel
theorem dX4_remove_19 : decode cX4_remove 19 = .ok (.iload 4, 2) := by decide +kernel
theorem dX4_remove_21 : decode cX4_remove 21 = .ok (.aload_n 0, 1) := by decide +kernel
theorem dX4_remove_22 : decode cX4_remove 22 = .ok (.getfield 15, 3) := by decide +kernel
theorem dX4_remove_25 : decode cX4_remove 25 = .ok (.arraylength, 1) := by decide +kernel
theorem dX4_remove_26 : decode cX4_remove 26 = .ok (.if_icmp .ge 24, 3) := by decide +kernel
theorem dX4_remove_29 : decode cX4_remove 29 = .ok (.aload_n 0, 1) := by decide +kernel
theorem dX4_remove_30 : decode cX4_remove 30 = .ok (.getfield 15, 3) := by decide +kernel
theorem dX4_remove_33 : decode cX4_remove 33 = .ok (.iload 4, 2) := by decide +kernel
theorem dX4_remove_35 : decode cX4_remove 35 = .ok (.aload_n 0, 1) := by decide +kernel
theorem dX4_remove_36 : decode cX4_remove 36 = .ok (.iload 4, 2) := by decide +kernel
theorem dX4_remove_38 : decode cX4_remove 38 = .ok (.iload_n 3, 1) := by decide +kernel
theorem dX4_remove_39 : decode cX4_remove 39 = .ok (.iadd, 1) := by decide +kernel
theorem dX4_remove_40 : decode cX4_remove 40 = .ok (.invokevirtual 32, 3) := by decide +kernel
theorem dX4_remove_43 : decode cX4_remove 43 = .ok (.iastore, 1) := by decide +kernel
theorem dX4_remove_44 : decode cX4_remove 44 = .ok (.iinc 4 1, 3) := by decide +kernel
theorem dX4_remove_47 : decode cX4_remove 47 = .ok (.goto (-28), 3) := by decide +kernel
theorem dX4_remove_50 : decode cX4_remove 50 = .ok (.aload_n 0, 1) := by decide +kernel
theorem dX4_remove_51 : decode cX4_remove 51 = .ok (.getfield 15, 3) := by decide +kernel
theorem dX4_remove_54 : decode cX4_remove 54 = .ok (.iconst 1, 1) := by decide +kernel
theorem dX4_remove_55 : decode cX4_remove 55 = .ok (.dup2, 1) := by decide +kernel
theorem dX4_remove_56 : decode cX4_remove 56 = .ok (.iaload, 1) := by decide +kernel
theorem dX4_remove_57 : decode cX4_remove 57 = .ok (.iconst 1, 1) := by decide +kernel
theorem dX4_remove_58 : decode cX4_remove 58 = .ok (.isub, 1) := by decide +kernel
theorem dX4_remove_59 : decode cX4_remove 59 = .ok (.iastore, 1) := by decide +kernel
theorem dX4_remove_60 : decode cX4_remove 60 = .ok (.return_, 1) := by decide +kernel
theorem dX4_half_0 : decode cX4_half 0 = .ok (.aload_n 0, 1) := by decide +kernel
theorem dX4_half_1 : decode cX4_half 1 = .ok (.aload_n 0, 1) := by decide +kernel
theorem dX4_half_2 : decode cX4_half 2 = .ok (.invokevirtual 25, 3) := by decide +kernel
theorem dX4_half_5 : decode cX4_half 5 = .ok (.invokevirtual 28, 3) := by decide +kernel
theorem dX4_half_8 : decode cX4_half 8 = .ok (.iconst 3, 1) := by decide +kernel
theorem dX4_half_9 : decode cX4_half 9 = .ok (.isub, 1) := by decide +kernel
theorem dX4_half_10 : decode cX4_half 10 = .ok (.istore_n 1, 1) := by decide +kernel
theorem dX4_half_11 : decode cX4_half 11 = .ok (.iconst 0, 1) := by decide +kernel
theorem dX4_half_12 : decode cX4_half 12 = .ok (.istore_n 2, 1) := by decide +kernel
theorem dX4_half_13 : decode cX4_half 13 = .ok (.iload_n 2, 1) := by decide +kernel
theorem dX4_half_14 : decode cX4_half 14 = .ok (.aload_n 0, 1) := by decide +kernel
theorem dX4_half_15 : decode cX4_half 15 = .ok (.invokevirtual 25, 3) := by decide +kernel
theorem dX4_half_18 : decode cX4_half 18 = .ok (.if_icmp .ge 22, 3) := by decide +kernel
theorem dX4_half_21 : decode cX4_half 21 = .ok (.iconst 2, 1) := by decide +kernel
theorem dX4_half_22 : decode cX4_half 22 = .ok (.aload_n 0, 1) := by decide +kernel
theorem dX4_half_23 : decode cX4_half 23 = .ok (.iload_n 2, 1) := by decide +kernel
theorem dX4_half_24 : decode cX4_half 24 = .ok (.invokevirtual 28, 3) := by decide +kernel
theorem dX4_half_27 : decode cX4_half 27 = .ok (.iconst 3, 1) := by decide +kernel
theorem dX4_half_28 : decode cX4_half 28 = .ok (.isub, 1) := by decide +kernel
theorem dX4_half_29 : decode cX4_half 29 = .ok (.imul, 1) := by decide +kernel
theorem dX4_half_30 : decode cX4_half 30 = .ok (.iload_n 1, 1) := by decide +kernel
theorem dX4_half_31 : decode cX4_half 31 = .ok (.if_icmp .ge 9, 3) := by decide +kernel
theorem dX4_half_34 : decode cX4_half 34 = .ok (.iinc 2 1, 3) := by decide +kernel
theorem dX4_half_37 : decode cX4_half 37 = .ok (.goto (-24), 3) := by decide +kernel
theorem dX4_half_40 : decode cX4_half 40 = .ok (.iload_n 2, 1) := by decide +kernel
theorem dX4_half_41 : decode cX4_half 41 = .ok (.ireturn, 1) := by decide +kernel
theorem dX5_init_0 : decode cX5_init 0 = .ok (.aload_n 0, 1) := by decide +kernel
theorem dX5_init_1 : decode cX5_init 1 = .ok (.invokespecial 3, 3) := by decide +kernel
theorem dX5_init_4 : decode cX5_init 4 = .ok (.aload_n 0, 1) := by decide +kernel
theorem dX5_init_5 : decode cX5_init 5 = .ok (.bipush 120, 2) := by decide +kernel
theorem dX5_init_7 : decode cX5_init 7 = .ok (.newarray .int, 2) := by decide +kernel
theorem dX5_init_9 : decode cX5_init 9 = .ok (.putfield 9, 3) := by decide +kernel
theorem dX5_init_12 : decode cX5_init 12 = .ok (.aload_n 0, 1) := by decide +kernel
theorem dX5_init_13 : decode cX5_init 13 = .ok (.new 15, 3) := by decide +kernel
theorem dX5_init_16 : decode cX5_init 16 = .ok (.dup, 1) := by decide +kernel
theorem dX5_init_17 : decode cX5_init 17 = .ok (.invokespecial 17, 3) := by decide +kernel
theorem dX5_init_20 : decode cX5_init 20 = .ok (.putfield 18, 3) := by decide +kernel
theorem dX5_init_23 : decode cX5_init 23 = .ok (.aload_n 0, 1) := by decide +kernel
theorem dX5_init_24 : decode cX5_init 24 = .ok (.iconst 3, 1) := by decide +kernel
theorem dX5_init_25 : decode cX5_init 25 = .ok (.newarray .int, 2) := by decide +kernel
theorem dX5_init_27 : decode cX5_init 27 = .ok (.putfield 22, 3) := by decide +kernel
theorem dX5_init_30 : decode cX5_init 30 = .ok (.return_, 1) := by decide +kernel
theorem dX5_add_0 : decode cX5_add 0 = .ok (.aload_n 0, 1) := by decide +kernel
theorem dX5_add_1 : decode cX5_add 1 = .ok (.getfield 25, 3) := by decide +kernel
theorem dX5_add_4 : decode cX5_add 4 = .ok (.ifCond .lt 15, 3) := by decide +kernel
theorem dX5_add_7 : decode cX5_add 7 = .ok (.aload_n 0, 1) := by decide +kernel
theorem dX5_add_8 : decode cX5_add 8 = .ok (.getfield 25, 3) := by decide +kernel
theorem dX5_add_11 : decode cX5_add 11 = .ok (.aload_n 0, 1) := by decide +kernel
theorem dX5_add_12 : decode cX5_add 12 = .ok (.getfield 9, 3) := by decide +kernel
theorem dX5_add_15 : decode cX5_add 15 = .ok (.arraylength, 1) := by decide +kernel
theorem dX5_add_16 : decode cX5_add 16 = .ok (.if_icmp .lt 5, 3) := by decide +kernel
theorem dX5_add_19 : decode cX5_add 19 = .ok (.iconst 0, 1) := by decide +kernel
theorem dX5_add_20 : decode cX5_add 20 = .ok (.ireturn, 1) := by decide +kernel
theorem dX5_add_21 : decode cX5_add 21 = .ok (.aload_n 0, 1) := by decide +kernel
theorem dX5_add_22 : decode cX5_add 22 = .ok (.getfield 9, 3) := by decide +kernel
theorem dX5_add_25 : decode cX5_add 25 = .ok (.aload_n 0, 1) := by decide +kernel
theorem dX5_add_26 : decode cX5_add 26 = .ok (.getfield 25, 3) := by decide +kernel
theorem dX5_add_29 : decode cX5_add 29 = .ok (.iload_n 1, 1) := by decide +kernel
theorem dX5_add_30 : decode cX5_add 30 = .ok (.iastore, 1) := by decide +kernel
theorem dX5_add_31 : decode cX5_add 31 = .ok (.aload_n 0, 1) := by decide +kernel
theorem dX5_add_32 : decode cX5_add 32 = .ok (.dup, 1) := by decide +kernel
theorem dX5_add_33 : decode cX5_add 33 = .ok (.getfield 25, 3) := by decide +kernel
theorem dX5_add_36 : decode cX5_add 36 = .ok (.iconst 1, 1) := by decide +kernel
theorem dX5_add_37 : decode cX5_add 37 = .ok (.iadd, 1) := by decide +kernel
theorem dX5_add_38 : decode cX5_add 38 = .ok (.putfield 25, 3) := by decide +kernel
theorem dX5_add_41 : decode cX5_add 41 = .ok (.iconst 1, 1) := by decide +kernel
theorem dX5_add_42 : decode cX5_add 42 = .ok (.ireturn, 1) := by decide +kernel
theorem dX5_at_0 : decode cX5_at 0 = .ok (.iload_n 1, 1) := by decide +kernel
theorem dX5_at_1 : decode cX5_at 1 = .ok (.ifCond .lt 29, 3) := by decide +kernel
theorem dX5_at_4 : decode cX5_at 4 = .ok (.iload_n 1, 1) := by decide +kernel
theorem dX5_at_5 : decode cX5_at 5 = .ok (.aload_n 0, 1) := by decide +kernel
theorem dX5_at_6 : decode cX5_at 6 = .ok (.getfield 25, 3) := by decide +kernel
theorem dX5_at_9 : decode cX5_at 9 = .ok (.if_icmp .ge 21, 3) := by decide +kernel
theorem dX5_at_12 : decode cX5_at 12 = .ok (.iload_n 1, 1) := by decide +kernel
theorem dX5_at_13 : decode cX5_at 13 = .ok (.aload_n 0, 1) := by decide +kernel
theorem dX5_at_14 : decode cX5_at 14 = .ok (.getfield 9, 3) := by decide +kernel
theorem dX5_at_17 : decode cX5_at 17 = .ok (.arraylength, 1) := by decide +kernel
theorem dX5_at_18 : decode cX5_at 18 = .ok (.if_icmp .ge 12, 3) := by decide +kernel
theorem dX5_at_21 : decode cX5_at 21 = .ok (.aload_n 0, 1) := by decide +kernel
theorem dX5_at_22 : decode cX5_at 22 = .ok (.getfield 9, 3) := by decide +kernel
theorem dX5_at_25 : decode cX5_at 25 = .ok (.iload_n 1, 1) := by decide +kernel
theorem dX5_at_26 : decode cX5_at 26 = .ok (.iaload, 1) := by decide +kernel
theorem dX5_at_27 : decode cX5_at 27 = .ok (.goto 4, 3) := by decide +kernel
theorem dX5_at_30 : decode cX5_at 30 = .ok (.iconst 0, 1) := by decide +kernel
theorem dX5_at_31 : decode cX5_at 31 = .ok (.ireturn, 1) := by decide +kernel
theorem dX5_rewind_0 : decode cX5_rewind 0 = .ok (.aload_n 0, 1) := by decide +kernel
theorem dX5_rewind_1 : decode cX5_rewind 1 = .ok (.iconst 0, 1) := by decide +kernel
theorem dX5_rewind_2 : decode cX5_rewind 2 = .ok (.putfield 29, 3) := by decide +kernel
theorem dX5_rewind_5 : decode cX5_rewind 5 = .ok (.return_, 1) := by decide +kernel
theorem dX5_firstFault_0 : decode cX5_firstFault 0 = .ok (.aload_n 0, 1) := by decide +kernel
theorem dX5_firstFault_1 : decode cX5_firstFault 1 = .ok (.invokevirtual 32, 3) := by decide +kernel
theorem dX5_firstFault_4 : decode cX5_firstFault 4 = .ok (.iconst 0, 1) := by decide +kernel
theorem dX5_firstFault_5 : decode cX5_firstFault 5 = .ok (.istore_n 1, 1) := by decide +kernel
theorem dX5_firstFault_6 : decode cX5_firstFault 6 = .ok (.iload_n 1, 1) := by decide +kernel
theorem dX5_firstFault_7 : decode cX5_firstFault 7 = .ok (.bipush 120, 2) := by decide +kernel
theorem dX5_firstFault_9 : decode cX5_firstFault 9 = .ok (.if_icmp .gt 28, 3) := by decide +kernel
theorem dX5_firstFault_12 : decode cX5_firstFault 12 = .ok (.aload_n 0, 1) := by decide +kernel
theorem dX5_firstFault_13 : decode cX5_firstFault 13 = .ok (.invokevirtual 35, 3) := by decide +kernel
theorem dX5_firstFault_16 : decode cX5_firstFault 16 = .ok (.ifCond .eq 21, 3) := by decide +kernel
theorem dX5_firstFault_19 : decode cX5_firstFault 19 = .ok (.aload_n 0, 1) := by decide +kernel
theorem dX5_firstFault_20 : decode cX5_firstFault 20 = .ok (.invokevirtual 39, 3) := by decide +kernel
theorem dX5_firstFault_23 : decode cX5_firstFault 23 = .ok (.ifCond .ne 8, 3) := by decide +kernel
theorem dX5_firstFault_26 : decode cX5_firstFault 26 = .ok (.aload_n 0, 1) := by decide +kernel
theorem dX5_firstFault_27 : decode cX5_firstFault 27 = .ok (.getfield 42, 3) := by decide +kernel
theorem dX5_firstFault_30 : decode cX5_firstFault 30 = .ok (.ireturn, 1) := by decide +kernel
theorem dX5_firstFault_31 : decode cX5_firstFault 31 = .ok (.iinc 1 1, 3) := by decide +kernel
theorem dX5_firstFault_34 : decode cX5_firstFault 34 = .ok (.goto (-28), 3) := by decide +kernel
theorem dX5_firstFault_37 : decode cX5_firstFault 37 = .ok (.iconst (-1), 1) := by decide +kernel
theorem dX5_firstFault_38 : decode cX5_firstFault 38 = .ok (.ireturn, 1) := by decide +kernel
theorem dX5_hasMore_0 : decode cX5_hasMore 0 = .ok (.aload_n 0, 1) := by decide +kernel
theorem dX5_hasMore_1 : decode cX5_hasMore 1 = .ok (.invokevirtual 45, 3) := by decide +kernel
theorem dX5_hasMore_4 : decode cX5_hasMore 4 = .ok (.aload_n 0, 1) := by decide +kernel
theorem dX5_hasMore_5 : decode cX5_hasMore 5 = .ok (.getfield 48, 3) := by decide +kernel
theorem dX5_hasMore_8 : decode cX5_hasMore 8 = .ok (.ifCond .eq 7, 3) := by decide +kernel
theorem dX5_hasMore_11 : decode cX5_hasMore 11 = .ok (.iconst 1, 1) := by decide +kernel
theorem dX5_hasMore_12 : decode cX5_hasMore 12 = .ok (.goto 4, 3) := by decide +kernel
theorem dX5_hasMore_15 : decode cX5_hasMore 15 = .ok (.iconst 0, 1) := by decide +kernel
theorem dX5_hasMore_16 : decode cX5_hasMore 16 = .ok (.ireturn, 1) := by decide +kernel
theorem dX5_readCommand_0 : decode cX5_readCommand 0 = .ok (.aload_n 0, 1) := by decide +kernel
theorem dX5_readCommand_1 : decode cX5_readCommand 1 = .ok (.ldc 51, 2) := by decide +kernel
theorem dX5_readCommand_3 : decode cX5_readCommand 3 = .ok (.invokevirtual 53, 3) := by decide +kernel
theorem dX5_readCommand_6 : decode cX5_readCommand 6 = .ok (.ifCond .eq 40, 3) := by decide +kernel
theorem dX5_readCommand_9 : decode cX5_readCommand 9 = .ok (.aload_n 0, 1) := by decide +kernel
theorem dX5_readCommand_10 : decode cX5_readCommand 10 = .ok (.iconst 0, 1) := by decide +kernel
theorem dX5_readCommand_11 : decode cX5_readCommand 11 = .ok (.putfield 57, 3) := by decide +kernel
theorem dX5_readCommand_14 : decode cX5_readCommand 14 = .ok (.aload_n 0, 1) := by decide +kernel
theorem dX5_readCommand_15 : decode cX5_readCommand 15 = .ok (.invokevirtual 60, 3) := by decide +kernel
theorem dX5_readCommand_18 : decode cX5_readCommand 18 = .ok (.ifCond .eq 26, 3) := by decide +kernel
theorem dX5_readCommand_21 : decode cX5_readCommand 21 = .ok (.aload_n 0, 1) := by decide +kernel
theorem dX5_readCommand_22 : decode cX5_readCommand 22 = .ok (.iconst 0, 1) := by decide +kernel
theorem dX5_readCommand_23 : decode cX5_readCommand 23 = .ok (.iconst 0, 1) := by decide +kernel
theorem dX5_readCommand_24 : decode cX5_readCommand 24 = .ok (.sipush 255, 3) := by decide +kernel
theorem dX5_readCommand_27 : decode cX5_readCommand 27 = .ok (.invokevirtual 63, 3) := by decide +kernel
theorem dX5_readCommand_30 : decode cX5_readCommand 30 = .ok (.ifCond .eq 14, 3) := by decide +kernel
theorem dX5_readCommand_33 : decode cX5_readCommand 33 = .ok (.aload_n 0, 1) := by decide +kernel
theorem dX5_readCommand_34 : decode cX5_readCommand 34 = .ok (.invokevirtual 67, 3) := by decide +kernel
theorem dX5_readCommand_37 : decode cX5_readCommand 37 = .ok (.ifCond .eq 7, 3) := by decide +kernel
theorem dX5_readCommand_40 : decode cX5_readCommand 40 = .ok (.iconst 1, 1) := by decide +kernel
theorem dX5_readCommand_41 : decode cX5_readCommand 41 = .ok (.goto 4, 3) := by decide +kernel
theorem dX5_readCommand_44 : decode cX5_readCommand 44 = .ok (.iconst 0, 1) := by decide +kernel
theorem dX5_readCommand_45 : decode cX5_readCommand 45 = .ok (.ireturn, 1) := by decide +kernel
theorem dX5_readCommand_46 : decode cX5_readCommand 46 = .ok (.aload_n 0, 1) := by decide +kernel
theorem dX5_readCommand_47 : decode cX5_readCommand 47 = .ok (.ldc 70, 2) := by decide +kernel
theorem dX5_readCommand_49 : decode cX5_readCommand 49 = .ok (.invokevirtual 53, 3) := by decide +kernel
theorem dX5_readCommand_52 : decode cX5_readCommand 52 = .ok (.ifCond .eq 28, 3) := by decide +kernel
theorem dX5_readCommand_55 : decode cX5_readCommand 55 = .ok (.aload_n 0, 1) := by decide +kernel
theorem dX5_readCommand_56 : decode cX5_readCommand 56 = .ok (.iconst 1, 1) := by decide +kernel
theorem dX5_readCommand_57 : decode cX5_readCommand 57 = .ok (.putfield 57, 3) := by decide +kernel
theorem dX5_readCommand_60 : decode cX5_readCommand 60 = .ok (.aload_n 0, 1) := by decide +kernel
theorem dX5_readCommand_61 : decode cX5_readCommand 61 = .ok (.invokevirtual 60, 3) := by decide +kernel
theorem dX5_readCommand_64 : decode cX5_readCommand 64 = .ok (.ifCond .eq 14, 3) := by decide +kernel
theorem dX5_readCommand_67 : decode cX5_readCommand 67 = .ok (.aload_n 0, 1) := by decide +kernel
theorem dX5_readCommand_68 : decode cX5_readCommand 68 = .ok (.invokevirtual 67, 3) := by decide +kernel
theorem dX5_readCommand_71 : decode cX5_readCommand 71 = .ok (.ifCond .eq 7, 3) := by decide +kernel
theorem dX5_readCommand_74 : decode cX5_readCommand 74 = .ok (.iconst 1, 1) := by decide +kernel
theorem dX5_readCommand_75 : decode cX5_readCommand 75 = .ok (.goto 4, 3) := by decide +kernel
theorem dX5_readCommand_78 : decode cX5_readCommand 78 = .ok (.iconst 0, 1) := by decide +kernel
theorem dX5_readCommand_79 : decode cX5_readCommand 79 = .ok (.ireturn, 1) := by decide +kernel
theorem dX5_readCommand_80 : decode cX5_readCommand 80 = .ok (.aload_n 0, 1) := by decide +kernel
theorem dX5_readCommand_81 : decode cX5_readCommand 81 = .ok (.iconst 2, 1) := by decide +kernel
theorem dX5_readCommand_82 : decode cX5_readCommand 82 = .ok (.putfield 57, 3) := by decide +kernel
theorem dX5_readCommand_85 : decode cX5_readCommand 85 = .ok (.aload_n 0, 1) := by decide +kernel
theorem dX5_readCommand_86 : decode cX5_readCommand 86 = .ok (.ldc 72, 2) := by decide +kernel
theorem dX5_readCommand_88 : decode cX5_readCommand 88 = .ok (.invokevirtual 53, 3) := by decide +kernel
theorem dX5_readCommand_91 : decode cX5_readCommand 91 = .ok (.ifCond .eq 69, 3) := by decide +kernel
theorem dX5_readCommand_94 : decode cX5_readCommand 94 = .ok (.aload_n 0, 1) := by decide +kernel
theorem dX5_readCommand_95 : decode cX5_readCommand 95 = .ok (.iconst 0, 1) := by decide +kernel
theorem dX5_readCommand_96 : decode cX5_readCommand 96 = .ok (.iconst 0, 1) := by decide +kernel
theorem dX5_readCommand_97 : decode cX5_readCommand 97 = .ok (.sipush 17575, 3) := by decide +kernel
theorem dX5_readCommand_100 : decode cX5_readCommand 100 = .ok (.invokevirtual 63, 3) := by decide +kernel
theorem dX5_readCommand_103 : decode cX5_readCommand 103 = .ok (.ifCond .eq 57, 3) := by decide +kernel
theorem dX5_readCommand_106 : decode cX5_readCommand 106 = .ok (.aload_n 0, 1) := by decide +kernel
theorem dX5_readCommand_107 : decode cX5_readCommand 107 = .ok (.iconst 1, 1) := by decide +kernel
theorem dX5_readCommand_108 : decode cX5_readCommand 108 = .ok (.iconst 1, 1) := by decide +kernel
theorem dX5_readCommand_109 : decode cX5_readCommand 109 = .ok (.bipush 99, 2) := by decide +kernel
theorem dX5_readCommand_111 : decode cX5_readCommand 111 = .ok (.invokevirtual 63, 3) := by decide +kernel
theorem dX5_readCommand_114 : decode cX5_readCommand 114 = .ok (.ifCond .eq 46, 3) := by decide +kernel
theorem dX5_readCommand_117 : decode cX5_readCommand 117 = .ok (.aload_n 0, 1) := by decide +kernel
theorem dX5_readCommand_118 : decode cX5_readCommand 118 = .ok (.iconst 2, 1) := by decide +kernel
theorem dX5_readCommand_119 : decode cX5_readCommand 119 = .ok (.iconst 1, 1) := by decide +kernel
theorem dX5_readCommand_120 : decode cX5_readCommand 120 = .ok (.bipush 60, 2) := by decide +kernel
theorem dX5_readCommand_122 : decode cX5_readCommand 122 = .ok (.invokevirtual 63, 3) := by decide +kernel
theorem dX5_readCommand_125 : decode cX5_readCommand 125 = .ok (.ifCond .eq 35, 3) := by decide +kernel
theorem dX5_readCommand_128 : decode cX5_readCommand 128 = .ok (.aload_n 0, 1) := by decide +kernel
theorem dX5_readCommand_129 : decode cX5_readCommand 129 = .ok (.iconst 0, 1) := by decide +kernel
theorem dX5_readCommand_130 : decode cX5_readCommand 130 = .ok (.invokevirtual 74, 3) := by decide +kernel
theorem dX5_readCommand_133 : decode cX5_readCommand 133 = .ok (.aload_n 0, 1) := by decide +kernel
theorem dX5_readCommand_134 : decode cX5_readCommand 134 = .ok (.iconst 1, 1) := by decide +kernel
theorem dX5_readCommand_135 : decode cX5_readCommand 135 = .ok (.invokevirtual 74, 3) := by decide +kernel
theorem dX5_readCommand_138 : decode cX5_readCommand 138 = .ok (.aload_n 0, 1) := by decide +kernel
theorem dX5_readCommand_139 : decode cX5_readCommand 139 = .ok (.iconst 2, 1) := by decide +kernel
theorem dX5_readCommand_140 : decode cX5_readCommand 140 = .ok (.invokevirtual 74, 3) := by decide +kernel
theorem dX5_readCommand_143 : decode cX5_readCommand 143 = .ok (.invokestatic 78, 3) := by decide +kernel
theorem dX5_readCommand_146 : decode cX5_readCommand 146 = .ok (.ifCond .eq 14, 3) := by decide +kernel
theorem dX5_readCommand_149 : decode cX5_readCommand 149 = .ok (.aload_n 0, 1) := by decide +kernel
theorem dX5_readCommand_150 : decode cX5_readCommand 150 = .ok (.invokevirtual 67, 3) := by decide +kernel
theorem dX5_readCommand_153 : decode cX5_readCommand 153 = .ok (.ifCond .eq 7, 3) := by decide +kernel
theorem dX5_readCommand_156 : decode cX5_readCommand 156 = .ok (.iconst 1, 1) := by decide +kernel
theorem dX5_readCommand_157 : decode cX5_readCommand 157 = .ok (.goto 4, 3) := by decide +kernel
theorem dX5_readCommand_160 : decode cX5_readCommand 160 = .ok (.iconst 0, 1) := by decide +kernel
theorem dX5_readCommand_161 : decode cX5_readCommand 161 = .ok (.ireturn, 1) := by decide +kernel
theorem dX5_number_0 : decode cX5_number 0 = .ok (.iload_n 1, 1) := by decide +kernel
theorem dX5_number_1 : decode cX5_number 1 = .ok (.ifCond .lt 21, 3) := by decide +kernel
theorem dX5_number_4 : decode cX5_number 4 = .ok (.iload_n 1, 1) := by decide +kernel
theorem dX5_number_5 : decode cX5_number 5 = .ok (.aload_n 0, 1) := by decide +kernel
theorem dX5_number_6 : decode cX5_number 6 = .ok (.getfield 22, 3) := by decide +kernel
theorem dX5_number_9 : decode cX5_number 9 = .ok (.arraylength, 1) := by decide +kernel
theorem dX5_number_10 : decode cX5_number 10 = .ok (.if_icmp .ge 12, 3) := by decide +kernel
theorem dX5_number_13 : decode cX5_number 13 = .ok (.aload_n 0, 1) := by decide +kernel
theorem dX5_number_14 : decode cX5_number 14 = .ok (.getfield 22, 3) := by decide +kernel
theorem dX5_number_17 : decode cX5_number 17 = .ok (.iload_n 1, 1) := by decide +kernel
theorem dX5_number_18 : decode cX5_number 18 = .ok (.iaload, 1) := by decide +kernel
theorem dX5_number_19 : decode cX5_number 19 = .ok (.goto 4, 3) := by decide +kernel
theorem dX5_number_22 : decode cX5_number 22 = .ok (.iconst 0, 1) := by decide +kernel
theorem dX5_number_23 : decode cX5_number 23 = .ok (.ireturn, 1) := by decide +kernel
theorem dX5_readKey_0 : decode cX5_readKey 0 = .ok (.aload_n 0, 1) := by decide +kernel
theorem dX5_readKey_1 : decode cX5_readKey 1 = .ok (.invokevirtual 45, 3) := by decide +kernel
theorem dX5_readKey_4 : decode cX5_readKey 4 = .ok (.aload_n 0, 1) := by decide +kernel
theorem dX5_readKey_5 : decode cX5_readKey 5 = .ok (.getfield 48, 3) := by decide +kernel
theorem dX5_readKey_8 : decode cX5_readKey 8 = .ok (.iconst 1, 1) := by decide +kernel
theorem dX5_readKey_9 : decode cX5_readKey 9 = .ok (.if_icmp .ne 17, 3) := by decide +kernel
theorem dX5_readKey_12 : decode cX5_readKey 12 = .ok (.aload_n 0, 1) := by decide +kernel
theorem dX5_readKey_13 : decode cX5_readKey 13 = .ok (.getfield 29, 3) := by decide +kernel
theorem dX5_readKey_16 : decode cX5_readKey 16 = .ok (.aload_n 0, 1) := by decide +kernel
theorem dX5_readKey_17 : decode cX5_readKey 17 = .ok (.getfield 42, 3) := by decide +kernel
theorem dX5_readKey_20 : decode cX5_readKey 20 = .ok (.isub, 1) := by decide +kernel
theorem dX5_readKey_21 : decode cX5_readKey 21 = .ok (.bipush 8, 2) := by decide +kernel
theorem dX5_readKey_23 : decode cX5_readKey 23 = .ok (.if_icmp .le 5, 3) := by decide +kernel
theorem dX5_readKey_26 : decode cX5_readKey 26 = .ok (.iconst 0, 1) := by decide +kernel
theorem dX5_readKey_27 : decode cX5_readKey 27 = .ok (.ireturn, 1) := by decide +kernel
theorem dX5_readKey_28 : decode cX5_readKey 28 = .ok (.aload_n 0, 1) := by decide +kernel
theorem dX5_readKey_29 : decode cX5_readKey 29 = .ok (.getfield 18, 3) := by decide +kernel
theorem dX5_readKey_32 : decode cX5_readKey 32 = .ok (.invokevirtual 81, 3) := by decide +kernel
theorem dX5_readKey_35 : decode cX5_readKey 35 = .ok (.aload_n 0, 1) := by decide +kernel
theorem dX5_readKey_36 : decode cX5_readKey 36 = .ok (.getfield 42, 3) := by decide +kernel
theorem dX5_readKey_39 : decode cX5_readKey 39 = .ok (.istore_n 1, 1) := by decide +kernel
theorem dX5_readKey_40 : decode cX5_readKey 40 = .ok (.iload_n 1, 1) := by decide +kernel
theorem dX5_readKey_41 : decode cX5_readKey 41 = .ok (.aload_n 0, 1) := by decide +kernel
theorem dX5_readKey_42 : decode cX5_readKey 42 = .ok (.getfield 29, 3) := by decide +kernel
theorem dX5_readKey_45 : decode cX5_readKey 45 = .ok (.if_icmp .ge 21, 3) := by decide +kernel
theorem dX5_readKey_48 : decode cX5_readKey 48 = .ok (.aload_n 0, 1) := by decide +kernel
theorem dX5_readKey_49 : decode cX5_readKey 49 = .ok (.getfield 18, 3) := by decide +kernel
theorem dX5_readKey_52 : decode cX5_readKey 52 = .ok (.aload_n 0, 1) := by decide +kernel
theorem dX5_readKey_53 : decode cX5_readKey 53 = .ok (.iload_n 1, 1) := by decide +kernel
theorem dX5_readKey_54 : decode cX5_readKey 54 = .ok (.invokevirtual 84, 3) := by decide +kernel
theorem dX5_readKey_57 : decode cX5_readKey 57 = .ok (.invokevirtual 87, 3) := by decide +kernel
theorem dX5_readKey_60 : decode cX5_readKey 60 = .ok (.iinc 1 1, 3) := by decide +kernel
theorem dX5_readKey_63 : decode cX5_readKey 63 = .ok (.goto (-23), 3) := by decide +kernel
theorem dX5_readKey_66 : decode cX5_readKey 66 = .ok (.iconst 1, 1) := by decide +kernel
theorem dX5_readKey_67 : decode cX5_readKey 67 = .ok (.ireturn, 1) := by decide +kernel
theorem dX5_readNumber_0 : decode cX5_readNumber 0 = .ok (.aload_n 0, 1) := by decide +kernel
theorem dX5_readNumber_1 : decode cX5_readNumber 1 = .ok (.invokevirtual 45, 3) := by decide +kernel
theorem dX5_readNumber_4 : decode cX5_readNumber 4 = .ok (.aload_n 0, 1) := by decide +kernel
theorem dX5_readNumber_5 : decode cX5_readNumber 5 = .ok (.getfield 48, 3) := by decide +kernel
theorem dX5_readNumber_8 : decode cX5_readNumber 8 = .ok (.iconst 2, 1) := by decide +kernel
theorem dX5_readNumber_9 : decode cX5_readNumber 9 = .ok (.if_icmp .ne 28, 3) := by decide +kernel
theorem dX5_readNumber_12 : decode cX5_readNumber 12 = .ok (.aload_n 0, 1) := by decide +kernel
theorem dX5_readNumber_13 : decode cX5_readNumber 13 = .ok (.getfield 91, 3) := by decide +kernel
theorem dX5_readNumber_16 : decode cX5_readNumber 16 = .ok (.iload_n 2, 1) := by decide +kernel
theorem dX5_readNumber_17 : decode cX5_readNumber 17 = .ok (.iload_n 3, 1) := by decide +kernel
theorem dX5_readNumber_18 : decode cX5_readNumber 18 = .ok (.invokestatic 94, 3) := by decide +kernel
theorem dX5_readNumber_21 : decode cX5_readNumber 21 = .ok (.ifCond .eq 16, 3) := by decide +kernel
theorem dX5_readNumber_24 : decode cX5_readNumber 24 = .ok (.iload_n 1, 1) := by decide +kernel
theorem dX5_readNumber_25 : decode cX5_readNumber 25 = .ok (.ifCond .lt 12, 3) := by decide +kernel
theorem dX5_readNumber_28 : decode cX5_readNumber 28 = .ok (.iload_n 1, 1) := by decide +kernel
theorem dX5_readNumber_29 : decode cX5_readNumber 29 = .ok (.aload_n 0, 1) := by decide +kernel
theorem dX5_readNumber_30 : decode cX5_readNumber 30 = .ok (.getfield 22, 3) := by decide +kernel
theorem dX5_readNumber_33 : decode cX5_readNumber 33 = .ok (.arraylength, 1) := by decide +kernel
theorem dX5_readNumber_34 : decode cX5_readNumber 34 = .ok (.if_icmp .lt 5, 3) := by decide +kernel
theorem dX5_readNumber_37 : decode cX5_readNumber 37 = .ok (.iconst 0, 1) := by decide +kernel
theorem dX5_readNumber_38 : decode cX5_readNumber 38 = .ok (.ireturn, 1) := by decide +kernel
theorem dX5_readNumber_39 : decode cX5_readNumber 39 = .ok (.aload_n 0, 1) := by decide +kernel
theorem dX5_readNumber_40 : decode cX5_readNumber 40 = .ok (.getfield 22, 3) := by decide +kernel
theorem dX5_readNumber_43 : decode cX5_readNumber 43 = .ok (.iload_n 1, 1) := by decide +kernel
theorem dX5_readNumber_44 : decode cX5_readNumber 44 = .ok (.aload_n 0, 1) := by decide +kernel
theorem dX5_readNumber_45 : decode cX5_readNumber 45 = .ok (.getfield 91, 3) := by decide +kernel
theorem dX5_readNumber_48 : decode cX5_readNumber 48 = .ok (.iastore, 1) := by decide +kernel
theorem dX5_readNumber_49 : decode cX5_readNumber 49 = .ok (.iconst 1, 1) := by decide +kernel
theorem dX5_readNumber_50 : decode cX5_readNumber 50 = .ok (.ireturn, 1) := by decide +kernel
theorem dX5_readStop_0 : decode cX5_readStop 0 = .ok (.aload_n 0, 1) := by decide +kernel
theorem dX5_readStop_1 : decode cX5_readStop 1 = .ok (.invokevirtual 45, 3) := by decide +kernel
theorem dX5_readStop_4 : decode cX5_readStop 4 = .ok (.aload_n 0, 1) := by decide +kernel
theorem dX5_readStop_5 : decode cX5_readStop 5 = .ok (.getfield 48, 3) := by decide +kernel
theorem dX5_readStop_8 : decode cX5_readStop 8 = .ok (.iconst 3, 1) := by decide +kernel
theorem dX5_readStop_9 : decode cX5_readStop 9 = .ok (.if_icmp .ne 7, 3) := by decide +kernel
theorem dX5_readStop_12 : decode cX5_readStop 12 = .ok (.iconst 1, 1) := by decide +kernel
theorem dX5_readStop_13 : decode cX5_readStop 13 = .ok (.goto 4, 3) := by decide +kernel
theorem dX5_readStop_16 : decode cX5_readStop 16 = .ok (.iconst 0, 1) := by decide +kernel
theorem dX5_readStop_17 : decode cX5_readStop 17 = .ok (.ireturn, 1) := by decide +kernel
theorem dX5_isWord_0 : decode cX5_isWord 0 = .ok (.aload_n 0, 1) := by decide +kernel
theorem dX5_isWord_1 : decode cX5_isWord 1 = .ok (.getfield 48, 3) := by decide +kernel
theorem dX5_isWord_4 : decode cX5_isWord 4 = .ok (.iconst 1, 1) := by decide +kernel
theorem dX5_isWord_5 : decode cX5_isWord 5 = .ok (.if_icmp .ne 19, 3) := by decide +kernel
theorem dX5_isWord_8 : decode cX5_isWord 8 = .ok (.aload_n 0, 1) := by decide +kernel
theorem dX5_isWord_9 : decode cX5_isWord 9 = .ok (.getfield 29, 3) := by decide +kernel
theorem dX5_isWord_12 : decode cX5_isWord 12 = .ok (.aload_n 0, 1) := by decide +kernel
theorem dX5_isWord_13 : decode cX5_isWord 13 = .ok (.getfield 42, 3) := by decide +kernel
theorem dX5_isWord_16 : decode cX5_isWord 16 = .ok (.isub, 1) := by decide +kernel
theorem dX5_isWord_17 : decode cX5_isWord 17 = .ok (.aload_n 1, 1) := by decide +kernel
theorem dX5_isWord_18 : decode cX5_isWord 18 = .ok (.invokevirtual 97, 3) := by decide +kernel
theorem dX5_isWord_21 : decode cX5_isWord 21 = .ok (.if_icmp .eq 5, 3) := by decide +kernel
theorem dX5_isWord_24 : decode cX5_isWord 24 = .ok (.iconst 0, 1) := by decide +kernel
theorem dX5_isWord_25 : decode cX5_isWord 25 = .ok (.ireturn, 1) := by decide +kernel
theorem dX5_isWord_26 : decode cX5_isWord 26 = .ok (.iconst 0, 1) := by decide +kernel
theorem dX5_isWord_27 : decode cX5_isWord 27 = .ok (.istore_n 2, 1) := by decide +kernel
theorem dX5_isWord_28 : decode cX5_isWord 28 = .ok (.iload_n 2, 1) := by decide +kernel
theorem dX5_isWord_29 : decode cX5_isWord 29 = .ok (.aload_n 1, 1) := by decide +kernel
theorem dX5_isWord_30 : decode cX5_isWord 30 = .ok (.invokevirtual 97, 3) := by decide +kernel
theorem dX5_isWord_33 : decode cX5_isWord 33 = .ok (.if_icmp .ge 29, 3) := by decide +kernel
theorem dX5_isWord_36 : decode cX5_isWord 36 = .ok (.aload_n 0, 1) := by decide +kernel
theorem dX5_isWord_37 : decode cX5_isWord 37 = .ok (.aload_n 0, 1) := by decide +kernel
theorem dX5_isWord_38 : decode cX5_isWord 38 = .ok (.getfield 42, 3) := by decide +kernel
theorem dX5_isWord_41 : decode cX5_isWord 41 = .ok (.iload_n 2, 1) := by decide +kernel
theorem dX5_isWord_42 : decode cX5_isWord 42 = .ok (.iadd, 1) := by decide +kernel
theorem dX5_isWord_43 : decode cX5_isWord 43 = .ok (.invokevirtual 84, 3) := by decide +kernel
theorem dX5_isWord_46 : decode cX5_isWord 46 = .ok (.aload_n 1, 1) := by decide +kernel
theorem dX5_isWord_47 : decode cX5_isWord 47 = .ok (.iload_n 2, 1) := by decide +kernel
theorem dX5_isWord_48 : decode cX5_isWord 48 = .ok (.invokevirtual 102, 3) := by decide +kernel
theorem dX5_isWord_51 : decode cX5_isWord 51 = .ok (.if_icmp .eq 5, 3) := by decide +kernel
theorem dX5_isWord_54 : decode cX5_isWord 54 = .ok (.iconst 0, 1) := by decide +kernel
theorem dX5_isWord_55 : decode cX5_isWord 55 = .ok (.ireturn, 1) := by decide +kernel
theorem dX5_isWord_56 : decode cX5_isWord 56 = .ok (.iinc 2 1, 3) := by decide +kernel
theorem dX5_isWord_59 : decode cX5_isWord 59 = .ok (.goto (-31), 3) := by decide +kernel
theorem dX5_isWord_62 : decode cX5_isWord 62 = .ok (.iconst 1, 1) := by decide +kernel
theorem dX5_isWord_63 : decode cX5_isWord 63 = .ok (.ireturn, 1) := by decide +kernel
theorem dX5_readToken_0 : decode cX5_readToken 0 = .ok (.aload_n 0, 1) := by decide +kernel
theorem dX5_readToken_1 : decode cX5_readToken 1 = .ok (.aload_n 0, 1) := by decide +kernel
theorem dX5_readToken_2 : decode cX5_readToken 2 = .ok (.getfield 29, 3) := by decide +kernel
theorem dX5_readToken_5 : decode cX5_readToken 5 = .ok (.putfield 42, 3) := by decide +kernel
theorem dX5_readToken_8 : decode cX5_readToken 8 = .ok (.aload_n 0, 1) := by decide +kernel
theorem dX5_readToken_9 : decode cX5_readToken 9 = .ok (.getfield 42, 3) := by decide +kernel
theorem dX5_readToken_12 : decode cX5_readToken 12 = .ok (.aload_n 0, 1) := by decide +kernel
theorem dX5_readToken_13 : decode cX5_readToken 13 = .ok (.getfield 25, 3) := by decide +kernel
theorem dX5_readToken_16 : decode cX5_readToken 16 = .ok (.if_icmp .ge 29, 3) := by decide +kernel
theorem dX5_readToken_19 : decode cX5_readToken 19 = .ok (.aload_n 0, 1) := by decide +kernel
theorem dX5_readToken_20 : decode cX5_readToken 20 = .ok (.aload_n 0, 1) := by decide +kernel
theorem dX5_readToken_21 : decode cX5_readToken 21 = .ok (.getfield 42, 3) := by decide +kernel
theorem dX5_readToken_24 : decode cX5_readToken 24 = .ok (.invokevirtual 84, 3) := by decide +kernel
theorem dX5_readToken_27 : decode cX5_readToken 27 = .ok (.bipush 32, 2) := by decide +kernel
theorem dX5_readToken_29 : decode cX5_readToken 29 = .ok (.if_icmp .ne 16, 3) := by decide +kernel
theorem dX5_readToken_32 : decode cX5_readToken 32 = .ok (.aload_n 0, 1) := by decide +kernel
theorem dX5_readToken_33 : decode cX5_readToken 33 = .ok (.dup, 1) := by decide +kernel
theorem dX5_readToken_34 : decode cX5_readToken 34 = .ok (.getfield 42, 3) := by decide +kernel
theorem dX5_readToken_37 : decode cX5_readToken 37 = .ok (.iconst 1, 1) := by decide +kernel
theorem dX5_readToken_38 : decode cX5_readToken 38 = .ok (.iadd, 1) := by decide +kernel
theorem dX5_readToken_39 : decode cX5_readToken 39 = .ok (.putfield 42, 3) := by decide +kernel
theorem dX5_readToken_42 : decode cX5_readToken 42 = .ok (.goto (-34), 3) := by decide +kernel
theorem dX5_readToken_45 : decode cX5_readToken 45 = .ok (.aload_n 0, 1) := by decide +kernel
theorem dX5_readToken_46 : decode cX5_readToken 46 = .ok (.getfield 42, 3) := by decide +kernel
theorem dX5_readToken_49 : decode cX5_readToken 49 = .ok (.aload_n 0, 1) := by decide +kernel
theorem dX5_readToken_50 : decode cX5_readToken 50 = .ok (.getfield 25, 3) := by decide +kernel
theorem dX5_readToken_53 : decode cX5_readToken 53 = .ok (.if_icmp .lt 17, 3) := by decide +kernel
theorem dX5_readToken_56 : decode cX5_readToken 56 = .ok (.aload_n 0, 1) := by decide +kernel
theorem dX5_readToken_57 : decode cX5_readToken 57 = .ok (.iconst 0, 1) := by decide +kernel
theorem dX5_readToken_58 : decode cX5_readToken 58 = .ok (.putfield 48, 3) := by decide +kernel
theorem dX5_readToken_61 : decode cX5_readToken 61 = .ok (.aload_n 0, 1) := by decide +kernel
theorem dX5_readToken_62 : decode cX5_readToken 62 = .ok (.aload_n 0, 1) := by decide +kernel
theorem dX5_readToken_63 : decode cX5_readToken 63 = .ok (.getfield 42, 3) := by decide +kernel
theorem dX5_readToken_66 : decode cX5_readToken 66 = .ok (.putfield 29, 3) := by decide +kernel
theorem dX5_readToken_69 : decode cX5_readToken 69 = .ok (.return_, 1) := by decide +kernel
theorem dX5_readToken_70 : decode cX5_readToken 70 = .ok (.aload_n 0, 1) := by decide +kernel
theorem dX5_readToken_71 : decode cX5_readToken 71 = .ok (.aload_n 0, 1) := by decide +kernel
theorem dX5_readToken_72 : decode cX5_readToken 72 = .ok (.getfield 42, 3) := by decide +kernel
theorem dX5_readToken_75 : decode cX5_readToken 75 = .ok (.iconst 1, 1) := by decide +kernel
theorem dX5_readToken_76 : decode cX5_readToken 76 = .ok (.iadd, 1) := by decide +kernel
theorem dX5_readToken_77 : decode cX5_readToken 77 = .ok (.putfield 29, 3) := by decide +kernel
theorem dX5_readToken_80 : decode cX5_readToken 80 = .ok (.aload_n 0, 1) := by decide +kernel
theorem dX5_readToken_81 : decode cX5_readToken 81 = .ok (.aload_n 0, 1) := by decide +kernel
theorem dX5_readToken_82 : decode cX5_readToken 82 = .ok (.getfield 42, 3) := by decide +kernel
theorem dX5_readToken_85 : decode cX5_readToken 85 = .ok (.invokevirtual 84, 3) := by decide +kernel
theorem dX5_readToken_88 : decode cX5_readToken 88 = .ok (.invokestatic 106, 3) := by decide +kernel
theorem dX5_readToken_91 : decode cX5_readToken 91 = .ok (.ifCond .eq 46, 3) := by decide +kernel
theorem dX5_readToken_94 : decode cX5_readToken 94 = .ok (.aload_n 0, 1) := by decide +kernel
theorem dX5_readToken_95 : decode cX5_readToken 95 = .ok (.iconst 1, 1) := by decide +kernel
theorem dX5_readToken_96 : decode cX5_readToken 96 = .ok (.putfield 48, 3) := by decide +kernel
theorem dX5_readToken_99 : decode cX5_readToken 99 = .ok (.aload_n 0, 1) := by decide +kernel
theorem dX5_readToken_100 : decode cX5_readToken 100 = .ok (.getfield 29, 3) := by decide +kernel
theorem dX5_readToken_103 : decode cX5_readToken 103 = .ok (.aload_n 0, 1) := by decide +kernel
theorem dX5_readToken_104 : decode cX5_readToken 104 = .ok (.getfield 25, 3) := by decide +kernel
theorem dX5_readToken_107 : decode cX5_readToken 107 = .ok (.if_icmp .ge 73, 3) := by decide +kernel
theorem dX5_readToken_110 : decode cX5_readToken 110 = .ok (.aload_n 0, 1) := by decide +kernel
theorem dX5_readToken_111 : decode cX5_readToken 111 = .ok (.aload_n 0, 1) := by decide +kernel
theorem dX5_readToken_112 : decode cX5_readToken 112 = .ok (.getfield 29, 3) := by decide +kernel
theorem dX5_readToken_115 : decode cX5_readToken 115 = .ok (.invokevirtual 84, 3) := by decide +kernel
theorem dX5_readToken_118 : decode cX5_readToken 118 = .ok (.invokestatic 106, 3) := by decide +kernel
theorem dX5_readToken_121 : decode cX5_readToken 121 = .ok (.ifCond .eq 59, 3) := by decide +kernel
theorem dX5_readToken_124 : decode cX5_readToken 124 = .ok (.aload_n 0, 1) := by decide +kernel
theorem dX5_readToken_125 : decode cX5_readToken 125 = .ok (.dup, 1) := by decide +kernel
theorem dX5_readToken_126 : decode cX5_readToken 126 = .ok (.getfield 29, 3) := by decide +kernel
theorem dX5_readToken_129 : decode cX5_readToken 129 = .ok (.iconst 1, 1) := by decide +kernel
theorem dX5_readToken_130 : decode cX5_readToken 130 = .ok (.iadd, 1) := by decide +kernel
theorem dX5_readToken_131 : decode cX5_readToken 131 = .ok (.putfield 29, 3) := by decide +kernel
theorem dX5_readToken_134 : decode cX5_readToken 134 = .ok (.goto (-35), 3) := by decide +kernel
theorem dX5_readToken_137 : decode cX5_readToken 137 = .ok (.aload_n 0, 1) := by decide +kernel
theorem dX5_readToken_138 : decode cX5_readToken 138 = .ok (.aload_n 0, 1) := by decide +kernel
theorem dX5_readToken_139 : decode cX5_readToken 139 = .ok (.getfield 42, 3) := by decide +kernel
theorem dX5_readToken_142 : decode cX5_readToken 142 = .ok (.invokevirtual 84, 3) := by decide +kernel
theorem dX5_readToken_145 : decode cX5_readToken 145 = .ok (.invokestatic 110, 3) := by decide +kernel
theorem dX5_readToken_148 : decode cX5_readToken 148 = .ok (.ifCond .eq 10, 3) := by decide +kernel
theorem dX5_readToken_151 : decode cX5_readToken 151 = .ok (.aload_n 0, 1) := by decide +kernel
theorem dX5_readToken_152 : decode cX5_readToken 152 = .ok (.invokevirtual 113, 3) := by decide +kernel
theorem dX5_readToken_155 : decode cX5_readToken 155 = .ok (.goto 25, 3) := by decide +kernel
theorem dX5_readToken_158 : decode cX5_readToken 158 = .ok (.aload_n 0, 1) := by decide +kernel
theorem dX5_readToken_159 : decode cX5_readToken 159 = .ok (.aload_n 0, 1) := by decide +kernel
theorem dX5_readToken_160 : decode cX5_readToken 160 = .ok (.aload_n 0, 1) := by decide +kernel
theorem dX5_readToken_161 : decode cX5_readToken 161 = .ok (.getfield 42, 3) := by decide +kernel
theorem dX5_readToken_164 : decode cX5_readToken 164 = .ok (.invokevirtual 84, 3) := by decide +kernel
theorem dX5_readToken_167 : decode cX5_readToken 167 = .ok (.bipush 59, 2) := by decide +kernel
theorem dX5_readToken_169 : decode cX5_readToken 169 = .ok (.if_icmp .ne 7, 3) := by decide +kernel
theorem dX5_readToken_172 : decode cX5_readToken 172 = .ok (.iconst 3, 1) := by decide +kernel
theorem dX5_readToken_173 : decode cX5_readToken 173 = .ok (.goto 4, 3) := by decide +kernel
theorem dX5_readToken_176 : decode cX5_readToken 176 = .ok (.iconst 4, 1) := by decide +kernel
theorem dX5_readToken_177 : decode cX5_readToken 177 = .ok (.putfield 48, 3) := by decide +kernel
theorem dX5_readToken_180 : decode cX5_readToken 180 = .ok (.return_, 1) := by decide +kernel
theorem dX5_readFigures_0 : decode cX5_readFigures 0 = .ok (.aload_n 0, 1) := by decide +kernel
theorem dX5_readFigures_1 : decode cX5_readFigures 1 = .ok (.aload_n 0, 1) := by decide +kernel
theorem dX5_readFigures_2 : decode cX5_readFigures 2 = .ok (.aload_n 0, 1) := by decide +kernel
theorem dX5_readFigures_3 : decode cX5_readFigures 3 = .ok (.getfield 42, 3) := by decide +kernel
theorem dX5_readFigures_6 : decode cX5_readFigures 6 = .ok (.invokevirtual 84, 3) := by decide +kernel
theorem dX5_readFigures_9 : decode cX5_readFigures 9 = .ok (.bipush 48, 2) := by decide +kernel
theorem dX5_readFigures_11 : decode cX5_readFigures 11 = .ok (.isub, 1) := by decide +kernel
theorem dX5_readFigures_12 : decode cX5_readFigures 12 = .ok (.putfield 91, 3) := by decide +kernel
theorem dX5_readFigures_15 : decode cX5_readFigures 15 = .ok (.aload_n 0, 1) := by decide +kernel
theorem dX5_readFigures_16 : decode cX5_readFigures 16 = .ok (.getfield 29, 3) := by decide +kernel
theorem dX5_readFigures_19 : decode cX5_readFigures 19 = .ok (.aload_n 0, 1) := by decide +kernel
theorem dX5_readFigures_20 : decode cX5_readFigures 20 = .ok (.getfield 25, 3) := by decide +kernel
theorem dX5_readFigures_23 : decode cX5_readFigures 23 = .ok (.if_icmp .ge 62, 3) := by decide +kernel
theorem dX5_readFigures_26 : decode cX5_readFigures 26 = .ok (.aload_n 0, 1) := by decide +kernel
theorem dX5_readFigures_27 : decode cX5_readFigures 27 = .ok (.aload_n 0, 1) := by decide +kernel
theorem dX5_readFigures_28 : decode cX5_readFigures 28 = .ok (.getfield 29, 3) := by decide +kernel
theorem dX5_readFigures_31 : decode cX5_readFigures 31 = .ok (.invokevirtual 84, 3) := by decide +kernel
theorem dX5_readFigures_34 : decode cX5_readFigures 34 = .ok (.invokestatic 110, 3) := by decide +kernel
theorem dX5_readFigures_37 : decode cX5_readFigures 37 = .ok (.ifCond .eq 48, 3) := by decide +kernel
theorem dX5_readFigures_40 : decode cX5_readFigures 40 = .ok (.aload_n 0, 1) := by decide +kernel
theorem dX5_readFigures_41 : decode cX5_readFigures 41 = .ok (.getfield 91, 3) := by decide +kernel
theorem dX5_readFigures_44 : decode cX5_readFigures 44 = .ok (.ldc 116, 2) := by decide +kernel
theorem dX5_readFigures_46 : decode cX5_readFigures 46 = .ok (.if_icmp .gt 26, 3) := by decide +kernel
theorem dX5_readFigures_49 : decode cX5_readFigures 49 = .ok (.aload_n 0, 1) := by decide +kernel
theorem dX5_readFigures_50 : decode cX5_readFigures 50 = .ok (.bipush 10, 2) := by decide +kernel
theorem dX5_readFigures_52 : decode cX5_readFigures 52 = .ok (.aload_n 0, 1) := by decide +kernel
theorem dX5_readFigures_53 : decode cX5_readFigures 53 = .ok (.getfield 91, 3) := by decide +kernel
theorem dX5_readFigures_56 : decode cX5_readFigures 56 = .ok (.imul, 1) := by decide +kernel
theorem dX5_readFigures_57 : decode cX5_readFigures 57 = .ok (.aload_n 0, 1) := by decide +kernel
theorem dX5_readFigures_58 : decode cX5_readFigures 58 = .ok (.aload_n 0, 1) := by decide +kernel
theorem dX5_readFigures_59 : decode cX5_readFigures 59 = .ok (.getfield 29, 3) := by decide +kernel
theorem dX5_readFigures_62 : decode cX5_readFigures 62 = .ok (.invokevirtual 84, 3) := by decide +kernel
theorem dX5_readFigures_65 : decode cX5_readFigures 65 = .ok (.iadd, 1) := by decide +kernel
theorem dX5_readFigures_66 : decode cX5_readFigures 66 = .ok (.bipush 48, 2) := by decide +kernel
theorem dX5_readFigures_68 : decode cX5_readFigures 68 = .ok (.isub, 1) := by decide +kernel
theorem dX5_readFigures_69 : decode cX5_readFigures 69 = .ok (.putfield 91, 3) := by decide +kernel
theorem dX5_readFigures_72 : decode cX5_readFigures 72 = .ok (.aload_n 0, 1) := by decide +kernel
theorem dX5_readFigures_73 : decode cX5_readFigures 73 = .ok (.dup, 1) := by decide +kernel
theorem dX5_readFigures_74 : decode cX5_readFigures 74 = .ok (.getfield 29, 3) := by decide +kernel
theorem dX5_readFigures_77 : decode cX5_readFigures 77 = .ok (.iconst 1, 1) := by decide +kernel
theorem dX5_readFigures_78 : decode cX5_readFigures 78 = .ok (.iadd, 1) := by decide +kernel
theorem dX5_readFigures_79 : decode cX5_readFigures 79 = .ok (.putfield 29, 3) := by decide +kernel
theorem dX5_readFigures_82 : decode cX5_readFigures 82 = .ok (.goto (-67), 3) := by decide +kernel
theorem dX5_readFigures_85 : decode cX5_readFigures 85 = .ok (.aload_n 0, 1) := by decide +kernel
theorem dX5_readFigures_86 : decode cX5_readFigures 86 = .ok (.aload_n 0, 1) := by decide +kernel
theorem dX5_readFigures_87 : decode cX5_readFigures 87 = .ok (.getfield 42, 3) := by decide +kernel
theorem dX5_readFigures_90 : decode cX5_readFigures 90 = .ok (.invokevirtual 84, 3) := by decide +kernel
theorem dX5_readFigures_93 : decode cX5_readFigures 93 = .ok (.bipush 48, 2) := by decide +kernel
theorem dX5_readFigures_95 : decode cX5_readFigures 95 = .ok (.if_icmp .ne 20, 3) := by decide +kernel
theorem dX5_readFigures_98 : decode cX5_readFigures 98 = .ok (.aload_n 0, 1) := by decide +kernel
theorem dX5_readFigures_99 : decode cX5_readFigures 99 = .ok (.getfield 29, 3) := by decide +kernel
theorem dX5_readFigures_102 : decode cX5_readFigures 102 = .ok (.aload_n 0, 1) := by decide +kernel
theorem dX5_readFigures_103 : decode cX5_readFigures 103 = .ok (.getfield 42, 3) := by decide +kernel
theorem dX5_readFigures_106 : decode cX5_readFigures 106 = .ok (.isub, 1) := by decide +kernel
theorem dX5_readFigures_107 : decode cX5_readFigures 107 = .ok (.iconst 1, 1) := by decide +kernel
theorem dX5_readFigures_108 : decode cX5_readFigures 108 = .ok (.if_icmp .le 7, 3) := by decide +kernel
theorem dX5_readFigures_111 : decode cX5_readFigures 111 = .ok (.iconst 1, 1) := by decide +kernel
theorem dX5_readFigures_112 : decode cX5_readFigures 112 = .ok (.goto 4, 3) := by decide +kernel
theorem dX5_readFigures_115 : decode cX5_readFigures 115 = .ok (.iconst 0, 1) := by decide +kernel
theorem dX5_readFigures_116 : decode cX5_readFigures 116 = .ok (.istore_n 1, 1) := by decide +kernel
theorem dX5_readFigures_117 : decode cX5_readFigures 117 = .ok (.aload_n 0, 1) := by decide +kernel
theorem dX5_readFigures_118 : decode cX5_readFigures 118 = .ok (.aload_n 0, 1) := by decide +kernel
theorem dX5_readFigures_119 : decode cX5_readFigures 119 = .ok (.getfield 91, 3) := by decide +kernel
theorem dX5_readFigures_122 : decode cX5_readFigures 122 = .ok (.ldc 116, 2) := by decide +kernel
theorem dX5_readFigures_124 : decode cX5_readFigures 124 = .ok (.if_icmp .gt 7, 3) := by decide +kernel
theorem dX5_readFigures_127 : decode cX5_readFigures 127 = .ok (.iload_n 1, 1) := by decide +kernel
theorem dX5_readFigures_128 : decode cX5_readFigures 128 = .ok (.ifCond .eq 7, 3) := by decide +kernel
theorem dX5_readFigures_131 : decode cX5_readFigures 131 = .ok (.iconst 4, 1) := by decide +kernel
theorem dX5_readFigures_132 : decode cX5_readFigures 132 = .ok (.goto 4, 3) := by decide +kernel
theorem dX5_readFigures_135 : decode cX5_readFigures 135 = .ok (.iconst 2, 1) := by decide +kernel
theorem dX5_readFigures_136 : decode cX5_readFigures 136 = .ok (.putfield 48, 3) := by decide +kernel
theorem dX5_readFigures_139 : decode cX5_readFigures 139 = .ok (.return_, 1) := by decide +kernel
theorem dX5_isFigure_0 : decode cX5_isFigure 0 = .ok (.iload_n 0, 1) := by decide +kernel
theorem dX5_isFigure_1 : decode cX5_isFigure 1 = .ok (.bipush 48, 2) := by decide +kernel
theorem dX5_isFigure_3 : decode cX5_isFigure 3 = .ok (.if_icmp .lt 13, 3) := by decide +kernel
theorem dX5_isFigure_6 : decode cX5_isFigure 6 = .ok (.iload_n 0, 1) := by decide +kernel
theorem dX5_isFigure_7 : decode cX5_isFigure 7 = .ok (.bipush 57, 2) := by decide +kernel
theorem dX5_isFigure_9 : decode cX5_isFigure 9 = .ok (.if_icmp .gt 7, 3) := by decide +kernel
theorem dX5_isFigure_12 : decode cX5_isFigure 12 = .ok (.iconst 1, 1) := by decide +kernel
theorem dX5_isFigure_13 : decode cX5_isFigure 13 = .ok (.goto 4, 3) := by decide +kernel
theorem dX5_isFigure_16 : decode cX5_isFigure 16 = .ok (.iconst 0, 1) := by decide +kernel
theorem dX5_isFigure_17 : decode cX5_isFigure 17 = .ok (.ireturn, 1) := by decide +kernel
theorem dX6_init_0 : decode cX6_init 0 = .ok (.aload_n 0, 1) := by decide +kernel
theorem dX6_init_1 : decode cX6_init 1 = .ok (.invokespecial 3, 3) := by decide +kernel
theorem dX6_init_4 : decode cX6_init 4 = .ok (.aload_n 0, 1) := by decide +kernel
theorem dX6_init_5 : decode cX6_init 5 = .ok (.bipush 32, 2) := by decide +kernel
theorem dX6_init_7 : decode cX6_init 7 = .ok (.anewarray 9, 3) := by decide +kernel
theorem dX6_init_10 : decode cX6_init 10 = .ok (.putfield 11, 3) := by decide +kernel
theorem dX6_init_13 : decode cX6_init 13 = .ok (.aload_n 0, 1) := by decide +kernel
theorem dX6_init_14 : decode cX6_init 14 = .ok (.new 9, 3) := by decide +kernel
theorem dX6_init_17 : decode cX6_init 17 = .ok (.dup, 1) := by decide +kernel
theorem dX6_init_18 : decode cX6_init 18 = .ok (.bipush 64, 2) := by decide +kernel
theorem dX6_init_20 : decode cX6_init 20 = .ok (.invokespecial 17, 3) := by decide +kernel
theorem dX6_init_23 : decode cX6_init 23 = .ok (.putfield 20, 3) := by decide +kernel
theorem dX6_init_26 : decode cX6_init 26 = .ok (.aload_n 0, 1) := by decide +kernel
theorem dX6_init_27 : decode cX6_init 27 = .ok (.bipush 32, 2) := by decide +kernel
theorem dX6_init_29 : decode cX6_init 29 = .ok (.newarray .int, 2) := by decide +kernel
theorem dX6_init_31 : decode cX6_init 31 = .ok (.putfield 24, 3) := by decide +kernel
theorem dX6_init_34 : decode cX6_init 34 = .ok (.aload_n 0, 1) := by decide +kernel
theorem dX6_init_35 : decode cX6_init 35 = .ok (.bipush 32, 2) := by decide +kernel
theorem dX6_init_37 : decode cX6_init 37 = .ok (.newarray .int, 2) := by decide +kernel
theorem dX6_init_39 : decode cX6_init 39 = .ok (.putfield 28, 3) := by decide +kernel
theorem dX6_init_42 : decode cX6_init 42 = .ok (.aload_n 0, 1) := by decide +kernel
theorem dX6_init_43 : decode cX6_init 43 = .ok (.iconst 1, 1) := by decide +kernel
theorem dX6_init_44 : decode cX6_init 44 = .ok (.putfield 31, 3) := by decide +kernel
theorem dX6_init_47 : decode cX6_init 47 = .ok (.iconst 0, 1) := by decide +kernel
theorem dX6_init_48 : decode cX6_init 48 = .ok (.istore_n 1, 1) := by decide +kernel
theorem dX6_init_49 : decode cX6_init 49 = .ok (.iload_n 1, 1) := by decide +kernel
theorem dX6_init_50 : decode cX6_init 50 = .ok (.bipush 32, 2) := by decide +kernel
theorem dX6_init_52 : decode cX6_init 52 = .ok (.if_icmp .ge 24, 3) := by decide +kernel
theorem dX6_init_55 : decode cX6_init 55 = .ok (.aload_n 0, 1) := by decide +kernel
theorem dX6_init_56 : decode cX6_init 56 = .ok (.getfield 11, 3) := by decide +kernel
theorem dX6_init_59 : decode cX6_init 59 = .ok (.iload_n 1, 1) := by decide +kernel
theorem dX6_init_60 : decode cX6_init 60 = .ok (.new 9, 3) := by decide +kernel
theorem dX6_init_63 : decode cX6_init 63 = .ok (.dup, 1) := by decide +kernel
theorem dX6_init_64 : decode cX6_init 64 = .ok (.bipush 64, 2) := by decide +kernel
theorem dX6_init_66 : decode cX6_init 66 = .ok (.invokespecial 17, 3) := by decide +kernel
theorem dX6_init_69 : decode cX6_init 69 = .ok (.aastore, 1) := by decide +kernel
theorem dX6_init_70 : decode cX6_init 70 = .ok (.iinc 1 1, 3) := by decide +kernel
theorem dX6_init_73 : decode cX6_init 73 = .ok (.goto (-24), 3) := by decide +kernel
theorem dX6_init_76 : decode cX6_init 76 = .ok (.aload_n 0, 1) := by decide +kernel
theorem dX6_init_77 : decode cX6_init 77 = .ok (.getfield 11, 3) := by decide +kernel
theorem dX6_init_80 : decode cX6_init 80 = .ok (.iconst 0, 1) := by decide +kernel
theorem dX6_init_81 : decode cX6_init 81 = .ok (.aaload, 1) := by decide +kernel
theorem dX6_init_82 : decode cX6_init 82 = .ok (.iconst 1, 1) := by decide +kernel
theorem dX6_init_83 : decode cX6_init 83 = .ok (.iconst 0, 1) := by decide +kernel
theorem dX6_init_84 : decode cX6_init 84 = .ok (.invokevirtual 35, 3) := by decide +kernel
theorem dX6_init_87 : decode cX6_init 87 = .ok (.return_, 1) := by decide +kernel
theorem dX6_pageOf_0 : decode cX6_pageOf 0 = .ok (.iload_n 1, 1) := by decide +kernel
theorem dX6_pageOf_1 : decode cX6_pageOf 1 = .ok (.ifCond .lt 21, 3) := by decide +kernel
theorem dX6_pageOf_4 : decode cX6_pageOf 4 = .ok (.iload_n 1, 1) := by decide +kernel
theorem dX6_pageOf_5 : decode cX6_pageOf 5 = .ok (.aload_n 0, 1) := by decide +kernel
theorem dX6_pageOf_6 : decode cX6_pageOf 6 = .ok (.getfield 11, 3) := by decide +kernel
theorem dX6_pageOf_9 : decode cX6_pageOf 9 = .ok (.arraylength, 1) := by decide +kernel
theorem dX6_pageOf_10 : decode cX6_pageOf 10 = .ok (.if_icmp .ge 12, 3) := by decide +kernel
theorem dX6_pageOf_13 : decode cX6_pageOf 13 = .ok (.aload_n 0, 1) := by decide +kernel
theorem dX6_pageOf_14 : decode cX6_pageOf 14 = .ok (.getfield 11, 3) := by decide +kernel
theorem dX6_pageOf_17 : decode cX6_pageOf 17 = .ok (.iload_n 1, 1) := by decide +kernel
theorem dX6_pageOf_18 : decode cX6_pageOf 18 = .ok (.aaload, 1) := by decide +kernel
theorem dX6_pageOf_19 : decode cX6_pageOf 19 = .ok (.goto 7, 3) := by decide +kernel
theorem dX6_pageOf_22 : decode cX6_pageOf 22 = .ok (.aload_n 0, 1) := by decide +kernel
theorem dX6_pageOf_23 : decode cX6_pageOf 23 = .ok (.getfield 20, 3) := by decide +kernel
theorem dX6_pageOf_26 : decode cX6_pageOf 26 = .ok (.areturn, 1) := by decide +kernel
theorem dX6_lowestFree_0 : decode cX6_lowestFree 0 = .ok (.iconst 0, 1) := by decide +kernel
theorem dX6_lowestFree_1 : decode cX6_lowestFree 1 = .ok (.istore_n 1, 1) := by decide +kernel
theorem dX6_lowestFree_2 : decode cX6_lowestFree 2 = .ok (.iload_n 1, 1) := by decide +kernel
theorem dX6_lowestFree_3 : decode cX6_lowestFree 3 = .ok (.bipush 32, 2) := by decide +kernel
theorem dX6_lowestFree_5 : decode cX6_lowestFree 5 = .ok (.if_icmp .ge 20, 3) := by decide +kernel
theorem dX6_lowestFree_8 : decode cX6_lowestFree 8 = .ok (.aload_n 0, 1) := by decide +kernel
theorem dX6_lowestFree_9 : decode cX6_lowestFree 9 = .ok (.iload_n 1, 1) := by decide +kernel
theorem dX6_lowestFree_10 : decode cX6_lowestFree 10 = .ok (.invokevirtual 39, 3) := by decide +kernel
theorem dX6_lowestFree_13 : decode cX6_lowestFree 13 = .ok (.invokevirtual 43, 3) := by decide +kernel
theorem dX6_lowestFree_16 : decode cX6_lowestFree 16 = .ok (.ifCond .eq 9, 3) := by decide +kernel
theorem dX6_lowestFree_19 : decode cX6_lowestFree 19 = .ok (.iinc 1 1, 3) := by decide +kernel
theorem dX6_lowestFree_22 : decode cX6_lowestFree 22 = .ok (.goto (-20), 3) := by decide +kernel
theorem dX6_lowestFree_25 : decode cX6_lowestFree 25 = .ok (.iload_n 1, 1) := by decide +kernel
theorem dX6_lowestFree_26 : decode cX6_lowestFree 26 = .ok (.ireturn, 1) := by decide +kernel
theorem dX6_goDown_0 : decode cX6_goDown 0 = .ok (.aload_n 0, 1) := by decide +kernel
theorem dX6_goDown_1 : decode cX6_goDown 1 = .ok (.getfield 24, 3) := by decide +kernel
theorem dX6_goDown_4 : decode cX6_goDown 4 = .ok (.iconst 0, 1) := by decide +kernel
theorem dX6_goDown_5 : decode cX6_goDown 5 = .ok (.aload_n 0, 1) := by decide +kernel
theorem dX6_goDown_6 : decode cX6_goDown 6 = .ok (.getfield 47, 3) := by decide +kernel
theorem dX6_goDown_9 : decode cX6_goDown 9 = .ok (.iastore, 1) := by decide +kernel
theorem dX6_goDown_10 : decode cX6_goDown 10 = .ok (.iconst 1, 1) := by decide +kernel
theorem dX6_goDown_11 : decode cX6_goDown 11 = .ok (.istore_n 2, 1) := by decide +kernel
theorem dX6_goDown_12 : decode cX6_goDown 12 = .ok (.iload_n 2, 1) := by decide +kernel
theorem dX6_goDown_13 : decode cX6_goDown 13 = .ok (.aload_n 0, 1) := by decide +kernel
theorem dX6_goDown_14 : decode cX6_goDown 14 = .ok (.getfield 31, 3) := by decide +kernel
theorem dX6_goDown_17 : decode cX6_goDown 17 = .ok (.if_icmp .ge 68, 3) := by decide +kernel
theorem dX6_goDown_20 : decode cX6_goDown 20 = .ok (.iload_n 2, 1) := by decide +kernel
theorem dX6_goDown_21 : decode cX6_goDown 21 = .ok (.aload_n 0, 1) := by decide +kernel
theorem dX6_goDown_22 : decode cX6_goDown 22 = .ok (.getfield 24, 3) := by decide +kernel
theorem dX6_goDown_25 : decode cX6_goDown 25 = .ok (.arraylength, 1) := by decide +kernel
theorem dX6_goDown_26 : decode cX6_goDown 26 = .ok (.if_icmp .ge 59, 3) := by decide +kernel
theorem dX6_goDown_29 : decode cX6_goDown 29 = .ok (.iload_n 2, 1) := by decide +kernel
theorem dX6_goDown_30 : decode cX6_goDown 30 = .ok (.aload_n 0, 1) := by decide +kernel
theorem dX6_goDown_31 : decode cX6_goDown 31 = .ok (.getfield 28, 3) := by decide +kernel
theorem dX6_goDown_34 : decode cX6_goDown 34 = .ok (.arraylength, 1) := by decide +kernel
theorem dX6_goDown_35 : decode cX6_goDown 35 = .ok (.if_icmp .ge 50, 3) := by decide +kernel
theorem dX6_goDown_38 : decode cX6_goDown 38 = .ok (.aload_n 0, 1) := by decide +kernel
theorem dX6_goDown_39 : decode cX6_goDown 39 = .ok (.aload_n 0, 1) := by decide +kernel
theorem dX6_goDown_40 : decode cX6_goDown 40 = .ok (.getfield 24, 3) := by decide +kernel
theorem dX6_goDown_43 : decode cX6_goDown 43 = .ok (.iload_n 2, 1) := by decide +kernel
theorem dX6_goDown_44 : decode cX6_goDown 44 = .ok (.iconst 1, 1) := by decide +kernel
theorem dX6_goDown_45 : decode cX6_goDown 45 = .ok (.isub, 1) := by decide +kernel
theorem dX6_goDown_46 : decode cX6_goDown 46 = .ok (.iaload, 1) := by decide +kernel
theorem dX6_goDown_47 : decode cX6_goDown 47 = .ok (.invokevirtual 39, 3) := by decide +kernel
theorem dX6_goDown_50 : decode cX6_goDown 50 = .ok (.astore_n 3, 1) := by decide +kernel
theorem dX6_goDown_51 : decode cX6_goDown 51 = .ok (.aload_n 0, 1) := by decide +kernel
theorem dX6_goDown_52 : decode cX6_goDown 52 = .ok (.getfield 28, 3) := by decide +kernel
theorem dX6_goDown_55 : decode cX6_goDown 55 = .ok (.iload_n 2, 1) := by decide +kernel
theorem dX6_goDown_56 : decode cX6_goDown 56 = .ok (.aload_n 3, 1) := by decide +kernel
theorem dX6_goDown_57 : decode cX6_goDown 57 = .ok (.aload_n 1, 1) := by decide +kernel
theorem dX6_goDown_58 : decode cX6_goDown 58 = .ok (.iconst 1, 1) := by decide +kernel
theorem dX6_goDown_59 : decode cX6_goDown 59 = .ok (.invokevirtual 50, 3) := by decide +kernel
theorem dX6_goDown_62 : decode cX6_goDown 62 = .ok (.iastore, 1) := by decide +kernel
theorem dX6_goDown_63 : decode cX6_goDown 63 = .ok (.aload_n 0, 1) := by decide +kernel
theorem dX6_goDown_64 : decode cX6_goDown 64 = .ok (.getfield 24, 3) := by decide +kernel
theorem dX6_goDown_67 : decode cX6_goDown 67 = .ok (.iload_n 2, 1) := by decide +kernel
theorem dX6_goDown_68 : decode cX6_goDown 68 = .ok (.aload_n 3, 1) := by decide +kernel
theorem dX6_goDown_69 : decode cX6_goDown 69 = .ok (.aload_n 0, 1) := by decide +kernel
theorem dX6_goDown_70 : decode cX6_goDown 70 = .ok (.getfield 28, 3) := by decide +kernel
theorem dX6_goDown_73 : decode cX6_goDown 73 = .ok (.iload_n 2, 1) := by decide +kernel
theorem dX6_goDown_74 : decode cX6_goDown 74 = .ok (.iaload, 1) := by decide +kernel
theorem dX6_goDown_75 : decode cX6_goDown 75 = .ok (.invokevirtual 54, 3) := by decide +kernel
theorem dX6_goDown_78 : decode cX6_goDown 78 = .ok (.iastore, 1) := by decide +kernel
theorem dX6_goDown_79 : decode cX6_goDown 79 = .ok (.iinc 2 1, 3) := by decide +kernel
theorem dX6_goDown_82 : decode cX6_goDown 82 = .ok (.goto (-70), 3) := by decide +kernel
theorem dX6_goDown_85 : decode cX6_goDown 85 = .ok (.return_, 1) := by decide +kernel
theorem dX6_numberOn_0 : decode cX6_numberOn 0 = .ok (.iload_n 1, 1) := by decide +kernel
theorem dX6_numberOn_1 : decode cX6_numberOn 1 = .ok (.ifCond .lt 21, 3) := by decide +kernel
theorem dX6_numberOn_4 : decode cX6_numberOn 4 = .ok (.iload_n 1, 1) := by decide +kernel
theorem dX6_numberOn_5 : decode cX6_numberOn 5 = .ok (.aload_n 0, 1) := by decide +kernel
theorem dX6_numberOn_6 : decode cX6_numberOn 6 = .ok (.getfield 24, 3) := by decide +kernel
theorem dX6_numberOn_9 : decode cX6_numberOn 9 = .ok (.arraylength, 1) := by decide +kernel
theorem dX6_numberOn_10 : decode cX6_numberOn 10 = .ok (.if_icmp .ge 12, 3) := by decide +kernel
theorem dX6_numberOn_13 : decode cX6_numberOn 13 = .ok (.aload_n 0, 1) := by decide +kernel
theorem dX6_numberOn_14 : decode cX6_numberOn 14 = .ok (.getfield 24, 3) := by decide +kernel
theorem dX6_numberOn_17 : decode cX6_numberOn 17 = .ok (.iload_n 1, 1) := by decide +kernel
theorem dX6_numberOn_18 : decode cX6_numberOn 18 = .ok (.iaload, 1) := by decide +kernel
theorem dX6_numberOn_19 : decode cX6_numberOn 19 = .ok (.goto 4, 3) := by decide +kernel
theorem dX6_numberOn_22 : decode cX6_numberOn 22 = .ok (.iconst 0, 1) := by decide +kernel
theorem dX6_numberOn_23 : decode cX6_numberOn 23 = .ok (.ireturn, 1) := by decide +kernel
theorem dX6_pageOn_0 : decode cX6_pageOn 0 = .ok (.aload_n 0, 1) := by decide +kernel
theorem dX6_pageOn_1 : decode cX6_pageOn 1 = .ok (.aload_n 0, 1) := by decide +kernel
theorem dX6_pageOn_2 : decode cX6_pageOn 2 = .ok (.iload_n 1, 1) := by decide +kernel
theorem dX6_pageOn_3 : decode cX6_pageOn 3 = .ok (.invokevirtual 58, 3) := by decide +kernel
theorem dX6_pageOn_6 : decode cX6_pageOn 6 = .ok (.invokevirtual 39, 3) := by decide +kernel
theorem dX6_pageOn_9 : decode cX6_pageOn 9 = .ok (.areturn, 1) := by decide +kernel
theorem dX6_slotOn_0 : decode cX6_slotOn 0 = .ok (.iload_n 1, 1) := by decide +kernel
theorem dX6_slotOn_1 : decode cX6_slotOn 1 = .ok (.ifCond .lt 21, 3) := by decide +kernel
theorem dX6_slotOn_4 : decode cX6_slotOn 4 = .ok (.iload_n 1, 1) := by decide +kernel
theorem dX6_slotOn_5 : decode cX6_slotOn 5 = .ok (.aload_n 0, 1) := by decide +kernel
theorem dX6_slotOn_6 : decode cX6_slotOn 6 = .ok (.getfield 28, 3) := by decide +kernel
theorem dX6_slotOn_9 : decode cX6_slotOn 9 = .ok (.arraylength, 1) := by decide +kernel
theorem dX6_slotOn_10 : decode cX6_slotOn 10 = .ok (.if_icmp .ge 12, 3) := by decide +kernel
theorem dX6_slotOn_13 : decode cX6_slotOn 13 = .ok (.aload_n 0, 1) := by decide +kernel
theorem dX6_slotOn_14 : decode cX6_slotOn 14 = .ok (.getfield 28, 3) := by decide +kernel
theorem dX6_slotOn_17 : decode cX6_slotOn 17 = .ok (.iload_n 1, 1) := by decide +kernel
theorem dX6_slotOn_18 : decode cX6_slotOn 18 = .ok (.iaload, 1) := by decide +kernel
theorem dX6_slotOn_19 : decode cX6_slotOn 19 = .ok (.goto 4, 3) := by decide +kernel
theorem dX6_slotOn_22 : decode cX6_slotOn 22 = .ok (.iconst 0, 1) := by decide +kernel
theorem dX6_slotOn_23 : decode cX6_slotOn 23 = .ok (.ireturn, 1) := by decide +kernel
theorem dX6_firstLeaf_0 : decode cX6_firstLeaf 0 = .ok (.aload_n 0, 1) := by decide +kernel
theorem dX6_firstLeaf_1 : decode cX6_firstLeaf 1 = .ok (.getfield 47, 3) := by decide +kernel
theorem dX6_firstLeaf_4 : decode cX6_firstLeaf 4 = .ok (.istore_n 1, 1) := by decide +kernel
theorem dX6_firstLeaf_5 : decode cX6_firstLeaf 5 = .ok (.iconst 1, 1) := by decide +kernel
theorem dX6_firstLeaf_6 : decode cX6_firstLeaf 6 = .ok (.istore_n 2, 1) := by decide +kernel
theorem dX6_firstLeaf_7 : decode cX6_firstLeaf 7 = .ok (.iload_n 2, 1) := by decide +kernel
theorem dX6_firstLeaf_8 : decode cX6_firstLeaf 8 = .ok (.aload_n 0, 1) := by decide +kernel
theorem dX6_firstLeaf_9 : decode cX6_firstLeaf 9 = .ok (.getfield 31, 3) := by decide +kernel
theorem dX6_firstLeaf_12 : decode cX6_firstLeaf 12 = .ok (.if_icmp .ge 18, 3) := by decide +kernel
theorem dX6_firstLeaf_15 : decode cX6_firstLeaf 15 = .ok (.aload_n 0, 1) := by decide +kernel
theorem dX6_firstLeaf_16 : decode cX6_firstLeaf 16 = .ok (.iload_n 1, 1) := by decide +kernel
theorem dX6_firstLeaf_17 : decode cX6_firstLeaf 17 = .ok (.invokevirtual 39, 3) := by decide +kernel
theorem dX6_firstLeaf_20 : decode cX6_firstLeaf 20 = .ok (.invokevirtual 61, 3) := by decide +kernel
theorem dX6_firstLeaf_23 : decode cX6_firstLeaf 23 = .ok (.istore_n 1, 1) := by decide +kernel
theorem dX6_firstLeaf_24 : decode cX6_firstLeaf 24 = .ok (.iinc 2 1, 3) := by decide +kernel
theorem dX6_firstLeaf_27 : decode cX6_firstLeaf 27 = .ok (.goto (-20), 3) := by decide +kernel
theorem dX6_firstLeaf_30 : decode cX6_firstLeaf 30 = .ok (.iload_n 1, 1) := by decide +kernel
theorem dX6_firstLeaf_31 : decode cX6_firstLeaf 31 = .ok (.ireturn, 1) := by decide +kernel
theorem dX6_placeOfKey_0 : decode cX6_placeOfKey 0 = .ok (.iload_n 1, 1) := by decide +kernel
theorem dX6_placeOfKey_1 : decode cX6_placeOfKey 1 = .ok (.istore_n 2, 1) := by decide +kernel
theorem dX6_placeOfKey_2 : decode cX6_placeOfKey 2 = .ok (.aload_n 0, 1) := by decide +kernel
theorem dX6_placeOfKey_3 : decode cX6_placeOfKey 3 = .ok (.invokevirtual 64, 3) := by decide +kernel
theorem dX6_placeOfKey_6 : decode cX6_placeOfKey 6 = .ok (.istore_n 3, 1) := by decide +kernel
theorem dX6_placeOfKey_7 : decode cX6_placeOfKey 7 = .ok (.iconst 0, 1) := by decide +kernel
theorem dX6_placeOfKey_8 : decode cX6_placeOfKey 8 = .ok (.istore 4, 2) := by decide +kernel
theorem dX6_placeOfKey_10 : decode cX6_placeOfKey 10 = .ok (.iload 4, 2) := by decide +kernel
theorem dX6_placeOfKey_12 : decode cX6_placeOfKey 12 = .ok (.bipush 32, 2) := by decide +kernel
theorem dX6_placeOfKey_14 : decode cX6_placeOfKey 14 = .ok (.if_icmp .ge 56, 3) := by decide +kernel
theorem dX6_placeOfKey_17 : decode cX6_placeOfKey 17 = .ok (.iload_n 3, 1) := by decide +kernel
theorem dX6_placeOfKey_18 : decode cX6_placeOfKey 18 = .ok (.ifCond .lt 52, 3) := by decide +kernel
theorem dX6_placeOfKey_21 : decode cX6_placeOfKey 21 = .ok (.iload_n 2, 1) := by decide +kernel
theorem dX6_placeOfKey_22 : decode cX6_placeOfKey 22 = .ok (.ifCond .lt 48, 3) := by decide +kernel
theorem dX6_placeOfKey_25 : decode cX6_placeOfKey 25 = .ok (.aload_n 0, 1) := by decide +kernel
theorem dX6_placeOfKey_26 : decode cX6_placeOfKey 26 = .ok (.iload_n 3, 1) := by decide +kernel
theorem dX6_placeOfKey_27 : decode cX6_placeOfKey 27 = .ok (.invokevirtual 39, 3) := by decide +kernel
theorem dX6_placeOfKey_30 : decode cX6_placeOfKey 30 = .ok (.astore 5, 2) := by decide +kernel
theorem dX6_placeOfKey_32 : decode cX6_placeOfKey 32 = .ok (.iload_n 2, 1) := by decide +kernel
theorem dX6_placeOfKey_33 : decode cX6_placeOfKey 33 = .ok (.aload 5, 2) := by decide +kernel
theorem dX6_placeOfKey_35 : decode cX6_placeOfKey 35 = .ok (.invokevirtual 67, 3) := by decide +kernel
theorem dX6_placeOfKey_38 : decode cX6_placeOfKey 38 = .ok (.if_icmp .ge 10, 3) := by decide +kernel
theorem dX6_placeOfKey_41 : decode cX6_placeOfKey 41 = .ok (.iload_n 3, 1) := by decide +kernel
theorem dX6_placeOfKey_42 : decode cX6_placeOfKey 42 = .ok (.bipush 64, 2) := by decide +kernel
theorem dX6_placeOfKey_44 : decode cX6_placeOfKey 44 = .ok (.imul, 1) := by decide +kernel
theorem dX6_placeOfKey_45 : decode cX6_placeOfKey 45 = .ok (.iload_n 2, 1) := by decide +kernel
theorem dX6_placeOfKey_46 : decode cX6_placeOfKey 46 = .ok (.iadd, 1) := by decide +kernel
theorem dX6_placeOfKey_47 : decode cX6_placeOfKey 47 = .ok (.ireturn, 1) := by decide +kernel
theorem dX6_placeOfKey_48 : decode cX6_placeOfKey 48 = .ok (.iload_n 2, 1) := by decide +kernel
theorem dX6_placeOfKey_49 : decode cX6_placeOfKey 49 = .ok (.aload 5, 2) := by decide +kernel
theorem dX6_placeOfKey_51 : decode cX6_placeOfKey 51 = .ok (.invokevirtual 67, 3) := by decide +kernel
theorem dX6_placeOfKey_54 : decode cX6_placeOfKey 54 = .ok (.isub, 1) := by decide +kernel
theorem dX6_placeOfKey_55 : decode cX6_placeOfKey 55 = .ok (.istore_n 2, 1) := by decide +kernel
theorem dX6_placeOfKey_56 : decode cX6_placeOfKey 56 = .ok (.aload 5, 2) := by decide +kernel
theorem dX6_placeOfKey_58 : decode cX6_placeOfKey 58 = .ok (.invokevirtual 61, 3) := by decide +kernel
theorem dX6_placeOfKey_61 : decode cX6_placeOfKey 61 = .ok (.iconst 1, 1) := by decide +kernel
theorem dX6_placeOfKey_62 : decode cX6_placeOfKey 62 = .ok (.isub, 1) := by decide +kernel
theorem dX6_placeOfKey_63 : decode cX6_placeOfKey 63 = .ok (.istore_n 3, 1) := by decide +kernel
theorem dX6_placeOfKey_64 : decode cX6_placeOfKey 64 = .ok (.iinc 4 1, 3) := by decide +kernel
theorem dX6_placeOfKey_67 : decode cX6_placeOfKey 67 = .ok (.goto (-57), 3) := by decide +kernel
theorem dX6_placeOfKey_70 : decode cX6_placeOfKey 70 = .ok (.iconst (-1), 1) := by decide +kernel
theorem dX6_placeOfKey_71 : decode cX6_placeOfKey 71 = .ok (.ireturn, 1) := by decide +kernel
theorem dX6_pagesOfSort_0 : decode cX6_pagesOfSort 0 = .ok (.iconst 0, 1) := by decide +kernel
theorem dX6_pagesOfSort_1 : decode cX6_pagesOfSort 1 = .ok (.istore_n 2, 1) := by decide +kernel
theorem dX6_pagesOfSort_2 : decode cX6_pagesOfSort 2 = .ok (.iconst 0, 1) := by decide +kernel
theorem dX6_pagesOfSort_3 : decode cX6_pagesOfSort 3 = .ok (.istore_n 3, 1) := by decide +kernel
theorem dX6_pagesOfSort_4 : decode cX6_pagesOfSort 4 = .ok (.iload_n 3, 1) := by decide +kernel
theorem dX6_pagesOfSort_5 : decode cX6_pagesOfSort 5 = .ok (.bipush 32, 2) := by decide +kernel
theorem dX6_pagesOfSort_7 : decode cX6_pagesOfSort 7 = .ok (.if_icmp .ge 29, 3) := by decide +kernel
theorem dX6_pagesOfSort_10 : decode cX6_pagesOfSort 10 = .ok (.iload_n 2, 1) := by decide +kernel
theorem dX6_pagesOfSort_11 : decode cX6_pagesOfSort 11 = .ok (.aload_n 0, 1) := by decide +kernel
theorem dX6_pagesOfSort_12 : decode cX6_pagesOfSort 12 = .ok (.iload_n 3, 1) := by decide +kernel
theorem dX6_pagesOfSort_13 : decode cX6_pagesOfSort 13 = .ok (.invokevirtual 39, 3) := by decide +kernel
theorem dX6_pagesOfSort_16 : decode cX6_pagesOfSort 16 = .ok (.invokevirtual 43, 3) := by decide +kernel
theorem dX6_pagesOfSort_19 : decode cX6_pagesOfSort 19 = .ok (.iload_n 1, 1) := by decide +kernel
theorem dX6_pagesOfSort_20 : decode cX6_pagesOfSort 20 = .ok (.if_icmp .ne 7, 3) := by decide +kernel
theorem dX6_pagesOfSort_23 : decode cX6_pagesOfSort 23 = .ok (.iconst 1, 1) := by decide +kernel
theorem dX6_pagesOfSort_24 : decode cX6_pagesOfSort 24 = .ok (.goto 4, 3) := by decide +kernel
theorem dX6_pagesOfSort_27 : decode cX6_pagesOfSort 27 = .ok (.iconst 0, 1) := by decide +kernel
theorem dX6_pagesOfSort_28 : decode cX6_pagesOfSort 28 = .ok (.iadd, 1) := by decide +kernel
theorem dX6_pagesOfSort_29 : decode cX6_pagesOfSort 29 = .ok (.istore_n 2, 1) := by decide +kernel
theorem dX6_pagesOfSort_30 : decode cX6_pagesOfSort 30 = .ok (.iinc 3 1, 3) := by decide +kernel
theorem dX6_pagesOfSort_33 : decode cX6_pagesOfSort 33 = .ok (.goto (-29), 3) := by decide +kernel
theorem dX6_pagesOfSort_36 : decode cX6_pagesOfSort 36 = .ok (.iload_n 2, 1) := by decide +kernel
theorem dX6_pagesOfSort_37 : decode cX6_pagesOfSort 37 = .ok (.ireturn, 1) := by decide +kernel
theorem dX6_keys_0 : decode cX6_keys 0 = .ok (.iconst 0, 1) := by decide +kernel
theorem dX6_keys_1 : decode cX6_keys 1 = .ok (.istore_n 1, 1) := by decide +kernel
theorem dX6_keys_2 : decode cX6_keys 2 = .ok (.iconst 0, 1) := by decide +kernel
theorem dX6_keys_3 : decode cX6_keys 3 = .ok (.istore_n 2, 1) := by decide +kernel
theorem dX6_keys_4 : decode cX6_keys 4 = .ok (.iload_n 2, 1) := by decide +kernel
theorem dX6_keys_5 : decode cX6_keys 5 = .ok (.bipush 32, 2) := by decide +kernel
theorem dX6_keys_7 : decode cX6_keys 7 = .ok (.if_icmp .ge 36, 3) := by decide +kernel
theorem dX6_keys_10 : decode cX6_keys 10 = .ok (.iload_n 1, 1) := by decide +kernel
theorem dX6_keys_11 : decode cX6_keys 11 = .ok (.aload_n 0, 1) := by decide +kernel
theorem dX6_keys_12 : decode cX6_keys 12 = .ok (.iload_n 2, 1) := by decide +kernel
theorem dX6_keys_13 : decode cX6_keys 13 = .ok (.invokevirtual 39, 3) := by decide +kernel
theorem dX6_keys_16 : decode cX6_keys 16 = .ok (.invokevirtual 43, 3) := by decide +kernel
theorem dX6_keys_19 : decode cX6_keys 19 = .ok (.iconst 1, 1) := by decide +kernel
theorem dX6_keys_20 : decode cX6_keys 20 = .ok (.if_icmp .ne 14, 3) := by decide +kernel
theorem dX6_keys_23 : decode cX6_keys 23 = .ok (.aload_n 0, 1) := by decide +kernel
theorem dX6_keys_24 : decode cX6_keys 24 = .ok (.iload_n 2, 1) := by decide +kernel
theorem dX6_keys_25 : decode cX6_keys 25 = .ok (.invokevirtual 39, 3) := by decide +kernel
theorem dX6_keys_28 : decode cX6_keys 28 = .ok (.invokevirtual 67, 3) := by decide +kernel
theorem dX6_keys_31 : decode cX6_keys 31 = .ok (.goto 4, 3) := by decide +kernel
theorem dX6_keys_34 : decode cX6_keys 34 = .ok (.iconst 0, 1) := by decide +kernel
theorem dX6_keys_35 : decode cX6_keys 35 = .ok (.iadd, 1) := by decide +kernel
theorem dX6_keys_36 : decode cX6_keys 36 = .ok (.istore_n 1, 1) := by decide +kernel
theorem dX6_keys_37 : decode cX6_keys 37 = .ok (.iinc 2 1, 3) := by decide +kernel
theorem dX6_keys_40 : decode cX6_keys 40 = .ok (.goto (-36), 3) := by decide +kernel
theorem dX6_keys_43 : decode cX6_keys 43 = .ok (.iload_n 1, 1) := by decide +kernel
theorem dX6_keys_44 : decode cX6_keys 44 = .ok (.ireturn, 1) := by decide +kernel
theorem dX6_usedOfAll_0 : decode cX6_usedOfAll 0 = .ok (.iconst 0, 1) := by decide +kernel
theorem dX6_usedOfAll_1 : decode cX6_usedOfAll 1 = .ok (.istore_n 1, 1) := by decide +kernel
theorem dX6_usedOfAll_2 : decode cX6_usedOfAll 2 = .ok (.iconst 0, 1) := by decide +kernel
theorem dX6_usedOfAll_3 : decode cX6_usedOfAll 3 = .ok (.istore_n 2, 1) := by decide +kernel
theorem dX6_usedOfAll_4 : decode cX6_usedOfAll 4 = .ok (.iload_n 2, 1) := by decide +kernel
theorem dX6_usedOfAll_5 : decode cX6_usedOfAll 5 = .ok (.bipush 32, 2) := by decide +kernel
theorem dX6_usedOfAll_7 : decode cX6_usedOfAll 7 = .ok (.if_icmp .ge 20, 3) := by decide +kernel
theorem dX6_usedOfAll_10 : decode cX6_usedOfAll 10 = .ok (.iload_n 1, 1) := by decide +kernel
theorem dX6_usedOfAll_11 : decode cX6_usedOfAll 11 = .ok (.aload_n 0, 1) := by decide +kernel
theorem dX6_usedOfAll_12 : decode cX6_usedOfAll 12 = .ok (.iload_n 2, 1) := by decide +kernel
theorem dX6_usedOfAll_13 : decode cX6_usedOfAll 13 = .ok (.invokevirtual 39, 3) := by decide +kernel
theorem dX6_usedOfAll_16 : decode cX6_usedOfAll 16 = .ok (.invokevirtual 70, 3) := by decide +kernel
theorem dX6_usedOfAll_19 : decode cX6_usedOfAll 19 = .ok (.iadd, 1) := by decide +kernel
theorem dX6_usedOfAll_20 : decode cX6_usedOfAll 20 = .ok (.istore_n 1, 1) := by decide +kernel
theorem dX6_usedOfAll_21 : decode cX6_usedOfAll 21 = .ok (.iinc 2 1, 3) := by decide +kernel
theorem dX6_usedOfAll_24 : decode cX6_usedOfAll 24 = .ok (.goto (-20), 3) := by decide +kernel
theorem dX6_usedOfAll_27 : decode cX6_usedOfAll 27 = .ok (.iload_n 1, 1) := by decide +kernel
theorem dX6_usedOfAll_28 : decode cX6_usedOfAll 28 = .ok (.ireturn, 1) := by decide +kernel
theorem dX6_separatorLetters_0 : decode cX6_separatorLetters 0 = .ok (.iconst 0, 1) := by decide +kernel
theorem dX6_separatorLetters_1 : decode cX6_separatorLetters 1 = .ok (.istore_n 1, 1) := by decide +kernel
theorem dX6_separatorLetters_2 : decode cX6_separatorLetters 2 = .ok (.iconst 0, 1) := by decide +kernel
theorem dX6_separatorLetters_3 : decode cX6_separatorLetters 3 = .ok (.istore_n 2, 1) := by decide +kernel
theorem dX6_separatorLetters_4 : decode cX6_separatorLetters 4 = .ok (.iload_n 2, 1) := by decide +kernel
theorem dX6_separatorLetters_5 : decode cX6_separatorLetters 5 = .ok (.bipush 32, 2) := by decide +kernel
theorem dX6_separatorLetters_7 : decode cX6_separatorLetters 7 = .ok (.if_icmp .ge 39, 3) := by decide +kernel
theorem dX6_separatorLetters_10 : decode cX6_separatorLetters 10 = .ok (.aload_n 0, 1) := by decide +kernel
theorem dX6_separatorLetters_11 : decode cX6_separatorLetters 11 = .ok (.iload_n 2, 1) := by decide +kernel
theorem dX6_separatorLetters_12 : decode cX6_separatorLetters 12 = .ok (.invokevirtual 39, 3) := by decide +kernel
theorem dX6_separatorLetters_15 : decode cX6_separatorLetters 15 = .ok (.astore_n 3, 1) := by decide +kernel
theorem dX6_separatorLetters_16 : decode cX6_separatorLetters 16 = .ok (.aload_n 3, 1) := by decide +kernel
theorem dX6_separatorLetters_17 : decode cX6_separatorLetters 17 = .ok (.invokevirtual 43, 3) := by decide +kernel
theorem dX6_separatorLetters_20 : decode cX6_separatorLetters 20 = .ok (.iconst 2, 1) := by decide +kernel
theorem dX6_separatorLetters_21 : decode cX6_separatorLetters 21 = .ok (.if_icmp .ne 19, 3) := by decide +kernel
theorem dX6_separatorLetters_24 : decode cX6_separatorLetters 24 = .ok (.iload_n 1, 1) := by decide +kernel
theorem dX6_separatorLetters_25 : decode cX6_separatorLetters 25 = .ok (.aload_n 3, 1) := by decide +kernel
theorem dX6_separatorLetters_26 : decode cX6_separatorLetters 26 = .ok (.invokevirtual 70, 3) := by decide +kernel
theorem dX6_separatorLetters_29 : decode cX6_separatorLetters 29 = .ok (.iconst 3, 1) := by decide +kernel
theorem dX6_separatorLetters_30 : decode cX6_separatorLetters 30 = .ok (.isub, 1) := by decide +kernel
theorem dX6_separatorLetters_31 : decode cX6_separatorLetters 31 = .ok (.iconst 2, 1) := by decide +kernel
theorem dX6_separatorLetters_32 : decode cX6_separatorLetters 32 = .ok (.aload_n 3, 1) := by decide +kernel
theorem dX6_separatorLetters_33 : decode cX6_separatorLetters 33 = .ok (.invokevirtual 67, 3) := by decide +kernel
theorem dX6_separatorLetters_36 : decode cX6_separatorLetters 36 = .ok (.imul, 1) := by decide +kernel
theorem dX6_separatorLetters_37 : decode cX6_separatorLetters 37 = .ok (.isub, 1) := by decide +kernel
theorem dX6_separatorLetters_38 : decode cX6_separatorLetters 38 = .ok (.iadd, 1) := by decide +kernel
theorem dX6_separatorLetters_39 : decode cX6_separatorLetters 39 = .ok (.istore_n 1, 1) := by decide +kernel
theorem dX6_separatorLetters_40 : decode cX6_separatorLetters 40 = .ok (.iinc 2 1, 3) := by decide +kernel
theorem dX6_separatorLetters_43 : decode cX6_separatorLetters 43 = .ok (.goto (-39), 3) := by decide +kernel
theorem dX6_separatorLetters_46 : decode cX6_separatorLetters 46 = .ok (.iload_n 1, 1) := by decide +kernel
theorem dX6_separatorLetters_47 : decode cX6_separatorLetters 47 = .ok (.ireturn, 1) := by decide +kernel
theorem dX7_init_0 : decode cX7_init 0 = .ok (.aload_n 0, 1) := by decide +kernel
theorem dX7_init_1 : decode cX7_init 1 = .ok (.invokespecial 1, 3) := by decide +kernel
theorem dX7_init_4 : decode cX7_init 4 = .ok (.aload_n 0, 1) := by decide +kernel
theorem dX7_init_5 : decode cX7_init 5 = .ok (.new 7, 3) := by decide +kernel
theorem dX7_init_8 : decode cX7_init 8 = .ok (.dup, 1) := by decide +kernel
theorem dX7_init_9 : decode cX7_init 9 = .ok (.invokespecial 9, 3) := by decide +kernel
theorem dX7_init_12 : decode cX7_init 12 = .ok (.putfield 10, 3) := by decide +kernel
theorem dX7_init_15 : decode cX7_init 15 = .ok (.aload_n 0, 1) := by decide +kernel
theorem dX7_init_16 : decode cX7_init 16 = .ok (.new 16, 3) := by decide +kernel
theorem dX7_init_19 : decode cX7_init 19 = .ok (.dup, 1) := by decide +kernel
theorem dX7_init_20 : decode cX7_init 20 = .ok (.aload_n 0, 1) := by decide +kernel
theorem dX7_init_21 : decode cX7_init 21 = .ok (.getfield 10, 3) := by decide +kernel
theorem dX7_init_24 : decode cX7_init 24 = .ok (.invokespecial 18, 3) := by decide +kernel
theorem dX7_init_27 : decode cX7_init 27 = .ok (.putfield 21, 3) := by decide +kernel
theorem dX7_init_30 : decode cX7_init 30 = .ok (.aload_n 0, 1) := by decide +kernel
theorem dX7_init_31 : decode cX7_init 31 = .ok (.new 25, 3) := by decide +kernel
theorem dX7_init_34 : decode cX7_init 34 = .ok (.dup, 1) := by decide +kernel
theorem dX7_init_35 : decode cX7_init 35 = .ok (.aload_n 0, 1) := by decide +kernel
theorem dX7_init_36 : decode cX7_init 36 = .ok (.getfield 10, 3) := by decide +kernel
theorem dX7_init_39 : decode cX7_init 39 = .ok (.invokespecial 27, 3) := by decide +kernel
theorem dX7_init_42 : decode cX7_init 42 = .ok (.putfield 28, 3) := by decide +kernel
theorem dX7_init_45 : decode cX7_init 45 = .ok (.aload_n 0, 1) := by decide +kernel
theorem dX7_init_46 : decode cX7_init 46 = .ok (.new 32, 3) := by decide +kernel
theorem dX7_init_49 : decode cX7_init 49 = .ok (.dup, 1) := by decide +kernel
theorem dX7_init_50 : decode cX7_init 50 = .ok (.invokespecial 34, 3) := by decide +kernel
theorem dX7_init_53 : decode cX7_init 53 = .ok (.putfield 35, 3) := by decide +kernel
theorem dX7_init_56 : decode cX7_init 56 = .ok (.aload_n 0, 1) := by decide +kernel
theorem dX7_init_57 : decode cX7_init 57 = .ok (.iconst 2, 1) := by decide +kernel
theorem dX7_init_58 : decode cX7_init 58 = .ok (.anewarray 39, 3) := by decide +kernel
theorem dX7_init_61 : decode cX7_init 61 = .ok (.putfield 41, 3) := by decide +kernel
theorem dX7_init_64 : decode cX7_init 64 = .ok (.aload_n 0, 1) := by decide +kernel
theorem dX7_init_65 : decode cX7_init 65 = .ok (.new 45, 3) := by decide +kernel
theorem dX7_init_68 : decode cX7_init 68 = .ok (.dup, 1) := by decide +kernel
theorem dX7_init_69 : decode cX7_init 69 = .ok (.invokespecial 47, 3) := by decide +kernel
theorem dX7_init_72 : decode cX7_init 72 = .ok (.putfield 48, 3) := by decide +kernel
theorem dX7_init_75 : decode cX7_init 75 = .ok (.iconst 0, 1) := by decide +kernel
theorem dX7_init_76 : decode cX7_init 76 = .ok (.istore_n 1, 1) := by decide +kernel
theorem dX7_init_77 : decode cX7_init 77 = .ok (.iload_n 1, 1) := by decide +kernel
theorem dX7_init_78 : decode cX7_init 78 = .ok (.iconst 2, 1) := by decide +kernel
theorem dX7_init_79 : decode cX7_init 79 = .ok (.if_icmp .ge 22, 3) := by decide +kernel
theorem dX7_init_82 : decode cX7_init 82 = .ok (.aload_n 0, 1) := by decide +kernel
theorem dX7_init_83 : decode cX7_init 83 = .ok (.getfield 41, 3) := by decide +kernel
theorem dX7_init_86 : decode cX7_init 86 = .ok (.iload_n 1, 1) := by decide +kernel
theorem dX7_init_87 : decode cX7_init 87 = .ok (.new 39, 3) := by decide +kernel
theorem dX7_init_90 : decode cX7_init 90 = .ok (.dup, 1) := by decide +kernel
theorem dX7_init_91 : decode cX7_init 91 = .ok (.invokespecial 52, 3) := by decide +kernel
theorem dX7_init_94 : decode cX7_init 94 = .ok (.aastore, 1) := by decide +kernel
theorem dX7_init_95 : decode cX7_init 95 = .ok (.iinc 1 1, 3) := by decide +kernel
theorem dX7_init_98 : decode cX7_init 98 = .ok (.goto (-21), 3) := by decide +kernel
theorem dX7_init_101 : decode cX7_init 101 = .ok (.return_, 1) := by decide +kernel
theorem dX7_type_0 : decode cX7_type 0 = .ok (.iload_n 1, 1) := by decide +kernel
theorem dX7_type_1 : decode cX7_type 1 = .ok (.invokestatic 53, 3) := by decide +kernel
theorem dX7_type_4 : decode cX7_type 4 = .ok (.ifCond .ne 5, 3) := by decide +kernel
theorem dX7_type_7 : decode cX7_type 7 = .ok (.iconst (-1), 1) := by decide +kernel
theorem dX7_type_8 : decode cX7_type 8 = .ok (.ireturn, 1) := by decide +kernel
theorem dX7_type_9 : decode cX7_type 9 = .ok (.aload_n 0, 1) := by decide +kernel
theorem dX7_type_10 : decode cX7_type 10 = .ok (.getfield 35, 3) := by decide +kernel
theorem dX7_type_13 : decode cX7_type 13 = .ok (.iload_n 1, 1) := by decide +kernel
theorem dX7_type_14 : decode cX7_type 14 = .ok (.invokevirtual 57, 3) := by decide +kernel
theorem dX7_type_17 : decode cX7_type 17 = .ok (.ifCond .eq 13, 3) := by decide +kernel
theorem dX7_type_20 : decode cX7_type 20 = .ok (.aload_n 0, 1) := by decide +kernel
theorem dX7_type_21 : decode cX7_type 21 = .ok (.getfield 35, 3) := by decide +kernel
theorem dX7_type_24 : decode cX7_type 24 = .ok (.getfield 60, 3) := by decide +kernel
theorem dX7_type_27 : decode cX7_type 27 = .ok (.goto 5, 3) := by decide +kernel
theorem dX7_type_30 : decode cX7_type 30 = .ok (.bipush (-3), 2) := by decide +kernel
theorem dX7_type_32 : decode cX7_type 32 = .ok (.ireturn, 1) := by decide +kernel
theorem dX7_clear_0 : decode cX7_clear 0 = .ok (.aload_n 0, 1) := by decide +kernel
theorem dX7_clear_1 : decode cX7_clear 1 = .ok (.getfield 35, 3) := by decide +kernel
theorem dX7_clear_4 : decode cX7_clear 4 = .ok (.getfield 60, 3) := by decide +kernel
theorem dX7_clear_7 : decode cX7_clear 7 = .ok (.istore_n 1, 1) := by decide +kernel
theorem dX7_clear_8 : decode cX7_clear 8 = .ok (.aload_n 0, 1) := by decide +kernel
theorem dX7_clear_9 : decode cX7_clear 9 = .ok (.getfield 35, 3) := by decide +kernel
theorem dX7_clear_12 : decode cX7_clear 12 = .ok (.iconst 0, 1) := by decide +kernel
theorem dX7_clear_13 : decode cX7_clear 13 = .ok (.putfield 60, 3) := by decide +kernel
theorem dX7_clear_16 : decode cX7_clear 16 = .ok (.iload_n 1, 1) := by decide +kernel
theorem dX7_clear_17 : decode cX7_clear 17 = .ok (.ireturn, 1) := by decide +kernel
theorem dX7_run_0 : decode cX7_run 0 = .ok (.aload_n 0, 1) := by decide +kernel
theorem dX7_run_1 : decode cX7_run 1 = .ok (.getfield 35, 3) := by decide +kernel
theorem dX7_run_4 : decode cX7_run 4 = .ok (.invokevirtual 64, 3) := by decide +kernel
theorem dX7_run_7 : decode cX7_run 7 = .ok (.istore_n 1, 1) := by decide +kernel
theorem dX7_run_8 : decode cX7_run 8 = .ok (.iload_n 1, 1) := by decide +kernel
theorem dX7_run_9 : decode cX7_run 9 = .ok (.ifCond .lt 8, 3) := by decide +kernel
theorem dX7_run_12 : decode cX7_run 12 = .ok (.bipush (-10), 2) := by decide +kernel
theorem dX7_run_14 : decode cX7_run 14 = .ok (.iload_n 1, 1) := by decide +kernel
theorem dX7_run_15 : decode cX7_run 15 = .ok (.isub, 1) := by decide +kernel
theorem dX7_run_16 : decode cX7_run 16 = .ok (.ireturn, 1) := by decide +kernel
theorem dX7_run_17 : decode cX7_run 17 = .ok (.iconst 0, 1) := by decide +kernel
theorem dX7_run_18 : decode cX7_run 18 = .ok (.istore_n 2, 1) := by decide +kernel
theorem dX7_run_19 : decode cX7_run 19 = .ok (.aload_n 0, 1) := by decide +kernel
theorem dX7_run_20 : decode cX7_run 20 = .ok (.getfield 35, 3) := by decide +kernel
theorem dX7_run_23 : decode cX7_run 23 = .ok (.invokevirtual 68, 3) := by decide +kernel
theorem dX7_run_26 : decode cX7_run 26 = .ok (.iconst 0, 1) := by decide +kernel
theorem dX7_run_27 : decode cX7_run 27 = .ok (.istore_n 3, 1) := by decide +kernel
theorem dX7_run_28 : decode cX7_run 28 = .ok (.iload_n 3, 1) := by decide +kernel
theorem dX7_run_29 : decode cX7_run 29 = .ok (.bipush 120, 2) := by decide +kernel
theorem dX7_run_31 : decode cX7_run 31 = .ok (.if_icmp .ge 163, 3) := by decide +kernel
theorem dX7_run_34 : decode cX7_run 34 = .ok (.aload_n 0, 1) := by decide +kernel
theorem dX7_run_35 : decode cX7_run 35 = .ok (.getfield 35, 3) := by decide +kernel
theorem dX7_run_38 : decode cX7_run 38 = .ok (.invokevirtual 71, 3) := by decide +kernel
theorem dX7_run_41 : decode cX7_run 41 = .ok (.ifCond .eq 153, 3) := by decide +kernel
theorem dX7_run_44 : decode cX7_run 44 = .ok (.aload_n 0, 1) := by decide +kernel
theorem dX7_run_45 : decode cX7_run 45 = .ok (.getfield 35, 3) := by decide +kernel
theorem dX7_run_48 : decode cX7_run 48 = .ok (.invokevirtual 75, 3) := by decide +kernel
theorem dX7_run_51 : decode cX7_run 51 = .ok (.ifCond .eq 143, 3) := by decide +kernel
theorem dX7_run_54 : decode cX7_run 54 = .ok (.iconst 0, 1) := by decide +kernel
theorem dX7_run_55 : decode cX7_run 55 = .ok (.istore 4, 2) := by decide +kernel
theorem dX7_run_57 : decode cX7_run 57 = .ok (.aload_n 0, 1) := by decide +kernel
theorem dX7_run_58 : decode cX7_run 58 = .ok (.getfield 35, 3) := by decide +kernel
theorem dX7_run_61 : decode cX7_run 61 = .ok (.getfield 78, 3) := by decide +kernel
theorem dX7_run_64 : decode cX7_run 64 = .ok (.ifCond .ne 40, 3) := by decide +kernel
theorem dX7_run_67 : decode cX7_run 67 = .ok (.aload_n 0, 1) := by decide +kernel
theorem dX7_run_68 : decode cX7_run 68 = .ok (.getfield 21, 3) := by decide +kernel
theorem dX7_run_71 : decode cX7_run 71 = .ok (.aload_n 0, 1) := by decide +kernel
theorem dX7_run_72 : decode cX7_run 72 = .ok (.getfield 35, 3) := by decide +kernel
theorem dX7_run_75 : decode cX7_run 75 = .ok (.getfield 81, 3) := by decide +kernel
theorem dX7_run_78 : decode cX7_run 78 = .ok (.aload_n 0, 1) := by decide +kernel
theorem dX7_run_79 : decode cX7_run 79 = .ok (.getfield 35, 3) := by decide +kernel
theorem dX7_run_82 : decode cX7_run 82 = .ok (.iconst 0, 1) := by decide +kernel
theorem dX7_run_83 : decode cX7_run 83 = .ok (.invokevirtual 84, 3) := by decide +kernel
theorem dX7_run_86 : decode cX7_run 86 = .ok (.invokevirtual 88, 3) := by decide +kernel
theorem dX7_run_89 : decode cX7_run 89 = .ok (.bipush (-3), 2) := by decide +kernel
theorem dX7_run_91 : decode cX7_run 91 = .ok (.if_icmp .ne 7, 3) := by decide +kernel
theorem dX7_run_94 : decode cX7_run 94 = .ok (.iconst 1, 1) := by decide +kernel
theorem dX7_run_95 : decode cX7_run 95 = .ok (.goto 4, 3) := by decide +kernel
theorem dX7_run_98 : decode cX7_run 98 = .ok (.iconst 0, 1) := by decide +kernel
theorem dX7_run_99 : decode cX7_run 99 = .ok (.istore 4, 2) := by decide +kernel
theorem dX7_run_101 : decode cX7_run 101 = .ok (.goto 74, 3) := by decide +kernel
theorem dX7_run_104 : decode cX7_run 104 = .ok (.aload_n 0, 1) := by decide +kernel
theorem dX7_run_105 : decode cX7_run 105 = .ok (.getfield 35, 3) := by decide +kernel
theorem dX7_run_108 : decode cX7_run 108 = .ok (.getfield 78, 3) := by decide +kernel
theorem dX7_run_111 : decode cX7_run 111 = .ok (.iconst 1, 1) := by decide +kernel
theorem dX7_run_112 : decode cX7_run 112 = .ok (.if_icmp .ne 32, 3) := by decide +kernel
theorem dX7_run_115 : decode cX7_run 115 = .ok (.aload_n 0, 1) := by decide +kernel
theorem dX7_run_116 : decode cX7_run 116 = .ok (.getfield 21, 3) := by decide +kernel
theorem dX7_run_119 : decode cX7_run 119 = .ok (.aload_n 0, 1) := by decide +kernel
theorem dX7_run_120 : decode cX7_run 120 = .ok (.getfield 35, 3) := by decide +kernel
theorem dX7_run_123 : decode cX7_run 123 = .ok (.getfield 81, 3) := by decide +kernel
theorem dX7_run_126 : decode cX7_run 126 = .ok (.invokevirtual 92, 3) := by decide +kernel
theorem dX7_run_129 : decode cX7_run 129 = .ok (.bipush (-9), 2) := by decide +kernel
theorem dX7_run_131 : decode cX7_run 131 = .ok (.if_icmp .ne 7, 3) := by decide +kernel
theorem dX7_run_134 : decode cX7_run 134 = .ok (.iconst 1, 1) := by decide +kernel
theorem dX7_run_135 : decode cX7_run 135 = .ok (.goto 4, 3) := by decide +kernel
theorem dX7_run_138 : decode cX7_run 138 = .ok (.iconst 0, 1) := by decide +kernel
theorem dX7_run_139 : decode cX7_run 139 = .ok (.istore 4, 2) := by decide +kernel
theorem dX7_run_141 : decode cX7_run 141 = .ok (.goto 34, 3) := by decide +kernel
theorem dX7_run_144 : decode cX7_run 144 = .ok (.aload_n 0, 1) := by decide +kernel
theorem dX7_run_145 : decode cX7_run 145 = .ok (.getfield 21, 3) := by decide +kernel
theorem dX7_run_148 : decode cX7_run 148 = .ok (.aload_n 0, 1) := by decide +kernel
theorem dX7_run_149 : decode cX7_run 149 = .ok (.getfield 35, 3) := by decide +kernel
theorem dX7_run_152 : decode cX7_run 152 = .ok (.iconst 0, 1) := by decide +kernel
theorem dX7_run_153 : decode cX7_run 153 = .ok (.invokevirtual 84, 3) := by decide +kernel
theorem dX7_run_156 : decode cX7_run 156 = .ok (.aload_n 0, 1) := by decide +kernel
theorem dX7_run_157 : decode cX7_run 157 = .ok (.getfield 35, 3) := by decide +kernel
theorem dX7_run_160 : decode cX7_run 160 = .ok (.iconst 1, 1) := by decide +kernel
theorem dX7_run_161 : decode cX7_run 161 = .ok (.invokevirtual 84, 3) := by decide +kernel
theorem dX7_run_164 : decode cX7_run 164 = .ok (.aload_n 0, 1) := by decide +kernel
theorem dX7_run_165 : decode cX7_run 165 = .ok (.getfield 35, 3) := by decide +kernel
theorem dX7_run_168 : decode cX7_run 168 = .ok (.iconst 2, 1) := by decide +kernel
theorem dX7_run_169 : decode cX7_run 169 = .ok (.invokevirtual 84, 3) := by decide +kernel
theorem dX7_run_172 : decode cX7_run 172 = .ok (.invokevirtual 96, 3) := by decide +kernel
theorem dX7_run_175 : decode cX7_run 175 = .ok (.iload_n 2, 1) := by decide +kernel
theorem dX7_run_176 : decode cX7_run 176 = .ok (.iload 4, 2) := by decide +kernel
theorem dX7_run_178 : decode cX7_run 178 = .ok (.ifCond .eq 7, 3) := by decide +kernel
theorem dX7_run_181 : decode cX7_run 181 = .ok (.iconst 0, 1) := by decide +kernel
theorem dX7_run_182 : decode cX7_run 182 = .ok (.goto 4, 3) := by decide +kernel
theorem dX7_run_185 : decode cX7_run 185 = .ok (.iconst 1, 1) := by decide +kernel
theorem dX7_run_186 : decode cX7_run 186 = .ok (.iadd, 1) := by decide +kernel
theorem dX7_run_187 : decode cX7_run 187 = .ok (.istore_n 2, 1) := by decide +kernel
theorem dX7_run_188 : decode cX7_run 188 = .ok (.iinc 3 1, 3) := by decide +kernel
theorem dX7_run_191 : decode cX7_run 191 = .ok (.goto (-163), 3) := by decide +kernel
theorem dX7_run_194 : decode cX7_run 194 = .ok (.aload_n 0, 1) := by decide +kernel
theorem dX7_run_195 : decode cX7_run 195 = .ok (.getfield 35, 3) := by decide +kernel
theorem dX7_run_198 : decode cX7_run 198 = .ok (.iconst 0, 1) := by decide +kernel
theorem dX7_run_199 : decode cX7_run 199 = .ok (.putfield 60, 3) := by decide +kernel
theorem dX7_run_202 : decode cX7_run 202 = .ok (.iload_n 2, 1) := by decide +kernel
theorem dX7_run_203 : decode cX7_run 203 = .ok (.ireturn, 1) := by decide +kernel
theorem dX7_put_0 : decode cX7_put 0 = .ok (.iload_n 1, 1) := by decide +kernel
theorem dX7_put_1 : decode cX7_put 1 = .ok (.iload_n 2, 1) := by decide +kernel
theorem dX7_put_2 : decode cX7_put 2 = .ok (.invokestatic 100, 3) := by decide +kernel
theorem dX7_put_5 : decode cX7_put 5 = .ok (.ifCond .eq 10, 3) := by decide +kernel
theorem dX7_put_8 : decode cX7_put 8 = .ok (.iload_n 3, 1) := by decide +kernel
theorem dX7_put_9 : decode cX7_put 9 = .ok (.invokestatic 53, 3) := by decide +kernel
theorem dX7_put_12 : decode cX7_put 12 = .ok (.ifCond .ne 5, 3) := by decide +kernel
theorem dX7_put_15 : decode cX7_put 15 = .ok (.iconst (-1), 1) := by decide +kernel
theorem dX7_put_16 : decode cX7_put 16 = .ok (.ireturn, 1) := by decide +kernel
theorem dX7_put_17 : decode cX7_put 17 = .ok (.aload_n 0, 1) := by decide +kernel
theorem dX7_put_18 : decode cX7_put 18 = .ok (.getfield 48, 3) := by decide +kernel
theorem dX7_put_21 : decode cX7_put 21 = .ok (.iload_n 1, 1) := by decide +kernel
theorem dX7_put_22 : decode cX7_put 22 = .ok (.iload_n 2, 1) := by decide +kernel
theorem dX7_put_23 : decode cX7_put 23 = .ok (.invokevirtual 104, 3) := by decide +kernel
theorem dX7_put_26 : decode cX7_put 26 = .ok (.aload_n 0, 1) := by decide +kernel
theorem dX7_put_27 : decode cX7_put 27 = .ok (.getfield 21, 3) := by decide +kernel
theorem dX7_put_30 : decode cX7_put 30 = .ok (.aload_n 0, 1) := by decide +kernel
theorem dX7_put_31 : decode cX7_put 31 = .ok (.getfield 48, 3) := by decide +kernel
theorem dX7_put_34 : decode cX7_put 34 = .ok (.iload_n 3, 1) := by decide +kernel
theorem dX7_put_35 : decode cX7_put 35 = .ok (.invokevirtual 88, 3) := by decide +kernel
theorem dX7_put_38 : decode cX7_put 38 = .ok (.ireturn, 1) := by decide +kernel
theorem dX7_take_0 : decode cX7_take 0 = .ok (.iload_n 1, 1) := by decide +kernel
theorem dX7_take_1 : decode cX7_take 1 = .ok (.iload_n 2, 1) := by decide +kernel
theorem dX7_take_2 : decode cX7_take 2 = .ok (.invokestatic 100, 3) := by decide +kernel
theorem dX7_take_5 : decode cX7_take 5 = .ok (.ifCond .ne 5, 3) := by decide +kernel
theorem dX7_take_8 : decode cX7_take 8 = .ok (.iconst (-1), 1) := by decide +kernel
theorem dX7_take_9 : decode cX7_take 9 = .ok (.ireturn, 1) := by decide +kernel
theorem dX7_take_10 : decode cX7_take 10 = .ok (.aload_n 0, 1) := by decide +kernel
theorem dX7_take_11 : decode cX7_take 11 = .ok (.getfield 48, 3) := by decide +kernel
theorem dX7_take_14 : decode cX7_take 14 = .ok (.iload_n 1, 1) := by decide +kernel
theorem dX7_take_15 : decode cX7_take 15 = .ok (.iload_n 2, 1) := by decide +kernel
theorem dX7_take_16 : decode cX7_take 16 = .ok (.invokevirtual 104, 3) := by decide +kernel
theorem dX7_take_19 : decode cX7_take 19 = .ok (.aload_n 0, 1) := by decide +kernel
theorem dX7_take_20 : decode cX7_take 20 = .ok (.getfield 21, 3) := by decide +kernel
theorem dX7_take_23 : decode cX7_take 23 = .ok (.aload_n 0, 1) := by decide +kernel
theorem dX7_take_24 : decode cX7_take 24 = .ok (.getfield 48, 3) := by decide +kernel
theorem dX7_take_27 : decode cX7_take 27 = .ok (.invokevirtual 92, 3) := by decide +kernel
theorem dX7_take_30 : decode cX7_take 30 = .ok (.ireturn, 1) := by decide +kernel
theorem dX7_load_0 : decode cX7_load 0 = .ok (.iload_n 1, 1) := by decide +kernel
theorem dX7_load_1 : decode cX7_load 1 = .ok (.iconst 0, 1) := by decide +kernel
theorem dX7_load_2 : decode cX7_load 2 = .ok (.sipush 17575, 3) := by decide +kernel
theorem dX7_load_5 : decode cX7_load 5 = .ok (.invokestatic 108, 3) := by decide +kernel
theorem dX7_load_8 : decode cX7_load 8 = .ok (.ifCond .eq 23, 3) := by decide +kernel
theorem dX7_load_11 : decode cX7_load 11 = .ok (.iload_n 2, 1) := by decide +kernel
theorem dX7_load_12 : decode cX7_load 12 = .ok (.iconst 1, 1) := by decide +kernel
theorem dX7_load_13 : decode cX7_load 13 = .ok (.bipush 99, 2) := by decide +kernel
theorem dX7_load_15 : decode cX7_load 15 = .ok (.invokestatic 108, 3) := by decide +kernel
theorem dX7_load_18 : decode cX7_load 18 = .ok (.ifCond .eq 13, 3) := by decide +kernel
theorem dX7_load_21 : decode cX7_load 21 = .ok (.iload_n 3, 1) := by decide +kernel
theorem dX7_load_22 : decode cX7_load 22 = .ok (.iconst 1, 1) := by decide +kernel
theorem dX7_load_23 : decode cX7_load 23 = .ok (.bipush 60, 2) := by decide +kernel
theorem dX7_load_25 : decode cX7_load 25 = .ok (.invokestatic 108, 3) := by decide +kernel
theorem dX7_load_28 : decode cX7_load 28 = .ok (.ifCond .ne 5, 3) := by decide +kernel
theorem dX7_load_31 : decode cX7_load 31 = .ok (.iconst (-1), 1) := by decide +kernel
theorem dX7_load_32 : decode cX7_load 32 = .ok (.ireturn, 1) := by decide +kernel
theorem dX7_load_33 : decode cX7_load 33 = .ok (.iload_n 1, 1) := by decide +kernel
theorem dX7_load_34 : decode cX7_load 34 = .ok (.iload_n 2, 1) := by decide +kernel
theorem dX7_load_35 : decode cX7_load 35 = .ok (.iload_n 3, 1) := by decide +kernel
theorem dX7_load_36 : decode cX7_load 36 = .ok (.invokestatic 112, 3) := by decide +kernel
theorem dX7_load_39 : decode cX7_load 39 = .ok (.ifCond .ne 5, 3) := by decide +kernel
theorem dX7_load_42 : decode cX7_load 42 = .ok (.iconst (-1), 1) := by decide +kernel
theorem dX7_load_43 : decode cX7_load 43 = .ok (.ireturn, 1) := by decide +kernel
theorem dX7_load_44 : decode cX7_load 44 = .ok (.aload_n 0, 1) := by decide +kernel
theorem dX7_load_45 : decode cX7_load 45 = .ok (.getfield 21, 3) := by decide +kernel
theorem dX7_load_48 : decode cX7_load 48 = .ok (.iload_n 1, 1) := by decide +kernel
theorem dX7_load_49 : decode cX7_load 49 = .ok (.iload_n 2, 1) := by decide +kernel
theorem dX7_load_50 : decode cX7_load 50 = .ok (.iload_n 3, 1) := by decide +kernel
theorem dX7_load_51 : decode cX7_load 51 = .ok (.invokevirtual 96, 3) := by decide +kernel
theorem dX7_load_54 : decode cX7_load 54 = .ok (.aload_n 0, 1) := by decide +kernel
theorem dX7_load_55 : decode cX7_load 55 = .ok (.getfield 10, 3) := by decide +kernel
theorem dX7_load_58 : decode cX7_load 58 = .ok (.getfield 115, 3) := by decide +kernel
theorem dX7_load_61 : decode cX7_load 61 = .ok (.ireturn, 1) := by decide +kernel
theorem dX7_find_0 : decode cX7_find 0 = .ok (.iload_n 1, 1) := by decide +kernel
theorem dX7_find_1 : decode cX7_find 1 = .ok (.iload_n 2, 1) := by decide +kernel
theorem dX7_find_2 : decode cX7_find 2 = .ok (.invokestatic 100, 3) := by decide +kernel
theorem dX7_find_5 : decode cX7_find 5 = .ok (.ifCond .ne 5, 3) := by decide +kernel
theorem dX7_find_8 : decode cX7_find 8 = .ok (.iconst (-1), 1) := by decide +kernel
theorem dX7_find_9 : decode cX7_find 9 = .ok (.ireturn, 1) := by decide +kernel
theorem dX7_find_10 : decode cX7_find 10 = .ok (.aload_n 0, 1) := by decide +kernel
theorem dX7_find_11 : decode cX7_find 11 = .ok (.getfield 48, 3) := by decide +kernel
theorem dX7_find_14 : decode cX7_find 14 = .ok (.iload_n 1, 1) := by decide +kernel
theorem dX7_find_15 : decode cX7_find 15 = .ok (.iload_n 2, 1) := by decide +kernel
theorem dX7_find_16 : decode cX7_find 16 = .ok (.invokevirtual 104, 3) := by decide +kernel
theorem dX7_find_19 : decode cX7_find 19 = .ok (.aload_n 0, 1) := by decide +kernel
theorem dX7_find_20 : decode cX7_find 20 = .ok (.getfield 10, 3) := by decide +kernel
theorem dX7_find_23 : decode cX7_find 23 = .ok (.aload_n 0, 1) := by decide +kernel
theorem dX7_find_24 : decode cX7_find 24 = .ok (.getfield 48, 3) := by decide +kernel
theorem dX7_find_27 : decode cX7_find 27 = .ok (.invokevirtual 118, 3) := by decide +kernel
theorem dX7_find_30 : decode cX7_find 30 = .ok (.aload_n 0, 1) := by decide +kernel
theorem dX7_find_31 : decode cX7_find 31 = .ok (.getfield 10, 3) := by decide +kernel
theorem dX7_find_34 : decode cX7_find 34 = .ok (.aload_n 0, 1) := by decide +kernel
theorem dX7_find_35 : decode cX7_find 35 = .ok (.getfield 10, 3) := by decide +kernel
theorem dX7_find_38 : decode cX7_find 38 = .ok (.getfield 115, 3) := by decide +kernel
theorem dX7_find_41 : decode cX7_find 41 = .ok (.iconst 1, 1) := by decide +kernel
theorem dX7_find_42 : decode cX7_find 42 = .ok (.isub, 1) := by decide +kernel
theorem dX7_find_43 : decode cX7_find 43 = .ok (.invokevirtual 122, 3) := by decide +kernel
theorem dX7_find_46 : decode cX7_find 46 = .ok (.astore_n 3, 1) := by decide +kernel
theorem dX7_find_47 : decode cX7_find 47 = .ok (.aload_n 3, 1) := by decide +kernel
theorem dX7_find_48 : decode cX7_find 48 = .ok (.aload_n 0, 1) := by decide +kernel
theorem dX7_find_49 : decode cX7_find 49 = .ok (.getfield 48, 3) := by decide +kernel
theorem dX7_find_52 : decode cX7_find 52 = .ok (.iconst 0, 1) := by decide +kernel
theorem dX7_find_53 : decode cX7_find 53 = .ok (.invokevirtual 126, 3) := by decide +kernel
theorem dX7_find_56 : decode cX7_find 56 = .ok (.istore 4, 2) := by decide +kernel
theorem dX7_find_58 : decode cX7_find 58 = .ok (.aload_n 3, 1) := by decide +kernel
theorem dX7_find_59 : decode cX7_find 59 = .ok (.iload 4, 2) := by decide +kernel
theorem dX7_find_61 : decode cX7_find 61 = .ok (.aload_n 0, 1) := by decide +kernel
theorem dX7_find_62 : decode cX7_find 62 = .ok (.getfield 48, 3) := by decide +kernel
theorem dX7_find_65 : decode cX7_find 65 = .ok (.invokevirtual 132, 3) := by decide +kernel
theorem dX7_find_68 : decode cX7_find 68 = .ok (.ifCond .eq 12, 3) := by decide +kernel
theorem dX7_find_71 : decode cX7_find 71 = .ok (.aload_n 3, 1) := by decide +kernel
theorem dX7_find_72 : decode cX7_find 72 = .ok (.iload 4, 2) := by decide +kernel
theorem dX7_find_74 : decode cX7_find 74 = .ok (.invokevirtual 136, 3) := by decide +kernel
theorem dX7_find_77 : decode cX7_find 77 = .ok (.goto 5, 3) := by decide +kernel
theorem dX7_find_80 : decode cX7_find 80 = .ok (.bipush (-9), 2) := by decide +kernel
theorem dX7_find_82 : decode cX7_find 82 = .ok (.ireturn, 1) := by decide +kernel
theorem dX7_rank_0 : decode cX7_rank 0 = .ok (.iload_n 1, 1) := by decide +kernel
theorem dX7_rank_1 : decode cX7_rank 1 = .ok (.iload_n 2, 1) := by decide +kernel
theorem dX7_rank_2 : decode cX7_rank 2 = .ok (.invokestatic 100, 3) := by decide +kernel
theorem dX7_rank_5 : decode cX7_rank 5 = .ok (.ifCond .eq 12, 3) := by decide +kernel
theorem dX7_rank_8 : decode cX7_rank 8 = .ok (.iload_n 3, 1) := by decide +kernel
theorem dX7_rank_9 : decode cX7_rank 9 = .ok (.iconst 0, 1) := by decide +kernel
theorem dX7_rank_10 : decode cX7_rank 10 = .ok (.iconst 1, 1) := by decide +kernel
theorem dX7_rank_11 : decode cX7_rank 11 = .ok (.invokestatic 108, 3) := by decide +kernel
theorem dX7_rank_14 : decode cX7_rank 14 = .ok (.ifCond .ne 5, 3) := by decide +kernel
theorem dX7_rank_17 : decode cX7_rank 17 = .ok (.iconst (-1), 1) := by decide +kernel
theorem dX7_rank_18 : decode cX7_rank 18 = .ok (.ireturn, 1) := by decide +kernel
theorem dX7_rank_19 : decode cX7_rank 19 = .ok (.aload_n 0, 1) := by decide +kernel
theorem dX7_rank_20 : decode cX7_rank 20 = .ok (.getfield 48, 3) := by decide +kernel
theorem dX7_rank_23 : decode cX7_rank 23 = .ok (.iload_n 1, 1) := by decide +kernel
theorem dX7_rank_24 : decode cX7_rank 24 = .ok (.iload_n 2, 1) := by decide +kernel
theorem dX7_rank_25 : decode cX7_rank 25 = .ok (.invokevirtual 104, 3) := by decide +kernel
theorem dX7_rank_28 : decode cX7_rank 28 = .ok (.iconst 0, 1) := by decide +kernel
theorem dX7_rank_29 : decode cX7_rank 29 = .ok (.istore 4, 2) := by decide +kernel
theorem dX7_rank_31 : decode cX7_rank 31 = .ok (.iconst 0, 1) := by decide +kernel
theorem dX7_rank_32 : decode cX7_rank 32 = .ok (.istore 5, 2) := by decide +kernel
theorem dX7_rank_34 : decode cX7_rank 34 = .ok (.iload 5, 2) := by decide +kernel
theorem dX7_rank_36 : decode cX7_rank 36 = .ok (.bipush 32, 2) := by decide +kernel
theorem dX7_rank_38 : decode cX7_rank 38 = .ok (.if_icmp .ge 60, 3) := by decide +kernel
theorem dX7_rank_41 : decode cX7_rank 41 = .ok (.aload_n 0, 1) := by decide +kernel
theorem dX7_rank_42 : decode cX7_rank 42 = .ok (.getfield 10, 3) := by decide +kernel
theorem dX7_rank_45 : decode cX7_rank 45 = .ok (.iload 5, 2) := by decide +kernel
theorem dX7_rank_47 : decode cX7_rank 47 = .ok (.invokevirtual 139, 3) := by decide +kernel
theorem dX7_rank_50 : decode cX7_rank 50 = .ok (.astore 6, 2) := by decide +kernel
theorem dX7_rank_52 : decode cX7_rank 52 = .ok (.aload 6, 2) := by decide +kernel
theorem dX7_rank_54 : decode cX7_rank 54 = .ok (.invokevirtual 142, 3) := by decide +kernel
theorem dX7_rank_57 : decode cX7_rank 57 = .ok (.iconst 1, 1) := by decide +kernel
theorem dX7_rank_58 : decode cX7_rank 58 = .ok (.if_icmp .ne 34, 3) := by decide +kernel
theorem dX7_rank_61 : decode cX7_rank 61 = .ok (.iload 4, 2) := by decide +kernel
theorem dX7_rank_63 : decode cX7_rank 63 = .ok (.iload_n 3, 1) := by decide +kernel
theorem dX7_rank_64 : decode cX7_rank 64 = .ok (.ifCond .ne 16, 3) := by decide +kernel
theorem dX7_rank_67 : decode cX7_rank 67 = .ok (.aload 6, 2) := by decide +kernel
theorem dX7_rank_69 : decode cX7_rank 69 = .ok (.aload_n 0, 1) := by decide +kernel
theorem dX7_rank_70 : decode cX7_rank 70 = .ok (.getfield 48, 3) := by decide +kernel
theorem dX7_rank_73 : decode cX7_rank 73 = .ok (.iconst 0, 1) := by decide +kernel
theorem dX7_rank_74 : decode cX7_rank 74 = .ok (.invokevirtual 126, 3) := by decide +kernel
theorem dX7_rank_77 : decode cX7_rank 77 = .ok (.goto 12, 3) := by decide +kernel
theorem dX7_rank_80 : decode cX7_rank 80 = .ok (.aload 6, 2) := by decide +kernel
theorem dX7_rank_82 : decode cX7_rank 82 = .ok (.aload_n 0, 1) := by decide +kernel
theorem dX7_rank_83 : decode cX7_rank 83 = .ok (.getfield 48, 3) := by decide +kernel
theorem dX7_rank_86 : decode cX7_rank 86 = .ok (.invokevirtual 145, 3) := by decide +kernel
theorem dX7_rank_89 : decode cX7_rank 89 = .ok (.iadd, 1) := by decide +kernel
theorem dX7_rank_90 : decode cX7_rank 90 = .ok (.istore 4, 2) := by decide +kernel
theorem dX7_rank_92 : decode cX7_rank 92 = .ok (.iinc 5 1, 3) := by decide +kernel
theorem dX7_rank_95 : decode cX7_rank 95 = .ok (.goto (-61), 3) := by decide +kernel
theorem dX7_rank_98 : decode cX7_rank 98 = .ok (.iload 4, 2) := by decide +kernel
theorem dX7_rank_100 : decode cX7_rank 100 = .ok (.ireturn, 1) := by decide +kernel
theorem dX7_path_0 : decode cX7_path 0 = .ok (.iload_n 1, 1) := by decide +kernel
theorem dX7_path_1 : decode cX7_path 1 = .ok (.iload_n 2, 1) := by decide +kernel
theorem dX7_path_2 : decode cX7_path 2 = .ok (.invokestatic 100, 3) := by decide +kernel
theorem dX7_path_5 : decode cX7_path 5 = .ok (.ifCond .eq 7, 3) := by decide +kernel
theorem dX7_path_8 : decode cX7_path 8 = .ok (.iload_n 3, 1) := by decide +kernel
theorem dX7_path_9 : decode cX7_path 9 = .ok (.ifCond .ge 5, 3) := by decide +kernel
theorem dX7_path_12 : decode cX7_path 12 = .ok (.iconst (-1), 1) := by decide +kernel
theorem dX7_path_13 : decode cX7_path 13 = .ok (.ireturn, 1) := by decide +kernel
theorem dX7_path_14 : decode cX7_path 14 = .ok (.iload_n 3, 1) := by decide +kernel
theorem dX7_path_15 : decode cX7_path 15 = .ok (.aload_n 0, 1) := by decide +kernel
theorem dX7_path_16 : decode cX7_path 16 = .ok (.getfield 10, 3) := by decide +kernel
theorem dX7_path_19 : decode cX7_path 19 = .ok (.getfield 115, 3) := by decide +kernel
theorem dX7_path_22 : decode cX7_path 22 = .ok (.if_icmp .lt 6, 3) := by decide +kernel
theorem dX7_path_25 : decode cX7_path 25 = .ok (.bipush (-9), 2) := by decide +kernel
theorem dX7_path_27 : decode cX7_path 27 = .ok (.ireturn, 1) := by decide +kernel
theorem dX7_path_28 : decode cX7_path 28 = .ok (.aload_n 0, 1) := by decide +kernel
theorem dX7_path_29 : decode cX7_path 29 = .ok (.getfield 48, 3) := by decide +kernel
theorem dX7_path_32 : decode cX7_path 32 = .ok (.iload_n 1, 1) := by decide +kernel
theorem dX7_path_33 : decode cX7_path 33 = .ok (.iload_n 2, 1) := by decide +kernel
theorem dX7_path_34 : decode cX7_path 34 = .ok (.invokevirtual 104, 3) := by decide +kernel
theorem dX7_path_37 : decode cX7_path 37 = .ok (.aload_n 0, 1) := by decide +kernel
theorem dX7_path_38 : decode cX7_path 38 = .ok (.getfield 10, 3) := by decide +kernel
theorem dX7_path_41 : decode cX7_path 41 = .ok (.aload_n 0, 1) := by decide +kernel
theorem dX7_path_42 : decode cX7_path 42 = .ok (.getfield 48, 3) := by decide +kernel
theorem dX7_path_45 : decode cX7_path 45 = .ok (.invokevirtual 118, 3) := by decide +kernel
theorem dX7_path_48 : decode cX7_path 48 = .ok (.aload_n 0, 1) := by decide +kernel
theorem dX7_path_49 : decode cX7_path 49 = .ok (.getfield 10, 3) := by decide +kernel
theorem dX7_path_52 : decode cX7_path 52 = .ok (.iload_n 3, 1) := by decide +kernel
theorem dX7_path_53 : decode cX7_path 53 = .ok (.invokevirtual 148, 3) := by decide +kernel
theorem dX7_path_56 : decode cX7_path 56 = .ok (.ireturn, 1) := by decide +kernel
theorem dX7_letter_0 : decode cX7_letter 0 = .ok (.aload_n 0, 1) := by decide +kernel
theorem dX7_letter_1 : decode cX7_letter 1 = .ok (.getfield 10, 3) := by decide +kernel
theorem dX7_letter_4 : decode cX7_letter 4 = .ok (.iload_n 1, 1) := by decide +kernel
theorem dX7_letter_5 : decode cX7_letter 5 = .ok (.invokevirtual 151, 3) := by decide +kernel
theorem dX7_letter_8 : decode cX7_letter 8 = .ok (.istore_n 3, 1) := by decide +kernel
theorem dX7_letter_9 : decode cX7_letter 9 = .ok (.iload_n 3, 1) := by decide +kernel
theorem dX7_letter_10 : decode cX7_letter 10 = .ok (.ifCond .lt 13, 3) := by decide +kernel
theorem dX7_letter_13 : decode cX7_letter 13 = .ok (.iload_n 2, 1) := by decide +kernel
theorem dX7_letter_14 : decode cX7_letter 14 = .ok (.iconst 0, 1) := by decide +kernel
theorem dX7_letter_15 : decode cX7_letter 15 = .ok (.bipush 7, 2) := by decide +kernel
theorem dX7_letter_17 : decode cX7_letter 17 = .ok (.invokestatic 108, 3) := by decide +kernel
theorem dX7_letter_20 : decode cX7_letter 20 = .ok (.ifCond .ne 5, 3) := by decide +kernel
theorem dX7_letter_23 : decode cX7_letter 23 = .ok (.iconst (-1), 1) := by decide +kernel
theorem dX7_letter_24 : decode cX7_letter 24 = .ok (.ireturn, 1) := by decide +kernel
theorem dX7_letter_25 : decode cX7_letter 25 = .ok (.aload_n 0, 1) := by decide +kernel
theorem dX7_letter_26 : decode cX7_letter 26 = .ok (.getfield 10, 3) := by decide +kernel
theorem dX7_letter_29 : decode cX7_letter 29 = .ok (.iload_n 3, 1) := by decide +kernel
theorem dX7_letter_30 : decode cX7_letter 30 = .ok (.bipush 64, 2) := by decide +kernel
theorem dX7_letter_32 : decode cX7_letter 32 = .ok (.idiv, 1) := by decide +kernel
theorem dX7_letter_33 : decode cX7_letter 33 = .ok (.invokevirtual 139, 3) := by decide +kernel
theorem dX7_letter_36 : decode cX7_letter 36 = .ok (.astore 4, 2) := by decide +kernel
theorem dX7_letter_38 : decode cX7_letter 38 = .ok (.iload_n 3, 1) := by decide +kernel
theorem dX7_letter_39 : decode cX7_letter 39 = .ok (.bipush 64, 2) := by decide +kernel
theorem dX7_letter_41 : decode cX7_letter 41 = .ok (.irem, 1) := by decide +kernel
theorem dX7_letter_42 : decode cX7_letter 42 = .ok (.istore 5, 2) := by decide +kernel
theorem dX7_letter_44 : decode cX7_letter 44 = .ok (.iload_n 2, 1) := by decide +kernel
theorem dX7_letter_45 : decode cX7_letter 45 = .ok (.aload 4, 2) := by decide +kernel
theorem dX7_letter_47 : decode cX7_letter 47 = .ok (.iload 5, 2) := by decide +kernel
theorem dX7_letter_49 : decode cX7_letter 49 = .ok (.invokevirtual 154, 3) := by decide +kernel
theorem dX7_letter_52 : decode cX7_letter 52 = .ok (.if_icmp .ge 14, 3) := by decide +kernel
theorem dX7_letter_55 : decode cX7_letter 55 = .ok (.aload 4, 2) := by decide +kernel
theorem dX7_letter_57 : decode cX7_letter 57 = .ok (.iload 5, 2) := by decide +kernel
theorem dX7_letter_59 : decode cX7_letter 59 = .ok (.iload_n 2, 1) := by decide +kernel
theorem dX7_letter_60 : decode cX7_letter 60 = .ok (.invokevirtual 157, 3) := by decide +kernel
theorem dX7_letter_63 : decode cX7_letter 63 = .ok (.goto 5, 3) := by decide +kernel
theorem dX7_letter_66 : decode cX7_letter 66 = .ok (.bipush (-9), 2) := by decide +kernel
theorem dX7_letter_68 : decode cX7_letter 68 = .ok (.ireturn, 1) := by decide +kernel
theorem dX7_value_0 : decode cX7_value 0 = .ok (.aload_n 0, 1) := by decide +kernel
theorem dX7_value_1 : decode cX7_value 1 = .ok (.getfield 10, 3) := by decide +kernel
theorem dX7_value_4 : decode cX7_value 4 = .ok (.iload_n 1, 1) := by decide +kernel
theorem dX7_value_5 : decode cX7_value 5 = .ok (.invokevirtual 151, 3) := by decide +kernel
theorem dX7_value_8 : decode cX7_value 8 = .ok (.istore_n 2, 1) := by decide +kernel
theorem dX7_value_9 : decode cX7_value 9 = .ok (.iload_n 2, 1) := by decide +kernel
theorem dX7_value_10 : decode cX7_value 10 = .ok (.ifCond .ge 7, 3) := by decide +kernel
theorem dX7_value_13 : decode cX7_value 13 = .ok (.iconst (-1), 1) := by decide +kernel
theorem dX7_value_14 : decode cX7_value 14 = .ok (.goto 21, 3) := by decide +kernel
theorem dX7_value_17 : decode cX7_value 17 = .ok (.aload_n 0, 1) := by decide +kernel
theorem dX7_value_18 : decode cX7_value 18 = .ok (.getfield 10, 3) := by decide +kernel
theorem dX7_value_21 : decode cX7_value 21 = .ok (.iload_n 2, 1) := by decide +kernel
theorem dX7_value_22 : decode cX7_value 22 = .ok (.bipush 64, 2) := by decide +kernel
theorem dX7_value_24 : decode cX7_value 24 = .ok (.idiv, 1) := by decide +kernel
theorem dX7_value_25 : decode cX7_value 25 = .ok (.invokevirtual 139, 3) := by decide +kernel
theorem dX7_value_28 : decode cX7_value 28 = .ok (.iload_n 2, 1) := by decide +kernel
theorem dX7_value_29 : decode cX7_value 29 = .ok (.bipush 64, 2) := by decide +kernel
theorem dX7_value_31 : decode cX7_value 31 = .ok (.irem, 1) := by decide +kernel
theorem dX7_value_32 : decode cX7_value 32 = .ok (.invokevirtual 136, 3) := by decide +kernel
theorem dX7_value_35 : decode cX7_value 35 = .ok (.ireturn, 1) := by decide +kernel
theorem dX7_page_0 : decode cX7_page 0 = .ok (.iload_n 1, 1) := by decide +kernel
theorem dX7_page_1 : decode cX7_page 1 = .ok (.invokestatic 161, 3) := by decide +kernel
theorem dX7_page_4 : decode cX7_page 4 = .ok (.ifCond .ne 5, 3) := by decide +kernel
theorem dX7_page_7 : decode cX7_page 7 = .ok (.iconst (-1), 1) := by decide +kernel
theorem dX7_page_8 : decode cX7_page 8 = .ok (.ireturn, 1) := by decide +kernel
theorem dX7_page_9 : decode cX7_page 9 = .ok (.aload_n 0, 1) := by decide +kernel
theorem dX7_page_10 : decode cX7_page 10 = .ok (.getfield 10, 3) := by decide +kernel
theorem dX7_page_13 : decode cX7_page 13 = .ok (.iload_n 1, 1) := by decide +kernel
theorem dX7_page_14 : decode cX7_page 14 = .ok (.invokevirtual 139, 3) := by decide +kernel
theorem dX7_page_17 : decode cX7_page 17 = .ok (.astore_n 3, 1) := by decide +kernel
theorem dX7_page_18 : decode cX7_page 18 = .ok (.iload_n 2, 1) := by decide +kernel
theorem dX7_page_19 : decode cX7_page 19 = .ok (.tableswitch 49 0 3 #[29, 34, 39, 44], 29) := by decide +kernel
theorem dX7_page_48 : decode cX7_page 48 = .ok (.aload_n 3, 1) := by decide +kernel
theorem dX7_page_49 : decode cX7_page 49 = .ok (.invokevirtual 142, 3) := by decide +kernel
theorem dX7_page_52 : decode cX7_page 52 = .ok (.ireturn, 1) := by decide +kernel
theorem dX7_page_53 : decode cX7_page 53 = .ok (.aload_n 3, 1) := by decide +kernel
theorem dX7_page_54 : decode cX7_page 54 = .ok (.invokevirtual 164, 3) := by decide +kernel
theorem dX7_page_57 : decode cX7_page 57 = .ok (.ireturn, 1) := by decide +kernel
theorem dX7_page_58 : decode cX7_page 58 = .ok (.aload_n 3, 1) := by decide +kernel
theorem dX7_page_59 : decode cX7_page 59 = .ok (.invokevirtual 167, 3) := by decide +kernel
theorem dX7_page_62 : decode cX7_page 62 = .ok (.ireturn, 1) := by decide +kernel
theorem dX7_page_63 : decode cX7_page 63 = .ok (.aload_n 3, 1) := by decide +kernel
theorem dX7_page_64 : decode cX7_page 64 = .ok (.invokevirtual 170, 3) := by decide +kernel
theorem dX7_page_67 : decode cX7_page 67 = .ok (.ireturn, 1) := by decide +kernel
theorem dX7_page_68 : decode cX7_page 68 = .ok (.iconst (-1), 1) := by decide +kernel
theorem dX7_page_69 : decode cX7_page 69 = .ok (.ireturn, 1) := by decide +kernel
theorem dX7_byteAt_0 : decode cX7_byteAt 0 = .ok (.iload_n 1, 1) := by decide +kernel
theorem dX7_byteAt_1 : decode cX7_byteAt 1 = .ok (.invokestatic 161, 3) := by decide +kernel
theorem dX7_byteAt_4 : decode cX7_byteAt 4 = .ok (.ifCond .eq 28, 3) := by decide +kernel
theorem dX7_byteAt_7 : decode cX7_byteAt 7 = .ok (.iload_n 2, 1) := by decide +kernel
theorem dX7_byteAt_8 : decode cX7_byteAt 8 = .ok (.iconst 0, 1) := by decide +kernel
theorem dX7_byteAt_9 : decode cX7_byteAt 9 = .ok (.bipush 63, 2) := by decide +kernel
theorem dX7_byteAt_11 : decode cX7_byteAt 11 = .ok (.invokestatic 108, 3) := by decide +kernel
theorem dX7_byteAt_14 : decode cX7_byteAt 14 = .ok (.ifCond .eq 18, 3) := by decide +kernel
theorem dX7_byteAt_17 : decode cX7_byteAt 17 = .ok (.aload_n 0, 1) := by decide +kernel
theorem dX7_byteAt_18 : decode cX7_byteAt 18 = .ok (.getfield 10, 3) := by decide +kernel
theorem dX7_byteAt_21 : decode cX7_byteAt 21 = .ok (.iload_n 1, 1) := by decide +kernel
theorem dX7_byteAt_22 : decode cX7_byteAt 22 = .ok (.invokevirtual 139, 3) := by decide +kernel
theorem dX7_byteAt_25 : decode cX7_byteAt 25 = .ok (.iload_n 2, 1) := by decide +kernel
theorem dX7_byteAt_26 : decode cX7_byteAt 26 = .ok (.invokevirtual 173, 3) := by decide +kernel
theorem dX7_byteAt_29 : decode cX7_byteAt 29 = .ok (.goto 4, 3) := by decide +kernel
theorem dX7_byteAt_32 : decode cX7_byteAt 32 = .ok (.iconst (-1), 1) := by decide +kernel
theorem dX7_byteAt_33 : decode cX7_byteAt 33 = .ok (.ireturn, 1) := by decide +kernel
theorem dX7_check_0 : decode cX7_check 0 = .ok (.iload_n 1, 1) := by decide +kernel
theorem dX7_check_1 : decode cX7_check 1 = .ok (.invokestatic 161, 3) := by decide +kernel
theorem dX7_check_4 : decode cX7_check 4 = .ok (.ifCond .eq 20, 3) := by decide +kernel
theorem dX7_check_7 : decode cX7_check 7 = .ok (.iload_n 2, 1) := by decide +kernel
theorem dX7_check_8 : decode cX7_check 8 = .ok (.iconst 0, 1) := by decide +kernel
theorem dX7_check_9 : decode cX7_check 9 = .ok (.bipush 63, 2) := by decide +kernel
theorem dX7_check_11 : decode cX7_check 11 = .ok (.invokestatic 108, 3) := by decide +kernel
theorem dX7_check_14 : decode cX7_check 14 = .ok (.ifCond .eq 10, 3) := by decide +kernel
theorem dX7_check_17 : decode cX7_check 17 = .ok (.iload_n 3, 1) := by decide +kernel
theorem dX7_check_18 : decode cX7_check 18 = .ok (.invokestatic 53, 3) := by decide +kernel
theorem dX7_check_21 : decode cX7_check 21 = .ok (.ifCond .ne 5, 3) := by decide +kernel
theorem dX7_check_24 : decode cX7_check 24 = .ok (.iconst (-1), 1) := by decide +kernel
theorem dX7_check_25 : decode cX7_check 25 = .ok (.ireturn, 1) := by decide +kernel
theorem dX7_check_26 : decode cX7_check 26 = .ok (.aload_n 0, 1) := by decide +kernel
theorem dX7_check_27 : decode cX7_check 27 = .ok (.getfield 10, 3) := by decide +kernel
theorem dX7_check_30 : decode cX7_check 30 = .ok (.iload_n 1, 1) := by decide +kernel
theorem dX7_check_31 : decode cX7_check 31 = .ok (.invokevirtual 139, 3) := by decide +kernel
theorem dX7_check_34 : decode cX7_check 34 = .ok (.astore 4, 2) := by decide +kernel
theorem dX7_check_36 : decode cX7_check 36 = .ok (.aload 4, 2) := by decide +kernel
theorem dX7_check_38 : decode cX7_check 38 = .ok (.iload_n 2, 1) := by decide +kernel
theorem dX7_check_39 : decode cX7_check 39 = .ok (.invokevirtual 173, 3) := by decide +kernel
theorem dX7_check_42 : decode cX7_check 42 = .ok (.istore 5, 2) := by decide +kernel
theorem dX7_check_44 : decode cX7_check 44 = .ok (.aload 4, 2) := by decide +kernel
theorem dX7_check_46 : decode cX7_check 46 = .ok (.iload_n 2, 1) := by decide +kernel
theorem dX7_check_47 : decode cX7_check 47 = .ok (.iload_n 3, 1) := by decide +kernel
theorem dX7_check_48 : decode cX7_check 48 = .ok (.invokevirtual 176, 3) := by decide +kernel
theorem dX7_check_51 : decode cX7_check 51 = .ok (.aload_n 0, 1) := by decide +kernel
theorem dX7_check_52 : decode cX7_check 52 = .ok (.getfield 28, 3) := by decide +kernel
theorem dX7_check_55 : decode cX7_check 55 = .ok (.invokevirtual 179, 3) := by decide +kernel
theorem dX7_check_58 : decode cX7_check 58 = .ok (.istore 6, 2) := by decide +kernel
theorem dX7_check_60 : decode cX7_check 60 = .ok (.aload 4, 2) := by decide +kernel
theorem dX7_check_62 : decode cX7_check 62 = .ok (.iload_n 2, 1) := by decide +kernel
theorem dX7_check_63 : decode cX7_check 63 = .ok (.iload 5, 2) := by decide +kernel
theorem dX7_check_65 : decode cX7_check 65 = .ok (.invokevirtual 176, 3) := by decide +kernel
theorem dX7_check_68 : decode cX7_check 68 = .ok (.iload 6, 2) := by decide +kernel
theorem dX7_check_70 : decode cX7_check 70 = .ok (.ireturn, 1) := by decide +kernel
theorem dX7_count_0 : decode cX7_count 0 = .ok (.iload_n 1, 1) := by decide +kernel
theorem dX7_count_1 : decode cX7_count 1 = .ok (.tableswitch 113 0 7 #[47, 55, 63, 71, 80, 88, 97, 105], 47) := by decide +kernel
theorem dX7_count_48 : decode cX7_count 48 = .ok (.aload_n 0, 1) := by decide +kernel
theorem dX7_count_49 : decode cX7_count 49 = .ok (.getfield 10, 3) := by decide +kernel
theorem dX7_count_52 : decode cX7_count 52 = .ok (.invokevirtual 182, 3) := by decide +kernel
theorem dX7_count_55 : decode cX7_count 55 = .ok (.ireturn, 1) := by decide +kernel
theorem dX7_count_56 : decode cX7_count 56 = .ok (.aload_n 0, 1) := by decide +kernel
theorem dX7_count_57 : decode cX7_count 57 = .ok (.getfield 10, 3) := by decide +kernel
theorem dX7_count_60 : decode cX7_count 60 = .ok (.getfield 115, 3) := by decide +kernel
theorem dX7_count_63 : decode cX7_count 63 = .ok (.ireturn, 1) := by decide +kernel
theorem dX7_count_64 : decode cX7_count 64 = .ok (.aload_n 0, 1) := by decide +kernel
theorem dX7_count_65 : decode cX7_count 65 = .ok (.getfield 10, 3) := by decide +kernel
theorem dX7_count_68 : decode cX7_count 68 = .ok (.getfield 185, 3) := by decide +kernel
theorem dX7_count_71 : decode cX7_count 71 = .ok (.ireturn, 1) := by decide +kernel
theorem dX7_count_72 : decode cX7_count 72 = .ok (.aload_n 0, 1) := by decide +kernel
theorem dX7_count_73 : decode cX7_count 73 = .ok (.getfield 10, 3) := by decide +kernel
theorem dX7_count_76 : decode cX7_count 76 = .ok (.iconst 0, 1) := by decide +kernel
theorem dX7_count_77 : decode cX7_count 77 = .ok (.invokevirtual 188, 3) := by decide +kernel
theorem dX7_count_80 : decode cX7_count 80 = .ok (.ireturn, 1) := by decide +kernel
theorem dX7_count_81 : decode cX7_count 81 = .ok (.aload_n 0, 1) := by decide +kernel
theorem dX7_count_82 : decode cX7_count 82 = .ok (.getfield 10, 3) := by decide +kernel
theorem dX7_count_85 : decode cX7_count 85 = .ok (.invokevirtual 191, 3) := by decide +kernel
theorem dX7_count_88 : decode cX7_count 88 = .ok (.ireturn, 1) := by decide +kernel
theorem dX7_count_89 : decode cX7_count 89 = .ok (.aload_n 0, 1) := by decide +kernel
theorem dX7_count_90 : decode cX7_count 90 = .ok (.getfield 10, 3) := by decide +kernel
theorem dX7_count_93 : decode cX7_count 93 = .ok (.iconst 1, 1) := by decide +kernel
theorem dX7_count_94 : decode cX7_count 94 = .ok (.invokevirtual 188, 3) := by decide +kernel
theorem dX7_count_97 : decode cX7_count 97 = .ok (.ireturn, 1) := by decide +kernel
theorem dX7_count_98 : decode cX7_count 98 = .ok (.aload_n 0, 1) := by decide +kernel
theorem dX7_count_99 : decode cX7_count 99 = .ok (.getfield 10, 3) := by decide +kernel
theorem dX7_count_102 : decode cX7_count 102 = .ok (.invokevirtual 194, 3) := by decide +kernel
theorem dX7_count_105 : decode cX7_count 105 = .ok (.ireturn, 1) := by decide +kernel
theorem dX7_count_106 : decode cX7_count 106 = .ok (.aload_n 0, 1) := by decide +kernel
theorem dX7_count_107 : decode cX7_count 107 = .ok (.getfield 10, 3) := by decide +kernel
theorem dX7_count_110 : decode cX7_count 110 = .ok (.invokevirtual 197, 3) := by decide +kernel
theorem dX7_count_113 : decode cX7_count 113 = .ok (.ireturn, 1) := by decide +kernel
theorem dX7_count_114 : decode cX7_count 114 = .ok (.iconst (-1), 1) := by decide +kernel
theorem dX7_count_115 : decode cX7_count 115 = .ok (.ireturn, 1) := by decide +kernel
theorem dX7_digest_0 : decode cX7_digest 0 = .ok (.ldc2_w 200, 3) := by decide +kernel
theorem dX7_digest_3 : decode cX7_digest 3 = .ok (.lstore_n 1, 1) := by decide +kernel
theorem dX7_digest_4 : decode cX7_digest 4 = .ok (.iconst 0, 1) := by decide +kernel
theorem dX7_digest_5 : decode cX7_digest 5 = .ok (.istore_n 3, 1) := by decide +kernel
theorem dX7_digest_6 : decode cX7_digest 6 = .ok (.iload_n 3, 1) := by decide +kernel
theorem dX7_digest_7 : decode cX7_digest 7 = .ok (.bipush 32, 2) := by decide +kernel
theorem dX7_digest_9 : decode cX7_digest 9 = .ok (.if_icmp .ge 50, 3) := by decide +kernel
theorem dX7_digest_12 : decode cX7_digest 12 = .ok (.aload_n 0, 1) := by decide +kernel
theorem dX7_digest_13 : decode cX7_digest 13 = .ok (.getfield 10, 3) := by decide +kernel
theorem dX7_digest_16 : decode cX7_digest 16 = .ok (.iload_n 3, 1) := by decide +kernel
theorem dX7_digest_17 : decode cX7_digest 17 = .ok (.invokevirtual 139, 3) := by decide +kernel
theorem dX7_digest_20 : decode cX7_digest 20 = .ok (.astore 4, 2) := by decide +kernel
theorem dX7_digest_22 : decode cX7_digest 22 = .ok (.iconst 0, 1) := by decide +kernel
theorem dX7_digest_23 : decode cX7_digest 23 = .ok (.istore 5, 2) := by decide +kernel
theorem dX7_digest_25 : decode cX7_digest 25 = .ok (.iload 5, 2) := by decide +kernel
theorem dX7_digest_27 : decode cX7_digest 27 = .ok (.bipush 64, 2) := by decide +kernel
theorem dX7_digest_29 : decode cX7_digest 29 = .ok (.if_icmp .ge 24, 3) := by decide +kernel
theorem dX7_digest_32 : decode cX7_digest 32 = .ok (.ldc2_w 202, 3) := by decide +kernel
theorem dX7_digest_35 : decode cX7_digest 35 = .ok (.lload_n 1, 1) := by decide +kernel
theorem dX7_digest_36 : decode cX7_digest 36 = .ok (.lmul, 1) := by decide +kernel
theorem dX7_digest_37 : decode cX7_digest 37 = .ok (.aload 4, 2) := by decide +kernel
theorem dX7_digest_39 : decode cX7_digest 39 = .ok (.iload 5, 2) := by decide +kernel
theorem dX7_digest_41 : decode cX7_digest 41 = .ok (.invokevirtual 173, 3) := by decide +kernel
theorem dX7_digest_44 : decode cX7_digest 44 = .ok (.i2l, 1) := by decide +kernel
theorem dX7_digest_45 : decode cX7_digest 45 = .ok (.ladd, 1) := by decide +kernel
theorem dX7_digest_46 : decode cX7_digest 46 = .ok (.lstore_n 1, 1) := by decide +kernel
theorem dX7_digest_47 : decode cX7_digest 47 = .ok (.iinc 5 1, 3) := by decide +kernel
theorem dX7_digest_50 : decode cX7_digest 50 = .ok (.goto (-25), 3) := by decide +kernel
theorem dX7_digest_53 : decode cX7_digest 53 = .ok (.iinc 3 1, 3) := by decide +kernel
theorem dX7_digest_56 : decode cX7_digest 56 = .ok (.goto (-50), 3) := by decide +kernel
theorem dX7_digest_59 : decode cX7_digest 59 = .ok (.lload_n 1, 1) := by decide +kernel
theorem dX7_digest_60 : decode cX7_digest 60 = .ok (.lreturn, 1) := by decide +kernel
theorem dX7_keep_0 : decode cX7_keep 0 = .ok (.iload_n 1, 1) := by decide +kernel
theorem dX7_keep_1 : decode cX7_keep 1 = .ok (.ifCond .lt 12, 3) := by decide +kernel
theorem dX7_keep_4 : decode cX7_keep 4 = .ok (.iload_n 1, 1) := by decide +kernel
theorem dX7_keep_5 : decode cX7_keep 5 = .ok (.aload_n 0, 1) := by decide +kernel
theorem dX7_keep_6 : decode cX7_keep 6 = .ok (.getfield 41, 3) := by decide +kernel
theorem dX7_keep_9 : decode cX7_keep 9 = .ok (.arraylength, 1) := by decide +kernel
theorem dX7_keep_10 : decode cX7_keep 10 = .ok (.if_icmp .lt 5, 3) := by decide +kernel
theorem dX7_keep_13 : decode cX7_keep 13 = .ok (.iconst (-1), 1) := by decide +kernel
theorem dX7_keep_14 : decode cX7_keep 14 = .ok (.ireturn, 1) := by decide +kernel
theorem dX7_keep_15 : decode cX7_keep 15 = .ok (.aload_n 0, 1) := by decide +kernel
theorem dX7_keep_16 : decode cX7_keep 16 = .ok (.getfield 41, 3) := by decide +kernel
theorem dX7_keep_19 : decode cX7_keep 19 = .ok (.iload_n 1, 1) := by decide +kernel
theorem dX7_keep_20 : decode cX7_keep 20 = .ok (.aaload, 1) := by decide +kernel
theorem dX7_keep_21 : decode cX7_keep 21 = .ok (.aload_n 0, 1) := by decide +kernel
theorem dX7_keep_22 : decode cX7_keep 22 = .ok (.getfield 10, 3) := by decide +kernel
theorem dX7_keep_25 : decode cX7_keep 25 = .ok (.invokevirtual 204, 3) := by decide +kernel
theorem dX7_keep_28 : decode cX7_keep 28 = .ok (.aload_n 0, 1) := by decide +kernel
theorem dX7_keep_29 : decode cX7_keep 29 = .ok (.getfield 10, 3) := by decide +kernel
theorem dX7_keep_32 : decode cX7_keep 32 = .ok (.invokevirtual 182, 3) := by decide +kernel
theorem dX7_keep_35 : decode cX7_keep 35 = .ok (.ireturn, 1) := by decide +kernel
theorem dX7_back_0 : decode cX7_back 0 = .ok (.iload_n 1, 1) := by decide +kernel
theorem dX7_back_1 : decode cX7_back 1 = .ok (.ifCond .lt 12, 3) := by decide +kernel
theorem dX7_back_4 : decode cX7_back 4 = .ok (.iload_n 1, 1) := by decide +kernel
theorem dX7_back_5 : decode cX7_back 5 = .ok (.aload_n 0, 1) := by decide +kernel
theorem dX7_back_6 : decode cX7_back 6 = .ok (.getfield 41, 3) := by decide +kernel
theorem dX7_back_9 : decode cX7_back 9 = .ok (.arraylength, 1) := by decide +kernel
theorem dX7_back_10 : decode cX7_back 10 = .ok (.if_icmp .lt 5, 3) := by decide +kernel
theorem dX7_back_13 : decode cX7_back 13 = .ok (.iconst (-1), 1) := by decide +kernel
theorem dX7_back_14 : decode cX7_back 14 = .ok (.ireturn, 1) := by decide +kernel
theorem dX7_back_15 : decode cX7_back 15 = .ok (.aload_n 0, 1) := by decide +kernel
theorem dX7_back_16 : decode cX7_back 16 = .ok (.getfield 41, 3) := by decide +kernel
theorem dX7_back_19 : decode cX7_back 19 = .ok (.iload_n 1, 1) := by decide +kernel
theorem dX7_back_20 : decode cX7_back 20 = .ok (.aaload, 1) := by decide +kernel
theorem dX7_back_21 : decode cX7_back 21 = .ok (.getfield 207, 3) := by decide +kernel
theorem dX7_back_24 : decode cX7_back 24 = .ok (.ifCond .ne 6, 3) := by decide +kernel
theorem dX7_back_27 : decode cX7_back 27 = .ok (.bipush (-2), 2) := by decide +kernel
theorem dX7_back_29 : decode cX7_back 29 = .ok (.ireturn, 1) := by decide +kernel
theorem dX7_back_30 : decode cX7_back 30 = .ok (.aload_n 0, 1) := by decide +kernel
theorem dX7_back_31 : decode cX7_back 31 = .ok (.getfield 41, 3) := by decide +kernel
theorem dX7_back_34 : decode cX7_back 34 = .ok (.iload_n 1, 1) := by decide +kernel
theorem dX7_back_35 : decode cX7_back 35 = .ok (.aaload, 1) := by decide +kernel
theorem dX7_back_36 : decode cX7_back 36 = .ok (.aload_n 0, 1) := by decide +kernel
theorem dX7_back_37 : decode cX7_back 37 = .ok (.getfield 10, 3) := by decide +kernel
theorem dX7_back_40 : decode cX7_back 40 = .ok (.invokevirtual 211, 3) := by decide +kernel
theorem dX7_back_43 : decode cX7_back 43 = .ok (.aload_n 0, 1) := by decide +kernel
theorem dX7_back_44 : decode cX7_back 44 = .ok (.getfield 10, 3) := by decide +kernel
theorem dX7_back_47 : decode cX7_back 47 = .ok (.invokevirtual 182, 3) := by decide +kernel
theorem dX7_back_50 : decode cX7_back 50 = .ok (.ireturn, 1) := by decide +kernel
theorem dX7_times_0 : decode cX7_times 0 = .ok (.iload_n 1, 1) := by decide +kernel
theorem dX7_times_1 : decode cX7_times 1 = .ok (.tableswitch 63 0 3 #[31, 39, 47, 55], 31) := by decide +kernel
theorem dX7_times_32 : decode cX7_times 32 = .ok (.aload_n 0, 1) := by decide +kernel
theorem dX7_times_33 : decode cX7_times 33 = .ok (.getfield 35, 3) := by decide +kernel
theorem dX7_times_36 : decode cX7_times 36 = .ok (.getfield 60, 3) := by decide +kernel
theorem dX7_times_39 : decode cX7_times 39 = .ok (.ireturn, 1) := by decide +kernel
theorem dX7_times_40 : decode cX7_times 40 = .ok (.aload_n 0, 1) := by decide +kernel
theorem dX7_times_41 : decode cX7_times 41 = .ok (.getfield 21, 3) := by decide +kernel
theorem dX7_times_44 : decode cX7_times 44 = .ok (.getfield 214, 3) := by decide +kernel
theorem dX7_times_47 : decode cX7_times 47 = .ok (.ireturn, 1) := by decide +kernel
theorem dX7_times_48 : decode cX7_times 48 = .ok (.aload_n 0, 1) := by decide +kernel
theorem dX7_times_49 : decode cX7_times 49 = .ok (.getfield 21, 3) := by decide +kernel
theorem dX7_times_52 : decode cX7_times 52 = .ok (.getfield 217, 3) := by decide +kernel
theorem dX7_times_55 : decode cX7_times 55 = .ok (.ireturn, 1) := by decide +kernel
theorem dX7_times_56 : decode cX7_times 56 = .ok (.aload_n 0, 1) := by decide +kernel
theorem dX7_times_57 : decode cX7_times 57 = .ok (.getfield 21, 3) := by decide +kernel
theorem dX7_times_60 : decode cX7_times 60 = .ok (.getfield 220, 3) := by decide +kernel
theorem dX7_times_63 : decode cX7_times 63 = .ok (.ireturn, 1) := by decide +kernel
theorem dX7_times_64 : decode cX7_times 64 = .ok (.iconst (-1), 1) := by decide +kernel
theorem dX7_times_65 : decode cX7_times 65 = .ok (.ireturn, 1) := by decide +kernel
theorem dX7_isWithin_0 : decode cX7_isWithin 0 = .ok (.iload_n 0, 1) := by decide +kernel
theorem dX7_isWithin_1 : decode cX7_isWithin 1 = .ok (.iload_n 1, 1) := by decide +kernel
theorem dX7_isWithin_2 : decode cX7_isWithin 2 = .ok (.if_icmp .lt 12, 3) := by decide +kernel
theorem dX7_isWithin_5 : decode cX7_isWithin 5 = .ok (.iload_n 0, 1) := by decide +kernel
theorem dX7_isWithin_6 : decode cX7_isWithin 6 = .ok (.iload_n 2, 1) := by decide +kernel
theorem dX7_isWithin_7 : decode cX7_isWithin 7 = .ok (.if_icmp .gt 7, 3) := by decide +kernel
theorem dX7_isWithin_10 : decode cX7_isWithin 10 = .ok (.iconst 1, 1) := by decide +kernel
theorem dX7_isWithin_11 : decode cX7_isWithin 11 = .ok (.goto 4, 3) := by decide +kernel
theorem dX7_isWithin_14 : decode cX7_isWithin 14 = .ok (.iconst 0, 1) := by decide +kernel
theorem dX7_isWithin_15 : decode cX7_isWithin 15 = .ok (.ireturn, 1) := by decide +kernel
theorem dX7_isByte_0 : decode cX7_isByte 0 = .ok (.iload_n 0, 1) := by decide +kernel
theorem dX7_isByte_1 : decode cX7_isByte 1 = .ok (.iconst 0, 1) := by decide +kernel
theorem dX7_isByte_2 : decode cX7_isByte 2 = .ok (.sipush 255, 3) := by decide +kernel
theorem dX7_isByte_5 : decode cX7_isByte 5 = .ok (.invokestatic 108, 3) := by decide +kernel
theorem dX7_isByte_8 : decode cX7_isByte 8 = .ok (.ireturn, 1) := by decide +kernel
theorem dX7_isPage_0 : decode cX7_isPage 0 = .ok (.iload_n 0, 1) := by decide +kernel
theorem dX7_isPage_1 : decode cX7_isPage 1 = .ok (.iconst 0, 1) := by decide +kernel
theorem dX7_isPage_2 : decode cX7_isPage 2 = .ok (.bipush 31, 2) := by decide +kernel
theorem dX7_isPage_4 : decode cX7_isPage 4 = .ok (.invokestatic 108, 3) := by decide +kernel
theorem dX7_isPage_7 : decode cX7_isPage 7 = .ok (.ireturn, 1) := by decide +kernel
theorem dX7_isLetter_0 : decode cX7_isLetter 0 = .ok (.iload_n 0, 1) := by decide +kernel
theorem dX7_isLetter_1 : decode cX7_isLetter 1 = .ok (.bipush 97, 2) := by decide +kernel
theorem dX7_isLetter_3 : decode cX7_isLetter 3 = .ok (.if_icmp .lt 13, 3) := by decide +kernel
theorem dX7_isLetter_6 : decode cX7_isLetter 6 = .ok (.iload_n 0, 1) := by decide +kernel
theorem dX7_isLetter_7 : decode cX7_isLetter 7 = .ok (.bipush 122, 2) := by decide +kernel
theorem dX7_isLetter_9 : decode cX7_isLetter 9 = .ok (.if_icmp .gt 7, 3) := by decide +kernel
theorem dX7_isLetter_12 : decode cX7_isLetter 12 = .ok (.iconst 1, 1) := by decide +kernel
theorem dX7_isLetter_13 : decode cX7_isLetter 13 = .ok (.goto 4, 3) := by decide +kernel
theorem dX7_isLetter_16 : decode cX7_isLetter 16 = .ok (.iconst 0, 1) := by decide +kernel
theorem dX7_isLetter_17 : decode cX7_isLetter 17 = .ok (.ireturn, 1) := by decide +kernel
theorem dX7_endsInTime_0 : decode cX7_endsInTime 0 = .ok (.iload_n 0, 1) := by decide +kernel
theorem dX7_endsInTime_1 : decode cX7_endsInTime 1 = .ok (.iload_n 1, 1) := by decide +kernel
theorem dX7_endsInTime_2 : decode cX7_endsInTime 2 = .ok (.iload_n 2, 1) := by decide +kernel
theorem dX7_endsInTime_3 : decode cX7_endsInTime 3 = .ok (.iconst 1, 1) := by decide +kernel
theorem dX7_endsInTime_4 : decode cX7_endsInTime 4 = .ok (.isub, 1) := by decide +kernel
theorem dX7_endsInTime_5 : decode cX7_endsInTime 5 = .ok (.imul, 1) := by decide +kernel
theorem dX7_endsInTime_6 : decode cX7_endsInTime 6 = .ok (.iadd, 1) := by decide +kernel
theorem dX7_endsInTime_7 : decode cX7_endsInTime 7 = .ok (.sipush 17575, 3) := by decide +kernel
theorem dX7_endsInTime_10 : decode cX7_endsInTime 10 = .ok (.if_icmp .gt 7, 3) := by decide +kernel
theorem dX7_endsInTime_13 : decode cX7_endsInTime 13 = .ok (.iconst 1, 1) := by decide +kernel
theorem dX7_endsInTime_14 : decode cX7_endsInTime 14 = .ok (.goto 4, 3) := by decide +kernel
theorem dX7_endsInTime_17 : decode cX7_endsInTime 17 = .ok (.iconst 0, 1) := by decide +kernel
theorem dX7_endsInTime_18 : decode cX7_endsInTime 18 = .ok (.ireturn, 1) := by decide +kernel
theorem dX7_isSpelled_0 : decode cX7_isSpelled 0 = .ok (.iload_n 1, 1) := by decide +kernel
theorem dX7_isSpelled_1 : decode cX7_isSpelled 1 = .ok (.iconst 1, 1) := by decide +kernel
theorem dX7_isSpelled_2 : decode cX7_isSpelled 2 = .ok (.iconst 5, 1) := by decide +kernel
theorem dX7_isSpelled_3 : decode cX7_isSpelled 3 = .ok (.invokestatic 108, 3) := by decide +kernel
theorem dX7_isSpelled_6 : decode cX7_isSpelled 6 = .ok (.ifCond .ne 5, 3) := by decide +kernel
theorem dX7_isSpelled_9 : decode cX7_isSpelled 9 = .ok (.iconst 0, 1) := by decide +kernel
theorem dX7_isSpelled_10 : decode cX7_isSpelled 10 = .ok (.ireturn, 1) := by decide +kernel
theorem dX7_isSpelled_11 : decode cX7_isSpelled 11 = .ok (.iconst 1, 1) := by decide +kernel
theorem dX7_isSpelled_12 : decode cX7_isSpelled 12 = .ok (.istore_n 2, 1) := by decide +kernel
theorem dX7_isSpelled_13 : decode cX7_isSpelled 13 = .ok (.iconst 0, 1) := by decide +kernel
theorem dX7_isSpelled_14 : decode cX7_isSpelled 14 = .ok (.istore_n 3, 1) := by decide +kernel
theorem dX7_isSpelled_15 : decode cX7_isSpelled 15 = .ok (.iload_n 3, 1) := by decide +kernel
theorem dX7_isSpelled_16 : decode cX7_isSpelled 16 = .ok (.iload_n 1, 1) := by decide +kernel
theorem dX7_isSpelled_17 : decode cX7_isSpelled 17 = .ok (.if_icmp .ge 14, 3) := by decide +kernel
theorem dX7_isSpelled_20 : decode cX7_isSpelled 20 = .ok (.iload_n 2, 1) := by decide +kernel
theorem dX7_isSpelled_21 : decode cX7_isSpelled 21 = .ok (.bipush 26, 2) := by decide +kernel
theorem dX7_isSpelled_23 : decode cX7_isSpelled 23 = .ok (.imul, 1) := by decide +kernel
theorem dX7_isSpelled_24 : decode cX7_isSpelled 24 = .ok (.istore_n 2, 1) := by decide +kernel
theorem dX7_isSpelled_25 : decode cX7_isSpelled 25 = .ok (.iinc 3 1, 3) := by decide +kernel
theorem dX7_isSpelled_28 : decode cX7_isSpelled 28 = .ok (.goto (-13), 3) := by decide +kernel
theorem dX7_isSpelled_31 : decode cX7_isSpelled 31 = .ok (.iload_n 0, 1) := by decide +kernel
theorem dX7_isSpelled_32 : decode cX7_isSpelled 32 = .ok (.iconst 0, 1) := by decide +kernel
theorem dX7_isSpelled_33 : decode cX7_isSpelled 33 = .ok (.iload_n 2, 1) := by decide +kernel
theorem dX7_isSpelled_34 : decode cX7_isSpelled 34 = .ok (.iconst 1, 1) := by decide +kernel
theorem dX7_isSpelled_35 : decode cX7_isSpelled 35 = .ok (.isub, 1) := by decide +kernel
theorem dX7_isSpelled_36 : decode cX7_isSpelled 36 = .ok (.invokestatic 108, 3) := by decide +kernel
theorem dX7_isSpelled_39 : decode cX7_isSpelled 39 = .ok (.ireturn, 1) := by decide +kernel
