theorem dX0_init_0 : decode cX0_init 0 = .ok (.aload_n 0, 1) := by decide +kernel
theorem dX0_init_1 : decode cX0_init 1 = .ok (.invokespecial 3, 3) := by decide +kernel
theorem dX0_init_4 : decode cX0_init 4 = .ok (.aload_n 0, 1) := by decide +kernel
theorem dX0_init_5 : decode cX0_init 5 = .ok (.new 9, 3) := by decide +kernel
theorem dX0_init_8 : decode cX0_init 8 = .ok (.dup, 1) := by decide +kernel
theorem dX0_init_9 : decode cX0_init 9 = .ok (.sipush 256, 3) := by decide +kernel
theorem dX0_init_12 : decode cX0_init 12 = .ok (.invokespecial 11, 3) := by decide +kernel
theorem dX0_init_15 : decode cX0_init 15 = .ok (.putfield 14, 3) := by decide +kernel
theorem dX0_init_18 : decode cX0_init 18 = .ok (.aload_n 0, 1) := by decide +kernel
theorem dX0_init_19 : decode cX0_init 19 = .ok (.new 20, 3) := by decide +kernel
theorem dX0_init_22 : decode cX0_init 22 = .ok (.dup, 1) := by decide +kernel
theorem dX0_init_23 : decode cX0_init 23 = .ok (.invokespecial 22, 3) := by decide +kernel
theorem dX0_init_26 : decode cX0_init 26 = .ok (.putfield 23, 3) := by decide +kernel
theorem dX0_init_29 : decode cX0_init 29 = .ok (.aload_n 0, 1) := by decide +kernel
theorem dX0_init_30 : decode cX0_init 30 = .ok (.new 20, 3) := by decide +kernel
theorem dX0_init_33 : decode cX0_init 33 = .ok (.dup, 1) := by decide +kernel
theorem dX0_init_34 : decode cX0_init 34 = .ok (.invokespecial 22, 3) := by decide +kernel
theorem dX0_init_37 : decode cX0_init 37 = .ok (.putfield 27, 3) := by decide +kernel
theorem dX0_init_40 : decode cX0_init 40 = .ok (.aload_n 0, 1) := by decide +kernel
theorem dX0_init_41 : decode cX0_init 41 = .ok (.aload_n 1, 1) := by decide +kernel
theorem dX0_init_42 : decode cX0_init 42 = .ok (.putfield 30, 3) := by decide +kernel
theorem dX0_init_45 : decode cX0_init 45 = .ok (.return_, 1) := by decide +kernel
theorem dX0_putKey_0 : decode cX0_putKey 0 = .ok (.aload_n 0, 1) := by decide +kernel
theorem dX0_putKey_1 : decode cX0_putKey 1 = .ok (.getfield 30, 3) := by decide +kernel
theorem dX0_putKey_4 : decode cX0_putKey 4 = .ok (.aload_n 1, 1) := by decide +kernel
theorem dX0_putKey_5 : decode cX0_putKey 5 = .ok (.invokevirtual 34, 3) := by decide +kernel
theorem dX0_putKey_8 : decode cX0_putKey 8 = .ok (.aload_n 0, 1) := by decide +kernel
theorem dX0_putKey_9 : decode cX0_putKey 9 = .ok (.getfield 30, 3) := by decide +kernel
theorem dX0_putKey_12 : decode cX0_putKey 12 = .ok (.aload_n 0, 1) := by decide +kernel
theorem dX0_putKey_13 : decode cX0_putKey 13 = .ok (.getfield 30, 3) := by decide +kernel
theorem dX0_putKey_16 : decode cX0_putKey 16 = .ok (.getfield 40, 3) := by decide +kernel
theorem dX0_putKey_19 : decode cX0_putKey 19 = .ok (.iconst 1, 1) := by decide +kernel
theorem dX0_putKey_20 : decode cX0_putKey 20 = .ok (.isub, 1) := by decide +kernel
theorem dX0_putKey_21 : decode cX0_putKey 21 = .ok (.invokevirtual 44, 3) := by decide +kernel
theorem dX0_putKey_24 : decode cX0_putKey 24 = .ok (.astore_n 3, 1) := by decide +kernel
theorem dX0_putKey_25 : decode cX0_putKey 25 = .ok (.aload_n 3, 1) := by decide +kernel
theorem dX0_putKey_26 : decode cX0_putKey 26 = .ok (.aload_n 1, 1) := by decide +kernel
theorem dX0_putKey_27 : decode cX0_putKey 27 = .ok (.iconst 0, 1) := by decide +kernel
theorem dX0_putKey_28 : decode cX0_putKey 28 = .ok (.invokevirtual 48, 3) := by decide +kernel
theorem dX0_putKey_31 : decode cX0_putKey 31 = .ok (.istore 4, 2) := by decide +kernel
theorem dX0_putKey_33 : decode cX0_putKey 33 = .ok (.aload_n 3, 1) := by decide +kernel
theorem dX0_putKey_34 : decode cX0_putKey 34 = .ok (.iload 4, 2) := by decide +kernel
theorem dX0_putKey_36 : decode cX0_putKey 36 = .ok (.aload_n 1, 1) := by decide +kernel
theorem dX0_putKey_37 : decode cX0_putKey 37 = .ok (.invokevirtual 52, 3) := by decide +kernel
theorem dX0_putKey_40 : decode cX0_putKey 40 = .ok (.ifCond .eq 21, 3) := by decide +kernel
theorem dX0_putKey_43 : decode cX0_putKey 43 = .ok (.aload_n 3, 1) := by decide +kernel
theorem dX0_putKey_44 : decode cX0_putKey 44 = .ok (.iload 4, 2) := by decide +kernel
theorem dX0_putKey_46 : decode cX0_putKey 46 = .ok (.invokevirtual 56, 3) := by decide +kernel
theorem dX0_putKey_49 : decode cX0_putKey 49 = .ok (.istore 5, 2) := by decide +kernel
theorem dX0_putKey_51 : decode cX0_putKey 51 = .ok (.aload_n 3, 1) := by decide +kernel
theorem dX0_putKey_52 : decode cX0_putKey 52 = .ok (.iload 4, 2) := by decide +kernel
theorem dX0_putKey_54 : decode cX0_putKey 54 = .ok (.iload_n 2, 1) := by decide +kernel
theorem dX0_putKey_55 : decode cX0_putKey 55 = .ok (.invokevirtual 60, 3) := by decide +kernel
theorem dX0_putKey_58 : decode cX0_putKey 58 = .ok (.iload 5, 2) := by decide +kernel
theorem dX0_putKey_60 : decode cX0_putKey 60 = .ok (.ireturn, 1) := by decide +kernel
theorem dX0_putKey_61 : decode cX0_putKey 61 = .ok (.aload_n 0, 1) := by decide +kernel
theorem dX0_putKey_62 : decode cX0_putKey 62 = .ok (.getfield 30, 3) := by decide +kernel
theorem dX0_putKey_65 : decode cX0_putKey 65 = .ok (.iconst 0, 1) := by decide +kernel
theorem dX0_putKey_66 : decode cX0_putKey 66 = .ok (.invokevirtual 64, 3) := by decide +kernel
theorem dX0_putKey_69 : decode cX0_putKey 69 = .ok (.aload_n 0, 1) := by decide +kernel
theorem dX0_putKey_70 : decode cX0_putKey 70 = .ok (.getfield 30, 3) := by decide +kernel
theorem dX0_putKey_73 : decode cX0_putKey 73 = .ok (.getfield 40, 3) := by decide +kernel
theorem dX0_putKey_76 : decode cX0_putKey 76 = .ok (.if_icmp .gt 6, 3) := by decide +kernel
theorem dX0_putKey_79 : decode cX0_putKey 79 = .ok (.bipush (-3), 2) := by decide +kernel
theorem dX0_putKey_81 : decode cX0_putKey 81 = .ok (.ireturn, 1) := by decide +kernel
theorem dX0_putKey_82 : decode cX0_putKey 82 = .ok (.aload_n 0, 1) := by decide +kernel
theorem dX0_putKey_83 : decode cX0_putKey 83 = .ok (.getfield 23, 3) := by decide +kernel
theorem dX0_putKey_86 : decode cX0_putKey 86 = .ok (.aload_n 1, 1) := by decide +kernel
theorem dX0_putKey_87 : decode cX0_putKey 87 = .ok (.invokevirtual 67, 3) := by decide +kernel
theorem dX0_putKey_90 : decode cX0_putKey 90 = .ok (.aload_n 0, 1) := by decide +kernel
theorem dX0_putKey_91 : decode cX0_putKey 91 = .ok (.iload 4, 2) := by decide +kernel
theorem dX0_putKey_93 : decode cX0_putKey 93 = .ok (.iload_n 2, 1) := by decide +kernel
theorem dX0_putKey_94 : decode cX0_putKey 94 = .ok (.invokevirtual 70, 3) := by decide +kernel
theorem dX0_putKey_97 : decode cX0_putKey 97 = .ok (.bipush (-9), 2) := by decide +kernel
theorem dX0_putKey_99 : decode cX0_putKey 99 = .ok (.ireturn, 1) := by decide +kernel
theorem dX0_insertUpward_0 : decode cX0_insertUpward 0 = .ok (.iload_n 1, 1) := by decide +kernel
theorem dX0_insertUpward_1 : decode cX0_insertUpward 1 = .ok (.istore_n 3, 1) := by decide +kernel
theorem dX0_insertUpward_2 : decode cX0_insertUpward 2 = .ok (.iload_n 2, 1) := by decide +kernel
theorem dX0_insertUpward_3 : decode cX0_insertUpward 3 = .ok (.istore 4, 2) := by decide +kernel
theorem dX0_insertUpward_5 : decode cX0_insertUpward 5 = .ok (.aload_n 0, 1) := by decide +kernel
theorem dX0_insertUpward_6 : decode cX0_insertUpward 6 = .ok (.getfield 30, 3) := by decide +kernel
theorem dX0_insertUpward_9 : decode cX0_insertUpward 9 = .ok (.getfield 40, 3) := by decide +kernel
theorem dX0_insertUpward_12 : decode cX0_insertUpward 12 = .ok (.iconst 1, 1) := by decide +kernel
theorem dX0_insertUpward_13 : decode cX0_insertUpward 13 = .ok (.isub, 1) := by decide +kernel
theorem dX0_insertUpward_14 : decode cX0_insertUpward 14 = .ok (.istore 5, 2) := by decide +kernel
theorem dX0_insertUpward_16 : decode cX0_insertUpward 16 = .ok (.iload 5, 2) := by decide +kernel
theorem dX0_insertUpward_18 : decode cX0_insertUpward 18 = .ok (.ifCond .lt 83, 3) := by decide +kernel
theorem dX0_insertUpward_21 : decode cX0_insertUpward 21 = .ok (.aload_n 0, 1) := by decide +kernel
theorem dX0_insertUpward_22 : decode cX0_insertUpward 22 = .ok (.getfield 30, 3) := by decide +kernel
theorem dX0_insertUpward_25 : decode cX0_insertUpward 25 = .ok (.iload 5, 2) := by decide +kernel
theorem dX0_insertUpward_27 : decode cX0_insertUpward 27 = .ok (.invokevirtual 44, 3) := by decide +kernel
theorem dX0_insertUpward_30 : decode cX0_insertUpward 30 = .ok (.astore 6, 2) := by decide +kernel
theorem dX0_insertUpward_32 : decode cX0_insertUpward 32 = .ok (.aload_n 0, 1) := by decide +kernel
theorem dX0_insertUpward_33 : decode cX0_insertUpward 33 = .ok (.getfield 14, 3) := by decide +kernel
theorem dX0_insertUpward_36 : decode cX0_insertUpward 36 = .ok (.aload 6, 2) := by decide +kernel
theorem dX0_insertUpward_38 : decode cX0_insertUpward 38 = .ok (.invokevirtual 73, 3) := by decide +kernel
theorem dX0_insertUpward_41 : decode cX0_insertUpward 41 = .ok (.aload_n 0, 1) := by decide +kernel
theorem dX0_insertUpward_42 : decode cX0_insertUpward 42 = .ok (.getfield 14, 3) := by decide +kernel
theorem dX0_insertUpward_45 : decode cX0_insertUpward 45 = .ok (.iload_n 3, 1) := by decide +kernel
theorem dX0_insertUpward_46 : decode cX0_insertUpward 46 = .ok (.aload_n 0, 1) := by decide +kernel
theorem dX0_insertUpward_47 : decode cX0_insertUpward 47 = .ok (.getfield 23, 3) := by decide +kernel
theorem dX0_insertUpward_50 : decode cX0_insertUpward 50 = .ok (.iload 4, 2) := by decide +kernel
theorem dX0_insertUpward_52 : decode cX0_insertUpward 52 = .ok (.invokevirtual 76, 3) := by decide +kernel
theorem dX0_insertUpward_55 : decode cX0_insertUpward 55 = .ok (.aload_n 0, 1) := by decide +kernel
theorem dX0_insertUpward_56 : decode cX0_insertUpward 56 = .ok (.getfield 14, 3) := by decide +kernel
theorem dX0_insertUpward_59 : decode cX0_insertUpward 59 = .ok (.invokevirtual 80, 3) := by decide +kernel
theorem dX0_insertUpward_62 : decode cX0_insertUpward 62 = .ok (.bipush 64, 2) := by decide +kernel
theorem dX0_insertUpward_64 : decode cX0_insertUpward 64 = .ok (.if_icmp .gt 13, 3) := by decide +kernel
theorem dX0_insertUpward_67 : decode cX0_insertUpward 67 = .ok (.aload 6, 2) := by decide +kernel
theorem dX0_insertUpward_69 : decode cX0_insertUpward 69 = .ok (.aload_n 0, 1) := by decide +kernel
theorem dX0_insertUpward_70 : decode cX0_insertUpward 70 = .ok (.getfield 14, 3) := by decide +kernel
theorem dX0_insertUpward_73 : decode cX0_insertUpward 73 = .ok (.invokevirtual 73, 3) := by decide +kernel
theorem dX0_insertUpward_76 : decode cX0_insertUpward 76 = .ok (.return_, 1) := by decide +kernel
theorem dX0_insertUpward_77 : decode cX0_insertUpward 77 = .ok (.aload_n 0, 1) := by decide +kernel
theorem dX0_insertUpward_78 : decode cX0_insertUpward 78 = .ok (.aload 6, 2) := by decide +kernel
theorem dX0_insertUpward_80 : decode cX0_insertUpward 80 = .ok (.invokevirtual 84, 3) := by decide +kernel
theorem dX0_insertUpward_83 : decode cX0_insertUpward 83 = .ok (.istore 4, 2) := by decide +kernel
theorem dX0_insertUpward_85 : decode cX0_insertUpward 85 = .ok (.aload_n 0, 1) := by decide +kernel
theorem dX0_insertUpward_86 : decode cX0_insertUpward 86 = .ok (.getfield 30, 3) := by decide +kernel
theorem dX0_insertUpward_89 : decode cX0_insertUpward 89 = .ok (.iload 5, 2) := by decide +kernel
theorem dX0_insertUpward_91 : decode cX0_insertUpward 91 = .ok (.invokevirtual 88, 3) := by decide +kernel
theorem dX0_insertUpward_94 : decode cX0_insertUpward 94 = .ok (.istore_n 3, 1) := by decide +kernel
theorem dX0_insertUpward_95 : decode cX0_insertUpward 95 = .ok (.iinc 5 (-1), 3) := by decide +kernel
theorem dX0_insertUpward_98 : decode cX0_insertUpward 98 = .ok (.goto (-82), 3) := by decide +kernel
theorem dX0_insertUpward_101 : decode cX0_insertUpward 101 = .ok (.aload_n 0, 1) := by decide +kernel
theorem dX0_insertUpward_102 : decode cX0_insertUpward 102 = .ok (.iload 4, 2) := by decide +kernel
theorem dX0_insertUpward_104 : decode cX0_insertUpward 104 = .ok (.invokevirtual 91, 3) := by decide +kernel
theorem dX0_insertUpward_107 : decode cX0_insertUpward 107 = .ok (.return_, 1) := by decide +kernel
theorem dX0_split_0 : decode cX0_split 0 = .ok (.aload_n 0, 1) := by decide +kernel
theorem dX0_split_1 : decode cX0_split 1 = .ok (.getfield 30, 3) := by decide +kernel
theorem dX0_split_4 : decode cX0_split 4 = .ok (.invokevirtual 94, 3) := by decide +kernel
theorem dX0_split_7 : decode cX0_split 7 = .ok (.istore_n 2, 1) := by decide +kernel
theorem dX0_split_8 : decode cX0_split 8 = .ok (.aload_n 0, 1) := by decide +kernel
theorem dX0_split_9 : decode cX0_split 9 = .ok (.getfield 30, 3) := by decide +kernel
theorem dX0_split_12 : decode cX0_split 12 = .ok (.iload_n 2, 1) := by decide +kernel
theorem dX0_split_13 : decode cX0_split 13 = .ok (.invokevirtual 97, 3) := by decide +kernel
theorem dX0_split_16 : decode cX0_split 16 = .ok (.astore_n 3, 1) := by decide +kernel
theorem dX0_split_17 : decode cX0_split 17 = .ok (.aload_n 0, 1) := by decide +kernel
theorem dX0_split_18 : decode cX0_split 18 = .ok (.getfield 14, 3) := by decide +kernel
theorem dX0_split_21 : decode cX0_split 21 = .ok (.invokevirtual 100, 3) := by decide +kernel
theorem dX0_split_24 : decode cX0_split 24 = .ok (.iconst 1, 1) := by decide +kernel
theorem dX0_split_25 : decode cX0_split 25 = .ok (.if_icmp .ne 18, 3) := by decide +kernel
theorem dX0_split_28 : decode cX0_split 28 = .ok (.aload_n 3, 1) := by decide +kernel
theorem dX0_split_29 : decode cX0_split 29 = .ok (.aload_n 1, 1) := by decide +kernel
theorem dX0_split_30 : decode cX0_split 30 = .ok (.invokevirtual 103, 3) := by decide +kernel
theorem dX0_split_33 : decode cX0_split 33 = .ok (.invokevirtual 106, 3) := by decide +kernel
theorem dX0_split_36 : decode cX0_split 36 = .ok (.aload_n 1, 1) := by decide +kernel
theorem dX0_split_37 : decode cX0_split 37 = .ok (.iload_n 2, 1) := by decide +kernel
theorem dX0_split_38 : decode cX0_split 38 = .ok (.iconst 1, 1) := by decide +kernel
theorem dX0_split_39 : decode cX0_split 39 = .ok (.iadd, 1) := by decide +kernel
theorem dX0_split_40 : decode cX0_split 40 = .ok (.invokevirtual 106, 3) := by decide +kernel
theorem dX0_split_43 : decode cX0_split 43 = .ok (.aload_n 0, 1) := by decide +kernel
theorem dX0_split_44 : decode cX0_split 44 = .ok (.getfield 14, 3) := by decide +kernel
theorem dX0_split_47 : decode cX0_split 47 = .ok (.invokevirtual 109, 3) := by decide +kernel
theorem dX0_split_50 : decode cX0_split 50 = .ok (.istore 4, 2) := by decide +kernel
theorem dX0_split_52 : decode cX0_split 52 = .ok (.aload_n 0, 1) := by decide +kernel
theorem dX0_split_53 : decode cX0_split 53 = .ok (.iload 4, 2) := by decide +kernel
theorem dX0_split_55 : decode cX0_split 55 = .ok (.invokevirtual 112, 3) := by decide +kernel
theorem dX0_split_58 : decode cX0_split 58 = .ok (.aload_n 0, 1) := by decide +kernel
theorem dX0_split_59 : decode cX0_split 59 = .ok (.iload 4, 2) := by decide +kernel
theorem dX0_split_61 : decode cX0_split 61 = .ok (.aload_n 1, 1) := by decide +kernel
theorem dX0_split_62 : decode cX0_split 62 = .ok (.aload_n 3, 1) := by decide +kernel
theorem dX0_split_63 : decode cX0_split 63 = .ok (.invokevirtual 115, 3) := by decide +kernel
theorem dX0_split_66 : decode cX0_split 66 = .ok (.aload_n 0, 1) := by decide +kernel
theorem dX0_split_67 : decode cX0_split 67 = .ok (.dup, 1) := by decide +kernel
theorem dX0_split_68 : decode cX0_split 68 = .ok (.getfield 119, 3) := by decide +kernel
theorem dX0_split_71 : decode cX0_split 71 = .ok (.iconst 1, 1) := by decide +kernel
theorem dX0_split_72 : decode cX0_split 72 = .ok (.iadd, 1) := by decide +kernel
theorem dX0_split_73 : decode cX0_split 73 = .ok (.putfield 119, 3) := by decide +kernel
theorem dX0_split_76 : decode cX0_split 76 = .ok (.iload_n 2, 1) := by decide +kernel
theorem dX0_split_77 : decode cX0_split 77 = .ok (.ireturn, 1) := by decide +kernel
theorem dX0_raiseRoot_0 : decode cX0_raiseRoot 0 = .ok (.aload_n 0, 1) := by decide +kernel
theorem dX0_raiseRoot_1 : decode cX0_raiseRoot 1 = .ok (.getfield 30, 3) := by decide +kernel
theorem dX0_raiseRoot_4 : decode cX0_raiseRoot 4 = .ok (.invokevirtual 94, 3) := by decide +kernel
theorem dX0_raiseRoot_7 : decode cX0_raiseRoot 7 = .ok (.istore_n 2, 1) := by decide +kernel
theorem dX0_raiseRoot_8 : decode cX0_raiseRoot 8 = .ok (.aload_n 0, 1) := by decide +kernel
theorem dX0_raiseRoot_9 : decode cX0_raiseRoot 9 = .ok (.getfield 30, 3) := by decide +kernel
theorem dX0_raiseRoot_12 : decode cX0_raiseRoot 12 = .ok (.iload_n 2, 1) := by decide +kernel
theorem dX0_raiseRoot_13 : decode cX0_raiseRoot 13 = .ok (.invokevirtual 97, 3) := by decide +kernel
theorem dX0_raiseRoot_16 : decode cX0_raiseRoot 16 = .ok (.astore_n 3, 1) := by decide +kernel
theorem dX0_raiseRoot_17 : decode cX0_raiseRoot 17 = .ok (.aload_n 3, 1) := by decide +kernel
theorem dX0_raiseRoot_18 : decode cX0_raiseRoot 18 = .ok (.iconst 2, 1) := by decide +kernel
theorem dX0_raiseRoot_19 : decode cX0_raiseRoot 19 = .ok (.aload_n 0, 1) := by decide +kernel
theorem dX0_raiseRoot_20 : decode cX0_raiseRoot 20 = .ok (.getfield 30, 3) := by decide +kernel
theorem dX0_raiseRoot_23 : decode cX0_raiseRoot 23 = .ok (.getfield 122, 3) := by decide +kernel
theorem dX0_raiseRoot_26 : decode cX0_raiseRoot 26 = .ok (.invokevirtual 125, 3) := by decide +kernel
theorem dX0_raiseRoot_29 : decode cX0_raiseRoot 29 = .ok (.aload_n 3, 1) := by decide +kernel
theorem dX0_raiseRoot_30 : decode cX0_raiseRoot 30 = .ok (.iconst 0, 1) := by decide +kernel
theorem dX0_raiseRoot_31 : decode cX0_raiseRoot 31 = .ok (.aload_n 0, 1) := by decide +kernel
theorem dX0_raiseRoot_32 : decode cX0_raiseRoot 32 = .ok (.getfield 23, 3) := by decide +kernel
theorem dX0_raiseRoot_35 : decode cX0_raiseRoot 35 = .ok (.iload_n 1, 1) := by decide +kernel
theorem dX0_raiseRoot_36 : decode cX0_raiseRoot 36 = .ok (.invokevirtual 76, 3) := by decide +kernel
theorem dX0_raiseRoot_39 : decode cX0_raiseRoot 39 = .ok (.aload_n 0, 1) := by decide +kernel
theorem dX0_raiseRoot_40 : decode cX0_raiseRoot 40 = .ok (.getfield 30, 3) := by decide +kernel
theorem dX0_raiseRoot_43 : decode cX0_raiseRoot 43 = .ok (.iload_n 2, 1) := by decide +kernel
theorem dX0_raiseRoot_44 : decode cX0_raiseRoot 44 = .ok (.putfield 122, 3) := by decide +kernel
theorem dX0_raiseRoot_47 : decode cX0_raiseRoot 47 = .ok (.aload_n 0, 1) := by decide +kernel
theorem dX0_raiseRoot_48 : decode cX0_raiseRoot 48 = .ok (.getfield 30, 3) := by decide +kernel
theorem dX0_raiseRoot_51 : decode cX0_raiseRoot 51 = .ok (.dup, 1) := by decide +kernel
theorem dX0_raiseRoot_52 : decode cX0_raiseRoot 52 = .ok (.getfield 40, 3) := by decide +kernel
theorem dX0_raiseRoot_55 : decode cX0_raiseRoot 55 = .ok (.iconst 1, 1) := by decide +kernel
theorem dX0_raiseRoot_56 : decode cX0_raiseRoot 56 = .ok (.iadd, 1) := by decide +kernel
theorem dX0_raiseRoot_57 : decode cX0_raiseRoot 57 = .ok (.putfield 40, 3) := by decide +kernel
theorem dX0_raiseRoot_60 : decode cX0_raiseRoot 60 = .ok (.return_, 1) := by decide +kernel
theorem dX0_readSeparator_0 : decode cX0_readSeparator 0 = .ok (.aload_n 0, 1) := by decide +kernel
theorem dX0_readSeparator_1 : decode cX0_readSeparator 1 = .ok (.getfield 14, 3) := by decide +kernel
theorem dX0_readSeparator_4 : decode cX0_readSeparator 4 = .ok (.iload_n 1, 1) := by decide +kernel
theorem dX0_readSeparator_5 : decode cX0_readSeparator 5 = .ok (.aload_n 0, 1) := by decide +kernel
theorem dX0_readSeparator_6 : decode cX0_readSeparator 6 = .ok (.getfield 23, 3) := by decide +kernel
theorem dX0_readSeparator_9 : decode cX0_readSeparator 9 = .ok (.invokevirtual 128, 3) := by decide +kernel
theorem dX0_readSeparator_12 : decode cX0_readSeparator 12 = .ok (.aload_n 0, 1) := by decide +kernel
theorem dX0_readSeparator_13 : decode cX0_readSeparator 13 = .ok (.getfield 14, 3) := by decide +kernel
theorem dX0_readSeparator_16 : decode cX0_readSeparator 16 = .ok (.invokevirtual 100, 3) := by decide +kernel
theorem dX0_readSeparator_19 : decode cX0_readSeparator 19 = .ok (.iconst 1, 1) := by decide +kernel
theorem dX0_readSeparator_20 : decode cX0_readSeparator 20 = .ok (.if_icmp .ne 28, 3) := by decide +kernel
theorem dX0_readSeparator_23 : decode cX0_readSeparator 23 = .ok (.aload_n 0, 1) := by decide +kernel
theorem dX0_readSeparator_24 : decode cX0_readSeparator 24 = .ok (.getfield 14, 3) := by decide +kernel
theorem dX0_readSeparator_27 : decode cX0_readSeparator 27 = .ok (.iload_n 1, 1) := by decide +kernel
theorem dX0_readSeparator_28 : decode cX0_readSeparator 28 = .ok (.iconst 1, 1) := by decide +kernel
theorem dX0_readSeparator_29 : decode cX0_readSeparator 29 = .ok (.isub, 1) := by decide +kernel
theorem dX0_readSeparator_30 : decode cX0_readSeparator 30 = .ok (.aload_n 0, 1) := by decide +kernel
theorem dX0_readSeparator_31 : decode cX0_readSeparator 31 = .ok (.getfield 27, 3) := by decide +kernel
theorem dX0_readSeparator_34 : decode cX0_readSeparator 34 = .ok (.invokevirtual 128, 3) := by decide +kernel
theorem dX0_readSeparator_37 : decode cX0_readSeparator 37 = .ok (.aload_n 0, 1) := by decide +kernel
theorem dX0_readSeparator_38 : decode cX0_readSeparator 38 = .ok (.getfield 23, 3) := by decide +kernel
theorem dX0_readSeparator_41 : decode cX0_readSeparator 41 = .ok (.aload_n 0, 1) := by decide +kernel
theorem dX0_readSeparator_42 : decode cX0_readSeparator 42 = .ok (.getfield 27, 3) := by decide +kernel
theorem dX0_readSeparator_45 : decode cX0_readSeparator 45 = .ok (.invokevirtual 132, 3) := by decide +kernel
theorem dX0_readSeparator_48 : decode cX0_readSeparator 48 = .ok (.return_, 1) := by decide +kernel
theorem dX0_deal_0 : decode cX0_deal 0 = .ok (.aload_n 0, 1) := by decide +kernel
theorem dX0_deal_1 : decode cX0_deal 1 = .ok (.getfield 14, 3) := by decide +kernel
theorem dX0_deal_4 : decode cX0_deal 4 = .ok (.invokevirtual 100, 3) := by decide +kernel
theorem dX0_deal_7 : decode cX0_deal 7 = .ok (.iconst 2, 1) := by decide +kernel
theorem dX0_deal_8 : decode cX0_deal 8 = .ok (.if_icmp .ne 7, 3) := by decide +kernel
theorem dX0_deal_11 : decode cX0_deal 11 = .ok (.iconst 1, 1) := by decide +kernel
theorem dX0_deal_12 : decode cX0_deal 12 = .ok (.goto 4, 3) := by decide +kernel
theorem dX0_deal_15 : decode cX0_deal 15 = .ok (.iconst 0, 1) := by decide +kernel
theorem dX0_deal_16 : decode cX0_deal 16 = .ok (.istore 4, 2) := by decide +kernel
theorem dX0_deal_18 : decode cX0_deal 18 = .ok (.aload_n 2, 1) := by decide +kernel
theorem dX0_deal_19 : decode cX0_deal 19 = .ok (.aload_n 0, 1) := by decide +kernel
theorem dX0_deal_20 : decode cX0_deal 20 = .ok (.getfield 14, 3) := by decide +kernel
theorem dX0_deal_23 : decode cX0_deal 23 = .ok (.invokevirtual 100, 3) := by decide +kernel
theorem dX0_deal_26 : decode cX0_deal 26 = .ok (.aload_n 2, 1) := by decide +kernel
theorem dX0_deal_27 : decode cX0_deal 27 = .ok (.invokevirtual 103, 3) := by decide +kernel
theorem dX0_deal_30 : decode cX0_deal 30 = .ok (.invokevirtual 125, 3) := by decide +kernel
theorem dX0_deal_33 : decode cX0_deal 33 = .ok (.aload_n 2, 1) := by decide +kernel
theorem dX0_deal_34 : decode cX0_deal 34 = .ok (.aload_n 0, 1) := by decide +kernel
theorem dX0_deal_35 : decode cX0_deal 35 = .ok (.getfield 14, 3) := by decide +kernel
theorem dX0_deal_38 : decode cX0_deal 38 = .ok (.iconst 0, 1) := by decide +kernel
theorem dX0_deal_39 : decode cX0_deal 39 = .ok (.iload_n 1, 1) := by decide +kernel
theorem dX0_deal_40 : decode cX0_deal 40 = .ok (.invokevirtual 135, 3) := by decide +kernel
theorem dX0_deal_43 : decode cX0_deal 43 = .ok (.aload_n 3, 1) := by decide +kernel
theorem dX0_deal_44 : decode cX0_deal 44 = .ok (.aload_n 0, 1) := by decide +kernel
theorem dX0_deal_45 : decode cX0_deal 45 = .ok (.getfield 14, 3) := by decide +kernel
theorem dX0_deal_48 : decode cX0_deal 48 = .ok (.invokevirtual 100, 3) := by decide +kernel
theorem dX0_deal_51 : decode cX0_deal 51 = .ok (.iload 4, 2) := by decide +kernel
theorem dX0_deal_53 : decode cX0_deal 53 = .ok (.ifCond .eq 14, 3) := by decide +kernel
theorem dX0_deal_56 : decode cX0_deal 56 = .ok (.aload_n 0, 1) := by decide +kernel
theorem dX0_deal_57 : decode cX0_deal 57 = .ok (.getfield 14, 3) := by decide +kernel
theorem dX0_deal_60 : decode cX0_deal 60 = .ok (.iload_n 1, 1) := by decide +kernel
theorem dX0_deal_61 : decode cX0_deal 61 = .ok (.invokevirtual 56, 3) := by decide +kernel
theorem dX0_deal_64 : decode cX0_deal 64 = .ok (.goto 7, 3) := by decide +kernel
theorem dX0_deal_67 : decode cX0_deal 67 = .ok (.aload_n 3, 1) := by decide +kernel
theorem dX0_deal_68 : decode cX0_deal 68 = .ok (.invokevirtual 103, 3) := by decide +kernel
theorem dX0_deal_71 : decode cX0_deal 71 = .ok (.invokevirtual 125, 3) := by decide +kernel
theorem dX0_deal_74 : decode cX0_deal 74 = .ok (.aload_n 3, 1) := by decide +kernel
theorem dX0_deal_75 : decode cX0_deal 75 = .ok (.aload_n 0, 1) := by decide +kernel
theorem dX0_deal_76 : decode cX0_deal 76 = .ok (.getfield 14, 3) := by decide +kernel
theorem dX0_deal_79 : decode cX0_deal 79 = .ok (.iload 4, 2) := by decide +kernel
theorem dX0_deal_81 : decode cX0_deal 81 = .ok (.ifCond .eq 9, 3) := by decide +kernel
theorem dX0_deal_84 : decode cX0_deal 84 = .ok (.iload_n 1, 1) := by decide +kernel
theorem dX0_deal_85 : decode cX0_deal 85 = .ok (.iconst 1, 1) := by decide +kernel
theorem dX0_deal_86 : decode cX0_deal 86 = .ok (.iadd, 1) := by decide +kernel
theorem dX0_deal_87 : decode cX0_deal 87 = .ok (.goto 4, 3) := by decide +kernel
theorem dX0_deal_90 : decode cX0_deal 90 = .ok (.iload_n 1, 1) := by decide +kernel
theorem dX0_deal_91 : decode cX0_deal 91 = .ok (.aload_n 0, 1) := by decide +kernel
theorem dX0_deal_92 : decode cX0_deal 92 = .ok (.getfield 14, 3) := by decide +kernel
theorem dX0_deal_95 : decode cX0_deal 95 = .ok (.invokevirtual 139, 3) := by decide +kernel
theorem dX0_deal_98 : decode cX0_deal 98 = .ok (.invokevirtual 135, 3) := by decide +kernel
theorem dX0_deal_101 : decode cX0_deal 101 = .ok (.return_, 1) := by decide +kernel
theorem dX0_takeKey_0 : decode cX0_takeKey 0 = .ok (.aload_n 0, 1) := by decide +kernel
theorem dX0_takeKey_1 : decode cX0_takeKey 1 = .ok (.getfield 30, 3) := by decide +kernel
theorem dX0_takeKey_4 : decode cX0_takeKey 4 = .ok (.aload_n 1, 1) := by decide +kernel
theorem dX0_takeKey_5 : decode cX0_takeKey 5 = .ok (.invokevirtual 34, 3) := by decide +kernel
theorem dX0_takeKey_8 : decode cX0_takeKey 8 = .ok (.aload_n 0, 1) := by decide +kernel
theorem dX0_takeKey_9 : decode cX0_takeKey 9 = .ok (.getfield 30, 3) := by decide +kernel
theorem dX0_takeKey_12 : decode cX0_takeKey 12 = .ok (.aload_n 0, 1) := by decide +kernel
theorem dX0_takeKey_13 : decode cX0_takeKey 13 = .ok (.getfield 30, 3) := by decide +kernel
theorem dX0_takeKey_16 : decode cX0_takeKey 16 = .ok (.getfield 40, 3) := by decide +kernel
theorem dX0_takeKey_19 : decode cX0_takeKey 19 = .ok (.iconst 1, 1) := by decide +kernel
theorem dX0_takeKey_20 : decode cX0_takeKey 20 = .ok (.isub, 1) := by decide +kernel
theorem dX0_takeKey_21 : decode cX0_takeKey 21 = .ok (.invokevirtual 44, 3) := by decide +kernel
theorem dX0_takeKey_24 : decode cX0_takeKey 24 = .ok (.astore_n 2, 1) := by decide +kernel
theorem dX0_takeKey_25 : decode cX0_takeKey 25 = .ok (.aload_n 2, 1) := by decide +kernel
theorem dX0_takeKey_26 : decode cX0_takeKey 26 = .ok (.aload_n 1, 1) := by decide +kernel
theorem dX0_takeKey_27 : decode cX0_takeKey 27 = .ok (.iconst 0, 1) := by decide +kernel
theorem dX0_takeKey_28 : decode cX0_takeKey 28 = .ok (.invokevirtual 48, 3) := by decide +kernel
theorem dX0_takeKey_31 : decode cX0_takeKey 31 = .ok (.istore_n 3, 1) := by decide +kernel
theorem dX0_takeKey_32 : decode cX0_takeKey 32 = .ok (.aload_n 2, 1) := by decide +kernel
theorem dX0_takeKey_33 : decode cX0_takeKey 33 = .ok (.iload_n 3, 1) := by decide +kernel
theorem dX0_takeKey_34 : decode cX0_takeKey 34 = .ok (.aload_n 1, 1) := by decide +kernel
theorem dX0_takeKey_35 : decode cX0_takeKey 35 = .ok (.invokevirtual 52, 3) := by decide +kernel
theorem dX0_takeKey_38 : decode cX0_takeKey 38 = .ok (.ifCond .ne 6, 3) := by decide +kernel
theorem dX0_takeKey_41 : decode cX0_takeKey 41 = .ok (.bipush (-9), 2) := by decide +kernel
theorem dX0_takeKey_43 : decode cX0_takeKey 43 = .ok (.ireturn, 1) := by decide +kernel
theorem dX0_takeKey_44 : decode cX0_takeKey 44 = .ok (.aload_n 2, 1) := by decide +kernel
theorem dX0_takeKey_45 : decode cX0_takeKey 45 = .ok (.iload_n 3, 1) := by decide +kernel
theorem dX0_takeKey_46 : decode cX0_takeKey 46 = .ok (.invokevirtual 56, 3) := by decide +kernel
theorem dX0_takeKey_49 : decode cX0_takeKey 49 = .ok (.istore 4, 2) := by decide +kernel
theorem dX0_takeKey_51 : decode cX0_takeKey 51 = .ok (.aload_n 2, 1) := by decide +kernel
theorem dX0_takeKey_52 : decode cX0_takeKey 52 = .ok (.iload_n 3, 1) := by decide +kernel
theorem dX0_takeKey_53 : decode cX0_takeKey 53 = .ok (.invokevirtual 142, 3) := by decide +kernel
theorem dX0_takeKey_56 : decode cX0_takeKey 56 = .ok (.aload_n 0, 1) := by decide +kernel
theorem dX0_takeKey_57 : decode cX0_takeKey 57 = .ok (.getfield 30, 3) := by decide +kernel
theorem dX0_takeKey_60 : decode cX0_takeKey 60 = .ok (.getfield 40, 3) := by decide +kernel
theorem dX0_takeKey_63 : decode cX0_takeKey 63 = .ok (.iconst 1, 1) := by decide +kernel
theorem dX0_takeKey_64 : decode cX0_takeKey 64 = .ok (.isub, 1) := by decide +kernel
theorem dX0_takeKey_65 : decode cX0_takeKey 65 = .ok (.istore 5, 2) := by decide +kernel
theorem dX0_takeKey_67 : decode cX0_takeKey 67 = .ok (.iload 5, 2) := by decide +kernel
theorem dX0_takeKey_69 : decode cX0_takeKey 69 = .ok (.ifCond .le 35, 3) := by decide +kernel
theorem dX0_takeKey_72 : decode cX0_takeKey 72 = .ok (.aload_n 0, 1) := by decide +kernel
theorem dX0_takeKey_73 : decode cX0_takeKey 73 = .ok (.getfield 30, 3) := by decide +kernel
theorem dX0_takeKey_76 : decode cX0_takeKey 76 = .ok (.iload 5, 2) := by decide +kernel
theorem dX0_takeKey_78 : decode cX0_takeKey 78 = .ok (.invokevirtual 44, 3) := by decide +kernel
theorem dX0_takeKey_81 : decode cX0_takeKey 81 = .ok (.invokevirtual 80, 3) := by decide +kernel
theorem dX0_takeKey_84 : decode cX0_takeKey 84 = .ok (.bipush 32, 2) := by decide +kernel
theorem dX0_takeKey_86 : decode cX0_takeKey 86 = .ok (.if_icmp .ge 18, 3) := by decide +kernel
theorem dX0_takeKey_89 : decode cX0_takeKey 89 = .ok (.aload_n 0, 1) := by decide +kernel
theorem dX0_takeKey_90 : decode cX0_takeKey 90 = .ok (.iload 5, 2) := by decide +kernel
theorem dX0_takeKey_92 : decode cX0_takeKey 92 = .ok (.invokevirtual 145, 3) := by decide +kernel
theorem dX0_takeKey_95 : decode cX0_takeKey 95 = .ok (.ifCond .eq 9, 3) := by decide +kernel
theorem dX0_takeKey_98 : decode cX0_takeKey 98 = .ok (.iinc 5 (-1), 3) := by decide +kernel
theorem dX0_takeKey_101 : decode cX0_takeKey 101 = .ok (.goto (-34), 3) := by decide +kernel
theorem dX0_takeKey_104 : decode cX0_takeKey 104 = .ok (.iload 5, 2) := by decide +kernel
theorem dX0_takeKey_106 : decode cX0_takeKey 106 = .ok (.ifCond .ne 7, 3) := by decide +kernel
theorem dX0_takeKey_109 : decode cX0_takeKey 109 = .ok (.aload_n 0, 1) := by decide +kernel
theorem dX0_takeKey_110 : decode cX0_takeKey 110 = .ok (.invokevirtual 149, 3) := by decide +kernel
theorem dX0_takeKey_113 : decode cX0_takeKey 113 = .ok (.iload 4, 2) := by decide +kernel
theorem dX0_takeKey_115 : decode cX0_takeKey 115 = .ok (.ireturn, 1) := by decide +kernel
theorem dX0_mend_0 : decode cX0_mend 0 = .ok (.aload_n 0, 1) := by decide +kernel
theorem dX0_mend_1 : decode cX0_mend 1 = .ok (.getfield 30, 3) := by decide +kernel
theorem dX0_mend_4 : decode cX0_mend 4 = .ok (.iload_n 1, 1) := by decide +kernel
theorem dX0_mend_5 : decode cX0_mend 5 = .ok (.iconst 1, 1) := by decide +kernel
theorem dX0_mend_6 : decode cX0_mend 6 = .ok (.isub, 1) := by decide +kernel
theorem dX0_mend_7 : decode cX0_mend 7 = .ok (.invokevirtual 44, 3) := by decide +kernel
theorem dX0_mend_10 : decode cX0_mend 10 = .ok (.astore_n 2, 1) := by decide +kernel
theorem dX0_mend_11 : decode cX0_mend 11 = .ok (.aload_n 0, 1) := by decide +kernel
theorem dX0_mend_12 : decode cX0_mend 12 = .ok (.getfield 30, 3) := by decide +kernel
theorem dX0_mend_15 : decode cX0_mend 15 = .ok (.iload_n 1, 1) := by decide +kernel
theorem dX0_mend_16 : decode cX0_mend 16 = .ok (.invokevirtual 88, 3) := by decide +kernel
theorem dX0_mend_19 : decode cX0_mend 19 = .ok (.istore_n 3, 1) := by decide +kernel
theorem dX0_mend_20 : decode cX0_mend 20 = .ok (.iload_n 3, 1) := by decide +kernel
theorem dX0_mend_21 : decode cX0_mend 21 = .ok (.aload_n 2, 1) := by decide +kernel
theorem dX0_mend_22 : decode cX0_mend 22 = .ok (.invokevirtual 139, 3) := by decide +kernel
theorem dX0_mend_25 : decode cX0_mend 25 = .ok (.if_icmp .ge 7, 3) := by decide +kernel
theorem dX0_mend_28 : decode cX0_mend 28 = .ok (.iload_n 3, 1) := by decide +kernel
theorem dX0_mend_29 : decode cX0_mend 29 = .ok (.goto 6, 3) := by decide +kernel
theorem dX0_mend_32 : decode cX0_mend 32 = .ok (.iload_n 3, 1) := by decide +kernel
theorem dX0_mend_33 : decode cX0_mend 33 = .ok (.iconst 1, 1) := by decide +kernel
theorem dX0_mend_34 : decode cX0_mend 34 = .ok (.isub, 1) := by decide +kernel
theorem dX0_mend_35 : decode cX0_mend 35 = .ok (.istore 4, 2) := by decide +kernel
theorem dX0_mend_37 : decode cX0_mend 37 = .ok (.iload 4, 2) := by decide +kernel
theorem dX0_mend_39 : decode cX0_mend 39 = .ok (.ifCond .ge 5, 3) := by decide +kernel
theorem dX0_mend_42 : decode cX0_mend 42 = .ok (.iconst 0, 1) := by decide +kernel
theorem dX0_mend_43 : decode cX0_mend 43 = .ok (.ireturn, 1) := by decide +kernel
theorem dX0_mend_44 : decode cX0_mend 44 = .ok (.aload_n 0, 1) := by decide +kernel
theorem dX0_mend_45 : decode cX0_mend 45 = .ok (.getfield 30, 3) := by decide +kernel
theorem dX0_mend_48 : decode cX0_mend 48 = .ok (.aload_n 2, 1) := by decide +kernel
theorem dX0_mend_49 : decode cX0_mend 49 = .ok (.iload 4, 2) := by decide +kernel
theorem dX0_mend_51 : decode cX0_mend 51 = .ok (.invokevirtual 152, 3) := by decide +kernel
theorem dX0_mend_54 : decode cX0_mend 54 = .ok (.invokevirtual 97, 3) := by decide +kernel
theorem dX0_mend_57 : decode cX0_mend 57 = .ok (.astore 5, 2) := by decide +kernel
theorem dX0_mend_59 : decode cX0_mend 59 = .ok (.aload_n 0, 1) := by decide +kernel
theorem dX0_mend_60 : decode cX0_mend 60 = .ok (.getfield 30, 3) := by decide +kernel
theorem dX0_mend_63 : decode cX0_mend 63 = .ok (.aload_n 2, 1) := by decide +kernel
theorem dX0_mend_64 : decode cX0_mend 64 = .ok (.iload 4, 2) := by decide +kernel
theorem dX0_mend_66 : decode cX0_mend 66 = .ok (.iconst 1, 1) := by decide +kernel
theorem dX0_mend_67 : decode cX0_mend 67 = .ok (.iadd, 1) := by decide +kernel
theorem dX0_mend_68 : decode cX0_mend 68 = .ok (.invokevirtual 152, 3) := by decide +kernel
theorem dX0_mend_71 : decode cX0_mend 71 = .ok (.invokevirtual 97, 3) := by decide +kernel
theorem dX0_mend_74 : decode cX0_mend 74 = .ok (.astore 6, 2) := by decide +kernel
theorem dX0_mend_76 : decode cX0_mend 76 = .ok (.aload_n 0, 1) := by decide +kernel
theorem dX0_mend_77 : decode cX0_mend 77 = .ok (.aload_n 2, 1) := by decide +kernel
theorem dX0_mend_78 : decode cX0_mend 78 = .ok (.iload 4, 2) := by decide +kernel
theorem dX0_mend_80 : decode cX0_mend 80 = .ok (.aload 5, 2) := by decide +kernel
theorem dX0_mend_82 : decode cX0_mend 82 = .ok (.aload 6, 2) := by decide +kernel
theorem dX0_mend_84 : decode cX0_mend 84 = .ok (.invokevirtual 155, 3) := by decide +kernel
theorem dX0_mend_87 : decode cX0_mend 87 = .ok (.aload_n 0, 1) := by decide +kernel
theorem dX0_mend_88 : decode cX0_mend 88 = .ok (.getfield 14, 3) := by decide +kernel
theorem dX0_mend_91 : decode cX0_mend 91 = .ok (.invokevirtual 80, 3) := by decide +kernel
theorem dX0_mend_94 : decode cX0_mend 94 = .ok (.bipush 64, 2) := by decide +kernel
theorem dX0_mend_96 : decode cX0_mend 96 = .ok (.if_icmp .gt 19, 3) := by decide +kernel
theorem dX0_mend_99 : decode cX0_mend 99 = .ok (.aload_n 0, 1) := by decide +kernel
theorem dX0_mend_100 : decode cX0_mend 100 = .ok (.aload 5, 2) := by decide +kernel
theorem dX0_mend_102 : decode cX0_mend 102 = .ok (.aload 6, 2) := by decide +kernel
theorem dX0_mend_104 : decode cX0_mend 104 = .ok (.invokevirtual 159, 3) := by decide +kernel
theorem dX0_mend_107 : decode cX0_mend 107 = .ok (.aload_n 2, 1) := by decide +kernel
theorem dX0_mend_108 : decode cX0_mend 108 = .ok (.iload 4, 2) := by decide +kernel
theorem dX0_mend_110 : decode cX0_mend 110 = .ok (.invokevirtual 142, 3) := by decide +kernel
theorem dX0_mend_113 : decode cX0_mend 113 = .ok (.iconst 1, 1) := by decide +kernel
theorem dX0_mend_114 : decode cX0_mend 114 = .ok (.ireturn, 1) := by decide +kernel
theorem dX0_mend_115 : decode cX0_mend 115 = .ok (.aload_n 0, 1) := by decide +kernel
theorem dX0_mend_116 : decode cX0_mend 116 = .ok (.aload_n 2, 1) := by decide +kernel
theorem dX0_mend_117 : decode cX0_mend 117 = .ok (.iload 4, 2) := by decide +kernel
theorem dX0_mend_119 : decode cX0_mend 119 = .ok (.aload 5, 2) := by decide +kernel
theorem dX0_mend_121 : decode cX0_mend 121 = .ok (.aload 6, 2) := by decide +kernel
theorem dX0_mend_123 : decode cX0_mend 123 = .ok (.invokevirtual 163, 3) := by decide +kernel
theorem dX0_mend_126 : decode cX0_mend 126 = .ok (.iconst 0, 1) := by decide +kernel
theorem dX0_mend_127 : decode cX0_mend 127 = .ok (.ireturn, 1) := by decide +kernel
theorem dX0_gather_0 : decode cX0_gather 0 = .ok (.aload_n 0, 1) := by decide +kernel
theorem dX0_gather_1 : decode cX0_gather 1 = .ok (.getfield 14, 3) := by decide +kernel
theorem dX0_gather_4 : decode cX0_gather 4 = .ok (.aload_n 3, 1) := by decide +kernel
theorem dX0_gather_5 : decode cX0_gather 5 = .ok (.invokevirtual 73, 3) := by decide +kernel
theorem dX0_gather_8 : decode cX0_gather 8 = .ok (.aload_n 0, 1) := by decide +kernel
theorem dX0_gather_9 : decode cX0_gather 9 = .ok (.getfield 14, 3) := by decide +kernel
theorem dX0_gather_12 : decode cX0_gather 12 = .ok (.invokevirtual 100, 3) := by decide +kernel
theorem dX0_gather_15 : decode cX0_gather 15 = .ok (.iconst 2, 1) := by decide +kernel
theorem dX0_gather_16 : decode cX0_gather 16 = .ok (.if_icmp .ne 35, 3) := by decide +kernel
theorem dX0_gather_19 : decode cX0_gather 19 = .ok (.aload_n 1, 1) := by decide +kernel
theorem dX0_gather_20 : decode cX0_gather 20 = .ok (.iload_n 2, 1) := by decide +kernel
theorem dX0_gather_21 : decode cX0_gather 21 = .ok (.aload_n 0, 1) := by decide +kernel
theorem dX0_gather_22 : decode cX0_gather 22 = .ok (.getfield 23, 3) := by decide +kernel
theorem dX0_gather_25 : decode cX0_gather 25 = .ok (.invokevirtual 128, 3) := by decide +kernel
theorem dX0_gather_28 : decode cX0_gather 28 = .ok (.aload_n 0, 1) := by decide +kernel
theorem dX0_gather_29 : decode cX0_gather 29 = .ok (.getfield 14, 3) := by decide +kernel
theorem dX0_gather_32 : decode cX0_gather 32 = .ok (.aload_n 0, 1) := by decide +kernel
theorem dX0_gather_33 : decode cX0_gather 33 = .ok (.getfield 14, 3) := by decide +kernel
theorem dX0_gather_36 : decode cX0_gather 36 = .ok (.invokevirtual 139, 3) := by decide +kernel
theorem dX0_gather_39 : decode cX0_gather 39 = .ok (.aload_n 0, 1) := by decide +kernel
theorem dX0_gather_40 : decode cX0_gather 40 = .ok (.getfield 23, 3) := by decide +kernel
theorem dX0_gather_43 : decode cX0_gather 43 = .ok (.aload 4, 2) := by decide +kernel
theorem dX0_gather_45 : decode cX0_gather 45 = .ok (.invokevirtual 103, 3) := by decide +kernel
theorem dX0_gather_48 : decode cX0_gather 48 = .ok (.invokevirtual 76, 3) := by decide +kernel
theorem dX0_gather_51 : decode cX0_gather 51 = .ok (.aload_n 0, 1) := by decide +kernel
theorem dX0_gather_52 : decode cX0_gather 52 = .ok (.getfield 14, 3) := by decide +kernel
theorem dX0_gather_55 : decode cX0_gather 55 = .ok (.aload 4, 2) := by decide +kernel
theorem dX0_gather_57 : decode cX0_gather 57 = .ok (.iconst 0, 1) := by decide +kernel
theorem dX0_gather_58 : decode cX0_gather 58 = .ok (.aload 4, 2) := by decide +kernel
theorem dX0_gather_60 : decode cX0_gather 60 = .ok (.invokevirtual 139, 3) := by decide +kernel
theorem dX0_gather_63 : decode cX0_gather 63 = .ok (.invokevirtual 135, 3) := by decide +kernel
theorem dX0_gather_66 : decode cX0_gather 66 = .ok (.return_, 1) := by decide +kernel
theorem dX0_join_0 : decode cX0_join 0 = .ok (.aload_n 1, 1) := by decide +kernel
theorem dX0_join_1 : decode cX0_join 1 = .ok (.aload_n 0, 1) := by decide +kernel
theorem dX0_join_2 : decode cX0_join 2 = .ok (.getfield 14, 3) := by decide +kernel
theorem dX0_join_5 : decode cX0_join 5 = .ok (.invokevirtual 73, 3) := by decide +kernel
theorem dX0_join_8 : decode cX0_join 8 = .ok (.aload_n 0, 1) := by decide +kernel
theorem dX0_join_9 : decode cX0_join 9 = .ok (.getfield 14, 3) := by decide +kernel
theorem dX0_join_12 : decode cX0_join 12 = .ok (.invokevirtual 100, 3) := by decide +kernel
theorem dX0_join_15 : decode cX0_join 15 = .ok (.iconst 1, 1) := by decide +kernel
theorem dX0_join_16 : decode cX0_join 16 = .ok (.if_icmp .ne 11, 3) := by decide +kernel
theorem dX0_join_19 : decode cX0_join 19 = .ok (.aload_n 1, 1) := by decide +kernel
theorem dX0_join_20 : decode cX0_join 20 = .ok (.aload_n 2, 1) := by decide +kernel
theorem dX0_join_21 : decode cX0_join 21 = .ok (.invokevirtual 103, 3) := by decide +kernel
theorem dX0_join_24 : decode cX0_join 24 = .ok (.invokevirtual 106, 3) := by decide +kernel
theorem dX0_join_27 : decode cX0_join 27 = .ok (.aload_n 2, 1) := by decide +kernel
theorem dX0_join_28 : decode cX0_join 28 = .ok (.invokevirtual 166, 3) := by decide +kernel
theorem dX0_join_31 : decode cX0_join 31 = .ok (.aload_n 0, 1) := by decide +kernel
theorem dX0_join_32 : decode cX0_join 32 = .ok (.dup, 1) := by decide +kernel
theorem dX0_join_33 : decode cX0_join 33 = .ok (.getfield 169, 3) := by decide +kernel
theorem dX0_join_36 : decode cX0_join 36 = .ok (.iconst 1, 1) := by decide +kernel
theorem dX0_join_37 : decode cX0_join 37 = .ok (.iadd, 1) := by decide +kernel
theorem dX0_join_38 : decode cX0_join 38 = .ok (.putfield 169, 3) := by decide +kernel
theorem dX0_join_41 : decode cX0_join 41 = .ok (.return_, 1) := by decide +kernel
theorem dX0_shareAnew_0 : decode cX0_shareAnew 0 = .ok (.aload_n 0, 1) := by decide +kernel
theorem dX0_shareAnew_1 : decode cX0_shareAnew 1 = .ok (.getfield 14, 3) := by decide +kernel
theorem dX0_shareAnew_4 : decode cX0_shareAnew 4 = .ok (.invokevirtual 109, 3) := by decide +kernel
theorem dX0_shareAnew_7 : decode cX0_shareAnew 7 = .ok (.istore 5, 2) := by decide +kernel
theorem dX0_shareAnew_9 : decode cX0_shareAnew 9 = .ok (.aload_n 0, 1) := by decide +kernel
theorem dX0_shareAnew_10 : decode cX0_shareAnew 10 = .ok (.iload 5, 2) := by decide +kernel
theorem dX0_shareAnew_12 : decode cX0_shareAnew 12 = .ok (.invokevirtual 112, 3) := by decide +kernel
theorem dX0_shareAnew_15 : decode cX0_shareAnew 15 = .ok (.aload_n 1, 1) := by decide +kernel
theorem dX0_shareAnew_16 : decode cX0_shareAnew 16 = .ok (.invokevirtual 80, 3) := by decide +kernel
theorem dX0_shareAnew_19 : decode cX0_shareAnew 19 = .ok (.aload_n 1, 1) := by decide +kernel
theorem dX0_shareAnew_20 : decode cX0_shareAnew 20 = .ok (.iload_n 2, 1) := by decide +kernel
theorem dX0_shareAnew_21 : decode cX0_shareAnew 21 = .ok (.invokevirtual 172, 3) := by decide +kernel
theorem dX0_shareAnew_24 : decode cX0_shareAnew 24 = .ok (.isub, 1) := by decide +kernel
theorem dX0_shareAnew_25 : decode cX0_shareAnew 25 = .ok (.aload_n 0, 1) := by decide +kernel
theorem dX0_shareAnew_26 : decode cX0_shareAnew 26 = .ok (.getfield 23, 3) := by decide +kernel
theorem dX0_shareAnew_29 : decode cX0_shareAnew 29 = .ok (.getfield 175, 3) := by decide +kernel
theorem dX0_shareAnew_32 : decode cX0_shareAnew 32 = .ok (.iadd, 1) := by decide +kernel
theorem dX0_shareAnew_33 : decode cX0_shareAnew 33 = .ok (.bipush 64, 2) := by decide +kernel
theorem dX0_shareAnew_35 : decode cX0_shareAnew 35 = .ok (.if_icmp .le 4, 3) := by decide +kernel
theorem dX0_shareAnew_38 : decode cX0_shareAnew 38 = .ok (.return_, 1) := by decide +kernel
theorem dX0_shareAnew_39 : decode cX0_shareAnew 39 = .ok (.aload_n 1, 1) := by decide +kernel
theorem dX0_shareAnew_40 : decode cX0_shareAnew 40 = .ok (.iload_n 2, 1) := by decide +kernel
theorem dX0_shareAnew_41 : decode cX0_shareAnew 41 = .ok (.iconst 1, 1) := by decide +kernel
theorem dX0_shareAnew_42 : decode cX0_shareAnew 42 = .ok (.iadd, 1) := by decide +kernel
theorem dX0_shareAnew_43 : decode cX0_shareAnew 43 = .ok (.invokevirtual 152, 3) := by decide +kernel
theorem dX0_shareAnew_46 : decode cX0_shareAnew 46 = .ok (.istore 6, 2) := by decide +kernel
theorem dX0_shareAnew_48 : decode cX0_shareAnew 48 = .ok (.aload_n 1, 1) := by decide +kernel
theorem dX0_shareAnew_49 : decode cX0_shareAnew 49 = .ok (.iload_n 2, 1) := by decide +kernel
theorem dX0_shareAnew_50 : decode cX0_shareAnew 50 = .ok (.invokevirtual 142, 3) := by decide +kernel
theorem dX0_shareAnew_53 : decode cX0_shareAnew 53 = .ok (.aload_n 1, 1) := by decide +kernel
theorem dX0_shareAnew_54 : decode cX0_shareAnew 54 = .ok (.iload_n 2, 1) := by decide +kernel
theorem dX0_shareAnew_55 : decode cX0_shareAnew 55 = .ok (.aload_n 0, 1) := by decide +kernel
theorem dX0_shareAnew_56 : decode cX0_shareAnew 56 = .ok (.getfield 23, 3) := by decide +kernel
theorem dX0_shareAnew_59 : decode cX0_shareAnew 59 = .ok (.iload 6, 2) := by decide +kernel
theorem dX0_shareAnew_61 : decode cX0_shareAnew 61 = .ok (.invokevirtual 76, 3) := by decide +kernel
theorem dX0_shareAnew_64 : decode cX0_shareAnew 64 = .ok (.aload_n 0, 1) := by decide +kernel
theorem dX0_shareAnew_65 : decode cX0_shareAnew 65 = .ok (.iload 5, 2) := by decide +kernel
theorem dX0_shareAnew_67 : decode cX0_shareAnew 67 = .ok (.aload_n 3, 1) := by decide +kernel
theorem dX0_shareAnew_68 : decode cX0_shareAnew 68 = .ok (.aload 4, 2) := by decide +kernel
theorem dX0_shareAnew_70 : decode cX0_shareAnew 70 = .ok (.invokevirtual 115, 3) := by decide +kernel
theorem dX0_shareAnew_73 : decode cX0_shareAnew 73 = .ok (.aload_n 0, 1) := by decide +kernel
theorem dX0_shareAnew_74 : decode cX0_shareAnew 74 = .ok (.dup, 1) := by decide +kernel
theorem dX0_shareAnew_75 : decode cX0_shareAnew 75 = .ok (.getfield 178, 3) := by decide +kernel
theorem dX0_shareAnew_78 : decode cX0_shareAnew 78 = .ok (.iconst 1, 1) := by decide +kernel
theorem dX0_shareAnew_79 : decode cX0_shareAnew 79 = .ok (.iadd, 1) := by decide +kernel
theorem dX0_shareAnew_80 : decode cX0_shareAnew 80 = .ok (.putfield 178, 3) := by decide +kernel
theorem dX0_shareAnew_83 : decode cX0_shareAnew 83 = .ok (.return_, 1) := by decide +kernel
theorem dX0_lowerRoot_0 : decode cX0_lowerRoot 0 = .ok (.aload_n 0, 1) := by decide +kernel
theorem dX0_lowerRoot_1 : decode cX0_lowerRoot 1 = .ok (.getfield 30, 3) := by decide +kernel
theorem dX0_lowerRoot_4 : decode cX0_lowerRoot 4 = .ok (.aload_n 0, 1) := by decide +kernel
theorem dX0_lowerRoot_5 : decode cX0_lowerRoot 5 = .ok (.getfield 30, 3) := by decide +kernel
theorem dX0_lowerRoot_8 : decode cX0_lowerRoot 8 = .ok (.getfield 122, 3) := by decide +kernel
theorem dX0_lowerRoot_11 : decode cX0_lowerRoot 11 = .ok (.invokevirtual 97, 3) := by decide +kernel
theorem dX0_lowerRoot_14 : decode cX0_lowerRoot 14 = .ok (.astore_n 1, 1) := by decide +kernel
theorem dX0_lowerRoot_15 : decode cX0_lowerRoot 15 = .ok (.aload_n 1, 1) := by decide +kernel
theorem dX0_lowerRoot_16 : decode cX0_lowerRoot 16 = .ok (.invokevirtual 100, 3) := by decide +kernel
theorem dX0_lowerRoot_19 : decode cX0_lowerRoot 19 = .ok (.iconst 2, 1) := by decide +kernel
theorem dX0_lowerRoot_20 : decode cX0_lowerRoot 20 = .ok (.if_icmp .ne 38, 3) := by decide +kernel
theorem dX0_lowerRoot_23 : decode cX0_lowerRoot 23 = .ok (.aload_n 1, 1) := by decide +kernel
theorem dX0_lowerRoot_24 : decode cX0_lowerRoot 24 = .ok (.invokevirtual 139, 3) := by decide +kernel
theorem dX0_lowerRoot_27 : decode cX0_lowerRoot 27 = .ok (.ifCond .ne 31, 3) := by decide +kernel
theorem dX0_lowerRoot_30 : decode cX0_lowerRoot 30 = .ok (.aload_n 0, 1) := by decide +kernel
theorem dX0_lowerRoot_31 : decode cX0_lowerRoot 31 = .ok (.getfield 30, 3) := by decide +kernel
theorem dX0_lowerRoot_34 : decode cX0_lowerRoot 34 = .ok (.aload_n 1, 1) := by decide +kernel
theorem dX0_lowerRoot_35 : decode cX0_lowerRoot 35 = .ok (.invokevirtual 103, 3) := by decide +kernel
theorem dX0_lowerRoot_38 : decode cX0_lowerRoot 38 = .ok (.putfield 122, 3) := by decide +kernel
theorem dX0_lowerRoot_41 : decode cX0_lowerRoot 41 = .ok (.aload_n 0, 1) := by decide +kernel
theorem dX0_lowerRoot_42 : decode cX0_lowerRoot 42 = .ok (.getfield 30, 3) := by decide +kernel
theorem dX0_lowerRoot_45 : decode cX0_lowerRoot 45 = .ok (.dup, 1) := by decide +kernel
theorem dX0_lowerRoot_46 : decode cX0_lowerRoot 46 = .ok (.getfield 40, 3) := by decide +kernel
theorem dX0_lowerRoot_49 : decode cX0_lowerRoot 49 = .ok (.iconst 1, 1) := by decide +kernel
theorem dX0_lowerRoot_50 : decode cX0_lowerRoot 50 = .ok (.isub, 1) := by decide +kernel
theorem dX0_lowerRoot_51 : decode cX0_lowerRoot 51 = .ok (.putfield 40, 3) := by decide +kernel
theorem dX0_lowerRoot_54 : decode cX0_lowerRoot 54 = .ok (.aload_n 1, 1) := by decide +kernel
theorem dX0_lowerRoot_55 : decode cX0_lowerRoot 55 = .ok (.invokevirtual 166, 3) := by decide +kernel
theorem dX0_lowerRoot_58 : decode cX0_lowerRoot 58 = .ok (.return_, 1) := by decide +kernel
theorem dX0_loadRow_0 : decode cX0_loadRow 0 = .ok (.iconst 0, 1) := by decide +kernel
theorem dX0_loadRow_1 : decode cX0_loadRow 1 = .ok (.istore 4, 2) := by decide +kernel
theorem dX0_loadRow_3 : decode cX0_loadRow 3 = .ok (.iload 4, 2) := by decide +kernel
theorem dX0_loadRow_5 : decode cX0_loadRow 5 = .ok (.bipush 32, 2) := by decide +kernel
theorem dX0_loadRow_7 : decode cX0_loadRow 7 = .ok (.if_icmp .ge 21, 3) := by decide +kernel
theorem dX0_loadRow_10 : decode cX0_loadRow 10 = .ok (.aload_n 0, 1) := by decide +kernel
theorem dX0_loadRow_11 : decode cX0_loadRow 11 = .ok (.getfield 30, 3) := by decide +kernel
theorem dX0_loadRow_14 : decode cX0_loadRow 14 = .ok (.iload 4, 2) := by decide +kernel
theorem dX0_loadRow_16 : decode cX0_loadRow 16 = .ok (.invokevirtual 97, 3) := by decide +kernel
theorem dX0_loadRow_19 : decode cX0_loadRow 19 = .ok (.invokevirtual 166, 3) := by decide +kernel
theorem dX0_loadRow_22 : decode cX0_loadRow 22 = .ok (.iinc 4 1, 3) := by decide +kernel
theorem dX0_loadRow_25 : decode cX0_loadRow 25 = .ok (.goto (-22), 3) := by decide +kernel
theorem dX0_loadRow_28 : decode cX0_loadRow 28 = .ok (.aload_n 0, 1) := by decide +kernel
theorem dX0_loadRow_29 : decode cX0_loadRow 29 = .ok (.getfield 30, 3) := by decide +kernel
theorem dX0_loadRow_32 : decode cX0_loadRow 32 = .ok (.iconst 0, 1) := by decide +kernel
theorem dX0_loadRow_33 : decode cX0_loadRow 33 = .ok (.putfield 122, 3) := by decide +kernel
theorem dX0_loadRow_36 : decode cX0_loadRow 36 = .ok (.aload_n 0, 1) := by decide +kernel
theorem dX0_loadRow_37 : decode cX0_loadRow 37 = .ok (.getfield 30, 3) := by decide +kernel
theorem dX0_loadRow_40 : decode cX0_loadRow 40 = .ok (.iconst 1, 1) := by decide +kernel
theorem dX0_loadRow_41 : decode cX0_loadRow 41 = .ok (.putfield 40, 3) := by decide +kernel
theorem dX0_loadRow_44 : decode cX0_loadRow 44 = .ok (.aload_n 0, 1) := by decide +kernel
theorem dX0_loadRow_45 : decode cX0_loadRow 45 = .ok (.iload_n 1, 1) := by decide +kernel
theorem dX0_loadRow_46 : decode cX0_loadRow 46 = .ok (.iload_n 2, 1) := by decide +kernel
theorem dX0_loadRow_47 : decode cX0_loadRow 47 = .ok (.iload_n 3, 1) := by decide +kernel
theorem dX0_loadRow_48 : decode cX0_loadRow 48 = .ok (.invokevirtual 181, 3) := by decide +kernel
theorem dX0_loadRow_51 : decode cX0_loadRow 51 = .ok (.istore 4, 2) := by decide +kernel
theorem dX0_loadRow_53 : decode cX0_loadRow 53 = .ok (.iload 4, 2) := by decide +kernel
theorem dX0_loadRow_55 : decode cX0_loadRow 55 = .ok (.ifCond .le 15, 3) := by decide +kernel
theorem dX0_loadRow_58 : decode cX0_loadRow 58 = .ok (.aload_n 0, 1) := by decide +kernel
theorem dX0_loadRow_59 : decode cX0_loadRow 59 = .ok (.iload 4, 2) := by decide +kernel
theorem dX0_loadRow_61 : decode cX0_loadRow 61 = .ok (.invokevirtual 185, 3) := by decide +kernel
theorem dX0_loadRow_64 : decode cX0_loadRow 64 = .ok (.aload_n 0, 1) := by decide +kernel
theorem dX0_loadRow_65 : decode cX0_loadRow 65 = .ok (.iload 4, 2) := by decide +kernel
theorem dX0_loadRow_67 : decode cX0_loadRow 67 = .ok (.invokevirtual 188, 3) := by decide +kernel
theorem dX0_loadRow_70 : decode cX0_loadRow 70 = .ok (.return_, 1) := by decide +kernel
theorem dX0_fillLeaves_0 : decode cX0_fillLeaves 0 = .ok (.iconst 0, 1) := by decide +kernel
theorem dX0_fillLeaves_1 : decode cX0_fillLeaves 1 = .ok (.istore 4, 2) := by decide +kernel
theorem dX0_fillLeaves_3 : decode cX0_fillLeaves 3 = .ok (.aload_n 0, 1) := by decide +kernel
theorem dX0_fillLeaves_4 : decode cX0_fillLeaves 4 = .ok (.getfield 30, 3) := by decide +kernel
theorem dX0_fillLeaves_7 : decode cX0_fillLeaves 7 = .ok (.iconst 0, 1) := by decide +kernel
theorem dX0_fillLeaves_8 : decode cX0_fillLeaves 8 = .ok (.invokevirtual 97, 3) := by decide +kernel
theorem dX0_fillLeaves_11 : decode cX0_fillLeaves 11 = .ok (.iconst 1, 1) := by decide +kernel
theorem dX0_fillLeaves_12 : decode cX0_fillLeaves 12 = .ok (.iconst 0, 1) := by decide +kernel
theorem dX0_fillLeaves_13 : decode cX0_fillLeaves 13 = .ok (.invokevirtual 125, 3) := by decide +kernel
theorem dX0_fillLeaves_16 : decode cX0_fillLeaves 16 = .ok (.iconst 0, 1) := by decide +kernel
theorem dX0_fillLeaves_17 : decode cX0_fillLeaves 17 = .ok (.istore 5, 2) := by decide +kernel
theorem dX0_fillLeaves_19 : decode cX0_fillLeaves 19 = .ok (.iload 5, 2) := by decide +kernel
theorem dX0_fillLeaves_21 : decode cX0_fillLeaves 21 = .ok (.iload_n 3, 1) := by decide +kernel
theorem dX0_fillLeaves_22 : decode cX0_fillLeaves 22 = .ok (.if_icmp .ge 110, 3) := by decide +kernel
theorem dX0_fillLeaves_25 : decode cX0_fillLeaves 25 = .ok (.aload_n 0, 1) := by decide +kernel
theorem dX0_fillLeaves_26 : decode cX0_fillLeaves 26 = .ok (.getfield 23, 3) := by decide +kernel
theorem dX0_fillLeaves_29 : decode cX0_fillLeaves 29 = .ok (.iload_n 1, 1) := by decide +kernel
theorem dX0_fillLeaves_30 : decode cX0_fillLeaves 30 = .ok (.iload_n 2, 1) := by decide +kernel
theorem dX0_fillLeaves_31 : decode cX0_fillLeaves 31 = .ok (.iload 5, 2) := by decide +kernel
theorem dX0_fillLeaves_33 : decode cX0_fillLeaves 33 = .ok (.imul, 1) := by decide +kernel
theorem dX0_fillLeaves_34 : decode cX0_fillLeaves 34 = .ok (.iadd, 1) := by decide +kernel
theorem dX0_fillLeaves_35 : decode cX0_fillLeaves 35 = .ok (.iconst 3, 1) := by decide +kernel
theorem dX0_fillLeaves_36 : decode cX0_fillLeaves 36 = .ok (.invokevirtual 191, 3) := by decide +kernel
theorem dX0_fillLeaves_39 : decode cX0_fillLeaves 39 = .ok (.aload_n 0, 1) := by decide +kernel
theorem dX0_fillLeaves_40 : decode cX0_fillLeaves 40 = .ok (.getfield 30, 3) := by decide +kernel
theorem dX0_fillLeaves_43 : decode cX0_fillLeaves 43 = .ok (.iload 4, 2) := by decide +kernel
theorem dX0_fillLeaves_45 : decode cX0_fillLeaves 45 = .ok (.invokevirtual 97, 3) := by decide +kernel
theorem dX0_fillLeaves_48 : decode cX0_fillLeaves 48 = .ok (.invokevirtual 80, 3) := by decide +kernel
theorem dX0_fillLeaves_51 : decode cX0_fillLeaves 51 = .ok (.aload_n 0, 1) := by decide +kernel
theorem dX0_fillLeaves_52 : decode cX0_fillLeaves 52 = .ok (.getfield 23, 3) := by decide +kernel
theorem dX0_fillLeaves_55 : decode cX0_fillLeaves 55 = .ok (.getfield 175, 3) := by decide +kernel
theorem dX0_fillLeaves_58 : decode cX0_fillLeaves 58 = .ok (.iadd, 1) := by decide +kernel
theorem dX0_fillLeaves_59 : decode cX0_fillLeaves 59 = .ok (.iconst 2, 1) := by decide +kernel
theorem dX0_fillLeaves_60 : decode cX0_fillLeaves 60 = .ok (.iadd, 1) := by decide +kernel
theorem dX0_fillLeaves_61 : decode cX0_fillLeaves 61 = .ok (.bipush 64, 2) := by decide +kernel
theorem dX0_fillLeaves_63 : decode cX0_fillLeaves 63 = .ok (.if_icmp .le 36, 3) := by decide +kernel
theorem dX0_fillLeaves_66 : decode cX0_fillLeaves 66 = .ok (.aload_n 0, 1) := by decide +kernel
theorem dX0_fillLeaves_67 : decode cX0_fillLeaves 67 = .ok (.getfield 30, 3) := by decide +kernel
theorem dX0_fillLeaves_70 : decode cX0_fillLeaves 70 = .ok (.iload 4, 2) := by decide +kernel
theorem dX0_fillLeaves_72 : decode cX0_fillLeaves 72 = .ok (.invokevirtual 97, 3) := by decide +kernel
theorem dX0_fillLeaves_75 : decode cX0_fillLeaves 75 = .ok (.iload 4, 2) := by decide +kernel
theorem dX0_fillLeaves_77 : decode cX0_fillLeaves 77 = .ok (.iconst 2, 1) := by decide +kernel
theorem dX0_fillLeaves_78 : decode cX0_fillLeaves 78 = .ok (.iadd, 1) := by decide +kernel
theorem dX0_fillLeaves_79 : decode cX0_fillLeaves 79 = .ok (.invokevirtual 106, 3) := by decide +kernel
theorem dX0_fillLeaves_82 : decode cX0_fillLeaves 82 = .ok (.iinc 4 1, 3) := by decide +kernel
theorem dX0_fillLeaves_85 : decode cX0_fillLeaves 85 = .ok (.aload_n 0, 1) := by decide +kernel
theorem dX0_fillLeaves_86 : decode cX0_fillLeaves 86 = .ok (.getfield 30, 3) := by decide +kernel
theorem dX0_fillLeaves_89 : decode cX0_fillLeaves 89 = .ok (.iload 4, 2) := by decide +kernel
theorem dX0_fillLeaves_91 : decode cX0_fillLeaves 91 = .ok (.invokevirtual 97, 3) := by decide +kernel
theorem dX0_fillLeaves_94 : decode cX0_fillLeaves 94 = .ok (.iconst 1, 1) := by decide +kernel
theorem dX0_fillLeaves_95 : decode cX0_fillLeaves 95 = .ok (.iconst 0, 1) := by decide +kernel
theorem dX0_fillLeaves_96 : decode cX0_fillLeaves 96 = .ok (.invokevirtual 125, 3) := by decide +kernel
theorem dX0_fillLeaves_99 : decode cX0_fillLeaves 99 = .ok (.aload_n 0, 1) := by decide +kernel
theorem dX0_fillLeaves_100 : decode cX0_fillLeaves 100 = .ok (.getfield 30, 3) := by decide +kernel
theorem dX0_fillLeaves_103 : decode cX0_fillLeaves 103 = .ok (.iload 4, 2) := by decide +kernel
theorem dX0_fillLeaves_105 : decode cX0_fillLeaves 105 = .ok (.invokevirtual 97, 3) := by decide +kernel
theorem dX0_fillLeaves_108 : decode cX0_fillLeaves 108 = .ok (.astore 6, 2) := by decide +kernel
theorem dX0_fillLeaves_110 : decode cX0_fillLeaves 110 = .ok (.aload 6, 2) := by decide +kernel
theorem dX0_fillLeaves_112 : decode cX0_fillLeaves 112 = .ok (.aload 6, 2) := by decide +kernel
theorem dX0_fillLeaves_114 : decode cX0_fillLeaves 114 = .ok (.invokevirtual 139, 3) := by decide +kernel
theorem dX0_fillLeaves_117 : decode cX0_fillLeaves 117 = .ok (.aload_n 0, 1) := by decide +kernel
theorem dX0_fillLeaves_118 : decode cX0_fillLeaves 118 = .ok (.getfield 23, 3) := by decide +kernel
theorem dX0_fillLeaves_121 : decode cX0_fillLeaves 121 = .ok (.iload 5, 2) := by decide +kernel
theorem dX0_fillLeaves_123 : decode cX0_fillLeaves 123 = .ok (.invokevirtual 76, 3) := by decide +kernel
theorem dX0_fillLeaves_126 : decode cX0_fillLeaves 126 = .ok (.iinc 5 1, 3) := by decide +kernel
theorem dX0_fillLeaves_129 : decode cX0_fillLeaves 129 = .ok (.goto (-110), 3) := by decide +kernel
theorem dX0_fillLeaves_132 : decode cX0_fillLeaves 132 = .ok (.iload 4, 2) := by decide +kernel
theorem dX0_fillLeaves_134 : decode cX0_fillLeaves 134 = .ok (.ireturn, 1) := by decide +kernel
theorem dX0_shareWithLast_0 : decode cX0_shareWithLast 0 = .ok (.aload_n 0, 1) := by decide +kernel
theorem dX0_shareWithLast_1 : decode cX0_shareWithLast 1 = .ok (.getfield 30, 3) := by decide +kernel
theorem dX0_shareWithLast_4 : decode cX0_shareWithLast 4 = .ok (.iload_n 1, 1) := by decide +kernel
theorem dX0_shareWithLast_5 : decode cX0_shareWithLast 5 = .ok (.iconst 1, 1) := by decide +kernel
theorem dX0_shareWithLast_6 : decode cX0_shareWithLast 6 = .ok (.isub, 1) := by decide +kernel
theorem dX0_shareWithLast_7 : decode cX0_shareWithLast 7 = .ok (.invokevirtual 97, 3) := by decide +kernel
theorem dX0_shareWithLast_10 : decode cX0_shareWithLast 10 = .ok (.astore_n 2, 1) := by decide +kernel
theorem dX0_shareWithLast_11 : decode cX0_shareWithLast 11 = .ok (.aload_n 0, 1) := by decide +kernel
theorem dX0_shareWithLast_12 : decode cX0_shareWithLast 12 = .ok (.getfield 30, 3) := by decide +kernel
theorem dX0_shareWithLast_15 : decode cX0_shareWithLast 15 = .ok (.iload_n 1, 1) := by decide +kernel
theorem dX0_shareWithLast_16 : decode cX0_shareWithLast 16 = .ok (.invokevirtual 97, 3) := by decide +kernel
theorem dX0_shareWithLast_19 : decode cX0_shareWithLast 19 = .ok (.astore_n 3, 1) := by decide +kernel
theorem dX0_shareWithLast_20 : decode cX0_shareWithLast 20 = .ok (.aload_n 3, 1) := by decide +kernel
theorem dX0_shareWithLast_21 : decode cX0_shareWithLast 21 = .ok (.invokevirtual 80, 3) := by decide +kernel
theorem dX0_shareWithLast_24 : decode cX0_shareWithLast 24 = .ok (.bipush 32, 2) := by decide +kernel
theorem dX0_shareWithLast_26 : decode cX0_shareWithLast 26 = .ok (.if_icmp .ge 37, 3) := by decide +kernel
theorem dX0_shareWithLast_29 : decode cX0_shareWithLast 29 = .ok (.aload_n 0, 1) := by decide +kernel
theorem dX0_shareWithLast_30 : decode cX0_shareWithLast 30 = .ok (.getfield 14, 3) := by decide +kernel
theorem dX0_shareWithLast_33 : decode cX0_shareWithLast 33 = .ok (.aload_n 2, 1) := by decide +kernel
theorem dX0_shareWithLast_34 : decode cX0_shareWithLast 34 = .ok (.invokevirtual 73, 3) := by decide +kernel
theorem dX0_shareWithLast_37 : decode cX0_shareWithLast 37 = .ok (.aload_n 0, 1) := by decide +kernel
theorem dX0_shareWithLast_38 : decode cX0_shareWithLast 38 = .ok (.getfield 14, 3) := by decide +kernel
theorem dX0_shareWithLast_41 : decode cX0_shareWithLast 41 = .ok (.aload_n 3, 1) := by decide +kernel
theorem dX0_shareWithLast_42 : decode cX0_shareWithLast 42 = .ok (.iconst 0, 1) := by decide +kernel
theorem dX0_shareWithLast_43 : decode cX0_shareWithLast 43 = .ok (.aload_n 3, 1) := by decide +kernel
theorem dX0_shareWithLast_44 : decode cX0_shareWithLast 44 = .ok (.invokevirtual 139, 3) := by decide +kernel
theorem dX0_shareWithLast_47 : decode cX0_shareWithLast 47 = .ok (.invokevirtual 135, 3) := by decide +kernel
theorem dX0_shareWithLast_50 : decode cX0_shareWithLast 50 = .ok (.aload_n 0, 1) := by decide +kernel
theorem dX0_shareWithLast_51 : decode cX0_shareWithLast 51 = .ok (.aload_n 0, 1) := by decide +kernel
theorem dX0_shareWithLast_52 : decode cX0_shareWithLast 52 = .ok (.getfield 14, 3) := by decide +kernel
theorem dX0_shareWithLast_55 : decode cX0_shareWithLast 55 = .ok (.invokevirtual 109, 3) := by decide +kernel
theorem dX0_shareWithLast_58 : decode cX0_shareWithLast 58 = .ok (.aload_n 2, 1) := by decide +kernel
theorem dX0_shareWithLast_59 : decode cX0_shareWithLast 59 = .ok (.aload_n 3, 1) := by decide +kernel
theorem dX0_shareWithLast_60 : decode cX0_shareWithLast 60 = .ok (.invokevirtual 115, 3) := by decide +kernel
theorem dX0_shareWithLast_63 : decode cX0_shareWithLast 63 = .ok (.return_, 1) := by decide +kernel
theorem dX0_coverLeaves_0 : decode cX0_coverLeaves 0 = .ok (.aload_n 0, 1) := by decide +kernel
theorem dX0_coverLeaves_1 : decode cX0_coverLeaves 1 = .ok (.getfield 30, 3) := by decide +kernel
theorem dX0_coverLeaves_4 : decode cX0_coverLeaves 4 = .ok (.aload_n 0, 1) := by decide +kernel
theorem dX0_coverLeaves_5 : decode cX0_coverLeaves 5 = .ok (.getfield 30, 3) := by decide +kernel
theorem dX0_coverLeaves_8 : decode cX0_coverLeaves 8 = .ok (.invokevirtual 94, 3) := by decide +kernel
theorem dX0_coverLeaves_11 : decode cX0_coverLeaves 11 = .ok (.putfield 122, 3) := by decide +kernel
theorem dX0_coverLeaves_14 : decode cX0_coverLeaves 14 = .ok (.aload_n 0, 1) := by decide +kernel
theorem dX0_coverLeaves_15 : decode cX0_coverLeaves 15 = .ok (.getfield 30, 3) := by decide +kernel
theorem dX0_coverLeaves_18 : decode cX0_coverLeaves 18 = .ok (.iconst 2, 1) := by decide +kernel
theorem dX0_coverLeaves_19 : decode cX0_coverLeaves 19 = .ok (.putfield 40, 3) := by decide +kernel
theorem dX0_coverLeaves_22 : decode cX0_coverLeaves 22 = .ok (.aload_n 0, 1) := by decide +kernel
theorem dX0_coverLeaves_23 : decode cX0_coverLeaves 23 = .ok (.getfield 30, 3) := by decide +kernel
theorem dX0_coverLeaves_26 : decode cX0_coverLeaves 26 = .ok (.aload_n 0, 1) := by decide +kernel
theorem dX0_coverLeaves_27 : decode cX0_coverLeaves 27 = .ok (.getfield 30, 3) := by decide +kernel
theorem dX0_coverLeaves_30 : decode cX0_coverLeaves 30 = .ok (.getfield 122, 3) := by decide +kernel
theorem dX0_coverLeaves_33 : decode cX0_coverLeaves 33 = .ok (.invokevirtual 97, 3) := by decide +kernel
theorem dX0_coverLeaves_36 : decode cX0_coverLeaves 36 = .ok (.astore_n 2, 1) := by decide +kernel
theorem dX0_coverLeaves_37 : decode cX0_coverLeaves 37 = .ok (.aload_n 2, 1) := by decide +kernel
theorem dX0_coverLeaves_38 : decode cX0_coverLeaves 38 = .ok (.iconst 2, 1) := by decide +kernel
theorem dX0_coverLeaves_39 : decode cX0_coverLeaves 39 = .ok (.iconst 0, 1) := by decide +kernel
theorem dX0_coverLeaves_40 : decode cX0_coverLeaves 40 = .ok (.invokevirtual 125, 3) := by decide +kernel
theorem dX0_coverLeaves_43 : decode cX0_coverLeaves 43 = .ok (.iconst 1, 1) := by decide +kernel
theorem dX0_coverLeaves_44 : decode cX0_coverLeaves 44 = .ok (.istore_n 3, 1) := by decide +kernel
theorem dX0_coverLeaves_45 : decode cX0_coverLeaves 45 = .ok (.iload_n 3, 1) := by decide +kernel
theorem dX0_coverLeaves_46 : decode cX0_coverLeaves 46 = .ok (.iload_n 1, 1) := by decide +kernel
theorem dX0_coverLeaves_47 : decode cX0_coverLeaves 47 = .ok (.if_icmp .gt 77, 3) := by decide +kernel
theorem dX0_coverLeaves_50 : decode cX0_coverLeaves 50 = .ok (.aload_n 0, 1) := by decide +kernel
theorem dX0_coverLeaves_51 : decode cX0_coverLeaves 51 = .ok (.getfield 30, 3) := by decide +kernel
theorem dX0_coverLeaves_54 : decode cX0_coverLeaves 54 = .ok (.iload_n 3, 1) := by decide +kernel
theorem dX0_coverLeaves_55 : decode cX0_coverLeaves 55 = .ok (.iconst 1, 1) := by decide +kernel
theorem dX0_coverLeaves_56 : decode cX0_coverLeaves 56 = .ok (.isub, 1) := by decide +kernel
theorem dX0_coverLeaves_57 : decode cX0_coverLeaves 57 = .ok (.invokevirtual 97, 3) := by decide +kernel
theorem dX0_coverLeaves_60 : decode cX0_coverLeaves 60 = .ok (.astore 4, 2) := by decide +kernel
theorem dX0_coverLeaves_62 : decode cX0_coverLeaves 62 = .ok (.aload 4, 2) := by decide +kernel
theorem dX0_coverLeaves_64 : decode cX0_coverLeaves 64 = .ok (.aload 4, 2) := by decide +kernel
theorem dX0_coverLeaves_66 : decode cX0_coverLeaves 66 = .ok (.invokevirtual 139, 3) := by decide +kernel
theorem dX0_coverLeaves_69 : decode cX0_coverLeaves 69 = .ok (.iconst 1, 1) := by decide +kernel
theorem dX0_coverLeaves_70 : decode cX0_coverLeaves 70 = .ok (.isub, 1) := by decide +kernel
theorem dX0_coverLeaves_71 : decode cX0_coverLeaves 71 = .ok (.aload_n 0, 1) := by decide +kernel
theorem dX0_coverLeaves_72 : decode cX0_coverLeaves 72 = .ok (.getfield 27, 3) := by decide +kernel
theorem dX0_coverLeaves_75 : decode cX0_coverLeaves 75 = .ok (.invokevirtual 128, 3) := by decide +kernel
theorem dX0_coverLeaves_78 : decode cX0_coverLeaves 78 = .ok (.aload_n 0, 1) := by decide +kernel
theorem dX0_coverLeaves_79 : decode cX0_coverLeaves 79 = .ok (.getfield 30, 3) := by decide +kernel
theorem dX0_coverLeaves_82 : decode cX0_coverLeaves 82 = .ok (.iload_n 3, 1) := by decide +kernel
theorem dX0_coverLeaves_83 : decode cX0_coverLeaves 83 = .ok (.invokevirtual 97, 3) := by decide +kernel
theorem dX0_coverLeaves_86 : decode cX0_coverLeaves 86 = .ok (.iconst 0, 1) := by decide +kernel
theorem dX0_coverLeaves_87 : decode cX0_coverLeaves 87 = .ok (.aload_n 0, 1) := by decide +kernel
theorem dX0_coverLeaves_88 : decode cX0_coverLeaves 88 = .ok (.getfield 23, 3) := by decide +kernel
theorem dX0_coverLeaves_91 : decode cX0_coverLeaves 91 = .ok (.invokevirtual 128, 3) := by decide +kernel
theorem dX0_coverLeaves_94 : decode cX0_coverLeaves 94 = .ok (.aload_n 0, 1) := by decide +kernel
theorem dX0_coverLeaves_95 : decode cX0_coverLeaves 95 = .ok (.getfield 23, 3) := by decide +kernel
theorem dX0_coverLeaves_98 : decode cX0_coverLeaves 98 = .ok (.aload_n 0, 1) := by decide +kernel
theorem dX0_coverLeaves_99 : decode cX0_coverLeaves 99 = .ok (.getfield 27, 3) := by decide +kernel
theorem dX0_coverLeaves_102 : decode cX0_coverLeaves 102 = .ok (.invokevirtual 132, 3) := by decide +kernel
theorem dX0_coverLeaves_105 : decode cX0_coverLeaves 105 = .ok (.aload_n 2, 1) := by decide +kernel
theorem dX0_coverLeaves_106 : decode cX0_coverLeaves 106 = .ok (.aload_n 2, 1) := by decide +kernel
theorem dX0_coverLeaves_107 : decode cX0_coverLeaves 107 = .ok (.invokevirtual 139, 3) := by decide +kernel
theorem dX0_coverLeaves_110 : decode cX0_coverLeaves 110 = .ok (.aload_n 0, 1) := by decide +kernel
theorem dX0_coverLeaves_111 : decode cX0_coverLeaves 111 = .ok (.getfield 23, 3) := by decide +kernel
theorem dX0_coverLeaves_114 : decode cX0_coverLeaves 114 = .ok (.iload_n 3, 1) := by decide +kernel
theorem dX0_coverLeaves_115 : decode cX0_coverLeaves 115 = .ok (.invokevirtual 76, 3) := by decide +kernel
theorem dX0_coverLeaves_118 : decode cX0_coverLeaves 118 = .ok (.iinc 3 1, 3) := by decide +kernel
theorem dX0_coverLeaves_121 : decode cX0_coverLeaves 121 = .ok (.goto (-76), 3) := by decide +kernel
theorem dX0_coverLeaves_124 : decode cX0_coverLeaves 124 = .ok (.return_, 1) := by decide +kernel
theorem dX1_init_0 : decode cX1_init 0 = .ok (.aload_n 0, 1) := by decide +kernel
theorem dX1_init_1 : decode cX1_init 1 = .ok (.invokespecial 3, 3) := by decide +kernel
theorem dX1_init_4 : decode cX1_init 4 = .ok (.aload_n 0, 1) := by decide +kernel
theorem dX1_init_5 : decode cX1_init 5 = .ok (.bipush 32, 2) := by decide +kernel
theorem dX1_init_7 : decode cX1_init 7 = .ok (.newarray .boolean, 2) := by decide +kernel
theorem dX1_init_9 : decode cX1_init 9 = .ok (.putfield 9, 3) := by decide +kernel
theorem dX1_init_12 : decode cX1_init 12 = .ok (.aload_n 0, 1) := by decide +kernel
theorem dX1_init_13 : decode cX1_init 13 = .ok (.bipush 32, 2) := by decide +kernel
theorem dX1_init_15 : decode cX1_init 15 = .ok (.newarray .int, 2) := by decide +kernel
theorem dX1_init_17 : decode cX1_init 17 = .ok (.putfield 15, 3) := by decide +kernel
theorem dX1_init_20 : decode cX1_init 20 = .ok (.aload_n 0, 1) := by decide +kernel
theorem dX1_init_21 : decode cX1_init 21 = .ok (.new 19, 3) := by decide +kernel
theorem dX1_init_24 : decode cX1_init 24 = .ok (.dup, 1) := by decide +kernel
theorem dX1_init_25 : decode cX1_init 25 = .ok (.invokespecial 21, 3) := by decide +kernel
theorem dX1_init_28 : decode cX1_init 28 = .ok (.putfield 22, 3) := by decide +kernel
theorem dX1_init_31 : decode cX1_init 31 = .ok (.aload_n 0, 1) := by decide +kernel
theorem dX1_init_32 : decode cX1_init 32 = .ok (.aload_n 1, 1) := by decide +kernel
theorem dX1_init_33 : decode cX1_init 33 = .ok (.putfield 26, 3) := by decide +kernel
theorem dX1_init_36 : decode cX1_init 36 = .ok (.return_, 1) := by decide +kernel
theorem dX1_firstWrong_0 : decode cX1_firstWrong 0 = .ok (.iconst 0, 1) := by decide +kernel
theorem dX1_firstWrong_1 : decode cX1_firstWrong 1 = .ok (.istore_n 1, 1) := by decide +kernel
theorem dX1_firstWrong_2 : decode cX1_firstWrong 2 = .ok (.iload_n 1, 1) := by decide +kernel
theorem dX1_firstWrong_3 : decode cX1_firstWrong 3 = .ok (.bipush 32, 2) := by decide +kernel
theorem dX1_firstWrong_5 : decode cX1_firstWrong 5 = .ok (.if_icmp .ge 16, 3) := by decide +kernel
theorem dX1_firstWrong_8 : decode cX1_firstWrong 8 = .ok (.aload_n 0, 1) := by decide +kernel
theorem dX1_firstWrong_9 : decode cX1_firstWrong 9 = .ok (.getfield 9, 3) := by decide +kernel
theorem dX1_firstWrong_12 : decode cX1_firstWrong 12 = .ok (.iload_n 1, 1) := by decide +kernel
theorem dX1_firstWrong_13 : decode cX1_firstWrong 13 = .ok (.iconst 0, 1) := by decide +kernel
theorem dX1_firstWrong_14 : decode cX1_firstWrong 14 = .ok (.bastore, 1) := by decide +kernel
theorem dX1_firstWrong_15 : decode cX1_firstWrong 15 = .ok (.iinc 1 1, 3) := by decide +kernel
theorem dX1_firstWrong_18 : decode cX1_firstWrong 18 = .ok (.goto (-16), 3) := by decide +kernel
theorem dX1_firstWrong_21 : decode cX1_firstWrong 21 = .ok (.aload_n 0, 1) := by decide +kernel
theorem dX1_firstWrong_22 : decode cX1_firstWrong 22 = .ok (.iconst 0, 1) := by decide +kernel
theorem dX1_firstWrong_23 : decode cX1_firstWrong 23 = .ok (.putfield 30, 3) := by decide +kernel
theorem dX1_firstWrong_26 : decode cX1_firstWrong 26 = .ok (.aload_n 0, 1) := by decide +kernel
theorem dX1_firstWrong_27 : decode cX1_firstWrong 27 = .ok (.aload_n 0, 1) := by decide +kernel
theorem dX1_firstWrong_28 : decode cX1_firstWrong 28 = .ok (.getfield 26, 3) := by decide +kernel
theorem dX1_firstWrong_31 : decode cX1_firstWrong 31 = .ok (.getfield 34, 3) := by decide +kernel
theorem dX1_firstWrong_34 : decode cX1_firstWrong 34 = .ok (.iconst 0, 1) := by decide +kernel
theorem dX1_firstWrong_35 : decode cX1_firstWrong 35 = .ok (.iconst (-1), 1) := by decide +kernel
theorem dX1_firstWrong_36 : decode cX1_firstWrong 36 = .ok (.iconst (-1), 1) := by decide +kernel
theorem dX1_firstWrong_37 : decode cX1_firstWrong 37 = .ok (.invokevirtual 39, 3) := by decide +kernel
theorem dX1_firstWrong_40 : decode cX1_firstWrong 40 = .ok (.istore_n 1, 1) := by decide +kernel
theorem dX1_firstWrong_41 : decode cX1_firstWrong 41 = .ok (.iload_n 1, 1) := by decide +kernel
theorem dX1_firstWrong_42 : decode cX1_firstWrong 42 = .ok (.ifCond .ne 8, 3) := by decide +kernel
theorem dX1_firstWrong_45 : decode cX1_firstWrong 45 = .ok (.aload_n 0, 1) := by decide +kernel
theorem dX1_firstWrong_46 : decode cX1_firstWrong 46 = .ok (.invokevirtual 43, 3) := by decide +kernel
theorem dX1_firstWrong_49 : decode cX1_firstWrong 49 = .ok (.istore_n 1, 1) := by decide +kernel
theorem dX1_firstWrong_50 : decode cX1_firstWrong 50 = .ok (.iload_n 1, 1) := by decide +kernel
theorem dX1_firstWrong_51 : decode cX1_firstWrong 51 = .ok (.ifCond .ne 10, 3) := by decide +kernel
theorem dX1_firstWrong_54 : decode cX1_firstWrong 54 = .ok (.aload_n 0, 1) := by decide +kernel
theorem dX1_firstWrong_55 : decode cX1_firstWrong 55 = .ok (.invokevirtual 47, 3) := by decide +kernel
theorem dX1_firstWrong_58 : decode cX1_firstWrong 58 = .ok (.goto 4, 3) := by decide +kernel
theorem dX1_firstWrong_61 : decode cX1_firstWrong 61 = .ok (.iload_n 1, 1) := by decide +kernel
theorem dX1_firstWrong_62 : decode cX1_firstWrong 62 = .ok (.ireturn, 1) := by decide +kernel
theorem dX1_walk_0 : decode cX1_walk 0 = .ok (.aload_n 0, 1) := by decide +kernel
theorem dX1_walk_1 : decode cX1_walk 1 = .ok (.getfield 26, 3) := by decide +kernel
theorem dX1_walk_4 : decode cX1_walk 4 = .ok (.iload_n 1, 1) := by decide +kernel
theorem dX1_walk_5 : decode cX1_walk 5 = .ok (.invokevirtual 50, 3) := by decide +kernel
theorem dX1_walk_8 : decode cX1_walk 8 = .ok (.astore 5, 2) := by decide +kernel
theorem dX1_walk_10 : decode cX1_walk 10 = .ok (.aload_n 0, 1) := by decide +kernel
theorem dX1_walk_11 : decode cX1_walk 11 = .ok (.iload_n 1, 1) := by decide +kernel
theorem dX1_walk_12 : decode cX1_walk 12 = .ok (.invokevirtual 54, 3) := by decide +kernel
theorem dX1_walk_15 : decode cX1_walk 15 = .ok (.aload_n 0, 1) := by decide +kernel
theorem dX1_walk_16 : decode cX1_walk 16 = .ok (.aload 5, 2) := by decide +kernel
theorem dX1_walk_18 : decode cX1_walk 18 = .ok (.iload_n 2, 1) := by decide +kernel
theorem dX1_walk_19 : decode cX1_walk 19 = .ok (.iload_n 3, 1) := by decide +kernel
theorem dX1_walk_20 : decode cX1_walk 20 = .ok (.iload 4, 2) := by decide +kernel
theorem dX1_walk_22 : decode cX1_walk 22 = .ok (.invokevirtual 58, 3) := by decide +kernel
theorem dX1_walk_25 : decode cX1_walk 25 = .ok (.istore 6, 2) := by decide +kernel
theorem dX1_walk_27 : decode cX1_walk 27 = .ok (.iload 6, 2) := by decide +kernel
theorem dX1_walk_29 : decode cX1_walk 29 = .ok (.ifCond .eq 11, 3) := by decide +kernel
theorem dX1_walk_32 : decode cX1_walk 32 = .ok (.bipush 100, 2) := by decide +kernel
theorem dX1_walk_34 : decode cX1_walk 34 = .ok (.iload 6, 2) := by decide +kernel
theorem dX1_walk_36 : decode cX1_walk 36 = .ok (.imul, 1) := by decide +kernel
theorem dX1_walk_37 : decode cX1_walk 37 = .ok (.iload_n 1, 1) := by decide +kernel
theorem dX1_walk_38 : decode cX1_walk 38 = .ok (.iadd, 1) := by decide +kernel
theorem dX1_walk_39 : decode cX1_walk 39 = .ok (.ireturn, 1) := by decide +kernel
theorem dX1_walk_40 : decode cX1_walk 40 = .ok (.aload_n 0, 1) := by decide +kernel
theorem dX1_walk_41 : decode cX1_walk 41 = .ok (.iload_n 2, 1) := by decide +kernel
theorem dX1_walk_42 : decode cX1_walk 42 = .ok (.invokevirtual 62, 3) := by decide +kernel
theorem dX1_walk_45 : decode cX1_walk 45 = .ok (.ifCond .eq 10, 3) := by decide +kernel
theorem dX1_walk_48 : decode cX1_walk 48 = .ok (.aload_n 0, 1) := by decide +kernel
theorem dX1_walk_49 : decode cX1_walk 49 = .ok (.iload_n 1, 1) := by decide +kernel
theorem dX1_walk_50 : decode cX1_walk 50 = .ok (.invokevirtual 66, 3) := by decide +kernel
theorem dX1_walk_53 : decode cX1_walk 53 = .ok (.iconst 0, 1) := by decide +kernel
theorem dX1_walk_54 : decode cX1_walk 54 = .ok (.ireturn, 1) := by decide +kernel
theorem dX1_walk_55 : decode cX1_walk 55 = .ok (.aload_n 0, 1) := by decide +kernel
theorem dX1_walk_56 : decode cX1_walk 56 = .ok (.iload_n 1, 1) := by decide +kernel
theorem dX1_walk_57 : decode cX1_walk 57 = .ok (.iload_n 2, 1) := by decide +kernel
theorem dX1_walk_58 : decode cX1_walk 58 = .ok (.iload_n 3, 1) := by decide +kernel
theorem dX1_walk_59 : decode cX1_walk 59 = .ok (.iload 4, 2) := by decide +kernel
theorem dX1_walk_61 : decode cX1_walk 61 = .ok (.invokevirtual 69, 3) := by decide +kernel
theorem dX1_walk_64 : decode cX1_walk 64 = .ok (.ireturn, 1) := by decide +kernel
theorem dX1_walkChildren_0 : decode cX1_walkChildren 0 = .ok (.aload_n 0, 1) := by decide +kernel
theorem dX1_walkChildren_1 : decode cX1_walkChildren 1 = .ok (.getfield 26, 3) := by decide +kernel
theorem dX1_walkChildren_4 : decode cX1_walkChildren 4 = .ok (.iload_n 1, 1) := by decide +kernel
theorem dX1_walkChildren_5 : decode cX1_walkChildren 5 = .ok (.invokevirtual 50, 3) := by decide +kernel
theorem dX1_walkChildren_8 : decode cX1_walkChildren 8 = .ok (.astore 5, 2) := by decide +kernel
theorem dX1_walkChildren_10 : decode cX1_walkChildren 10 = .ok (.iconst 0, 1) := by decide +kernel
theorem dX1_walkChildren_11 : decode cX1_walkChildren 11 = .ok (.istore 6, 2) := by decide +kernel
theorem dX1_walkChildren_13 : decode cX1_walkChildren 13 = .ok (.iload 6, 2) := by decide +kernel
theorem dX1_walkChildren_15 : decode cX1_walkChildren 15 = .ok (.aload 5, 2) := by decide +kernel
theorem dX1_walkChildren_17 : decode cX1_walkChildren 17 = .ok (.invokevirtual 72, 3) := by decide +kernel
theorem dX1_walkChildren_20 : decode cX1_walkChildren 20 = .ok (.if_icmp .gt 81, 3) := by decide +kernel
theorem dX1_walkChildren_23 : decode cX1_walkChildren 23 = .ok (.iload 6, 2) := by decide +kernel
theorem dX1_walkChildren_25 : decode cX1_walkChildren 25 = .ok (.ifCond .le 15, 3) := by decide +kernel
theorem dX1_walkChildren_28 : decode cX1_walkChildren 28 = .ok (.iload_n 1, 1) := by decide +kernel
theorem dX1_walkChildren_29 : decode cX1_walkChildren 29 = .ok (.bipush 64, 2) := by decide +kernel
theorem dX1_walkChildren_31 : decode cX1_walkChildren 31 = .ok (.imul, 1) := by decide +kernel
theorem dX1_walkChildren_32 : decode cX1_walkChildren 32 = .ok (.iload 6, 2) := by decide +kernel
theorem dX1_walkChildren_34 : decode cX1_walkChildren 34 = .ok (.iadd, 1) := by decide +kernel
theorem dX1_walkChildren_35 : decode cX1_walkChildren 35 = .ok (.iconst 1, 1) := by decide +kernel
theorem dX1_walkChildren_36 : decode cX1_walkChildren 36 = .ok (.isub, 1) := by decide +kernel
theorem dX1_walkChildren_37 : decode cX1_walkChildren 37 = .ok (.goto 4, 3) := by decide +kernel
theorem dX1_walkChildren_40 : decode cX1_walkChildren 40 = .ok (.iload_n 3, 1) := by decide +kernel
theorem dX1_walkChildren_41 : decode cX1_walkChildren 41 = .ok (.istore 7, 2) := by decide +kernel
theorem dX1_walkChildren_43 : decode cX1_walkChildren 43 = .ok (.iload 6, 2) := by decide +kernel
theorem dX1_walkChildren_45 : decode cX1_walkChildren 45 = .ok (.aload 5, 2) := by decide +kernel
theorem dX1_walkChildren_47 : decode cX1_walkChildren 47 = .ok (.invokevirtual 72, 3) := by decide +kernel
theorem dX1_walkChildren_50 : decode cX1_walkChildren 50 = .ok (.if_icmp .ge 13, 3) := by decide +kernel
theorem dX1_walkChildren_53 : decode cX1_walkChildren 53 = .ok (.iload_n 1, 1) := by decide +kernel
theorem dX1_walkChildren_54 : decode cX1_walkChildren 54 = .ok (.bipush 64, 2) := by decide +kernel
theorem dX1_walkChildren_56 : decode cX1_walkChildren 56 = .ok (.imul, 1) := by decide +kernel
theorem dX1_walkChildren_57 : decode cX1_walkChildren 57 = .ok (.iload 6, 2) := by decide +kernel
theorem dX1_walkChildren_59 : decode cX1_walkChildren 59 = .ok (.iadd, 1) := by decide +kernel
theorem dX1_walkChildren_60 : decode cX1_walkChildren 60 = .ok (.goto 5, 3) := by decide +kernel
theorem dX1_walkChildren_63 : decode cX1_walkChildren 63 = .ok (.iload 4, 2) := by decide +kernel
theorem dX1_walkChildren_65 : decode cX1_walkChildren 65 = .ok (.istore 8, 2) := by decide +kernel
theorem dX1_walkChildren_67 : decode cX1_walkChildren 67 = .ok (.aload_n 0, 1) := by decide +kernel
theorem dX1_walkChildren_68 : decode cX1_walkChildren 68 = .ok (.aload 5, 2) := by decide +kernel
theorem dX1_walkChildren_70 : decode cX1_walkChildren 70 = .ok (.iload 6, 2) := by decide +kernel
theorem dX1_walkChildren_72 : decode cX1_walkChildren 72 = .ok (.invokevirtual 77, 3) := by decide +kernel
theorem dX1_walkChildren_75 : decode cX1_walkChildren 75 = .ok (.iload_n 2, 1) := by decide +kernel
theorem dX1_walkChildren_76 : decode cX1_walkChildren 76 = .ok (.iconst 1, 1) := by decide +kernel
theorem dX1_walkChildren_77 : decode cX1_walkChildren 77 = .ok (.iadd, 1) := by decide +kernel
theorem dX1_walkChildren_78 : decode cX1_walkChildren 78 = .ok (.iload 7, 2) := by decide +kernel
theorem dX1_walkChildren_80 : decode cX1_walkChildren 80 = .ok (.iload 8, 2) := by decide +kernel
theorem dX1_walkChildren_82 : decode cX1_walkChildren 82 = .ok (.invokevirtual 39, 3) := by decide +kernel
theorem dX1_walkChildren_85 : decode cX1_walkChildren 85 = .ok (.istore 9, 2) := by decide +kernel
theorem dX1_walkChildren_87 : decode cX1_walkChildren 87 = .ok (.iload 9, 2) := by decide +kernel
theorem dX1_walkChildren_89 : decode cX1_walkChildren 89 = .ok (.ifCond .eq 6, 3) := by decide +kernel
theorem dX1_walkChildren_92 : decode cX1_walkChildren 92 = .ok (.iload 9, 2) := by decide +kernel
theorem dX1_walkChildren_94 : decode cX1_walkChildren 94 = .ok (.ireturn, 1) := by decide +kernel
theorem dX1_walkChildren_95 : decode cX1_walkChildren 95 = .ok (.iinc 6 1, 3) := by decide +kernel
theorem dX1_walkChildren_98 : decode cX1_walkChildren 98 = .ok (.goto (-85), 3) := by decide +kernel
theorem dX1_walkChildren_101 : decode cX1_walkChildren 101 = .ok (.iconst 0, 1) := by decide +kernel
theorem dX1_walkChildren_102 : decode cX1_walkChildren 102 = .ok (.ireturn, 1) := by decide +kernel
theorem dX1_isLast_0 : decode cX1_isLast 0 = .ok (.iload_n 1, 1) := by decide +kernel
theorem dX1_isLast_1 : decode cX1_isLast 1 = .ok (.aload_n 0, 1) := by decide +kernel
theorem dX1_isLast_2 : decode cX1_isLast 2 = .ok (.getfield 26, 3) := by decide +kernel
theorem dX1_isLast_5 : decode cX1_isLast 5 = .ok (.getfield 81, 3) := by decide +kernel
theorem dX1_isLast_8 : decode cX1_isLast 8 = .ok (.iconst 1, 1) := by decide +kernel
theorem dX1_isLast_9 : decode cX1_isLast 9 = .ok (.isub, 1) := by decide +kernel
theorem dX1_isLast_10 : decode cX1_isLast 10 = .ok (.if_icmp .lt 7, 3) := by decide +kernel
theorem dX1_isLast_13 : decode cX1_isLast 13 = .ok (.iconst 1, 1) := by decide +kernel
theorem dX1_isLast_14 : decode cX1_isLast 14 = .ok (.goto 4, 3) := by decide +kernel
theorem dX1_isLast_17 : decode cX1_isLast 17 = .ok (.iconst 0, 1) := by decide +kernel
theorem dX1_isLast_18 : decode cX1_isLast 18 = .ok (.ireturn, 1) := by decide +kernel
theorem dX1_comeTo_0 : decode cX1_comeTo 0 = .ok (.iload_n 1, 1) := by decide +kernel
theorem dX1_comeTo_1 : decode cX1_comeTo 1 = .ok (.ifCond .lt 19, 3) := by decide +kernel
theorem dX1_comeTo_4 : decode cX1_comeTo 4 = .ok (.iload_n 1, 1) := by decide +kernel
theorem dX1_comeTo_5 : decode cX1_comeTo 5 = .ok (.aload_n 0, 1) := by decide +kernel
theorem dX1_comeTo_6 : decode cX1_comeTo 6 = .ok (.getfield 9, 3) := by decide +kernel
theorem dX1_comeTo_9 : decode cX1_comeTo 9 = .ok (.arraylength, 1) := by decide +kernel
theorem dX1_comeTo_10 : decode cX1_comeTo 10 = .ok (.if_icmp .ge 10, 3) := by decide +kernel
theorem dX1_comeTo_13 : decode cX1_comeTo 13 = .ok (.aload_n 0, 1) := by decide +kernel
theorem dX1_comeTo_14 : decode cX1_comeTo 14 = .ok (.getfield 9, 3) := by decide +kernel
theorem dX1_comeTo_17 : decode cX1_comeTo 17 = .ok (.iload_n 1, 1) := by decide +kernel
theorem dX1_comeTo_18 : decode cX1_comeTo 18 = .ok (.iconst 1, 1) := by decide +kernel
theorem dX1_comeTo_19 : decode cX1_comeTo 19 = .ok (.bastore, 1) := by decide +kernel
theorem dX1_comeTo_20 : decode cX1_comeTo 20 = .ok (.return_, 1) := by decide +kernel
theorem dX1_noteLeaf_0 : decode cX1_noteLeaf 0 = .ok (.aload_n 0, 1) := by decide +kernel
theorem dX1_noteLeaf_1 : decode cX1_noteLeaf 1 = .ok (.getfield 30, 3) := by decide +kernel
theorem dX1_noteLeaf_4 : decode cX1_noteLeaf 4 = .ok (.aload_n 0, 1) := by decide +kernel
theorem dX1_noteLeaf_5 : decode cX1_noteLeaf 5 = .ok (.getfield 15, 3) := by decide +kernel
theorem dX1_noteLeaf_8 : decode cX1_noteLeaf 8 = .ok (.arraylength, 1) := by decide +kernel
theorem dX1_noteLeaf_9 : decode cX1_noteLeaf 9 = .ok (.if_icmp .ge 23, 3) := by decide +kernel
theorem dX1_noteLeaf_12 : decode cX1_noteLeaf 12 = .ok (.aload_n 0, 1) := by decide +kernel
theorem dX1_noteLeaf_13 : decode cX1_noteLeaf 13 = .ok (.getfield 15, 3) := by decide +kernel
theorem dX1_noteLeaf_16 : decode cX1_noteLeaf 16 = .ok (.aload_n 0, 1) := by decide +kernel
theorem dX1_noteLeaf_17 : decode cX1_noteLeaf 17 = .ok (.getfield 30, 3) := by decide +kernel
theorem dX1_noteLeaf_20 : decode cX1_noteLeaf 20 = .ok (.iload_n 1, 1) := by decide +kernel
theorem dX1_noteLeaf_21 : decode cX1_noteLeaf 21 = .ok (.iastore, 1) := by decide +kernel
theorem dX1_noteLeaf_22 : decode cX1_noteLeaf 22 = .ok (.aload_n 0, 1) := by decide +kernel
theorem dX1_noteLeaf_23 : decode cX1_noteLeaf 23 = .ok (.dup, 1) := by decide +kernel
theorem dX1_noteLeaf_24 : decode cX1_noteLeaf 24 = .ok (.getfield 30, 3) := by decide +kernel
theorem dX1_noteLeaf_27 : decode cX1_noteLeaf 27 = .ok (.iconst 1, 1) := by decide +kernel
theorem dX1_noteLeaf_28 : decode cX1_noteLeaf 28 = .ok (.iadd, 1) := by decide +kernel
theorem dX1_noteLeaf_29 : decode cX1_noteLeaf 29 = .ok (.putfield 30, 3) := by decide +kernel
theorem dX1_noteLeaf_32 : decode cX1_noteLeaf 32 = .ok (.return_, 1) := by decide +kernel
theorem dX1_whyWrong_0 : decode cX1_whyWrong 0 = .ok (.aload_n 1, 1) := by decide +kernel
theorem dX1_whyWrong_1 : decode cX1_whyWrong 1 = .ok (.invokevirtual 84, 3) := by decide +kernel
theorem dX1_whyWrong_4 : decode cX1_whyWrong 4 = .ok (.aload_n 0, 1) := by decide +kernel
theorem dX1_whyWrong_5 : decode cX1_whyWrong 5 = .ok (.iload_n 2, 1) := by decide +kernel
theorem dX1_whyWrong_6 : decode cX1_whyWrong 6 = .ok (.invokevirtual 62, 3) := by decide +kernel
theorem dX1_whyWrong_9 : decode cX1_whyWrong 9 = .ok (.ifCond .eq 7, 3) := by decide +kernel
theorem dX1_whyWrong_12 : decode cX1_whyWrong 12 = .ok (.iconst 1, 1) := by decide +kernel
theorem dX1_whyWrong_13 : decode cX1_whyWrong 13 = .ok (.goto 4, 3) := by decide +kernel
theorem dX1_whyWrong_16 : decode cX1_whyWrong 16 = .ok (.iconst 2, 1) := by decide +kernel
theorem dX1_whyWrong_17 : decode cX1_whyWrong 17 = .ok (.if_icmp .eq 5, 3) := by decide +kernel
theorem dX1_whyWrong_20 : decode cX1_whyWrong 20 = .ok (.iconst 1, 1) := by decide +kernel
theorem dX1_whyWrong_21 : decode cX1_whyWrong 21 = .ok (.ireturn, 1) := by decide +kernel
theorem dX1_whyWrong_22 : decode cX1_whyWrong 22 = .ok (.iload_n 2, 1) := by decide +kernel
theorem dX1_whyWrong_23 : decode cX1_whyWrong 23 = .ok (.ifCond .ne 15, 3) := by decide +kernel
theorem dX1_whyWrong_26 : decode cX1_whyWrong 26 = .ok (.aload_n 1, 1) := by decide +kernel
theorem dX1_whyWrong_27 : decode cX1_whyWrong 27 = .ok (.invokevirtual 84, 3) := by decide +kernel
theorem dX1_whyWrong_30 : decode cX1_whyWrong 30 = .ok (.iconst 1, 1) := by decide +kernel
theorem dX1_whyWrong_31 : decode cX1_whyWrong 31 = .ok (.if_icmp .ne 7, 3) := by decide +kernel
theorem dX1_whyWrong_34 : decode cX1_whyWrong 34 = .ok (.iconst 1, 1) := by decide +kernel
theorem dX1_whyWrong_35 : decode cX1_whyWrong 35 = .ok (.goto 4, 3) := by decide +kernel
theorem dX1_whyWrong_38 : decode cX1_whyWrong 38 = .ok (.iconst 0, 1) := by decide +kernel
theorem dX1_whyWrong_39 : decode cX1_whyWrong 39 = .ok (.istore 5, 2) := by decide +kernel
theorem dX1_whyWrong_41 : decode cX1_whyWrong 41 = .ok (.aload_n 1, 1) := by decide +kernel
theorem dX1_whyWrong_42 : decode cX1_whyWrong 42 = .ok (.invokevirtual 72, 3) := by decide +kernel
theorem dX1_whyWrong_45 : decode cX1_whyWrong 45 = .ok (.ifCond .ne 8, 3) := by decide +kernel
theorem dX1_whyWrong_48 : decode cX1_whyWrong 48 = .ok (.iload 5, 2) := by decide +kernel
theorem dX1_whyWrong_50 : decode cX1_whyWrong 50 = .ok (.ifCond .eq 10, 3) := by decide +kernel
theorem dX1_whyWrong_53 : decode cX1_whyWrong 53 = .ok (.aload_n 1, 1) := by decide +kernel
theorem dX1_whyWrong_54 : decode cX1_whyWrong 54 = .ok (.invokestatic 87, 3) := by decide +kernel
theorem dX1_whyWrong_57 : decode cX1_whyWrong 57 = .ok (.ifCond .ne 5, 3) := by decide +kernel
theorem dX1_whyWrong_60 : decode cX1_whyWrong 60 = .ok (.iconst 2, 1) := by decide +kernel
theorem dX1_whyWrong_61 : decode cX1_whyWrong 61 = .ok (.ireturn, 1) := by decide +kernel
theorem dX1_whyWrong_62 : decode cX1_whyWrong 62 = .ok (.aload_n 0, 1) := by decide +kernel
theorem dX1_whyWrong_63 : decode cX1_whyWrong 63 = .ok (.aload_n 1, 1) := by decide +kernel
theorem dX1_whyWrong_64 : decode cX1_whyWrong 64 = .ok (.invokevirtual 91, 3) := by decide +kernel
theorem dX1_whyWrong_67 : decode cX1_whyWrong 67 = .ok (.ifCond .ne 5, 3) := by decide +kernel
theorem dX1_whyWrong_70 : decode cX1_whyWrong 70 = .ok (.iconst 3, 1) := by decide +kernel
theorem dX1_whyWrong_71 : decode cX1_whyWrong 71 = .ok (.ireturn, 1) := by decide +kernel
theorem dX1_whyWrong_72 : decode cX1_whyWrong 72 = .ok (.aload_n 1, 1) := by decide +kernel
theorem dX1_whyWrong_73 : decode cX1_whyWrong 73 = .ok (.invokevirtual 72, 3) := by decide +kernel
theorem dX1_whyWrong_76 : decode cX1_whyWrong 76 = .ok (.ifCond .le 16, 3) := by decide +kernel
theorem dX1_whyWrong_79 : decode cX1_whyWrong 79 = .ok (.aload_n 0, 1) := by decide +kernel
theorem dX1_whyWrong_80 : decode cX1_whyWrong 80 = .ok (.aload_n 1, 1) := by decide +kernel
theorem dX1_whyWrong_81 : decode cX1_whyWrong 81 = .ok (.iload_n 3, 1) := by decide +kernel
theorem dX1_whyWrong_82 : decode cX1_whyWrong 82 = .ok (.iload 4, 2) := by decide +kernel
theorem dX1_whyWrong_84 : decode cX1_whyWrong 84 = .ok (.invokevirtual 94, 3) := by decide +kernel
theorem dX1_whyWrong_87 : decode cX1_whyWrong 87 = .ok (.ifCond .ne 5, 3) := by decide +kernel
theorem dX1_whyWrong_90 : decode cX1_whyWrong 90 = .ok (.iconst 4, 1) := by decide +kernel
theorem dX1_whyWrong_91 : decode cX1_whyWrong 91 = .ok (.ireturn, 1) := by decide +kernel
theorem dX1_whyWrong_92 : decode cX1_whyWrong 92 = .ok (.aload_n 1, 1) := by decide +kernel
theorem dX1_whyWrong_93 : decode cX1_whyWrong 93 = .ok (.invokevirtual 84, 3) := by decide +kernel
theorem dX1_whyWrong_96 : decode cX1_whyWrong 96 = .ok (.iconst 2, 1) := by decide +kernel
theorem dX1_whyWrong_97 : decode cX1_whyWrong 97 = .ok (.if_icmp .ne 15, 3) := by decide +kernel
theorem dX1_whyWrong_100 : decode cX1_whyWrong 100 = .ok (.aload_n 0, 1) := by decide +kernel
theorem dX1_whyWrong_101 : decode cX1_whyWrong 101 = .ok (.aload_n 1, 1) := by decide +kernel
theorem dX1_whyWrong_102 : decode cX1_whyWrong 102 = .ok (.invokevirtual 98, 3) := by decide +kernel
theorem dX1_whyWrong_105 : decode cX1_whyWrong 105 = .ok (.ifCond .eq 7, 3) := by decide +kernel
theorem dX1_whyWrong_108 : decode cX1_whyWrong 108 = .ok (.iconst 5, 1) := by decide +kernel
theorem dX1_whyWrong_109 : decode cX1_whyWrong 109 = .ok (.goto 4, 3) := by decide +kernel
theorem dX1_whyWrong_112 : decode cX1_whyWrong 112 = .ok (.iconst 0, 1) := by decide +kernel
theorem dX1_whyWrong_113 : decode cX1_whyWrong 113 = .ok (.ireturn, 1) := by decide +kernel
theorem dX1_isReadable_0 : decode cX1_isReadable 0 = .ok (.iconst 3, 1) := by decide +kernel
theorem dX1_isReadable_1 : decode cX1_isReadable 1 = .ok (.istore_n 1, 1) := by decide +kernel
theorem dX1_isReadable_2 : decode cX1_isReadable 2 = .ok (.iconst 0, 1) := by decide +kernel
theorem dX1_isReadable_3 : decode cX1_isReadable 3 = .ok (.istore_n 2, 1) := by decide +kernel
theorem dX1_isReadable_4 : decode cX1_isReadable 4 = .ok (.iload_n 2, 1) := by decide +kernel
theorem dX1_isReadable_5 : decode cX1_isReadable 5 = .ok (.aload_n 0, 1) := by decide +kernel
theorem dX1_isReadable_6 : decode cX1_isReadable 6 = .ok (.invokevirtual 72, 3) := by decide +kernel
theorem dX1_isReadable_9 : decode cX1_isReadable 9 = .ok (.if_icmp .ge 74, 3) := by decide +kernel
theorem dX1_isReadable_12 : decode cX1_isReadable 12 = .ok (.aload_n 0, 1) := by decide +kernel
theorem dX1_isReadable_13 : decode cX1_isReadable 13 = .ok (.iload_n 1, 1) := by decide +kernel
theorem dX1_isReadable_14 : decode cX1_isReadable 14 = .ok (.invokevirtual 101, 3) := by decide +kernel
theorem dX1_isReadable_17 : decode cX1_isReadable 17 = .ok (.istore_n 3, 1) := by decide +kernel
theorem dX1_isReadable_18 : decode cX1_isReadable 18 = .ok (.iload_n 3, 1) := by decide +kernel
theorem dX1_isReadable_19 : decode cX1_isReadable 19 = .ok (.iconst 1, 1) := by decide +kernel
theorem dX1_isReadable_20 : decode cX1_isReadable 20 = .ok (.bipush 8, 2) := by decide +kernel
theorem dX1_isReadable_22 : decode cX1_isReadable 22 = .ok (.invokestatic 104, 3) := by decide +kernel
theorem dX1_isReadable_25 : decode cX1_isReadable 25 = .ok (.ifCond .eq 13, 3) := by decide +kernel
theorem dX1_isReadable_28 : decode cX1_isReadable 28 = .ok (.iload_n 1, 1) := by decide +kernel
theorem dX1_isReadable_29 : decode cX1_isReadable 29 = .ok (.iload_n 3, 1) := by decide +kernel
theorem dX1_isReadable_30 : decode cX1_isReadable 30 = .ok (.iadd, 1) := by decide +kernel
theorem dX1_isReadable_31 : decode cX1_isReadable 31 = .ok (.iconst 2, 1) := by decide +kernel
theorem dX1_isReadable_32 : decode cX1_isReadable 32 = .ok (.iadd, 1) := by decide +kernel
theorem dX1_isReadable_33 : decode cX1_isReadable 33 = .ok (.bipush 64, 2) := by decide +kernel
theorem dX1_isReadable_35 : decode cX1_isReadable 35 = .ok (.if_icmp .le 5, 3) := by decide +kernel
theorem dX1_isReadable_38 : decode cX1_isReadable 38 = .ok (.iconst 0, 1) := by decide +kernel
theorem dX1_isReadable_39 : decode cX1_isReadable 39 = .ok (.ireturn, 1) := by decide +kernel
theorem dX1_isReadable_40 : decode cX1_isReadable 40 = .ok (.iconst 1, 1) := by decide +kernel
theorem dX1_isReadable_41 : decode cX1_isReadable 41 = .ok (.istore 4, 2) := by decide +kernel
theorem dX1_isReadable_43 : decode cX1_isReadable 43 = .ok (.iload 4, 2) := by decide +kernel
theorem dX1_isReadable_45 : decode cX1_isReadable 45 = .ok (.iload_n 3, 1) := by decide +kernel
theorem dX1_isReadable_46 : decode cX1_isReadable 46 = .ok (.if_icmp .gt 25, 3) := by decide +kernel
theorem dX1_isReadable_49 : decode cX1_isReadable 49 = .ok (.aload_n 0, 1) := by decide +kernel
theorem dX1_isReadable_50 : decode cX1_isReadable 50 = .ok (.iload_n 1, 1) := by decide +kernel
theorem dX1_isReadable_51 : decode cX1_isReadable 51 = .ok (.iload 4, 2) := by decide +kernel
theorem dX1_isReadable_53 : decode cX1_isReadable 53 = .ok (.iadd, 1) := by decide +kernel
theorem dX1_isReadable_54 : decode cX1_isReadable 54 = .ok (.invokevirtual 101, 3) := by decide +kernel
theorem dX1_isReadable_57 : decode cX1_isReadable 57 = .ok (.invokestatic 108, 3) := by decide +kernel
theorem dX1_isReadable_60 : decode cX1_isReadable 60 = .ok (.ifCond .ne 5, 3) := by decide +kernel
theorem dX1_isReadable_63 : decode cX1_isReadable 63 = .ok (.iconst 0, 1) := by decide +kernel
theorem dX1_isReadable_64 : decode cX1_isReadable 64 = .ok (.ireturn, 1) := by decide +kernel
theorem dX1_isReadable_65 : decode cX1_isReadable 65 = .ok (.iinc 4 1, 3) := by decide +kernel
theorem dX1_isReadable_68 : decode cX1_isReadable 68 = .ok (.goto (-25), 3) := by decide +kernel
theorem dX1_isReadable_71 : decode cX1_isReadable 71 = .ok (.iload_n 1, 1) := by decide +kernel
theorem dX1_isReadable_72 : decode cX1_isReadable 72 = .ok (.iload_n 3, 1) := by decide +kernel
theorem dX1_isReadable_73 : decode cX1_isReadable 73 = .ok (.iconst 2, 1) := by decide +kernel
theorem dX1_isReadable_74 : decode cX1_isReadable 74 = .ok (.iadd, 1) := by decide +kernel
theorem dX1_isReadable_75 : decode cX1_isReadable 75 = .ok (.iadd, 1) := by decide +kernel
theorem dX1_isReadable_76 : decode cX1_isReadable 76 = .ok (.istore_n 1, 1) := by decide +kernel
theorem dX1_isReadable_77 : decode cX1_isReadable 77 = .ok (.iinc 2 1, 3) := by decide +kernel
theorem dX1_isReadable_80 : decode cX1_isReadable 80 = .ok (.goto (-76), 3) := by decide +kernel
theorem dX1_isReadable_83 : decode cX1_isReadable 83 = .ok (.iload_n 1, 1) := by decide +kernel
theorem dX1_isReadable_84 : decode cX1_isReadable 84 = .ok (.istore_n 2, 1) := by decide +kernel
theorem dX1_isReadable_85 : decode cX1_isReadable 85 = .ok (.iload_n 2, 1) := by decide +kernel
theorem dX1_isReadable_86 : decode cX1_isReadable 86 = .ok (.bipush 64, 2) := by decide +kernel
theorem dX1_isReadable_88 : decode cX1_isReadable 88 = .ok (.if_icmp .ge 17, 3) := by decide +kernel
theorem dX1_isReadable_91 : decode cX1_isReadable 91 = .ok (.aload_n 0, 1) := by decide +kernel
theorem dX1_isReadable_92 : decode cX1_isReadable 92 = .ok (.iload_n 2, 1) := by decide +kernel
theorem dX1_isReadable_93 : decode cX1_isReadable 93 = .ok (.invokevirtual 101, 3) := by decide +kernel
theorem dX1_isReadable_96 : decode cX1_isReadable 96 = .ok (.ifCond .ne 9, 3) := by decide +kernel
theorem dX1_isReadable_99 : decode cX1_isReadable 99 = .ok (.iinc 2 1, 3) := by decide +kernel
theorem dX1_isReadable_102 : decode cX1_isReadable 102 = .ok (.goto (-17), 3) := by decide +kernel
theorem dX1_isReadable_105 : decode cX1_isReadable 105 = .ok (.iload_n 2, 1) := by decide +kernel
theorem dX1_isReadable_106 : decode cX1_isReadable 106 = .ok (.bipush 64, 2) := by decide +kernel
theorem dX1_isReadable_108 : decode cX1_isReadable 108 = .ok (.if_icmp .lt 7, 3) := by decide +kernel
theorem dX1_isReadable_111 : decode cX1_isReadable 111 = .ok (.iconst 1, 1) := by decide +kernel
theorem dX1_isReadable_112 : decode cX1_isReadable 112 = .ok (.goto 4, 3) := by decide +kernel
theorem dX1_isReadable_115 : decode cX1_isReadable 115 = .ok (.iconst 0, 1) := by decide +kernel
theorem dX1_isReadable_116 : decode cX1_isReadable 116 = .ok (.ireturn, 1) := by decide +kernel
theorem dX1_rises_0 : decode cX1_rises 0 = .ok (.iconst 1, 1) := by decide +kernel
theorem dX1_rises_1 : decode cX1_rises 1 = .ok (.istore_n 2, 1) := by decide +kernel
theorem dX1_rises_2 : decode cX1_rises 2 = .ok (.iload_n 2, 1) := by decide +kernel
theorem dX1_rises_3 : decode cX1_rises 3 = .ok (.aload_n 1, 1) := by decide +kernel
theorem dX1_rises_4 : decode cX1_rises 4 = .ok (.invokevirtual 72, 3) := by decide +kernel
theorem dX1_rises_7 : decode cX1_rises 7 = .ok (.if_icmp .ge 34, 3) := by decide +kernel
theorem dX1_rises_10 : decode cX1_rises 10 = .ok (.aload_n 1, 1) := by decide +kernel
theorem dX1_rises_11 : decode cX1_rises 11 = .ok (.iload_n 2, 1) := by decide +kernel
theorem dX1_rises_12 : decode cX1_rises 12 = .ok (.iconst 1, 1) := by decide +kernel
theorem dX1_rises_13 : decode cX1_rises 13 = .ok (.isub, 1) := by decide +kernel
theorem dX1_rises_14 : decode cX1_rises 14 = .ok (.aload_n 0, 1) := by decide +kernel
theorem dX1_rises_15 : decode cX1_rises 15 = .ok (.getfield 22, 3) := by decide +kernel
theorem dX1_rises_18 : decode cX1_rises 18 = .ok (.invokevirtual 111, 3) := by decide +kernel
theorem dX1_rises_21 : decode cX1_rises 21 = .ok (.aload_n 1, 1) := by decide +kernel
theorem dX1_rises_22 : decode cX1_rises 22 = .ok (.iload_n 2, 1) := by decide +kernel
theorem dX1_rises_23 : decode cX1_rises 23 = .ok (.aload_n 0, 1) := by decide +kernel
theorem dX1_rises_24 : decode cX1_rises 24 = .ok (.getfield 22, 3) := by decide +kernel
theorem dX1_rises_27 : decode cX1_rises 27 = .ok (.invokevirtual 115, 3) := by decide +kernel
theorem dX1_rises_30 : decode cX1_rises 30 = .ok (.ifCond .gt 5, 3) := by decide +kernel
theorem dX1_rises_33 : decode cX1_rises 33 = .ok (.iconst 0, 1) := by decide +kernel
theorem dX1_rises_34 : decode cX1_rises 34 = .ok (.ireturn, 1) := by decide +kernel
theorem dX1_rises_35 : decode cX1_rises 35 = .ok (.iinc 2 1, 3) := by decide +kernel
theorem dX1_rises_38 : decode cX1_rises 38 = .ok (.goto (-36), 3) := by decide +kernel
theorem dX1_rises_41 : decode cX1_rises 41 = .ok (.iconst 1, 1) := by decide +kernel
theorem dX1_rises_42 : decode cX1_rises 42 = .ok (.ireturn, 1) := by decide +kernel
theorem dX1_isBetween_0 : decode cX1_isBetween 0 = .ok (.iload_n 2, 1) := by decide +kernel
theorem dX1_isBetween_1 : decode cX1_isBetween 1 = .ok (.iconst (-1), 1) := by decide +kernel
theorem dX1_isBetween_2 : decode cX1_isBetween 2 = .ok (.if_icmp .eq 39, 3) := by decide +kernel
theorem dX1_isBetween_5 : decode cX1_isBetween 5 = .ok (.aload_n 0, 1) := by decide +kernel
theorem dX1_isBetween_6 : decode cX1_isBetween 6 = .ok (.getfield 26, 3) := by decide +kernel
theorem dX1_isBetween_9 : decode cX1_isBetween 9 = .ok (.iload_n 2, 1) := by decide +kernel
theorem dX1_isBetween_10 : decode cX1_isBetween 10 = .ok (.bipush 64, 2) := by decide +kernel
theorem dX1_isBetween_12 : decode cX1_isBetween 12 = .ok (.idiv, 1) := by decide +kernel
theorem dX1_isBetween_13 : decode cX1_isBetween 13 = .ok (.invokevirtual 50, 3) := by decide +kernel
theorem dX1_isBetween_16 : decode cX1_isBetween 16 = .ok (.iload_n 2, 1) := by decide +kernel
theorem dX1_isBetween_17 : decode cX1_isBetween 17 = .ok (.bipush 64, 2) := by decide +kernel
theorem dX1_isBetween_19 : decode cX1_isBetween 19 = .ok (.irem, 1) := by decide +kernel
theorem dX1_isBetween_20 : decode cX1_isBetween 20 = .ok (.aload_n 0, 1) := by decide +kernel
theorem dX1_isBetween_21 : decode cX1_isBetween 21 = .ok (.getfield 22, 3) := by decide +kernel
theorem dX1_isBetween_24 : decode cX1_isBetween 24 = .ok (.invokevirtual 111, 3) := by decide +kernel
theorem dX1_isBetween_27 : decode cX1_isBetween 27 = .ok (.aload_n 1, 1) := by decide +kernel
theorem dX1_isBetween_28 : decode cX1_isBetween 28 = .ok (.iconst 0, 1) := by decide +kernel
theorem dX1_isBetween_29 : decode cX1_isBetween 29 = .ok (.aload_n 0, 1) := by decide +kernel
theorem dX1_isBetween_30 : decode cX1_isBetween 30 = .ok (.getfield 22, 3) := by decide +kernel
theorem dX1_isBetween_33 : decode cX1_isBetween 33 = .ok (.invokevirtual 115, 3) := by decide +kernel
theorem dX1_isBetween_36 : decode cX1_isBetween 36 = .ok (.ifCond .ge 5, 3) := by decide +kernel
theorem dX1_isBetween_39 : decode cX1_isBetween 39 = .ok (.iconst 0, 1) := by decide +kernel
theorem dX1_isBetween_40 : decode cX1_isBetween 40 = .ok (.ireturn, 1) := by decide +kernel
theorem dX1_isBetween_41 : decode cX1_isBetween 41 = .ok (.iload_n 3, 1) := by decide +kernel
theorem dX1_isBetween_42 : decode cX1_isBetween 42 = .ok (.iconst (-1), 1) := by decide +kernel
theorem dX1_isBetween_43 : decode cX1_isBetween 43 = .ok (.if_icmp .eq 48, 3) := by decide +kernel
theorem dX1_isBetween_46 : decode cX1_isBetween 46 = .ok (.aload_n 0, 1) := by decide +kernel
theorem dX1_isBetween_47 : decode cX1_isBetween 47 = .ok (.getfield 26, 3) := by decide +kernel
theorem dX1_isBetween_50 : decode cX1_isBetween 50 = .ok (.iload_n 3, 1) := by decide +kernel
theorem dX1_isBetween_51 : decode cX1_isBetween 51 = .ok (.bipush 64, 2) := by decide +kernel
theorem dX1_isBetween_53 : decode cX1_isBetween 53 = .ok (.idiv, 1) := by decide +kernel
theorem dX1_isBetween_54 : decode cX1_isBetween 54 = .ok (.invokevirtual 50, 3) := by decide +kernel
theorem dX1_isBetween_57 : decode cX1_isBetween 57 = .ok (.iload_n 3, 1) := by decide +kernel
theorem dX1_isBetween_58 : decode cX1_isBetween 58 = .ok (.bipush 64, 2) := by decide +kernel
theorem dX1_isBetween_60 : decode cX1_isBetween 60 = .ok (.irem, 1) := by decide +kernel
theorem dX1_isBetween_61 : decode cX1_isBetween 61 = .ok (.aload_n 0, 1) := by decide +kernel
theorem dX1_isBetween_62 : decode cX1_isBetween 62 = .ok (.getfield 22, 3) := by decide +kernel
theorem dX1_isBetween_65 : decode cX1_isBetween 65 = .ok (.invokevirtual 111, 3) := by decide +kernel
theorem dX1_isBetween_68 : decode cX1_isBetween 68 = .ok (.aload_n 1, 1) := by decide +kernel
theorem dX1_isBetween_69 : decode cX1_isBetween 69 = .ok (.aload_n 1, 1) := by decide +kernel
theorem dX1_isBetween_70 : decode cX1_isBetween 70 = .ok (.invokevirtual 72, 3) := by decide +kernel
theorem dX1_isBetween_73 : decode cX1_isBetween 73 = .ok (.iconst 1, 1) := by decide +kernel
theorem dX1_isBetween_74 : decode cX1_isBetween 74 = .ok (.isub, 1) := by decide +kernel
theorem dX1_isBetween_75 : decode cX1_isBetween 75 = .ok (.aload_n 0, 1) := by decide +kernel
theorem dX1_isBetween_76 : decode cX1_isBetween 76 = .ok (.getfield 22, 3) := by decide +kernel
theorem dX1_isBetween_79 : decode cX1_isBetween 79 = .ok (.invokevirtual 115, 3) := by decide +kernel
theorem dX1_isBetween_82 : decode cX1_isBetween 82 = .ok (.ifCond .ge 7, 3) := by decide +kernel
theorem dX1_isBetween_85 : decode cX1_isBetween 85 = .ok (.iconst 1, 1) := by decide +kernel
theorem dX1_isBetween_86 : decode cX1_isBetween 86 = .ok (.goto 4, 3) := by decide +kernel
theorem dX1_isBetween_89 : decode cX1_isBetween 89 = .ok (.iconst 0, 1) := by decide +kernel
theorem dX1_isBetween_90 : decode cX1_isBetween 90 = .ok (.ireturn, 1) := by decide +kernel
theorem dX1_isBetween_91 : decode cX1_isBetween 91 = .ok (.iconst 1, 1) := by decide +kernel
theorem dX1_isBetween_92 : decode cX1_isBetween 92 = .ok (.ireturn, 1) := by decide +kernel
theorem dX1_hasWrongChild_0 : decode cX1_hasWrongChild 0 = .ok (.iconst 0, 1) := by decide +kernel
theorem dX1_hasWrongChild_1 : decode cX1_hasWrongChild 1 = .ok (.istore_n 2, 1) := by decide +kernel
theorem dX1_hasWrongChild_2 : decode cX1_hasWrongChild 2 = .ok (.iload_n 2, 1) := by decide +kernel
theorem dX1_hasWrongChild_3 : decode cX1_hasWrongChild 3 = .ok (.aload_n 1, 1) := by decide +kernel
theorem dX1_hasWrongChild_4 : decode cX1_hasWrongChild 4 = .ok (.invokevirtual 72, 3) := by decide +kernel
theorem dX1_hasWrongChild_7 : decode cX1_hasWrongChild 7 = .ok (.if_icmp .gt 66, 3) := by decide +kernel
theorem dX1_hasWrongChild_10 : decode cX1_hasWrongChild 10 = .ok (.aload_n 1, 1) := by decide +kernel
theorem dX1_hasWrongChild_11 : decode cX1_hasWrongChild 11 = .ok (.iload_n 2, 1) := by decide +kernel
theorem dX1_hasWrongChild_12 : decode cX1_hasWrongChild 12 = .ok (.invokevirtual 77, 3) := by decide +kernel
theorem dX1_hasWrongChild_15 : decode cX1_hasWrongChild 15 = .ok (.istore_n 3, 1) := by decide +kernel
theorem dX1_hasWrongChild_16 : decode cX1_hasWrongChild 16 = .ok (.iload_n 3, 1) := by decide +kernel
theorem dX1_hasWrongChild_17 : decode cX1_hasWrongChild 17 = .ok (.ifCond .lt 21, 3) := by decide +kernel
theorem dX1_hasWrongChild_20 : decode cX1_hasWrongChild 20 = .ok (.iload_n 3, 1) := by decide +kernel
theorem dX1_hasWrongChild_21 : decode cX1_hasWrongChild 21 = .ok (.aload_n 0, 1) := by decide +kernel
theorem dX1_hasWrongChild_22 : decode cX1_hasWrongChild 22 = .ok (.getfield 9, 3) := by decide +kernel
theorem dX1_hasWrongChild_25 : decode cX1_hasWrongChild 25 = .ok (.arraylength, 1) := by decide +kernel
theorem dX1_hasWrongChild_26 : decode cX1_hasWrongChild 26 = .ok (.if_icmp .ge 12, 3) := by decide +kernel
theorem dX1_hasWrongChild_29 : decode cX1_hasWrongChild 29 = .ok (.aload_n 0, 1) := by decide +kernel
theorem dX1_hasWrongChild_30 : decode cX1_hasWrongChild 30 = .ok (.getfield 9, 3) := by decide +kernel
theorem dX1_hasWrongChild_33 : decode cX1_hasWrongChild 33 = .ok (.iload_n 3, 1) := by decide +kernel
theorem dX1_hasWrongChild_34 : decode cX1_hasWrongChild 34 = .ok (.baload, 1) := by decide +kernel
theorem dX1_hasWrongChild_35 : decode cX1_hasWrongChild 35 = .ok (.ifCond .eq 5, 3) := by decide +kernel
theorem dX1_hasWrongChild_38 : decode cX1_hasWrongChild 38 = .ok (.iconst 1, 1) := by decide +kernel
theorem dX1_hasWrongChild_39 : decode cX1_hasWrongChild 39 = .ok (.ireturn, 1) := by decide +kernel
theorem dX1_hasWrongChild_40 : decode cX1_hasWrongChild 40 = .ok (.iconst 0, 1) := by decide +kernel
theorem dX1_hasWrongChild_41 : decode cX1_hasWrongChild 41 = .ok (.istore 4, 2) := by decide +kernel
theorem dX1_hasWrongChild_43 : decode cX1_hasWrongChild 43 = .ok (.iload 4, 2) := by decide +kernel
theorem dX1_hasWrongChild_45 : decode cX1_hasWrongChild 45 = .ok (.iload_n 2, 1) := by decide +kernel
theorem dX1_hasWrongChild_46 : decode cX1_hasWrongChild 46 = .ok (.if_icmp .ge 21, 3) := by decide +kernel
theorem dX1_hasWrongChild_49 : decode cX1_hasWrongChild 49 = .ok (.aload_n 1, 1) := by decide +kernel
theorem dX1_hasWrongChild_50 : decode cX1_hasWrongChild 50 = .ok (.iload 4, 2) := by decide +kernel
theorem dX1_hasWrongChild_52 : decode cX1_hasWrongChild 52 = .ok (.invokevirtual 77, 3) := by decide +kernel
theorem dX1_hasWrongChild_55 : decode cX1_hasWrongChild 55 = .ok (.iload_n 3, 1) := by decide +kernel
theorem dX1_hasWrongChild_56 : decode cX1_hasWrongChild 56 = .ok (.if_icmp .ne 5, 3) := by decide +kernel
theorem dX1_hasWrongChild_59 : decode cX1_hasWrongChild 59 = .ok (.iconst 1, 1) := by decide +kernel
theorem dX1_hasWrongChild_60 : decode cX1_hasWrongChild 60 = .ok (.ireturn, 1) := by decide +kernel
theorem dX1_hasWrongChild_61 : decode cX1_hasWrongChild 61 = .ok (.iinc 4 1, 3) := by decide +kernel
theorem dX1_hasWrongChild_64 : decode cX1_hasWrongChild 64 = .ok (.goto (-21), 3) := by decide +kernel
theorem dX1_hasWrongChild_67 : decode cX1_hasWrongChild 67 = .ok (.iinc 2 1, 3) := by decide +kernel
theorem dX1_hasWrongChild_70 : decode cX1_hasWrongChild 70 = .ok (.goto (-68), 3) := by decide +kernel
theorem dX1_hasWrongChild_73 : decode cX1_hasWrongChild 73 = .ok (.iconst 0, 1) := by decide +kernel
theorem dX1_hasWrongChild_74 : decode cX1_hasWrongChild 74 = .ok (.ireturn, 1) := by decide +kernel
theorem dX1_wrongNext_0 : decode cX1_wrongNext 0 = .ok (.iconst 0, 1) := by decide +kernel
theorem dX1_wrongNext_1 : decode cX1_wrongNext 1 = .ok (.istore_n 1, 1) := by decide +kernel
theorem dX1_wrongNext_2 : decode cX1_wrongNext 2 = .ok (.iload_n 1, 1) := by decide +kernel
theorem dX1_wrongNext_3 : decode cX1_wrongNext 3 = .ok (.aload_n 0, 1) := by decide +kernel
theorem dX1_wrongNext_4 : decode cX1_wrongNext 4 = .ok (.getfield 30, 3) := by decide +kernel
theorem dX1_wrongNext_7 : decode cX1_wrongNext 7 = .ok (.if_icmp .ge 85, 3) := by decide +kernel
theorem dX1_wrongNext_10 : decode cX1_wrongNext 10 = .ok (.iload_n 1, 1) := by decide +kernel
theorem dX1_wrongNext_11 : decode cX1_wrongNext 11 = .ok (.aload_n 0, 1) := by decide +kernel
theorem dX1_wrongNext_12 : decode cX1_wrongNext 12 = .ok (.getfield 15, 3) := by decide +kernel
theorem dX1_wrongNext_15 : decode cX1_wrongNext 15 = .ok (.arraylength, 1) := by decide +kernel
theorem dX1_wrongNext_16 : decode cX1_wrongNext 16 = .ok (.if_icmp .ge 76, 3) := by decide +kernel
theorem dX1_wrongNext_19 : decode cX1_wrongNext 19 = .ok (.iload_n 1, 1) := by decide +kernel
theorem dX1_wrongNext_20 : decode cX1_wrongNext 20 = .ok (.iconst 1, 1) := by decide +kernel
theorem dX1_wrongNext_21 : decode cX1_wrongNext 21 = .ok (.iadd, 1) := by decide +kernel
theorem dX1_wrongNext_22 : decode cX1_wrongNext 22 = .ok (.aload_n 0, 1) := by decide +kernel
theorem dX1_wrongNext_23 : decode cX1_wrongNext 23 = .ok (.getfield 30, 3) := by decide +kernel
theorem dX1_wrongNext_26 : decode cX1_wrongNext 26 = .ok (.if_icmp .ge 27, 3) := by decide +kernel
theorem dX1_wrongNext_29 : decode cX1_wrongNext 29 = .ok (.iload_n 1, 1) := by decide +kernel
theorem dX1_wrongNext_30 : decode cX1_wrongNext 30 = .ok (.iconst 1, 1) := by decide +kernel
theorem dX1_wrongNext_31 : decode cX1_wrongNext 31 = .ok (.iadd, 1) := by decide +kernel
theorem dX1_wrongNext_32 : decode cX1_wrongNext 32 = .ok (.aload_n 0, 1) := by decide +kernel
theorem dX1_wrongNext_33 : decode cX1_wrongNext 33 = .ok (.getfield 15, 3) := by decide +kernel
theorem dX1_wrongNext_36 : decode cX1_wrongNext 36 = .ok (.arraylength, 1) := by decide +kernel
theorem dX1_wrongNext_37 : decode cX1_wrongNext 37 = .ok (.if_icmp .ge 16, 3) := by decide +kernel
theorem dX1_wrongNext_40 : decode cX1_wrongNext 40 = .ok (.aload_n 0, 1) := by decide +kernel
theorem dX1_wrongNext_41 : decode cX1_wrongNext 41 = .ok (.getfield 15, 3) := by decide +kernel
theorem dX1_wrongNext_44 : decode cX1_wrongNext 44 = .ok (.iload_n 1, 1) := by decide +kernel
theorem dX1_wrongNext_45 : decode cX1_wrongNext 45 = .ok (.iconst 1, 1) := by decide +kernel
theorem dX1_wrongNext_46 : decode cX1_wrongNext 46 = .ok (.iadd, 1) := by decide +kernel
theorem dX1_wrongNext_47 : decode cX1_wrongNext 47 = .ok (.iaload, 1) := by decide +kernel
theorem dX1_wrongNext_48 : decode cX1_wrongNext 48 = .ok (.iconst 1, 1) := by decide +kernel
theorem dX1_wrongNext_49 : decode cX1_wrongNext 49 = .ok (.iadd, 1) := by decide +kernel
theorem dX1_wrongNext_50 : decode cX1_wrongNext 50 = .ok (.goto 4, 3) := by decide +kernel
theorem dX1_wrongNext_53 : decode cX1_wrongNext 53 = .ok (.iconst 0, 1) := by decide +kernel
theorem dX1_wrongNext_54 : decode cX1_wrongNext 54 = .ok (.istore_n 2, 1) := by decide +kernel
theorem dX1_wrongNext_55 : decode cX1_wrongNext 55 = .ok (.aload_n 0, 1) := by decide +kernel
theorem dX1_wrongNext_56 : decode cX1_wrongNext 56 = .ok (.getfield 26, 3) := by decide +kernel
theorem dX1_wrongNext_59 : decode cX1_wrongNext 59 = .ok (.aload_n 0, 1) := by decide +kernel
theorem dX1_wrongNext_60 : decode cX1_wrongNext 60 = .ok (.getfield 15, 3) := by decide +kernel
theorem dX1_wrongNext_63 : decode cX1_wrongNext 63 = .ok (.iload_n 1, 1) := by decide +kernel
theorem dX1_wrongNext_64 : decode cX1_wrongNext 64 = .ok (.iaload, 1) := by decide +kernel
theorem dX1_wrongNext_65 : decode cX1_wrongNext 65 = .ok (.invokevirtual 50, 3) := by decide +kernel
theorem dX1_wrongNext_68 : decode cX1_wrongNext 68 = .ok (.invokevirtual 119, 3) := by decide +kernel
theorem dX1_wrongNext_71 : decode cX1_wrongNext 71 = .ok (.iload_n 2, 1) := by decide +kernel
theorem dX1_wrongNext_72 : decode cX1_wrongNext 72 = .ok (.if_icmp .eq 14, 3) := by decide +kernel
theorem dX1_wrongNext_75 : decode cX1_wrongNext 75 = .ok (.sipush 600, 3) := by decide +kernel
theorem dX1_wrongNext_78 : decode cX1_wrongNext 78 = .ok (.aload_n 0, 1) := by decide +kernel
theorem dX1_wrongNext_79 : decode cX1_wrongNext 79 = .ok (.getfield 15, 3) := by decide +kernel
theorem dX1_wrongNext_82 : decode cX1_wrongNext 82 = .ok (.iload_n 1, 1) := by decide +kernel
theorem dX1_wrongNext_83 : decode cX1_wrongNext 83 = .ok (.iaload, 1) := by decide +kernel
theorem dX1_wrongNext_84 : decode cX1_wrongNext 84 = .ok (.iadd, 1) := by decide +kernel
theorem dX1_wrongNext_85 : decode cX1_wrongNext 85 = .ok (.ireturn, 1) := by decide +kernel
theorem dX1_wrongNext_86 : decode cX1_wrongNext 86 = .ok (.iinc 1 1, 3) := by decide +kernel
theorem dX1_wrongNext_89 : decode cX1_wrongNext 89 = .ok (.goto (-87), 3) := by decide +kernel
theorem dX1_wrongNext_92 : decode cX1_wrongNext 92 = .ok (.iconst 0, 1) := by decide +kernel
theorem dX1_wrongNext_93 : decode cX1_wrongNext 93 = .ok (.ireturn, 1) := by decide +kernel
theorem dX1_strayPage_0 : decode cX1_strayPage 0 = .ok (.iconst 0, 1) := by decide +kernel
theorem dX1_strayPage_1 : decode cX1_strayPage 1 = .ok (.istore_n 1, 1) := by decide +kernel
theorem dX1_strayPage_2 : decode cX1_strayPage 2 = .ok (.iload_n 1, 1) := by decide +kernel
theorem dX1_strayPage_3 : decode cX1_strayPage 3 = .ok (.bipush 32, 2) := by decide +kernel
theorem dX1_strayPage_5 : decode cX1_strayPage 5 = .ok (.if_icmp .ge 38, 3) := by decide +kernel
theorem dX1_strayPage_8 : decode cX1_strayPage 8 = .ok (.aload_n 0, 1) := by decide +kernel
theorem dX1_strayPage_9 : decode cX1_strayPage 9 = .ok (.getfield 9, 3) := by decide +kernel
theorem dX1_strayPage_12 : decode cX1_strayPage 12 = .ok (.iload_n 1, 1) := by decide +kernel
theorem dX1_strayPage_13 : decode cX1_strayPage 13 = .ok (.baload, 1) := by decide +kernel
theorem dX1_strayPage_14 : decode cX1_strayPage 14 = .ok (.ifCond .ne 23, 3) := by decide +kernel
theorem dX1_strayPage_17 : decode cX1_strayPage 17 = .ok (.aload_n 0, 1) := by decide +kernel
theorem dX1_strayPage_18 : decode cX1_strayPage 18 = .ok (.getfield 26, 3) := by decide +kernel
theorem dX1_strayPage_21 : decode cX1_strayPage 21 = .ok (.iload_n 1, 1) := by decide +kernel
theorem dX1_strayPage_22 : decode cX1_strayPage 22 = .ok (.invokevirtual 50, 3) := by decide +kernel
theorem dX1_strayPage_25 : decode cX1_strayPage 25 = .ok (.invokestatic 122, 3) := by decide +kernel
theorem dX1_strayPage_28 : decode cX1_strayPage 28 = .ok (.ifCond .ne 9, 3) := by decide +kernel
theorem dX1_strayPage_31 : decode cX1_strayPage 31 = .ok (.sipush 700, 3) := by decide +kernel
theorem dX1_strayPage_34 : decode cX1_strayPage 34 = .ok (.iload_n 1, 1) := by decide +kernel
theorem dX1_strayPage_35 : decode cX1_strayPage 35 = .ok (.iadd, 1) := by decide +kernel
theorem dX1_strayPage_36 : decode cX1_strayPage 36 = .ok (.ireturn, 1) := by decide +kernel
theorem dX1_strayPage_37 : decode cX1_strayPage 37 = .ok (.iinc 1 1, 3) := by decide +kernel
theorem dX1_strayPage_40 : decode cX1_strayPage 40 = .ok (.goto (-38), 3) := by decide +kernel
theorem dX1_strayPage_43 : decode cX1_strayPage 43 = .ok (.iconst 0, 1) := by decide +kernel
theorem dX1_strayPage_44 : decode cX1_strayPage 44 = .ok (.ireturn, 1) := by decide +kernel
theorem dX1_isBlank_0 : decode cX1_isBlank 0 = .ok (.iconst 0, 1) := by decide +kernel
theorem dX1_isBlank_1 : decode cX1_isBlank 1 = .ok (.istore_n 1, 1) := by decide +kernel
theorem dX1_isBlank_2 : decode cX1_isBlank 2 = .ok (.iload_n 1, 1) := by decide +kernel
theorem dX1_isBlank_3 : decode cX1_isBlank 3 = .ok (.bipush 64, 2) := by decide +kernel
theorem dX1_isBlank_5 : decode cX1_isBlank 5 = .ok (.if_icmp .ge 19, 3) := by decide +kernel
theorem dX1_isBlank_8 : decode cX1_isBlank 8 = .ok (.aload_n 0, 1) := by decide +kernel
theorem dX1_isBlank_9 : decode cX1_isBlank 9 = .ok (.iload_n 1, 1) := by decide +kernel
theorem dX1_isBlank_10 : decode cX1_isBlank 10 = .ok (.invokevirtual 101, 3) := by decide +kernel
theorem dX1_isBlank_13 : decode cX1_isBlank 13 = .ok (.ifCond .eq 5, 3) := by decide +kernel
theorem dX1_isBlank_16 : decode cX1_isBlank 16 = .ok (.iconst 0, 1) := by decide +kernel
theorem dX1_isBlank_17 : decode cX1_isBlank 17 = .ok (.ireturn, 1) := by decide +kernel
theorem dX1_isBlank_18 : decode cX1_isBlank 18 = .ok (.iinc 1 1, 3) := by decide +kernel
theorem dX1_isBlank_21 : decode cX1_isBlank 21 = .ok (.goto (-19), 3) := by decide +kernel
theorem dX1_isBlank_24 : decode cX1_isBlank 24 = .ok (.iconst 1, 1) := by decide +kernel
theorem dX1_isBlank_25 : decode cX1_isBlank 25 = .ok (.ireturn, 1) := by decide +kernel
theorem dX2_init_0 : decode cX2_init 0 = .ok (.aload_n 0, 1) := by decide +kernel
theorem dX2_init_1 : decode cX2_init 1 = .ok (.invokespecial 3, 3) := by decide +kernel
theorem dX2_init_4 : decode cX2_init 4 = .ok (.aload_n 0, 1) := by decide +kernel
theorem dX2_init_5 : decode cX2_init 5 = .ok (.sipush 2048, 3) := by decide +kernel
theorem dX2_init_8 : decode cX2_init 8 = .ok (.newarray .int, 2) := by decide +kernel
theorem dX2_init_10 : decode cX2_init 10 = .ok (.putfield 9, 3) := by decide +kernel
theorem dX2_init_13 : decode cX2_init 13 = .ok (.return_, 1) := by decide +kernel
theorem dX2_copyFrom_0 : decode cX2_copyFrom 0 = .ok (.iconst 0, 1) := by decide +kernel
theorem dX2_copyFrom_1 : decode cX2_copyFrom 1 = .ok (.istore_n 2, 1) := by decide +kernel
theorem dX2_copyFrom_2 : decode cX2_copyFrom 2 = .ok (.iload_n 2, 1) := by decide +kernel
theorem dX2_copyFrom_3 : decode cX2_copyFrom 3 = .ok (.aload_n 0, 1) := by decide +kernel
theorem dX2_copyFrom_4 : decode cX2_copyFrom 4 = .ok (.getfield 9, 3) := by decide +kernel
theorem dX2_copyFrom_7 : decode cX2_copyFrom 7 = .ok (.arraylength, 1) := by decide +kernel
theorem dX2_copyFrom_8 : decode cX2_copyFrom 8 = .ok (.if_icmp .ge 30, 3) := by decide +kernel
theorem dX2_copyFrom_11 : decode cX2_copyFrom 11 = .ok (.aload_n 0, 1) := by decide +kernel
theorem dX2_copyFrom_12 : decode cX2_copyFrom 12 = .ok (.getfield 9, 3) := by decide +kernel
theorem dX2_copyFrom_15 : decode cX2_copyFrom 15 = .ok (.iload_n 2, 1) := by decide +kernel
theorem dX2_copyFrom_16 : decode cX2_copyFrom 16 = .ok (.aload_n 1, 1) := by decide +kernel
theorem dX2_copyFrom_17 : decode cX2_copyFrom 17 = .ok (.iload_n 2, 1) := by decide +kernel
theorem dX2_copyFrom_18 : decode cX2_copyFrom 18 = .ok (.bipush 64, 2) := by decide +kernel
theorem dX2_copyFrom_20 : decode cX2_copyFrom 20 = .ok (.idiv, 1) := by decide +kernel
theorem dX2_copyFrom_21 : decode cX2_copyFrom 21 = .ok (.invokevirtual 15, 3) := by decide +kernel
theorem dX2_copyFrom_24 : decode cX2_copyFrom 24 = .ok (.iload_n 2, 1) := by decide +kernel
theorem dX2_copyFrom_25 : decode cX2_copyFrom 25 = .ok (.bipush 64, 2) := by decide +kernel
theorem dX2_copyFrom_27 : decode cX2_copyFrom 27 = .ok (.irem, 1) := by decide +kernel
theorem dX2_copyFrom_28 : decode cX2_copyFrom 28 = .ok (.invokevirtual 21, 3) := by decide +kernel
theorem dX2_copyFrom_31 : decode cX2_copyFrom 31 = .ok (.iastore, 1) := by decide +kernel
theorem dX2_copyFrom_32 : decode cX2_copyFrom 32 = .ok (.iinc 2 1, 3) := by decide +kernel
theorem dX2_copyFrom_35 : decode cX2_copyFrom 35 = .ok (.goto (-33), 3) := by decide +kernel
theorem dX2_copyFrom_38 : decode cX2_copyFrom 38 = .ok (.aload_n 0, 1) := by decide +kernel
theorem dX2_copyFrom_39 : decode cX2_copyFrom 39 = .ok (.aload_n 1, 1) := by decide +kernel
theorem dX2_copyFrom_40 : decode cX2_copyFrom 40 = .ok (.getfield 27, 3) := by decide +kernel
theorem dX2_copyFrom_43 : decode cX2_copyFrom 43 = .ok (.putfield 31, 3) := by decide +kernel
theorem dX2_copyFrom_46 : decode cX2_copyFrom 46 = .ok (.aload_n 0, 1) := by decide +kernel
theorem dX2_copyFrom_47 : decode cX2_copyFrom 47 = .ok (.aload_n 1, 1) := by decide +kernel
theorem dX2_copyFrom_48 : decode cX2_copyFrom 48 = .ok (.getfield 32, 3) := by decide +kernel
theorem dX2_copyFrom_51 : decode cX2_copyFrom 51 = .ok (.putfield 35, 3) := by decide +kernel
theorem dX2_copyFrom_54 : decode cX2_copyFrom 54 = .ok (.aload_n 0, 1) := by decide +kernel
theorem dX2_copyFrom_55 : decode cX2_copyFrom 55 = .ok (.iconst 1, 1) := by decide +kernel
theorem dX2_copyFrom_56 : decode cX2_copyFrom 56 = .ok (.putfield 36, 3) := by decide +kernel
theorem dX2_copyFrom_59 : decode cX2_copyFrom 59 = .ok (.return_, 1) := by decide +kernel
theorem dX2_copyTo_0 : decode cX2_copyTo 0 = .ok (.iconst 0, 1) := by decide +kernel
theorem dX2_copyTo_1 : decode cX2_copyTo 1 = .ok (.istore_n 2, 1) := by decide +kernel
theorem dX2_copyTo_2 : decode cX2_copyTo 2 = .ok (.iload_n 2, 1) := by decide +kernel
theorem dX2_copyTo_3 : decode cX2_copyTo 3 = .ok (.aload_n 0, 1) := by decide +kernel
theorem dX2_copyTo_4 : decode cX2_copyTo 4 = .ok (.getfield 9, 3) := by decide +kernel
theorem dX2_copyTo_7 : decode cX2_copyTo 7 = .ok (.arraylength, 1) := by decide +kernel
theorem dX2_copyTo_8 : decode cX2_copyTo 8 = .ok (.if_icmp .ge 30, 3) := by decide +kernel
theorem dX2_copyTo_11 : decode cX2_copyTo 11 = .ok (.aload_n 1, 1) := by decide +kernel
theorem dX2_copyTo_12 : decode cX2_copyTo 12 = .ok (.iload_n 2, 1) := by decide +kernel
theorem dX2_copyTo_13 : decode cX2_copyTo 13 = .ok (.bipush 64, 2) := by decide +kernel
theorem dX2_copyTo_15 : decode cX2_copyTo 15 = .ok (.idiv, 1) := by decide +kernel
theorem dX2_copyTo_16 : decode cX2_copyTo 16 = .ok (.invokevirtual 15, 3) := by decide +kernel
theorem dX2_copyTo_19 : decode cX2_copyTo 19 = .ok (.iload_n 2, 1) := by decide +kernel
theorem dX2_copyTo_20 : decode cX2_copyTo 20 = .ok (.bipush 64, 2) := by decide +kernel
theorem dX2_copyTo_22 : decode cX2_copyTo 22 = .ok (.irem, 1) := by decide +kernel
theorem dX2_copyTo_23 : decode cX2_copyTo 23 = .ok (.aload_n 0, 1) := by decide +kernel
theorem dX2_copyTo_24 : decode cX2_copyTo 24 = .ok (.getfield 9, 3) := by decide +kernel
theorem dX2_copyTo_27 : decode cX2_copyTo 27 = .ok (.iload_n 2, 1) := by decide +kernel
theorem dX2_copyTo_28 : decode cX2_copyTo 28 = .ok (.iaload, 1) := by decide +kernel
theorem dX2_copyTo_29 : decode cX2_copyTo 29 = .ok (.invokevirtual 40, 3) := by decide +kernel
theorem dX2_copyTo_32 : decode cX2_copyTo 32 = .ok (.iinc 2 1, 3) := by decide +kernel
theorem dX2_copyTo_35 : decode cX2_copyTo 35 = .ok (.goto (-33), 3) := by decide +kernel
theorem dX2_copyTo_38 : decode cX2_copyTo 38 = .ok (.aload_n 1, 1) := by decide +kernel
theorem dX2_copyTo_39 : decode cX2_copyTo 39 = .ok (.aload_n 0, 1) := by decide +kernel
theorem dX2_copyTo_40 : decode cX2_copyTo 40 = .ok (.getfield 31, 3) := by decide +kernel
theorem dX2_copyTo_43 : decode cX2_copyTo 43 = .ok (.putfield 27, 3) := by decide +kernel
theorem dX2_copyTo_46 : decode cX2_copyTo 46 = .ok (.aload_n 1, 1) := by decide +kernel
theorem dX2_copyTo_47 : decode cX2_copyTo 47 = .ok (.aload_n 0, 1) := by decide +kernel
theorem dX2_copyTo_48 : decode cX2_copyTo 48 = .ok (.getfield 35, 3) := by decide +kernel
theorem dX2_copyTo_51 : decode cX2_copyTo 51 = .ok (.putfield 32, 3) := by decide +kernel
theorem dX2_copyTo_54 : decode cX2_copyTo 54 = .ok (.return_, 1) := by decide +kernel
theorem dX3_init_0 : decode cX3_init 0 = .ok (.aload_n 0, 1) := by decide +kernel
theorem dX3_init_1 : decode cX3_init 1 = .ok (.invokespecial 3, 3) := by decide +kernel
theorem dX3_init_4 : decode cX3_init 4 = .ok (.aload_n 0, 1) := by decide +kernel
theorem dX3_init_5 : decode cX3_init 5 = .ok (.bipush 8, 2) := by decide +kernel
theorem dX3_init_7 : decode cX3_init 7 = .ok (.newarray .int, 2) := by decide +kernel
theorem dX3_init_9 : decode cX3_init 9 = .ok (.putfield 9, 3) := by decide +kernel
theorem dX3_init_12 : decode cX3_init 12 = .ok (.return_, 1) := by decide +kernel
theorem dX3_empty_0 : decode cX3_empty 0 = .ok (.aload_n 0, 1) := by decide +kernel
theorem dX3_empty_1 : decode cX3_empty 1 = .ok (.iconst 0, 1) := by decide +kernel
theorem dX3_empty_2 : decode cX3_empty 2 = .ok (.putfield 15, 3) := by decide +kernel
theorem dX3_empty_5 : decode cX3_empty 5 = .ok (.return_, 1) := by decide +kernel
theorem dX3_add_0 : decode cX3_add 0 = .ok (.aload_n 0, 1) := by decide +kernel
theorem dX3_add_1 : decode cX3_add 1 = .ok (.getfield 15, 3) := by decide +kernel
theorem dX3_add_4 : decode cX3_add 4 = .ok (.ifCond .lt 35, 3) := by decide +kernel
theorem dX3_add_7 : decode cX3_add 7 = .ok (.aload_n 0, 1) := by decide +kernel
theorem dX3_add_8 : decode cX3_add 8 = .ok (.getfield 15, 3) := by decide +kernel
theorem dX3_add_11 : decode cX3_add 11 = .ok (.aload_n 0, 1) := by decide +kernel
theorem dX3_add_12 : decode cX3_add 12 = .ok (.getfield 9, 3) := by decide +kernel
theorem dX3_add_15 : decode cX3_add 15 = .ok (.arraylength, 1) := by decide +kernel
theorem dX3_add_16 : decode cX3_add 16 = .ok (.if_icmp .ge 23, 3) := by decide +kernel
theorem dX3_add_19 : decode cX3_add 19 = .ok (.aload_n 0, 1) := by decide +kernel
theorem dX3_add_20 : decode cX3_add 20 = .ok (.getfield 9, 3) := by decide +kernel
theorem dX3_add_23 : decode cX3_add 23 = .ok (.aload_n 0, 1) := by decide +kernel
theorem dX3_add_24 : decode cX3_add 24 = .ok (.getfield 15, 3) := by decide +kernel
theorem dX3_add_27 : decode cX3_add 27 = .ok (.iload_n 1, 1) := by decide +kernel
theorem dX3_add_28 : decode cX3_add 28 = .ok (.iastore, 1) := by decide +kernel
theorem dX3_add_29 : decode cX3_add 29 = .ok (.aload_n 0, 1) := by decide +kernel
theorem dX3_add_30 : decode cX3_add 30 = .ok (.dup, 1) := by decide +kernel
theorem dX3_add_31 : decode cX3_add 31 = .ok (.getfield 15, 3) := by decide +kernel
theorem dX3_add_34 : decode cX3_add 34 = .ok (.iconst 1, 1) := by decide +kernel
theorem dX3_add_35 : decode cX3_add 35 = .ok (.iadd, 1) := by decide +kernel
theorem dX3_add_36 : decode cX3_add 36 = .ok (.putfield 15, 3) := by decide +kernel
theorem dX3_add_39 : decode cX3_add 39 = .ok (.return_, 1) := by decide +kernel
theorem dX3_at_0 : decode cX3_at 0 = .ok (.iload_n 1, 1) := by decide +kernel
theorem dX3_at_1 : decode cX3_at 1 = .ok (.ifCond .lt 29, 3) := by decide +kernel
theorem dX3_at_4 : decode cX3_at 4 = .ok (.iload_n 1, 1) := by decide +kernel
theorem dX3_at_5 : decode cX3_at 5 = .ok (.aload_n 0, 1) := by decide +kernel
theorem dX3_at_6 : decode cX3_at 6 = .ok (.getfield 15, 3) := by decide +kernel
theorem dX3_at_9 : decode cX3_at 9 = .ok (.if_icmp .ge 21, 3) := by decide +kernel
theorem dX3_at_12 : decode cX3_at 12 = .ok (.iload_n 1, 1) := by decide +kernel
theorem dX3_at_13 : decode cX3_at 13 = .ok (.aload_n 0, 1) := by decide +kernel
theorem dX3_at_14 : decode cX3_at 14 = .ok (.getfield 9, 3) := by decide +kernel
theorem dX3_at_17 : decode cX3_at 17 = .ok (.arraylength, 1) := by decide +kernel
theorem dX3_at_18 : decode cX3_at 18 = .ok (.if_icmp .ge 12, 3) := by decide +kernel
theorem dX3_at_21 : decode cX3_at 21 = .ok (.aload_n 0, 1) := by decide +kernel
theorem dX3_at_22 : decode cX3_at 22 = .ok (.getfield 9, 3) := by decide +kernel
theorem dX3_at_25 : decode cX3_at 25 = .ok (.iload_n 1, 1) := by decide +kernel
theorem dX3_at_26 : decode cX3_at 26 = .ok (.iaload, 1) := by decide +kernel
theorem dX3_at_27 : decode cX3_at 27 = .ok (.goto 4, 3) := by decide +kernel
theorem dX3_at_30 : decode cX3_at 30 = .ok (.iconst 0, 1) := by decide +kernel
theorem dX3_at_31 : decode cX3_at 31 = .ok (.ireturn, 1) := by decide +kernel
theorem dX3_copyFrom_0 : decode cX3_copyFrom 0 = .ok (.aload_n 0, 1) := by decide +kernel
theorem dX3_copyFrom_1 : decode cX3_copyFrom 1 = .ok (.invokevirtual 19, 3) := by decide +kernel
theorem dX3_copyFrom_4 : decode cX3_copyFrom 4 = .ok (.iconst 0, 1) := by decide +kernel
theorem dX3_copyFrom_5 : decode cX3_copyFrom 5 = .ok (.istore_n 2, 1) := by decide +kernel
theorem dX3_copyFrom_6 : decode cX3_copyFrom 6 = .ok (.iload_n 2, 1) := by decide +kernel
theorem dX3_copyFrom_7 : decode cX3_copyFrom 7 = .ok (.aload_n 1, 1) := by decide +kernel
theorem dX3_copyFrom_8 : decode cX3_copyFrom 8 = .ok (.getfield 15, 3) := by decide +kernel
theorem dX3_copyFrom_11 : decode cX3_copyFrom 11 = .ok (.if_icmp .ge 18, 3) := by decide +kernel
theorem dX3_copyFrom_14 : decode cX3_copyFrom 14 = .ok (.aload_n 0, 1) := by decide +kernel
theorem dX3_copyFrom_15 : decode cX3_copyFrom 15 = .ok (.aload_n 1, 1) := by decide +kernel
theorem dX3_copyFrom_16 : decode cX3_copyFrom 16 = .ok (.iload_n 2, 1) := by decide +kernel
theorem dX3_copyFrom_17 : decode cX3_copyFrom 17 = .ok (.invokevirtual 22, 3) := by decide +kernel
theorem dX3_copyFrom_20 : decode cX3_copyFrom 20 = .ok (.invokevirtual 26, 3) := by decide +kernel
theorem dX3_copyFrom_23 : decode cX3_copyFrom 23 = .ok (.iinc 2 1, 3) := by decide +kernel
theorem dX3_copyFrom_26 : decode cX3_copyFrom 26 = .ok (.goto (-20), 3) := by decide +kernel
theorem dX3_copyFrom_29 : decode cX3_copyFrom 29 = .ok (.return_, 1) := by decide +kernel
theorem dX3_spell_0 : decode cX3_spell 0 = .ok (.aload_n 0, 1) := by decide +kernel
theorem dX3_spell_1 : decode cX3_spell 1 = .ok (.iconst 0, 1) := by decide +kernel
theorem dX3_spell_2 : decode cX3_spell 2 = .ok (.iload_n 2, 1) := by decide +kernel
theorem dX3_spell_3 : decode cX3_spell 3 = .ok (.aload_n 0, 1) := by decide +kernel
theorem dX3_spell_4 : decode cX3_spell 4 = .ok (.getfield 9, 3) := by decide +kernel
theorem dX3_spell_7 : decode cX3_spell 7 = .ok (.arraylength, 1) := by decide +kernel
theorem dX3_spell_8 : decode cX3_spell 8 = .ok (.invokestatic 30, 3) := by decide +kernel
theorem dX3_spell_11 : decode cX3_spell 11 = .ok (.invokestatic 36, 3) := by decide +kernel
theorem dX3_spell_14 : decode cX3_spell 14 = .ok (.putfield 15, 3) := by decide +kernel
theorem dX3_spell_17 : decode cX3_spell 17 = .ok (.iload_n 1, 1) := by decide +kernel
theorem dX3_spell_18 : decode cX3_spell 18 = .ok (.istore_n 3, 1) := by decide +kernel
theorem dX3_spell_19 : decode cX3_spell 19 = .ok (.aload_n 0, 1) := by decide +kernel
theorem dX3_spell_20 : decode cX3_spell 20 = .ok (.getfield 15, 3) := by decide +kernel
theorem dX3_spell_23 : decode cX3_spell 23 = .ok (.iconst 1, 1) := by decide +kernel
theorem dX3_spell_24 : decode cX3_spell 24 = .ok (.isub, 1) := by decide +kernel
theorem dX3_spell_25 : decode cX3_spell 25 = .ok (.istore 4, 2) := by decide +kernel
theorem dX3_spell_27 : decode cX3_spell 27 = .ok (.iload 4, 2) := by decide +kernel
theorem dX3_spell_29 : decode cX3_spell 29 = .ok (.ifCond .lt 28, 3) := by decide +kernel
theorem dX3_spell_32 : decode cX3_spell 32 = .ok (.aload_n 0, 1) := by decide +kernel
theorem dX3_spell_33 : decode cX3_spell 33 = .ok (.getfield 9, 3) := by decide +kernel
theorem dX3_spell_36 : decode cX3_spell 36 = .ok (.iload 4, 2) := by decide +kernel
theorem dX3_spell_38 : decode cX3_spell 38 = .ok (.bipush 97, 2) := by decide +kernel
theorem dX3_spell_40 : decode cX3_spell 40 = .ok (.iload_n 3, 1) := by decide +kernel
theorem dX3_spell_41 : decode cX3_spell 41 = .ok (.bipush 26, 2) := by decide +kernel
theorem dX3_spell_43 : decode cX3_spell 43 = .ok (.irem, 1) := by decide +kernel
theorem dX3_spell_44 : decode cX3_spell 44 = .ok (.iadd, 1) := by decide +kernel
theorem dX3_spell_45 : decode cX3_spell 45 = .ok (.iastore, 1) := by decide +kernel
theorem dX3_spell_46 : decode cX3_spell 46 = .ok (.iload_n 3, 1) := by decide +kernel
theorem dX3_spell_47 : decode cX3_spell 47 = .ok (.bipush 26, 2) := by decide +kernel
theorem dX3_spell_49 : decode cX3_spell 49 = .ok (.idiv, 1) := by decide +kernel
theorem dX3_spell_50 : decode cX3_spell 50 = .ok (.istore_n 3, 1) := by decide +kernel
theorem dX3_spell_51 : decode cX3_spell 51 = .ok (.iinc 4 (-1), 3) := by decide +kernel
theorem dX3_spell_54 : decode cX3_spell 54 = .ok (.goto (-27), 3) := by decide +kernel
theorem dX3_spell_57 : decode cX3_spell 57 = .ok (.return_, 1) := by decide +kernel
theorem dX3_cutAbove_0 : decode cX3_cutAbove 0 = .ok (.iconst 0, 1) := by decide +kernel
theorem dX3_cutAbove_1 : decode cX3_cutAbove 1 = .ok (.istore_n 2, 1) := by decide +kernel
theorem dX3_cutAbove_2 : decode cX3_cutAbove 2 = .ok (.iload_n 2, 1) := by decide +kernel
theorem dX3_cutAbove_3 : decode cX3_cutAbove 3 = .ok (.aload_n 0, 1) := by decide +kernel
theorem dX3_cutAbove_4 : decode cX3_cutAbove 4 = .ok (.getfield 15, 3) := by decide +kernel
theorem dX3_cutAbove_7 : decode cX3_cutAbove 7 = .ok (.if_icmp .ge 22, 3) := by decide +kernel
theorem dX3_cutAbove_10 : decode cX3_cutAbove 10 = .ok (.aload_n 0, 1) := by decide +kernel
theorem dX3_cutAbove_11 : decode cX3_cutAbove 11 = .ok (.iload_n 2, 1) := by decide +kernel
theorem dX3_cutAbove_12 : decode cX3_cutAbove 12 = .ok (.invokevirtual 22, 3) := by decide +kernel
theorem dX3_cutAbove_15 : decode cX3_cutAbove 15 = .ok (.aload_n 1, 1) := by decide +kernel
theorem dX3_cutAbove_16 : decode cX3_cutAbove 16 = .ok (.iload_n 2, 1) := by decide +kernel
theorem dX3_cutAbove_17 : decode cX3_cutAbove 17 = .ok (.invokevirtual 22, 3) := by decide +kernel
theorem dX3_cutAbove_20 : decode cX3_cutAbove 20 = .ok (.if_icmp .ne 9, 3) := by decide +kernel
theorem dX3_cutAbove_23 : decode cX3_cutAbove 23 = .ok (.iinc 2 1, 3) := by decide +kernel
theorem dX3_cutAbove_26 : decode cX3_cutAbove 26 = .ok (.goto (-24), 3) := by decide +kernel
theorem dX3_cutAbove_29 : decode cX3_cutAbove 29 = .ok (.aload_n 0, 1) := by decide +kernel
theorem dX3_cutAbove_30 : decode cX3_cutAbove 30 = .ok (.aload_n 0, 1) := by decide +kernel
theorem dX3_cutAbove_31 : decode cX3_cutAbove 31 = .ok (.getfield 15, 3) := by decide +kernel
theorem dX3_cutAbove_34 : decode cX3_cutAbove 34 = .ok (.iload_n 2, 1) := by decide +kernel
theorem dX3_cutAbove_35 : decode cX3_cutAbove 35 = .ok (.iconst 1, 1) := by decide +kernel
theorem dX3_cutAbove_36 : decode cX3_cutAbove 36 = .ok (.iadd, 1) := by decide +kernel
theorem dX3_cutAbove_37 : decode cX3_cutAbove 37 = .ok (.invokestatic 30, 3) := by decide +kernel
theorem dX3_cutAbove_40 : decode cX3_cutAbove 40 = .ok (.putfield 15, 3) := by decide +kernel
theorem dX3_cutAbove_43 : decode cX3_cutAbove 43 = .ok (.return_, 1) := by decide +kernel
