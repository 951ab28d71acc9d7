theorem dX5_rowIsWhole_23 : decode cX5_rowIsWhole 23 = .ok (.aload_n 0, 1) := by decide +kernel
theorem dX5_rowIsWhole_24 : decode cX5_rowIsWhole 24 = .ok (.getfield 29, 3) := by decide +kernel
theorem dX5_rowIsWhole_27 : decode cX5_rowIsWhole 27 = .ok (.aload_n 0, 1) := by decide +kernel
theorem dX5_rowIsWhole_28 : decode cX5_rowIsWhole 28 = .ok (.getfield 23, 3) := by decide +kernel
theorem dX5_rowIsWhole_31 : decode cX5_rowIsWhole 31 = .ok (.if_icmp .ne 7, 3) := by decide +kernel
theorem dX5_rowIsWhole_34 : decode cX5_rowIsWhole 34 = .ok (.iconst 1, 1) := by decide +kernel
theorem dX5_rowIsWhole_35 : decode cX5_rowIsWhole 35 = .ok (.goto 4, 3) := by decide +kernel
theorem dX5_rowIsWhole_38 : decode cX5_rowIsWhole 38 = .ok (.iconst 0, 1) := by decide +kernel
theorem dX5_rowIsWhole_39 : decode cX5_rowIsWhole 39 = .ok (.ireturn, 1) := by decide +kernel
theorem dX5_isCell_0 : decode cX5_isCell 0 = .ok (.iload_n 0, 1) := by decide +kernel
theorem dX5_isCell_1 : decode cX5_isCell 1 = .ok (.bipush 46, 2) := by decide +kernel
theorem dX5_isCell_3 : decode cX5_isCell 3 = .ok (.if_icmp .eq 15, 3) := by decide +kernel
theorem dX5_isCell_6 : decode cX5_isCell 6 = .ok (.iload_n 0, 1) := by decide +kernel
theorem dX5_isCell_7 : decode cX5_isCell 7 = .ok (.bipush 48, 2) := by decide +kernel
theorem dX5_isCell_9 : decode cX5_isCell 9 = .ok (.if_icmp .lt 13, 3) := by decide +kernel
theorem dX5_isCell_12 : decode cX5_isCell 12 = .ok (.iload_n 0, 1) := by decide +kernel
theorem dX5_isCell_13 : decode cX5_isCell 13 = .ok (.bipush 51, 2) := by decide +kernel
theorem dX5_isCell_15 : decode cX5_isCell 15 = .ok (.if_icmp .gt 7, 3) := by decide +kernel
theorem dX5_isCell_18 : decode cX5_isCell 18 = .ok (.iconst 1, 1) := by decide +kernel
theorem dX5_isCell_19 : decode cX5_isCell 19 = .ok (.goto 4, 3) := by decide +kernel
theorem dX5_isCell_22 : decode cX5_isCell 22 = .ok (.iconst 0, 1) := by decide +kernel
theorem dX5_isCell_23 : decode cX5_isCell 23 = .ok (.ireturn, 1) := by decide +kernel
theorem dX6_init_0 : decode cX6_init 0 = .ok (.aload_n 0, 1) := by decide +kernel
theorem dX6_init_1 : decode cX6_init 1 = .ok (.invokespecial 1, 3) := by decide +kernel
theorem dX6_init_4 : decode cX6_init 4 = .ok (.new 7, 3) := by decide +kernel
theorem dX6_init_7 : decode cX6_init 7 = .ok (.dup, 1) := by decide +kernel
theorem dX6_init_8 : decode cX6_init 8 = .ok (.invokespecial 9, 3) := by decide +kernel
theorem dX6_init_11 : decode cX6_init 11 = .ok (.astore_n 1, 1) := by decide +kernel
theorem dX6_init_12 : decode cX6_init 12 = .ok (.aload_n 1, 1) := by decide +kernel
theorem dX6_init_13 : decode cX6_init 13 = .ok (.iconst 3, 1) := by decide +kernel
theorem dX6_init_14 : decode cX6_init 14 = .ok (.iconst 3, 1) := by decide +kernel
theorem dX6_init_15 : decode cX6_init 15 = .ok (.invokevirtual 10, 3) := by decide +kernel
theorem dX6_init_18 : decode cX6_init 18 = .ok (.new 14, 3) := by decide +kernel
theorem dX6_init_21 : decode cX6_init 21 = .ok (.dup, 1) := by decide +kernel
theorem dX6_init_22 : decode cX6_init 22 = .ok (.aload_n 1, 1) := by decide +kernel
theorem dX6_init_23 : decode cX6_init 23 = .ok (.invokespecial 16, 3) := by decide +kernel
theorem dX6_init_26 : decode cX6_init 26 = .ok (.astore_n 2, 1) := by decide +kernel
theorem dX6_init_27 : decode cX6_init 27 = .ok (.aload_n 2, 1) := by decide +kernel
theorem dX6_init_28 : decode cX6_init 28 = .ok (.lconst 0, 1) := by decide +kernel
theorem dX6_init_29 : decode cX6_init 29 = .ok (.aload_n 1, 1) := by decide +kernel
theorem dX6_init_30 : decode cX6_init 30 = .ok (.invokevirtual 19, 3) := by decide +kernel
theorem dX6_init_33 : decode cX6_init 33 = .ok (.invokevirtual 23, 3) := by decide +kernel
theorem dX6_init_36 : decode cX6_init 36 = .ok (.aload_n 0, 1) := by decide +kernel
theorem dX6_init_37 : decode cX6_init 37 = .ok (.aload_n 1, 1) := by decide +kernel
theorem dX6_init_38 : decode cX6_init 38 = .ok (.putfield 27, 3) := by decide +kernel
theorem dX6_init_41 : decode cX6_init 41 = .ok (.aload_n 0, 1) := by decide +kernel
theorem dX6_init_42 : decode cX6_init 42 = .ok (.aload_n 2, 1) := by decide +kernel
theorem dX6_init_43 : decode cX6_init 43 = .ok (.putfield 33, 3) := by decide +kernel
theorem dX6_init_46 : decode cX6_init 46 = .ok (.aload_n 0, 1) := by decide +kernel
theorem dX6_init_47 : decode cX6_init 47 = .ok (.new 37, 3) := by decide +kernel
theorem dX6_init_50 : decode cX6_init 50 = .ok (.dup, 1) := by decide +kernel
theorem dX6_init_51 : decode cX6_init 51 = .ok (.aload_n 1, 1) := by decide +kernel
theorem dX6_init_52 : decode cX6_init 52 = .ok (.invokespecial 39, 3) := by decide +kernel
theorem dX6_init_55 : decode cX6_init 55 = .ok (.putfield 40, 3) := by decide +kernel
theorem dX6_init_58 : decode cX6_init 58 = .ok (.aload_n 0, 1) := by decide +kernel
theorem dX6_init_59 : decode cX6_init 59 = .ok (.new 44, 3) := by decide +kernel
theorem dX6_init_62 : decode cX6_init 62 = .ok (.dup, 1) := by decide +kernel
theorem dX6_init_63 : decode cX6_init 63 = .ok (.aload_n 1, 1) := by decide +kernel
theorem dX6_init_64 : decode cX6_init 64 = .ok (.invokespecial 46, 3) := by decide +kernel
theorem dX6_init_67 : decode cX6_init 67 = .ok (.putfield 47, 3) := by decide +kernel
theorem dX6_init_70 : decode cX6_init 70 = .ok (.aload_n 0, 1) := by decide +kernel
theorem dX6_init_71 : decode cX6_init 71 = .ok (.new 51, 3) := by decide +kernel
theorem dX6_init_74 : decode cX6_init 74 = .ok (.dup, 1) := by decide +kernel
theorem dX6_init_75 : decode cX6_init 75 = .ok (.invokespecial 53, 3) := by decide +kernel
theorem dX6_init_78 : decode cX6_init 78 = .ok (.putfield 54, 3) := by decide +kernel
theorem dX6_init_81 : decode cX6_init 81 = .ok (.aload_n 0, 1) := by decide +kernel
theorem dX6_init_82 : decode cX6_init 82 = .ok (.new 58, 3) := by decide +kernel
theorem dX6_init_85 : decode cX6_init 85 = .ok (.dup, 1) := by decide +kernel
theorem dX6_init_86 : decode cX6_init 86 = .ok (.invokespecial 60, 3) := by decide +kernel
theorem dX6_init_89 : decode cX6_init 89 = .ok (.putfield 61, 3) := by decide +kernel
theorem dX6_init_92 : decode cX6_init 92 = .ok (.aload_n 0, 1) := by decide +kernel
theorem dX6_init_93 : decode cX6_init 93 = .ok (.bipush 8, 2) := by decide +kernel
theorem dX6_init_95 : decode cX6_init 95 = .ok (.newarray .int, 2) := by decide +kernel
theorem dX6_init_97 : decode cX6_init 97 = .ok (.putfield 65, 3) := by decide +kernel
theorem dX6_init_100 : decode cX6_init 100 = .ok (.return_, 1) := by decide +kernel
theorem dX6_type_0 : decode cX6_type 0 = .ok (.iload_n 1, 1) := by decide +kernel
theorem dX6_type_1 : decode cX6_type 1 = .ok (.ifCond .lt 9, 3) := by decide +kernel
theorem dX6_type_4 : decode cX6_type 4 = .ok (.iload_n 1, 1) := by decide +kernel
theorem dX6_type_5 : decode cX6_type 5 = .ok (.bipush 127, 2) := by decide +kernel
theorem dX6_type_7 : decode cX6_type 7 = .ok (.if_icmp .le 6, 3) := by decide +kernel
theorem dX6_type_10 : decode cX6_type 10 = .ok (.bipush (-2), 2) := by decide +kernel
theorem dX6_type_12 : decode cX6_type 12 = .ok (.ireturn, 1) := by decide +kernel
theorem dX6_type_13 : decode cX6_type 13 = .ok (.aload_n 0, 1) := by decide +kernel
theorem dX6_type_14 : decode cX6_type 14 = .ok (.getfield 61, 3) := by decide +kernel
theorem dX6_type_17 : decode cX6_type 17 = .ok (.iload_n 1, 1) := by decide +kernel
theorem dX6_type_18 : decode cX6_type 18 = .ok (.invokevirtual 69, 3) := by decide +kernel
theorem dX6_type_21 : decode cX6_type 21 = .ok (.ireturn, 1) := by decide +kernel
theorem dX6_clearText_0 : decode cX6_clearText 0 = .ok (.aload_n 0, 1) := by decide +kernel
theorem dX6_clearText_1 : decode cX6_clearText 1 = .ok (.getfield 61, 3) := by decide +kernel
theorem dX6_clearText_4 : decode cX6_clearText 4 = .ok (.getfield 73, 3) := by decide +kernel
theorem dX6_clearText_7 : decode cX6_clearText 7 = .ok (.istore_n 1, 1) := by decide +kernel
theorem dX6_clearText_8 : decode cX6_clearText 8 = .ok (.aload_n 0, 1) := by decide +kernel
theorem dX6_clearText_9 : decode cX6_clearText 9 = .ok (.getfield 61, 3) := by decide +kernel
theorem dX6_clearText_12 : decode cX6_clearText 12 = .ok (.iconst 0, 1) := by decide +kernel
theorem dX6_clearText_13 : decode cX6_clearText 13 = .ok (.putfield 73, 3) := by decide +kernel
theorem dX6_clearText_16 : decode cX6_clearText 16 = .ok (.iload_n 1, 1) := by decide +kernel
theorem dX6_clearText_17 : decode cX6_clearText 17 = .ok (.ireturn, 1) := by decide +kernel
theorem dX6_fault_0 : decode cX6_fault 0 = .ok (.aload_n 0, 1) := by decide +kernel
theorem dX6_fault_1 : decode cX6_fault 1 = .ok (.getfield 61, 3) := by decide +kernel
theorem dX6_fault_4 : decode cX6_fault 4 = .ok (.invokevirtual 77, 3) := by decide +kernel
theorem dX6_fault_7 : decode cX6_fault 7 = .ok (.ireturn, 1) := by decide +kernel
theorem dX6_setPuzzle_0 : decode cX6_setPuzzle 0 = .ok (.aload_n 0, 1) := by decide +kernel
theorem dX6_setPuzzle_1 : decode cX6_setPuzzle 1 = .ok (.getfield 61, 3) := by decide +kernel
theorem dX6_setPuzzle_4 : decode cX6_setPuzzle 4 = .ok (.invokevirtual 77, 3) := by decide +kernel
theorem dX6_setPuzzle_7 : decode cX6_setPuzzle 7 = .ok (.iconst (-1), 1) := by decide +kernel
theorem dX6_setPuzzle_8 : decode cX6_setPuzzle 8 = .ok (.if_icmp .eq 6, 3) := by decide +kernel
theorem dX6_setPuzzle_11 : decode cX6_setPuzzle 11 = .ok (.bipush (-3), 2) := by decide +kernel
theorem dX6_setPuzzle_13 : decode cX6_setPuzzle 13 = .ok (.ireturn, 1) := by decide +kernel
theorem dX6_setPuzzle_14 : decode cX6_setPuzzle 14 = .ok (.aload_n 0, 1) := by decide +kernel
theorem dX6_setPuzzle_15 : decode cX6_setPuzzle 15 = .ok (.getfield 54, 3) := by decide +kernel
theorem dX6_setPuzzle_18 : decode cX6_setPuzzle 18 = .ok (.aload_n 0, 1) := by decide +kernel
theorem dX6_setPuzzle_19 : decode cX6_setPuzzle 19 = .ok (.getfield 27, 3) := by decide +kernel
theorem dX6_setPuzzle_22 : decode cX6_setPuzzle 22 = .ok (.aload_n 0, 1) := by decide +kernel
theorem dX6_setPuzzle_23 : decode cX6_setPuzzle 23 = .ok (.getfield 33, 3) := by decide +kernel
theorem dX6_setPuzzle_26 : decode cX6_setPuzzle 26 = .ok (.aload_n 0, 1) := by decide +kernel
theorem dX6_setPuzzle_27 : decode cX6_setPuzzle 27 = .ok (.getfield 65, 3) := by decide +kernel
theorem dX6_setPuzzle_30 : decode cX6_setPuzzle 30 = .ok (.invokevirtual 81, 3) := by decide +kernel
theorem dX6_setPuzzle_33 : decode cX6_setPuzzle 33 = .ok (.aload_n 0, 1) := by decide +kernel
theorem dX6_setPuzzle_34 : decode cX6_setPuzzle 34 = .ok (.getfield 27, 3) := by decide +kernel
theorem dX6_setPuzzle_37 : decode cX6_setPuzzle 37 = .ok (.aload_n 0, 1) := by decide +kernel
theorem dX6_setPuzzle_38 : decode cX6_setPuzzle 38 = .ok (.getfield 61, 3) := by decide +kernel
theorem dX6_setPuzzle_41 : decode cX6_setPuzzle 41 = .ok (.getfield 85, 3) := by decide +kernel
theorem dX6_setPuzzle_44 : decode cX6_setPuzzle 44 = .ok (.aload_n 0, 1) := by decide +kernel
theorem dX6_setPuzzle_45 : decode cX6_setPuzzle 45 = .ok (.getfield 61, 3) := by decide +kernel
theorem dX6_setPuzzle_48 : decode cX6_setPuzzle 48 = .ok (.getfield 88, 3) := by decide +kernel
theorem dX6_setPuzzle_51 : decode cX6_setPuzzle 51 = .ok (.invokevirtual 10, 3) := by decide +kernel
theorem dX6_setPuzzle_54 : decode cX6_setPuzzle 54 = .ok (.iconst 0, 1) := by decide +kernel
theorem dX6_setPuzzle_55 : decode cX6_setPuzzle 55 = .ok (.istore_n 1, 1) := by decide +kernel
theorem dX6_setPuzzle_56 : decode cX6_setPuzzle 56 = .ok (.iload_n 1, 1) := by decide +kernel
theorem dX6_setPuzzle_57 : decode cX6_setPuzzle 57 = .ok (.aload_n 0, 1) := by decide +kernel
theorem dX6_setPuzzle_58 : decode cX6_setPuzzle 58 = .ok (.getfield 27, 3) := by decide +kernel
theorem dX6_setPuzzle_61 : decode cX6_setPuzzle 61 = .ok (.getfield 91, 3) := by decide +kernel
theorem dX6_setPuzzle_64 : decode cX6_setPuzzle 64 = .ok (.if_icmp .ge 27, 3) := by decide +kernel
theorem dX6_setPuzzle_67 : decode cX6_setPuzzle 67 = .ok (.aload_n 0, 1) := by decide +kernel
theorem dX6_setPuzzle_68 : decode cX6_setPuzzle 68 = .ok (.getfield 27, 3) := by decide +kernel
theorem dX6_setPuzzle_71 : decode cX6_setPuzzle 71 = .ok (.getfield 94, 3) := by decide +kernel
theorem dX6_setPuzzle_74 : decode cX6_setPuzzle 74 = .ok (.iload_n 1, 1) := by decide +kernel
theorem dX6_setPuzzle_75 : decode cX6_setPuzzle 75 = .ok (.aload_n 0, 1) := by decide +kernel
theorem dX6_setPuzzle_76 : decode cX6_setPuzzle 76 = .ok (.getfield 61, 3) := by decide +kernel
theorem dX6_setPuzzle_79 : decode cX6_setPuzzle 79 = .ok (.getfield 97, 3) := by decide +kernel
theorem dX6_setPuzzle_82 : decode cX6_setPuzzle 82 = .ok (.iload_n 1, 1) := by decide +kernel
theorem dX6_setPuzzle_83 : decode cX6_setPuzzle 83 = .ok (.iaload, 1) := by decide +kernel
theorem dX6_setPuzzle_84 : decode cX6_setPuzzle 84 = .ok (.iastore, 1) := by decide +kernel
theorem dX6_setPuzzle_85 : decode cX6_setPuzzle 85 = .ok (.iinc 1 1, 3) := by decide +kernel
theorem dX6_setPuzzle_88 : decode cX6_setPuzzle 88 = .ok (.goto (-32), 3) := by decide +kernel
theorem dX6_setPuzzle_91 : decode cX6_setPuzzle 91 = .ok (.aload_n 0, 1) := by decide +kernel
theorem dX6_setPuzzle_92 : decode cX6_setPuzzle 92 = .ok (.invokevirtual 98, 3) := by decide +kernel
theorem dX6_setPuzzle_95 : decode cX6_setPuzzle 95 = .ok (.aload_n 0, 1) := by decide +kernel
theorem dX6_setPuzzle_96 : decode cX6_setPuzzle 96 = .ok (.getfield 33, 3) := by decide +kernel
theorem dX6_setPuzzle_99 : decode cX6_setPuzzle 99 = .ok (.lconst 0, 1) := by decide +kernel
theorem dX6_setPuzzle_100 : decode cX6_setPuzzle 100 = .ok (.aload_n 0, 1) := by decide +kernel
theorem dX6_setPuzzle_101 : decode cX6_setPuzzle 101 = .ok (.getfield 27, 3) := by decide +kernel
theorem dX6_setPuzzle_104 : decode cX6_setPuzzle 104 = .ok (.invokevirtual 19, 3) := by decide +kernel
theorem dX6_setPuzzle_107 : decode cX6_setPuzzle 107 = .ok (.invokevirtual 23, 3) := by decide +kernel
theorem dX6_setPuzzle_110 : decode cX6_setPuzzle 110 = .ok (.aload_n 0, 1) := by decide +kernel
theorem dX6_setPuzzle_111 : decode cX6_setPuzzle 111 = .ok (.getfield 27, 3) := by decide +kernel
theorem dX6_setPuzzle_114 : decode cX6_setPuzzle 114 = .ok (.getfield 101, 3) := by decide +kernel
theorem dX6_setPuzzle_117 : decode cX6_setPuzzle 117 = .ok (.ireturn, 1) := by decide +kernel
theorem dX6_setCount_0 : decode cX6_setCount 0 = .ok (.aload_n 0, 1) := by decide +kernel
theorem dX6_setCount_1 : decode cX6_setCount 1 = .ok (.getfield 27, 3) := by decide +kernel
theorem dX6_setCount_4 : decode cX6_setCount 4 = .ok (.iload_n 1, 1) := by decide +kernel
theorem dX6_setCount_5 : decode cX6_setCount 5 = .ok (.invokevirtual 104, 3) := by decide +kernel
theorem dX6_setCount_8 : decode cX6_setCount 8 = .ok (.ifCond .eq 13, 3) := by decide +kernel
theorem dX6_setCount_11 : decode cX6_setCount 11 = .ok (.iload_n 2, 1) := by decide +kernel
theorem dX6_setCount_12 : decode cX6_setCount 12 = .ok (.iconst (-1), 1) := by decide +kernel
theorem dX6_setCount_13 : decode cX6_setCount 13 = .ok (.if_icmp .lt 8, 3) := by decide +kernel
theorem dX6_setCount_16 : decode cX6_setCount 16 = .ok (.iload_n 2, 1) := by decide +kernel
theorem dX6_setCount_17 : decode cX6_setCount 17 = .ok (.iconst 3, 1) := by decide +kernel
theorem dX6_setCount_18 : decode cX6_setCount 18 = .ok (.if_icmp .le 6, 3) := by decide +kernel
theorem dX6_setCount_21 : decode cX6_setCount 21 = .ok (.bipush (-2), 2) := by decide +kernel
theorem dX6_setCount_23 : decode cX6_setCount 23 = .ok (.ireturn, 1) := by decide +kernel
theorem dX6_setCount_24 : decode cX6_setCount 24 = .ok (.aload_n 0, 1) := by decide +kernel
theorem dX6_setCount_25 : decode cX6_setCount 25 = .ok (.getfield 54, 3) := by decide +kernel
theorem dX6_setCount_28 : decode cX6_setCount 28 = .ok (.aload_n 0, 1) := by decide +kernel
theorem dX6_setCount_29 : decode cX6_setCount 29 = .ok (.getfield 27, 3) := by decide +kernel
theorem dX6_setCount_32 : decode cX6_setCount 32 = .ok (.aload_n 0, 1) := by decide +kernel
theorem dX6_setCount_33 : decode cX6_setCount 33 = .ok (.getfield 33, 3) := by decide +kernel
theorem dX6_setCount_36 : decode cX6_setCount 36 = .ok (.aload_n 0, 1) := by decide +kernel
theorem dX6_setCount_37 : decode cX6_setCount 37 = .ok (.getfield 65, 3) := by decide +kernel
theorem dX6_setCount_40 : decode cX6_setCount 40 = .ok (.invokevirtual 81, 3) := by decide +kernel
theorem dX6_setCount_43 : decode cX6_setCount 43 = .ok (.aload_n 0, 1) := by decide +kernel
theorem dX6_setCount_44 : decode cX6_setCount 44 = .ok (.getfield 27, 3) := by decide +kernel
theorem dX6_setCount_47 : decode cX6_setCount 47 = .ok (.getfield 94, 3) := by decide +kernel
theorem dX6_setCount_50 : decode cX6_setCount 50 = .ok (.iload_n 1, 1) := by decide +kernel
theorem dX6_setCount_51 : decode cX6_setCount 51 = .ok (.iaload, 1) := by decide +kernel
theorem dX6_setCount_52 : decode cX6_setCount 52 = .ok (.istore_n 3, 1) := by decide +kernel
theorem dX6_setCount_53 : decode cX6_setCount 53 = .ok (.aload_n 0, 1) := by decide +kernel
theorem dX6_setCount_54 : decode cX6_setCount 54 = .ok (.getfield 27, 3) := by decide +kernel
theorem dX6_setCount_57 : decode cX6_setCount 57 = .ok (.getfield 94, 3) := by decide +kernel
theorem dX6_setCount_60 : decode cX6_setCount 60 = .ok (.iload_n 1, 1) := by decide +kernel
theorem dX6_setCount_61 : decode cX6_setCount 61 = .ok (.iload_n 2, 1) := by decide +kernel
theorem dX6_setCount_62 : decode cX6_setCount 62 = .ok (.iastore, 1) := by decide +kernel
theorem dX6_setCount_63 : decode cX6_setCount 63 = .ok (.aload_n 0, 1) := by decide +kernel
theorem dX6_setCount_64 : decode cX6_setCount 64 = .ok (.getfield 33, 3) := by decide +kernel
theorem dX6_setCount_67 : decode cX6_setCount 67 = .ok (.aload_n 0, 1) := by decide +kernel
theorem dX6_setCount_68 : decode cX6_setCount 68 = .ok (.getfield 33, 3) := by decide +kernel
theorem dX6_setCount_71 : decode cX6_setCount 71 = .ok (.getfield 108, 3) := by decide +kernel
theorem dX6_setCount_74 : decode cX6_setCount 74 = .ok (.aload_n 0, 1) := by decide +kernel
theorem dX6_setCount_75 : decode cX6_setCount 75 = .ok (.getfield 33, 3) := by decide +kernel
theorem dX6_setCount_78 : decode cX6_setCount 78 = .ok (.getfield 112, 3) := by decide +kernel
theorem dX6_setCount_81 : decode cX6_setCount 81 = .ok (.invokevirtual 23, 3) := by decide +kernel
theorem dX6_setCount_84 : decode cX6_setCount 84 = .ok (.iload_n 3, 1) := by decide +kernel
theorem dX6_setCount_85 : decode cX6_setCount 85 = .ok (.ireturn, 1) := by decide +kernel
theorem dX6_mark_0 : decode cX6_mark 0 = .ok (.aload_n 0, 1) := by decide +kernel
theorem dX6_mark_1 : decode cX6_mark 1 = .ok (.getfield 27, 3) := by decide +kernel
theorem dX6_mark_4 : decode cX6_mark 4 = .ok (.iload_n 1, 1) := by decide +kernel
theorem dX6_mark_5 : decode cX6_mark 5 = .ok (.invokevirtual 115, 3) := by decide +kernel
theorem dX6_mark_8 : decode cX6_mark 8 = .ok (.ifCond .eq 12, 3) := by decide +kernel
theorem dX6_mark_11 : decode cX6_mark 11 = .ok (.iload_n 2, 1) := by decide +kernel
theorem dX6_mark_12 : decode cX6_mark 12 = .ok (.ifCond .lt 8, 3) := by decide +kernel
theorem dX6_mark_15 : decode cX6_mark 15 = .ok (.iload_n 2, 1) := by decide +kernel
theorem dX6_mark_16 : decode cX6_mark 16 = .ok (.iconst 2, 1) := by decide +kernel
theorem dX6_mark_17 : decode cX6_mark 17 = .ok (.if_icmp .le 6, 3) := by decide +kernel
theorem dX6_mark_20 : decode cX6_mark 20 = .ok (.bipush (-2), 2) := by decide +kernel
theorem dX6_mark_22 : decode cX6_mark 22 = .ok (.ireturn, 1) := by decide +kernel
theorem dX6_mark_23 : decode cX6_mark 23 = .ok (.aload_n 0, 1) := by decide +kernel
theorem dX6_mark_24 : decode cX6_mark 24 = .ok (.getfield 54, 3) := by decide +kernel
theorem dX6_mark_27 : decode cX6_mark 27 = .ok (.aload_n 0, 1) := by decide +kernel
theorem dX6_mark_28 : decode cX6_mark 28 = .ok (.getfield 27, 3) := by decide +kernel
theorem dX6_mark_31 : decode cX6_mark 31 = .ok (.aload_n 0, 1) := by decide +kernel
theorem dX6_mark_32 : decode cX6_mark 32 = .ok (.getfield 33, 3) := by decide +kernel
theorem dX6_mark_35 : decode cX6_mark 35 = .ok (.aload_n 0, 1) := by decide +kernel
theorem dX6_mark_36 : decode cX6_mark 36 = .ok (.getfield 65, 3) := by decide +kernel
theorem dX6_mark_39 : decode cX6_mark 39 = .ok (.invokevirtual 81, 3) := by decide +kernel
theorem dX6_mark_42 : decode cX6_mark 42 = .ok (.aload_n 0, 1) := by decide +kernel
theorem dX6_mark_43 : decode cX6_mark 43 = .ok (.getfield 33, 3) := by decide +kernel
theorem dX6_mark_46 : decode cX6_mark 46 = .ok (.iload_n 1, 1) := by decide +kernel
theorem dX6_mark_47 : decode cX6_mark 47 = .ok (.invokevirtual 118, 3) := by decide +kernel
theorem dX6_mark_50 : decode cX6_mark 50 = .ok (.istore_n 3, 1) := by decide +kernel
theorem dX6_mark_51 : decode cX6_mark 51 = .ok (.lconst 1, 1) := by decide +kernel
theorem dX6_mark_52 : decode cX6_mark 52 = .ok (.iload_n 1, 1) := by decide +kernel
theorem dX6_mark_53 : decode cX6_mark 53 = .ok (.lshl, 1) := by decide +kernel
theorem dX6_mark_54 : decode cX6_mark 54 = .ok (.lstore 4, 2) := by decide +kernel
theorem dX6_mark_56 : decode cX6_mark 56 = .ok (.iload_n 2, 1) := by decide +kernel
theorem dX6_mark_57 : decode cX6_mark 57 = .ok (.iconst 1, 1) := by decide +kernel
theorem dX6_mark_58 : decode cX6_mark 58 = .ok (.if_icmp .ne 16, 3) := by decide +kernel
theorem dX6_mark_61 : decode cX6_mark 61 = .ok (.aload_n 0, 1) := by decide +kernel
theorem dX6_mark_62 : decode cX6_mark 62 = .ok (.getfield 33, 3) := by decide +kernel
theorem dX6_mark_65 : decode cX6_mark 65 = .ok (.getfield 108, 3) := by decide +kernel
theorem dX6_mark_68 : decode cX6_mark 68 = .ok (.lload 4, 2) := by decide +kernel
theorem dX6_mark_70 : decode cX6_mark 70 = .ok (.lor, 1) := by decide +kernel
theorem dX6_mark_71 : decode cX6_mark 71 = .ok (.goto 17, 3) := by decide +kernel
theorem dX6_mark_74 : decode cX6_mark 74 = .ok (.aload_n 0, 1) := by decide +kernel
theorem dX6_mark_75 : decode cX6_mark 75 = .ok (.getfield 33, 3) := by decide +kernel
theorem dX6_mark_78 : decode cX6_mark 78 = .ok (.getfield 108, 3) := by decide +kernel
theorem dX6_mark_81 : decode cX6_mark 81 = .ok (.lload 4, 2) := by decide +kernel
theorem dX6_mark_83 : decode cX6_mark 83 = .ok (.ldc2_w 121, 3) := by decide +kernel
theorem dX6_mark_86 : decode cX6_mark 86 = .ok (.lxor, 1) := by decide +kernel
theorem dX6_mark_87 : decode cX6_mark 87 = .ok (.land, 1) := by decide +kernel
theorem dX6_mark_88 : decode cX6_mark 88 = .ok (.lstore 6, 2) := by decide +kernel
theorem dX6_mark_90 : decode cX6_mark 90 = .ok (.iload_n 2, 1) := by decide +kernel
theorem dX6_mark_91 : decode cX6_mark 91 = .ok (.ifCond .ne 16, 3) := by decide +kernel
theorem dX6_mark_94 : decode cX6_mark 94 = .ok (.aload_n 0, 1) := by decide +kernel
theorem dX6_mark_95 : decode cX6_mark 95 = .ok (.getfield 33, 3) := by decide +kernel
theorem dX6_mark_98 : decode cX6_mark 98 = .ok (.getfield 112, 3) := by decide +kernel
theorem dX6_mark_101 : decode cX6_mark 101 = .ok (.lload 4, 2) := by decide +kernel
theorem dX6_mark_103 : decode cX6_mark 103 = .ok (.lor, 1) := by decide +kernel
theorem dX6_mark_104 : decode cX6_mark 104 = .ok (.goto 17, 3) := by decide +kernel
theorem dX6_mark_107 : decode cX6_mark 107 = .ok (.aload_n 0, 1) := by decide +kernel
theorem dX6_mark_108 : decode cX6_mark 108 = .ok (.getfield 33, 3) := by decide +kernel
theorem dX6_mark_111 : decode cX6_mark 111 = .ok (.getfield 112, 3) := by decide +kernel
theorem dX6_mark_114 : decode cX6_mark 114 = .ok (.lload 4, 2) := by decide +kernel
theorem dX6_mark_116 : decode cX6_mark 116 = .ok (.ldc2_w 121, 3) := by decide +kernel
theorem dX6_mark_119 : decode cX6_mark 119 = .ok (.lxor, 1) := by decide +kernel
theorem dX6_mark_120 : decode cX6_mark 120 = .ok (.land, 1) := by decide +kernel
theorem dX6_mark_121 : decode cX6_mark 121 = .ok (.lstore 8, 2) := by decide +kernel
theorem dX6_mark_123 : decode cX6_mark 123 = .ok (.aload_n 0, 1) := by decide +kernel
theorem dX6_mark_124 : decode cX6_mark 124 = .ok (.getfield 33, 3) := by decide +kernel
theorem dX6_mark_127 : decode cX6_mark 127 = .ok (.lload 6, 2) := by decide +kernel
theorem dX6_mark_129 : decode cX6_mark 129 = .ok (.lload 8, 2) := by decide +kernel
theorem dX6_mark_131 : decode cX6_mark 131 = .ok (.invokevirtual 23, 3) := by decide +kernel
theorem dX6_mark_134 : decode cX6_mark 134 = .ok (.iload_n 3, 1) := by decide +kernel
theorem dX6_mark_135 : decode cX6_mark 135 = .ok (.ireturn, 1) := by decide +kernel
theorem dX6_wipe_0 : decode cX6_wipe 0 = .ok (.aload_n 0, 1) := by decide +kernel
theorem dX6_wipe_1 : decode cX6_wipe 1 = .ok (.getfield 54, 3) := by decide +kernel
theorem dX6_wipe_4 : decode cX6_wipe 4 = .ok (.aload_n 0, 1) := by decide +kernel
theorem dX6_wipe_5 : decode cX6_wipe 5 = .ok (.getfield 27, 3) := by decide +kernel
theorem dX6_wipe_8 : decode cX6_wipe 8 = .ok (.aload_n 0, 1) := by decide +kernel
theorem dX6_wipe_9 : decode cX6_wipe 9 = .ok (.getfield 33, 3) := by decide +kernel
theorem dX6_wipe_12 : decode cX6_wipe 12 = .ok (.aload_n 0, 1) := by decide +kernel
theorem dX6_wipe_13 : decode cX6_wipe 13 = .ok (.getfield 65, 3) := by decide +kernel
theorem dX6_wipe_16 : decode cX6_wipe 16 = .ok (.invokevirtual 81, 3) := by decide +kernel
theorem dX6_wipe_19 : decode cX6_wipe 19 = .ok (.aload_n 0, 1) := by decide +kernel
theorem dX6_wipe_20 : decode cX6_wipe 20 = .ok (.getfield 27, 3) := by decide +kernel
theorem dX6_wipe_23 : decode cX6_wipe 23 = .ok (.getfield 101, 3) := by decide +kernel
theorem dX6_wipe_26 : decode cX6_wipe 26 = .ok (.aload_n 0, 1) := by decide +kernel
theorem dX6_wipe_27 : decode cX6_wipe 27 = .ok (.getfield 33, 3) := by decide +kernel
theorem dX6_wipe_30 : decode cX6_wipe 30 = .ok (.getfield 112, 3) := by decide +kernel
theorem dX6_wipe_33 : decode cX6_wipe 33 = .ok (.invokestatic 123, 3) := by decide +kernel
theorem dX6_wipe_36 : decode cX6_wipe 36 = .ok (.isub, 1) := by decide +kernel
theorem dX6_wipe_37 : decode cX6_wipe 37 = .ok (.istore_n 1, 1) := by decide +kernel
theorem dX6_wipe_38 : decode cX6_wipe 38 = .ok (.aload_n 0, 1) := by decide +kernel
theorem dX6_wipe_39 : decode cX6_wipe 39 = .ok (.invokevirtual 98, 3) := by decide +kernel
theorem dX6_wipe_42 : decode cX6_wipe 42 = .ok (.aload_n 0, 1) := by decide +kernel
theorem dX6_wipe_43 : decode cX6_wipe 43 = .ok (.getfield 33, 3) := by decide +kernel
theorem dX6_wipe_46 : decode cX6_wipe 46 = .ok (.lconst 0, 1) := by decide +kernel
theorem dX6_wipe_47 : decode cX6_wipe 47 = .ok (.aload_n 0, 1) := by decide +kernel
theorem dX6_wipe_48 : decode cX6_wipe 48 = .ok (.getfield 27, 3) := by decide +kernel
theorem dX6_wipe_51 : decode cX6_wipe 51 = .ok (.invokevirtual 19, 3) := by decide +kernel
theorem dX6_wipe_54 : decode cX6_wipe 54 = .ok (.invokevirtual 23, 3) := by decide +kernel
theorem dX6_wipe_57 : decode cX6_wipe 57 = .ok (.iload_n 1, 1) := by decide +kernel
theorem dX6_wipe_58 : decode cX6_wipe 58 = .ok (.ireturn, 1) := by decide +kernel
theorem dX6_deduce_0 : decode cX6_deduce 0 = .ok (.aload_n 0, 1) := by decide +kernel
theorem dX6_deduce_1 : decode cX6_deduce 1 = .ok (.getfield 33, 3) := by decide +kernel
theorem dX6_deduce_4 : decode cX6_deduce 4 = .ok (.invokevirtual 129, 3) := by decide +kernel
theorem dX6_deduce_7 : decode cX6_deduce 7 = .ok (.ifCond .ne 6, 3) := by decide +kernel
theorem dX6_deduce_10 : decode cX6_deduce 10 = .ok (.bipush (-3), 2) := by decide +kernel
theorem dX6_deduce_12 : decode cX6_deduce 12 = .ok (.ireturn, 1) := by decide +kernel
theorem dX6_deduce_13 : decode cX6_deduce 13 = .ok (.aload_n 0, 1) := by decide +kernel
theorem dX6_deduce_14 : decode cX6_deduce 14 = .ok (.getfield 54, 3) := by decide +kernel
theorem dX6_deduce_17 : decode cX6_deduce 17 = .ok (.aload_n 0, 1) := by decide +kernel
theorem dX6_deduce_18 : decode cX6_deduce 18 = .ok (.getfield 27, 3) := by decide +kernel
theorem dX6_deduce_21 : decode cX6_deduce 21 = .ok (.aload_n 0, 1) := by decide +kernel
theorem dX6_deduce_22 : decode cX6_deduce 22 = .ok (.getfield 33, 3) := by decide +kernel
theorem dX6_deduce_25 : decode cX6_deduce 25 = .ok (.aload_n 0, 1) := by decide +kernel
theorem dX6_deduce_26 : decode cX6_deduce 26 = .ok (.getfield 65, 3) := by decide +kernel
theorem dX6_deduce_29 : decode cX6_deduce 29 = .ok (.invokevirtual 81, 3) := by decide +kernel
theorem dX6_deduce_32 : decode cX6_deduce 32 = .ok (.aload_n 0, 1) := by decide +kernel
theorem dX6_deduce_33 : decode cX6_deduce 33 = .ok (.getfield 40, 3) := by decide +kernel
theorem dX6_deduce_36 : decode cX6_deduce 36 = .ok (.aload_n 0, 1) := by decide +kernel
theorem dX6_deduce_37 : decode cX6_deduce 37 = .ok (.getfield 33, 3) := by decide +kernel
theorem dX6_deduce_40 : decode cX6_deduce 40 = .ok (.bipush 7, 2) := by decide +kernel
theorem dX6_deduce_42 : decode cX6_deduce 42 = .ok (.invokevirtual 133, 3) := by decide +kernel
theorem dX6_deduce_45 : decode cX6_deduce 45 = .ok (.ifCond .ne 5, 3) := by decide +kernel
theorem dX6_deduce_48 : decode cX6_deduce 48 = .ok (.iconst (-1), 1) := by decide +kernel
theorem dX6_deduce_49 : decode cX6_deduce 49 = .ok (.ireturn, 1) := by decide +kernel
theorem dX6_deduce_50 : decode cX6_deduce 50 = .ok (.aload_n 0, 1) := by decide +kernel
theorem dX6_deduce_51 : decode cX6_deduce 51 = .ok (.invokevirtual 137, 3) := by decide +kernel
theorem dX6_deduce_54 : decode cX6_deduce 54 = .ok (.aload_n 0, 1) := by decide +kernel
theorem dX6_deduce_55 : decode cX6_deduce 55 = .ok (.getfield 33, 3) := by decide +kernel
theorem dX6_deduce_58 : decode cX6_deduce 58 = .ok (.getfield 140, 3) := by decide +kernel
theorem dX6_deduce_61 : decode cX6_deduce 61 = .ok (.ireturn, 1) := by decide +kernel
theorem dX6_deduceAll_0 : decode cX6_deduceAll 0 = .ok (.iload_n 1, 1) := by decide +kernel
theorem dX6_deduceAll_1 : decode cX6_deduceAll 1 = .ok (.ifCond .lt 9, 3) := by decide +kernel
theorem dX6_deduceAll_4 : decode cX6_deduceAll 4 = .ok (.iload_n 1, 1) := by decide +kernel
theorem dX6_deduceAll_5 : decode cX6_deduceAll 5 = .ok (.bipush 7, 2) := by decide +kernel
theorem dX6_deduceAll_7 : decode cX6_deduceAll 7 = .ok (.if_icmp .le 6, 3) := by decide +kernel
theorem dX6_deduceAll_10 : decode cX6_deduceAll 10 = .ok (.bipush (-2), 2) := by decide +kernel
theorem dX6_deduceAll_12 : decode cX6_deduceAll 12 = .ok (.ireturn, 1) := by decide +kernel
theorem dX6_deduceAll_13 : decode cX6_deduceAll 13 = .ok (.aload_n 0, 1) := by decide +kernel
theorem dX6_deduceAll_14 : decode cX6_deduceAll 14 = .ok (.getfield 33, 3) := by decide +kernel
theorem dX6_deduceAll_17 : decode cX6_deduceAll 17 = .ok (.invokevirtual 129, 3) := by decide +kernel
theorem dX6_deduceAll_20 : decode cX6_deduceAll 20 = .ok (.ifCond .ne 6, 3) := by decide +kernel
theorem dX6_deduceAll_23 : decode cX6_deduceAll 23 = .ok (.bipush (-3), 2) := by decide +kernel
theorem dX6_deduceAll_25 : decode cX6_deduceAll 25 = .ok (.ireturn, 1) := by decide +kernel
theorem dX6_deduceAll_26 : decode cX6_deduceAll 26 = .ok (.aload_n 0, 1) := by decide +kernel
theorem dX6_deduceAll_27 : decode cX6_deduceAll 27 = .ok (.getfield 54, 3) := by decide +kernel
theorem dX6_deduceAll_30 : decode cX6_deduceAll 30 = .ok (.aload_n 0, 1) := by decide +kernel
theorem dX6_deduceAll_31 : decode cX6_deduceAll 31 = .ok (.getfield 27, 3) := by decide +kernel
theorem dX6_deduceAll_34 : decode cX6_deduceAll 34 = .ok (.aload_n 0, 1) := by decide +kernel
theorem dX6_deduceAll_35 : decode cX6_deduceAll 35 = .ok (.getfield 33, 3) := by decide +kernel
theorem dX6_deduceAll_38 : decode cX6_deduceAll 38 = .ok (.aload_n 0, 1) := by decide +kernel
theorem dX6_deduceAll_39 : decode cX6_deduceAll 39 = .ok (.getfield 65, 3) := by decide +kernel
theorem dX6_deduceAll_42 : decode cX6_deduceAll 42 = .ok (.invokevirtual 81, 3) := by decide +kernel
theorem dX6_deduceAll_45 : decode cX6_deduceAll 45 = .ok (.iconst 0, 1) := by decide +kernel
theorem dX6_deduceAll_46 : decode cX6_deduceAll 46 = .ok (.istore_n 2, 1) := by decide +kernel
theorem dX6_deduceAll_47 : decode cX6_deduceAll 47 = .ok (.iload_n 2, 1) := by decide +kernel
theorem dX6_deduceAll_48 : decode cX6_deduceAll 48 = .ok (.bipush 40, 2) := by decide +kernel
theorem dX6_deduceAll_50 : decode cX6_deduceAll 50 = .ok (.if_icmp .ge 28, 3) := by decide +kernel
theorem dX6_deduceAll_53 : decode cX6_deduceAll 53 = .ok (.aload_n 0, 1) := by decide +kernel
theorem dX6_deduceAll_54 : decode cX6_deduceAll 54 = .ok (.getfield 40, 3) := by decide +kernel
theorem dX6_deduceAll_57 : decode cX6_deduceAll 57 = .ok (.aload_n 0, 1) := by decide +kernel
theorem dX6_deduceAll_58 : decode cX6_deduceAll 58 = .ok (.getfield 33, 3) := by decide +kernel
theorem dX6_deduceAll_61 : decode cX6_deduceAll 61 = .ok (.iload_n 1, 1) := by decide +kernel
theorem dX6_deduceAll_62 : decode cX6_deduceAll 62 = .ok (.invokevirtual 133, 3) := by decide +kernel
theorem dX6_deduceAll_65 : decode cX6_deduceAll 65 = .ok (.ifCond .eq 13, 3) := by decide +kernel
theorem dX6_deduceAll_68 : decode cX6_deduceAll 68 = .ok (.aload_n 0, 1) := by decide +kernel
theorem dX6_deduceAll_69 : decode cX6_deduceAll 69 = .ok (.invokevirtual 137, 3) := by decide +kernel
theorem dX6_deduceAll_72 : decode cX6_deduceAll 72 = .ok (.iinc 2 1, 3) := by decide +kernel
theorem dX6_deduceAll_75 : decode cX6_deduceAll 75 = .ok (.goto (-28), 3) := by decide +kernel
theorem dX6_deduceAll_78 : decode cX6_deduceAll 78 = .ok (.iload_n 2, 1) := by decide +kernel
theorem dX6_deduceAll_79 : decode cX6_deduceAll 79 = .ok (.ireturn, 1) := by decide +kernel
theorem dX6_undo_0 : decode cX6_undo 0 = .ok (.aload_n 0, 1) := by decide +kernel
theorem dX6_undo_1 : decode cX6_undo 1 = .ok (.getfield 54, 3) := by decide +kernel
theorem dX6_undo_4 : decode cX6_undo 4 = .ok (.getfield 143, 3) := by decide +kernel
theorem dX6_undo_7 : decode cX6_undo 7 = .ok (.ifCond .ne 6, 3) := by decide +kernel
theorem dX6_undo_10 : decode cX6_undo 10 = .ok (.bipush (-3), 2) := by decide +kernel
theorem dX6_undo_12 : decode cX6_undo 12 = .ok (.ireturn, 1) := by decide +kernel
theorem dX6_undo_13 : decode cX6_undo 13 = .ok (.aload_n 0, 1) := by decide +kernel
theorem dX6_undo_14 : decode cX6_undo 14 = .ok (.getfield 54, 3) := by decide +kernel
theorem dX6_undo_17 : decode cX6_undo 17 = .ok (.aload_n 0, 1) := by decide +kernel
theorem dX6_undo_18 : decode cX6_undo 18 = .ok (.getfield 27, 3) := by decide +kernel
theorem dX6_undo_21 : decode cX6_undo 21 = .ok (.aload_n 0, 1) := by decide +kernel
theorem dX6_undo_22 : decode cX6_undo 22 = .ok (.getfield 33, 3) := by decide +kernel
theorem dX6_undo_25 : decode cX6_undo 25 = .ok (.aload_n 0, 1) := by decide +kernel
theorem dX6_undo_26 : decode cX6_undo 26 = .ok (.getfield 65, 3) := by decide +kernel
theorem dX6_undo_29 : decode cX6_undo 29 = .ok (.invokevirtual 146, 3) := by decide +kernel
theorem dX6_undo_32 : decode cX6_undo 32 = .ok (.aload_n 0, 1) := by decide +kernel
theorem dX6_undo_33 : decode cX6_undo 33 = .ok (.getfield 54, 3) := by decide +kernel
theorem dX6_undo_36 : decode cX6_undo 36 = .ok (.getfield 143, 3) := by decide +kernel
theorem dX6_undo_39 : decode cX6_undo 39 = .ok (.ireturn, 1) := by decide +kernel
theorem dX6_countOf_0 : decode cX6_countOf 0 = .ok (.aload_n 0, 1) := by decide +kernel
theorem dX6_countOf_1 : decode cX6_countOf 1 = .ok (.getfield 27, 3) := by decide +kernel
theorem dX6_countOf_4 : decode cX6_countOf 4 = .ok (.iload_n 1, 1) := by decide +kernel
theorem dX6_countOf_5 : decode cX6_countOf 5 = .ok (.invokevirtual 104, 3) := by decide +kernel
theorem dX6_countOf_8 : decode cX6_countOf 8 = .ok (.ifCond .eq 15, 3) := by decide +kernel
theorem dX6_countOf_11 : decode cX6_countOf 11 = .ok (.aload_n 0, 1) := by decide +kernel
theorem dX6_countOf_12 : decode cX6_countOf 12 = .ok (.getfield 27, 3) := by decide +kernel
theorem dX6_countOf_15 : decode cX6_countOf 15 = .ok (.getfield 94, 3) := by decide +kernel
theorem dX6_countOf_18 : decode cX6_countOf 18 = .ok (.iload_n 1, 1) := by decide +kernel
theorem dX6_countOf_19 : decode cX6_countOf 19 = .ok (.iaload, 1) := by decide +kernel
theorem dX6_countOf_20 : decode cX6_countOf 20 = .ok (.goto 5, 3) := by decide +kernel
theorem dX6_countOf_23 : decode cX6_countOf 23 = .ok (.bipush (-2), 2) := by decide +kernel
theorem dX6_countOf_25 : decode cX6_countOf 25 = .ok (.ireturn, 1) := by decide +kernel
theorem dX6_edge_0 : decode cX6_edge 0 = .ok (.aload_n 0, 1) := by decide +kernel
theorem dX6_edge_1 : decode cX6_edge 1 = .ok (.getfield 27, 3) := by decide +kernel
theorem dX6_edge_4 : decode cX6_edge 4 = .ok (.iload_n 1, 1) := by decide +kernel
theorem dX6_edge_5 : decode cX6_edge 5 = .ok (.invokevirtual 115, 3) := by decide +kernel
theorem dX6_edge_8 : decode cX6_edge 8 = .ok (.ifCond .eq 14, 3) := by decide +kernel
theorem dX6_edge_11 : decode cX6_edge 11 = .ok (.aload_n 0, 1) := by decide +kernel
theorem dX6_edge_12 : decode cX6_edge 12 = .ok (.getfield 33, 3) := by decide +kernel
theorem dX6_edge_15 : decode cX6_edge 15 = .ok (.iload_n 1, 1) := by decide +kernel
theorem dX6_edge_16 : decode cX6_edge 16 = .ok (.invokevirtual 118, 3) := by decide +kernel
theorem dX6_edge_19 : decode cX6_edge 19 = .ok (.goto 5, 3) := by decide +kernel
theorem dX6_edge_22 : decode cX6_edge 22 = .ok (.bipush (-2), 2) := by decide +kernel
theorem dX6_edge_24 : decode cX6_edge 24 = .ok (.ireturn, 1) := by decide +kernel
theorem dX6_edgeAt_0 : decode cX6_edgeAt 0 = .ok (.iload_n 1, 1) := by decide +kernel
theorem dX6_edgeAt_1 : decode cX6_edgeAt 1 = .ok (.ifCond .eq 14, 3) := by decide +kernel
theorem dX6_edgeAt_4 : decode cX6_edgeAt 4 = .ok (.aload_n 0, 1) := by decide +kernel
theorem dX6_edgeAt_5 : decode cX6_edgeAt 5 = .ok (.getfield 27, 3) := by decide +kernel
theorem dX6_edgeAt_8 : decode cX6_edgeAt 8 = .ok (.iload_n 2, 1) := by decide +kernel
theorem dX6_edgeAt_9 : decode cX6_edgeAt 9 = .ok (.invokevirtual 149, 3) := by decide +kernel
theorem dX6_edgeAt_12 : decode cX6_edgeAt 12 = .ok (.goto 11, 3) := by decide +kernel
theorem dX6_edgeAt_15 : decode cX6_edgeAt 15 = .ok (.aload_n 0, 1) := by decide +kernel
theorem dX6_edgeAt_16 : decode cX6_edgeAt 16 = .ok (.getfield 27, 3) := by decide +kernel
theorem dX6_edgeAt_19 : decode cX6_edgeAt 19 = .ok (.iload_n 2, 1) := by decide +kernel
theorem dX6_edgeAt_20 : decode cX6_edgeAt 20 = .ok (.invokevirtual 104, 3) := by decide +kernel
theorem dX6_edgeAt_23 : decode cX6_edgeAt 23 = .ok (.istore 4, 2) := by decide +kernel
theorem dX6_edgeAt_25 : decode cX6_edgeAt 25 = .ok (.iload 4, 2) := by decide +kernel
theorem dX6_edgeAt_27 : decode cX6_edgeAt 27 = .ok (.ifCond .eq 7, 3) := by decide +kernel
theorem dX6_edgeAt_30 : decode cX6_edgeAt 30 = .ok (.iload_n 3, 1) := by decide +kernel
theorem dX6_edgeAt_31 : decode cX6_edgeAt 31 = .ok (.ifCond .ge 6, 3) := by decide +kernel
theorem dX6_edgeAt_34 : decode cX6_edgeAt 34 = .ok (.bipush (-2), 2) := by decide +kernel
theorem dX6_edgeAt_36 : decode cX6_edgeAt 36 = .ok (.ireturn, 1) := by decide +kernel
theorem dX6_edgeAt_37 : decode cX6_edgeAt 37 = .ok (.iload_n 1, 1) := by decide +kernel
theorem dX6_edgeAt_38 : decode cX6_edgeAt 38 = .ok (.ifCond .eq 15, 3) := by decide +kernel
theorem dX6_edgeAt_41 : decode cX6_edgeAt 41 = .ok (.aload_n 0, 1) := by decide +kernel
theorem dX6_edgeAt_42 : decode cX6_edgeAt 42 = .ok (.getfield 27, 3) := by decide +kernel
theorem dX6_edgeAt_45 : decode cX6_edgeAt 45 = .ok (.getfield 152, 3) := by decide +kernel
theorem dX6_edgeAt_48 : decode cX6_edgeAt 48 = .ok (.iload_n 2, 1) := by decide +kernel
theorem dX6_edgeAt_49 : decode cX6_edgeAt 49 = .ok (.laload, 1) := by decide +kernel
theorem dX6_edgeAt_50 : decode cX6_edgeAt 50 = .ok (.goto 12, 3) := by decide +kernel
theorem dX6_edgeAt_53 : decode cX6_edgeAt 53 = .ok (.aload_n 0, 1) := by decide +kernel
theorem dX6_edgeAt_54 : decode cX6_edgeAt 54 = .ok (.getfield 27, 3) := by decide +kernel
theorem dX6_edgeAt_57 : decode cX6_edgeAt 57 = .ok (.getfield 156, 3) := by decide +kernel
theorem dX6_edgeAt_60 : decode cX6_edgeAt 60 = .ok (.iload_n 2, 1) := by decide +kernel
theorem dX6_edgeAt_61 : decode cX6_edgeAt 61 = .ok (.laload, 1) := by decide +kernel
theorem dX6_edgeAt_62 : decode cX6_edgeAt 62 = .ok (.lstore 5, 2) := by decide +kernel
theorem dX6_edgeAt_64 : decode cX6_edgeAt 64 = .ok (.iconst 0, 1) := by decide +kernel
theorem dX6_edgeAt_65 : decode cX6_edgeAt 65 = .ok (.istore 7, 2) := by decide +kernel
theorem dX6_edgeAt_67 : decode cX6_edgeAt 67 = .ok (.iload 7, 2) := by decide +kernel
theorem dX6_edgeAt_69 : decode cX6_edgeAt 69 = .ok (.iload_n 3, 1) := by decide +kernel
theorem dX6_edgeAt_70 : decode cX6_edgeAt 70 = .ok (.if_icmp .ge 25, 3) := by decide +kernel
theorem dX6_edgeAt_73 : decode cX6_edgeAt 73 = .ok (.lload 5, 2) := by decide +kernel
theorem dX6_edgeAt_75 : decode cX6_edgeAt 75 = .ok (.lconst 0, 1) := by decide +kernel
theorem dX6_edgeAt_76 : decode cX6_edgeAt 76 = .ok (.lcmp, 1) := by decide +kernel
theorem dX6_edgeAt_77 : decode cX6_edgeAt 77 = .ok (.ifCond .eq 18, 3) := by decide +kernel
theorem dX6_edgeAt_80 : decode cX6_edgeAt 80 = .ok (.lload 5, 2) := by decide +kernel
theorem dX6_edgeAt_82 : decode cX6_edgeAt 82 = .ok (.lload 5, 2) := by decide +kernel
theorem dX6_edgeAt_84 : decode cX6_edgeAt 84 = .ok (.lconst 1, 1) := by decide +kernel
theorem dX6_edgeAt_85 : decode cX6_edgeAt 85 = .ok (.lsub, 1) := by decide +kernel
theorem dX6_edgeAt_86 : decode cX6_edgeAt 86 = .ok (.land, 1) := by decide +kernel
theorem dX6_edgeAt_87 : decode cX6_edgeAt 87 = .ok (.lstore 5, 2) := by decide +kernel
theorem dX6_edgeAt_89 : decode cX6_edgeAt 89 = .ok (.iinc 7 1, 3) := by decide +kernel
theorem dX6_edgeAt_92 : decode cX6_edgeAt 92 = .ok (.goto (-25), 3) := by decide +kernel
theorem dX6_edgeAt_95 : decode cX6_edgeAt 95 = .ok (.lload 5, 2) := by decide +kernel
theorem dX6_edgeAt_97 : decode cX6_edgeAt 97 = .ok (.invokestatic 159, 3) := by decide +kernel
theorem dX6_edgeAt_100 : decode cX6_edgeAt 100 = .ok (.ireturn, 1) := by decide +kernel
theorem dX6_misfit_0 : decode cX6_misfit 0 = .ok (.iload_n 1, 1) := by decide +kernel
theorem dX6_misfit_1 : decode cX6_misfit 1 = .ok (.tableswitch 102 0 4 #[35, 47, 59, 70, 86], 35) := by decide +kernel
theorem dX6_misfit_36 : decode cX6_misfit 36 = .ok (.aload_n 0, 1) := by decide +kernel
theorem dX6_misfit_37 : decode cX6_misfit 37 = .ok (.getfield 33, 3) := by decide +kernel
theorem dX6_misfit_40 : decode cX6_misfit 40 = .ok (.getfield 162, 3) := by decide +kernel
theorem dX6_misfit_43 : decode cX6_misfit 43 = .ok (.i2l, 1) := by decide +kernel
theorem dX6_misfit_44 : decode cX6_misfit 44 = .ok (.invokestatic 159, 3) := by decide +kernel
theorem dX6_misfit_47 : decode cX6_misfit 47 = .ok (.ireturn, 1) := by decide +kernel
theorem dX6_misfit_48 : decode cX6_misfit 48 = .ok (.aload_n 0, 1) := by decide +kernel
theorem dX6_misfit_49 : decode cX6_misfit 49 = .ok (.getfield 33, 3) := by decide +kernel
theorem dX6_misfit_52 : decode cX6_misfit 52 = .ok (.getfield 165, 3) := by decide +kernel
theorem dX6_misfit_55 : decode cX6_misfit 55 = .ok (.i2l, 1) := by decide +kernel
theorem dX6_misfit_56 : decode cX6_misfit 56 = .ok (.invokestatic 159, 3) := by decide +kernel
theorem dX6_misfit_59 : decode cX6_misfit 59 = .ok (.ireturn, 1) := by decide +kernel
theorem dX6_misfit_60 : decode cX6_misfit 60 = .ok (.aload_n 0, 1) := by decide +kernel
theorem dX6_misfit_61 : decode cX6_misfit 61 = .ok (.getfield 33, 3) := by decide +kernel
theorem dX6_misfit_64 : decode cX6_misfit 64 = .ok (.getfield 168, 3) := by decide +kernel
theorem dX6_misfit_67 : decode cX6_misfit 67 = .ok (.invokestatic 159, 3) := by decide +kernel
theorem dX6_misfit_70 : decode cX6_misfit 70 = .ok (.ireturn, 1) := by decide +kernel
theorem dX6_misfit_71 : decode cX6_misfit 71 = .ok (.aload_n 0, 1) := by decide +kernel
theorem dX6_misfit_72 : decode cX6_misfit 72 = .ok (.getfield 33, 3) := by decide +kernel
theorem dX6_misfit_75 : decode cX6_misfit 75 = .ok (.invokevirtual 129, 3) := by decide +kernel
theorem dX6_misfit_78 : decode cX6_misfit 78 = .ok (.ifCond .eq 7, 3) := by decide +kernel
theorem dX6_misfit_81 : decode cX6_misfit 81 = .ok (.iconst 1, 1) := by decide +kernel
theorem dX6_misfit_82 : decode cX6_misfit 82 = .ok (.goto 4, 3) := by decide +kernel
theorem dX6_misfit_85 : decode cX6_misfit 85 = .ok (.iconst 0, 1) := by decide +kernel
theorem dX6_misfit_86 : decode cX6_misfit 86 = .ok (.ireturn, 1) := by decide +kernel
theorem dX6_misfit_87 : decode cX6_misfit 87 = .ok (.aload_n 0, 1) := by decide +kernel
theorem dX6_misfit_88 : decode cX6_misfit 88 = .ok (.getfield 33, 3) := by decide +kernel
theorem dX6_misfit_91 : decode cX6_misfit 91 = .ok (.invokevirtual 171, 3) := by decide +kernel
theorem dX6_misfit_94 : decode cX6_misfit 94 = .ok (.ifCond .eq 7, 3) := by decide +kernel
theorem dX6_misfit_97 : decode cX6_misfit 97 = .ok (.iconst 1, 1) := by decide +kernel
theorem dX6_misfit_98 : decode cX6_misfit 98 = .ok (.goto 4, 3) := by decide +kernel
theorem dX6_misfit_101 : decode cX6_misfit 101 = .ok (.iconst 0, 1) := by decide +kernel
theorem dX6_misfit_102 : decode cX6_misfit 102 = .ok (.ireturn, 1) := by decide +kernel
theorem dX6_misfit_103 : decode cX6_misfit 103 = .ok (.bipush (-2), 2) := by decide +kernel
theorem dX6_misfit_105 : decode cX6_misfit 105 = .ok (.ireturn, 1) := by decide +kernel
theorem dX6_hint_0 : decode cX6_hint 0 = .ok (.iload_n 1, 1) := by decide +kernel
theorem dX6_hint_1 : decode cX6_hint 1 = .ok (.ifCond .lt 8, 3) := by decide +kernel
theorem dX6_hint_4 : decode cX6_hint 4 = .ok (.iload_n 1, 1) := by decide +kernel
theorem dX6_hint_5 : decode cX6_hint 5 = .ok (.iconst 3, 1) := by decide +kernel
theorem dX6_hint_6 : decode cX6_hint 6 = .ok (.if_icmp .le 6, 3) := by decide +kernel
theorem dX6_hint_9 : decode cX6_hint 9 = .ok (.bipush (-2), 2) := by decide +kernel
theorem dX6_hint_11 : decode cX6_hint 11 = .ok (.ireturn, 1) := by decide +kernel
theorem dX6_hint_12 : decode cX6_hint 12 = .ok (.aload_n 0, 1) := by decide +kernel
theorem dX6_hint_13 : decode cX6_hint 13 = .ok (.getfield 33, 3) := by decide +kernel
theorem dX6_hint_16 : decode cX6_hint 16 = .ok (.invokevirtual 129, 3) := by decide +kernel
theorem dX6_hint_19 : decode cX6_hint 19 = .ok (.ifCond .ne 6, 3) := by decide +kernel
theorem dX6_hint_22 : decode cX6_hint 22 = .ok (.bipush (-3), 2) := by decide +kernel
theorem dX6_hint_24 : decode cX6_hint 24 = .ok (.ireturn, 1) := by decide +kernel
theorem dX6_hint_25 : decode cX6_hint 25 = .ok (.aload_n 0, 1) := by decide +kernel
theorem dX6_hint_26 : decode cX6_hint 26 = .ok (.getfield 40, 3) := by decide +kernel
theorem dX6_hint_29 : decode cX6_hint 29 = .ok (.aload_n 0, 1) := by decide +kernel
theorem dX6_hint_30 : decode cX6_hint 30 = .ok (.getfield 33, 3) := by decide +kernel
theorem dX6_hint_33 : decode cX6_hint 33 = .ok (.bipush 7, 2) := by decide +kernel
theorem dX6_hint_35 : decode cX6_hint 35 = .ok (.invokevirtual 133, 3) := by decide +kernel
theorem dX6_hint_38 : decode cX6_hint 38 = .ok (.ifCond .eq 11, 3) := by decide +kernel
theorem dX6_hint_41 : decode cX6_hint 41 = .ok (.aload_n 0, 1) := by decide +kernel
theorem dX6_hint_42 : decode cX6_hint 42 = .ok (.iload_n 1, 1) := by decide +kernel
theorem dX6_hint_43 : decode cX6_hint 43 = .ok (.invokevirtual 174, 3) := by decide +kernel
theorem dX6_hint_46 : decode cX6_hint 46 = .ok (.goto 4, 3) := by decide +kernel
theorem dX6_hint_49 : decode cX6_hint 49 = .ok (.iconst (-1), 1) := by decide +kernel
theorem dX6_hint_50 : decode cX6_hint 50 = .ok (.ireturn, 1) := by decide +kernel
theorem dX6_way_0 : decode cX6_way 0 = .ok (.aload_n 0, 1) := by decide +kernel
theorem dX6_way_1 : decode cX6_way 1 = .ok (.getfield 27, 3) := by decide +kernel
theorem dX6_way_4 : decode cX6_way 4 = .ok (.iload_n 1, 1) := by decide +kernel
theorem dX6_way_5 : decode cX6_way 5 = .ok (.invokevirtual 115, 3) := by decide +kernel
theorem dX6_way_8 : decode cX6_way 8 = .ok (.ifCond .eq 12, 3) := by decide +kernel
theorem dX6_way_11 : decode cX6_way 11 = .ok (.iload_n 2, 1) := by decide +kernel
theorem dX6_way_12 : decode cX6_way 12 = .ok (.ifCond .lt 8, 3) := by decide +kernel
theorem dX6_way_15 : decode cX6_way 15 = .ok (.iload_n 2, 1) := by decide +kernel
theorem dX6_way_16 : decode cX6_way 16 = .ok (.iconst 2, 1) := by decide +kernel
theorem dX6_way_17 : decode cX6_way 17 = .ok (.if_icmp .le 6, 3) := by decide +kernel
theorem dX6_way_20 : decode cX6_way 20 = .ok (.bipush (-2), 2) := by decide +kernel
theorem dX6_way_22 : decode cX6_way 22 = .ok (.ireturn, 1) := by decide +kernel
theorem dX6_way_23 : decode cX6_way 23 = .ok (.aload_n 0, 1) := by decide +kernel
theorem dX6_way_24 : decode cX6_way 24 = .ok (.getfield 33, 3) := by decide +kernel
theorem dX6_way_27 : decode cX6_way 27 = .ok (.lconst 1, 1) := by decide +kernel
theorem dX6_way_28 : decode cX6_way 28 = .ok (.iload_n 1, 1) := by decide +kernel
theorem dX6_way_29 : decode cX6_way 29 = .ok (.lshl, 1) := by decide +kernel
theorem dX6_way_30 : decode cX6_way 30 = .ok (.invokevirtual 177, 3) := by decide +kernel
theorem dX6_way_33 : decode cX6_way 33 = .ok (.lstore_n 3, 1) := by decide +kernel
theorem dX6_way_34 : decode cX6_way 34 = .ok (.lload_n 3, 1) := by decide +kernel
theorem dX6_way_35 : decode cX6_way 35 = .ok (.lconst 0, 1) := by decide +kernel
theorem dX6_way_36 : decode cX6_way 36 = .ok (.lcmp, 1) := by decide +kernel
theorem dX6_way_37 : decode cX6_way 37 = .ok (.ifCond .ne 5, 3) := by decide +kernel
theorem dX6_way_40 : decode cX6_way 40 = .ok (.iconst (-1), 1) := by decide +kernel
theorem dX6_way_41 : decode cX6_way 41 = .ok (.ireturn, 1) := by decide +kernel
theorem dX6_way_42 : decode cX6_way 42 = .ok (.iload_n 2, 1) := by decide +kernel
theorem dX6_way_43 : decode cX6_way 43 = .ok (.ifCond .ne 8, 3) := by decide +kernel
theorem dX6_way_46 : decode cX6_way 46 = .ok (.lload_n 3, 1) := by decide +kernel
theorem dX6_way_47 : decode cX6_way 47 = .ok (.invokestatic 123, 3) := by decide +kernel
theorem dX6_way_50 : decode cX6_way 50 = .ok (.ireturn, 1) := by decide +kernel
theorem dX6_way_51 : decode cX6_way 51 = .ok (.iload_n 2, 1) := by decide +kernel
theorem dX6_way_52 : decode cX6_way 52 = .ok (.iconst 1, 1) := by decide +kernel
theorem dX6_way_53 : decode cX6_way 53 = .ok (.if_icmp .ne 8, 3) := by decide +kernel
theorem dX6_way_56 : decode cX6_way 56 = .ok (.lload_n 3, 1) := by decide +kernel
theorem dX6_way_57 : decode cX6_way 57 = .ok (.invokestatic 159, 3) := by decide +kernel
theorem dX6_way_60 : decode cX6_way 60 = .ok (.ireturn, 1) := by decide +kernel
theorem dX6_way_61 : decode cX6_way 61 = .ok (.aload_n 0, 1) := by decide +kernel
theorem dX6_way_62 : decode cX6_way 62 = .ok (.getfield 33, 3) := by decide +kernel
theorem dX6_way_65 : decode cX6_way 65 = .ok (.lload_n 3, 1) := by decide +kernel
theorem dX6_way_66 : decode cX6_way 66 = .ok (.invokevirtual 181, 3) := by decide +kernel
theorem dX6_way_69 : decode cX6_way 69 = .ok (.ifCond .eq 7, 3) := by decide +kernel
theorem dX6_way_72 : decode cX6_way 72 = .ok (.iconst 1, 1) := by decide +kernel
theorem dX6_way_73 : decode cX6_way 73 = .ok (.goto 4, 3) := by decide +kernel
theorem dX6_way_76 : decode cX6_way 76 = .ok (.iconst 0, 1) := by decide +kernel
theorem dX6_way_77 : decode cX6_way 77 = .ok (.ireturn, 1) := by decide +kernel
theorem dX6_solutions_0 : decode cX6_solutions 0 = .ok (.iload_n 1, 1) := by decide +kernel
theorem dX6_solutions_1 : decode cX6_solutions 1 = .ok (.iconst 1, 1) := by decide +kernel
theorem dX6_solutions_2 : decode cX6_solutions 2 = .ok (.if_icmp .lt 9, 3) := by decide +kernel
theorem dX6_solutions_5 : decode cX6_solutions 5 = .ok (.iload_n 1, 1) := by decide +kernel
theorem dX6_solutions_6 : decode cX6_solutions 6 = .ok (.bipush 20, 2) := by decide +kernel
theorem dX6_solutions_8 : decode cX6_solutions 8 = .ok (.if_icmp .le 6, 3) := by decide +kernel
theorem dX6_solutions_11 : decode cX6_solutions 11 = .ok (.bipush (-2), 2) := by decide +kernel
theorem dX6_solutions_13 : decode cX6_solutions 13 = .ok (.ireturn, 1) := by decide +kernel
theorem dX6_solutions_14 : decode cX6_solutions 14 = .ok (.aload_n 0, 1) := by decide +kernel
theorem dX6_solutions_15 : decode cX6_solutions 15 = .ok (.getfield 47, 3) := by decide +kernel
theorem dX6_solutions_18 : decode cX6_solutions 18 = .ok (.aload_n 0, 1) := by decide +kernel
theorem dX6_solutions_19 : decode cX6_solutions 19 = .ok (.getfield 33, 3) := by decide +kernel
theorem dX6_solutions_22 : decode cX6_solutions 22 = .ok (.iload_n 1, 1) := by decide +kernel
theorem dX6_solutions_23 : decode cX6_solutions 23 = .ok (.invokevirtual 185, 3) := by decide +kernel
theorem dX6_solutions_26 : decode cX6_solutions 26 = .ok (.aload_n 0, 1) := by decide +kernel
theorem dX6_solutions_27 : decode cX6_solutions 27 = .ok (.getfield 47, 3) := by decide +kernel
theorem dX6_solutions_30 : decode cX6_solutions 30 = .ok (.getfield 189, 3) := by decide +kernel
theorem dX6_solutions_33 : decode cX6_solutions 33 = .ok (.ireturn, 1) := by decide +kernel
theorem dX6_nodes_0 : decode cX6_nodes 0 = .ok (.iload_n 1, 1) := by decide +kernel
theorem dX6_nodes_1 : decode cX6_nodes 1 = .ok (.iconst 1, 1) := by decide +kernel
theorem dX6_nodes_2 : decode cX6_nodes 2 = .ok (.if_icmp .lt 9, 3) := by decide +kernel
theorem dX6_nodes_5 : decode cX6_nodes 5 = .ok (.iload_n 1, 1) := by decide +kernel
theorem dX6_nodes_6 : decode cX6_nodes 6 = .ok (.bipush 20, 2) := by decide +kernel
theorem dX6_nodes_8 : decode cX6_nodes 8 = .ok (.if_icmp .le 6, 3) := by decide +kernel
theorem dX6_nodes_11 : decode cX6_nodes 11 = .ok (.bipush (-2), 2) := by decide +kernel
theorem dX6_nodes_13 : decode cX6_nodes 13 = .ok (.ireturn, 1) := by decide +kernel
theorem dX6_nodes_14 : decode cX6_nodes 14 = .ok (.aload_n 0, 1) := by decide +kernel
theorem dX6_nodes_15 : decode cX6_nodes 15 = .ok (.getfield 47, 3) := by decide +kernel
theorem dX6_nodes_18 : decode cX6_nodes 18 = .ok (.aload_n 0, 1) := by decide +kernel
theorem dX6_nodes_19 : decode cX6_nodes 19 = .ok (.getfield 33, 3) := by decide +kernel
theorem dX6_nodes_22 : decode cX6_nodes 22 = .ok (.iload_n 1, 1) := by decide +kernel
theorem dX6_nodes_23 : decode cX6_nodes 23 = .ok (.invokevirtual 185, 3) := by decide +kernel
theorem dX6_nodes_26 : decode cX6_nodes 26 = .ok (.aload_n 0, 1) := by decide +kernel
theorem dX6_nodes_27 : decode cX6_nodes 27 = .ok (.getfield 47, 3) := by decide +kernel
theorem dX6_nodes_30 : decode cX6_nodes 30 = .ok (.invokevirtual 192, 3) := by decide +kernel
theorem dX6_nodes_33 : decode cX6_nodes 33 = .ok (.ireturn, 1) := by decide +kernel
theorem dX6_solved_0 : decode cX6_solved 0 = .ok (.aload_n 0, 1) := by decide +kernel
theorem dX6_solved_1 : decode cX6_solved 1 = .ok (.getfield 27, 3) := by decide +kernel
theorem dX6_solved_4 : decode cX6_solved 4 = .ok (.iload_n 1, 1) := by decide +kernel
theorem dX6_solved_5 : decode cX6_solved 5 = .ok (.invokevirtual 115, 3) := by decide +kernel
theorem dX6_solved_8 : decode cX6_solved 8 = .ok (.ifCond .ne 6, 3) := by decide +kernel
theorem dX6_solved_11 : decode cX6_solved 11 = .ok (.bipush (-2), 2) := by decide +kernel
theorem dX6_solved_13 : decode cX6_solved 13 = .ok (.ireturn, 1) := by decide +kernel
theorem dX6_solved_14 : decode cX6_solved 14 = .ok (.aload_n 0, 1) := by decide +kernel
theorem dX6_solved_15 : decode cX6_solved 15 = .ok (.getfield 47, 3) := by decide +kernel
theorem dX6_solved_18 : decode cX6_solved 18 = .ok (.aload_n 0, 1) := by decide +kernel
theorem dX6_solved_19 : decode cX6_solved 19 = .ok (.getfield 33, 3) := by decide +kernel
theorem dX6_solved_22 : decode cX6_solved 22 = .ok (.iconst 1, 1) := by decide +kernel
theorem dX6_solved_23 : decode cX6_solved 23 = .ok (.invokevirtual 185, 3) := by decide +kernel
theorem dX6_solved_26 : decode cX6_solved 26 = .ok (.aload_n 0, 1) := by decide +kernel
theorem dX6_solved_27 : decode cX6_solved 27 = .ok (.getfield 47, 3) := by decide +kernel
theorem dX6_solved_30 : decode cX6_solved 30 = .ok (.getfield 189, 3) := by decide +kernel
theorem dX6_solved_33 : decode cX6_solved 33 = .ok (.ifCond .ne 5, 3) := by decide +kernel
theorem dX6_solved_36 : decode cX6_solved 36 = .ok (.iconst (-1), 1) := by decide +kernel
theorem dX6_solved_37 : decode cX6_solved 37 = .ok (.ireturn, 1) := by decide +kernel
theorem dX6_solved_38 : decode cX6_solved 38 = .ok (.aload_n 0, 1) := by decide +kernel
theorem dX6_solved_39 : decode cX6_solved 39 = .ok (.getfield 47, 3) := by decide +kernel
theorem dX6_solved_42 : decode cX6_solved 42 = .ok (.getfield 195, 3) := by decide +kernel
theorem dX6_solved_45 : decode cX6_solved 45 = .ok (.iload_n 1, 1) := by decide +kernel
theorem dX6_solved_46 : decode cX6_solved 46 = .ok (.lushr, 1) := by decide +kernel
theorem dX6_solved_47 : decode cX6_solved 47 = .ok (.lconst 1, 1) := by decide +kernel
theorem dX6_solved_48 : decode cX6_solved 48 = .ok (.land, 1) := by decide +kernel
theorem dX6_solved_49 : decode cX6_solved 49 = .ok (.lconst 0, 1) := by decide +kernel
theorem dX6_solved_50 : decode cX6_solved 50 = .ok (.lcmp, 1) := by decide +kernel
theorem dX6_solved_51 : decode cX6_solved 51 = .ok (.ifCond .ne 7, 3) := by decide +kernel
theorem dX6_solved_54 : decode cX6_solved 54 = .ok (.iconst 0, 1) := by decide +kernel
theorem dX6_solved_55 : decode cX6_solved 55 = .ok (.goto 4, 3) := by decide +kernel
theorem dX6_solved_58 : decode cX6_solved 58 = .ok (.iconst 1, 1) := by decide +kernel
theorem dX6_solved_59 : decode cX6_solved 59 = .ok (.ireturn, 1) := by decide +kernel
theorem dX6_grade_0 : decode cX6_grade 0 = .ok (.aload_n 0, 1) := by decide +kernel
theorem dX6_grade_1 : decode cX6_grade 1 = .ok (.getfield 40, 3) := by decide +kernel
theorem dX6_grade_4 : decode cX6_grade 4 = .ok (.invokevirtual 198, 3) := by decide +kernel
theorem dX6_grade_7 : decode cX6_grade 7 = .ok (.ireturn, 1) := by decide +kernel
theorem dX6_count_0 : decode cX6_count 0 = .ok (.iload_n 1, 1) := by decide +kernel
theorem dX6_count_1 : decode cX6_count 1 = .ok (.ifCond .lt 9, 3) := by decide +kernel
theorem dX6_count_4 : decode cX6_count 4 = .ok (.iload_n 1, 1) := by decide +kernel
theorem dX6_count_5 : decode cX6_count 5 = .ok (.bipush 15, 2) := by decide +kernel
theorem dX6_count_7 : decode cX6_count 7 = .ok (.if_icmp .le 6, 3) := by decide +kernel
theorem dX6_count_10 : decode cX6_count 10 = .ok (.bipush (-2), 2) := by decide +kernel
theorem dX6_count_12 : decode cX6_count 12 = .ok (.ireturn, 1) := by decide +kernel
theorem dX6_count_13 : decode cX6_count 13 = .ok (.iload_n 1, 1) := by decide +kernel
theorem dX6_count_14 : decode cX6_count 14 = .ok (.bipush 6, 2) := by decide +kernel
theorem dX6_count_16 : decode cX6_count 16 = .ok (.if_icmp .lt 19, 3) := by decide +kernel
theorem dX6_count_19 : decode cX6_count 19 = .ok (.iload_n 1, 1) := by decide +kernel
theorem dX6_count_20 : decode cX6_count 20 = .ok (.bipush 14, 2) := by decide +kernel
theorem dX6_count_22 : decode cX6_count 22 = .ok (.if_icmp .ge 13, 3) := by decide +kernel
theorem dX6_count_25 : decode cX6_count 25 = .ok (.aload_n 0, 1) := by decide +kernel
theorem dX6_count_26 : decode cX6_count 26 = .ok (.getfield 65, 3) := by decide +kernel
theorem dX6_count_29 : decode cX6_count 29 = .ok (.iload_n 1, 1) := by decide +kernel
theorem dX6_count_30 : decode cX6_count 30 = .ok (.bipush 6, 2) := by decide +kernel
theorem dX6_count_32 : decode cX6_count 32 = .ok (.isub, 1) := by decide +kernel
theorem dX6_count_33 : decode cX6_count 33 = .ok (.iaload, 1) := by decide +kernel
theorem dX6_count_34 : decode cX6_count 34 = .ok (.ireturn, 1) := by decide +kernel
theorem dX6_count_35 : decode cX6_count 35 = .ok (.iload_n 1, 1) := by decide +kernel
theorem dX6_count_36 : decode cX6_count 36 = .ok (.tableswitch 138 0 14 #[76, 84, 92, 100, 111, 122, 138, 138, 138, 138, 138, 138, 138, 138, 130], 76) := by decide +kernel
theorem dX6_count_112 : decode cX6_count 112 = .ok (.aload_n 0, 1) := by decide +kernel
theorem dX6_count_113 : decode cX6_count 113 = .ok (.getfield 27, 3) := by decide +kernel
theorem dX6_count_116 : decode cX6_count 116 = .ok (.getfield 201, 3) := by decide +kernel
theorem dX6_count_119 : decode cX6_count 119 = .ok (.ireturn, 1) := by decide +kernel
theorem dX6_count_120 : decode cX6_count 120 = .ok (.aload_n 0, 1) := by decide +kernel
theorem dX6_count_121 : decode cX6_count 121 = .ok (.getfield 27, 3) := by decide +kernel
theorem dX6_count_124 : decode cX6_count 124 = .ok (.getfield 204, 3) := by decide +kernel
theorem dX6_count_127 : decode cX6_count 127 = .ok (.ireturn, 1) := by decide +kernel
theorem dX6_count_128 : decode cX6_count 128 = .ok (.aload_n 0, 1) := by decide +kernel
theorem dX6_count_129 : decode cX6_count 129 = .ok (.getfield 27, 3) := by decide +kernel
theorem dX6_count_132 : decode cX6_count 132 = .ok (.getfield 101, 3) := by decide +kernel
theorem dX6_count_135 : decode cX6_count 135 = .ok (.ireturn, 1) := by decide +kernel
theorem dX6_count_136 : decode cX6_count 136 = .ok (.aload_n 0, 1) := by decide +kernel
theorem dX6_count_137 : decode cX6_count 137 = .ok (.getfield 33, 3) := by decide +kernel
theorem dX6_count_140 : decode cX6_count 140 = .ok (.getfield 112, 3) := by decide +kernel
theorem dX6_count_143 : decode cX6_count 143 = .ok (.invokestatic 123, 3) := by decide +kernel
theorem dX6_count_146 : decode cX6_count 146 = .ok (.ireturn, 1) := by decide +kernel
theorem dX6_count_147 : decode cX6_count 147 = .ok (.aload_n 0, 1) := by decide +kernel
theorem dX6_count_148 : decode cX6_count 148 = .ok (.getfield 33, 3) := by decide +kernel
theorem dX6_count_151 : decode cX6_count 151 = .ok (.getfield 108, 3) := by decide +kernel
theorem dX6_count_154 : decode cX6_count 154 = .ok (.invokestatic 123, 3) := by decide +kernel
theorem dX6_count_157 : decode cX6_count 157 = .ok (.ireturn, 1) := by decide +kernel
theorem dX6_count_158 : decode cX6_count 158 = .ok (.aload_n 0, 1) := by decide +kernel
theorem dX6_count_159 : decode cX6_count 159 = .ok (.getfield 27, 3) := by decide +kernel
theorem dX6_count_162 : decode cX6_count 162 = .ok (.invokevirtual 207, 3) := by decide +kernel
theorem dX6_count_165 : decode cX6_count 165 = .ok (.ireturn, 1) := by decide +kernel
theorem dX6_count_166 : decode cX6_count 166 = .ok (.aload_n 0, 1) := by decide +kernel
theorem dX6_count_167 : decode cX6_count 167 = .ok (.getfield 54, 3) := by decide +kernel
theorem dX6_count_170 : decode cX6_count 170 = .ok (.getfield 143, 3) := by decide +kernel
theorem dX6_count_173 : decode cX6_count 173 = .ok (.ireturn, 1) := by decide +kernel
theorem dX6_count_174 : decode cX6_count 174 = .ok (.aload_n 0, 1) := by decide +kernel
theorem dX6_count_175 : decode cX6_count 175 = .ok (.getfield 61, 3) := by decide +kernel
theorem dX6_count_178 : decode cX6_count 178 = .ok (.getfield 73, 3) := by decide +kernel
theorem dX6_count_181 : decode cX6_count 181 = .ok (.ireturn, 1) := by decide +kernel
theorem dX6_digest_0 : decode cX6_digest 0 = .ok (.ldc2_w 210, 3) := by decide +kernel
theorem dX6_digest_3 : decode cX6_digest 3 = .ok (.lstore_n 1, 1) := by decide +kernel
theorem dX6_digest_4 : decode cX6_digest 4 = .ok (.iconst 0, 1) := by decide +kernel
theorem dX6_digest_5 : decode cX6_digest 5 = .ok (.istore_n 3, 1) := by decide +kernel
theorem dX6_digest_6 : decode cX6_digest 6 = .ok (.iload_n 3, 1) := by decide +kernel
theorem dX6_digest_7 : decode cX6_digest 7 = .ok (.bipush 15, 2) := by decide +kernel
theorem dX6_digest_9 : decode cX6_digest 9 = .ok (.if_icmp .gt 22, 3) := by decide +kernel
theorem dX6_digest_12 : decode cX6_digest 12 = .ok (.ldc2_w 212, 3) := by decide +kernel
theorem dX6_digest_15 : decode cX6_digest 15 = .ok (.lload_n 1, 1) := by decide +kernel
theorem dX6_digest_16 : decode cX6_digest 16 = .ok (.lmul, 1) := by decide +kernel
theorem dX6_digest_17 : decode cX6_digest 17 = .ok (.aload_n 0, 1) := by decide +kernel
theorem dX6_digest_18 : decode cX6_digest 18 = .ok (.iload_n 3, 1) := by decide +kernel
theorem dX6_digest_19 : decode cX6_digest 19 = .ok (.invokevirtual 214, 3) := by decide +kernel
theorem dX6_digest_22 : decode cX6_digest 22 = .ok (.i2l, 1) := by decide +kernel
theorem dX6_digest_23 : decode cX6_digest 23 = .ok (.ladd, 1) := by decide +kernel
theorem dX6_digest_24 : decode cX6_digest 24 = .ok (.lstore_n 1, 1) := by decide +kernel
theorem dX6_digest_25 : decode cX6_digest 25 = .ok (.iinc 3 1, 3) := by decide +kernel
theorem dX6_digest_28 : decode cX6_digest 28 = .ok (.goto (-22), 3) := by decide +kernel
theorem dX6_digest_31 : decode cX6_digest 31 = .ok (.iconst 0, 1) := by decide +kernel
theorem dX6_digest_32 : decode cX6_digest 32 = .ok (.istore_n 3, 1) := by decide +kernel
theorem dX6_digest_33 : decode cX6_digest 33 = .ok (.iload_n 3, 1) := by decide +kernel
theorem dX6_digest_34 : decode cX6_digest 34 = .ok (.aload_n 0, 1) := by decide +kernel
theorem dX6_digest_35 : decode cX6_digest 35 = .ok (.getfield 27, 3) := by decide +kernel
theorem dX6_digest_38 : decode cX6_digest 38 = .ok (.getfield 91, 3) := by decide +kernel
theorem dX6_digest_41 : decode cX6_digest 41 = .ok (.if_icmp .ge 26, 3) := by decide +kernel
theorem dX6_digest_44 : decode cX6_digest 44 = .ok (.ldc2_w 212, 3) := by decide +kernel
theorem dX6_digest_47 : decode cX6_digest 47 = .ok (.lload_n 1, 1) := by decide +kernel
theorem dX6_digest_48 : decode cX6_digest 48 = .ok (.lmul, 1) := by decide +kernel
theorem dX6_digest_49 : decode cX6_digest 49 = .ok (.aload_n 0, 1) := by decide +kernel
theorem dX6_digest_50 : decode cX6_digest 50 = .ok (.getfield 27, 3) := by decide +kernel
theorem dX6_digest_53 : decode cX6_digest 53 = .ok (.getfield 94, 3) := by decide +kernel
theorem dX6_digest_56 : decode cX6_digest 56 = .ok (.iload_n 3, 1) := by decide +kernel
theorem dX6_digest_57 : decode cX6_digest 57 = .ok (.iaload, 1) := by decide +kernel
theorem dX6_digest_58 : decode cX6_digest 58 = .ok (.i2l, 1) := by decide +kernel
theorem dX6_digest_59 : decode cX6_digest 59 = .ok (.ladd, 1) := by decide +kernel
theorem dX6_digest_60 : decode cX6_digest 60 = .ok (.lstore_n 1, 1) := by decide +kernel
theorem dX6_digest_61 : decode cX6_digest 61 = .ok (.iinc 3 1, 3) := by decide +kernel
theorem dX6_digest_64 : decode cX6_digest 64 = .ok (.goto (-31), 3) := by decide +kernel
theorem dX6_digest_67 : decode cX6_digest 67 = .ok (.iconst 0, 1) := by decide +kernel
theorem dX6_digest_68 : decode cX6_digest 68 = .ok (.istore_n 3, 1) := by decide +kernel
theorem dX6_digest_69 : decode cX6_digest 69 = .ok (.iload_n 3, 1) := by decide +kernel
theorem dX6_digest_70 : decode cX6_digest 70 = .ok (.aload_n 0, 1) := by decide +kernel
theorem dX6_digest_71 : decode cX6_digest 71 = .ok (.getfield 27, 3) := by decide +kernel
theorem dX6_digest_74 : decode cX6_digest 74 = .ok (.getfield 101, 3) := by decide +kernel
theorem dX6_digest_77 : decode cX6_digest 77 = .ok (.if_icmp .ge 25, 3) := by decide +kernel
theorem dX6_digest_80 : decode cX6_digest 80 = .ok (.ldc2_w 212, 3) := by decide +kernel
theorem dX6_digest_83 : decode cX6_digest 83 = .ok (.lload_n 1, 1) := by decide +kernel
theorem dX6_digest_84 : decode cX6_digest 84 = .ok (.lmul, 1) := by decide +kernel
theorem dX6_digest_85 : decode cX6_digest 85 = .ok (.aload_n 0, 1) := by decide +kernel
theorem dX6_digest_86 : decode cX6_digest 86 = .ok (.getfield 33, 3) := by decide +kernel
theorem dX6_digest_89 : decode cX6_digest 89 = .ok (.iload_n 3, 1) := by decide +kernel
theorem dX6_digest_90 : decode cX6_digest 90 = .ok (.invokevirtual 118, 3) := by decide +kernel
theorem dX6_digest_93 : decode cX6_digest 93 = .ok (.i2l, 1) := by decide +kernel
theorem dX6_digest_94 : decode cX6_digest 94 = .ok (.ladd, 1) := by decide +kernel
theorem dX6_digest_95 : decode cX6_digest 95 = .ok (.lstore_n 1, 1) := by decide +kernel
theorem dX6_digest_96 : decode cX6_digest 96 = .ok (.iinc 3 1, 3) := by decide +kernel
theorem dX6_digest_99 : decode cX6_digest 99 = .ok (.goto (-30), 3) := by decide +kernel
theorem dX6_digest_102 : decode cX6_digest 102 = .ok (.iconst 0, 1) := by decide +kernel
theorem dX6_digest_103 : decode cX6_digest 103 = .ok (.istore_n 3, 1) := by decide +kernel
theorem dX6_digest_104 : decode cX6_digest 104 = .ok (.iload_n 3, 1) := by decide +kernel
theorem dX6_digest_105 : decode cX6_digest 105 = .ok (.iconst 4, 1) := by decide +kernel
theorem dX6_digest_106 : decode cX6_digest 106 = .ok (.if_icmp .gt 22, 3) := by decide +kernel
theorem dX6_digest_109 : decode cX6_digest 109 = .ok (.ldc2_w 212, 3) := by decide +kernel
theorem dX6_digest_112 : decode cX6_digest 112 = .ok (.lload_n 1, 1) := by decide +kernel
theorem dX6_digest_113 : decode cX6_digest 113 = .ok (.lmul, 1) := by decide +kernel
theorem dX6_digest_114 : decode cX6_digest 114 = .ok (.aload_n 0, 1) := by decide +kernel
theorem dX6_digest_115 : decode cX6_digest 115 = .ok (.iload_n 3, 1) := by decide +kernel
theorem dX6_digest_116 : decode cX6_digest 116 = .ok (.invokevirtual 217, 3) := by decide +kernel
theorem dX6_digest_119 : decode cX6_digest 119 = .ok (.i2l, 1) := by decide +kernel
theorem dX6_digest_120 : decode cX6_digest 120 = .ok (.ladd, 1) := by decide +kernel
theorem dX6_digest_121 : decode cX6_digest 121 = .ok (.lstore_n 1, 1) := by decide +kernel
theorem dX6_digest_122 : decode cX6_digest 122 = .ok (.iinc 3 1, 3) := by decide +kernel
theorem dX6_digest_125 : decode cX6_digest 125 = .ok (.goto (-21), 3) := by decide +kernel
theorem dX6_digest_128 : decode cX6_digest 128 = .ok (.aload_n 0, 1) := by decide +kernel
theorem dX6_digest_129 : decode cX6_digest 129 = .ok (.lload_n 1, 1) := by decide +kernel
theorem dX6_digest_130 : decode cX6_digest 130 = .ok (.invokevirtual 220, 3) := by decide +kernel
theorem dX6_digest_133 : decode cX6_digest 133 = .ok (.lstore_n 1, 1) := by decide +kernel
theorem dX6_digest_134 : decode cX6_digest 134 = .ok (.aload_n 0, 1) := by decide +kernel
theorem dX6_digest_135 : decode cX6_digest 135 = .ok (.getfield 47, 3) := by decide +kernel
theorem dX6_digest_138 : decode cX6_digest 138 = .ok (.aload_n 0, 1) := by decide +kernel
theorem dX6_digest_139 : decode cX6_digest 139 = .ok (.getfield 33, 3) := by decide +kernel
theorem dX6_digest_142 : decode cX6_digest 142 = .ok (.iconst 2, 1) := by decide +kernel
theorem dX6_digest_143 : decode cX6_digest 143 = .ok (.invokevirtual 185, 3) := by decide +kernel
theorem dX6_digest_146 : decode cX6_digest 146 = .ok (.ldc2_w 212, 3) := by decide +kernel
theorem dX6_digest_149 : decode cX6_digest 149 = .ok (.lload_n 1, 1) := by decide +kernel
theorem dX6_digest_150 : decode cX6_digest 150 = .ok (.lmul, 1) := by decide +kernel
theorem dX6_digest_151 : decode cX6_digest 151 = .ok (.aload_n 0, 1) := by decide +kernel
theorem dX6_digest_152 : decode cX6_digest 152 = .ok (.getfield 47, 3) := by decide +kernel
theorem dX6_digest_155 : decode cX6_digest 155 = .ok (.getfield 189, 3) := by decide +kernel
theorem dX6_digest_158 : decode cX6_digest 158 = .ok (.i2l, 1) := by decide +kernel
theorem dX6_digest_159 : decode cX6_digest 159 = .ok (.ladd, 1) := by decide +kernel
theorem dX6_digest_160 : decode cX6_digest 160 = .ok (.lstore_n 1, 1) := by decide +kernel
theorem dX6_digest_161 : decode cX6_digest 161 = .ok (.ldc2_w 212, 3) := by decide +kernel
theorem dX6_digest_164 : decode cX6_digest 164 = .ok (.lload_n 1, 1) := by decide +kernel
theorem dX6_digest_165 : decode cX6_digest 165 = .ok (.lmul, 1) := by decide +kernel
theorem dX6_digest_166 : decode cX6_digest 166 = .ok (.aload_n 0, 1) := by decide +kernel
theorem dX6_digest_167 : decode cX6_digest 167 = .ok (.getfield 47, 3) := by decide +kernel
theorem dX6_digest_170 : decode cX6_digest 170 = .ok (.invokevirtual 192, 3) := by decide +kernel
theorem dX6_digest_173 : decode cX6_digest 173 = .ok (.i2l, 1) := by decide +kernel
theorem dX6_digest_174 : decode cX6_digest 174 = .ok (.ladd, 1) := by decide +kernel
theorem dX6_digest_175 : decode cX6_digest 175 = .ok (.lstore_n 1, 1) := by decide +kernel
theorem dX6_digest_176 : decode cX6_digest 176 = .ok (.ldc2_w 212, 3) := by decide +kernel
theorem dX6_digest_179 : decode cX6_digest 179 = .ok (.lload_n 1, 1) := by decide +kernel
theorem dX6_digest_180 : decode cX6_digest 180 = .ok (.lmul, 1) := by decide +kernel
theorem dX6_digest_181 : decode cX6_digest 181 = .ok (.aload_n 0, 1) := by decide +kernel
theorem dX6_digest_182 : decode cX6_digest 182 = .ok (.getfield 40, 3) := by decide +kernel
theorem dX6_digest_185 : decode cX6_digest 185 = .ok (.invokevirtual 198, 3) := by decide +kernel
theorem dX6_digest_188 : decode cX6_digest 188 = .ok (.i2l, 1) := by decide +kernel
theorem dX6_digest_189 : decode cX6_digest 189 = .ok (.ladd, 1) := by decide +kernel
theorem dX6_digest_190 : decode cX6_digest 190 = .ok (.lstore_n 1, 1) := by decide +kernel
theorem dX6_digest_191 : decode cX6_digest 191 = .ok (.iconst 0, 1) := by decide +kernel
theorem dX6_digest_192 : decode cX6_digest 192 = .ok (.istore_n 3, 1) := by decide +kernel
theorem dX6_digest_193 : decode cX6_digest 193 = .ok (.iload_n 3, 1) := by decide +kernel
theorem dX6_digest_194 : decode cX6_digest 194 = .ok (.aload_n 0, 1) := by decide +kernel
theorem dX6_digest_195 : decode cX6_digest 195 = .ok (.getfield 61, 3) := by decide +kernel
theorem dX6_digest_198 : decode cX6_digest 198 = .ok (.getfield 73, 3) := by decide +kernel
theorem dX6_digest_201 : decode cX6_digest 201 = .ok (.if_icmp .ge 26, 3) := by decide +kernel
theorem dX6_digest_204 : decode cX6_digest 204 = .ok (.ldc2_w 212, 3) := by decide +kernel
theorem dX6_digest_207 : decode cX6_digest 207 = .ok (.lload_n 1, 1) := by decide +kernel
theorem dX6_digest_208 : decode cX6_digest 208 = .ok (.lmul, 1) := by decide +kernel
theorem dX6_digest_209 : decode cX6_digest 209 = .ok (.aload_n 0, 1) := by decide +kernel
theorem dX6_digest_210 : decode cX6_digest 210 = .ok (.getfield 61, 3) := by decide +kernel
theorem dX6_digest_213 : decode cX6_digest 213 = .ok (.getfield 223, 3) := by decide +kernel
theorem dX6_digest_216 : decode cX6_digest 216 = .ok (.iload_n 3, 1) := by decide +kernel
theorem dX6_digest_217 : decode cX6_digest 217 = .ok (.baload, 1) := by decide +kernel
theorem dX6_digest_218 : decode cX6_digest 218 = .ok (.i2l, 1) := by decide +kernel
theorem dX6_digest_219 : decode cX6_digest 219 = .ok (.ladd, 1) := by decide +kernel
theorem dX6_digest_220 : decode cX6_digest 220 = .ok (.lstore_n 1, 1) := by decide +kernel
theorem dX6_digest_221 : decode cX6_digest 221 = .ok (.iinc 3 1, 3) := by decide +kernel
theorem dX6_digest_224 : decode cX6_digest 224 = .ok (.goto (-31), 3) := by decide +kernel
theorem dX6_digest_227 : decode cX6_digest 227 = .ok (.lload_n 1, 1) := by decide +kernel
theorem dX6_digest_228 : decode cX6_digest 228 = .ok (.lreturn, 1) := by decide +kernel
theorem dX6_addHints_0 : decode cX6_addHints 0 = .ok (.lload_n 1, 1) := by decide +kernel
theorem dX6_addHints_1 : decode cX6_addHints 1 = .ok (.lstore_n 3, 1) := by decide +kernel
theorem dX6_addHints_2 : decode cX6_addHints 2 = .ok (.aload_n 0, 1) := by decide +kernel
theorem dX6_addHints_3 : decode cX6_addHints 3 = .ok (.getfield 33, 3) := by decide +kernel
theorem dX6_addHints_6 : decode cX6_addHints 6 = .ok (.invokevirtual 129, 3) := by decide +kernel
theorem dX6_addHints_9 : decode cX6_addHints 9 = .ok (.istore 5, 2) := by decide +kernel
theorem dX6_addHints_11 : decode cX6_addHints 11 = .ok (.iload 5, 2) := by decide +kernel
theorem dX6_addHints_13 : decode cX6_addHints 13 = .ok (.ifCond .eq 23, 3) := by decide +kernel
theorem dX6_addHints_16 : decode cX6_addHints 16 = .ok (.aload_n 0, 1) := by decide +kernel
theorem dX6_addHints_17 : decode cX6_addHints 17 = .ok (.getfield 40, 3) := by decide +kernel
theorem dX6_addHints_20 : decode cX6_addHints 20 = .ok (.aload_n 0, 1) := by decide +kernel
theorem dX6_addHints_21 : decode cX6_addHints 21 = .ok (.getfield 33, 3) := by decide +kernel
theorem dX6_addHints_24 : decode cX6_addHints 24 = .ok (.bipush 7, 2) := by decide +kernel
theorem dX6_addHints_26 : decode cX6_addHints 26 = .ok (.invokevirtual 133, 3) := by decide +kernel
theorem dX6_addHints_29 : decode cX6_addHints 29 = .ok (.ifCond .eq 7, 3) := by decide +kernel
theorem dX6_addHints_32 : decode cX6_addHints 32 = .ok (.iconst 1, 1) := by decide +kernel
theorem dX6_addHints_33 : decode cX6_addHints 33 = .ok (.goto 4, 3) := by decide +kernel
theorem dX6_addHints_36 : decode cX6_addHints 36 = .ok (.iconst 0, 1) := by decide +kernel
theorem dX6_addHints_37 : decode cX6_addHints 37 = .ok (.istore 6, 2) := by decide +kernel
theorem dX6_addHints_39 : decode cX6_addHints 39 = .ok (.iconst 0, 1) := by decide +kernel
theorem dX6_addHints_40 : decode cX6_addHints 40 = .ok (.istore 7, 2) := by decide +kernel
theorem dX6_addHints_42 : decode cX6_addHints 42 = .ok (.iload 7, 2) := by decide +kernel
theorem dX6_addHints_44 : decode cX6_addHints 44 = .ok (.iconst 3, 1) := by decide +kernel
theorem dX6_addHints_45 : decode cX6_addHints 45 = .ok (.if_icmp .gt 46, 3) := by decide +kernel
theorem dX6_addHints_48 : decode cX6_addHints 48 = .ok (.iload 6, 2) := by decide +kernel
theorem dX6_addHints_50 : decode cX6_addHints 50 = .ok (.ifCond .eq 12, 3) := by decide +kernel
theorem dX6_addHints_53 : decode cX6_addHints 53 = .ok (.aload_n 0, 1) := by decide +kernel
theorem dX6_addHints_54 : decode cX6_addHints 54 = .ok (.iload 7, 2) := by decide +kernel
theorem dX6_addHints_56 : decode cX6_addHints 56 = .ok (.invokevirtual 174, 3) := by decide +kernel
theorem dX6_addHints_59 : decode cX6_addHints 59 = .ok (.goto 14, 3) := by decide +kernel
theorem dX6_addHints_62 : decode cX6_addHints 62 = .ok (.iload 5, 2) := by decide +kernel
theorem dX6_addHints_64 : decode cX6_addHints 64 = .ok (.ifCond .eq 7, 3) := by decide +kernel
theorem dX6_addHints_67 : decode cX6_addHints 67 = .ok (.iconst (-1), 1) := by decide +kernel
theorem dX6_addHints_68 : decode cX6_addHints 68 = .ok (.goto 5, 3) := by decide +kernel
theorem dX6_addHints_71 : decode cX6_addHints 71 = .ok (.bipush (-3), 2) := by decide +kernel
theorem dX6_addHints_73 : decode cX6_addHints 73 = .ok (.istore 8, 2) := by decide +kernel
theorem dX6_addHints_75 : decode cX6_addHints 75 = .ok (.ldc2_w 212, 3) := by decide +kernel
theorem dX6_addHints_78 : decode cX6_addHints 78 = .ok (.lload_n 3, 1) := by decide +kernel
theorem dX6_addHints_79 : decode cX6_addHints 79 = .ok (.lmul, 1) := by decide +kernel
theorem dX6_addHints_80 : decode cX6_addHints 80 = .ok (.iload 8, 2) := by decide +kernel
theorem dX6_addHints_82 : decode cX6_addHints 82 = .ok (.i2l, 1) := by decide +kernel
theorem dX6_addHints_83 : decode cX6_addHints 83 = .ok (.ladd, 1) := by decide +kernel
theorem dX6_addHints_84 : decode cX6_addHints 84 = .ok (.lstore_n 3, 1) := by decide +kernel
theorem dX6_addHints_85 : decode cX6_addHints 85 = .ok (.iinc 7 1, 3) := by decide +kernel
theorem dX6_addHints_88 : decode cX6_addHints 88 = .ok (.goto (-46), 3) := by decide +kernel
theorem dX6_addHints_91 : decode cX6_addHints 91 = .ok (.lload_n 3, 1) := by decide +kernel
theorem dX6_addHints_92 : decode cX6_addHints 92 = .ok (.lreturn, 1) := by decide +kernel
theorem dX6_foundPart_0 : decode cX6_foundPart 0 = .ok (.iload_n 1, 1) := by decide +kernel
theorem dX6_foundPart_1 : decode cX6_foundPart 1 = .ok (.tableswitch 54 0 2 #[27, 35, 43], 27) := by decide +kernel
theorem dX6_foundPart_28 : decode cX6_foundPart 28 = .ok (.aload_n 0, 1) := by decide +kernel
theorem dX6_foundPart_29 : decode cX6_foundPart 29 = .ok (.getfield 33, 3) := by decide +kernel
theorem dX6_foundPart_32 : decode cX6_foundPart 32 = .ok (.getfield 140, 3) := by decide +kernel
theorem dX6_foundPart_35 : decode cX6_foundPart 35 = .ok (.ireturn, 1) := by decide +kernel
theorem dX6_foundPart_36 : decode cX6_foundPart 36 = .ok (.aload_n 0, 1) := by decide +kernel
theorem dX6_foundPart_37 : decode cX6_foundPart 37 = .ok (.getfield 33, 3) := by decide +kernel
theorem dX6_foundPart_40 : decode cX6_foundPart 40 = .ok (.getfield 227, 3) := by decide +kernel
theorem dX6_foundPart_43 : decode cX6_foundPart 43 = .ok (.ireturn, 1) := by decide +kernel
theorem dX6_foundPart_44 : decode cX6_foundPart 44 = .ok (.aload_n 0, 1) := by decide +kernel
theorem dX6_foundPart_45 : decode cX6_foundPart 45 = .ok (.getfield 33, 3) := by decide +kernel
theorem dX6_foundPart_48 : decode cX6_foundPart 48 = .ok (.getfield 140, 3) := by decide +kernel
theorem dX6_foundPart_51 : decode cX6_foundPart 51 = .ok (.invokestatic 230, 3) := by decide +kernel
theorem dX6_foundPart_54 : decode cX6_foundPart 54 = .ok (.ireturn, 1) := by decide +kernel
theorem dX6_foundPart_55 : decode cX6_foundPart 55 = .ok (.aload_n 0, 1) := by decide +kernel
theorem dX6_foundPart_56 : decode cX6_foundPart 56 = .ok (.getfield 33, 3) := by decide +kernel
theorem dX6_foundPart_59 : decode cX6_foundPart 59 = .ok (.getfield 233, 3) := by decide +kernel
theorem dX6_foundPart_62 : decode cX6_foundPart 62 = .ok (.ireturn, 1) := by decide +kernel
theorem dX6_makeFound_0 : decode cX6_makeFound 0 = .ok (.aload_n 0, 1) := by decide +kernel
theorem dX6_makeFound_1 : decode cX6_makeFound 1 = .ok (.getfield 33, 3) := by decide +kernel
theorem dX6_makeFound_4 : decode cX6_makeFound 4 = .ok (.getfield 140, 3) := by decide +kernel
theorem dX6_makeFound_7 : decode cX6_makeFound 7 = .ok (.istore_n 1, 1) := by decide +kernel
theorem dX6_makeFound_8 : decode cX6_makeFound 8 = .ok (.iload_n 1, 1) := by decide +kernel
theorem dX6_makeFound_9 : decode cX6_makeFound 9 = .ok (.ifCond .lt 19, 3) := by decide +kernel
theorem dX6_makeFound_12 : decode cX6_makeFound 12 = .ok (.iload_n 1, 1) := by decide +kernel
theorem dX6_makeFound_13 : decode cX6_makeFound 13 = .ok (.bipush 8, 2) := by decide +kernel
theorem dX6_makeFound_15 : decode cX6_makeFound 15 = .ok (.if_icmp .ge 13, 3) := by decide +kernel
theorem dX6_makeFound_18 : decode cX6_makeFound 18 = .ok (.aload_n 0, 1) := by decide +kernel
theorem dX6_makeFound_19 : decode cX6_makeFound 19 = .ok (.getfield 65, 3) := by decide +kernel
theorem dX6_makeFound_22 : decode cX6_makeFound 22 = .ok (.iload_n 1, 1) := by decide +kernel
theorem dX6_makeFound_23 : decode cX6_makeFound 23 = .ok (.dup2, 1) := by decide +kernel
theorem dX6_makeFound_24 : decode cX6_makeFound 24 = .ok (.iaload, 1) := by decide +kernel
theorem dX6_makeFound_25 : decode cX6_makeFound 25 = .ok (.iconst 1, 1) := by decide +kernel
theorem dX6_makeFound_26 : decode cX6_makeFound 26 = .ok (.iadd, 1) := by decide +kernel
theorem dX6_makeFound_27 : decode cX6_makeFound 27 = .ok (.iastore, 1) := by decide +kernel
theorem dX6_makeFound_28 : decode cX6_makeFound 28 = .ok (.aload_n 0, 1) := by decide +kernel
theorem dX6_makeFound_29 : decode cX6_makeFound 29 = .ok (.getfield 33, 3) := by decide +kernel
theorem dX6_makeFound_32 : decode cX6_makeFound 32 = .ok (.invokevirtual 236, 3) := by decide +kernel
theorem dX6_makeFound_35 : decode cX6_makeFound 35 = .ok (.return_, 1) := by decide +kernel
theorem dX6_forgetMade_0 : decode cX6_forgetMade 0 = .ok (.iconst 0, 1) := by decide +kernel
theorem dX6_forgetMade_1 : decode cX6_forgetMade 1 = .ok (.istore_n 1, 1) := by decide +kernel
theorem dX6_forgetMade_2 : decode cX6_forgetMade 2 = .ok (.iload_n 1, 1) := by decide +kernel
theorem dX6_forgetMade_3 : decode cX6_forgetMade 3 = .ok (.bipush 8, 2) := by decide +kernel
theorem dX6_forgetMade_5 : decode cX6_forgetMade 5 = .ok (.if_icmp .ge 16, 3) := by decide +kernel
theorem dX6_forgetMade_8 : decode cX6_forgetMade 8 = .ok (.aload_n 0, 1) := by decide +kernel
theorem dX6_forgetMade_9 : decode cX6_forgetMade 9 = .ok (.getfield 65, 3) := by decide +kernel
theorem dX6_forgetMade_12 : decode cX6_forgetMade 12 = .ok (.iload_n 1, 1) := by decide +kernel
theorem dX6_forgetMade_13 : decode cX6_forgetMade 13 = .ok (.iconst 0, 1) := by decide +kernel
theorem dX6_forgetMade_14 : decode cX6_forgetMade 14 = .ok (.iastore, 1) := by decide +kernel
theorem dX6_forgetMade_15 : decode cX6_forgetMade 15 = .ok (.iinc 1 1, 3) := by decide +kernel
theorem dX6_forgetMade_18 : decode cX6_forgetMade 18 = .ok (.goto (-16), 3) := by decide +kernel
theorem dX6_forgetMade_21 : decode cX6_forgetMade 21 = .ok (.return_, 1) := by decide +kernel
theorem dX6_becomes_0 : decode cX6_becomes 0 = .ok (.iload_n 0, 1) := by decide +kernel
theorem dX6_becomes_1 : decode cX6_becomes 1 = .ok (.ifCond .lt 17, 3) := by decide +kernel
theorem dX6_becomes_4 : decode cX6_becomes 4 = .ok (.iload_n 0, 1) := by decide +kernel
theorem dX6_becomes_5 : decode cX6_becomes 5 = .ok (.bipush 8, 2) := by decide +kernel
theorem dX6_becomes_7 : decode cX6_becomes 7 = .ok (.if_icmp .ge 11, 3) := by decide +kernel
theorem dX6_becomes_10 : decode cX6_becomes 10 = .ok (.getstatic 237, 3) := by decide +kernel
theorem dX6_becomes_13 : decode cX6_becomes 13 = .ok (.iload_n 0, 1) := by decide +kernel
theorem dX6_becomes_14 : decode cX6_becomes 14 = .ok (.iaload, 1) := by decide +kernel
theorem dX6_becomes_15 : decode cX6_becomes 15 = .ok (.goto 4, 3) := by decide +kernel
theorem dX6_becomes_18 : decode cX6_becomes 18 = .ok (.iconst 0, 1) := by decide +kernel
theorem dX6_becomes_19 : decode cX6_becomes 19 = .ok (.ireturn, 1) := by decide +kernel
theorem dX6_gradeOf_0 : decode cX6_gradeOf 0 = .ok (.iload_n 0, 1) := by decide +kernel
theorem dX6_gradeOf_1 : decode cX6_gradeOf 1 = .ok (.ifCond .lt 17, 3) := by decide +kernel
theorem dX6_gradeOf_4 : decode cX6_gradeOf 4 = .ok (.iload_n 0, 1) := by decide +kernel
theorem dX6_gradeOf_5 : decode cX6_gradeOf 5 = .ok (.bipush 8, 2) := by decide +kernel
theorem dX6_gradeOf_7 : decode cX6_gradeOf 7 = .ok (.if_icmp .ge 11, 3) := by decide +kernel
theorem dX6_gradeOf_10 : decode cX6_gradeOf 10 = .ok (.getstatic 240, 3) := by decide +kernel
theorem dX6_gradeOf_13 : decode cX6_gradeOf 13 = .ok (.iload_n 0, 1) := by decide +kernel
theorem dX6_gradeOf_14 : decode cX6_gradeOf 14 = .ok (.iaload, 1) := by decide +kernel
theorem dX6_gradeOf_15 : decode cX6_gradeOf 15 = .ok (.goto 4, 3) := by decide +kernel
theorem dX6_gradeOf_18 : decode cX6_gradeOf 18 = .ok (.iconst 0, 1) := by decide +kernel
theorem dX6_gradeOf_19 : decode cX6_gradeOf 19 = .ok (.ireturn, 1) := by decide +kernel
theorem dX6_leastOf_0 : decode cX6_leastOf 0 = .ok (.lload_n 0, 1) := by decide +kernel
theorem dX6_leastOf_1 : decode cX6_leastOf 1 = .ok (.lconst 0, 1) := by decide +kernel
theorem dX6_leastOf_2 : decode cX6_leastOf 2 = .ok (.lcmp, 1) := by decide +kernel
theorem dX6_leastOf_3 : decode cX6_leastOf 3 = .ok (.ifCond .ne 7, 3) := by decide +kernel
theorem dX6_leastOf_6 : decode cX6_leastOf 6 = .ok (.iconst (-1), 1) := by decide +kernel
theorem dX6_leastOf_7 : decode cX6_leastOf 7 = .ok (.goto 12, 3) := by decide +kernel
theorem dX6_leastOf_10 : decode cX6_leastOf 10 = .ok (.lload_n 0, 1) := by decide +kernel
theorem dX6_leastOf_11 : decode cX6_leastOf 11 = .ok (.lload_n 0, 1) := by decide +kernel
theorem dX6_leastOf_12 : decode cX6_leastOf 12 = .ok (.lneg, 1) := by decide +kernel
theorem dX6_leastOf_13 : decode cX6_leastOf 13 = .ok (.land, 1) := by decide +kernel
theorem dX6_leastOf_14 : decode cX6_leastOf 14 = .ok (.lconst 1, 1) := by decide +kernel
theorem dX6_leastOf_15 : decode cX6_leastOf 15 = .ok (.lsub, 1) := by decide +kernel
theorem dX6_leastOf_16 : decode cX6_leastOf 16 = .ok (.invokestatic 123, 3) := by decide +kernel
theorem dX6_leastOf_19 : decode cX6_leastOf 19 = .ok (.ireturn, 1) := by decide +kernel
theorem dX6_with_0 : decode cX6_with 0 = .ok (.iload_n 2, 1) := by decide +kernel
theorem dX6_with_1 : decode cX6_with 1 = .ok (.ifCond .eq 11, 3) := by decide +kernel
theorem dX6_with_4 : decode cX6_with 4 = .ok (.iload_n 0, 1) := by decide +kernel
theorem dX6_with_5 : decode cX6_with 5 = .ok (.iconst 1, 1) := by decide +kernel
theorem dX6_with_6 : decode cX6_with 6 = .ok (.iload_n 1, 1) := by decide +kernel
theorem dX6_with_7 : decode cX6_with 7 = .ok (.ishl, 1) := by decide +kernel
theorem dX6_with_8 : decode cX6_with 8 = .ok (.ior, 1) := by decide +kernel
theorem dX6_with_9 : decode cX6_with 9 = .ok (.goto 10, 3) := by decide +kernel
theorem dX6_with_12 : decode cX6_with 12 = .ok (.iload_n 0, 1) := by decide +kernel
theorem dX6_with_13 : decode cX6_with 13 = .ok (.iconst 1, 1) := by decide +kernel
theorem dX6_with_14 : decode cX6_with 14 = .ok (.iload_n 1, 1) := by decide +kernel
theorem dX6_with_15 : decode cX6_with 15 = .ok (.ishl, 1) := by decide +kernel
theorem dX6_with_16 : decode cX6_with 16 = .ok (.iconst (-1), 1) := by decide +kernel
theorem dX6_with_17 : decode cX6_with 17 = .ok (.ixor, 1) := by decide +kernel
theorem dX6_with_18 : decode cX6_with 18 = .ok (.iand, 1) := by decide +kernel
theorem dX6_with_19 : decode cX6_with 19 = .ok (.ireturn, 1) := by decide +kernel
theorem dX7_init_0 : decode cX7_init 0 = .ok (.aload_n 0, 1) := by decide +kernel
theorem dX7_init_1 : decode cX7_init 1 = .ok (.invokespecial 1, 3) := by decide +kernel
theorem dX7_init_4 : decode cX7_init 4 = .ok (.aload_n 0, 1) := by decide +kernel
theorem dX7_init_5 : decode cX7_init 5 = .ok (.bipush 66, 2) := by decide +kernel
theorem dX7_init_7 : decode cX7_init 7 = .ok (.newarray .int, 2) := by decide +kernel
theorem dX7_init_9 : decode cX7_init 9 = .ok (.putfield 7, 3) := by decide +kernel
theorem dX7_init_12 : decode cX7_init 12 = .ok (.aload_n 0, 1) := by decide +kernel
theorem dX7_init_13 : decode cX7_init 13 = .ok (.sipush 528, 3) := by decide +kernel
theorem dX7_init_16 : decode cX7_init 16 = .ok (.newarray .int, 2) := by decide +kernel
theorem dX7_init_18 : decode cX7_init 18 = .ok (.putfield 13, 3) := by decide +kernel
theorem dX7_init_21 : decode cX7_init 21 = .ok (.aload_n 0, 1) := by decide +kernel
theorem dX7_init_22 : decode cX7_init 22 = .ok (.bipush 40, 2) := by decide +kernel
theorem dX7_init_24 : decode cX7_init 24 = .ok (.newarray .int, 2) := by decide +kernel
theorem dX7_init_26 : decode cX7_init 26 = .ok (.putfield 16, 3) := by decide +kernel
theorem dX7_init_29 : decode cX7_init 29 = .ok (.aload_n 0, 1) := by decide +kernel
theorem dX7_init_30 : decode cX7_init 30 = .ok (.bipush 25, 2) := by decide +kernel
theorem dX7_init_32 : decode cX7_init 32 = .ok (.newarray .int, 2) := by decide +kernel
theorem dX7_init_34 : decode cX7_init 34 = .ok (.putfield 19, 3) := by decide +kernel
theorem dX7_init_37 : decode cX7_init 37 = .ok (.aload_n 0, 1) := by decide +kernel
theorem dX7_init_38 : decode cX7_init 38 = .ok (.bipush 25, 2) := by decide +kernel
theorem dX7_init_40 : decode cX7_init 40 = .ok (.newarray .int, 2) := by decide +kernel
theorem dX7_init_42 : decode cX7_init 42 = .ok (.putfield 22, 3) := by decide +kernel
theorem dX7_init_45 : decode cX7_init 45 = .ok (.aload_n 0, 1) := by decide +kernel
theorem dX7_init_46 : decode cX7_init 46 = .ok (.bipush 25, 2) := by decide +kernel
theorem dX7_init_48 : decode cX7_init 48 = .ok (.newarray .boolean, 2) := by decide +kernel
theorem dX7_init_50 : decode cX7_init 50 = .ok (.putfield 25, 3) := by decide +kernel
theorem dX7_init_53 : decode cX7_init 53 = .ok (.aload_n 0, 1) := by decide +kernel
theorem dX7_init_54 : decode cX7_init 54 = .ok (.bipush 40, 2) := by decide +kernel
theorem dX7_init_56 : decode cX7_init 56 = .ok (.newarray .int, 2) := by decide +kernel
theorem dX7_init_58 : decode cX7_init 58 = .ok (.putfield 29, 3) := by decide +kernel
theorem dX7_init_61 : decode cX7_init 61 = .ok (.aload_n 0, 1) := by decide +kernel
theorem dX7_init_62 : decode cX7_init 62 = .ok (.bipush 16, 2) := by decide +kernel
theorem dX7_init_64 : decode cX7_init 64 = .ok (.newarray .int, 2) := by decide +kernel
theorem dX7_init_66 : decode cX7_init 66 = .ok (.putfield 32, 3) := by decide +kernel
theorem dX7_init_69 : decode cX7_init 69 = .ok (.aload_n 0, 1) := by decide +kernel
theorem dX7_init_70 : decode cX7_init 70 = .ok (.sipush 1920, 3) := by decide +kernel
theorem dX7_init_73 : decode cX7_init 73 = .ok (.newarray .int, 2) := by decide +kernel
theorem dX7_init_75 : decode cX7_init 75 = .ok (.putfield 35, 3) := by decide +kernel
theorem dX7_init_78 : decode cX7_init 78 = .ok (.aload_n 0, 1) := by decide +kernel
theorem dX7_init_79 : decode cX7_init 79 = .ok (.bipush 40, 2) := by decide +kernel
theorem dX7_init_81 : decode cX7_init 81 = .ok (.newarray .int, 2) := by decide +kernel
theorem dX7_init_83 : decode cX7_init 83 = .ok (.putfield 38, 3) := by decide +kernel
theorem dX7_init_86 : decode cX7_init 86 = .ok (.aload_n 0, 1) := by decide +kernel
theorem dX7_init_87 : decode cX7_init 87 = .ok (.bipush 40, 2) := by decide +kernel
theorem dX7_init_89 : decode cX7_init 89 = .ok (.newarray .int, 2) := by decide +kernel
theorem dX7_init_91 : decode cX7_init 91 = .ok (.putfield 41, 3) := by decide +kernel
theorem dX7_init_94 : decode cX7_init 94 = .ok (.aload_n 0, 1) := by decide +kernel
theorem dX7_init_95 : decode cX7_init 95 = .ok (.getfield 7, 3) := by decide +kernel
theorem dX7_init_98 : decode cX7_init 98 = .ok (.iconst 0, 1) := by decide +kernel
theorem dX7_init_99 : decode cX7_init 99 = .ok (.iconst 3, 1) := by decide +kernel
theorem dX7_init_100 : decode cX7_init 100 = .ok (.iastore, 1) := by decide +kernel
theorem dX7_init_101 : decode cX7_init 101 = .ok (.aload_n 0, 1) := by decide +kernel
theorem dX7_init_102 : decode cX7_init 102 = .ok (.getfield 7, 3) := by decide +kernel
theorem dX7_init_105 : decode cX7_init 105 = .ok (.iconst 1, 1) := by decide +kernel
theorem dX7_init_106 : decode cX7_init 106 = .ok (.iconst 3, 1) := by decide +kernel
theorem dX7_init_107 : decode cX7_init 107 = .ok (.iastore, 1) := by decide +kernel
theorem dX7_init_108 : decode cX7_init 108 = .ok (.iconst 0, 1) := by decide +kernel
theorem dX7_init_109 : decode cX7_init 109 = .ok (.istore_n 1, 1) := by decide +kernel
theorem dX7_init_110 : decode cX7_init 110 = .ok (.iload_n 1, 1) := by decide +kernel
theorem dX7_init_111 : decode cX7_init 111 = .ok (.bipush 16, 2) := by decide +kernel
theorem dX7_init_113 : decode cX7_init 113 = .ok (.if_icmp .ge 18, 3) := by decide +kernel
theorem dX7_init_116 : decode cX7_init 116 = .ok (.aload_n 0, 1) := by decide +kernel
theorem dX7_init_117 : decode cX7_init 117 = .ok (.getfield 7, 3) := by decide +kernel
theorem dX7_init_120 : decode cX7_init 120 = .ok (.iconst 2, 1) := by decide +kernel
theorem dX7_init_121 : decode cX7_init 121 = .ok (.iload_n 1, 1) := by decide +kernel
theorem dX7_init_122 : decode cX7_init 122 = .ok (.iadd, 1) := by decide +kernel
theorem dX7_init_123 : decode cX7_init 123 = .ok (.iconst (-1), 1) := by decide +kernel
theorem dX7_init_124 : decode cX7_init 124 = .ok (.iastore, 1) := by decide +kernel
theorem dX7_init_125 : decode cX7_init 125 = .ok (.iinc 1 1, 3) := by decide +kernel
theorem dX7_init_128 : decode cX7_init 128 = .ok (.goto (-18), 3) := by decide +kernel
theorem dX7_init_131 : decode cX7_init 131 = .ok (.return_, 1) := by decide +kernel
theorem dX7_in_0 : decode cX7_in 0 = .ok (.iload_n 0, 1) := by decide +kernel
theorem dX7_in_1 : decode cX7_in 1 = .ok (.iload_n 1, 1) := by decide +kernel
theorem dX7_in_2 : decode cX7_in 2 = .ok (.if_icmp .lt 12, 3) := by decide +kernel
theorem dX7_in_5 : decode cX7_in 5 = .ok (.iload_n 0, 1) := by decide +kernel
theorem dX7_in_6 : decode cX7_in 6 = .ok (.iload_n 2, 1) := by decide +kernel
theorem dX7_in_7 : decode cX7_in 7 = .ok (.if_icmp .gt 7, 3) := by decide +kernel
theorem dX7_in_10 : decode cX7_in 10 = .ok (.iconst 1, 1) := by decide +kernel
theorem dX7_in_11 : decode cX7_in 11 = .ok (.goto 4, 3) := by decide +kernel
theorem dX7_in_14 : decode cX7_in 14 = .ok (.iconst 0, 1) := by decide +kernel
theorem dX7_in_15 : decode cX7_in 15 = .ok (.ireturn, 1) := by decide +kernel
theorem dX7_keeps_0 : decode cX7_keeps 0 = .ok (.aload_n 0, 1) := by decide +kernel
theorem dX7_keeps_1 : decode cX7_keeps 1 = .ok (.getfield 44, 3) := by decide +kernel
theorem dX7_keeps_4 : decode cX7_keeps 4 = .ok (.bipush 8, 2) := by decide +kernel
theorem dX7_keeps_6 : decode cX7_keeps 6 = .ok (.if_icmp .ne 43, 3) := by decide +kernel
theorem dX7_keeps_9 : decode cX7_keeps 9 = .ok (.iconst 0, 1) := by decide +kernel
theorem dX7_keeps_10 : decode cX7_keeps 10 = .ok (.istore_n 1, 1) := by decide +kernel
theorem dX7_keeps_11 : decode cX7_keeps 11 = .ok (.iload_n 1, 1) := by decide +kernel
theorem dX7_keeps_12 : decode cX7_keeps 12 = .ok (.sipush 462, 3) := by decide +kernel
theorem dX7_keeps_15 : decode cX7_keeps 15 = .ok (.if_icmp .ge 24, 3) := by decide +kernel
theorem dX7_keeps_18 : decode cX7_keeps 18 = .ok (.aload_n 0, 1) := by decide +kernel
theorem dX7_keeps_19 : decode cX7_keeps 19 = .ok (.getfield 13, 3) := by decide +kernel
theorem dX7_keeps_22 : decode cX7_keeps 22 = .ok (.iload_n 1, 1) := by decide +kernel
theorem dX7_keeps_23 : decode cX7_keeps 23 = .ok (.aload_n 0, 1) := by decide +kernel
theorem dX7_keeps_24 : decode cX7_keeps 24 = .ok (.getfield 13, 3) := by decide +kernel
theorem dX7_keeps_27 : decode cX7_keeps 27 = .ok (.iload_n 1, 1) := by decide +kernel
theorem dX7_keeps_28 : decode cX7_keeps 28 = .ok (.bipush 66, 2) := by decide +kernel
theorem dX7_keeps_30 : decode cX7_keeps 30 = .ok (.iadd, 1) := by decide +kernel
theorem dX7_keeps_31 : decode cX7_keeps 31 = .ok (.iaload, 1) := by decide +kernel
theorem dX7_keeps_32 : decode cX7_keeps 32 = .ok (.iastore, 1) := by decide +kernel
theorem dX7_keeps_33 : decode cX7_keeps 33 = .ok (.iinc 1 1, 3) := by decide +kernel
theorem dX7_keeps_36 : decode cX7_keeps 36 = .ok (.goto (-25), 3) := by decide +kernel
theorem dX7_keeps_39 : decode cX7_keeps 39 = .ok (.aload_n 0, 1) := by decide +kernel
theorem dX7_keeps_40 : decode cX7_keeps 40 = .ok (.dup, 1) := by decide +kernel
theorem dX7_keeps_41 : decode cX7_keeps 41 = .ok (.getfield 44, 3) := by decide +kernel
theorem dX7_keeps_44 : decode cX7_keeps 44 = .ok (.iconst 1, 1) := by decide +kernel
theorem dX7_keeps_45 : decode cX7_keeps 45 = .ok (.isub, 1) := by decide +kernel
theorem dX7_keeps_46 : decode cX7_keeps 46 = .ok (.putfield 44, 3) := by decide +kernel
theorem dX7_keeps_49 : decode cX7_keeps 49 = .ok (.iconst 0, 1) := by decide +kernel
theorem dX7_keeps_50 : decode cX7_keeps 50 = .ok (.istore_n 1, 1) := by decide +kernel
theorem dX7_keeps_51 : decode cX7_keeps 51 = .ok (.iload_n 1, 1) := by decide +kernel
theorem dX7_keeps_52 : decode cX7_keeps 52 = .ok (.bipush 66, 2) := by decide +kernel
theorem dX7_keeps_54 : decode cX7_keeps 54 = .ok (.if_icmp .ge 29, 3) := by decide +kernel
theorem dX7_keeps_57 : decode cX7_keeps 57 = .ok (.aload_n 0, 1) := by decide +kernel
theorem dX7_keeps_58 : decode cX7_keeps 58 = .ok (.getfield 13, 3) := by decide +kernel
theorem dX7_keeps_61 : decode cX7_keeps 61 = .ok (.bipush 66, 2) := by decide +kernel
theorem dX7_keeps_63 : decode cX7_keeps 63 = .ok (.aload_n 0, 1) := by decide +kernel
theorem dX7_keeps_64 : decode cX7_keeps 64 = .ok (.getfield 44, 3) := by decide +kernel
theorem dX7_keeps_67 : decode cX7_keeps 67 = .ok (.imul, 1) := by decide +kernel
theorem dX7_keeps_68 : decode cX7_keeps 68 = .ok (.iload_n 1, 1) := by decide +kernel
theorem dX7_keeps_69 : decode cX7_keeps 69 = .ok (.iadd, 1) := by decide +kernel
theorem dX7_keeps_70 : decode cX7_keeps 70 = .ok (.aload_n 0, 1) := by decide +kernel
theorem dX7_keeps_71 : decode cX7_keeps 71 = .ok (.getfield 7, 3) := by decide +kernel
theorem dX7_keeps_74 : decode cX7_keeps 74 = .ok (.iload_n 1, 1) := by decide +kernel
theorem dX7_keeps_75 : decode cX7_keeps 75 = .ok (.iaload, 1) := by decide +kernel
theorem dX7_keeps_76 : decode cX7_keeps 76 = .ok (.iastore, 1) := by decide +kernel
theorem dX7_keeps_77 : decode cX7_keeps 77 = .ok (.iinc 1 1, 3) := by decide +kernel
theorem dX7_keeps_80 : decode cX7_keeps 80 = .ok (.goto (-29), 3) := by decide +kernel
theorem dX7_keeps_83 : decode cX7_keeps 83 = .ok (.aload_n 0, 1) := by decide +kernel
theorem dX7_keeps_84 : decode cX7_keeps 84 = .ok (.dup, 1) := by decide +kernel
theorem dX7_keeps_85 : decode cX7_keeps 85 = .ok (.getfield 44, 3) := by decide +kernel
theorem dX7_keeps_88 : decode cX7_keeps 88 = .ok (.iconst 1, 1) := by decide +kernel
theorem dX7_keeps_89 : decode cX7_keeps 89 = .ok (.iadd, 1) := by decide +kernel
theorem dX7_keeps_90 : decode cX7_keeps 90 = .ok (.putfield 44, 3) := by decide +kernel
theorem dX7_keeps_93 : decode cX7_keeps 93 = .ok (.return_, 1) := by decide +kernel
theorem dX7_undo_0 : decode cX7_undo 0 = .ok (.aload_n 0, 1) := by decide +kernel
theorem dX7_undo_1 : decode cX7_undo 1 = .ok (.getfield 44, 3) := by decide +kernel
theorem dX7_undo_4 : decode cX7_undo 4 = .ok (.ifCond .ne 6, 3) := by decide +kernel
theorem dX7_undo_7 : decode cX7_undo 7 = .ok (.bipush (-3), 2) := by decide +kernel
theorem dX7_undo_9 : decode cX7_undo 9 = .ok (.ireturn, 1) := by decide +kernel
theorem dX7_undo_10 : decode cX7_undo 10 = .ok (.aload_n 0, 1) := by decide +kernel
theorem dX7_undo_11 : decode cX7_undo 11 = .ok (.dup, 1) := by decide +kernel
theorem dX7_undo_12 : decode cX7_undo 12 = .ok (.getfield 44, 3) := by decide +kernel
theorem dX7_undo_15 : decode cX7_undo 15 = .ok (.iconst 1, 1) := by decide +kernel
theorem dX7_undo_16 : decode cX7_undo 16 = .ok (.isub, 1) := by decide +kernel
theorem dX7_undo_17 : decode cX7_undo 17 = .ok (.putfield 44, 3) := by decide +kernel
theorem dX7_undo_20 : decode cX7_undo 20 = .ok (.iconst 0, 1) := by decide +kernel
theorem dX7_undo_21 : decode cX7_undo 21 = .ok (.istore_n 1, 1) := by decide +kernel
theorem dX7_undo_22 : decode cX7_undo 22 = .ok (.iload_n 1, 1) := by decide +kernel
theorem dX7_undo_23 : decode cX7_undo 23 = .ok (.bipush 66, 2) := by decide +kernel
theorem dX7_undo_25 : decode cX7_undo 25 = .ok (.if_icmp .ge 29, 3) := by decide +kernel
theorem dX7_undo_28 : decode cX7_undo 28 = .ok (.aload_n 0, 1) := by decide +kernel
theorem dX7_undo_29 : decode cX7_undo 29 = .ok (.getfield 7, 3) := by decide +kernel
theorem dX7_undo_32 : decode cX7_undo 32 = .ok (.iload_n 1, 1) := by decide +kernel
theorem dX7_undo_33 : decode cX7_undo 33 = .ok (.aload_n 0, 1) := by decide +kernel
theorem dX7_undo_34 : decode cX7_undo 34 = .ok (.getfield 13, 3) := by decide +kernel
theorem dX7_undo_37 : decode cX7_undo 37 = .ok (.bipush 66, 2) := by decide +kernel
theorem dX7_undo_39 : decode cX7_undo 39 = .ok (.aload_n 0, 1) := by decide +kernel
theorem dX7_undo_40 : decode cX7_undo 40 = .ok (.getfield 44, 3) := by decide +kernel
theorem dX7_undo_43 : decode cX7_undo 43 = .ok (.imul, 1) := by decide +kernel
theorem dX7_undo_44 : decode cX7_undo 44 = .ok (.iload_n 1, 1) := by decide +kernel
theorem dX7_undo_45 : decode cX7_undo 45 = .ok (.iadd, 1) := by decide +kernel
theorem dX7_undo_46 : decode cX7_undo 46 = .ok (.iaload, 1) := by decide +kernel
theorem dX7_undo_47 : decode cX7_undo 47 = .ok (.iastore, 1) := by decide +kernel
theorem dX7_undo_48 : decode cX7_undo 48 = .ok (.iinc 1 1, 3) := by decide +kernel
theorem dX7_undo_51 : decode cX7_undo 51 = .ok (.goto (-29), 3) := by decide +kernel
theorem dX7_undo_54 : decode cX7_undo 54 = .ok (.aload_n 0, 1) := by decide +kernel
theorem dX7_undo_55 : decode cX7_undo 55 = .ok (.getfield 44, 3) := by decide +kernel
theorem dX7_undo_58 : decode cX7_undo 58 = .ok (.ireturn, 1) := by decide +kernel
theorem dX7_cells_0 : decode cX7_cells 0 = .ok (.aload_n 0, 1) := by decide +kernel
theorem dX7_cells_1 : decode cX7_cells 1 = .ok (.getfield 7, 3) := by decide +kernel
theorem dX7_cells_4 : decode cX7_cells 4 = .ok (.iconst 0, 1) := by decide +kernel
theorem dX7_cells_5 : decode cX7_cells 5 = .ok (.iaload, 1) := by decide +kernel
theorem dX7_cells_6 : decode cX7_cells 6 = .ok (.aload_n 0, 1) := by decide +kernel
theorem dX7_cells_7 : decode cX7_cells 7 = .ok (.getfield 7, 3) := by decide +kernel
theorem dX7_cells_10 : decode cX7_cells 10 = .ok (.iconst 1, 1) := by decide +kernel
theorem dX7_cells_11 : decode cX7_cells 11 = .ok (.iaload, 1) := by decide +kernel
theorem dX7_cells_12 : decode cX7_cells 12 = .ok (.imul, 1) := by decide +kernel
theorem dX7_cells_13 : decode cX7_cells 13 = .ok (.ireturn, 1) := by decide +kernel
theorem dX7_corners_0 : decode cX7_corners 0 = .ok (.aload_n 0, 1) := by decide +kernel
theorem dX7_corners_1 : decode cX7_corners 1 = .ok (.getfield 7, 3) := by decide +kernel
theorem dX7_corners_4 : decode cX7_corners 4 = .ok (.iconst 0, 1) := by decide +kernel
theorem dX7_corners_5 : decode cX7_corners 5 = .ok (.iaload, 1) := by decide +kernel
theorem dX7_corners_6 : decode cX7_corners 6 = .ok (.iconst 1, 1) := by decide +kernel
theorem dX7_corners_7 : decode cX7_corners 7 = .ok (.iadd, 1) := by decide +kernel
theorem dX7_corners_8 : decode cX7_corners 8 = .ok (.aload_n 0, 1) := by decide +kernel
theorem dX7_corners_9 : decode cX7_corners 9 = .ok (.getfield 7, 3) := by decide +kernel
theorem dX7_corners_12 : decode cX7_corners 12 = .ok (.iconst 1, 1) := by decide +kernel
theorem dX7_corners_13 : decode cX7_corners 13 = .ok (.iaload, 1) := by decide +kernel
theorem dX7_corners_14 : decode cX7_corners 14 = .ok (.iconst 1, 1) := by decide +kernel
theorem dX7_corners_15 : decode cX7_corners 15 = .ok (.iadd, 1) := by decide +kernel
theorem dX7_corners_16 : decode cX7_corners 16 = .ok (.imul, 1) := by decide +kernel
theorem dX7_corners_17 : decode cX7_corners 17 = .ok (.ireturn, 1) := by decide +kernel
theorem dX7_vertical_0 : decode cX7_vertical 0 = .ok (.aload_n 0, 1) := by decide +kernel
theorem dX7_vertical_1 : decode cX7_vertical 1 = .ok (.getfield 7, 3) := by decide +kernel
theorem dX7_vertical_4 : decode cX7_vertical 4 = .ok (.iconst 1, 1) := by decide +kernel
theorem dX7_vertical_5 : decode cX7_vertical 5 = .ok (.iaload, 1) := by decide +kernel
theorem dX7_vertical_6 : decode cX7_vertical 6 = .ok (.iconst 1, 1) := by decide +kernel
theorem dX7_vertical_7 : decode cX7_vertical 7 = .ok (.iadd, 1) := by decide +kernel
theorem dX7_vertical_8 : decode cX7_vertical 8 = .ok (.aload_n 0, 1) := by decide +kernel
theorem dX7_vertical_9 : decode cX7_vertical 9 = .ok (.getfield 7, 3) := by decide +kernel
theorem dX7_vertical_12 : decode cX7_vertical 12 = .ok (.iconst 0, 1) := by decide +kernel
theorem dX7_vertical_13 : decode cX7_vertical 13 = .ok (.iaload, 1) := by decide +kernel
theorem dX7_vertical_14 : decode cX7_vertical 14 = .ok (.imul, 1) := by decide +kernel
theorem dX7_vertical_15 : decode cX7_vertical 15 = .ok (.ireturn, 1) := by decide +kernel
theorem dX7_edges_0 : decode cX7_edges 0 = .ok (.aload_n 0, 1) := by decide +kernel
theorem dX7_edges_1 : decode cX7_edges 1 = .ok (.invokevirtual 48, 3) := by decide +kernel
theorem dX7_edges_4 : decode cX7_edges 4 = .ok (.aload_n 0, 1) := by decide +kernel
theorem dX7_edges_5 : decode cX7_edges 5 = .ok (.getfield 7, 3) := by decide +kernel
theorem dX7_edges_8 : decode cX7_edges 8 = .ok (.iconst 1, 1) := by decide +kernel
theorem dX7_edges_9 : decode cX7_edges 9 = .ok (.iaload, 1) := by decide +kernel
theorem dX7_edges_10 : decode cX7_edges 10 = .ok (.aload_n 0, 1) := by decide +kernel
theorem dX7_edges_11 : decode cX7_edges 11 = .ok (.getfield 7, 3) := by decide +kernel
theorem dX7_edges_14 : decode cX7_edges 14 = .ok (.iconst 0, 1) := by decide +kernel
theorem dX7_edges_15 : decode cX7_edges 15 = .ok (.iaload, 1) := by decide +kernel
theorem dX7_edges_16 : decode cX7_edges 16 = .ok (.iconst 1, 1) := by decide +kernel
theorem dX7_edges_17 : decode cX7_edges 17 = .ok (.iadd, 1) := by decide +kernel
theorem dX7_edges_18 : decode cX7_edges 18 = .ok (.imul, 1) := by decide +kernel
theorem dX7_edges_19 : decode cX7_edges 19 = .ok (.iadd, 1) := by decide +kernel
theorem dX7_edges_20 : decode cX7_edges 20 = .ok (.ireturn, 1) := by decide +kernel
theorem dX7_aroundCell_0 : decode cX7_aroundCell 0 = .ok (.iload_n 1, 1) := by decide +kernel
theorem dX7_aroundCell_1 : decode cX7_aroundCell 1 = .ok (.aload_n 0, 1) := by decide +kernel
theorem dX7_aroundCell_2 : decode cX7_aroundCell 2 = .ok (.getfield 7, 3) := by decide +kernel
theorem dX7_aroundCell_5 : decode cX7_aroundCell 5 = .ok (.iconst 0, 1) := by decide +kernel
theorem dX7_aroundCell_6 : decode cX7_aroundCell 6 = .ok (.iaload, 1) := by decide +kernel
theorem dX7_aroundCell_7 : decode cX7_aroundCell 7 = .ok (.idiv, 1) := by decide +kernel
theorem dX7_aroundCell_8 : decode cX7_aroundCell 8 = .ok (.istore_n 3, 1) := by decide +kernel
theorem dX7_aroundCell_9 : decode cX7_aroundCell 9 = .ok (.iload_n 1, 1) := by decide +kernel
theorem dX7_aroundCell_10 : decode cX7_aroundCell 10 = .ok (.aload_n 0, 1) := by decide +kernel
theorem dX7_aroundCell_11 : decode cX7_aroundCell 11 = .ok (.getfield 7, 3) := by decide +kernel
theorem dX7_aroundCell_14 : decode cX7_aroundCell 14 = .ok (.iconst 0, 1) := by decide +kernel
theorem dX7_aroundCell_15 : decode cX7_aroundCell 15 = .ok (.iaload, 1) := by decide +kernel
theorem dX7_aroundCell_16 : decode cX7_aroundCell 16 = .ok (.irem, 1) := by decide +kernel
theorem dX7_aroundCell_17 : decode cX7_aroundCell 17 = .ok (.istore 4, 2) := by decide +kernel
theorem dX7_aroundCell_19 : decode cX7_aroundCell 19 = .ok (.iload_n 2, 1) := by decide +kernel
theorem dX7_aroundCell_20 : decode cX7_aroundCell 20 = .ok (.iconst 2, 1) := by decide +kernel
theorem dX7_aroundCell_21 : decode cX7_aroundCell 21 = .ok (.if_icmp .ge 19, 3) := by decide +kernel
theorem dX7_aroundCell_24 : decode cX7_aroundCell 24 = .ok (.iload_n 3, 1) := by decide +kernel
theorem dX7_aroundCell_25 : decode cX7_aroundCell 25 = .ok (.iload_n 2, 1) := by decide +kernel
theorem dX7_aroundCell_26 : decode cX7_aroundCell 26 = .ok (.iadd, 1) := by decide +kernel
theorem dX7_aroundCell_27 : decode cX7_aroundCell 27 = .ok (.aload_n 0, 1) := by decide +kernel
theorem dX7_aroundCell_28 : decode cX7_aroundCell 28 = .ok (.getfield 7, 3) := by decide +kernel
theorem dX7_aroundCell_31 : decode cX7_aroundCell 31 = .ok (.iconst 0, 1) := by decide +kernel
theorem dX7_aroundCell_32 : decode cX7_aroundCell 32 = .ok (.iaload, 1) := by decide +kernel
theorem dX7_aroundCell_33 : decode cX7_aroundCell 33 = .ok (.imul, 1) := by decide +kernel
theorem dX7_aroundCell_34 : decode cX7_aroundCell 34 = .ok (.iload 4, 2) := by decide +kernel
theorem dX7_aroundCell_36 : decode cX7_aroundCell 36 = .ok (.iadd, 1) := by decide +kernel
theorem dX7_aroundCell_37 : decode cX7_aroundCell 37 = .ok (.goto 25, 3) := by decide +kernel
theorem dX7_aroundCell_40 : decode cX7_aroundCell 40 = .ok (.aload_n 0, 1) := by decide +kernel
theorem dX7_aroundCell_41 : decode cX7_aroundCell 41 = .ok (.invokevirtual 48, 3) := by decide +kernel
theorem dX7_aroundCell_44 : decode cX7_aroundCell 44 = .ok (.iload_n 3, 1) := by decide +kernel
theorem dX7_aroundCell_45 : decode cX7_aroundCell 45 = .ok (.aload_n 0, 1) := by decide +kernel
theorem dX7_aroundCell_46 : decode cX7_aroundCell 46 = .ok (.getfield 7, 3) := by decide +kernel
theorem dX7_aroundCell_49 : decode cX7_aroundCell 49 = .ok (.iconst 0, 1) := by decide +kernel
theorem dX7_aroundCell_50 : decode cX7_aroundCell 50 = .ok (.iaload, 1) := by decide +kernel
theorem dX7_aroundCell_51 : decode cX7_aroundCell 51 = .ok (.iconst 1, 1) := by decide +kernel
theorem dX7_aroundCell_52 : decode cX7_aroundCell 52 = .ok (.iadd, 1) := by decide +kernel
theorem dX7_aroundCell_53 : decode cX7_aroundCell 53 = .ok (.imul, 1) := by decide +kernel
theorem dX7_aroundCell_54 : decode cX7_aroundCell 54 = .ok (.iadd, 1) := by decide +kernel
theorem dX7_aroundCell_55 : decode cX7_aroundCell 55 = .ok (.iload 4, 2) := by decide +kernel
theorem dX7_aroundCell_57 : decode cX7_aroundCell 57 = .ok (.iadd, 1) := by decide +kernel
theorem dX7_aroundCell_58 : decode cX7_aroundCell 58 = .ok (.iload_n 2, 1) := by decide +kernel
theorem dX7_aroundCell_59 : decode cX7_aroundCell 59 = .ok (.iadd, 1) := by decide +kernel
theorem dX7_aroundCell_60 : decode cX7_aroundCell 60 = .ok (.iconst 2, 1) := by decide +kernel
theorem dX7_aroundCell_61 : decode cX7_aroundCell 61 = .ok (.isub, 1) := by decide +kernel
theorem dX7_aroundCell_62 : decode cX7_aroundCell 62 = .ok (.ireturn, 1) := by decide +kernel
theorem dX7_toward_0 : decode cX7_toward 0 = .ok (.iload_n 1, 1) := by decide +kernel
theorem dX7_toward_1 : decode cX7_toward 1 = .ok (.aload_n 0, 1) := by decide +kernel
theorem dX7_toward_2 : decode cX7_toward 2 = .ok (.getfield 7, 3) := by decide +kernel
theorem dX7_toward_5 : decode cX7_toward 5 = .ok (.iconst 0, 1) := by decide +kernel
theorem dX7_toward_6 : decode cX7_toward 6 = .ok (.iaload, 1) := by decide +kernel
theorem dX7_toward_7 : decode cX7_toward 7 = .ok (.iconst 1, 1) := by decide +kernel
theorem dX7_toward_8 : decode cX7_toward 8 = .ok (.iadd, 1) := by decide +kernel
theorem dX7_toward_9 : decode cX7_toward 9 = .ok (.idiv, 1) := by decide +kernel
theorem dX7_toward_10 : decode cX7_toward 10 = .ok (.istore_n 3, 1) := by decide +kernel
theorem dX7_toward_11 : decode cX7_toward 11 = .ok (.iload_n 1, 1) := by decide +kernel
theorem dX7_toward_12 : decode cX7_toward 12 = .ok (.aload_n 0, 1) := by decide +kernel
theorem dX7_toward_13 : decode cX7_toward 13 = .ok (.getfield 7, 3) := by decide +kernel
theorem dX7_toward_16 : decode cX7_toward 16 = .ok (.iconst 0, 1) := by decide +kernel
theorem dX7_toward_17 : decode cX7_toward 17 = .ok (.iaload, 1) := by decide +kernel
theorem dX7_toward_18 : decode cX7_toward 18 = .ok (.iconst 1, 1) := by decide +kernel
theorem dX7_toward_19 : decode cX7_toward 19 = .ok (.iadd, 1) := by decide +kernel
theorem dX7_toward_20 : decode cX7_toward 20 = .ok (.irem, 1) := by decide +kernel
theorem dX7_toward_21 : decode cX7_toward 21 = .ok (.istore 4, 2) := by decide +kernel
theorem dX7_toward_23 : decode cX7_toward 23 = .ok (.iload_n 2, 1) := by decide +kernel
theorem dX7_toward_24 : decode cX7_toward 24 = .ok (.tableswitch 107 0 2 #[28, 51, 78], 28) := by decide +kernel
theorem dX7_toward_52 : decode cX7_toward 52 = .ok (.iload 4, 2) := by decide +kernel
theorem dX7_toward_54 : decode cX7_toward 54 = .ok (.ifCond .le 19, 3) := by decide +kernel
theorem dX7_toward_57 : decode cX7_toward 57 = .ok (.iload_n 3, 1) := by decide +kernel
theorem dX7_toward_58 : decode cX7_toward 58 = .ok (.aload_n 0, 1) := by decide +kernel
theorem dX7_toward_59 : decode cX7_toward 59 = .ok (.getfield 7, 3) := by decide +kernel
theorem dX7_toward_62 : decode cX7_toward 62 = .ok (.iconst 0, 1) := by decide +kernel
theorem dX7_toward_63 : decode cX7_toward 63 = .ok (.iaload, 1) := by decide +kernel
theorem dX7_toward_64 : decode cX7_toward 64 = .ok (.imul, 1) := by decide +kernel
theorem dX7_toward_65 : decode cX7_toward 65 = .ok (.iload 4, 2) := by decide +kernel
theorem dX7_toward_67 : decode cX7_toward 67 = .ok (.iadd, 1) := by decide +kernel
theorem dX7_toward_68 : decode cX7_toward 68 = .ok (.iconst 1, 1) := by decide +kernel
theorem dX7_toward_69 : decode cX7_toward 69 = .ok (.isub, 1) := by decide +kernel
theorem dX7_toward_70 : decode cX7_toward 70 = .ok (.goto 4, 3) := by decide +kernel
theorem dX7_toward_73 : decode cX7_toward 73 = .ok (.iconst (-1), 1) := by decide +kernel
theorem dX7_toward_74 : decode cX7_toward 74 = .ok (.ireturn, 1) := by decide +kernel
theorem dX7_toward_75 : decode cX7_toward 75 = .ok (.iload 4, 2) := by decide +kernel
theorem dX7_toward_77 : decode cX7_toward 77 = .ok (.aload_n 0, 1) := by decide +kernel
theorem dX7_toward_78 : decode cX7_toward 78 = .ok (.getfield 7, 3) := by decide +kernel
theorem dX7_toward_81 : decode cX7_toward 81 = .ok (.iconst 0, 1) := by decide +kernel
theorem dX7_toward_82 : decode cX7_toward 82 = .ok (.iaload, 1) := by decide +kernel
theorem dX7_toward_83 : decode cX7_toward 83 = .ok (.if_icmp .ge 17, 3) := by decide +kernel
theorem dX7_toward_86 : decode cX7_toward 86 = .ok (.iload_n 3, 1) := by decide +kernel
theorem dX7_toward_87 : decode cX7_toward 87 = .ok (.aload_n 0, 1) := by decide +kernel
theorem dX7_toward_88 : decode cX7_toward 88 = .ok (.getfield 7, 3) := by decide +kernel
theorem dX7_toward_91 : decode cX7_toward 91 = .ok (.iconst 0, 1) := by decide +kernel
theorem dX7_toward_92 : decode cX7_toward 92 = .ok (.iaload, 1) := by decide +kernel
theorem dX7_toward_93 : decode cX7_toward 93 = .ok (.imul, 1) := by decide +kernel
theorem dX7_toward_94 : decode cX7_toward 94 = .ok (.iload 4, 2) := by decide +kernel
theorem dX7_toward_96 : decode cX7_toward 96 = .ok (.iadd, 1) := by decide +kernel
theorem dX7_toward_97 : decode cX7_toward 97 = .ok (.goto 4, 3) := by decide +kernel
theorem dX7_toward_100 : decode cX7_toward 100 = .ok (.iconst (-1), 1) := by decide +kernel
theorem dX7_toward_101 : decode cX7_toward 101 = .ok (.ireturn, 1) := by decide +kernel
theorem dX7_toward_102 : decode cX7_toward 102 = .ok (.iload_n 3, 1) := by decide +kernel
theorem dX7_toward_103 : decode cX7_toward 103 = .ok (.ifCond .le 26, 3) := by decide +kernel
theorem dX7_toward_106 : decode cX7_toward 106 = .ok (.aload_n 0, 1) := by decide +kernel
theorem dX7_toward_107 : decode cX7_toward 107 = .ok (.invokevirtual 48, 3) := by decide +kernel
theorem dX7_toward_110 : decode cX7_toward 110 = .ok (.iload_n 3, 1) := by decide +kernel
theorem dX7_toward_111 : decode cX7_toward 111 = .ok (.iconst 1, 1) := by decide +kernel
theorem dX7_toward_112 : decode cX7_toward 112 = .ok (.isub, 1) := by decide +kernel
theorem dX7_toward_113 : decode cX7_toward 113 = .ok (.aload_n 0, 1) := by decide +kernel
theorem dX7_toward_114 : decode cX7_toward 114 = .ok (.getfield 7, 3) := by decide +kernel
theorem dX7_toward_117 : decode cX7_toward 117 = .ok (.iconst 0, 1) := by decide +kernel
theorem dX7_toward_118 : decode cX7_toward 118 = .ok (.iaload, 1) := by decide +kernel
theorem dX7_toward_119 : decode cX7_toward 119 = .ok (.iconst 1, 1) := by decide +kernel
theorem dX7_toward_120 : decode cX7_toward 120 = .ok (.iadd, 1) := by decide +kernel
theorem dX7_toward_121 : decode cX7_toward 121 = .ok (.imul, 1) := by decide +kernel
theorem dX7_toward_122 : decode cX7_toward 122 = .ok (.iadd, 1) := by decide +kernel
theorem dX7_toward_123 : decode cX7_toward 123 = .ok (.iload 4, 2) := by decide +kernel
theorem dX7_toward_125 : decode cX7_toward 125 = .ok (.iadd, 1) := by decide +kernel
theorem dX7_toward_126 : decode cX7_toward 126 = .ok (.goto 4, 3) := by decide +kernel
theorem dX7_toward_129 : decode cX7_toward 129 = .ok (.iconst (-1), 1) := by decide +kernel
theorem dX7_toward_130 : decode cX7_toward 130 = .ok (.ireturn, 1) := by decide +kernel
theorem dX7_toward_131 : decode cX7_toward 131 = .ok (.iload_n 3, 1) := by decide +kernel
theorem dX7_toward_132 : decode cX7_toward 132 = .ok (.aload_n 0, 1) := by decide +kernel
theorem dX7_toward_133 : decode cX7_toward 133 = .ok (.getfield 7, 3) := by decide +kernel
theorem dX7_toward_136 : decode cX7_toward 136 = .ok (.iconst 1, 1) := by decide +kernel
theorem dX7_toward_137 : decode cX7_toward 137 = .ok (.iaload, 1) := by decide +kernel
theorem dX7_toward_138 : decode cX7_toward 138 = .ok (.if_icmp .ge 24, 3) := by decide +kernel
theorem dX7_toward_141 : decode cX7_toward 141 = .ok (.aload_n 0, 1) := by decide +kernel
theorem dX7_toward_142 : decode cX7_toward 142 = .ok (.invokevirtual 48, 3) := by decide +kernel
theorem dX7_toward_145 : decode cX7_toward 145 = .ok (.iload_n 3, 1) := by decide +kernel
theorem dX7_toward_146 : decode cX7_toward 146 = .ok (.aload_n 0, 1) := by decide +kernel
theorem dX7_toward_147 : decode cX7_toward 147 = .ok (.getfield 7, 3) := by decide +kernel
theorem dX7_toward_150 : decode cX7_toward 150 = .ok (.iconst 0, 1) := by decide +kernel
theorem dX7_toward_151 : decode cX7_toward 151 = .ok (.iaload, 1) := by decide +kernel
theorem dX7_toward_152 : decode cX7_toward 152 = .ok (.iconst 1, 1) := by decide +kernel
theorem dX7_toward_153 : decode cX7_toward 153 = .ok (.iadd, 1) := by decide +kernel
theorem dX7_toward_154 : decode cX7_toward 154 = .ok (.imul, 1) := by decide +kernel
theorem dX7_toward_155 : decode cX7_toward 155 = .ok (.iadd, 1) := by decide +kernel
theorem dX7_toward_156 : decode cX7_toward 156 = .ok (.iload 4, 2) := by decide +kernel
theorem dX7_toward_158 : decode cX7_toward 158 = .ok (.iadd, 1) := by decide +kernel
theorem dX7_toward_159 : decode cX7_toward 159 = .ok (.goto 4, 3) := by decide +kernel
theorem dX7_toward_162 : decode cX7_toward 162 = .ok (.iconst (-1), 1) := by decide +kernel
theorem dX7_toward_163 : decode cX7_toward 163 = .ok (.ireturn, 1) := by decide +kernel
theorem dX7_end_0 : decode cX7_end 0 = .ok (.aload_n 0, 1) := by decide +kernel
theorem dX7_end_1 : decode cX7_end 1 = .ok (.invokevirtual 48, 3) := by decide +kernel
theorem dX7_end_4 : decode cX7_end 4 = .ok (.istore_n 3, 1) := by decide +kernel
theorem dX7_end_5 : decode cX7_end 5 = .ok (.iload_n 1, 1) := by decide +kernel
theorem dX7_end_6 : decode cX7_end 6 = .ok (.iload_n 3, 1) := by decide +kernel
theorem dX7_end_7 : decode cX7_end 7 = .ok (.if_icmp .ge 40, 3) := by decide +kernel
theorem dX7_end_10 : decode cX7_end 10 = .ok (.iload_n 1, 1) := by decide +kernel
theorem dX7_end_11 : decode cX7_end 11 = .ok (.aload_n 0, 1) := by decide +kernel
theorem dX7_end_12 : decode cX7_end 12 = .ok (.getfield 7, 3) := by decide +kernel
theorem dX7_end_15 : decode cX7_end 15 = .ok (.iconst 0, 1) := by decide +kernel
theorem dX7_end_16 : decode cX7_end 16 = .ok (.iaload, 1) := by decide +kernel
theorem dX7_end_17 : decode cX7_end 17 = .ok (.idiv, 1) := by decide +kernel
theorem dX7_end_18 : decode cX7_end 18 = .ok (.aload_n 0, 1) := by decide +kernel
theorem dX7_end_19 : decode cX7_end 19 = .ok (.getfield 7, 3) := by decide +kernel
theorem dX7_end_22 : decode cX7_end 22 = .ok (.iconst 0, 1) := by decide +kernel
theorem dX7_end_23 : decode cX7_end 23 = .ok (.iaload, 1) := by decide +kernel
theorem dX7_end_24 : decode cX7_end 24 = .ok (.iconst 1, 1) := by decide +kernel
theorem dX7_end_25 : decode cX7_end 25 = .ok (.iadd, 1) := by decide +kernel
theorem dX7_end_26 : decode cX7_end 26 = .ok (.imul, 1) := by decide +kernel
theorem dX7_end_27 : decode cX7_end 27 = .ok (.iload_n 1, 1) := by decide +kernel
theorem dX7_end_28 : decode cX7_end 28 = .ok (.aload_n 0, 1) := by decide +kernel
theorem dX7_end_29 : decode cX7_end 29 = .ok (.getfield 7, 3) := by decide +kernel
theorem dX7_end_32 : decode cX7_end 32 = .ok (.iconst 0, 1) := by decide +kernel
theorem dX7_end_33 : decode cX7_end 33 = .ok (.iaload, 1) := by decide +kernel
theorem dX7_end_34 : decode cX7_end 34 = .ok (.irem, 1) := by decide +kernel
theorem dX7_end_35 : decode cX7_end 35 = .ok (.iadd, 1) := by decide +kernel
theorem dX7_end_36 : decode cX7_end 36 = .ok (.iload_n 2, 1) := by decide +kernel
theorem dX7_end_37 : decode cX7_end 37 = .ok (.ifCond .eq 7, 3) := by decide +kernel
theorem dX7_end_40 : decode cX7_end 40 = .ok (.iconst 1, 1) := by decide +kernel
theorem dX7_end_41 : decode cX7_end 41 = .ok (.goto 4, 3) := by decide +kernel
theorem dX7_end_44 : decode cX7_end 44 = .ok (.iconst 0, 1) := by decide +kernel
theorem dX7_end_45 : decode cX7_end 45 = .ok (.iadd, 1) := by decide +kernel
theorem dX7_end_46 : decode cX7_end 46 = .ok (.ireturn, 1) := by decide +kernel
theorem dX7_end_47 : decode cX7_end 47 = .ok (.iload_n 1, 1) := by decide +kernel
theorem dX7_end_48 : decode cX7_end 48 = .ok (.iload_n 3, 1) := by decide +kernel
theorem dX7_end_49 : decode cX7_end 49 = .ok (.isub, 1) := by decide +kernel
theorem dX7_end_50 : decode cX7_end 50 = .ok (.iload_n 2, 1) := by decide +kernel
theorem dX7_end_51 : decode cX7_end 51 = .ok (.ifCond .eq 14, 3) := by decide +kernel
theorem dX7_end_54 : decode cX7_end 54 = .ok (.aload_n 0, 1) := by decide +kernel
theorem dX7_end_55 : decode cX7_end 55 = .ok (.getfield 7, 3) := by decide +kernel
theorem dX7_end_58 : decode cX7_end 58 = .ok (.iconst 0, 1) := by decide +kernel
theorem dX7_end_59 : decode cX7_end 59 = .ok (.iaload, 1) := by decide +kernel
theorem dX7_end_60 : decode cX7_end 60 = .ok (.iconst 1, 1) := by decide +kernel
theorem dX7_end_61 : decode cX7_end 61 = .ok (.iadd, 1) := by decide +kernel
theorem dX7_end_62 : decode cX7_end 62 = .ok (.goto 4, 3) := by decide +kernel
theorem dX7_end_65 : decode cX7_end 65 = .ok (.iconst 0, 1) := by decide +kernel
theorem dX7_end_66 : decode cX7_end 66 = .ok (.iadd, 1) := by decide +kernel
theorem dX7_end_67 : decode cX7_end 67 = .ok (.ireturn, 1) := by decide +kernel
theorem dX7_markOf_0 : decode cX7_markOf 0 = .ok (.aload_n 0, 1) := by decide +kernel
theorem dX7_markOf_1 : decode cX7_markOf 1 = .ok (.getfield 7, 3) := by decide +kernel
theorem dX7_markOf_4 : decode cX7_markOf 4 = .ok (.bipush 18, 2) := by decide +kernel
theorem dX7_markOf_6 : decode cX7_markOf 6 = .ok (.iload_n 1, 1) := by decide +kernel
theorem dX7_markOf_7 : decode cX7_markOf 7 = .ok (.iadd, 1) := by decide +kernel
theorem dX7_markOf_8 : decode cX7_markOf 8 = .ok (.iaload, 1) := by decide +kernel
theorem dX7_markOf_9 : decode cX7_markOf 9 = .ok (.ireturn, 1) := by decide +kernel
theorem dX7_aroundWith_0 : decode cX7_aroundWith 0 = .ok (.iconst 0, 1) := by decide +kernel
theorem dX7_aroundWith_1 : decode cX7_aroundWith 1 = .ok (.istore_n 3, 1) := by decide +kernel
theorem dX7_aroundWith_2 : decode cX7_aroundWith 2 = .ok (.iconst 0, 1) := by decide +kernel
theorem dX7_aroundWith_3 : decode cX7_aroundWith 3 = .ok (.istore 4, 2) := by decide +kernel
theorem dX7_aroundWith_5 : decode cX7_aroundWith 5 = .ok (.iload 4, 2) := by decide +kernel
theorem dX7_aroundWith_7 : decode cX7_aroundWith 7 = .ok (.iconst 4, 1) := by decide +kernel
theorem dX7_aroundWith_8 : decode cX7_aroundWith 8 = .ok (.if_icmp .ge 32, 3) := by decide +kernel
theorem dX7_aroundWith_11 : decode cX7_aroundWith 11 = .ok (.iload_n 3, 1) := by decide +kernel
theorem dX7_aroundWith_12 : decode cX7_aroundWith 12 = .ok (.aload_n 0, 1) := by decide +kernel
theorem dX7_aroundWith_13 : decode cX7_aroundWith 13 = .ok (.aload_n 0, 1) := by decide +kernel
theorem dX7_aroundWith_14 : decode cX7_aroundWith 14 = .ok (.iload_n 1, 1) := by decide +kernel
theorem dX7_aroundWith_15 : decode cX7_aroundWith 15 = .ok (.iload 4, 2) := by decide +kernel
theorem dX7_aroundWith_17 : decode cX7_aroundWith 17 = .ok (.invokevirtual 52, 3) := by decide +kernel
theorem dX7_aroundWith_20 : decode cX7_aroundWith 20 = .ok (.invokevirtual 56, 3) := by decide +kernel
theorem dX7_aroundWith_23 : decode cX7_aroundWith 23 = .ok (.iload_n 2, 1) := by decide +kernel
theorem dX7_aroundWith_24 : decode cX7_aroundWith 24 = .ok (.if_icmp .ne 7, 3) := by decide +kernel
theorem dX7_aroundWith_27 : decode cX7_aroundWith 27 = .ok (.iconst 1, 1) := by decide +kernel
theorem dX7_aroundWith_28 : decode cX7_aroundWith 28 = .ok (.goto 4, 3) := by decide +kernel
theorem dX7_aroundWith_31 : decode cX7_aroundWith 31 = .ok (.iconst 0, 1) := by decide +kernel
theorem dX7_aroundWith_32 : decode cX7_aroundWith 32 = .ok (.iadd, 1) := by decide +kernel
theorem dX7_aroundWith_33 : decode cX7_aroundWith 33 = .ok (.istore_n 3, 1) := by decide +kernel
theorem dX7_aroundWith_34 : decode cX7_aroundWith 34 = .ok (.iinc 4 1, 3) := by decide +kernel
theorem dX7_aroundWith_37 : decode cX7_aroundWith 37 = .ok (.goto (-32), 3) := by decide +kernel
theorem dX7_aroundWith_40 : decode cX7_aroundWith 40 = .ok (.iload_n 3, 1) := by decide +kernel
theorem dX7_aroundWith_41 : decode cX7_aroundWith 41 = .ok (.ireturn, 1) := by decide +kernel
theorem dX7_atWith_0 : decode cX7_atWith 0 = .ok (.iconst 0, 1) := by decide +kernel
theorem dX7_atWith_1 : decode cX7_atWith 1 = .ok (.istore_n 3, 1) := by decide +kernel
theorem dX7_atWith_2 : decode cX7_atWith 2 = .ok (.iconst 0, 1) := by decide +kernel
theorem dX7_atWith_3 : decode cX7_atWith 3 = .ok (.istore 4, 2) := by decide +kernel
theorem dX7_atWith_5 : decode cX7_atWith 5 = .ok (.iload 4, 2) := by decide +kernel
theorem dX7_atWith_7 : decode cX7_atWith 7 = .ok (.iconst 4, 1) := by decide +kernel
theorem dX7_atWith_8 : decode cX7_atWith 8 = .ok (.if_icmp .ge 42, 3) := by decide +kernel
theorem dX7_atWith_11 : decode cX7_atWith 11 = .ok (.aload_n 0, 1) := by decide +kernel
theorem dX7_atWith_12 : decode cX7_atWith 12 = .ok (.iload_n 1, 1) := by decide +kernel
theorem dX7_atWith_13 : decode cX7_atWith 13 = .ok (.iload 4, 2) := by decide +kernel
theorem dX7_atWith_15 : decode cX7_atWith 15 = .ok (.invokevirtual 60, 3) := by decide +kernel
theorem dX7_atWith_18 : decode cX7_atWith 18 = .ok (.istore 5, 2) := by decide +kernel
theorem dX7_atWith_20 : decode cX7_atWith 20 = .ok (.iload_n 3, 1) := by decide +kernel
theorem dX7_atWith_21 : decode cX7_atWith 21 = .ok (.iload 5, 2) := by decide +kernel
theorem dX7_atWith_23 : decode cX7_atWith 23 = .ok (.iconst (-1), 1) := by decide +kernel
theorem dX7_atWith_24 : decode cX7_atWith 24 = .ok (.if_icmp .eq 17, 3) := by decide +kernel
theorem dX7_atWith_27 : decode cX7_atWith 27 = .ok (.aload_n 0, 1) := by decide +kernel
theorem dX7_atWith_28 : decode cX7_atWith 28 = .ok (.iload 5, 2) := by decide +kernel
theorem dX7_atWith_30 : decode cX7_atWith 30 = .ok (.invokevirtual 56, 3) := by decide +kernel
theorem dX7_atWith_33 : decode cX7_atWith 33 = .ok (.iload_n 2, 1) := by decide +kernel
theorem dX7_atWith_34 : decode cX7_atWith 34 = .ok (.if_icmp .ne 7, 3) := by decide +kernel
theorem dX7_atWith_37 : decode cX7_atWith 37 = .ok (.iconst 1, 1) := by decide +kernel
theorem dX7_atWith_38 : decode cX7_atWith 38 = .ok (.goto 4, 3) := by decide +kernel
theorem dX7_atWith_41 : decode cX7_atWith 41 = .ok (.iconst 0, 1) := by decide +kernel
theorem dX7_atWith_42 : decode cX7_atWith 42 = .ok (.iadd, 1) := by decide +kernel
theorem dX7_atWith_43 : decode cX7_atWith 43 = .ok (.istore_n 3, 1) := by decide +kernel
theorem dX7_atWith_44 : decode cX7_atWith 44 = .ok (.iinc 4 1, 3) := by decide +kernel
theorem dX7_atWith_47 : decode cX7_atWith 47 = .ok (.goto (-42), 3) := by decide +kernel
theorem dX7_atWith_50 : decode cX7_atWith 50 = .ok (.iload_n 3, 1) := by decide +kernel
theorem dX7_atWith_51 : decode cX7_atWith 51 = .ok (.ireturn, 1) := by decide +kernel
theorem dX7_openAround_0 : decode cX7_openAround 0 = .ok (.iconst 0, 1) := by decide +kernel
theorem dX7_openAround_1 : decode cX7_openAround 1 = .ok (.istore_n 2, 1) := by decide +kernel
theorem dX7_openAround_2 : decode cX7_openAround 2 = .ok (.aload_n 0, 1) := by decide +kernel
theorem dX7_openAround_3 : decode cX7_openAround 3 = .ok (.aload_n 0, 1) := by decide +kernel
theorem dX7_openAround_4 : decode cX7_openAround 4 = .ok (.iload_n 1, 1) := by decide +kernel
theorem dX7_openAround_5 : decode cX7_openAround 5 = .ok (.iload_n 2, 1) := by decide +kernel
theorem dX7_openAround_6 : decode cX7_openAround 6 = .ok (.invokevirtual 52, 3) := by decide +kernel
theorem dX7_openAround_9 : decode cX7_openAround 9 = .ok (.invokevirtual 56, 3) := by decide +kernel
theorem dX7_openAround_12 : decode cX7_openAround 12 = .ok (.ifCond .eq 9, 3) := by decide +kernel
theorem dX7_openAround_15 : decode cX7_openAround 15 = .ok (.iinc 2 1, 3) := by decide +kernel
theorem dX7_openAround_18 : decode cX7_openAround 18 = .ok (.goto (-16), 3) := by decide +kernel
theorem dX7_openAround_21 : decode cX7_openAround 21 = .ok (.aload_n 0, 1) := by decide +kernel
theorem dX7_openAround_22 : decode cX7_openAround 22 = .ok (.iload_n 1, 1) := by decide +kernel
theorem dX7_openAround_23 : decode cX7_openAround 23 = .ok (.iload_n 2, 1) := by decide +kernel
theorem dX7_openAround_24 : decode cX7_openAround 24 = .ok (.invokevirtual 52, 3) := by decide +kernel
theorem dX7_openAround_27 : decode cX7_openAround 27 = .ok (.ireturn, 1) := by decide +kernel
theorem dX7_openAt_0 : decode cX7_openAt 0 = .ok (.iconst 0, 1) := by decide +kernel
theorem dX7_openAt_1 : decode cX7_openAt 1 = .ok (.istore_n 2, 1) := by decide +kernel
theorem dX7_openAt_2 : decode cX7_openAt 2 = .ok (.aload_n 0, 1) := by decide +kernel
theorem dX7_openAt_3 : decode cX7_openAt 3 = .ok (.iload_n 1, 1) := by decide +kernel
theorem dX7_openAt_4 : decode cX7_openAt 4 = .ok (.iload_n 2, 1) := by decide +kernel
theorem dX7_openAt_5 : decode cX7_openAt 5 = .ok (.invokevirtual 60, 3) := by decide +kernel
theorem dX7_openAt_8 : decode cX7_openAt 8 = .ok (.iconst (-1), 1) := by decide +kernel
theorem dX7_openAt_9 : decode cX7_openAt 9 = .ok (.if_icmp .eq 16, 3) := by decide +kernel
theorem dX7_openAt_12 : decode cX7_openAt 12 = .ok (.aload_n 0, 1) := by decide +kernel
theorem dX7_openAt_13 : decode cX7_openAt 13 = .ok (.aload_n 0, 1) := by decide +kernel
theorem dX7_openAt_14 : decode cX7_openAt 14 = .ok (.iload_n 1, 1) := by decide +kernel
theorem dX7_openAt_15 : decode cX7_openAt 15 = .ok (.iload_n 2, 1) := by decide +kernel
theorem dX7_openAt_16 : decode cX7_openAt 16 = .ok (.invokevirtual 60, 3) := by decide +kernel
theorem dX7_openAt_19 : decode cX7_openAt 19 = .ok (.invokevirtual 56, 3) := by decide +kernel
theorem dX7_openAt_22 : decode cX7_openAt 22 = .ok (.ifCond .eq 9, 3) := by decide +kernel
theorem dX7_openAt_25 : decode cX7_openAt 25 = .ok (.iinc 2 1, 3) := by decide +kernel
theorem dX7_openAt_28 : decode cX7_openAt 28 = .ok (.goto (-26), 3) := by decide +kernel
theorem dX7_openAt_31 : decode cX7_openAt 31 = .ok (.aload_n 0, 1) := by decide +kernel
theorem dX7_openAt_32 : decode cX7_openAt 32 = .ok (.iload_n 1, 1) := by decide +kernel
theorem dX7_openAt_33 : decode cX7_openAt 33 = .ok (.iload_n 2, 1) := by decide +kernel
theorem dX7_openAt_34 : decode cX7_openAt 34 = .ok (.invokevirtual 60, 3) := by decide +kernel
theorem dX7_openAt_37 : decode cX7_openAt 37 = .ok (.ireturn, 1) := by decide +kernel
theorem dX7_top_0 : decode cX7_top 0 = .ok (.iload_n 1, 1) := by decide +kernel
theorem dX7_top_1 : decode cX7_top 1 = .ok (.istore_n 2, 1) := by decide +kernel
theorem dX7_top_2 : decode cX7_top 2 = .ok (.aload_n 0, 1) := by decide +kernel
theorem dX7_top_3 : decode cX7_top 3 = .ok (.getfield 19, 3) := by decide +kernel
theorem dX7_top_6 : decode cX7_top 6 = .ok (.iload_n 2, 1) := by decide +kernel
theorem dX7_top_7 : decode cX7_top 7 = .ok (.iaload, 1) := by decide +kernel
theorem dX7_top_8 : decode cX7_top 8 = .ok (.iload_n 2, 1) := by decide +kernel
theorem dX7_top_9 : decode cX7_top 9 = .ok (.if_icmp .eq 13, 3) := by decide +kernel
theorem dX7_top_12 : decode cX7_top 12 = .ok (.aload_n 0, 1) := by decide +kernel
theorem dX7_top_13 : decode cX7_top 13 = .ok (.getfield 19, 3) := by decide +kernel
theorem dX7_top_16 : decode cX7_top 16 = .ok (.iload_n 2, 1) := by decide +kernel
theorem dX7_top_17 : decode cX7_top 17 = .ok (.iaload, 1) := by decide +kernel
theorem dX7_top_18 : decode cX7_top 18 = .ok (.istore_n 2, 1) := by decide +kernel
theorem dX7_top_19 : decode cX7_top 19 = .ok (.goto (-17), 3) := by decide +kernel
theorem dX7_top_22 : decode cX7_top 22 = .ok (.iload_n 2, 1) := by decide +kernel
theorem dX7_top_23 : decode cX7_top 23 = .ok (.ireturn, 1) := by decide +kernel
theorem dX7_joins_0 : decode cX7_joins 0 = .ok (.aload_n 0, 1) := by decide +kernel
theorem dX7_joins_1 : decode cX7_joins 1 = .ok (.invokevirtual 63, 3) := by decide +kernel
theorem dX7_joins_4 : decode cX7_joins 4 = .ok (.istore_n 1, 1) := by decide +kernel
theorem dX7_joins_5 : decode cX7_joins 5 = .ok (.iconst 0, 1) := by decide +kernel
theorem dX7_joins_6 : decode cX7_joins 6 = .ok (.istore_n 2, 1) := by decide +kernel
theorem dX7_joins_7 : decode cX7_joins 7 = .ok (.iload_n 2, 1) := by decide +kernel
theorem dX7_joins_8 : decode cX7_joins 8 = .ok (.iload_n 1, 1) := by decide +kernel
theorem dX7_joins_9 : decode cX7_joins 9 = .ok (.if_icmp .ge 30, 3) := by decide +kernel
theorem dX7_joins_12 : decode cX7_joins 12 = .ok (.aload_n 0, 1) := by decide +kernel
theorem dX7_joins_13 : decode cX7_joins 13 = .ok (.getfield 19, 3) := by decide +kernel
theorem dX7_joins_16 : decode cX7_joins 16 = .ok (.iload_n 2, 1) := by decide +kernel
theorem dX7_joins_17 : decode cX7_joins 17 = .ok (.iload_n 2, 1) := by decide +kernel
theorem dX7_joins_18 : decode cX7_joins 18 = .ok (.iastore, 1) := by decide +kernel
theorem dX7_joins_19 : decode cX7_joins 19 = .ok (.aload_n 0, 1) := by decide +kernel
theorem dX7_joins_20 : decode cX7_joins 20 = .ok (.getfield 22, 3) := by decide +kernel
theorem dX7_joins_23 : decode cX7_joins 23 = .ok (.iload_n 2, 1) := by decide +kernel
theorem dX7_joins_24 : decode cX7_joins 24 = .ok (.iconst 0, 1) := by decide +kernel
theorem dX7_joins_25 : decode cX7_joins 25 = .ok (.iastore, 1) := by decide +kernel
theorem dX7_joins_26 : decode cX7_joins 26 = .ok (.aload_n 0, 1) := by decide +kernel
theorem dX7_joins_27 : decode cX7_joins 27 = .ok (.getfield 25, 3) := by decide +kernel
theorem dX7_joins_30 : decode cX7_joins 30 = .ok (.iload_n 2, 1) := by decide +kernel
theorem dX7_joins_31 : decode cX7_joins 31 = .ok (.iconst 0, 1) := by decide +kernel
theorem dX7_joins_32 : decode cX7_joins 32 = .ok (.bastore, 1) := by decide +kernel
theorem dX7_joins_33 : decode cX7_joins 33 = .ok (.iinc 2 1, 3) := by decide +kernel
theorem dX7_joins_36 : decode cX7_joins 36 = .ok (.goto (-29), 3) := by decide +kernel
theorem dX7_joins_39 : decode cX7_joins 39 = .ok (.aload_n 0, 1) := by decide +kernel
theorem dX7_joins_40 : decode cX7_joins 40 = .ok (.iconst 0, 1) := by decide +kernel
theorem dX7_joins_41 : decode cX7_joins 41 = .ok (.putfield 66, 3) := by decide +kernel
theorem dX7_joins_44 : decode cX7_joins 44 = .ok (.aload_n 0, 1) := by decide +kernel
theorem dX7_joins_45 : decode cX7_joins 45 = .ok (.invokevirtual 69, 3) := by decide +kernel
theorem dX7_joins_48 : decode cX7_joins 48 = .ok (.istore_n 2, 1) := by decide +kernel
theorem dX7_joins_49 : decode cX7_joins 49 = .ok (.iconst 0, 1) := by decide +kernel
theorem dX7_joins_50 : decode cX7_joins 50 = .ok (.istore_n 3, 1) := by decide +kernel
theorem dX7_joins_51 : decode cX7_joins 51 = .ok (.iload_n 3, 1) := by decide +kernel
theorem dX7_joins_52 : decode cX7_joins 52 = .ok (.iload_n 2, 1) := by decide +kernel
theorem dX7_joins_53 : decode cX7_joins 53 = .ok (.if_icmp .ge 85, 3) := by decide +kernel
theorem dX7_joins_56 : decode cX7_joins 56 = .ok (.aload_n 0, 1) := by decide +kernel
theorem dX7_joins_57 : decode cX7_joins 57 = .ok (.iload_n 3, 1) := by decide +kernel
theorem dX7_joins_58 : decode cX7_joins 58 = .ok (.invokevirtual 56, 3) := by decide +kernel
theorem dX7_joins_61 : decode cX7_joins 61 = .ok (.iconst 1, 1) := by decide +kernel
theorem dX7_joins_62 : decode cX7_joins 62 = .ok (.if_icmp .ne 70, 3) := by decide +kernel
theorem dX7_joins_65 : decode cX7_joins 65 = .ok (.aload_n 0, 1) := by decide +kernel
theorem dX7_joins_66 : decode cX7_joins 66 = .ok (.aload_n 0, 1) := by decide +kernel
theorem dX7_joins_67 : decode cX7_joins 67 = .ok (.iload_n 3, 1) := by decide +kernel
theorem dX7_joins_68 : decode cX7_joins 68 = .ok (.iconst 0, 1) := by decide +kernel
theorem dX7_joins_69 : decode cX7_joins 69 = .ok (.invokevirtual 72, 3) := by decide +kernel
theorem dX7_joins_72 : decode cX7_joins 72 = .ok (.invokevirtual 76, 3) := by decide +kernel
theorem dX7_joins_75 : decode cX7_joins 75 = .ok (.istore 4, 2) := by decide +kernel
theorem dX7_joins_77 : decode cX7_joins 77 = .ok (.aload_n 0, 1) := by decide +kernel
theorem dX7_joins_78 : decode cX7_joins 78 = .ok (.aload_n 0, 1) := by decide +kernel
theorem dX7_joins_79 : decode cX7_joins 79 = .ok (.iload_n 3, 1) := by decide +kernel
theorem dX7_joins_80 : decode cX7_joins 80 = .ok (.iconst 1, 1) := by decide +kernel
theorem dX7_joins_81 : decode cX7_joins 81 = .ok (.invokevirtual 72, 3) := by decide +kernel
theorem dX7_joins_84 : decode cX7_joins 84 = .ok (.invokevirtual 76, 3) := by decide +kernel
theorem dX7_joins_87 : decode cX7_joins 87 = .ok (.istore 5, 2) := by decide +kernel
theorem dX7_joins_89 : decode cX7_joins 89 = .ok (.aload_n 0, 1) := by decide +kernel
theorem dX7_joins_90 : decode cX7_joins 90 = .ok (.getfield 19, 3) := by decide +kernel
theorem dX7_joins_93 : decode cX7_joins 93 = .ok (.iload 4, 2) := by decide +kernel
theorem dX7_joins_95 : decode cX7_joins 95 = .ok (.iload 5, 2) := by decide +kernel
theorem dX7_joins_97 : decode cX7_joins 97 = .ok (.if_icmp .le 8, 3) := by decide +kernel
theorem dX7_joins_100 : decode cX7_joins 100 = .ok (.iload 4, 2) := by decide +kernel
theorem dX7_joins_102 : decode cX7_joins 102 = .ok (.goto 5, 3) := by decide +kernel
theorem dX7_joins_105 : decode cX7_joins 105 = .ok (.iload 5, 2) := by decide +kernel
theorem dX7_joins_107 : decode cX7_joins 107 = .ok (.iload 4, 2) := by decide +kernel
theorem dX7_joins_109 : decode cX7_joins 109 = .ok (.iload 5, 2) := by decide +kernel
theorem dX7_joins_111 : decode cX7_joins 111 = .ok (.if_icmp .le 8, 3) := by decide +kernel
theorem dX7_joins_114 : decode cX7_joins 114 = .ok (.iload 5, 2) := by decide +kernel
theorem dX7_joins_116 : decode cX7_joins 116 = .ok (.goto 5, 3) := by decide +kernel
theorem dX7_joins_119 : decode cX7_joins 119 = .ok (.iload 4, 2) := by decide +kernel
theorem dX7_joins_121 : decode cX7_joins 121 = .ok (.iastore, 1) := by decide +kernel
theorem dX7_joins_122 : decode cX7_joins 122 = .ok (.aload_n 0, 1) := by decide +kernel
theorem dX7_joins_123 : decode cX7_joins 123 = .ok (.dup, 1) := by decide +kernel
theorem dX7_joins_124 : decode cX7_joins 124 = .ok (.getfield 66, 3) := by decide +kernel
theorem dX7_joins_127 : decode cX7_joins 127 = .ok (.iconst 1, 1) := by decide +kernel
theorem dX7_joins_128 : decode cX7_joins 128 = .ok (.iadd, 1) := by decide +kernel
theorem dX7_joins_129 : decode cX7_joins 129 = .ok (.putfield 66, 3) := by decide +kernel
theorem dX7_joins_132 : decode cX7_joins 132 = .ok (.iinc 3 1, 3) := by decide +kernel
theorem dX7_joins_135 : decode cX7_joins 135 = .ok (.goto (-84), 3) := by decide +kernel
theorem dX7_joins_138 : decode cX7_joins 138 = .ok (.iconst 0, 1) := by decide +kernel
theorem dX7_joins_139 : decode cX7_joins 139 = .ok (.istore_n 3, 1) := by decide +kernel
theorem dX7_joins_140 : decode cX7_joins 140 = .ok (.iload_n 3, 1) := by decide +kernel
theorem dX7_joins_141 : decode cX7_joins 141 = .ok (.iload_n 2, 1) := by decide +kernel
theorem dX7_joins_142 : decode cX7_joins 142 = .ok (.if_icmp .ge 37, 3) := by decide +kernel
theorem dX7_joins_145 : decode cX7_joins 145 = .ok (.aload_n 0, 1) := by decide +kernel
theorem dX7_joins_146 : decode cX7_joins 146 = .ok (.iload_n 3, 1) := by decide +kernel
theorem dX7_joins_147 : decode cX7_joins 147 = .ok (.invokevirtual 56, 3) := by decide +kernel
theorem dX7_joins_150 : decode cX7_joins 150 = .ok (.iconst 1, 1) := by decide +kernel
theorem dX7_joins_151 : decode cX7_joins 151 = .ok (.if_icmp .ne 22, 3) := by decide +kernel
theorem dX7_joins_154 : decode cX7_joins 154 = .ok (.aload_n 0, 1) := by decide +kernel
theorem dX7_joins_155 : decode cX7_joins 155 = .ok (.getfield 22, 3) := by decide +kernel
theorem dX7_joins_158 : decode cX7_joins 158 = .ok (.aload_n 0, 1) := by decide +kernel
theorem dX7_joins_159 : decode cX7_joins 159 = .ok (.aload_n 0, 1) := by decide +kernel
theorem dX7_joins_160 : decode cX7_joins 160 = .ok (.iload_n 3, 1) := by decide +kernel
theorem dX7_joins_161 : decode cX7_joins 161 = .ok (.iconst 0, 1) := by decide +kernel
theorem dX7_joins_162 : decode cX7_joins 162 = .ok (.invokevirtual 72, 3) := by decide +kernel
theorem dX7_joins_165 : decode cX7_joins 165 = .ok (.invokevirtual 76, 3) := by decide +kernel
theorem dX7_joins_168 : decode cX7_joins 168 = .ok (.dup2, 1) := by decide +kernel
theorem dX7_joins_169 : decode cX7_joins 169 = .ok (.iaload, 1) := by decide +kernel
theorem dX7_joins_170 : decode cX7_joins 170 = .ok (.iconst 1, 1) := by decide +kernel
theorem dX7_joins_171 : decode cX7_joins 171 = .ok (.iadd, 1) := by decide +kernel
theorem dX7_joins_172 : decode cX7_joins 172 = .ok (.iastore, 1) := by decide +kernel
theorem dX7_joins_173 : decode cX7_joins 173 = .ok (.iinc 3 1, 3) := by decide +kernel
theorem dX7_joins_176 : decode cX7_joins 176 = .ok (.goto (-36), 3) := by decide +kernel
theorem dX7_joins_179 : decode cX7_joins 179 = .ok (.iconst 0, 1) := by decide +kernel
theorem dX7_joins_180 : decode cX7_joins 180 = .ok (.istore_n 3, 1) := by decide +kernel
theorem dX7_joins_181 : decode cX7_joins 181 = .ok (.iload_n 3, 1) := by decide +kernel
theorem dX7_joins_182 : decode cX7_joins 182 = .ok (.iload_n 1, 1) := by decide +kernel
theorem dX7_joins_183 : decode cX7_joins 183 = .ok (.if_icmp .ge 56, 3) := by decide +kernel
theorem dX7_joins_186 : decode cX7_joins 186 = .ok (.aload_n 0, 1) := by decide +kernel
theorem dX7_joins_187 : decode cX7_joins 187 = .ok (.iload_n 3, 1) := by decide +kernel
theorem dX7_joins_188 : decode cX7_joins 188 = .ok (.iconst 1, 1) := by decide +kernel
theorem dX7_joins_189 : decode cX7_joins 189 = .ok (.invokevirtual 79, 3) := by decide +kernel
theorem dX7_joins_192 : decode cX7_joins 192 = .ok (.istore 4, 2) := by decide +kernel
theorem dX7_joins_194 : decode cX7_joins 194 = .ok (.aload_n 0, 1) := by decide +kernel
theorem dX7_joins_195 : decode cX7_joins 195 = .ok (.getfield 25, 3) := by decide +kernel
theorem dX7_joins_198 : decode cX7_joins 198 = .ok (.aload_n 0, 1) := by decide +kernel
theorem dX7_joins_199 : decode cX7_joins 199 = .ok (.iload_n 3, 1) := by decide +kernel
theorem dX7_joins_200 : decode cX7_joins 200 = .ok (.invokevirtual 76, 3) := by decide +kernel
theorem dX7_joins_203 : decode cX7_joins 203 = .ok (.aload_n 0, 1) := by decide +kernel
theorem dX7_joins_204 : decode cX7_joins 204 = .ok (.getfield 25, 3) := by decide +kernel
theorem dX7_joins_207 : decode cX7_joins 207 = .ok (.aload_n 0, 1) := by decide +kernel
theorem dX7_joins_208 : decode cX7_joins 208 = .ok (.iload_n 3, 1) := by decide +kernel
theorem dX7_joins_209 : decode cX7_joins 209 = .ok (.invokevirtual 76, 3) := by decide +kernel
theorem dX7_joins_212 : decode cX7_joins 212 = .ok (.baload, 1) := by decide +kernel
theorem dX7_joins_213 : decode cX7_joins 213 = .ok (.ifCond .ne 14, 3) := by decide +kernel
theorem dX7_joins_216 : decode cX7_joins 216 = .ok (.iload 4, 2) := by decide +kernel
theorem dX7_joins_218 : decode cX7_joins 218 = .ok (.ifCond .eq 13, 3) := by decide +kernel
theorem dX7_joins_221 : decode cX7_joins 221 = .ok (.iload 4, 2) := by decide +kernel
theorem dX7_joins_223 : decode cX7_joins 223 = .ok (.iconst 2, 1) := by decide +kernel
theorem dX7_joins_224 : decode cX7_joins 224 = .ok (.if_icmp .eq 7, 3) := by decide +kernel
theorem dX7_joins_227 : decode cX7_joins 227 = .ok (.iconst 1, 1) := by decide +kernel
theorem dX7_joins_228 : decode cX7_joins 228 = .ok (.goto 4, 3) := by decide +kernel
theorem dX7_joins_231 : decode cX7_joins 231 = .ok (.iconst 0, 1) := by decide +kernel
theorem dX7_joins_232 : decode cX7_joins 232 = .ok (.bastore, 1) := by decide +kernel
theorem dX7_joins_233 : decode cX7_joins 233 = .ok (.iinc 3 1, 3) := by decide +kernel
theorem dX7_joins_236 : decode cX7_joins 236 = .ok (.goto (-55), 3) := by decide +kernel
theorem dX7_joins_239 : decode cX7_joins 239 = .ok (.return_, 1) := by decide +kernel
theorem dX7_isRing_0 : decode cX7_isRing 0 = .ok (.aload_n 0, 1) := by decide +kernel
theorem dX7_isRing_1 : decode cX7_isRing 1 = .ok (.getfield 22, 3) := by decide +kernel
theorem dX7_isRing_4 : decode cX7_isRing 4 = .ok (.iload_n 1, 1) := by decide +kernel
theorem dX7_isRing_5 : decode cX7_isRing 5 = .ok (.iaload, 1) := by decide +kernel
theorem dX7_isRing_6 : decode cX7_isRing 6 = .ok (.ifCond .le 16, 3) := by decide +kernel
theorem dX7_isRing_9 : decode cX7_isRing 9 = .ok (.aload_n 0, 1) := by decide +kernel
theorem dX7_isRing_10 : decode cX7_isRing 10 = .ok (.getfield 25, 3) := by decide +kernel
theorem dX7_isRing_13 : decode cX7_isRing 13 = .ok (.iload_n 1, 1) := by decide +kernel
theorem dX7_isRing_14 : decode cX7_isRing 14 = .ok (.baload, 1) := by decide +kernel
theorem dX7_isRing_15 : decode cX7_isRing 15 = .ok (.ifCond .ne 7, 3) := by decide +kernel
theorem dX7_isRing_18 : decode cX7_isRing 18 = .ok (.iconst 1, 1) := by decide +kernel
theorem dX7_isRing_19 : decode cX7_isRing 19 = .ok (.goto 4, 3) := by decide +kernel
theorem dX7_isRing_22 : decode cX7_isRing 22 = .ok (.iconst 0, 1) := by decide +kernel
theorem dX7_isRing_23 : decode cX7_isRing 23 = .ok (.ireturn, 1) := by decide +kernel
theorem dX7_areMet_0 : decode cX7_areMet 0 = .ok (.iconst 1, 1) := by decide +kernel
theorem dX7_areMet_1 : decode cX7_areMet 1 = .ok (.istore_n 1, 1) := by decide +kernel
theorem dX7_areMet_2 : decode cX7_areMet 2 = .ok (.iconst 0, 1) := by decide +kernel
theorem dX7_areMet_3 : decode cX7_areMet 3 = .ok (.istore_n 2, 1) := by decide +kernel
theorem dX7_areMet_4 : decode cX7_areMet 4 = .ok (.iload_n 2, 1) := by decide +kernel
theorem dX7_areMet_5 : decode cX7_areMet 5 = .ok (.aload_n 0, 1) := by decide +kernel
theorem dX7_areMet_6 : decode cX7_areMet 6 = .ok (.invokevirtual 82, 3) := by decide +kernel
theorem dX7_areMet_9 : decode cX7_areMet 9 = .ok (.if_icmp .ge 48, 3) := by decide +kernel
theorem dX7_areMet_12 : decode cX7_areMet 12 = .ok (.iload_n 1, 1) := by decide +kernel
theorem dX7_areMet_13 : decode cX7_areMet 13 = .ok (.ifCond .eq 44, 3) := by decide +kernel
theorem dX7_areMet_16 : decode cX7_areMet 16 = .ok (.aload_n 0, 1) := by decide +kernel
theorem dX7_areMet_17 : decode cX7_areMet 17 = .ok (.getfield 7, 3) := by decide +kernel
theorem dX7_areMet_20 : decode cX7_areMet 20 = .ok (.iconst 2, 1) := by decide +kernel
theorem dX7_areMet_21 : decode cX7_areMet 21 = .ok (.iload_n 2, 1) := by decide +kernel
theorem dX7_areMet_22 : decode cX7_areMet 22 = .ok (.iadd, 1) := by decide +kernel
theorem dX7_areMet_23 : decode cX7_areMet 23 = .ok (.iaload, 1) := by decide +kernel
theorem dX7_areMet_24 : decode cX7_areMet 24 = .ok (.iconst (-1), 1) := by decide +kernel
theorem dX7_areMet_25 : decode cX7_areMet 25 = .ok (.if_icmp .eq 20, 3) := by decide +kernel
theorem dX7_areMet_28 : decode cX7_areMet 28 = .ok (.aload_n 0, 1) := by decide +kernel
theorem dX7_areMet_29 : decode cX7_areMet 29 = .ok (.iload_n 2, 1) := by decide +kernel
theorem dX7_areMet_30 : decode cX7_areMet 30 = .ok (.iconst 1, 1) := by decide +kernel
theorem dX7_areMet_31 : decode cX7_areMet 31 = .ok (.invokevirtual 85, 3) := by decide +kernel
theorem dX7_areMet_34 : decode cX7_areMet 34 = .ok (.aload_n 0, 1) := by decide +kernel
theorem dX7_areMet_35 : decode cX7_areMet 35 = .ok (.getfield 7, 3) := by decide +kernel
theorem dX7_areMet_38 : decode cX7_areMet 38 = .ok (.iconst 2, 1) := by decide +kernel
theorem dX7_areMet_39 : decode cX7_areMet 39 = .ok (.iload_n 2, 1) := by decide +kernel
theorem dX7_areMet_40 : decode cX7_areMet 40 = .ok (.iadd, 1) := by decide +kernel
theorem dX7_areMet_41 : decode cX7_areMet 41 = .ok (.iaload, 1) := by decide +kernel
theorem dX7_areMet_42 : decode cX7_areMet 42 = .ok (.if_icmp .ne 7, 3) := by decide +kernel
theorem dX7_areMet_45 : decode cX7_areMet 45 = .ok (.iconst 1, 1) := by decide +kernel
theorem dX7_areMet_46 : decode cX7_areMet 46 = .ok (.goto 4, 3) := by decide +kernel
theorem dX7_areMet_49 : decode cX7_areMet 49 = .ok (.iconst 0, 1) := by decide +kernel
theorem dX7_areMet_50 : decode cX7_areMet 50 = .ok (.istore_n 1, 1) := by decide +kernel
theorem dX7_areMet_51 : decode cX7_areMet 51 = .ok (.iinc 2 1, 3) := by decide +kernel
theorem dX7_areMet_54 : decode cX7_areMet 54 = .ok (.goto (-50), 3) := by decide +kernel
theorem dX7_areMet_57 : decode cX7_areMet 57 = .ok (.iload_n 1, 1) := by decide +kernel
theorem dX7_areMet_58 : decode cX7_areMet 58 = .ok (.ireturn, 1) := by decide +kernel
theorem dX7_looks_0 : decode cX7_looks 0 = .ok (.aload_n 0, 1) := by decide +kernel
theorem dX7_looks_1 : decode cX7_looks 1 = .ok (.iconst (-1), 1) := by decide +kernel
theorem dX7_looks_2 : decode cX7_looks 2 = .ok (.putfield 88, 3) := by decide +kernel
theorem dX7_looks_5 : decode cX7_looks 5 = .ok (.aload_n 0, 1) := by decide +kernel
theorem dX7_looks_6 : decode cX7_looks 6 = .ok (.invokevirtual 82, 3) := by decide +kernel
theorem dX7_looks_9 : decode cX7_looks 9 = .ok (.iconst 1, 1) := by decide +kernel
theorem dX7_looks_10 : decode cX7_looks 10 = .ok (.isub, 1) := by decide +kernel
theorem dX7_looks_11 : decode cX7_looks 11 = .ok (.istore_n 1, 1) := by decide +kernel
theorem dX7_looks_12 : decode cX7_looks 12 = .ok (.iload_n 1, 1) := by decide +kernel
theorem dX7_looks_13 : decode cX7_looks 13 = .ok (.ifCond .lt 59, 3) := by decide +kernel
theorem dX7_looks_16 : decode cX7_looks 16 = .ok (.aload_n 0, 1) := by decide +kernel
theorem dX7_looks_17 : decode cX7_looks 17 = .ok (.getfield 7, 3) := by decide +kernel
theorem dX7_looks_20 : decode cX7_looks 20 = .ok (.iconst 2, 1) := by decide +kernel
theorem dX7_looks_21 : decode cX7_looks 21 = .ok (.iload_n 1, 1) := by decide +kernel
theorem dX7_looks_22 : decode cX7_looks 22 = .ok (.iadd, 1) := by decide +kernel
theorem dX7_looks_23 : decode cX7_looks 23 = .ok (.iaload, 1) := by decide +kernel
theorem dX7_looks_24 : decode cX7_looks 24 = .ok (.istore_n 2, 1) := by decide +kernel
theorem dX7_looks_25 : decode cX7_looks 25 = .ok (.aload_n 0, 1) := by decide +kernel
theorem dX7_looks_26 : decode cX7_looks 26 = .ok (.iload_n 1, 1) := by decide +kernel
theorem dX7_looks_27 : decode cX7_looks 27 = .ok (.iconst 1, 1) := by decide +kernel
theorem dX7_looks_28 : decode cX7_looks 28 = .ok (.invokevirtual 85, 3) := by decide +kernel
theorem dX7_looks_31 : decode cX7_looks 31 = .ok (.istore_n 3, 1) := by decide +kernel
theorem dX7_looks_32 : decode cX7_looks 32 = .ok (.aload_n 0, 1) := by decide +kernel
theorem dX7_looks_33 : decode cX7_looks 33 = .ok (.iload_n 2, 1) := by decide +kernel
theorem dX7_looks_34 : decode cX7_looks 34 = .ok (.iconst (-1), 1) := by decide +kernel
theorem dX7_looks_35 : decode cX7_looks 35 = .ok (.if_icmp .eq 24, 3) := by decide +kernel
theorem dX7_looks_38 : decode cX7_looks 38 = .ok (.iload_n 3, 1) := by decide +kernel
theorem dX7_looks_39 : decode cX7_looks 39 = .ok (.iload_n 2, 1) := by decide +kernel
theorem dX7_looks_40 : decode cX7_looks 40 = .ok (.if_icmp .gt 15, 3) := by decide +kernel
theorem dX7_looks_43 : decode cX7_looks 43 = .ok (.iload_n 3, 1) := by decide +kernel
theorem dX7_looks_44 : decode cX7_looks 44 = .ok (.aload_n 0, 1) := by decide +kernel
theorem dX7_looks_45 : decode cX7_looks 45 = .ok (.iload_n 1, 1) := by decide +kernel
theorem dX7_looks_46 : decode cX7_looks 46 = .ok (.iconst 0, 1) := by decide +kernel
theorem dX7_looks_47 : decode cX7_looks 47 = .ok (.invokevirtual 85, 3) := by decide +kernel
theorem dX7_looks_50 : decode cX7_looks 50 = .ok (.iadd, 1) := by decide +kernel
theorem dX7_looks_51 : decode cX7_looks 51 = .ok (.iload_n 2, 1) := by decide +kernel
theorem dX7_looks_52 : decode cX7_looks 52 = .ok (.if_icmp .ge 7, 3) := by decide +kernel
theorem dX7_looks_55 : decode cX7_looks 55 = .ok (.iload_n 1, 1) := by decide +kernel
theorem dX7_looks_56 : decode cX7_looks 56 = .ok (.goto 7, 3) := by decide +kernel
theorem dX7_looks_59 : decode cX7_looks 59 = .ok (.aload_n 0, 1) := by decide +kernel
theorem dX7_looks_60 : decode cX7_looks 60 = .ok (.getfield 88, 3) := by decide +kernel
theorem dX7_looks_63 : decode cX7_looks 63 = .ok (.putfield 88, 3) := by decide +kernel
theorem dX7_looks_66 : decode cX7_looks 66 = .ok (.iinc 1 (-1), 3) := by decide +kernel
theorem dX7_looks_69 : decode cX7_looks 69 = .ok (.goto (-57), 3) := by decide +kernel
theorem dX7_looks_72 : decode cX7_looks 72 = .ok (.aload_n 0, 1) := by decide +kernel
theorem dX7_looks_73 : decode cX7_looks 73 = .ok (.iconst (-1), 1) := by decide +kernel
theorem dX7_looks_74 : decode cX7_looks 74 = .ok (.putfield 91, 3) := by decide +kernel
theorem dX7_looks_77 : decode cX7_looks 77 = .ok (.aload_n 0, 1) := by decide +kernel
theorem dX7_looks_78 : decode cX7_looks 78 = .ok (.invokevirtual 63, 3) := by decide +kernel
theorem dX7_looks_81 : decode cX7_looks 81 = .ok (.iconst 1, 1) := by decide +kernel
theorem dX7_looks_82 : decode cX7_looks 82 = .ok (.isub, 1) := by decide +kernel
theorem dX7_looks_83 : decode cX7_looks 83 = .ok (.istore_n 1, 1) := by decide +kernel
theorem dX7_looks_84 : decode cX7_looks 84 = .ok (.iload_n 1, 1) := by decide +kernel
theorem dX7_looks_85 : decode cX7_looks 85 = .ok (.ifCond .lt 47, 3) := by decide +kernel
theorem dX7_looks_88 : decode cX7_looks 88 = .ok (.aload_n 0, 1) := by decide +kernel
theorem dX7_looks_89 : decode cX7_looks 89 = .ok (.iload_n 1, 1) := by decide +kernel
theorem dX7_looks_90 : decode cX7_looks 90 = .ok (.iconst 1, 1) := by decide +kernel
theorem dX7_looks_91 : decode cX7_looks 91 = .ok (.invokevirtual 79, 3) := by decide +kernel
theorem dX7_looks_94 : decode cX7_looks 94 = .ok (.istore_n 2, 1) := by decide +kernel
theorem dX7_looks_95 : decode cX7_looks 95 = .ok (.aload_n 0, 1) := by decide +kernel
theorem dX7_looks_96 : decode cX7_looks 96 = .ok (.iload_n 2, 1) := by decide +kernel
theorem dX7_looks_97 : decode cX7_looks 97 = .ok (.iconst 2, 1) := by decide +kernel
theorem dX7_looks_98 : decode cX7_looks 98 = .ok (.if_icmp .gt 17, 3) := by decide +kernel
theorem dX7_looks_101 : decode cX7_looks 101 = .ok (.iload_n 2, 1) := by decide +kernel
theorem dX7_looks_102 : decode cX7_looks 102 = .ok (.iconst 1, 1) := by decide +kernel
theorem dX7_looks_103 : decode cX7_looks 103 = .ok (.if_icmp .ne 16, 3) := by decide +kernel
theorem dX7_looks_106 : decode cX7_looks 106 = .ok (.aload_n 0, 1) := by decide +kernel
theorem dX7_looks_107 : decode cX7_looks 107 = .ok (.iload_n 1, 1) := by decide +kernel
theorem dX7_looks_108 : decode cX7_looks 108 = .ok (.iconst 0, 1) := by decide +kernel
theorem dX7_looks_109 : decode cX7_looks 109 = .ok (.invokevirtual 79, 3) := by decide +kernel
theorem dX7_looks_112 : decode cX7_looks 112 = .ok (.ifCond .ne 7, 3) := by decide +kernel
theorem dX7_looks_115 : decode cX7_looks 115 = .ok (.iload_n 1, 1) := by decide +kernel
theorem dX7_looks_116 : decode cX7_looks 116 = .ok (.goto 7, 3) := by decide +kernel
theorem dX7_looks_119 : decode cX7_looks 119 = .ok (.aload_n 0, 1) := by decide +kernel
theorem dX7_looks_120 : decode cX7_looks 120 = .ok (.getfield 91, 3) := by decide +kernel
theorem dX7_looks_123 : decode cX7_looks 123 = .ok (.putfield 91, 3) := by decide +kernel
theorem dX7_looks_126 : decode cX7_looks 126 = .ok (.iinc 1 (-1), 3) := by decide +kernel
theorem dX7_looks_129 : decode cX7_looks 129 = .ok (.goto (-45), 3) := by decide +kernel
theorem dX7_looks_132 : decode cX7_looks 132 = .ok (.aload_n 0, 1) := by decide +kernel
theorem dX7_looks_133 : decode cX7_looks 133 = .ok (.invokevirtual 94, 3) := by decide +kernel
theorem dX7_looks_136 : decode cX7_looks 136 = .ok (.aload_n 0, 1) := by decide +kernel
theorem dX7_looks_137 : decode cX7_looks 137 = .ok (.iconst 0, 1) := by decide +kernel
theorem dX7_looks_138 : decode cX7_looks 138 = .ok (.putfield 97, 3) := by decide +kernel
theorem dX7_looks_141 : decode cX7_looks 141 = .ok (.aload_n 0, 1) := by decide +kernel
theorem dX7_looks_142 : decode cX7_looks 142 = .ok (.iconst (-1), 1) := by decide +kernel
theorem dX7_looks_143 : decode cX7_looks 143 = .ok (.putfield 101, 3) := by decide +kernel
theorem dX7_looks_146 : decode cX7_looks 146 = .ok (.aload_n 0, 1) := by decide +kernel
theorem dX7_looks_147 : decode cX7_looks 147 = .ok (.invokevirtual 104, 3) := by decide +kernel
theorem dX7_looks_150 : decode cX7_looks 150 = .ok (.istore_n 1, 1) := by decide +kernel
theorem dX7_looks_151 : decode cX7_looks 151 = .ok (.aload_n 0, 1) := by decide +kernel
theorem dX7_looks_152 : decode cX7_looks 152 = .ok (.invokevirtual 69, 3) := by decide +kernel
theorem dX7_looks_155 : decode cX7_looks 155 = .ok (.iconst 1, 1) := by decide +kernel
theorem dX7_looks_156 : decode cX7_looks 156 = .ok (.isub, 1) := by decide +kernel
theorem dX7_looks_157 : decode cX7_looks 157 = .ok (.istore_n 2, 1) := by decide +kernel
theorem dX7_looks_158 : decode cX7_looks 158 = .ok (.iload_n 2, 1) := by decide +kernel
theorem dX7_looks_159 : decode cX7_looks 159 = .ok (.ifCond .lt 78, 3) := by decide +kernel
theorem dX7_looks_162 : decode cX7_looks 162 = .ok (.aload_n 0, 1) := by decide +kernel
theorem dX7_looks_163 : decode cX7_looks 163 = .ok (.iload_n 2, 1) := by decide +kernel
theorem dX7_looks_164 : decode cX7_looks 164 = .ok (.invokevirtual 56, 3) := by decide +kernel
theorem dX7_looks_167 : decode cX7_looks 167 = .ok (.iconst 1, 1) := by decide +kernel
theorem dX7_looks_168 : decode cX7_looks 168 = .ok (.if_icmp .ne 63, 3) := by decide +kernel
theorem dX7_looks_171 : decode cX7_looks 171 = .ok (.aload_n 0, 1) := by decide +kernel
theorem dX7_looks_172 : decode cX7_looks 172 = .ok (.aload_n 0, 1) := by decide +kernel
theorem dX7_looks_173 : decode cX7_looks 173 = .ok (.aload_n 0, 1) := by decide +kernel
theorem dX7_looks_174 : decode cX7_looks 174 = .ok (.iload_n 2, 1) := by decide +kernel
theorem dX7_looks_175 : decode cX7_looks 175 = .ok (.iconst 0, 1) := by decide +kernel
theorem dX7_looks_176 : decode cX7_looks 176 = .ok (.invokevirtual 72, 3) := by decide +kernel
theorem dX7_looks_179 : decode cX7_looks 179 = .ok (.invokevirtual 76, 3) := by decide +kernel
theorem dX7_looks_182 : decode cX7_looks 182 = .ok (.invokevirtual 108, 3) := by decide +kernel
theorem dX7_looks_185 : decode cX7_looks 185 = .ok (.ifCond .eq 46, 3) := by decide +kernel
theorem dX7_looks_188 : decode cX7_looks 188 = .ok (.aload_n 0, 1) := by decide +kernel
theorem dX7_looks_189 : decode cX7_looks 189 = .ok (.iconst 1, 1) := by decide +kernel
theorem dX7_looks_190 : decode cX7_looks 190 = .ok (.putfield 97, 3) := by decide +kernel
theorem dX7_looks_193 : decode cX7_looks 193 = .ok (.aload_n 0, 1) := by decide +kernel
theorem dX7_looks_194 : decode cX7_looks 194 = .ok (.iload_n 1, 1) := by decide +kernel
theorem dX7_looks_195 : decode cX7_looks 195 = .ok (.ifCond .eq 25, 3) := by decide +kernel
theorem dX7_looks_198 : decode cX7_looks 198 = .ok (.aload_n 0, 1) := by decide +kernel
theorem dX7_looks_199 : decode cX7_looks 199 = .ok (.getfield 22, 3) := by decide +kernel
theorem dX7_looks_202 : decode cX7_looks 202 = .ok (.aload_n 0, 1) := by decide +kernel
theorem dX7_looks_203 : decode cX7_looks 203 = .ok (.aload_n 0, 1) := by decide +kernel
theorem dX7_looks_204 : decode cX7_looks 204 = .ok (.iload_n 2, 1) := by decide +kernel
theorem dX7_looks_205 : decode cX7_looks 205 = .ok (.iconst 0, 1) := by decide +kernel
theorem dX7_looks_206 : decode cX7_looks 206 = .ok (.invokevirtual 72, 3) := by decide +kernel
theorem dX7_looks_209 : decode cX7_looks 209 = .ok (.invokevirtual 76, 3) := by decide +kernel
theorem dX7_looks_212 : decode cX7_looks 212 = .ok (.iaload, 1) := by decide +kernel
theorem dX7_looks_213 : decode cX7_looks 213 = .ok (.aload_n 0, 1) := by decide +kernel
theorem dX7_looks_214 : decode cX7_looks 214 = .ok (.getfield 66, 3) := by decide +kernel
theorem dX7_looks_217 : decode cX7_looks 217 = .ok (.if_icmp .eq 7, 3) := by decide +kernel
theorem dX7_looks_220 : decode cX7_looks 220 = .ok (.iload_n 2, 1) := by decide +kernel
theorem dX7_looks_221 : decode cX7_looks 221 = .ok (.goto 7, 3) := by decide +kernel
theorem dX7_looks_224 : decode cX7_looks 224 = .ok (.aload_n 0, 1) := by decide +kernel
theorem dX7_looks_225 : decode cX7_looks 225 = .ok (.getfield 101, 3) := by decide +kernel
theorem dX7_looks_228 : decode cX7_looks 228 = .ok (.putfield 101, 3) := by decide +kernel
theorem dX7_looks_231 : decode cX7_looks 231 = .ok (.iinc 2 (-1), 3) := by decide +kernel
theorem dX7_looks_234 : decode cX7_looks 234 = .ok (.goto (-76), 3) := by decide +kernel
theorem dX7_looks_237 : decode cX7_looks 237 = .ok (.return_, 1) := by decide +kernel
theorem dX7_fits_0 : decode cX7_fits 0 = .ok (.aload_n 0, 1) := by decide +kernel
theorem dX7_fits_1 : decode cX7_fits 1 = .ok (.invokevirtual 112, 3) := by decide +kernel
theorem dX7_fits_4 : decode cX7_fits 4 = .ok (.aload_n 0, 1) := by decide +kernel
theorem dX7_fits_5 : decode cX7_fits 5 = .ok (.getfield 88, 3) := by decide +kernel
theorem dX7_fits_8 : decode cX7_fits 8 = .ok (.iconst (-1), 1) := by decide +kernel
theorem dX7_fits_9 : decode cX7_fits 9 = .ok (.if_icmp .ne 23, 3) := by decide +kernel
theorem dX7_fits_12 : decode cX7_fits 12 = .ok (.aload_n 0, 1) := by decide +kernel
theorem dX7_fits_13 : decode cX7_fits 13 = .ok (.getfield 91, 3) := by decide +kernel
theorem dX7_fits_16 : decode cX7_fits 16 = .ok (.iconst (-1), 1) := by decide +kernel
theorem dX7_fits_17 : decode cX7_fits 17 = .ok (.if_icmp .ne 15, 3) := by decide +kernel
theorem dX7_fits_20 : decode cX7_fits 20 = .ok (.aload_n 0, 1) := by decide +kernel
theorem dX7_fits_21 : decode cX7_fits 21 = .ok (.getfield 101, 3) := by decide +kernel
theorem dX7_fits_24 : decode cX7_fits 24 = .ok (.iconst (-1), 1) := by decide +kernel
theorem dX7_fits_25 : decode cX7_fits 25 = .ok (.if_icmp .ne 7, 3) := by decide +kernel
theorem dX7_fits_28 : decode cX7_fits 28 = .ok (.iconst 1, 1) := by decide +kernel
theorem dX7_fits_29 : decode cX7_fits 29 = .ok (.goto 4, 3) := by decide +kernel
theorem dX7_fits_32 : decode cX7_fits 32 = .ok (.iconst 0, 1) := by decide +kernel
theorem dX7_fits_33 : decode cX7_fits 33 = .ok (.ireturn, 1) := by decide +kernel
theorem dX7_finds_0 : decode cX7_finds 0 = .ok (.aload_n 0, 1) := by decide +kernel
theorem dX7_finds_1 : decode cX7_finds 1 = .ok (.iload_n 1, 1) := by decide +kernel
theorem dX7_finds_2 : decode cX7_finds 2 = .ok (.putfield 115, 3) := by decide +kernel
theorem dX7_finds_5 : decode cX7_finds 5 = .ok (.aload_n 0, 1) := by decide +kernel
theorem dX7_finds_6 : decode cX7_finds 6 = .ok (.iload_n 2, 1) := by decide +kernel
theorem dX7_finds_7 : decode cX7_finds 7 = .ok (.putfield 118, 3) := by decide +kernel
theorem dX7_finds_10 : decode cX7_finds 10 = .ok (.aload_n 0, 1) := by decide +kernel
theorem dX7_finds_11 : decode cX7_finds 11 = .ok (.iload_n 3, 1) := by decide +kernel
theorem dX7_finds_12 : decode cX7_finds 12 = .ok (.putfield 121, 3) := by decide +kernel
theorem dX7_finds_15 : decode cX7_finds 15 = .ok (.aload_n 0, 1) := by decide +kernel
theorem dX7_finds_16 : decode cX7_finds 16 = .ok (.iload 4, 2) := by decide +kernel
theorem dX7_finds_18 : decode cX7_finds 18 = .ok (.putfield 124, 3) := by decide +kernel
theorem dX7_finds_21 : decode cX7_finds 21 = .ok (.iconst 1, 1) := by decide +kernel
theorem dX7_finds_22 : decode cX7_finds 22 = .ok (.ireturn, 1) := by decide +kernel
theorem dX7_byCells_0 : decode cX7_byCells 0 = .ok (.iconst 0, 1) := by decide +kernel
theorem dX7_byCells_1 : decode cX7_byCells 1 = .ok (.istore_n 2, 1) := by decide +kernel
theorem dX7_byCells_2 : decode cX7_byCells 2 = .ok (.iload_n 2, 1) := by decide +kernel
theorem dX7_byCells_3 : decode cX7_byCells 3 = .ok (.aload_n 0, 1) := by decide +kernel
theorem dX7_byCells_4 : decode cX7_byCells 4 = .ok (.invokevirtual 82, 3) := by decide +kernel
theorem dX7_byCells_7 : decode cX7_byCells 7 = .ok (.if_icmp .ge 74, 3) := by decide +kernel
theorem dX7_byCells_10 : decode cX7_byCells 10 = .ok (.aload_n 0, 1) := by decide +kernel
theorem dX7_byCells_11 : decode cX7_byCells 11 = .ok (.iload_n 2, 1) := by decide +kernel
theorem dX7_byCells_12 : decode cX7_byCells 12 = .ok (.iconst 1, 1) := by decide +kernel
theorem dX7_byCells_13 : decode cX7_byCells 13 = .ok (.invokevirtual 85, 3) := by decide +kernel
theorem dX7_byCells_16 : decode cX7_byCells 16 = .ok (.iload_n 1, 1) := by decide +kernel
theorem dX7_byCells_17 : decode cX7_byCells 17 = .ok (.iconst 1, 1) := by decide +kernel
theorem dX7_byCells_18 : decode cX7_byCells 18 = .ok (.if_icmp .ne 12, 3) := by decide +kernel
theorem dX7_byCells_21 : decode cX7_byCells 21 = .ok (.aload_n 0, 1) := by decide +kernel
theorem dX7_byCells_22 : decode cX7_byCells 22 = .ok (.iload_n 2, 1) := by decide +kernel
theorem dX7_byCells_23 : decode cX7_byCells 23 = .ok (.iconst 0, 1) := by decide +kernel
theorem dX7_byCells_24 : decode cX7_byCells 24 = .ok (.invokevirtual 85, 3) := by decide +kernel
theorem dX7_byCells_27 : decode cX7_byCells 27 = .ok (.goto 4, 3) := by decide +kernel
theorem dX7_byCells_30 : decode cX7_byCells 30 = .ok (.iconst 0, 1) := by decide +kernel
theorem dX7_byCells_31 : decode cX7_byCells 31 = .ok (.iadd, 1) := by decide +kernel
theorem dX7_byCells_32 : decode cX7_byCells 32 = .ok (.istore_n 3, 1) := by decide +kernel
theorem dX7_byCells_33 : decode cX7_byCells 33 = .ok (.aload_n 0, 1) := by decide +kernel
theorem dX7_byCells_34 : decode cX7_byCells 34 = .ok (.getfield 7, 3) := by decide +kernel
theorem dX7_byCells_37 : decode cX7_byCells 37 = .ok (.iconst 2, 1) := by decide +kernel
theorem dX7_byCells_38 : decode cX7_byCells 38 = .ok (.iload_n 2, 1) := by decide +kernel
theorem dX7_byCells_39 : decode cX7_byCells 39 = .ok (.iadd, 1) := by decide +kernel
theorem dX7_byCells_40 : decode cX7_byCells 40 = .ok (.iaload, 1) := by decide +kernel
theorem dX7_byCells_41 : decode cX7_byCells 41 = .ok (.iload_n 3, 1) := by decide +kernel
theorem dX7_byCells_42 : decode cX7_byCells 42 = .ok (.if_icmp .ne 33, 3) := by decide +kernel
theorem dX7_byCells_45 : decode cX7_byCells 45 = .ok (.aload_n 0, 1) := by decide +kernel
theorem dX7_byCells_46 : decode cX7_byCells 46 = .ok (.iload_n 2, 1) := by decide +kernel
theorem dX7_byCells_47 : decode cX7_byCells 47 = .ok (.iconst 0, 1) := by decide +kernel
theorem dX7_byCells_48 : decode cX7_byCells 48 = .ok (.invokevirtual 85, 3) := by decide +kernel
theorem dX7_byCells_51 : decode cX7_byCells 51 = .ok (.ifCond .le 24, 3) := by decide +kernel
theorem dX7_byCells_54 : decode cX7_byCells 54 = .ok (.aload_n 0, 1) := by decide +kernel
theorem dX7_byCells_55 : decode cX7_byCells 55 = .ok (.iload_n 1, 1) := by decide +kernel
theorem dX7_byCells_56 : decode cX7_byCells 56 = .ok (.aload_n 0, 1) := by decide +kernel
theorem dX7_byCells_57 : decode cX7_byCells 57 = .ok (.iload_n 2, 1) := by decide +kernel
theorem dX7_byCells_58 : decode cX7_byCells 58 = .ok (.invokevirtual 127, 3) := by decide +kernel
theorem dX7_byCells_61 : decode cX7_byCells 61 = .ok (.iload_n 1, 1) := by decide +kernel
theorem dX7_byCells_62 : decode cX7_byCells 62 = .ok (.ifCond .ne 7, 3) := by decide +kernel
theorem dX7_byCells_65 : decode cX7_byCells 65 = .ok (.iconst 2, 1) := by decide +kernel
theorem dX7_byCells_66 : decode cX7_byCells 66 = .ok (.goto 4, 3) := by decide +kernel
theorem dX7_byCells_69 : decode cX7_byCells 69 = .ok (.iconst 1, 1) := by decide +kernel
theorem dX7_byCells_70 : decode cX7_byCells 70 = .ok (.iload_n 2, 1) := by decide +kernel
theorem dX7_byCells_71 : decode cX7_byCells 71 = .ok (.invokevirtual 130, 3) := by decide +kernel
theorem dX7_byCells_74 : decode cX7_byCells 74 = .ok (.ireturn, 1) := by decide +kernel
theorem dX7_byCells_75 : decode cX7_byCells 75 = .ok (.iinc 2 1, 3) := by decide +kernel
theorem dX7_byCells_78 : decode cX7_byCells 78 = .ok (.goto (-76), 3) := by decide +kernel
theorem dX7_byCells_81 : decode cX7_byCells 81 = .ok (.iconst 0, 1) := by decide +kernel
theorem dX7_byCells_82 : decode cX7_byCells 82 = .ok (.ireturn, 1) := by decide +kernel
theorem dX7_byCorners_0 : decode cX7_byCorners 0 = .ok (.iconst 0, 1) := by decide +kernel
theorem dX7_byCorners_1 : decode cX7_byCorners 1 = .ok (.istore_n 2, 1) := by decide +kernel
theorem dX7_byCorners_2 : decode cX7_byCorners 2 = .ok (.iload_n 2, 1) := by decide +kernel
theorem dX7_byCorners_3 : decode cX7_byCorners 3 = .ok (.aload_n 0, 1) := by decide +kernel
theorem dX7_byCorners_4 : decode cX7_byCorners 4 = .ok (.invokevirtual 63, 3) := by decide +kernel
theorem dX7_byCorners_7 : decode cX7_byCorners 7 = .ok (.if_icmp .ge 94, 3) := by decide +kernel
theorem dX7_byCorners_10 : decode cX7_byCorners 10 = .ok (.aload_n 0, 1) := by decide +kernel
theorem dX7_byCorners_11 : decode cX7_byCorners 11 = .ok (.iload_n 2, 1) := by decide +kernel
theorem dX7_byCorners_12 : decode cX7_byCorners 12 = .ok (.iconst 0, 1) := by decide +kernel
theorem dX7_byCorners_13 : decode cX7_byCorners 13 = .ok (.invokevirtual 79, 3) := by decide +kernel
theorem dX7_byCorners_16 : decode cX7_byCorners 16 = .ok (.istore_n 3, 1) := by decide +kernel
theorem dX7_byCorners_17 : decode cX7_byCorners 17 = .ok (.aload_n 0, 1) := by decide +kernel
theorem dX7_byCorners_18 : decode cX7_byCorners 18 = .ok (.iload_n 2, 1) := by decide +kernel
theorem dX7_byCorners_19 : decode cX7_byCorners 19 = .ok (.iconst 1, 1) := by decide +kernel
theorem dX7_byCorners_20 : decode cX7_byCorners 20 = .ok (.invokevirtual 79, 3) := by decide +kernel
theorem dX7_byCorners_23 : decode cX7_byCorners 23 = .ok (.istore 4, 2) := by decide +kernel
theorem dX7_byCorners_25 : decode cX7_byCorners 25 = .ok (.iload_n 1, 1) := by decide +kernel
theorem dX7_byCorners_26 : decode cX7_byCorners 26 = .ok (.iconst 2, 1) := by decide +kernel
theorem dX7_byCorners_27 : decode cX7_byCorners 27 = .ok (.if_icmp .ne 21, 3) := by decide +kernel
theorem dX7_byCorners_30 : decode cX7_byCorners 30 = .ok (.iload 4, 2) := by decide +kernel
theorem dX7_byCorners_32 : decode cX7_byCorners 32 = .ok (.iconst 2, 1) := by decide +kernel
theorem dX7_byCorners_33 : decode cX7_byCorners 33 = .ok (.if_icmp .ne 11, 3) := by decide +kernel
