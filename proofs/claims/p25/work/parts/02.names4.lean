theorem dL_isAround_93 : decode cL_isAround 93 = .ok (.iload 4, 2) := by decide +kernel
theorem dL_isAround_95 : decode cL_isAround 95 = .ok (.aload_n 0, 1) := by decide +kernel
theorem dL_isAround_96 : decode cL_isAround 96 = .ok (.iconst 0, 1) := by decide +kernel
theorem dL_isAround_97 : decode cL_isAround 97 = .ok (.iaload, 1) := by decide +kernel
theorem dL_isAround_98 : decode cL_isAround 98 = .ok (.iadd, 1) := by decide +kernel
theorem dL_isAround_99 : decode cL_isAround 99 = .ok (.iconst 1, 1) := by decide +kernel
theorem dL_isAround_100 : decode cL_isAround 100 = .ok (.iadd, 1) := by decide +kernel
theorem dL_isAround_101 : decode cL_isAround 101 = .ok (.if_icmp .eq 16, 3) := by decide +kernel
theorem dL_isAround_104 : decode cL_isAround 104 = .ok (.iload 6, 2) := by decide +kernel
theorem dL_isAround_106 : decode cL_isAround 106 = .ok (.iload 4, 2) := by decide +kernel
theorem dL_isAround_108 : decode cL_isAround 108 = .ok (.aload_n 0, 1) := by decide +kernel
theorem dL_isAround_109 : decode cL_isAround 109 = .ok (.iconst 0, 1) := by decide +kernel
theorem dL_isAround_110 : decode cL_isAround 110 = .ok (.iaload, 1) := by decide +kernel
theorem dL_isAround_111 : decode cL_isAround 111 = .ok (.iadd, 1) := by decide +kernel
theorem dL_isAround_112 : decode cL_isAround 112 = .ok (.iconst 2, 1) := by decide +kernel
theorem dL_isAround_113 : decode cL_isAround 113 = .ok (.iadd, 1) := by decide +kernel
theorem dL_isAround_114 : decode cL_isAround 114 = .ok (.if_icmp .ne 7, 3) := by decide +kernel
theorem dL_isAround_117 : decode cL_isAround 117 = .ok (.iconst 1, 1) := by decide +kernel
theorem dL_isAround_118 : decode cL_isAround 118 = .ok (.goto 4, 3) := by decide +kernel
theorem dL_isAround_121 : decode cL_isAround 121 = .ok (.iconst 0, 1) := by decide +kernel
theorem dL_isAround_122 : decode cL_isAround 122 = .ok (.ireturn, 1) := by decide +kernel
theorem dL_around_0 : decode cL_around 0 = .ok (.iconst 0, 1) := by decide +kernel
theorem dL_around_1 : decode cL_around 1 = .ok (.istore_n 3, 1) := by decide +kernel
theorem dL_around_2 : decode cL_around 2 = .ok (.iconst 0, 1) := by decide +kernel
theorem dL_around_3 : decode cL_around 3 = .ok (.istore 4, 2) := by decide +kernel
theorem dL_around_5 : decode cL_around 5 = .ok (.iload 4, 2) := by decide +kernel
theorem dL_around_7 : decode cL_around 7 = .ok (.aload_n 0, 1) := by decide +kernel
theorem dL_around_8 : decode cL_around 8 = .ok (.invokestatic 19, 3) := by decide +kernel
theorem dL_around_11 : decode cL_around 11 = .ok (.if_icmp .ge 38, 3) := by decide +kernel
theorem dL_around_14 : decode cL_around 14 = .ok (.iload_n 3, 1) := by decide +kernel
theorem dL_around_15 : decode cL_around 15 = .ok (.aload_n 0, 1) := by decide +kernel
theorem dL_around_16 : decode cL_around 16 = .ok (.bipush 18, 2) := by decide +kernel
theorem dL_around_18 : decode cL_around 18 = .ok (.iload 4, 2) := by decide +kernel
theorem dL_around_20 : decode cL_around 20 = .ok (.iadd, 1) := by decide +kernel
theorem dL_around_21 : decode cL_around 21 = .ok (.iaload, 1) := by decide +kernel
theorem dL_around_22 : decode cL_around 22 = .ok (.iload_n 2, 1) := by decide +kernel
theorem dL_around_23 : decode cL_around 23 = .ok (.if_icmp .ne 17, 3) := by decide +kernel
theorem dL_around_26 : decode cL_around 26 = .ok (.aload_n 0, 1) := by decide +kernel
theorem dL_around_27 : decode cL_around 27 = .ok (.iload 4, 2) := by decide +kernel
theorem dL_around_29 : decode cL_around 29 = .ok (.iload_n 1, 1) := by decide +kernel
theorem dL_around_30 : decode cL_around 30 = .ok (.invokestatic 22, 3) := by decide +kernel
theorem dL_around_33 : decode cL_around 33 = .ok (.ifCond .eq 7, 3) := by decide +kernel
theorem dL_around_36 : decode cL_around 36 = .ok (.iconst 1, 1) := by decide +kernel
theorem dL_around_37 : decode cL_around 37 = .ok (.goto 4, 3) := by decide +kernel
theorem dL_around_40 : decode cL_around 40 = .ok (.iconst 0, 1) := by decide +kernel
theorem dL_around_41 : decode cL_around 41 = .ok (.iadd, 1) := by decide +kernel
theorem dL_around_42 : decode cL_around 42 = .ok (.istore_n 3, 1) := by decide +kernel
theorem dL_around_43 : decode cL_around 43 = .ok (.iinc 4 1, 3) := by decide +kernel
theorem dL_around_46 : decode cL_around 46 = .ok (.goto (-41), 3) := by decide +kernel
theorem dL_around_49 : decode cL_around 49 = .ok (.iload_n 3, 1) := by decide +kernel
theorem dL_around_50 : decode cL_around 50 = .ok (.ireturn, 1) := by decide +kernel
theorem dL_at_0 : decode cL_at 0 = .ok (.iconst 0, 1) := by decide +kernel
theorem dL_at_1 : decode cL_at 1 = .ok (.istore_n 3, 1) := by decide +kernel
theorem dL_at_2 : decode cL_at 2 = .ok (.iconst 0, 1) := by decide +kernel
theorem dL_at_3 : decode cL_at 3 = .ok (.istore 4, 2) := by decide +kernel
theorem dL_at_5 : decode cL_at 5 = .ok (.iload 4, 2) := by decide +kernel
theorem dL_at_7 : decode cL_at 7 = .ok (.aload_n 0, 1) := by decide +kernel
theorem dL_at_8 : decode cL_at 8 = .ok (.invokestatic 19, 3) := by decide +kernel
theorem dL_at_11 : decode cL_at 11 = .ok (.if_icmp .ge 38, 3) := by decide +kernel
theorem dL_at_14 : decode cL_at 14 = .ok (.iload_n 3, 1) := by decide +kernel
theorem dL_at_15 : decode cL_at 15 = .ok (.aload_n 0, 1) := by decide +kernel
theorem dL_at_16 : decode cL_at 16 = .ok (.bipush 18, 2) := by decide +kernel
theorem dL_at_18 : decode cL_at 18 = .ok (.iload 4, 2) := by decide +kernel
theorem dL_at_20 : decode cL_at 20 = .ok (.iadd, 1) := by decide +kernel
theorem dL_at_21 : decode cL_at 21 = .ok (.iaload, 1) := by decide +kernel
theorem dL_at_22 : decode cL_at 22 = .ok (.iload_n 2, 1) := by decide +kernel
theorem dL_at_23 : decode cL_at 23 = .ok (.if_icmp .ne 17, 3) := by decide +kernel
theorem dL_at_26 : decode cL_at 26 = .ok (.aload_n 0, 1) := by decide +kernel
theorem dL_at_27 : decode cL_at 27 = .ok (.iload 4, 2) := by decide +kernel
theorem dL_at_29 : decode cL_at 29 = .ok (.iload_n 1, 1) := by decide +kernel
theorem dL_at_30 : decode cL_at 30 = .ok (.invokestatic 26, 3) := by decide +kernel
theorem dL_at_33 : decode cL_at 33 = .ok (.ifCond .eq 7, 3) := by decide +kernel
theorem dL_at_36 : decode cL_at 36 = .ok (.iconst 1, 1) := by decide +kernel
theorem dL_at_37 : decode cL_at 37 = .ok (.goto 4, 3) := by decide +kernel
theorem dL_at_40 : decode cL_at 40 = .ok (.iconst 0, 1) := by decide +kernel
theorem dL_at_41 : decode cL_at 41 = .ok (.iadd, 1) := by decide +kernel
theorem dL_at_42 : decode cL_at 42 = .ok (.istore_n 3, 1) := by decide +kernel
theorem dL_at_43 : decode cL_at 43 = .ok (.iinc 4 1, 3) := by decide +kernel
theorem dL_at_46 : decode cL_at 46 = .ok (.goto (-41), 3) := by decide +kernel
theorem dL_at_49 : decode cL_at 49 = .ok (.iload_n 3, 1) := by decide +kernel
theorem dL_at_50 : decode cL_at 50 = .ok (.ireturn, 1) := by decide +kernel
theorem dL_firstCell_0 : decode cL_firstCell 0 = .ok (.iconst 0, 1) := by decide +kernel
theorem dL_firstCell_1 : decode cL_firstCell 1 = .ok (.istore_n 1, 1) := by decide +kernel
theorem dL_firstCell_2 : decode cL_firstCell 2 = .ok (.iload_n 1, 1) := by decide +kernel
theorem dL_firstCell_3 : decode cL_firstCell 3 = .ok (.aload_n 0, 1) := by decide +kernel
theorem dL_firstCell_4 : decode cL_firstCell 4 = .ok (.iconst 0, 1) := by decide +kernel
theorem dL_firstCell_5 : decode cL_firstCell 5 = .ok (.iaload, 1) := by decide +kernel
theorem dL_firstCell_6 : decode cL_firstCell 6 = .ok (.aload_n 0, 1) := by decide +kernel
theorem dL_firstCell_7 : decode cL_firstCell 7 = .ok (.iconst 1, 1) := by decide +kernel
theorem dL_firstCell_8 : decode cL_firstCell 8 = .ok (.iaload, 1) := by decide +kernel
theorem dL_firstCell_9 : decode cL_firstCell 9 = .ok (.imul, 1) := by decide +kernel
theorem dL_firstCell_10 : decode cL_firstCell 10 = .ok (.if_icmp .ge 49, 3) := by decide +kernel
theorem dL_firstCell_13 : decode cL_firstCell 13 = .ok (.aload_n 0, 1) := by decide +kernel
theorem dL_firstCell_14 : decode cL_firstCell 14 = .ok (.iconst 2, 1) := by decide +kernel
theorem dL_firstCell_15 : decode cL_firstCell 15 = .ok (.iload_n 1, 1) := by decide +kernel
theorem dL_firstCell_16 : decode cL_firstCell 16 = .ok (.iadd, 1) := by decide +kernel
theorem dL_firstCell_17 : decode cL_firstCell 17 = .ok (.iaload, 1) := by decide +kernel
theorem dL_firstCell_18 : decode cL_firstCell 18 = .ok (.ifCond .lt 35, 3) := by decide +kernel
theorem dL_firstCell_21 : decode cL_firstCell 21 = .ok (.aload_n 0, 1) := by decide +kernel
theorem dL_firstCell_22 : decode cL_firstCell 22 = .ok (.iload_n 1, 1) := by decide +kernel
theorem dL_firstCell_23 : decode cL_firstCell 23 = .ok (.iconst 1, 1) := by decide +kernel
theorem dL_firstCell_24 : decode cL_firstCell 24 = .ok (.invokestatic 29, 3) := by decide +kernel
theorem dL_firstCell_27 : decode cL_firstCell 27 = .ok (.aload_n 0, 1) := by decide +kernel
theorem dL_firstCell_28 : decode cL_firstCell 28 = .ok (.iconst 2, 1) := by decide +kernel
theorem dL_firstCell_29 : decode cL_firstCell 29 = .ok (.iload_n 1, 1) := by decide +kernel
theorem dL_firstCell_30 : decode cL_firstCell 30 = .ok (.iadd, 1) := by decide +kernel
theorem dL_firstCell_31 : decode cL_firstCell 31 = .ok (.iaload, 1) := by decide +kernel
theorem dL_firstCell_32 : decode cL_firstCell 32 = .ok (.if_icmp .gt 19, 3) := by decide +kernel
theorem dL_firstCell_35 : decode cL_firstCell 35 = .ok (.aload_n 0, 1) := by decide +kernel
theorem dL_firstCell_36 : decode cL_firstCell 36 = .ok (.iload_n 1, 1) := by decide +kernel
theorem dL_firstCell_37 : decode cL_firstCell 37 = .ok (.iconst 2, 1) := by decide +kernel
theorem dL_firstCell_38 : decode cL_firstCell 38 = .ok (.invokestatic 29, 3) := by decide +kernel
theorem dL_firstCell_41 : decode cL_firstCell 41 = .ok (.iconst 4, 1) := by decide +kernel
theorem dL_firstCell_42 : decode cL_firstCell 42 = .ok (.aload_n 0, 1) := by decide +kernel
theorem dL_firstCell_43 : decode cL_firstCell 43 = .ok (.iconst 2, 1) := by decide +kernel
theorem dL_firstCell_44 : decode cL_firstCell 44 = .ok (.iload_n 1, 1) := by decide +kernel
theorem dL_firstCell_45 : decode cL_firstCell 45 = .ok (.iadd, 1) := by decide +kernel
theorem dL_firstCell_46 : decode cL_firstCell 46 = .ok (.iaload, 1) := by decide +kernel
theorem dL_firstCell_47 : decode cL_firstCell 47 = .ok (.isub, 1) := by decide +kernel
theorem dL_firstCell_48 : decode cL_firstCell 48 = .ok (.if_icmp .le 5, 3) := by decide +kernel
theorem dL_firstCell_51 : decode cL_firstCell 51 = .ok (.iload_n 1, 1) := by decide +kernel
theorem dL_firstCell_52 : decode cL_firstCell 52 = .ok (.ireturn, 1) := by decide +kernel
theorem dL_firstCell_53 : decode cL_firstCell 53 = .ok (.iinc 1 1, 3) := by decide +kernel
theorem dL_firstCell_56 : decode cL_firstCell 56 = .ok (.goto (-54), 3) := by decide +kernel
theorem dL_firstCell_59 : decode cL_firstCell 59 = .ok (.iconst (-1), 1) := by decide +kernel
theorem dL_firstCell_60 : decode cL_firstCell 60 = .ok (.ireturn, 1) := by decide +kernel
theorem dL_firstCorner_0 : decode cL_firstCorner 0 = .ok (.iconst 0, 1) := by decide +kernel
theorem dL_firstCorner_1 : decode cL_firstCorner 1 = .ok (.istore_n 1, 1) := by decide +kernel
theorem dL_firstCorner_2 : decode cL_firstCorner 2 = .ok (.iload_n 1, 1) := by decide +kernel
theorem dL_firstCorner_3 : decode cL_firstCorner 3 = .ok (.aload_n 0, 1) := by decide +kernel
theorem dL_firstCorner_4 : decode cL_firstCorner 4 = .ok (.invokestatic 33, 3) := by decide +kernel
theorem dL_firstCorner_7 : decode cL_firstCorner 7 = .ok (.if_icmp .ge 40, 3) := by decide +kernel
theorem dL_firstCorner_10 : decode cL_firstCorner 10 = .ok (.aload_n 0, 1) := by decide +kernel
theorem dL_firstCorner_11 : decode cL_firstCorner 11 = .ok (.iload_n 1, 1) := by decide +kernel
theorem dL_firstCorner_12 : decode cL_firstCorner 12 = .ok (.iconst 1, 1) := by decide +kernel
theorem dL_firstCorner_13 : decode cL_firstCorner 13 = .ok (.invokestatic 36, 3) := by decide +kernel
theorem dL_firstCorner_16 : decode cL_firstCorner 16 = .ok (.iconst 2, 1) := by decide +kernel
theorem dL_firstCorner_17 : decode cL_firstCorner 17 = .ok (.if_icmp .gt 22, 3) := by decide +kernel
theorem dL_firstCorner_20 : decode cL_firstCorner 20 = .ok (.aload_n 0, 1) := by decide +kernel
theorem dL_firstCorner_21 : decode cL_firstCorner 21 = .ok (.iload_n 1, 1) := by decide +kernel
theorem dL_firstCorner_22 : decode cL_firstCorner 22 = .ok (.iconst 1, 1) := by decide +kernel
theorem dL_firstCorner_23 : decode cL_firstCorner 23 = .ok (.invokestatic 36, 3) := by decide +kernel
theorem dL_firstCorner_26 : decode cL_firstCorner 26 = .ok (.iconst 1, 1) := by decide +kernel
theorem dL_firstCorner_27 : decode cL_firstCorner 27 = .ok (.if_icmp .ne 14, 3) := by decide +kernel
theorem dL_firstCorner_30 : decode cL_firstCorner 30 = .ok (.aload_n 0, 1) := by decide +kernel
theorem dL_firstCorner_31 : decode cL_firstCorner 31 = .ok (.iload_n 1, 1) := by decide +kernel
theorem dL_firstCorner_32 : decode cL_firstCorner 32 = .ok (.iconst 0, 1) := by decide +kernel
theorem dL_firstCorner_33 : decode cL_firstCorner 33 = .ok (.invokestatic 36, 3) := by decide +kernel
theorem dL_firstCorner_36 : decode cL_firstCorner 36 = .ok (.ifCond .ne 5, 3) := by decide +kernel
theorem dL_firstCorner_39 : decode cL_firstCorner 39 = .ok (.iload_n 1, 1) := by decide +kernel
theorem dL_firstCorner_40 : decode cL_firstCorner 40 = .ok (.ireturn, 1) := by decide +kernel
theorem dL_firstCorner_41 : decode cL_firstCorner 41 = .ok (.iinc 1 1, 3) := by decide +kernel
theorem dL_firstCorner_44 : decode cL_firstCorner 44 = .ok (.goto (-42), 3) := by decide +kernel
theorem dL_firstCorner_47 : decode cL_firstCorner 47 = .ok (.iconst (-1), 1) := by decide +kernel
theorem dL_firstCorner_48 : decode cL_firstCorner 48 = .ok (.ireturn, 1) := by decide +kernel
theorem dL_joins_0 : decode cL_joins 0 = .ok (.aload_n 0, 1) := by decide +kernel
theorem dL_joins_1 : decode cL_joins 1 = .ok (.invokestatic 19, 3) := by decide +kernel
theorem dL_joins_4 : decode cL_joins 4 = .ok (.istore_n 2, 1) := by decide +kernel
theorem dL_joins_5 : decode cL_joins 5 = .ok (.iconst 0, 1) := by decide +kernel
theorem dL_joins_6 : decode cL_joins 6 = .ok (.istore_n 3, 1) := by decide +kernel
theorem dL_joins_7 : decode cL_joins 7 = .ok (.iload_n 3, 1) := by decide +kernel
theorem dL_joins_8 : decode cL_joins 8 = .ok (.iload_n 2, 1) := by decide +kernel
theorem dL_joins_9 : decode cL_joins 9 = .ok (.if_icmp .ge 27, 3) := by decide +kernel
theorem dL_joins_12 : decode cL_joins 12 = .ok (.aload_n 1, 1) := by decide +kernel
theorem dL_joins_13 : decode cL_joins 13 = .ok (.iload_n 3, 1) := by decide +kernel
theorem dL_joins_14 : decode cL_joins 14 = .ok (.aload_n 0, 1) := by decide +kernel
theorem dL_joins_15 : decode cL_joins 15 = .ok (.bipush 18, 2) := by decide +kernel
theorem dL_joins_17 : decode cL_joins 17 = .ok (.iload_n 3, 1) := by decide +kernel
theorem dL_joins_18 : decode cL_joins 18 = .ok (.iadd, 1) := by decide +kernel
theorem dL_joins_19 : decode cL_joins 19 = .ok (.iaload, 1) := by decide +kernel
theorem dL_joins_20 : decode cL_joins 20 = .ok (.iconst 1, 1) := by decide +kernel
theorem dL_joins_21 : decode cL_joins 21 = .ok (.if_icmp .ne 7, 3) := by decide +kernel
theorem dL_joins_24 : decode cL_joins 24 = .ok (.iload_n 3, 1) := by decide +kernel
theorem dL_joins_25 : decode cL_joins 25 = .ok (.goto 4, 3) := by decide +kernel
theorem dL_joins_28 : decode cL_joins 28 = .ok (.iconst (-1), 1) := by decide +kernel
theorem dL_joins_29 : decode cL_joins 29 = .ok (.iastore, 1) := by decide +kernel
theorem dL_joins_30 : decode cL_joins 30 = .ok (.iinc 3 1, 3) := by decide +kernel
theorem dL_joins_33 : decode cL_joins 33 = .ok (.goto (-26), 3) := by decide +kernel
theorem dL_joins_36 : decode cL_joins 36 = .ok (.iconst 1, 1) := by decide +kernel
theorem dL_joins_37 : decode cL_joins 37 = .ok (.istore_n 3, 1) := by decide +kernel
theorem dL_joins_38 : decode cL_joins 38 = .ok (.iload_n 3, 1) := by decide +kernel
theorem dL_joins_39 : decode cL_joins 39 = .ok (.ifCond .eq 150, 3) := by decide +kernel
theorem dL_joins_42 : decode cL_joins 42 = .ok (.iconst 0, 1) := by decide +kernel
theorem dL_joins_43 : decode cL_joins 43 = .ok (.istore_n 3, 1) := by decide +kernel
theorem dL_joins_44 : decode cL_joins 44 = .ok (.iconst 0, 1) := by decide +kernel
theorem dL_joins_45 : decode cL_joins 45 = .ok (.istore 4, 2) := by decide +kernel
theorem dL_joins_47 : decode cL_joins 47 = .ok (.iload 4, 2) := by decide +kernel
theorem dL_joins_49 : decode cL_joins 49 = .ok (.iload_n 2, 1) := by decide +kernel
theorem dL_joins_50 : decode cL_joins 50 = .ok (.if_icmp .ge 136, 3) := by decide +kernel
theorem dL_joins_53 : decode cL_joins 53 = .ok (.iconst 0, 1) := by decide +kernel
theorem dL_joins_54 : decode cL_joins 54 = .ok (.istore 5, 2) := by decide +kernel
theorem dL_joins_56 : decode cL_joins 56 = .ok (.iload 5, 2) := by decide +kernel
theorem dL_joins_58 : decode cL_joins 58 = .ok (.iload 4, 2) := by decide +kernel
theorem dL_joins_60 : decode cL_joins 60 = .ok (.if_icmp .ge 120, 3) := by decide +kernel
theorem dL_joins_63 : decode cL_joins 63 = .ok (.aload_n 1, 1) := by decide +kernel
theorem dL_joins_64 : decode cL_joins 64 = .ok (.iload 4, 2) := by decide +kernel
theorem dL_joins_66 : decode cL_joins 66 = .ok (.iaload, 1) := by decide +kernel
theorem dL_joins_67 : decode cL_joins 67 = .ok (.ifCond .lt 61, 3) := by decide +kernel
theorem dL_joins_70 : decode cL_joins 70 = .ok (.aload_n 1, 1) := by decide +kernel
theorem dL_joins_71 : decode cL_joins 71 = .ok (.iload 5, 2) := by decide +kernel
theorem dL_joins_73 : decode cL_joins 73 = .ok (.iaload, 1) := by decide +kernel
theorem dL_joins_74 : decode cL_joins 74 = .ok (.ifCond .lt 54, 3) := by decide +kernel
theorem dL_joins_77 : decode cL_joins 77 = .ok (.aload_n 1, 1) := by decide +kernel
theorem dL_joins_78 : decode cL_joins 78 = .ok (.iload 4, 2) := by decide +kernel
theorem dL_joins_80 : decode cL_joins 80 = .ok (.iaload, 1) := by decide +kernel
theorem dL_joins_81 : decode cL_joins 81 = .ok (.aload_n 1, 1) := by decide +kernel
theorem dL_joins_82 : decode cL_joins 82 = .ok (.iload 5, 2) := by decide +kernel
theorem dL_joins_84 : decode cL_joins 84 = .ok (.iaload, 1) := by decide +kernel
theorem dL_joins_85 : decode cL_joins 85 = .ok (.if_icmp .eq 43, 3) := by decide +kernel
theorem dL_joins_88 : decode cL_joins 88 = .ok (.aload_n 0, 1) := by decide +kernel
theorem dL_joins_89 : decode cL_joins 89 = .ok (.iload 5, 2) := by decide +kernel
theorem dL_joins_91 : decode cL_joins 91 = .ok (.aload_n 0, 1) := by decide +kernel
theorem dL_joins_92 : decode cL_joins 92 = .ok (.iload 4, 2) := by decide +kernel
theorem dL_joins_94 : decode cL_joins 94 = .ok (.invokestatic 15, 3) := by decide +kernel
theorem dL_joins_97 : decode cL_joins 97 = .ok (.bipush 32, 2) := by decide +kernel
theorem dL_joins_99 : decode cL_joins 99 = .ok (.idiv, 1) := by decide +kernel
theorem dL_joins_100 : decode cL_joins 100 = .ok (.invokestatic 26, 3) := by decide +kernel
theorem dL_joins_103 : decode cL_joins 103 = .ok (.ifCond .ne 21, 3) := by decide +kernel
theorem dL_joins_106 : decode cL_joins 106 = .ok (.aload_n 0, 1) := by decide +kernel
theorem dL_joins_107 : decode cL_joins 107 = .ok (.iload 5, 2) := by decide +kernel
theorem dL_joins_109 : decode cL_joins 109 = .ok (.aload_n 0, 1) := by decide +kernel
theorem dL_joins_110 : decode cL_joins 110 = .ok (.iload 4, 2) := by decide +kernel
theorem dL_joins_112 : decode cL_joins 112 = .ok (.invokestatic 15, 3) := by decide +kernel
theorem dL_joins_115 : decode cL_joins 115 = .ok (.bipush 32, 2) := by decide +kernel
theorem dL_joins_117 : decode cL_joins 117 = .ok (.irem, 1) := by decide +kernel
theorem dL_joins_118 : decode cL_joins 118 = .ok (.invokestatic 26, 3) := by decide +kernel
theorem dL_joins_121 : decode cL_joins 121 = .ok (.ifCond .eq 7, 3) := by decide +kernel
theorem dL_joins_124 : decode cL_joins 124 = .ok (.iconst 1, 1) := by decide +kernel
theorem dL_joins_125 : decode cL_joins 125 = .ok (.goto 4, 3) := by decide +kernel
theorem dL_joins_128 : decode cL_joins 128 = .ok (.iconst 0, 1) := by decide +kernel
theorem dL_joins_129 : decode cL_joins 129 = .ok (.istore 6, 2) := by decide +kernel
theorem dL_joins_131 : decode cL_joins 131 = .ok (.iload 6, 2) := by decide +kernel
theorem dL_joins_133 : decode cL_joins 133 = .ok (.ifCond .eq 41, 3) := by decide +kernel
theorem dL_joins_136 : decode cL_joins 136 = .ok (.aload_n 1, 1) := by decide +kernel
theorem dL_joins_137 : decode cL_joins 137 = .ok (.iload 4, 2) := by decide +kernel
theorem dL_joins_139 : decode cL_joins 139 = .ok (.iaload, 1) := by decide +kernel
theorem dL_joins_140 : decode cL_joins 140 = .ok (.aload_n 1, 1) := by decide +kernel
theorem dL_joins_141 : decode cL_joins 141 = .ok (.iload 5, 2) := by decide +kernel
theorem dL_joins_143 : decode cL_joins 143 = .ok (.iaload, 1) := by decide +kernel
theorem dL_joins_144 : decode cL_joins 144 = .ok (.if_icmp .ge 10, 3) := by decide +kernel
theorem dL_joins_147 : decode cL_joins 147 = .ok (.aload_n 1, 1) := by decide +kernel
theorem dL_joins_148 : decode cL_joins 148 = .ok (.iload 4, 2) := by decide +kernel
theorem dL_joins_150 : decode cL_joins 150 = .ok (.iaload, 1) := by decide +kernel
theorem dL_joins_151 : decode cL_joins 151 = .ok (.goto 7, 3) := by decide +kernel
theorem dL_joins_154 : decode cL_joins 154 = .ok (.aload_n 1, 1) := by decide +kernel
theorem dL_joins_155 : decode cL_joins 155 = .ok (.iload 5, 2) := by decide +kernel
theorem dL_joins_157 : decode cL_joins 157 = .ok (.iaload, 1) := by decide +kernel
theorem dL_joins_158 : decode cL_joins 158 = .ok (.istore 7, 2) := by decide +kernel
theorem dL_joins_160 : decode cL_joins 160 = .ok (.aload_n 1, 1) := by decide +kernel
theorem dL_joins_161 : decode cL_joins 161 = .ok (.iload 4, 2) := by decide +kernel
theorem dL_joins_163 : decode cL_joins 163 = .ok (.iload 7, 2) := by decide +kernel
theorem dL_joins_165 : decode cL_joins 165 = .ok (.iastore, 1) := by decide +kernel
theorem dL_joins_166 : decode cL_joins 166 = .ok (.aload_n 1, 1) := by decide +kernel
theorem dL_joins_167 : decode cL_joins 167 = .ok (.iload 5, 2) := by decide +kernel
theorem dL_joins_169 : decode cL_joins 169 = .ok (.iload 7, 2) := by decide +kernel
theorem dL_joins_171 : decode cL_joins 171 = .ok (.iastore, 1) := by decide +kernel
theorem dL_joins_172 : decode cL_joins 172 = .ok (.iconst 1, 1) := by decide +kernel
theorem dL_joins_173 : decode cL_joins 173 = .ok (.istore_n 3, 1) := by decide +kernel
theorem dL_joins_174 : decode cL_joins 174 = .ok (.iinc 5 1, 3) := by decide +kernel
theorem dL_joins_177 : decode cL_joins 177 = .ok (.goto (-121), 3) := by decide +kernel
theorem dL_joins_180 : decode cL_joins 180 = .ok (.iinc 4 1, 3) := by decide +kernel
theorem dL_joins_183 : decode cL_joins 183 = .ok (.goto (-136), 3) := by decide +kernel
theorem dL_joins_186 : decode cL_joins 186 = .ok (.goto (-148), 3) := by decide +kernel
theorem dL_joins_189 : decode cL_joins 189 = .ok (.return_, 1) := by decide +kernel
theorem dL_isRing_0 : decode cL_isRing 0 = .ok (.iconst 0, 1) := by decide +kernel
theorem dL_isRing_1 : decode cL_isRing 1 = .ok (.istore_n 3, 1) := by decide +kernel
theorem dL_isRing_2 : decode cL_isRing 2 = .ok (.iload_n 3, 1) := by decide +kernel
theorem dL_isRing_3 : decode cL_isRing 3 = .ok (.aload_n 0, 1) := by decide +kernel
theorem dL_isRing_4 : decode cL_isRing 4 = .ok (.invokestatic 19, 3) := by decide +kernel
theorem dL_isRing_7 : decode cL_isRing 7 = .ok (.if_icmp .ge 52, 3) := by decide +kernel
theorem dL_isRing_10 : decode cL_isRing 10 = .ok (.aload_n 1, 1) := by decide +kernel
theorem dL_isRing_11 : decode cL_isRing 11 = .ok (.iload_n 3, 1) := by decide +kernel
theorem dL_isRing_12 : decode cL_isRing 12 = .ok (.iaload, 1) := by decide +kernel
theorem dL_isRing_13 : decode cL_isRing 13 = .ok (.iload_n 2, 1) := by decide +kernel
theorem dL_isRing_14 : decode cL_isRing 14 = .ok (.if_icmp .ne 39, 3) := by decide +kernel
theorem dL_isRing_17 : decode cL_isRing 17 = .ok (.aload_n 0, 1) := by decide +kernel
theorem dL_isRing_18 : decode cL_isRing 18 = .ok (.aload_n 0, 1) := by decide +kernel
theorem dL_isRing_19 : decode cL_isRing 19 = .ok (.iload_n 3, 1) := by decide +kernel
theorem dL_isRing_20 : decode cL_isRing 20 = .ok (.invokestatic 15, 3) := by decide +kernel
theorem dL_isRing_23 : decode cL_isRing 23 = .ok (.bipush 32, 2) := by decide +kernel
theorem dL_isRing_25 : decode cL_isRing 25 = .ok (.idiv, 1) := by decide +kernel
theorem dL_isRing_26 : decode cL_isRing 26 = .ok (.iconst 1, 1) := by decide +kernel
theorem dL_isRing_27 : decode cL_isRing 27 = .ok (.invokestatic 36, 3) := by decide +kernel
theorem dL_isRing_30 : decode cL_isRing 30 = .ok (.iconst 2, 1) := by decide +kernel
theorem dL_isRing_31 : decode cL_isRing 31 = .ok (.if_icmp .ne 20, 3) := by decide +kernel
theorem dL_isRing_34 : decode cL_isRing 34 = .ok (.aload_n 0, 1) := by decide +kernel
theorem dL_isRing_35 : decode cL_isRing 35 = .ok (.aload_n 0, 1) := by decide +kernel
theorem dL_isRing_36 : decode cL_isRing 36 = .ok (.iload_n 3, 1) := by decide +kernel
theorem dL_isRing_37 : decode cL_isRing 37 = .ok (.invokestatic 15, 3) := by decide +kernel
theorem dL_isRing_40 : decode cL_isRing 40 = .ok (.bipush 32, 2) := by decide +kernel
theorem dL_isRing_42 : decode cL_isRing 42 = .ok (.irem, 1) := by decide +kernel
theorem dL_isRing_43 : decode cL_isRing 43 = .ok (.iconst 1, 1) := by decide +kernel
theorem dL_isRing_44 : decode cL_isRing 44 = .ok (.invokestatic 36, 3) := by decide +kernel
theorem dL_isRing_47 : decode cL_isRing 47 = .ok (.iconst 2, 1) := by decide +kernel
theorem dL_isRing_48 : decode cL_isRing 48 = .ok (.if_icmp .eq 5, 3) := by decide +kernel
theorem dL_isRing_51 : decode cL_isRing 51 = .ok (.iconst 0, 1) := by decide +kernel
theorem dL_isRing_52 : decode cL_isRing 52 = .ok (.ireturn, 1) := by decide +kernel
theorem dL_isRing_53 : decode cL_isRing 53 = .ok (.iinc 3 1, 3) := by decide +kernel
theorem dL_isRing_56 : decode cL_isRing 56 = .ok (.goto (-54), 3) := by decide +kernel
theorem dL_isRing_59 : decode cL_isRing 59 = .ok (.iconst 1, 1) := by decide +kernel
theorem dL_isRing_60 : decode cL_isRing 60 = .ok (.ireturn, 1) := by decide +kernel
theorem dL_size_0 : decode cL_size 0 = .ok (.iconst 0, 1) := by decide +kernel
theorem dL_size_1 : decode cL_size 1 = .ok (.istore_n 3, 1) := by decide +kernel
theorem dL_size_2 : decode cL_size 2 = .ok (.iconst 0, 1) := by decide +kernel
theorem dL_size_3 : decode cL_size 3 = .ok (.istore 4, 2) := by decide +kernel
theorem dL_size_5 : decode cL_size 5 = .ok (.iload 4, 2) := by decide +kernel
theorem dL_size_7 : decode cL_size 7 = .ok (.aload_n 0, 1) := by decide +kernel
theorem dL_size_8 : decode cL_size 8 = .ok (.invokestatic 19, 3) := by decide +kernel
theorem dL_size_11 : decode cL_size 11 = .ok (.if_icmp .ge 25, 3) := by decide +kernel
theorem dL_size_14 : decode cL_size 14 = .ok (.iload_n 3, 1) := by decide +kernel
theorem dL_size_15 : decode cL_size 15 = .ok (.aload_n 1, 1) := by decide +kernel
theorem dL_size_16 : decode cL_size 16 = .ok (.iload 4, 2) := by decide +kernel
theorem dL_size_18 : decode cL_size 18 = .ok (.iaload, 1) := by decide +kernel
theorem dL_size_19 : decode cL_size 19 = .ok (.iload_n 2, 1) := by decide +kernel
theorem dL_size_20 : decode cL_size 20 = .ok (.if_icmp .ne 7, 3) := by decide +kernel
theorem dL_size_23 : decode cL_size 23 = .ok (.iconst 1, 1) := by decide +kernel
theorem dL_size_24 : decode cL_size 24 = .ok (.goto 4, 3) := by decide +kernel
theorem dL_size_27 : decode cL_size 27 = .ok (.iconst 0, 1) := by decide +kernel
theorem dL_size_28 : decode cL_size 28 = .ok (.iadd, 1) := by decide +kernel
theorem dL_size_29 : decode cL_size 29 = .ok (.istore_n 3, 1) := by decide +kernel
theorem dL_size_30 : decode cL_size 30 = .ok (.iinc 4 1, 3) := by decide +kernel
theorem dL_size_33 : decode cL_size 33 = .ok (.goto (-28), 3) := by decide +kernel
theorem dL_size_36 : decode cL_size 36 = .ok (.iload_n 3, 1) := by decide +kernel
theorem dL_size_37 : decode cL_size 37 = .ok (.ireturn, 1) := by decide +kernel
theorem dL_isMet_0 : decode cL_isMet 0 = .ok (.iconst 0, 1) := by decide +kernel
theorem dL_isMet_1 : decode cL_isMet 1 = .ok (.istore_n 1, 1) := by decide +kernel
theorem dL_isMet_2 : decode cL_isMet 2 = .ok (.iload_n 1, 1) := by decide +kernel
theorem dL_isMet_3 : decode cL_isMet 3 = .ok (.aload_n 0, 1) := by decide +kernel
theorem dL_isMet_4 : decode cL_isMet 4 = .ok (.iconst 0, 1) := by decide +kernel
theorem dL_isMet_5 : decode cL_isMet 5 = .ok (.iaload, 1) := by decide +kernel
theorem dL_isMet_6 : decode cL_isMet 6 = .ok (.aload_n 0, 1) := by decide +kernel
theorem dL_isMet_7 : decode cL_isMet 7 = .ok (.iconst 1, 1) := by decide +kernel
theorem dL_isMet_8 : decode cL_isMet 8 = .ok (.iaload, 1) := by decide +kernel
theorem dL_isMet_9 : decode cL_isMet 9 = .ok (.imul, 1) := by decide +kernel
theorem dL_isMet_10 : decode cL_isMet 10 = .ok (.if_icmp .ge 33, 3) := by decide +kernel
theorem dL_isMet_13 : decode cL_isMet 13 = .ok (.aload_n 0, 1) := by decide +kernel
theorem dL_isMet_14 : decode cL_isMet 14 = .ok (.iconst 2, 1) := by decide +kernel
theorem dL_isMet_15 : decode cL_isMet 15 = .ok (.iload_n 1, 1) := by decide +kernel
theorem dL_isMet_16 : decode cL_isMet 16 = .ok (.iadd, 1) := by decide +kernel
theorem dL_isMet_17 : decode cL_isMet 17 = .ok (.iaload, 1) := by decide +kernel
theorem dL_isMet_18 : decode cL_isMet 18 = .ok (.ifCond .lt 19, 3) := by decide +kernel
theorem dL_isMet_21 : decode cL_isMet 21 = .ok (.aload_n 0, 1) := by decide +kernel
theorem dL_isMet_22 : decode cL_isMet 22 = .ok (.iload_n 1, 1) := by decide +kernel
theorem dL_isMet_23 : decode cL_isMet 23 = .ok (.iconst 1, 1) := by decide +kernel
theorem dL_isMet_24 : decode cL_isMet 24 = .ok (.invokestatic 29, 3) := by decide +kernel
theorem dL_isMet_27 : decode cL_isMet 27 = .ok (.aload_n 0, 1) := by decide +kernel
theorem dL_isMet_28 : decode cL_isMet 28 = .ok (.iconst 2, 1) := by decide +kernel
theorem dL_isMet_29 : decode cL_isMet 29 = .ok (.iload_n 1, 1) := by decide +kernel
theorem dL_isMet_30 : decode cL_isMet 30 = .ok (.iadd, 1) := by decide +kernel
theorem dL_isMet_31 : decode cL_isMet 31 = .ok (.iaload, 1) := by decide +kernel
theorem dL_isMet_32 : decode cL_isMet 32 = .ok (.if_icmp .eq 5, 3) := by decide +kernel
theorem dL_isMet_35 : decode cL_isMet 35 = .ok (.iconst 0, 1) := by decide +kernel
theorem dL_isMet_36 : decode cL_isMet 36 = .ok (.ireturn, 1) := by decide +kernel
theorem dL_isMet_37 : decode cL_isMet 37 = .ok (.iinc 1 1, 3) := by decide +kernel
theorem dL_isMet_40 : decode cL_isMet 40 = .ok (.goto (-38), 3) := by decide +kernel
theorem dL_isMet_43 : decode cL_isMet 43 = .ok (.iconst 1, 1) := by decide +kernel
theorem dL_isMet_44 : decode cL_isMet 44 = .ok (.ireturn, 1) := by decide +kernel
theorem dL_drawn_0 : decode cL_drawn 0 = .ok (.iconst 0, 1) := by decide +kernel
theorem dL_drawn_1 : decode cL_drawn 1 = .ok (.istore_n 1, 1) := by decide +kernel
theorem dL_drawn_2 : decode cL_drawn 2 = .ok (.iconst 0, 1) := by decide +kernel
theorem dL_drawn_3 : decode cL_drawn 3 = .ok (.istore_n 2, 1) := by decide +kernel
theorem dL_drawn_4 : decode cL_drawn 4 = .ok (.iload_n 2, 1) := by decide +kernel
theorem dL_drawn_5 : decode cL_drawn 5 = .ok (.aload_n 0, 1) := by decide +kernel
theorem dL_drawn_6 : decode cL_drawn 6 = .ok (.invokestatic 19, 3) := by decide +kernel
theorem dL_drawn_9 : decode cL_drawn 9 = .ok (.if_icmp .ge 27, 3) := by decide +kernel
theorem dL_drawn_12 : decode cL_drawn 12 = .ok (.iload_n 1, 1) := by decide +kernel
theorem dL_drawn_13 : decode cL_drawn 13 = .ok (.aload_n 0, 1) := by decide +kernel
theorem dL_drawn_14 : decode cL_drawn 14 = .ok (.bipush 18, 2) := by decide +kernel
theorem dL_drawn_16 : decode cL_drawn 16 = .ok (.iload_n 2, 1) := by decide +kernel
theorem dL_drawn_17 : decode cL_drawn 17 = .ok (.iadd, 1) := by decide +kernel
theorem dL_drawn_18 : decode cL_drawn 18 = .ok (.iaload, 1) := by decide +kernel
theorem dL_drawn_19 : decode cL_drawn 19 = .ok (.iconst 1, 1) := by decide +kernel
theorem dL_drawn_20 : decode cL_drawn 20 = .ok (.if_icmp .ne 7, 3) := by decide +kernel
theorem dL_drawn_23 : decode cL_drawn 23 = .ok (.iconst 1, 1) := by decide +kernel
theorem dL_drawn_24 : decode cL_drawn 24 = .ok (.goto 4, 3) := by decide +kernel
theorem dL_drawn_27 : decode cL_drawn 27 = .ok (.iconst 0, 1) := by decide +kernel
theorem dL_drawn_28 : decode cL_drawn 28 = .ok (.iadd, 1) := by decide +kernel
theorem dL_drawn_29 : decode cL_drawn 29 = .ok (.istore_n 1, 1) := by decide +kernel
theorem dL_drawn_30 : decode cL_drawn 30 = .ok (.iinc 2 1, 3) := by decide +kernel
theorem dL_drawn_33 : decode cL_drawn 33 = .ok (.goto (-29), 3) := by decide +kernel
theorem dL_drawn_36 : decode cL_drawn 36 = .ok (.iload_n 1, 1) := by decide +kernel
theorem dL_drawn_37 : decode cL_drawn 37 = .ok (.ireturn, 1) := by decide +kernel
theorem dL_firstRing_0 : decode cL_firstRing 0 = .ok (.bipush (-2), 2) := by decide +kernel
theorem dL_firstRing_2 : decode cL_firstRing 2 = .ok (.istore_n 2, 1) := by decide +kernel
theorem dL_firstRing_3 : decode cL_firstRing 3 = .ok (.aload_n 0, 1) := by decide +kernel
theorem dL_firstRing_4 : decode cL_firstRing 4 = .ok (.invokestatic 19, 3) := by decide +kernel
theorem dL_firstRing_7 : decode cL_firstRing 7 = .ok (.iconst 1, 1) := by decide +kernel
theorem dL_firstRing_8 : decode cL_firstRing 8 = .ok (.isub, 1) := by decide +kernel
theorem dL_firstRing_9 : decode cL_firstRing 9 = .ok (.istore_n 3, 1) := by decide +kernel
theorem dL_firstRing_10 : decode cL_firstRing 10 = .ok (.iload_n 3, 1) := by decide +kernel
theorem dL_firstRing_11 : decode cL_firstRing 11 = .ok (.ifCond .lt 73, 3) := by decide +kernel
theorem dL_firstRing_14 : decode cL_firstRing 14 = .ok (.aload_n 1, 1) := by decide +kernel
theorem dL_firstRing_15 : decode cL_firstRing 15 = .ok (.iload_n 3, 1) := by decide +kernel
theorem dL_firstRing_16 : decode cL_firstRing 16 = .ok (.iaload, 1) := by decide +kernel
theorem dL_firstRing_17 : decode cL_firstRing 17 = .ok (.iload_n 3, 1) := by decide +kernel
theorem dL_firstRing_18 : decode cL_firstRing 18 = .ok (.if_icmp .ne 60, 3) := by decide +kernel
theorem dL_firstRing_21 : decode cL_firstRing 21 = .ok (.aload_n 0, 1) := by decide +kernel
theorem dL_firstRing_22 : decode cL_firstRing 22 = .ok (.aload_n 1, 1) := by decide +kernel
theorem dL_firstRing_23 : decode cL_firstRing 23 = .ok (.iload_n 3, 1) := by decide +kernel
theorem dL_firstRing_24 : decode cL_firstRing 24 = .ok (.invokestatic 39, 3) := by decide +kernel
theorem dL_firstRing_27 : decode cL_firstRing 27 = .ok (.ifCond .eq 51, 3) := by decide +kernel
theorem dL_firstRing_30 : decode cL_firstRing 30 = .ok (.aload_n 0, 1) := by decide +kernel
theorem dL_firstRing_31 : decode cL_firstRing 31 = .ok (.invokestatic 43, 3) := by decide +kernel
theorem dL_firstRing_34 : decode cL_firstRing 34 = .ok (.ifCond .eq 20, 3) := by decide +kernel
theorem dL_firstRing_37 : decode cL_firstRing 37 = .ok (.aload_n 0, 1) := by decide +kernel
theorem dL_firstRing_38 : decode cL_firstRing 38 = .ok (.aload_n 1, 1) := by decide +kernel
theorem dL_firstRing_39 : decode cL_firstRing 39 = .ok (.iload_n 3, 1) := by decide +kernel
theorem dL_firstRing_40 : decode cL_firstRing 40 = .ok (.invokestatic 47, 3) := by decide +kernel
theorem dL_firstRing_43 : decode cL_firstRing 43 = .ok (.aload_n 0, 1) := by decide +kernel
theorem dL_firstRing_44 : decode cL_firstRing 44 = .ok (.invokestatic 51, 3) := by decide +kernel
theorem dL_firstRing_47 : decode cL_firstRing 47 = .ok (.if_icmp .ne 7, 3) := by decide +kernel
theorem dL_firstRing_50 : decode cL_firstRing 50 = .ok (.iconst 1, 1) := by decide +kernel
theorem dL_firstRing_51 : decode cL_firstRing 51 = .ok (.goto 4, 3) := by decide +kernel
theorem dL_firstRing_54 : decode cL_firstRing 54 = .ok (.iconst 0, 1) := by decide +kernel
theorem dL_firstRing_55 : decode cL_firstRing 55 = .ok (.istore 4, 2) := by decide +kernel
theorem dL_firstRing_57 : decode cL_firstRing 57 = .ok (.iload 4, 2) := by decide +kernel
theorem dL_firstRing_59 : decode cL_firstRing 59 = .ok (.ifCond .eq 17, 3) := by decide +kernel
theorem dL_firstRing_62 : decode cL_firstRing 62 = .ok (.iload_n 2, 1) := by decide +kernel
theorem dL_firstRing_63 : decode cL_firstRing 63 = .ok (.bipush (-2), 2) := by decide +kernel
theorem dL_firstRing_65 : decode cL_firstRing 65 = .ok (.if_icmp .ne 7, 3) := by decide +kernel
theorem dL_firstRing_68 : decode cL_firstRing 68 = .ok (.iconst (-1), 1) := by decide +kernel
theorem dL_firstRing_69 : decode cL_firstRing 69 = .ok (.goto 8, 3) := by decide +kernel
theorem dL_firstRing_72 : decode cL_firstRing 72 = .ok (.iload_n 2, 1) := by decide +kernel
theorem dL_firstRing_73 : decode cL_firstRing 73 = .ok (.goto 4, 3) := by decide +kernel
theorem dL_firstRing_76 : decode cL_firstRing 76 = .ok (.iload_n 3, 1) := by decide +kernel
theorem dL_firstRing_77 : decode cL_firstRing 77 = .ok (.istore_n 2, 1) := by decide +kernel
theorem dL_firstRing_78 : decode cL_firstRing 78 = .ok (.iinc 3 (-1), 3) := by decide +kernel
theorem dL_firstRing_81 : decode cL_firstRing 81 = .ok (.goto (-71), 3) := by decide +kernel
theorem dL_firstRing_84 : decode cL_firstRing 84 = .ok (.iload_n 2, 1) := by decide +kernel
theorem dL_firstRing_85 : decode cL_firstRing 85 = .ok (.ireturn, 1) := by decide +kernel
theorem dL_types_0 : decode cL_types 0 = .ok (.aload_n 0, 1) := by decide +kernel
theorem dL_types_1 : decode cL_types 1 = .ok (.invokevirtual 54, 3) := by decide +kernel
theorem dL_types_4 : decode cL_types 4 = .ok (.ifCond .lt 7, 3) := by decide +kernel
theorem dL_types_7 : decode cL_types 7 = .ok (.iconst 1, 1) := by decide +kernel
theorem dL_types_8 : decode cL_types 8 = .ok (.goto 4, 3) := by decide +kernel
theorem dL_types_11 : decode cL_types 11 = .ok (.iconst 0, 1) := by decide +kernel
theorem dL_types_12 : decode cL_types 12 = .ok (.istore 4, 2) := by decide +kernel
theorem dL_types_14 : decode cL_types 14 = .ok (.aload_n 1, 1) := by decide +kernel
theorem dL_types_15 : decode cL_types 15 = .ok (.iconst 0, 1) := by decide +kernel
theorem dL_types_16 : decode cL_types 16 = .ok (.iconst 1, 1) := by decide +kernel
theorem dL_types_17 : decode cL_types 17 = .ok (.iload_n 2, 1) := by decide +kernel
theorem dL_types_18 : decode cL_types 18 = .ok (.iload_n 3, 1) := by decide +kernel
theorem dL_types_19 : decode cL_types 19 = .ok (.invokestatic 60, 3) := by decide +kernel
theorem dL_types_22 : decode cL_types 22 = .ok (.iadd, 1) := by decide +kernel
theorem dL_types_23 : decode cL_types 23 = .ok (.iastore, 1) := by decide +kernel
theorem dL_types_24 : decode cL_types 24 = .ok (.aload_n 1, 1) := by decide +kernel
theorem dL_types_25 : decode cL_types 25 = .ok (.iconst 1, 1) := by decide +kernel
theorem dL_types_26 : decode cL_types 26 = .ok (.iconst 1, 1) := by decide +kernel
theorem dL_types_27 : decode cL_types 27 = .ok (.iload_n 2, 1) := by decide +kernel
theorem dL_types_28 : decode cL_types 28 = .ok (.iconst 2, 1) := by decide +kernel
theorem dL_types_29 : decode cL_types 29 = .ok (.ishr, 1) := by decide +kernel
theorem dL_types_30 : decode cL_types 30 = .ok (.iload_n 3, 1) := by decide +kernel
theorem dL_types_31 : decode cL_types 31 = .ok (.invokestatic 60, 3) := by decide +kernel
theorem dL_types_34 : decode cL_types 34 = .ok (.iadd, 1) := by decide +kernel
theorem dL_types_35 : decode cL_types 35 = .ok (.iastore, 1) := by decide +kernel
theorem dL_types_36 : decode cL_types 36 = .ok (.iconst 0, 1) := by decide +kernel
theorem dL_types_37 : decode cL_types 37 = .ok (.istore 5, 2) := by decide +kernel
theorem dL_types_39 : decode cL_types 39 = .ok (.iload 5, 2) := by decide +kernel
theorem dL_types_41 : decode cL_types 41 = .ok (.aload_n 1, 1) := by decide +kernel
theorem dL_types_42 : decode cL_types 42 = .ok (.iconst 1, 1) := by decide +kernel
theorem dL_types_43 : decode cL_types 43 = .ok (.iaload, 1) := by decide +kernel
theorem dL_types_44 : decode cL_types 44 = .ok (.if_icmp .ge 130, 3) := by decide +kernel
theorem dL_types_47 : decode cL_types 47 = .ok (.iload 4, 2) := by decide +kernel
theorem dL_types_49 : decode cL_types 49 = .ok (.ifCond .eq 34, 3) := by decide +kernel
theorem dL_types_52 : decode cL_types 52 = .ok (.iload 5, 2) := by decide +kernel
theorem dL_types_54 : decode cL_types 54 = .ok (.ifCond .eq 12, 3) := by decide +kernel
theorem dL_types_57 : decode cL_types 57 = .ok (.aload_n 0, 1) := by decide +kernel
theorem dL_types_58 : decode cL_types 58 = .ok (.bipush 47, 2) := by decide +kernel
theorem dL_types_60 : decode cL_types 60 = .ok (.invokevirtual 64, 3) := by decide +kernel
theorem dL_types_63 : decode cL_types 63 = .ok (.ifCond .le 20, 3) := by decide +kernel
theorem dL_types_66 : decode cL_types 66 = .ok (.aload_n 0, 1) := by decide +kernel
theorem dL_types_67 : decode cL_types 67 = .ok (.invokevirtual 68, 3) := by decide +kernel
theorem dL_types_70 : decode cL_types 70 = .ok (.aload_n 0, 1) := by decide +kernel
theorem dL_types_71 : decode cL_types 71 = .ok (.bipush 15, 2) := by decide +kernel
theorem dL_types_73 : decode cL_types 73 = .ok (.invokevirtual 71, 3) := by decide +kernel
theorem dL_types_76 : decode cL_types 76 = .ok (.if_icmp .ne 7, 3) := by decide +kernel
theorem dL_types_79 : decode cL_types 79 = .ok (.iconst 1, 1) := by decide +kernel
theorem dL_types_80 : decode cL_types 80 = .ok (.goto 4, 3) := by decide +kernel
theorem dL_types_83 : decode cL_types 83 = .ok (.iconst 0, 1) := by decide +kernel
theorem dL_types_84 : decode cL_types 84 = .ok (.istore 4, 2) := by decide +kernel
theorem dL_types_86 : decode cL_types 86 = .ok (.iconst 0, 1) := by decide +kernel
theorem dL_types_87 : decode cL_types 87 = .ok (.istore 6, 2) := by decide +kernel
theorem dL_types_89 : decode cL_types 89 = .ok (.iload 6, 2) := by decide +kernel
theorem dL_types_91 : decode cL_types 91 = .ok (.aload_n 1, 1) := by decide +kernel
theorem dL_types_92 : decode cL_types 92 = .ok (.iconst 0, 1) := by decide +kernel
theorem dL_types_93 : decode cL_types 93 = .ok (.iaload, 1) := by decide +kernel
theorem dL_types_94 : decode cL_types 94 = .ok (.if_icmp .ge 74, 3) := by decide +kernel
theorem dL_types_97 : decode cL_types 97 = .ok (.aload_n 1, 1) := by decide +kernel
theorem dL_types_98 : decode cL_types 98 = .ok (.iconst 2, 1) := by decide +kernel
theorem dL_types_99 : decode cL_types 99 = .ok (.iload 5, 2) := by decide +kernel
theorem dL_types_101 : decode cL_types 101 = .ok (.aload_n 1, 1) := by decide +kernel
theorem dL_types_102 : decode cL_types 102 = .ok (.iconst 0, 1) := by decide +kernel
theorem dL_types_103 : decode cL_types 103 = .ok (.iaload, 1) := by decide +kernel
theorem dL_types_104 : decode cL_types 104 = .ok (.imul, 1) := by decide +kernel
theorem dL_types_105 : decode cL_types 105 = .ok (.iadd, 1) := by decide +kernel
theorem dL_types_106 : decode cL_types 106 = .ok (.iload 6, 2) := by decide +kernel
theorem dL_types_108 : decode cL_types 108 = .ok (.iadd, 1) := by decide +kernel
theorem dL_types_109 : decode cL_types 109 = .ok (.iaload, 1) := by decide +kernel
theorem dL_types_110 : decode cL_types 110 = .ok (.istore 7, 2) := by decide +kernel
theorem dL_types_112 : decode cL_types 112 = .ok (.iload 4, 2) := by decide +kernel
theorem dL_types_114 : decode cL_types 114 = .ok (.ifCond .eq 45, 3) := by decide +kernel
theorem dL_types_117 : decode cL_types 117 = .ok (.iload 6, 2) := by decide +kernel
theorem dL_types_119 : decode cL_types 119 = .ok (.iconst 3, 1) := by decide +kernel
theorem dL_types_120 : decode cL_types 120 = .ok (.irem, 1) := by decide +kernel
theorem dL_types_121 : decode cL_types 121 = .ok (.ifCond .gt 12, 3) := by decide +kernel
theorem dL_types_124 : decode cL_types 124 = .ok (.aload_n 0, 1) := by decide +kernel
theorem dL_types_125 : decode cL_types 125 = .ok (.bipush 32, 2) := by decide +kernel
theorem dL_types_127 : decode cL_types 127 = .ok (.invokevirtual 64, 3) := by decide +kernel
theorem dL_types_130 : decode cL_types 130 = .ok (.ifCond .le 29, 3) := by decide +kernel
theorem dL_types_133 : decode cL_types 133 = .ok (.aload_n 0, 1) := by decide +kernel
theorem dL_types_134 : decode cL_types 134 = .ok (.iload 7, 2) := by decide +kernel
theorem dL_types_136 : decode cL_types 136 = .ok (.ifCond .ge 8, 3) := by decide +kernel
theorem dL_types_139 : decode cL_types 139 = .ok (.bipush 46, 2) := by decide +kernel
theorem dL_types_141 : decode cL_types 141 = .ok (.goto 8, 3) := by decide +kernel
theorem dL_types_144 : decode cL_types 144 = .ok (.bipush 48, 2) := by decide +kernel
theorem dL_types_146 : decode cL_types 146 = .ok (.iload 7, 2) := by decide +kernel
theorem dL_types_148 : decode cL_types 148 = .ok (.iadd, 1) := by decide +kernel
theorem dL_types_149 : decode cL_types 149 = .ok (.invokevirtual 64, 3) := by decide +kernel
theorem dL_types_152 : decode cL_types 152 = .ok (.ifCond .le 7, 3) := by decide +kernel
theorem dL_types_155 : decode cL_types 155 = .ok (.iconst 1, 1) := by decide +kernel
theorem dL_types_156 : decode cL_types 156 = .ok (.goto 4, 3) := by decide +kernel
theorem dL_types_159 : decode cL_types 159 = .ok (.iconst 0, 1) := by decide +kernel
theorem dL_types_160 : decode cL_types 160 = .ok (.istore 4, 2) := by decide +kernel
theorem dL_types_162 : decode cL_types 162 = .ok (.iinc 6 1, 3) := by decide +kernel
theorem dL_types_165 : decode cL_types 165 = .ok (.goto (-76), 3) := by decide +kernel
theorem dL_types_168 : decode cL_types 168 = .ok (.iinc 5 1, 3) := by decide +kernel
theorem dL_types_171 : decode cL_types 171 = .ok (.goto (-132), 3) := by decide +kernel
theorem dL_types_174 : decode cL_types 174 = .ok (.iload 4, 2) := by decide +kernel
theorem dL_types_176 : decode cL_types 176 = .ok (.ifCond .eq 15, 3) := by decide +kernel
theorem dL_types_179 : decode cL_types 179 = .ok (.aload_n 0, 1) := by decide +kernel
theorem dL_types_180 : decode cL_types 180 = .ok (.invokevirtual 68, 3) := by decide +kernel
theorem dL_types_183 : decode cL_types 183 = .ok (.iconst (-1), 1) := by decide +kernel
theorem dL_types_184 : decode cL_types 184 = .ok (.if_icmp .ne 7, 3) := by decide +kernel
theorem dL_types_187 : decode cL_types 187 = .ok (.iconst 1, 1) := by decide +kernel
theorem dL_types_188 : decode cL_types 188 = .ok (.goto 4, 3) := by decide +kernel
theorem dL_types_191 : decode cL_types 191 = .ok (.iconst 0, 1) := by decide +kernel
theorem dL_types_192 : decode cL_types 192 = .ok (.ireturn, 1) := by decide +kernel
theorem dL_sets_0 : decode cL_sets 0 = .ok (.iconst 0, 1) := by decide +kernel
theorem dL_sets_1 : decode cL_sets 1 = .ok (.istore 5, 2) := by decide +kernel
theorem dL_sets_3 : decode cL_sets 3 = .ok (.iload 5, 2) := by decide +kernel
theorem dL_sets_5 : decode cL_sets 5 = .ok (.bipush 16, 2) := by decide +kernel
theorem dL_sets_7 : decode cL_sets 7 = .ok (.if_icmp .ge 38, 3) := by decide +kernel
theorem dL_sets_10 : decode cL_sets 10 = .ok (.iload_n 3, 1) := by decide +kernel
theorem dL_sets_11 : decode cL_sets 11 = .ok (.iload 5, 2) := by decide +kernel
theorem dL_sets_13 : decode cL_sets 13 = .ok (.ishr, 1) := by decide +kernel
theorem dL_sets_14 : decode cL_sets 14 = .ok (.bipush 7, 2) := by decide +kernel
theorem dL_sets_16 : decode cL_sets 16 = .ok (.invokestatic 60, 3) := by decide +kernel
theorem dL_sets_19 : decode cL_sets 19 = .ok (.istore 6, 2) := by decide +kernel
theorem dL_sets_21 : decode cL_sets 21 = .ok (.aload_n 1, 1) := by decide +kernel
theorem dL_sets_22 : decode cL_sets 22 = .ok (.iconst 2, 1) := by decide +kernel
theorem dL_sets_23 : decode cL_sets 23 = .ok (.iload 5, 2) := by decide +kernel
theorem dL_sets_25 : decode cL_sets 25 = .ok (.iadd, 1) := by decide +kernel
theorem dL_sets_26 : decode cL_sets 26 = .ok (.iload 6, 2) := by decide +kernel
theorem dL_sets_28 : decode cL_sets 28 = .ok (.iconst 4, 1) := by decide +kernel
theorem dL_sets_29 : decode cL_sets 29 = .ok (.if_icmp .ge 8, 3) := by decide +kernel
theorem dL_sets_32 : decode cL_sets 32 = .ok (.iload 6, 2) := by decide +kernel
theorem dL_sets_34 : decode cL_sets 34 = .ok (.goto 4, 3) := by decide +kernel
theorem dL_sets_37 : decode cL_sets 37 = .ok (.iconst (-1), 1) := by decide +kernel
theorem dL_sets_38 : decode cL_sets 38 = .ok (.iastore, 1) := by decide +kernel
theorem dL_sets_39 : decode cL_sets 39 = .ok (.iinc 5 1, 3) := by decide +kernel
theorem dL_sets_42 : decode cL_sets 42 = .ok (.goto (-39), 3) := by decide +kernel
theorem dL_sets_45 : decode cL_sets 45 = .ok (.iconst 0, 1) := by decide +kernel
theorem dL_sets_46 : decode cL_sets 46 = .ok (.istore 5, 2) := by decide +kernel
theorem dL_sets_48 : decode cL_sets 48 = .ok (.iload 5, 2) := by decide +kernel
theorem dL_sets_50 : decode cL_sets 50 = .ok (.bipush 40, 2) := by decide +kernel
theorem dL_sets_52 : decode cL_sets 52 = .ok (.if_icmp .ge 17, 3) := by decide +kernel
theorem dL_sets_55 : decode cL_sets 55 = .ok (.aload_n 1, 1) := by decide +kernel
theorem dL_sets_56 : decode cL_sets 56 = .ok (.bipush 18, 2) := by decide +kernel
theorem dL_sets_58 : decode cL_sets 58 = .ok (.iload 5, 2) := by decide +kernel
theorem dL_sets_60 : decode cL_sets 60 = .ok (.iadd, 1) := by decide +kernel
theorem dL_sets_61 : decode cL_sets 61 = .ok (.iconst 0, 1) := by decide +kernel
theorem dL_sets_62 : decode cL_sets 62 = .ok (.iastore, 1) := by decide +kernel
theorem dL_sets_63 : decode cL_sets 63 = .ok (.iinc 5 1, 3) := by decide +kernel
theorem dL_sets_66 : decode cL_sets 66 = .ok (.goto (-18), 3) := by decide +kernel
theorem dL_sets_69 : decode cL_sets 69 = .ok (.aload_n 0, 1) := by decide +kernel
theorem dL_sets_70 : decode cL_sets 70 = .ok (.aload_n 1, 1) := by decide +kernel
theorem dL_sets_71 : decode cL_sets 71 = .ok (.iload_n 2, 1) := by decide +kernel
theorem dL_sets_72 : decode cL_sets 72 = .ok (.iload 4, 2) := by decide +kernel
theorem dL_sets_74 : decode cL_sets 74 = .ok (.invokestatic 74, 3) := by decide +kernel
theorem dL_sets_77 : decode cL_sets 77 = .ok (.ifCond .eq 52, 3) := by decide +kernel
theorem dL_sets_80 : decode cL_sets 80 = .ok (.aload_n 0, 1) := by decide +kernel
theorem dL_sets_81 : decode cL_sets 81 = .ok (.invokevirtual 78, 3) := by decide +kernel
theorem dL_sets_84 : decode cL_sets 84 = .ok (.aload_n 1, 1) := by decide +kernel
theorem dL_sets_85 : decode cL_sets 85 = .ok (.invokestatic 19, 3) := by decide +kernel
theorem dL_sets_88 : decode cL_sets 88 = .ok (.if_icmp .ne 41, 3) := by decide +kernel
theorem dL_sets_91 : decode cL_sets 91 = .ok (.aload_n 0, 1) := by decide +kernel
theorem dL_sets_92 : decode cL_sets 92 = .ok (.iconst 0, 1) := by decide +kernel
theorem dL_sets_93 : decode cL_sets 93 = .ok (.invokevirtual 71, 3) := by decide +kernel
theorem dL_sets_96 : decode cL_sets 96 = .ok (.aload_n 1, 1) := by decide +kernel
theorem dL_sets_97 : decode cL_sets 97 = .ok (.iconst 0, 1) := by decide +kernel
theorem dL_sets_98 : decode cL_sets 98 = .ok (.iaload, 1) := by decide +kernel
theorem dL_sets_99 : decode cL_sets 99 = .ok (.if_icmp .ne 30, 3) := by decide +kernel
theorem dL_sets_102 : decode cL_sets 102 = .ok (.aload_n 0, 1) := by decide +kernel
theorem dL_sets_103 : decode cL_sets 103 = .ok (.iconst 1, 1) := by decide +kernel
theorem dL_sets_104 : decode cL_sets 104 = .ok (.invokevirtual 71, 3) := by decide +kernel
theorem dL_sets_107 : decode cL_sets 107 = .ok (.aload_n 1, 1) := by decide +kernel
theorem dL_sets_108 : decode cL_sets 108 = .ok (.iconst 1, 1) := by decide +kernel
theorem dL_sets_109 : decode cL_sets 109 = .ok (.iaload, 1) := by decide +kernel
theorem dL_sets_110 : decode cL_sets 110 = .ok (.if_icmp .ne 19, 3) := by decide +kernel
theorem dL_sets_113 : decode cL_sets 113 = .ok (.aload_n 0, 1) := by decide +kernel
theorem dL_sets_114 : decode cL_sets 114 = .ok (.iconst 2, 1) := by decide +kernel
theorem dL_sets_115 : decode cL_sets 115 = .ok (.invokevirtual 71, 3) := by decide +kernel
theorem dL_sets_118 : decode cL_sets 118 = .ok (.aload_n 1, 1) := by decide +kernel
theorem dL_sets_119 : decode cL_sets 119 = .ok (.invokestatic 19, 3) := by decide +kernel
theorem dL_sets_122 : decode cL_sets 122 = .ok (.if_icmp .ne 7, 3) := by decide +kernel
theorem dL_sets_125 : decode cL_sets 125 = .ok (.iconst 1, 1) := by decide +kernel
theorem dL_sets_126 : decode cL_sets 126 = .ok (.goto 4, 3) := by decide +kernel
theorem dL_sets_129 : decode cL_sets 129 = .ok (.iconst 0, 1) := by decide +kernel
theorem dL_sets_130 : decode cL_sets 130 = .ok (.ireturn, 1) := by decide +kernel
theorem dL_marks_0 : decode cL_marks 0 = .ok (.aload_n 1, 1) := by decide +kernel
theorem dL_marks_1 : decode cL_marks 1 = .ok (.bipush 18, 2) := by decide +kernel
theorem dL_marks_3 : decode cL_marks 3 = .ok (.iload_n 2, 1) := by decide +kernel
theorem dL_marks_4 : decode cL_marks 4 = .ok (.iadd, 1) := by decide +kernel
theorem dL_marks_5 : decode cL_marks 5 = .ok (.iaload, 1) := by decide +kernel
theorem dL_marks_6 : decode cL_marks 6 = .ok (.istore 4, 2) := by decide +kernel
theorem dL_marks_8 : decode cL_marks 8 = .ok (.aload_n 1, 1) := by decide +kernel
theorem dL_marks_9 : decode cL_marks 9 = .ok (.bipush 18, 2) := by decide +kernel
theorem dL_marks_11 : decode cL_marks 11 = .ok (.iload_n 2, 1) := by decide +kernel
theorem dL_marks_12 : decode cL_marks 12 = .ok (.iadd, 1) := by decide +kernel
theorem dL_marks_13 : decode cL_marks 13 = .ok (.iload_n 3, 1) := by decide +kernel
theorem dL_marks_14 : decode cL_marks 14 = .ok (.iastore, 1) := by decide +kernel
theorem dL_marks_15 : decode cL_marks 15 = .ok (.aload_n 0, 1) := by decide +kernel
theorem dL_marks_16 : decode cL_marks 16 = .ok (.iload_n 2, 1) := by decide +kernel
theorem dL_marks_17 : decode cL_marks 17 = .ok (.iload_n 3, 1) := by decide +kernel
theorem dL_marks_18 : decode cL_marks 18 = .ok (.invokevirtual 81, 3) := by decide +kernel
theorem dL_marks_21 : decode cL_marks 21 = .ok (.iload 4, 2) := by decide +kernel
theorem dL_marks_23 : decode cL_marks 23 = .ok (.if_icmp .ne 41, 3) := by decide +kernel
theorem dL_marks_26 : decode cL_marks 26 = .ok (.aload_n 0, 1) := by decide +kernel
theorem dL_marks_27 : decode cL_marks 27 = .ok (.iload_n 2, 1) := by decide +kernel
theorem dL_marks_28 : decode cL_marks 28 = .ok (.invokevirtual 84, 3) := by decide +kernel
theorem dL_marks_31 : decode cL_marks 31 = .ok (.iload_n 3, 1) := by decide +kernel
theorem dL_marks_32 : decode cL_marks 32 = .ok (.if_icmp .ne 32, 3) := by decide +kernel
theorem dL_marks_35 : decode cL_marks 35 = .ok (.aload_n 0, 1) := by decide +kernel
theorem dL_marks_36 : decode cL_marks 36 = .ok (.aload_n 1, 1) := by decide +kernel
theorem dL_marks_37 : decode cL_marks 37 = .ok (.invokestatic 19, 3) := by decide +kernel
theorem dL_marks_40 : decode cL_marks 40 = .ok (.iconst 0, 1) := by decide +kernel
theorem dL_marks_41 : decode cL_marks 41 = .ok (.invokevirtual 81, 3) := by decide +kernel
theorem dL_marks_44 : decode cL_marks 44 = .ok (.bipush (-2), 2) := by decide +kernel
theorem dL_marks_46 : decode cL_marks 46 = .ok (.if_icmp .ne 18, 3) := by decide +kernel
theorem dL_marks_49 : decode cL_marks 49 = .ok (.aload_n 0, 1) := by decide +kernel
theorem dL_marks_50 : decode cL_marks 50 = .ok (.iconst 0, 1) := by decide +kernel
theorem dL_marks_51 : decode cL_marks 51 = .ok (.iconst 3, 1) := by decide +kernel
theorem dL_marks_52 : decode cL_marks 52 = .ok (.invokevirtual 81, 3) := by decide +kernel
theorem dL_marks_55 : decode cL_marks 55 = .ok (.bipush (-2), 2) := by decide +kernel
theorem dL_marks_57 : decode cL_marks 57 = .ok (.if_icmp .ne 7, 3) := by decide +kernel
theorem dL_marks_60 : decode cL_marks 60 = .ok (.iconst 1, 1) := by decide +kernel
theorem dL_marks_61 : decode cL_marks 61 = .ok (.goto 4, 3) := by decide +kernel
theorem dL_marks_64 : decode cL_marks 64 = .ok (.iconst 0, 1) := by decide +kernel
theorem dL_marks_65 : decode cL_marks 65 = .ok (.ireturn, 1) := by decide +kernel
theorem dL_isTold_0 : decode cL_isTold 0 = .ok (.iconst 0, 1) := by decide +kernel
theorem dL_isTold_1 : decode cL_isTold 1 = .ok (.istore_n 2, 1) := by decide +kernel
theorem dL_isTold_2 : decode cL_isTold 2 = .ok (.iconst 0, 1) := by decide +kernel
theorem dL_isTold_3 : decode cL_isTold 3 = .ok (.istore_n 3, 1) := by decide +kernel
theorem dL_isTold_4 : decode cL_isTold 4 = .ok (.iconst 0, 1) := by decide +kernel
theorem dL_isTold_5 : decode cL_isTold 5 = .ok (.istore 4, 2) := by decide +kernel
theorem dL_isTold_7 : decode cL_isTold 7 = .ok (.iload 4, 2) := by decide +kernel
theorem dL_isTold_9 : decode cL_isTold 9 = .ok (.aload_n 1, 1) := by decide +kernel
theorem dL_isTold_10 : decode cL_isTold 10 = .ok (.invokestatic 19, 3) := by decide +kernel
theorem dL_isTold_13 : decode cL_isTold 13 = .ok (.if_icmp .ge 45, 3) := by decide +kernel
theorem dL_isTold_16 : decode cL_isTold 16 = .ok (.iload_n 2, 1) := by decide +kernel
theorem dL_isTold_17 : decode cL_isTold 17 = .ok (.aload_n 1, 1) := by decide +kernel
theorem dL_isTold_18 : decode cL_isTold 18 = .ok (.bipush 18, 2) := by decide +kernel
theorem dL_isTold_20 : decode cL_isTold 20 = .ok (.iload 4, 2) := by decide +kernel
theorem dL_isTold_22 : decode cL_isTold 22 = .ok (.iadd, 1) := by decide +kernel
theorem dL_isTold_23 : decode cL_isTold 23 = .ok (.iaload, 1) := by decide +kernel
theorem dL_isTold_24 : decode cL_isTold 24 = .ok (.ifCond .ne 7, 3) := by decide +kernel
theorem dL_isTold_27 : decode cL_isTold 27 = .ok (.iconst 1, 1) := by decide +kernel
theorem dL_isTold_28 : decode cL_isTold 28 = .ok (.goto 4, 3) := by decide +kernel
theorem dL_isTold_31 : decode cL_isTold 31 = .ok (.iconst 0, 1) := by decide +kernel
theorem dL_isTold_32 : decode cL_isTold 32 = .ok (.iadd, 1) := by decide +kernel
theorem dL_isTold_33 : decode cL_isTold 33 = .ok (.istore_n 2, 1) := by decide +kernel
theorem dL_isTold_34 : decode cL_isTold 34 = .ok (.aload_n 0, 1) := by decide +kernel
theorem dL_isTold_35 : decode cL_isTold 35 = .ok (.iload 4, 2) := by decide +kernel
theorem dL_isTold_37 : decode cL_isTold 37 = .ok (.invokevirtual 84, 3) := by decide +kernel
theorem dL_isTold_40 : decode cL_isTold 40 = .ok (.aload_n 1, 1) := by decide +kernel
theorem dL_isTold_41 : decode cL_isTold 41 = .ok (.bipush 18, 2) := by decide +kernel
theorem dL_isTold_43 : decode cL_isTold 43 = .ok (.iload 4, 2) := by decide +kernel
theorem dL_isTold_45 : decode cL_isTold 45 = .ok (.iadd, 1) := by decide +kernel
theorem dL_isTold_46 : decode cL_isTold 46 = .ok (.iaload, 1) := by decide +kernel
theorem dL_isTold_47 : decode cL_isTold 47 = .ok (.if_icmp .eq 5, 3) := by decide +kernel
theorem dL_isTold_50 : decode cL_isTold 50 = .ok (.iconst 0, 1) := by decide +kernel
theorem dL_isTold_51 : decode cL_isTold 51 = .ok (.ireturn, 1) := by decide +kernel
theorem dL_isTold_52 : decode cL_isTold 52 = .ok (.iinc 4 1, 3) := by decide +kernel
theorem dL_isTold_55 : decode cL_isTold 55 = .ok (.goto (-48), 3) := by decide +kernel
theorem dL_isTold_58 : decode cL_isTold 58 = .ok (.iconst 0, 1) := by decide +kernel
theorem dL_isTold_59 : decode cL_isTold 59 = .ok (.istore 4, 2) := by decide +kernel
theorem dL_isTold_61 : decode cL_isTold 61 = .ok (.iload 4, 2) := by decide +kernel
theorem dL_isTold_63 : decode cL_isTold 63 = .ok (.aload_n 1, 1) := by decide +kernel
theorem dL_isTold_64 : decode cL_isTold 64 = .ok (.iconst 0, 1) := by decide +kernel
theorem dL_isTold_65 : decode cL_isTold 65 = .ok (.iaload, 1) := by decide +kernel
theorem dL_isTold_66 : decode cL_isTold 66 = .ok (.aload_n 1, 1) := by decide +kernel
theorem dL_isTold_67 : decode cL_isTold 67 = .ok (.iconst 1, 1) := by decide +kernel
theorem dL_isTold_68 : decode cL_isTold 68 = .ok (.iaload, 1) := by decide +kernel
theorem dL_isTold_69 : decode cL_isTold 69 = .ok (.imul, 1) := by decide +kernel
theorem dL_isTold_70 : decode cL_isTold 70 = .ok (.if_icmp .ge 43, 3) := by decide +kernel
theorem dL_isTold_73 : decode cL_isTold 73 = .ok (.iload_n 3, 1) := by decide +kernel
theorem dL_isTold_74 : decode cL_isTold 74 = .ok (.aload_n 1, 1) := by decide +kernel
theorem dL_isTold_75 : decode cL_isTold 75 = .ok (.iconst 2, 1) := by decide +kernel
theorem dL_isTold_76 : decode cL_isTold 76 = .ok (.iload 4, 2) := by decide +kernel
theorem dL_isTold_78 : decode cL_isTold 78 = .ok (.iadd, 1) := by decide +kernel
theorem dL_isTold_79 : decode cL_isTold 79 = .ok (.iaload, 1) := by decide +kernel
theorem dL_isTold_80 : decode cL_isTold 80 = .ok (.ifCond .ge 7, 3) := by decide +kernel
theorem dL_isTold_83 : decode cL_isTold 83 = .ok (.iconst 0, 1) := by decide +kernel
theorem dL_isTold_84 : decode cL_isTold 84 = .ok (.goto 4, 3) := by decide +kernel
theorem dL_isTold_87 : decode cL_isTold 87 = .ok (.iconst 1, 1) := by decide +kernel
theorem dL_isTold_88 : decode cL_isTold 88 = .ok (.iadd, 1) := by decide +kernel
theorem dL_isTold_89 : decode cL_isTold 89 = .ok (.istore_n 3, 1) := by decide +kernel
theorem dL_isTold_90 : decode cL_isTold 90 = .ok (.aload_n 0, 1) := by decide +kernel
theorem dL_isTold_91 : decode cL_isTold 91 = .ok (.iload 4, 2) := by decide +kernel
theorem dL_isTold_93 : decode cL_isTold 93 = .ok (.invokevirtual 87, 3) := by decide +kernel
theorem dL_isTold_96 : decode cL_isTold 96 = .ok (.aload_n 1, 1) := by decide +kernel
theorem dL_isTold_97 : decode cL_isTold 97 = .ok (.iconst 2, 1) := by decide +kernel
theorem dL_isTold_98 : decode cL_isTold 98 = .ok (.iload 4, 2) := by decide +kernel
theorem dL_isTold_100 : decode cL_isTold 100 = .ok (.iadd, 1) := by decide +kernel
theorem dL_isTold_101 : decode cL_isTold 101 = .ok (.iaload, 1) := by decide +kernel
theorem dL_isTold_102 : decode cL_isTold 102 = .ok (.if_icmp .eq 5, 3) := by decide +kernel
theorem dL_isTold_105 : decode cL_isTold 105 = .ok (.iconst 0, 1) := by decide +kernel
theorem dL_isTold_106 : decode cL_isTold 106 = .ok (.ireturn, 1) := by decide +kernel
theorem dL_isTold_107 : decode cL_isTold 107 = .ok (.iinc 4 1, 3) := by decide +kernel
theorem dL_isTold_110 : decode cL_isTold 110 = .ok (.goto (-49), 3) := by decide +kernel
theorem dL_isTold_113 : decode cL_isTold 113 = .ok (.aload_n 0, 1) := by decide +kernel
theorem dL_isTold_114 : decode cL_isTold 114 = .ok (.iconst 3, 1) := by decide +kernel
theorem dL_isTold_115 : decode cL_isTold 115 = .ok (.invokevirtual 71, 3) := by decide +kernel
theorem dL_isTold_118 : decode cL_isTold 118 = .ok (.iload_n 2, 1) := by decide +kernel
theorem dL_isTold_119 : decode cL_isTold 119 = .ok (.if_icmp .ne 57, 3) := by decide +kernel
theorem dL_isTold_122 : decode cL_isTold 122 = .ok (.aload_n 0, 1) := by decide +kernel
theorem dL_isTold_123 : decode cL_isTold 123 = .ok (.iconst 4, 1) := by decide +kernel
theorem dL_isTold_124 : decode cL_isTold 124 = .ok (.invokevirtual 71, 3) := by decide +kernel
theorem dL_isTold_127 : decode cL_isTold 127 = .ok (.aload_n 1, 1) := by decide +kernel
theorem dL_isTold_128 : decode cL_isTold 128 = .ok (.invokestatic 51, 3) := by decide +kernel
theorem dL_isTold_131 : decode cL_isTold 131 = .ok (.if_icmp .ne 45, 3) := by decide +kernel
theorem dL_isTold_134 : decode cL_isTold 134 = .ok (.aload_n 0, 1) := by decide +kernel
theorem dL_isTold_135 : decode cL_isTold 135 = .ok (.iconst 5, 1) := by decide +kernel
theorem dL_isTold_136 : decode cL_isTold 136 = .ok (.invokevirtual 71, 3) := by decide +kernel
theorem dL_isTold_139 : decode cL_isTold 139 = .ok (.iload_n 3, 1) := by decide +kernel
theorem dL_isTold_140 : decode cL_isTold 140 = .ok (.if_icmp .ne 36, 3) := by decide +kernel
theorem dL_isTold_143 : decode cL_isTold 143 = .ok (.aload_n 0, 1) := by decide +kernel
theorem dL_isTold_144 : decode cL_isTold 144 = .ok (.aload_n 1, 1) := by decide +kernel
theorem dL_isTold_145 : decode cL_isTold 145 = .ok (.invokestatic 19, 3) := by decide +kernel
theorem dL_isTold_148 : decode cL_isTold 148 = .ok (.invokevirtual 84, 3) := by decide +kernel
theorem dL_isTold_151 : decode cL_isTold 151 = .ok (.bipush (-2), 2) := by decide +kernel
theorem dL_isTold_153 : decode cL_isTold 153 = .ok (.if_icmp .ne 23, 3) := by decide +kernel
theorem dL_isTold_156 : decode cL_isTold 156 = .ok (.aload_n 0, 1) := by decide +kernel
theorem dL_isTold_157 : decode cL_isTold 157 = .ok (.aload_n 1, 1) := by decide +kernel
theorem dL_isTold_158 : decode cL_isTold 158 = .ok (.iconst 0, 1) := by decide +kernel
theorem dL_isTold_159 : decode cL_isTold 159 = .ok (.iaload, 1) := by decide +kernel
theorem dL_isTold_160 : decode cL_isTold 160 = .ok (.aload_n 1, 1) := by decide +kernel
theorem dL_isTold_161 : decode cL_isTold 161 = .ok (.iconst 1, 1) := by decide +kernel
theorem dL_isTold_162 : decode cL_isTold 162 = .ok (.iaload, 1) := by decide +kernel
theorem dL_isTold_163 : decode cL_isTold 163 = .ok (.imul, 1) := by decide +kernel
theorem dL_isTold_164 : decode cL_isTold 164 = .ok (.invokevirtual 87, 3) := by decide +kernel
theorem dL_isTold_167 : decode cL_isTold 167 = .ok (.bipush (-2), 2) := by decide +kernel
theorem dL_isTold_169 : decode cL_isTold 169 = .ok (.if_icmp .ne 7, 3) := by decide +kernel
theorem dL_isTold_172 : decode cL_isTold 172 = .ok (.iconst 1, 1) := by decide +kernel
theorem dL_isTold_173 : decode cL_isTold 173 = .ok (.goto 4, 3) := by decide +kernel
theorem dL_isTold_176 : decode cL_isTold 176 = .ok (.iconst 0, 1) := by decide +kernel
theorem dL_isTold_177 : decode cL_isTold 177 = .ok (.ireturn, 1) := by decide +kernel
theorem dL_areAt_0 : decode cL_areAt 0 = .ok (.iconst 0, 1) := by decide +kernel
theorem dL_areAt_1 : decode cL_areAt 1 = .ok (.istore_n 2, 1) := by decide +kernel
theorem dL_areAt_2 : decode cL_areAt 2 = .ok (.iload_n 2, 1) := by decide +kernel
theorem dL_areAt_3 : decode cL_areAt 3 = .ok (.aload_n 1, 1) := by decide +kernel
theorem dL_areAt_4 : decode cL_areAt 4 = .ok (.invokestatic 33, 3) := by decide +kernel
theorem dL_areAt_7 : decode cL_areAt 7 = .ok (.if_icmp .ge 139, 3) := by decide +kernel
theorem dL_areAt_10 : decode cL_areAt 10 = .ok (.iconst 0, 1) := by decide +kernel
theorem dL_areAt_11 : decode cL_areAt 11 = .ok (.istore_n 3, 1) := by decide +kernel
theorem dL_areAt_12 : decode cL_areAt 12 = .ok (.iconst 0, 1) := by decide +kernel
theorem dL_areAt_13 : decode cL_areAt 13 = .ok (.istore 4, 2) := by decide +kernel
theorem dL_areAt_15 : decode cL_areAt 15 = .ok (.iconst 0, 1) := by decide +kernel
theorem dL_areAt_16 : decode cL_areAt 16 = .ok (.istore 5, 2) := by decide +kernel
theorem dL_areAt_18 : decode cL_areAt 18 = .ok (.iload 5, 2) := by decide +kernel
theorem dL_areAt_20 : decode cL_areAt 20 = .ok (.aload_n 1, 1) := by decide +kernel
theorem dL_areAt_21 : decode cL_areAt 21 = .ok (.invokestatic 19, 3) := by decide +kernel
theorem dL_areAt_24 : decode cL_areAt 24 = .ok (.if_icmp .ge 75, 3) := by decide +kernel
theorem dL_areAt_27 : decode cL_areAt 27 = .ok (.iload_n 2, 1) := by decide +kernel
theorem dL_areAt_28 : decode cL_areAt 28 = .ok (.aload_n 1, 1) := by decide +kernel
theorem dL_areAt_29 : decode cL_areAt 29 = .ok (.iconst 0, 1) := by decide +kernel
theorem dL_areAt_30 : decode cL_areAt 30 = .ok (.iaload, 1) := by decide +kernel
theorem dL_areAt_31 : decode cL_areAt 31 = .ok (.aload_n 1, 1) := by decide +kernel
theorem dL_areAt_32 : decode cL_areAt 32 = .ok (.iconst 1, 1) := by decide +kernel
theorem dL_areAt_33 : decode cL_areAt 33 = .ok (.iaload, 1) := by decide +kernel
theorem dL_areAt_34 : decode cL_areAt 34 = .ok (.imul, 1) := by decide +kernel
theorem dL_areAt_35 : decode cL_areAt 35 = .ok (.if_icmp .ge 30, 3) := by decide +kernel
theorem dL_areAt_38 : decode cL_areAt 38 = .ok (.aload_n 1, 1) := by decide +kernel
theorem dL_areAt_39 : decode cL_areAt 39 = .ok (.iload 5, 2) := by decide +kernel
theorem dL_areAt_41 : decode cL_areAt 41 = .ok (.iload_n 2, 1) := by decide +kernel
theorem dL_areAt_42 : decode cL_areAt 42 = .ok (.invokestatic 22, 3) := by decide +kernel
theorem dL_areAt_45 : decode cL_areAt 45 = .ok (.ifCond .eq 20, 3) := by decide +kernel
theorem dL_areAt_48 : decode cL_areAt 48 = .ok (.aload_n 0, 1) := by decide +kernel
theorem dL_areAt_49 : decode cL_areAt 49 = .ok (.iconst 0, 1) := by decide +kernel
theorem dL_areAt_50 : decode cL_areAt 50 = .ok (.iload_n 2, 1) := by decide +kernel
theorem dL_areAt_51 : decode cL_areAt 51 = .ok (.iload_n 3, 1) := by decide +kernel
theorem dL_areAt_52 : decode cL_areAt 52 = .ok (.invokevirtual 90, 3) := by decide +kernel
theorem dL_areAt_55 : decode cL_areAt 55 = .ok (.iload 5, 2) := by decide +kernel
theorem dL_areAt_57 : decode cL_areAt 57 = .ok (.if_icmp .eq 5, 3) := by decide +kernel
theorem dL_areAt_60 : decode cL_areAt 60 = .ok (.iconst 0, 1) := by decide +kernel
theorem dL_areAt_61 : decode cL_areAt 61 = .ok (.ireturn, 1) := by decide +kernel
theorem dL_areAt_62 : decode cL_areAt 62 = .ok (.iinc 3 1, 3) := by decide +kernel
theorem dL_areAt_65 : decode cL_areAt 65 = .ok (.aload_n 1, 1) := by decide +kernel
theorem dL_areAt_66 : decode cL_areAt 66 = .ok (.iload 5, 2) := by decide +kernel
theorem dL_areAt_68 : decode cL_areAt 68 = .ok (.iload_n 2, 1) := by decide +kernel
theorem dL_areAt_69 : decode cL_areAt 69 = .ok (.invokestatic 26, 3) := by decide +kernel
theorem dL_areAt_72 : decode cL_areAt 72 = .ok (.ifCond .eq 21, 3) := by decide +kernel
theorem dL_areAt_75 : decode cL_areAt 75 = .ok (.aload_n 0, 1) := by decide +kernel
theorem dL_areAt_76 : decode cL_areAt 76 = .ok (.iconst 1, 1) := by decide +kernel
theorem dL_areAt_77 : decode cL_areAt 77 = .ok (.iload_n 2, 1) := by decide +kernel
theorem dL_areAt_78 : decode cL_areAt 78 = .ok (.iload 4, 2) := by decide +kernel
theorem dL_areAt_80 : decode cL_areAt 80 = .ok (.invokevirtual 90, 3) := by decide +kernel
theorem dL_areAt_83 : decode cL_areAt 83 = .ok (.iload 5, 2) := by decide +kernel
theorem dL_areAt_85 : decode cL_areAt 85 = .ok (.if_icmp .eq 5, 3) := by decide +kernel
theorem dL_areAt_88 : decode cL_areAt 88 = .ok (.iconst 0, 1) := by decide +kernel
theorem dL_areAt_89 : decode cL_areAt 89 = .ok (.ireturn, 1) := by decide +kernel
theorem dL_areAt_90 : decode cL_areAt 90 = .ok (.iinc 4 1, 3) := by decide +kernel
theorem dL_areAt_93 : decode cL_areAt 93 = .ok (.iinc 5 1, 3) := by decide +kernel
theorem dL_areAt_96 : decode cL_areAt 96 = .ok (.goto (-78), 3) := by decide +kernel
theorem dL_areAt_99 : decode cL_areAt 99 = .ok (.aload_n 0, 1) := by decide +kernel
theorem dL_areAt_100 : decode cL_areAt 100 = .ok (.iconst 1, 1) := by decide +kernel
theorem dL_areAt_101 : decode cL_areAt 101 = .ok (.iload_n 2, 1) := by decide +kernel
theorem dL_areAt_102 : decode cL_areAt 102 = .ok (.iload 4, 2) := by decide +kernel
theorem dL_areAt_104 : decode cL_areAt 104 = .ok (.invokevirtual 90, 3) := by decide +kernel
theorem dL_areAt_107 : decode cL_areAt 107 = .ok (.iconst (-1), 1) := by decide +kernel
theorem dL_areAt_108 : decode cL_areAt 108 = .ok (.if_icmp .ne 30, 3) := by decide +kernel
theorem dL_areAt_111 : decode cL_areAt 111 = .ok (.iload_n 2, 1) := by decide +kernel
theorem dL_areAt_112 : decode cL_areAt 112 = .ok (.aload_n 1, 1) := by decide +kernel
theorem dL_areAt_113 : decode cL_areAt 113 = .ok (.iconst 0, 1) := by decide +kernel
theorem dL_areAt_114 : decode cL_areAt 114 = .ok (.iaload, 1) := by decide +kernel
theorem dL_areAt_115 : decode cL_areAt 115 = .ok (.aload_n 1, 1) := by decide +kernel
theorem dL_areAt_116 : decode cL_areAt 116 = .ok (.iconst 1, 1) := by decide +kernel
theorem dL_areAt_117 : decode cL_areAt 117 = .ok (.iaload, 1) := by decide +kernel
theorem dL_areAt_118 : decode cL_areAt 118 = .ok (.imul, 1) := by decide +kernel
theorem dL_areAt_119 : decode cL_areAt 119 = .ok (.if_icmp .ge 21, 3) := by decide +kernel
theorem dL_areAt_122 : decode cL_areAt 122 = .ok (.iload_n 3, 1) := by decide +kernel
theorem dL_areAt_123 : decode cL_areAt 123 = .ok (.iconst 4, 1) := by decide +kernel
theorem dL_areAt_124 : decode cL_areAt 124 = .ok (.if_icmp .ne 14, 3) := by decide +kernel
theorem dL_areAt_127 : decode cL_areAt 127 = .ok (.aload_n 0, 1) := by decide +kernel
theorem dL_areAt_128 : decode cL_areAt 128 = .ok (.iconst 0, 1) := by decide +kernel
theorem dL_areAt_129 : decode cL_areAt 129 = .ok (.iload_n 2, 1) := by decide +kernel
theorem dL_areAt_130 : decode cL_areAt 130 = .ok (.iconst 4, 1) := by decide +kernel
theorem dL_areAt_131 : decode cL_areAt 131 = .ok (.invokevirtual 90, 3) := by decide +kernel
theorem dL_areAt_134 : decode cL_areAt 134 = .ok (.iconst (-1), 1) := by decide +kernel
theorem dL_areAt_135 : decode cL_areAt 135 = .ok (.if_icmp .eq 5, 3) := by decide +kernel
theorem dL_areAt_138 : decode cL_areAt 138 = .ok (.iconst 0, 1) := by decide +kernel
theorem dL_areAt_139 : decode cL_areAt 139 = .ok (.ireturn, 1) := by decide +kernel
theorem dL_areAt_140 : decode cL_areAt 140 = .ok (.iinc 2 1, 3) := by decide +kernel
theorem dL_areAt_143 : decode cL_areAt 143 = .ok (.goto (-141), 3) := by decide +kernel
theorem dL_areAt_146 : decode cL_areAt 146 = .ok (.aload_n 0, 1) := by decide +kernel
theorem dL_areAt_147 : decode cL_areAt 147 = .ok (.iconst 1, 1) := by decide +kernel
theorem dL_areAt_148 : decode cL_areAt 148 = .ok (.aload_n 1, 1) := by decide +kernel
theorem dL_areAt_149 : decode cL_areAt 149 = .ok (.invokestatic 33, 3) := by decide +kernel
theorem dL_areAt_152 : decode cL_areAt 152 = .ok (.iconst 0, 1) := by decide +kernel
theorem dL_areAt_153 : decode cL_areAt 153 = .ok (.invokevirtual 90, 3) := by decide +kernel
theorem dL_areAt_156 : decode cL_areAt 156 = .ok (.bipush (-2), 2) := by decide +kernel
theorem dL_areAt_158 : decode cL_areAt 158 = .ok (.if_icmp .ne 37, 3) := by decide +kernel
theorem dL_areAt_161 : decode cL_areAt 161 = .ok (.aload_n 0, 1) := by decide +kernel
theorem dL_areAt_162 : decode cL_areAt 162 = .ok (.iconst 0, 1) := by decide +kernel
theorem dL_areAt_163 : decode cL_areAt 163 = .ok (.aload_n 1, 1) := by decide +kernel
theorem dL_areAt_164 : decode cL_areAt 164 = .ok (.iconst 0, 1) := by decide +kernel
theorem dL_areAt_165 : decode cL_areAt 165 = .ok (.iaload, 1) := by decide +kernel
theorem dL_areAt_166 : decode cL_areAt 166 = .ok (.aload_n 1, 1) := by decide +kernel
theorem dL_areAt_167 : decode cL_areAt 167 = .ok (.iconst 1, 1) := by decide +kernel
theorem dL_areAt_168 : decode cL_areAt 168 = .ok (.iaload, 1) := by decide +kernel
theorem dL_areAt_169 : decode cL_areAt 169 = .ok (.imul, 1) := by decide +kernel
theorem dL_areAt_170 : decode cL_areAt 170 = .ok (.iconst 0, 1) := by decide +kernel
theorem dL_areAt_171 : decode cL_areAt 171 = .ok (.invokevirtual 90, 3) := by decide +kernel
theorem dL_areAt_174 : decode cL_areAt 174 = .ok (.bipush (-2), 2) := by decide +kernel
theorem dL_areAt_176 : decode cL_areAt 176 = .ok (.if_icmp .ne 19, 3) := by decide +kernel
theorem dL_areAt_179 : decode cL_areAt 179 = .ok (.aload_n 0, 1) := by decide +kernel
theorem dL_areAt_180 : decode cL_areAt 180 = .ok (.iconst 1, 1) := by decide +kernel
theorem dL_areAt_181 : decode cL_areAt 181 = .ok (.iconst 0, 1) := by decide +kernel
theorem dL_areAt_182 : decode cL_areAt 182 = .ok (.iconst (-1), 1) := by decide +kernel
theorem dL_areAt_183 : decode cL_areAt 183 = .ok (.invokevirtual 90, 3) := by decide +kernel
theorem dL_areAt_186 : decode cL_areAt 186 = .ok (.bipush (-2), 2) := by decide +kernel
theorem dL_areAt_188 : decode cL_areAt 188 = .ok (.if_icmp .ne 7, 3) := by decide +kernel
theorem dL_areAt_191 : decode cL_areAt 191 = .ok (.iconst 1, 1) := by decide +kernel
theorem dL_areAt_192 : decode cL_areAt 192 = .ok (.goto 4, 3) := by decide +kernel
theorem dL_areAt_195 : decode cL_areAt 195 = .ok (.iconst 0, 1) := by decide +kernel
theorem dL_areAt_196 : decode cL_areAt 196 = .ok (.ireturn, 1) := by decide +kernel
theorem dL_areWays_0 : decode cL_areWays 0 = .ok (.bipush 40, 2) := by decide +kernel
theorem dL_areWays_2 : decode cL_areWays 2 = .ok (.newarray .int, 2) := by decide +kernel
theorem dL_areWays_4 : decode cL_areWays 4 = .ok (.astore_n 2, 1) := by decide +kernel
theorem dL_areWays_5 : decode cL_areWays 5 = .ok (.aload_n 1, 1) := by decide +kernel
theorem dL_areWays_6 : decode cL_areWays 6 = .ok (.aload_n 2, 1) := by decide +kernel
theorem dL_areWays_7 : decode cL_areWays 7 = .ok (.invokestatic 94, 3) := by decide +kernel
theorem dL_areWays_10 : decode cL_areWays 10 = .ok (.iconst 0, 1) := by decide +kernel
theorem dL_areWays_11 : decode cL_areWays 11 = .ok (.istore_n 3, 1) := by decide +kernel
theorem dL_areWays_12 : decode cL_areWays 12 = .ok (.iload_n 3, 1) := by decide +kernel
theorem dL_areWays_13 : decode cL_areWays 13 = .ok (.aload_n 1, 1) := by decide +kernel
theorem dL_areWays_14 : decode cL_areWays 14 = .ok (.invokestatic 19, 3) := by decide +kernel
theorem dL_areWays_17 : decode cL_areWays 17 = .ok (.if_icmp .ge 96, 3) := by decide +kernel
theorem dL_areWays_20 : decode cL_areWays 20 = .ok (.aload_n 2, 1) := by decide +kernel
theorem dL_areWays_21 : decode cL_areWays 21 = .ok (.iload_n 3, 1) := by decide +kernel
theorem dL_areWays_22 : decode cL_areWays 22 = .ok (.iaload, 1) := by decide +kernel
theorem dL_areWays_23 : decode cL_areWays 23 = .ok (.ifCond .lt 7, 3) := by decide +kernel
theorem dL_areWays_26 : decode cL_areWays 26 = .ok (.iconst 1, 1) := by decide +kernel
theorem dL_areWays_27 : decode cL_areWays 27 = .ok (.goto 4, 3) := by decide +kernel
theorem dL_areWays_30 : decode cL_areWays 30 = .ok (.iconst 0, 1) := by decide +kernel
theorem dL_areWays_31 : decode cL_areWays 31 = .ok (.istore 4, 2) := by decide +kernel
theorem dL_areWays_33 : decode cL_areWays 33 = .ok (.aload_n 0, 1) := by decide +kernel
theorem dL_areWays_34 : decode cL_areWays 34 = .ok (.iload_n 3, 1) := by decide +kernel
theorem dL_areWays_35 : decode cL_areWays 35 = .ok (.iconst 0, 1) := by decide +kernel
theorem dL_areWays_36 : decode cL_areWays 36 = .ok (.invokevirtual 98, 3) := by decide +kernel
theorem dL_areWays_39 : decode cL_areWays 39 = .ok (.iload 4, 2) := by decide +kernel
theorem dL_areWays_41 : decode cL_areWays 41 = .ok (.ifCond .eq 14, 3) := by decide +kernel
theorem dL_areWays_44 : decode cL_areWays 44 = .ok (.aload_n 1, 1) := by decide +kernel
theorem dL_areWays_45 : decode cL_areWays 45 = .ok (.aload_n 2, 1) := by decide +kernel
theorem dL_areWays_46 : decode cL_areWays 46 = .ok (.aload_n 2, 1) := by decide +kernel
theorem dL_areWays_47 : decode cL_areWays 47 = .ok (.iload_n 3, 1) := by decide +kernel
theorem dL_areWays_48 : decode cL_areWays 48 = .ok (.iaload, 1) := by decide +kernel
theorem dL_areWays_49 : decode cL_areWays 49 = .ok (.invokestatic 47, 3) := by decide +kernel
theorem dL_areWays_52 : decode cL_areWays 52 = .ok (.goto 4, 3) := by decide +kernel
theorem dL_areWays_55 : decode cL_areWays 55 = .ok (.iconst (-1), 1) := by decide +kernel
theorem dL_areWays_56 : decode cL_areWays 56 = .ok (.if_icmp .ne 49, 3) := by decide +kernel
theorem dL_areWays_59 : decode cL_areWays 59 = .ok (.aload_n 0, 1) := by decide +kernel
theorem dL_areWays_60 : decode cL_areWays 60 = .ok (.iload_n 3, 1) := by decide +kernel
theorem dL_areWays_61 : decode cL_areWays 61 = .ok (.iconst 1, 1) := by decide +kernel
theorem dL_areWays_62 : decode cL_areWays 62 = .ok (.invokevirtual 98, 3) := by decide +kernel
theorem dL_areWays_65 : decode cL_areWays 65 = .ok (.aload_n 2, 1) := by decide +kernel
theorem dL_areWays_66 : decode cL_areWays 66 = .ok (.iload_n 3, 1) := by decide +kernel
theorem dL_areWays_67 : decode cL_areWays 67 = .ok (.iaload, 1) := by decide +kernel
theorem dL_areWays_68 : decode cL_areWays 68 = .ok (.if_icmp .ne 37, 3) := by decide +kernel
theorem dL_areWays_71 : decode cL_areWays 71 = .ok (.aload_n 0, 1) := by decide +kernel
theorem dL_areWays_72 : decode cL_areWays 72 = .ok (.iload_n 3, 1) := by decide +kernel
theorem dL_areWays_73 : decode cL_areWays 73 = .ok (.iconst 2, 1) := by decide +kernel
theorem dL_areWays_74 : decode cL_areWays 74 = .ok (.invokevirtual 98, 3) := by decide +kernel
theorem dL_areWays_77 : decode cL_areWays 77 = .ok (.iload 4, 2) := by decide +kernel
theorem dL_areWays_79 : decode cL_areWays 79 = .ok (.ifCond .eq 22, 3) := by decide +kernel
theorem dL_areWays_82 : decode cL_areWays 82 = .ok (.aload_n 1, 1) := by decide +kernel
theorem dL_areWays_83 : decode cL_areWays 83 = .ok (.aload_n 2, 1) := by decide +kernel
theorem dL_areWays_84 : decode cL_areWays 84 = .ok (.aload_n 2, 1) := by decide +kernel
theorem dL_areWays_85 : decode cL_areWays 85 = .ok (.iload_n 3, 1) := by decide +kernel
theorem dL_areWays_86 : decode cL_areWays 86 = .ok (.iaload, 1) := by decide +kernel
theorem dL_areWays_87 : decode cL_areWays 87 = .ok (.invokestatic 39, 3) := by decide +kernel
theorem dL_areWays_90 : decode cL_areWays 90 = .ok (.ifCond .eq 7, 3) := by decide +kernel
theorem dL_areWays_93 : decode cL_areWays 93 = .ok (.iconst 1, 1) := by decide +kernel
theorem dL_areWays_94 : decode cL_areWays 94 = .ok (.goto 8, 3) := by decide +kernel
theorem dL_areWays_97 : decode cL_areWays 97 = .ok (.iconst 0, 1) := by decide +kernel
theorem dL_areWays_98 : decode cL_areWays 98 = .ok (.goto 4, 3) := by decide +kernel
theorem dL_areWays_101 : decode cL_areWays 101 = .ok (.iconst (-1), 1) := by decide +kernel
theorem dL_areWays_102 : decode cL_areWays 102 = .ok (.if_icmp .eq 5, 3) := by decide +kernel
theorem dL_areWays_105 : decode cL_areWays 105 = .ok (.iconst 0, 1) := by decide +kernel
theorem dL_areWays_106 : decode cL_areWays 106 = .ok (.ireturn, 1) := by decide +kernel
theorem dL_areWays_107 : decode cL_areWays 107 = .ok (.iinc 3 1, 3) := by decide +kernel
theorem dL_areWays_110 : decode cL_areWays 110 = .ok (.goto (-98), 3) := by decide +kernel
theorem dL_areWays_113 : decode cL_areWays 113 = .ok (.aload_n 1, 1) := by decide +kernel
theorem dL_areWays_114 : decode cL_areWays 114 = .ok (.aload_n 2, 1) := by decide +kernel
theorem dL_areWays_115 : decode cL_areWays 115 = .ok (.invokestatic 101, 3) := by decide +kernel
theorem dL_areWays_118 : decode cL_areWays 118 = .ok (.istore_n 3, 1) := by decide +kernel
theorem dL_areWays_119 : decode cL_areWays 119 = .ok (.aload_n 1, 1) := by decide +kernel
theorem dL_areWays_120 : decode cL_areWays 120 = .ok (.invokestatic 105, 3) := by decide +kernel
theorem dL_areWays_123 : decode cL_areWays 123 = .ok (.istore 4, 2) := by decide +kernel
theorem dL_areWays_125 : decode cL_areWays 125 = .ok (.aload_n 1, 1) := by decide +kernel
theorem dL_areWays_126 : decode cL_areWays 126 = .ok (.invokestatic 108, 3) := by decide +kernel
theorem dL_areWays_129 : decode cL_areWays 129 = .ok (.istore 5, 2) := by decide +kernel
theorem dL_areWays_131 : decode cL_areWays 131 = .ok (.iload 4, 2) := by decide +kernel
theorem dL_areWays_133 : decode cL_areWays 133 = .ok (.ifCond .ge 16, 3) := by decide +kernel
theorem dL_areWays_136 : decode cL_areWays 136 = .ok (.iload 5, 2) := by decide +kernel
theorem dL_areWays_138 : decode cL_areWays 138 = .ok (.ifCond .ge 11, 3) := by decide +kernel
theorem dL_areWays_141 : decode cL_areWays 141 = .ok (.iload_n 3, 1) := by decide +kernel
theorem dL_areWays_142 : decode cL_areWays 142 = .ok (.ifCond .ge 7, 3) := by decide +kernel
theorem dL_areWays_145 : decode cL_areWays 145 = .ok (.iconst 1, 1) := by decide +kernel
theorem dL_areWays_146 : decode cL_areWays 146 = .ok (.goto 4, 3) := by decide +kernel
theorem dL_areWays_149 : decode cL_areWays 149 = .ok (.iconst 0, 1) := by decide +kernel
theorem dL_areWays_150 : decode cL_areWays 150 = .ok (.istore 6, 2) := by decide +kernel
theorem dL_areWays_152 : decode cL_areWays 152 = .ok (.aload_n 0, 1) := by decide +kernel
theorem dL_areWays_153 : decode cL_areWays 153 = .ok (.iconst 0, 1) := by decide +kernel
theorem dL_areWays_154 : decode cL_areWays 154 = .ok (.invokevirtual 111, 3) := by decide +kernel
theorem dL_areWays_157 : decode cL_areWays 157 = .ok (.iload 4, 2) := by decide +kernel
theorem dL_areWays_159 : decode cL_areWays 159 = .ok (.if_icmp .ne 75, 3) := by decide +kernel
theorem dL_areWays_162 : decode cL_areWays 162 = .ok (.aload_n 0, 1) := by decide +kernel
theorem dL_areWays_163 : decode cL_areWays 163 = .ok (.iconst 1, 1) := by decide +kernel
theorem dL_areWays_164 : decode cL_areWays 164 = .ok (.invokevirtual 111, 3) := by decide +kernel
theorem dL_areWays_167 : decode cL_areWays 167 = .ok (.iload 5, 2) := by decide +kernel
theorem dL_areWays_169 : decode cL_areWays 169 = .ok (.if_icmp .ne 65, 3) := by decide +kernel
theorem dL_areWays_172 : decode cL_areWays 172 = .ok (.aload_n 0, 1) := by decide +kernel
theorem dL_areWays_173 : decode cL_areWays 173 = .ok (.iconst 2, 1) := by decide +kernel
theorem dL_areWays_174 : decode cL_areWays 174 = .ok (.invokevirtual 111, 3) := by decide +kernel
theorem dL_areWays_177 : decode cL_areWays 177 = .ok (.iload_n 3, 1) := by decide +kernel
theorem dL_areWays_178 : decode cL_areWays 178 = .ok (.ifCond .ge 7, 3) := by decide +kernel
theorem dL_areWays_181 : decode cL_areWays 181 = .ok (.iconst (-1), 1) := by decide +kernel
theorem dL_areWays_182 : decode cL_areWays 182 = .ok (.goto 4, 3) := by decide +kernel
theorem dL_areWays_185 : decode cL_areWays 185 = .ok (.iload_n 3, 1) := by decide +kernel
theorem dL_areWays_186 : decode cL_areWays 186 = .ok (.if_icmp .ne 48, 3) := by decide +kernel
theorem dL_areWays_189 : decode cL_areWays 189 = .ok (.aload_n 0, 1) := by decide +kernel
theorem dL_areWays_190 : decode cL_areWays 190 = .ok (.iconst 3, 1) := by decide +kernel
theorem dL_areWays_191 : decode cL_areWays 191 = .ok (.invokevirtual 111, 3) := by decide +kernel
theorem dL_areWays_194 : decode cL_areWays 194 = .ok (.iload 6, 2) := by decide +kernel
theorem dL_areWays_196 : decode cL_areWays 196 = .ok (.ifCond .eq 7, 3) := by decide +kernel
theorem dL_areWays_199 : decode cL_areWays 199 = .ok (.iconst 1, 1) := by decide +kernel
theorem dL_areWays_200 : decode cL_areWays 200 = .ok (.goto 4, 3) := by decide +kernel
theorem dL_areWays_203 : decode cL_areWays 203 = .ok (.iconst 0, 1) := by decide +kernel
theorem dL_areWays_204 : decode cL_areWays 204 = .ok (.if_icmp .ne 30, 3) := by decide +kernel
theorem dL_areWays_207 : decode cL_areWays 207 = .ok (.aload_n 0, 1) := by decide +kernel
theorem dL_areWays_208 : decode cL_areWays 208 = .ok (.iconst 4, 1) := by decide +kernel
theorem dL_areWays_209 : decode cL_areWays 209 = .ok (.invokevirtual 111, 3) := by decide +kernel
theorem dL_areWays_212 : decode cL_areWays 212 = .ok (.iload 6, 2) := by decide +kernel
theorem dL_areWays_214 : decode cL_areWays 214 = .ok (.ifCond .eq 12, 3) := by decide +kernel
theorem dL_areWays_217 : decode cL_areWays 217 = .ok (.iload_n 3, 1) := by decide +kernel
theorem dL_areWays_218 : decode cL_areWays 218 = .ok (.iconst (-1), 1) := by decide +kernel
theorem dL_areWays_219 : decode cL_areWays 219 = .ok (.if_icmp .ne 7, 3) := by decide +kernel
theorem dL_areWays_222 : decode cL_areWays 222 = .ok (.iconst 1, 1) := by decide +kernel
theorem dL_areWays_223 : decode cL_areWays 223 = .ok (.goto 4, 3) := by decide +kernel
theorem dL_areWays_226 : decode cL_areWays 226 = .ok (.iconst 0, 1) := by decide +kernel
theorem dL_areWays_227 : decode cL_areWays 227 = .ok (.if_icmp .ne 7, 3) := by decide +kernel
theorem dL_areWays_230 : decode cL_areWays 230 = .ok (.iconst 1, 1) := by decide +kernel
theorem dL_areWays_231 : decode cL_areWays 231 = .ok (.goto 4, 3) := by decide +kernel
theorem dL_areWays_234 : decode cL_areWays 234 = .ok (.iconst 0, 1) := by decide +kernel
theorem dL_areWays_235 : decode cL_areWays 235 = .ok (.istore 7, 2) := by decide +kernel
theorem dL_areWays_237 : decode cL_areWays 237 = .ok (.iload 7, 2) := by decide +kernel
theorem dL_areWays_239 : decode cL_areWays 239 = .ok (.ifCond .eq 42, 3) := by decide +kernel
theorem dL_areWays_242 : decode cL_areWays 242 = .ok (.aload_n 0, 1) := by decide +kernel
theorem dL_areWays_243 : decode cL_areWays 243 = .ok (.iconst 5, 1) := by decide +kernel
theorem dL_areWays_244 : decode cL_areWays 244 = .ok (.invokevirtual 111, 3) := by decide +kernel
theorem dL_areWays_247 : decode cL_areWays 247 = .ok (.bipush (-2), 2) := by decide +kernel
theorem dL_areWays_249 : decode cL_areWays 249 = .ok (.if_icmp .ne 32, 3) := by decide +kernel
theorem dL_areWays_252 : decode cL_areWays 252 = .ok (.aload_n 0, 1) := by decide +kernel
theorem dL_areWays_253 : decode cL_areWays 253 = .ok (.iconst 0, 1) := by decide +kernel
theorem dL_areWays_254 : decode cL_areWays 254 = .ok (.iconst 3, 1) := by decide +kernel
theorem dL_areWays_255 : decode cL_areWays 255 = .ok (.invokevirtual 98, 3) := by decide +kernel
theorem dL_areWays_258 : decode cL_areWays 258 = .ok (.bipush (-2), 2) := by decide +kernel
theorem dL_areWays_260 : decode cL_areWays 260 = .ok (.if_icmp .ne 21, 3) := by decide +kernel
theorem dL_areWays_263 : decode cL_areWays 263 = .ok (.aload_n 0, 1) := by decide +kernel
theorem dL_areWays_264 : decode cL_areWays 264 = .ok (.aload_n 1, 1) := by decide +kernel
theorem dL_areWays_265 : decode cL_areWays 265 = .ok (.invokestatic 19, 3) := by decide +kernel
theorem dL_areWays_268 : decode cL_areWays 268 = .ok (.iconst 0, 1) := by decide +kernel
theorem dL_areWays_269 : decode cL_areWays 269 = .ok (.invokevirtual 98, 3) := by decide +kernel
theorem dL_areWays_272 : decode cL_areWays 272 = .ok (.bipush (-2), 2) := by decide +kernel
theorem dL_areWays_274 : decode cL_areWays 274 = .ok (.if_icmp .ne 7, 3) := by decide +kernel
theorem dL_areWays_277 : decode cL_areWays 277 = .ok (.iconst 1, 1) := by decide +kernel
theorem dL_areWays_278 : decode cL_areWays 278 = .ok (.goto 4, 3) := by decide +kernel
theorem dL_areWays_281 : decode cL_areWays 281 = .ok (.iconst 0, 1) := by decide +kernel
theorem dL_areWays_282 : decode cL_areWays 282 = .ok (.ireturn, 1) := by decide +kernel
theorem dL_borders_0 : decode cL_borders 0 = .ok (.iconst 1, 1) := by decide +kernel
theorem dL_borders_1 : decode cL_borders 1 = .ok (.istore_n 3, 1) := by decide +kernel
theorem dL_borders_2 : decode cL_borders 2 = .ok (.iconst 0, 1) := by decide +kernel
theorem dL_borders_3 : decode cL_borders 3 = .ok (.istore 4, 2) := by decide +kernel
theorem dL_borders_5 : decode cL_borders 5 = .ok (.iload 4, 2) := by decide +kernel
theorem dL_borders_7 : decode cL_borders 7 = .ok (.aload_n 1, 1) := by decide +kernel
theorem dL_borders_8 : decode cL_borders 8 = .ok (.invokestatic 19, 3) := by decide +kernel
theorem dL_borders_11 : decode cL_borders 11 = .ok (.if_icmp .ge 55, 3) := by decide +kernel
theorem dL_borders_14 : decode cL_borders 14 = .ok (.aload_n 1, 1) := by decide +kernel
theorem dL_borders_15 : decode cL_borders 15 = .ok (.iload 4, 2) := by decide +kernel
theorem dL_borders_17 : decode cL_borders 17 = .ok (.iload_n 2, 1) := by decide +kernel
theorem dL_borders_18 : decode cL_borders 18 = .ok (.invokestatic 22, 3) := by decide +kernel
theorem dL_borders_21 : decode cL_borders 21 = .ok (.ifCond .eq 39, 3) := by decide +kernel
theorem dL_borders_24 : decode cL_borders 24 = .ok (.iload_n 3, 1) := by decide +kernel
theorem dL_borders_25 : decode cL_borders 25 = .ok (.ifCond .eq 33, 3) := by decide +kernel
theorem dL_borders_28 : decode cL_borders 28 = .ok (.aload_n 0, 1) := by decide +kernel
theorem dL_borders_29 : decode cL_borders 29 = .ok (.aload_n 1, 1) := by decide +kernel
theorem dL_borders_30 : decode cL_borders 30 = .ok (.iload 4, 2) := by decide +kernel
theorem dL_borders_32 : decode cL_borders 32 = .ok (.aload_n 1, 1) := by decide +kernel
theorem dL_borders_33 : decode cL_borders 33 = .ok (.bipush 18, 2) := by decide +kernel
theorem dL_borders_35 : decode cL_borders 35 = .ok (.iload 4, 2) := by decide +kernel
theorem dL_borders_37 : decode cL_borders 37 = .ok (.iadd, 1) := by decide +kernel
theorem dL_borders_38 : decode cL_borders 38 = .ok (.iaload, 1) := by decide +kernel
theorem dL_borders_39 : decode cL_borders 39 = .ok (.iconst 1, 1) := by decide +kernel
theorem dL_borders_40 : decode cL_borders 40 = .ok (.if_icmp .ne 7, 3) := by decide +kernel
theorem dL_borders_43 : decode cL_borders 43 = .ok (.iconst 2, 1) := by decide +kernel
theorem dL_borders_44 : decode cL_borders 44 = .ok (.goto 4, 3) := by decide +kernel
theorem dL_borders_47 : decode cL_borders 47 = .ok (.iconst 1, 1) := by decide +kernel
theorem dL_borders_48 : decode cL_borders 48 = .ok (.invokestatic 114, 3) := by decide +kernel
theorem dL_borders_51 : decode cL_borders 51 = .ok (.ifCond .eq 7, 3) := by decide +kernel
theorem dL_borders_54 : decode cL_borders 54 = .ok (.iconst 1, 1) := by decide +kernel
theorem dL_borders_55 : decode cL_borders 55 = .ok (.goto 4, 3) := by decide +kernel
theorem dL_borders_58 : decode cL_borders 58 = .ok (.iconst 0, 1) := by decide +kernel
theorem dL_borders_59 : decode cL_borders 59 = .ok (.istore_n 3, 1) := by decide +kernel
theorem dL_borders_60 : decode cL_borders 60 = .ok (.iinc 4 1, 3) := by decide +kernel
theorem dL_borders_63 : decode cL_borders 63 = .ok (.goto (-58), 3) := by decide +kernel
theorem dL_borders_66 : decode cL_borders 66 = .ok (.iload_n 3, 1) := by decide +kernel
theorem dL_borders_67 : decode cL_borders 67 = .ok (.ireturn, 1) := by decide +kernel
theorem dL_law_0 : decode cL_law 0 = .ok (.new 55, 3) := by decide +kernel
theorem dL_law_3 : decode cL_law 3 = .ok (.dup, 1) := by decide +kernel
theorem dL_law_4 : decode cL_law 4 = .ok (.invokespecial 117, 3) := by decide +kernel
theorem dL_law_7 : decode cL_law 7 = .ok (.astore_n 1, 1) := by decide +kernel
theorem dL_law_8 : decode cL_law 8 = .ok (.bipush 64, 2) := by decide +kernel
theorem dL_law_10 : decode cL_law 10 = .ok (.newarray .int, 2) := by decide +kernel
theorem dL_law_12 : decode cL_law 12 = .ok (.astore_n 2, 1) := by decide +kernel
theorem dL_law_13 : decode cL_law 13 = .ok (.aload_n 2, 1) := by decide +kernel
theorem dL_law_14 : decode cL_law 14 = .ok (.iconst 0, 1) := by decide +kernel
theorem dL_law_15 : decode cL_law 15 = .ok (.iconst 3, 1) := by decide +kernel
theorem dL_law_16 : decode cL_law 16 = .ok (.iastore, 1) := by decide +kernel
theorem dL_law_17 : decode cL_law 17 = .ok (.aload_n 2, 1) := by decide +kernel
theorem dL_law_18 : decode cL_law 18 = .ok (.iconst 1, 1) := by decide +kernel
theorem dL_law_19 : decode cL_law 19 = .ok (.iconst 3, 1) := by decide +kernel
theorem dL_law_20 : decode cL_law 20 = .ok (.iastore, 1) := by decide +kernel
theorem dL_law_21 : decode cL_law 21 = .ok (.iconst 0, 1) := by decide +kernel
theorem dL_law_22 : decode cL_law 22 = .ok (.istore_n 3, 1) := by decide +kernel
theorem dL_law_23 : decode cL_law 23 = .ok (.iload_n 3, 1) := by decide +kernel
theorem dL_law_24 : decode cL_law 24 = .ok (.bipush 16, 2) := by decide +kernel
theorem dL_law_26 : decode cL_law 26 = .ok (.if_icmp .ge 15, 3) := by decide +kernel
theorem dL_law_29 : decode cL_law 29 = .ok (.aload_n 2, 1) := by decide +kernel
theorem dL_law_30 : decode cL_law 30 = .ok (.iconst 2, 1) := by decide +kernel
theorem dL_law_31 : decode cL_law 31 = .ok (.iload_n 3, 1) := by decide +kernel
theorem dL_law_32 : decode cL_law 32 = .ok (.iadd, 1) := by decide +kernel
theorem dL_law_33 : decode cL_law 33 = .ok (.iconst (-1), 1) := by decide +kernel
theorem dL_law_34 : decode cL_law 34 = .ok (.iastore, 1) := by decide +kernel
theorem dL_law_35 : decode cL_law 35 = .ok (.iinc 3 1, 3) := by decide +kernel
theorem dL_law_38 : decode cL_law 38 = .ok (.goto (-15), 3) := by decide +kernel
theorem dL_law_41 : decode cL_law 41 = .ok (.aload_n 1, 1) := by decide +kernel
theorem dL_law_42 : decode cL_law 42 = .ok (.invokevirtual 118, 3) := by decide +kernel
theorem dL_law_45 : decode cL_law 45 = .ok (.bipush (-3), 2) := by decide +kernel
theorem dL_law_47 : decode cL_law 47 = .ok (.if_icmp .ne 66, 3) := by decide +kernel
theorem dL_law_50 : decode cL_law 50 = .ok (.aload_n 1, 1) := by decide +kernel
theorem dL_law_51 : decode cL_law 51 = .ok (.bipush 9, 2) := by decide +kernel
theorem dL_law_53 : decode cL_law 53 = .ok (.iconst 0, 1) := by decide +kernel
theorem dL_law_54 : decode cL_law 54 = .ok (.invokevirtual 121, 3) := by decide +kernel
theorem dL_law_57 : decode cL_law 57 = .ok (.bipush (-2), 2) := by decide +kernel
theorem dL_law_59 : decode cL_law 59 = .ok (.if_icmp .ne 54, 3) := by decide +kernel
theorem dL_law_62 : decode cL_law 62 = .ok (.aload_n 1, 1) := by decide +kernel
theorem dL_law_63 : decode cL_law 63 = .ok (.iconst 0, 1) := by decide +kernel
theorem dL_law_64 : decode cL_law 64 = .ok (.iconst 4, 1) := by decide +kernel
theorem dL_law_65 : decode cL_law 65 = .ok (.invokevirtual 121, 3) := by decide +kernel
theorem dL_law_68 : decode cL_law 68 = .ok (.bipush (-2), 2) := by decide +kernel
theorem dL_law_70 : decode cL_law 70 = .ok (.if_icmp .ne 43, 3) := by decide +kernel
theorem dL_law_73 : decode cL_law 73 = .ok (.aload_n 1, 1) := by decide +kernel
theorem dL_law_74 : decode cL_law 74 = .ok (.invokevirtual 78, 3) := by decide +kernel
theorem dL_law_77 : decode cL_law 77 = .ok (.bipush (-3), 2) := by decide +kernel
theorem dL_law_79 : decode cL_law 79 = .ok (.if_icmp .ne 34, 3) := by decide +kernel
theorem dL_law_82 : decode cL_law 82 = .ok (.aload_n 1, 1) := by decide +kernel
theorem dL_law_83 : decode cL_law 83 = .ok (.invokevirtual 124, 3) := by decide +kernel
theorem dL_law_86 : decode cL_law 86 = .ok (.ifCond .ne 27, 3) := by decide +kernel
theorem dL_law_89 : decode cL_law 89 = .ok (.aload_n 1, 1) := by decide +kernel
theorem dL_law_90 : decode cL_law 90 = .ok (.aload_n 2, 1) := by decide +kernel
theorem dL_law_91 : decode cL_law 91 = .ok (.invokestatic 127, 3) := by decide +kernel
theorem dL_law_94 : decode cL_law 94 = .ok (.ifCond .eq 19, 3) := by decide +kernel
theorem dL_law_97 : decode cL_law 97 = .ok (.aload_n 1, 1) := by decide +kernel
theorem dL_law_98 : decode cL_law 98 = .ok (.aload_n 2, 1) := by decide +kernel
theorem dL_law_99 : decode cL_law 99 = .ok (.invokestatic 131, 3) := by decide +kernel
theorem dL_law_102 : decode cL_law 102 = .ok (.ifCond .eq 11, 3) := by decide +kernel
theorem dL_law_105 : decode cL_law 105 = .ok (.aload_n 1, 1) := by decide +kernel
theorem dL_law_106 : decode cL_law 106 = .ok (.aload_n 2, 1) := by decide +kernel
theorem dL_law_107 : decode cL_law 107 = .ok (.invokestatic 134, 3) := by decide +kernel
theorem dL_law_110 : decode cL_law 110 = .ok (.ifCond .ne 5, 3) := by decide +kernel
theorem dL_law_113 : decode cL_law 113 = .ok (.iconst 0, 1) := by decide +kernel
theorem dL_law_114 : decode cL_law 114 = .ok (.ireturn, 1) := by decide +kernel
theorem dL_law_115 : decode cL_law 115 = .ok (.iconst 0, 1) := by decide +kernel
theorem dL_law_116 : decode cL_law 116 = .ok (.istore_n 3, 1) := by decide +kernel
theorem dL_law_117 : decode cL_law 117 = .ok (.iload_n 3, 1) := by decide +kernel
theorem dL_law_118 : decode cL_law 118 = .ok (.bipush 22, 2) := by decide +kernel
theorem dL_law_120 : decode cL_law 120 = .ok (.if_icmp .ge 343, 3) := by decide +kernel
theorem dL_law_123 : decode cL_law 123 = .ok (.aload_n 0, 1) := by decide +kernel
theorem dL_law_124 : decode cL_law 124 = .ok (.iconst 2, 1) := by decide +kernel
theorem dL_law_125 : decode cL_law 125 = .ok (.iload_n 3, 1) := by decide +kernel
theorem dL_law_126 : decode cL_law 126 = .ok (.imul, 1) := by decide +kernel
theorem dL_law_127 : decode cL_law 127 = .ok (.invokestatic 137, 3) := by decide +kernel
theorem dL_law_130 : decode cL_law 130 = .ok (.istore 4, 2) := by decide +kernel
theorem dL_law_132 : decode cL_law 132 = .ok (.iload 4, 2) := by decide +kernel
theorem dL_law_134 : decode cL_law 134 = .ok (.bipush 9, 2) := by decide +kernel
theorem dL_law_136 : decode cL_law 136 = .ok (.invokestatic 60, 3) := by decide +kernel
theorem dL_law_139 : decode cL_law 139 = .ok (.tableswitch 268 0 5 #[37, 77, 145, 145, 145, 169], 37) := by decide +kernel
theorem dL_law_176 : decode cL_law 176 = .ok (.aload_n 1, 1) := by decide +kernel
theorem dL_law_177 : decode cL_law 177 = .ok (.aload_n 2, 1) := by decide +kernel
theorem dL_law_178 : decode cL_law 178 = .ok (.iload 4, 2) := by decide +kernel
theorem dL_law_180 : decode cL_law 180 = .ok (.iconst 4, 1) := by decide +kernel
theorem dL_law_181 : decode cL_law 181 = .ok (.ishr, 1) := by decide +kernel
theorem dL_law_182 : decode cL_law 182 = .ok (.aload_n 0, 1) := by decide +kernel
theorem dL_law_183 : decode cL_law 183 = .ok (.iconst 2, 1) := by decide +kernel
theorem dL_law_184 : decode cL_law 184 = .ok (.iload_n 3, 1) := by decide +kernel
theorem dL_law_185 : decode cL_law 185 = .ok (.imul, 1) := by decide +kernel
theorem dL_law_186 : decode cL_law 186 = .ok (.iconst 1, 1) := by decide +kernel
theorem dL_law_187 : decode cL_law 187 = .ok (.iadd, 1) := by decide +kernel
theorem dL_law_188 : decode cL_law 188 = .ok (.invokestatic 137, 3) := by decide +kernel
theorem dL_law_191 : decode cL_law 191 = .ok (.iconst 4, 1) := by decide +kernel
theorem dL_law_192 : decode cL_law 192 = .ok (.invokestatic 140, 3) := by decide +kernel
theorem dL_law_195 : decode cL_law 195 = .ok (.ifCond .eq 15, 3) := by decide +kernel
theorem dL_law_198 : decode cL_law 198 = .ok (.aload_n 1, 1) := by decide +kernel
theorem dL_law_199 : decode cL_law 199 = .ok (.aload_n 2, 1) := by decide +kernel
theorem dL_law_200 : decode cL_law 200 = .ok (.invokestatic 131, 3) := by decide +kernel
theorem dL_law_203 : decode cL_law 203 = .ok (.ifCond .eq 7, 3) := by decide +kernel
theorem dL_law_206 : decode cL_law 206 = .ok (.iconst 1, 1) := by decide +kernel
theorem dL_law_207 : decode cL_law 207 = .ok (.goto 4, 3) := by decide +kernel
theorem dL_law_210 : decode cL_law 210 = .ok (.iconst 0, 1) := by decide +kernel
theorem dL_law_211 : decode cL_law 211 = .ok (.istore 5, 2) := by decide +kernel
theorem dL_law_213 : decode cL_law 213 = .ok (.goto 221, 3) := by decide +kernel
theorem dL_law_216 : decode cL_law 216 = .ok (.iload 4, 2) := by decide +kernel
theorem dL_law_218 : decode cL_law 218 = .ok (.iconst 4, 1) := by decide +kernel
theorem dL_law_219 : decode cL_law 219 = .ok (.ishr, 1) := by decide +kernel
theorem dL_law_220 : decode cL_law 220 = .ok (.aload_n 2, 1) := by decide +kernel
theorem dL_law_221 : decode cL_law 221 = .ok (.iconst 0, 1) := by decide +kernel
theorem dL_law_222 : decode cL_law 222 = .ok (.iaload, 1) := by decide +kernel
theorem dL_law_223 : decode cL_law 223 = .ok (.aload_n 2, 1) := by decide +kernel
theorem dL_law_224 : decode cL_law 224 = .ok (.iconst 1, 1) := by decide +kernel
theorem dL_law_225 : decode cL_law 225 = .ok (.iaload, 1) := by decide +kernel
theorem dL_law_226 : decode cL_law 226 = .ok (.imul, 1) := by decide +kernel
theorem dL_law_227 : decode cL_law 227 = .ok (.invokestatic 60, 3) := by decide +kernel
theorem dL_law_230 : decode cL_law 230 = .ok (.istore 6, 2) := by decide +kernel
theorem dL_law_232 : decode cL_law 232 = .ok (.aload_n 2, 1) := by decide +kernel
theorem dL_law_233 : decode cL_law 233 = .ok (.iconst 2, 1) := by decide +kernel
theorem dL_law_234 : decode cL_law 234 = .ok (.iload 6, 2) := by decide +kernel
theorem dL_law_236 : decode cL_law 236 = .ok (.iadd, 1) := by decide +kernel
theorem dL_law_237 : decode cL_law 237 = .ok (.iaload, 1) := by decide +kernel
theorem dL_law_238 : decode cL_law 238 = .ok (.istore 7, 2) := by decide +kernel
theorem dL_law_240 : decode cL_law 240 = .ok (.aload_n 2, 1) := by decide +kernel
theorem dL_law_241 : decode cL_law 241 = .ok (.iconst 2, 1) := by decide +kernel
theorem dL_law_242 : decode cL_law 242 = .ok (.iload 6, 2) := by decide +kernel
theorem dL_law_244 : decode cL_law 244 = .ok (.iadd, 1) := by decide +kernel
theorem dL_law_245 : decode cL_law 245 = .ok (.iload 4, 2) := by decide +kernel
theorem dL_law_247 : decode cL_law 247 = .ok (.bipush 8, 2) := by decide +kernel
theorem dL_law_249 : decode cL_law 249 = .ok (.ishr, 1) := by decide +kernel
theorem dL_law_250 : decode cL_law 250 = .ok (.iconst 5, 1) := by decide +kernel
theorem dL_law_251 : decode cL_law 251 = .ok (.invokestatic 60, 3) := by decide +kernel
theorem dL_law_254 : decode cL_law 254 = .ok (.iconst 1, 1) := by decide +kernel
theorem dL_law_255 : decode cL_law 255 = .ok (.isub, 1) := by decide +kernel
theorem dL_law_256 : decode cL_law 256 = .ok (.iastore, 1) := by decide +kernel
theorem dL_law_257 : decode cL_law 257 = .ok (.aload_n 1, 1) := by decide +kernel
theorem dL_law_258 : decode cL_law 258 = .ok (.iload 6, 2) := by decide +kernel
theorem dL_law_260 : decode cL_law 260 = .ok (.aload_n 2, 1) := by decide +kernel
theorem dL_law_261 : decode cL_law 261 = .ok (.iconst 2, 1) := by decide +kernel
theorem dL_law_262 : decode cL_law 262 = .ok (.iload 6, 2) := by decide +kernel
theorem dL_law_264 : decode cL_law 264 = .ok (.iadd, 1) := by decide +kernel
theorem dL_law_265 : decode cL_law 265 = .ok (.iaload, 1) := by decide +kernel
theorem dL_law_266 : decode cL_law 266 = .ok (.invokevirtual 121, 3) := by decide +kernel
theorem dL_law_269 : decode cL_law 269 = .ok (.iload 7, 2) := by decide +kernel
theorem dL_law_271 : decode cL_law 271 = .ok (.if_icmp .ne 7, 3) := by decide +kernel
theorem dL_law_274 : decode cL_law 274 = .ok (.iconst 1, 1) := by decide +kernel
theorem dL_law_275 : decode cL_law 275 = .ok (.goto 4, 3) := by decide +kernel
theorem dL_law_278 : decode cL_law 278 = .ok (.iconst 0, 1) := by decide +kernel
theorem dL_law_279 : decode cL_law 279 = .ok (.istore 5, 2) := by decide +kernel
theorem dL_law_281 : decode cL_law 281 = .ok (.goto 153, 3) := by decide +kernel
theorem dL_law_284 : decode cL_law 284 = .ok (.aload_n 1, 1) := by decide +kernel
theorem dL_law_285 : decode cL_law 285 = .ok (.aload_n 2, 1) := by decide +kernel
theorem dL_law_286 : decode cL_law 286 = .ok (.iload 4, 2) := by decide +kernel
theorem dL_law_288 : decode cL_law 288 = .ok (.iconst 4, 1) := by decide +kernel
theorem dL_law_289 : decode cL_law 289 = .ok (.ishr, 1) := by decide +kernel
theorem dL_law_290 : decode cL_law 290 = .ok (.aload_n 2, 1) := by decide +kernel
theorem dL_law_291 : decode cL_law 291 = .ok (.iconst 0, 1) := by decide +kernel
theorem dL_law_292 : decode cL_law 292 = .ok (.iaload, 1) := by decide +kernel
theorem dL_law_293 : decode cL_law 293 = .ok (.aload_n 2, 1) := by decide +kernel
theorem dL_law_294 : decode cL_law 294 = .ok (.iconst 1, 1) := by decide +kernel
theorem dL_law_295 : decode cL_law 295 = .ok (.iaload, 1) := by decide +kernel
theorem dL_law_296 : decode cL_law 296 = .ok (.imul, 1) := by decide +kernel
theorem dL_law_297 : decode cL_law 297 = .ok (.invokestatic 60, 3) := by decide +kernel
theorem dL_law_300 : decode cL_law 300 = .ok (.invokestatic 144, 3) := by decide +kernel
theorem dL_law_303 : decode cL_law 303 = .ok (.istore 5, 2) := by decide +kernel
theorem dL_law_305 : decode cL_law 305 = .ok (.goto 129, 3) := by decide +kernel
theorem dL_law_308 : decode cL_law 308 = .ok (.iload 4, 2) := by decide +kernel
theorem dL_law_310 : decode cL_law 310 = .ok (.iconst 4, 1) := by decide +kernel
theorem dL_law_311 : decode cL_law 311 = .ok (.ishr, 1) := by decide +kernel
theorem dL_law_312 : decode cL_law 312 = .ok (.iconst 4, 1) := by decide +kernel
theorem dL_law_313 : decode cL_law 313 = .ok (.invokestatic 60, 3) := by decide +kernel
theorem dL_law_316 : decode cL_law 316 = .ok (.ifCond .ne 85, 3) := by decide +kernel
theorem dL_law_319 : decode cL_law 319 = .ok (.aload_n 2, 1) := by decide +kernel
theorem dL_law_320 : decode cL_law 320 = .ok (.invokestatic 19, 3) := by decide +kernel
theorem dL_law_323 : decode cL_law 323 = .ok (.aload_n 2, 1) := by decide +kernel
theorem dL_law_324 : decode cL_law 324 = .ok (.invokestatic 19, 3) := by decide +kernel
theorem dL_law_327 : decode cL_law 327 = .ok (.aload_n 2, 1) := by decide +kernel
theorem dL_law_328 : decode cL_law 328 = .ok (.invokestatic 51, 3) := by decide +kernel
theorem dL_law_331 : decode cL_law 331 = .ok (.isub, 1) := by decide +kernel
theorem dL_law_332 : decode cL_law 332 = .ok (.isub, 1) := by decide +kernel
theorem dL_law_333 : decode cL_law 333 = .ok (.istore 6, 2) := by decide +kernel
theorem dL_law_335 : decode cL_law 335 = .ok (.iconst 0, 1) := by decide +kernel
theorem dL_law_336 : decode cL_law 336 = .ok (.istore 7, 2) := by decide +kernel
theorem dL_law_338 : decode cL_law 338 = .ok (.iload 7, 2) := by decide +kernel
theorem dL_law_340 : decode cL_law 340 = .ok (.aload_n 2, 1) := by decide +kernel
theorem dL_law_341 : decode cL_law 341 = .ok (.invokestatic 19, 3) := by decide +kernel
theorem dL_law_344 : decode cL_law 344 = .ok (.if_icmp .ge 38, 3) := by decide +kernel
theorem dL_law_347 : decode cL_law 347 = .ok (.iload 6, 2) := by decide +kernel
theorem dL_law_349 : decode cL_law 349 = .ok (.aload_n 2, 1) := by decide +kernel
theorem dL_law_350 : decode cL_law 350 = .ok (.bipush 18, 2) := by decide +kernel
theorem dL_law_352 : decode cL_law 352 = .ok (.iload 7, 2) := by decide +kernel
theorem dL_law_354 : decode cL_law 354 = .ok (.iadd, 1) := by decide +kernel
theorem dL_law_355 : decode cL_law 355 = .ok (.iaload, 1) := by decide +kernel
theorem dL_law_356 : decode cL_law 356 = .ok (.iconst 2, 1) := by decide +kernel
theorem dL_law_357 : decode cL_law 357 = .ok (.if_icmp .ne 7, 3) := by decide +kernel
theorem dL_law_360 : decode cL_law 360 = .ok (.iconst 1, 1) := by decide +kernel
theorem dL_law_361 : decode cL_law 361 = .ok (.goto 4, 3) := by decide +kernel
theorem dL_law_364 : decode cL_law 364 = .ok (.iconst 0, 1) := by decide +kernel
theorem dL_law_365 : decode cL_law 365 = .ok (.iadd, 1) := by decide +kernel
theorem dL_law_366 : decode cL_law 366 = .ok (.istore 6, 2) := by decide +kernel
theorem dL_law_368 : decode cL_law 368 = .ok (.aload_n 2, 1) := by decide +kernel
theorem dL_law_369 : decode cL_law 369 = .ok (.bipush 18, 2) := by decide +kernel
theorem dL_law_371 : decode cL_law 371 = .ok (.iload 7, 2) := by decide +kernel
theorem dL_law_373 : decode cL_law 373 = .ok (.iadd, 1) := by decide +kernel
theorem dL_law_374 : decode cL_law 374 = .ok (.iconst 0, 1) := by decide +kernel
theorem dL_law_375 : decode cL_law 375 = .ok (.iastore, 1) := by decide +kernel
theorem dL_law_376 : decode cL_law 376 = .ok (.iinc 7 1, 3) := by decide +kernel
theorem dL_law_379 : decode cL_law 379 = .ok (.goto (-41), 3) := by decide +kernel
theorem dL_law_382 : decode cL_law 382 = .ok (.aload_n 1, 1) := by decide +kernel
theorem dL_law_383 : decode cL_law 383 = .ok (.invokevirtual 124, 3) := by decide +kernel
theorem dL_law_386 : decode cL_law 386 = .ok (.iload 6, 2) := by decide +kernel
theorem dL_law_388 : decode cL_law 388 = .ok (.if_icmp .ne 7, 3) := by decide +kernel
theorem dL_law_391 : decode cL_law 391 = .ok (.iconst 1, 1) := by decide +kernel
theorem dL_law_392 : decode cL_law 392 = .ok (.goto 4, 3) := by decide +kernel
theorem dL_law_395 : decode cL_law 395 = .ok (.iconst 0, 1) := by decide +kernel
theorem dL_law_396 : decode cL_law 396 = .ok (.istore 5, 2) := by decide +kernel
theorem dL_law_398 : decode cL_law 398 = .ok (.goto 36, 3) := by decide +kernel
theorem dL_law_401 : decode cL_law 401 = .ok (.iconst 1, 1) := by decide +kernel
theorem dL_law_402 : decode cL_law 402 = .ok (.istore 5, 2) := by decide +kernel
theorem dL_law_404 : decode cL_law 404 = .ok (.goto 30, 3) := by decide +kernel
theorem dL_law_407 : decode cL_law 407 = .ok (.aload_n 1, 1) := by decide +kernel
theorem dL_law_408 : decode cL_law 408 = .ok (.aload_n 2, 1) := by decide +kernel
theorem dL_law_409 : decode cL_law 409 = .ok (.iload 4, 2) := by decide +kernel
theorem dL_law_411 : decode cL_law 411 = .ok (.iconst 4, 1) := by decide +kernel
theorem dL_law_412 : decode cL_law 412 = .ok (.ishr, 1) := by decide +kernel
theorem dL_law_413 : decode cL_law 413 = .ok (.aload_n 2, 1) := by decide +kernel
theorem dL_law_414 : decode cL_law 414 = .ok (.invokestatic 19, 3) := by decide +kernel
theorem dL_law_417 : decode cL_law 417 = .ok (.invokestatic 60, 3) := by decide +kernel
theorem dL_law_420 : decode cL_law 420 = .ok (.iload 4, 2) := by decide +kernel
theorem dL_law_422 : decode cL_law 422 = .ok (.bipush 10, 2) := by decide +kernel
theorem dL_law_424 : decode cL_law 424 = .ok (.ishr, 1) := by decide +kernel
theorem dL_law_425 : decode cL_law 425 = .ok (.iconst 3, 1) := by decide +kernel
theorem dL_law_426 : decode cL_law 426 = .ok (.invokestatic 60, 3) := by decide +kernel
theorem dL_law_429 : decode cL_law 429 = .ok (.invokestatic 114, 3) := by decide +kernel
theorem dL_law_432 : decode cL_law 432 = .ok (.istore 5, 2) := by decide +kernel
theorem dL_law_434 : decode cL_law 434 = .ok (.iload 5, 2) := by decide +kernel
theorem dL_law_436 : decode cL_law 436 = .ok (.ifCond .eq 19, 3) := by decide +kernel
theorem dL_law_439 : decode cL_law 439 = .ok (.aload_n 1, 1) := by decide +kernel
theorem dL_law_440 : decode cL_law 440 = .ok (.aload_n 2, 1) := by decide +kernel
theorem dL_law_441 : decode cL_law 441 = .ok (.invokestatic 127, 3) := by decide +kernel
theorem dL_law_444 : decode cL_law 444 = .ok (.ifCond .eq 11, 3) := by decide +kernel
theorem dL_law_447 : decode cL_law 447 = .ok (.aload_n 1, 1) := by decide +kernel
theorem dL_law_448 : decode cL_law 448 = .ok (.aload_n 2, 1) := by decide +kernel
theorem dL_law_449 : decode cL_law 449 = .ok (.invokestatic 134, 3) := by decide +kernel
theorem dL_law_452 : decode cL_law 452 = .ok (.ifCond .ne 5, 3) := by decide +kernel
theorem dL_law_455 : decode cL_law 455 = .ok (.iconst 0, 1) := by decide +kernel
theorem dL_law_456 : decode cL_law 456 = .ok (.ireturn, 1) := by decide +kernel
theorem dL_law_457 : decode cL_law 457 = .ok (.iinc 3 1, 3) := by decide +kernel
theorem dL_law_460 : decode cL_law 460 = .ok (.goto (-343), 3) := by decide +kernel
theorem dL_law_463 : decode cL_law 463 = .ok (.aload_n 1, 1) := by decide +kernel
theorem dL_law_464 : decode cL_law 464 = .ok (.bipush 16, 2) := by decide +kernel
theorem dL_law_466 : decode cL_law 466 = .ok (.invokevirtual 71, 3) := by decide +kernel
theorem dL_law_469 : decode cL_law 469 = .ok (.bipush (-2), 2) := by decide +kernel
theorem dL_law_471 : decode cL_law 471 = .ok (.if_icmp .ne 28, 3) := by decide +kernel
theorem dL_law_474 : decode cL_law 474 = .ok (.aload_n 1, 1) := by decide +kernel
theorem dL_law_475 : decode cL_law 475 = .ok (.iconst 4, 1) := by decide +kernel
theorem dL_law_476 : decode cL_law 476 = .ok (.invokevirtual 148, 3) := by decide +kernel
theorem dL_law_479 : decode cL_law 479 = .ok (.bipush (-2), 2) := by decide +kernel
theorem dL_law_481 : decode cL_law 481 = .ok (.if_icmp .ne 18, 3) := by decide +kernel
theorem dL_law_484 : decode cL_law 484 = .ok (.aload_n 1, 1) := by decide +kernel
theorem dL_law_485 : decode cL_law 485 = .ok (.bipush 8, 2) := by decide +kernel
theorem dL_law_487 : decode cL_law 487 = .ok (.invokevirtual 151, 3) := by decide +kernel
theorem dL_law_490 : decode cL_law 490 = .ok (.bipush (-2), 2) := by decide +kernel
theorem dL_law_492 : decode cL_law 492 = .ok (.if_icmp .ne 7, 3) := by decide +kernel
theorem dL_law_495 : decode cL_law 495 = .ok (.iconst 1, 1) := by decide +kernel
theorem dL_law_496 : decode cL_law 496 = .ok (.goto 4, 3) := by decide +kernel
theorem dL_law_499 : decode cL_law 499 = .ok (.iconst 0, 1) := by decide +kernel
theorem dL_law_500 : decode cL_law 500 = .ok (.ireturn, 1) := by decide +kernel
