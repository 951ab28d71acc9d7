theorem dX2_keep_123 : decode cX2_keep 123 = .ok (.iaload, 1) := by decide +kernel
theorem dX2_keep_124 : decode cX2_keep 124 = .ok (.iastore, 1) := by decide +kernel
theorem dX2_keep_125 : decode cX2_keep 125 = .ok (.iinc 5 1, 3) := by decide +kernel
theorem dX2_keep_128 : decode cX2_keep 128 = .ok (.goto (-34), 3) := by decide +kernel
theorem dX2_keep_131 : decode cX2_keep 131 = .ok (.aload_n 0, 1) := by decide +kernel
theorem dX2_keep_132 : decode cX2_keep 132 = .ok (.iload 4, 2) := by decide +kernel
theorem dX2_keep_134 : decode cX2_keep 134 = .ok (.iconst 1, 1) := by decide +kernel
theorem dX2_keep_135 : decode cX2_keep 135 = .ok (.iadd, 1) := by decide +kernel
theorem dX2_keep_136 : decode cX2_keep 136 = .ok (.bipush 8, 2) := by decide +kernel
theorem dX2_keep_138 : decode cX2_keep 138 = .ok (.invokestatic 35, 3) := by decide +kernel
theorem dX2_keep_141 : decode cX2_keep 141 = .ok (.putfield 31, 3) := by decide +kernel
theorem dX2_keep_144 : decode cX2_keep 144 = .ok (.aload_n 0, 1) := by decide +kernel
theorem dX2_keep_145 : decode cX2_keep 145 = .ok (.aload_n 0, 1) := by decide +kernel
theorem dX2_keep_146 : decode cX2_keep 146 = .ok (.getfield 57, 3) := by decide +kernel
theorem dX2_keep_149 : decode cX2_keep 149 = .ok (.iconst 1, 1) := by decide +kernel
theorem dX2_keep_150 : decode cX2_keep 150 = .ok (.iadd, 1) := by decide +kernel
theorem dX2_keep_151 : decode cX2_keep 151 = .ok (.bipush 8, 2) := by decide +kernel
theorem dX2_keep_153 : decode cX2_keep 153 = .ok (.invokestatic 60, 3) := by decide +kernel
theorem dX2_keep_156 : decode cX2_keep 156 = .ok (.putfield 57, 3) := by decide +kernel
theorem dX2_keep_159 : decode cX2_keep 159 = .ok (.return_, 1) := by decide +kernel
theorem dX2_restore_0 : decode cX2_restore 0 = .ok (.aload_n 0, 1) := by decide +kernel
theorem dX2_restore_1 : decode cX2_restore 1 = .ok (.getfield 31, 3) := by decide +kernel
theorem dX2_restore_4 : decode cX2_restore 4 = .ok (.iconst 1, 1) := by decide +kernel
theorem dX2_restore_5 : decode cX2_restore 5 = .ok (.isub, 1) := by decide +kernel
theorem dX2_restore_6 : decode cX2_restore 6 = .ok (.bipush 8, 2) := by decide +kernel
theorem dX2_restore_8 : decode cX2_restore 8 = .ok (.invokestatic 35, 3) := by decide +kernel
theorem dX2_restore_11 : decode cX2_restore 11 = .ok (.istore 4, 2) := by decide +kernel
theorem dX2_restore_13 : decode cX2_restore 13 = .ok (.aload_n 1, 1) := by decide +kernel
theorem dX2_restore_14 : decode cX2_restore 14 = .ok (.aload_n 0, 1) := by decide +kernel
theorem dX2_restore_15 : decode cX2_restore 15 = .ok (.getfield 9, 3) := by decide +kernel
theorem dX2_restore_18 : decode cX2_restore 18 = .ok (.iload 4, 2) := by decide +kernel
theorem dX2_restore_20 : decode cX2_restore 20 = .ok (.iaload, 1) := by decide +kernel
theorem dX2_restore_21 : decode cX2_restore 21 = .ok (.aload_n 0, 1) := by decide +kernel
theorem dX2_restore_22 : decode cX2_restore 22 = .ok (.getfield 15, 3) := by decide +kernel
theorem dX2_restore_25 : decode cX2_restore 25 = .ok (.iload 4, 2) := by decide +kernel
theorem dX2_restore_27 : decode cX2_restore 27 = .ok (.iaload, 1) := by decide +kernel
theorem dX2_restore_28 : decode cX2_restore 28 = .ok (.invokevirtual 63, 3) := by decide +kernel
theorem dX2_restore_31 : decode cX2_restore 31 = .ok (.iconst 0, 1) := by decide +kernel
theorem dX2_restore_32 : decode cX2_restore 32 = .ok (.istore 5, 2) := by decide +kernel
theorem dX2_restore_34 : decode cX2_restore 34 = .ok (.iload 5, 2) := by decide +kernel
theorem dX2_restore_36 : decode cX2_restore 36 = .ok (.bipush 16, 2) := by decide +kernel
theorem dX2_restore_38 : decode cX2_restore 38 = .ok (.if_icmp .ge 29, 3) := by decide +kernel
theorem dX2_restore_41 : decode cX2_restore 41 = .ok (.aload_n 1, 1) := by decide +kernel
theorem dX2_restore_42 : decode cX2_restore 42 = .ok (.getfield 56, 3) := by decide +kernel
theorem dX2_restore_45 : decode cX2_restore 45 = .ok (.iload 5, 2) := by decide +kernel
theorem dX2_restore_47 : decode cX2_restore 47 = .ok (.aload_n 0, 1) := by decide +kernel
theorem dX2_restore_48 : decode cX2_restore 48 = .ok (.getfield 25, 3) := by decide +kernel
theorem dX2_restore_51 : decode cX2_restore 51 = .ok (.iload 4, 2) := by decide +kernel
theorem dX2_restore_53 : decode cX2_restore 53 = .ok (.bipush 16, 2) := by decide +kernel
theorem dX2_restore_55 : decode cX2_restore 55 = .ok (.imul, 1) := by decide +kernel
theorem dX2_restore_56 : decode cX2_restore 56 = .ok (.iload 5, 2) := by decide +kernel
theorem dX2_restore_58 : decode cX2_restore 58 = .ok (.iadd, 1) := by decide +kernel
theorem dX2_restore_59 : decode cX2_restore 59 = .ok (.iaload, 1) := by decide +kernel
theorem dX2_restore_60 : decode cX2_restore 60 = .ok (.iastore, 1) := by decide +kernel
theorem dX2_restore_61 : decode cX2_restore 61 = .ok (.iinc 5 1, 3) := by decide +kernel
theorem dX2_restore_64 : decode cX2_restore 64 = .ok (.goto (-30), 3) := by decide +kernel
theorem dX2_restore_67 : decode cX2_restore 67 = .ok (.iconst 0, 1) := by decide +kernel
theorem dX2_restore_68 : decode cX2_restore 68 = .ok (.istore 5, 2) := by decide +kernel
theorem dX2_restore_70 : decode cX2_restore 70 = .ok (.iload 5, 2) := by decide +kernel
theorem dX2_restore_72 : decode cX2_restore 72 = .ok (.bipush 8, 2) := by decide +kernel
theorem dX2_restore_74 : decode cX2_restore 74 = .ok (.if_icmp .ge 33, 3) := by decide +kernel
theorem dX2_restore_77 : decode cX2_restore 77 = .ok (.iload 5, 2) := by decide +kernel
theorem dX2_restore_79 : decode cX2_restore 79 = .ok (.aload_n 3, 1) := by decide +kernel
theorem dX2_restore_80 : decode cX2_restore 80 = .ok (.arraylength, 1) := by decide +kernel
theorem dX2_restore_81 : decode cX2_restore 81 = .ok (.if_icmp .ge 26, 3) := by decide +kernel
theorem dX2_restore_84 : decode cX2_restore 84 = .ok (.aload_n 3, 1) := by decide +kernel
theorem dX2_restore_85 : decode cX2_restore 85 = .ok (.iload 5, 2) := by decide +kernel
theorem dX2_restore_87 : decode cX2_restore 87 = .ok (.aload_n 0, 1) := by decide +kernel
theorem dX2_restore_88 : decode cX2_restore 88 = .ok (.getfield 28, 3) := by decide +kernel
theorem dX2_restore_91 : decode cX2_restore 91 = .ok (.iload 4, 2) := by decide +kernel
theorem dX2_restore_93 : decode cX2_restore 93 = .ok (.bipush 8, 2) := by decide +kernel
theorem dX2_restore_95 : decode cX2_restore 95 = .ok (.imul, 1) := by decide +kernel
theorem dX2_restore_96 : decode cX2_restore 96 = .ok (.iload 5, 2) := by decide +kernel
theorem dX2_restore_98 : decode cX2_restore 98 = .ok (.iadd, 1) := by decide +kernel
theorem dX2_restore_99 : decode cX2_restore 99 = .ok (.iaload, 1) := by decide +kernel
theorem dX2_restore_100 : decode cX2_restore 100 = .ok (.iastore, 1) := by decide +kernel
theorem dX2_restore_101 : decode cX2_restore 101 = .ok (.iinc 5 1, 3) := by decide +kernel
theorem dX2_restore_104 : decode cX2_restore 104 = .ok (.goto (-34), 3) := by decide +kernel
theorem dX2_restore_107 : decode cX2_restore 107 = .ok (.aload_n 2, 1) := by decide +kernel
theorem dX2_restore_108 : decode cX2_restore 108 = .ok (.aload_n 0, 1) := by decide +kernel
theorem dX2_restore_109 : decode cX2_restore 109 = .ok (.getfield 18, 3) := by decide +kernel
theorem dX2_restore_112 : decode cX2_restore 112 = .ok (.iload 4, 2) := by decide +kernel
theorem dX2_restore_114 : decode cX2_restore 114 = .ok (.laload, 1) := by decide +kernel
theorem dX2_restore_115 : decode cX2_restore 115 = .ok (.aload_n 0, 1) := by decide +kernel
theorem dX2_restore_116 : decode cX2_restore 116 = .ok (.getfield 22, 3) := by decide +kernel
theorem dX2_restore_119 : decode cX2_restore 119 = .ok (.iload 4, 2) := by decide +kernel
theorem dX2_restore_121 : decode cX2_restore 121 = .ok (.laload, 1) := by decide +kernel
theorem dX2_restore_122 : decode cX2_restore 122 = .ok (.invokevirtual 67, 3) := by decide +kernel
theorem dX2_restore_125 : decode cX2_restore 125 = .ok (.aload_n 0, 1) := by decide +kernel
theorem dX2_restore_126 : decode cX2_restore 126 = .ok (.iload 4, 2) := by decide +kernel
theorem dX2_restore_128 : decode cX2_restore 128 = .ok (.putfield 31, 3) := by decide +kernel
theorem dX2_restore_131 : decode cX2_restore 131 = .ok (.aload_n 0, 1) := by decide +kernel
theorem dX2_restore_132 : decode cX2_restore 132 = .ok (.aload_n 0, 1) := by decide +kernel
theorem dX2_restore_133 : decode cX2_restore 133 = .ok (.getfield 57, 3) := by decide +kernel
theorem dX2_restore_136 : decode cX2_restore 136 = .ok (.iconst 1, 1) := by decide +kernel
theorem dX2_restore_137 : decode cX2_restore 137 = .ok (.isub, 1) := by decide +kernel
theorem dX2_restore_138 : decode cX2_restore 138 = .ok (.iconst 0, 1) := by decide +kernel
theorem dX2_restore_139 : decode cX2_restore 139 = .ok (.invokestatic 71, 3) := by decide +kernel
theorem dX2_restore_142 : decode cX2_restore 142 = .ok (.putfield 57, 3) := by decide +kernel
theorem dX2_restore_145 : decode cX2_restore 145 = .ok (.return_, 1) := by decide +kernel
theorem dX3_init_0 : decode cX3_init 0 = .ok (.aload_n 0, 1) := by decide +kernel
theorem dX3_init_1 : decode cX3_init 1 = .ok (.invokespecial 3, 3) := by decide +kernel
theorem dX3_init_4 : decode cX3_init 4 = .ok (.aload_n 0, 1) := by decide +kernel
theorem dX3_init_5 : decode cX3_init 5 = .ok (.bipush 42, 2) := by decide +kernel
theorem dX3_init_7 : decode cX3_init 7 = .ok (.newarray .long, 2) := by decide +kernel
theorem dX3_init_9 : decode cX3_init 9 = .ok (.putfield 9, 3) := by decide +kernel
theorem dX3_init_12 : decode cX3_init 12 = .ok (.aload_n 0, 1) := by decide +kernel
theorem dX3_init_13 : decode cX3_init 13 = .ok (.bipush 42, 2) := by decide +kernel
theorem dX3_init_15 : decode cX3_init 15 = .ok (.newarray .long, 2) := by decide +kernel
theorem dX3_init_17 : decode cX3_init 17 = .ok (.putfield 15, 3) := by decide +kernel
theorem dX3_init_20 : decode cX3_init 20 = .ok (.aload_n 0, 1) := by decide +kernel
theorem dX3_init_21 : decode cX3_init 21 = .ok (.new 18, 3) := by decide +kernel
theorem dX3_init_24 : decode cX3_init 24 = .ok (.dup, 1) := by decide +kernel
theorem dX3_init_25 : decode cX3_init 25 = .ok (.aload_n 1, 1) := by decide +kernel
theorem dX3_init_26 : decode cX3_init 26 = .ok (.invokespecial 20, 3) := by decide +kernel
theorem dX3_init_29 : decode cX3_init 29 = .ok (.putfield 23, 3) := by decide +kernel
theorem dX3_init_32 : decode cX3_init 32 = .ok (.return_, 1) := by decide +kernel
theorem dX4_init_0 : decode cX4_init 0 = .ok (.aload_n 0, 1) := by decide +kernel
theorem dX4_init_1 : decode cX4_init 1 = .ok (.invokespecial 3, 3) := by decide +kernel
theorem dX4_init_4 : decode cX4_init 4 = .ok (.aload_n 0, 1) := by decide +kernel
theorem dX4_init_5 : decode cX4_init 5 = .ok (.aload_n 1, 1) := by decide +kernel
theorem dX4_init_6 : decode cX4_init 6 = .ok (.putfield 9, 3) := by decide +kernel
theorem dX4_init_9 : decode cX4_init 9 = .ok (.aload_n 0, 1) := by decide +kernel
theorem dX4_init_10 : decode cX4_init 10 = .ok (.new 15, 3) := by decide +kernel
theorem dX4_init_13 : decode cX4_init 13 = .ok (.dup, 1) := by decide +kernel
theorem dX4_init_14 : decode cX4_init 14 = .ok (.aload_n 1, 1) := by decide +kernel
theorem dX4_init_15 : decode cX4_init 15 = .ok (.invokespecial 17, 3) := by decide +kernel
theorem dX4_init_18 : decode cX4_init 18 = .ok (.putfield 20, 3) := by decide +kernel
theorem dX4_init_21 : decode cX4_init 21 = .ok (.aload_n 0, 1) := by decide +kernel
theorem dX4_init_22 : decode cX4_init 22 = .ok (.new 15, 3) := by decide +kernel
theorem dX4_init_25 : decode cX4_init 25 = .ok (.dup, 1) := by decide +kernel
theorem dX4_init_26 : decode cX4_init 26 = .ok (.aload_n 1, 1) := by decide +kernel
theorem dX4_init_27 : decode cX4_init 27 = .ok (.invokespecial 17, 3) := by decide +kernel
theorem dX4_init_30 : decode cX4_init 30 = .ok (.putfield 24, 3) := by decide +kernel
theorem dX4_init_33 : decode cX4_init 33 = .ok (.return_, 1) := by decide +kernel
theorem dX4_findNext_0 : decode cX4_findNext 0 = .ok (.aload_n 1, 1) := by decide +kernel
theorem dX4_findNext_1 : decode cX4_findNext 1 = .ok (.iload_n 2, 1) := by decide +kernel
theorem dX4_findNext_2 : decode cX4_findNext 2 = .ok (.invokevirtual 27, 3) := by decide +kernel
theorem dX4_findNext_5 : decode cX4_findNext 5 = .ok (.ifCond .ne 15, 3) := by decide +kernel
theorem dX4_findNext_8 : decode cX4_findNext 8 = .ok (.iload_n 2, 1) := by decide +kernel
theorem dX4_findNext_9 : decode cX4_findNext 9 = .ok (.iconst 5, 1) := by decide +kernel
theorem dX4_findNext_10 : decode cX4_findNext 10 = .ok (.if_icmp .lt 12, 3) := by decide +kernel
theorem dX4_findNext_13 : decode cX4_findNext 13 = .ok (.aload_n 1, 1) := by decide +kernel
theorem dX4_findNext_14 : decode cX4_findNext 14 = .ok (.invokevirtual 31, 3) := by decide +kernel
theorem dX4_findNext_17 : decode cX4_findNext 17 = .ok (.ifCond .eq 5, 3) := by decide +kernel
theorem dX4_findNext_20 : decode cX4_findNext 20 = .ok (.iconst 1, 1) := by decide +kernel
theorem dX4_findNext_21 : decode cX4_findNext 21 = .ok (.ireturn, 1) := by decide +kernel
theorem dX4_findNext_22 : decode cX4_findNext 22 = .ok (.aload_n 1, 1) := by decide +kernel
theorem dX4_findNext_23 : decode cX4_findNext 23 = .ok (.invokevirtual 35, 3) := by decide +kernel
theorem dX4_findNext_26 : decode cX4_findNext 26 = .ok (.ifCond .eq 10, 3) := by decide +kernel
theorem dX4_findNext_29 : decode cX4_findNext 29 = .ok (.aload_n 1, 1) := by decide +kernel
theorem dX4_findNext_30 : decode cX4_findNext 30 = .ok (.getfield 38, 3) := by decide +kernel
theorem dX4_findNext_33 : decode cX4_findNext 33 = .ok (.ifCond .eq 5, 3) := by decide +kernel
theorem dX4_findNext_36 : decode cX4_findNext 36 = .ok (.iconst 0, 1) := by decide +kernel
theorem dX4_findNext_37 : decode cX4_findNext 37 = .ok (.ireturn, 1) := by decide +kernel
theorem dX4_findNext_38 : decode cX4_findNext 38 = .ok (.bipush 6, 2) := by decide +kernel
theorem dX4_findNext_40 : decode cX4_findNext 40 = .ok (.istore_n 3, 1) := by decide +kernel
theorem dX4_findNext_41 : decode cX4_findNext 41 = .ok (.iload_n 3, 1) := by decide +kernel
theorem dX4_findNext_42 : decode cX4_findNext 42 = .ok (.iload_n 2, 1) := by decide +kernel
theorem dX4_findNext_43 : decode cX4_findNext 43 = .ok (.if_icmp .gt 107, 3) := by decide +kernel
theorem dX4_findNext_46 : decode cX4_findNext 46 = .ok (.iload_n 3, 1) := by decide +kernel
theorem dX4_findNext_47 : decode cX4_findNext 47 = .ok (.bipush 7, 2) := by decide +kernel
theorem dX4_findNext_49 : decode cX4_findNext 49 = .ok (.if_icmp .gt 101, 3) := by decide +kernel
theorem dX4_findNext_52 : decode cX4_findNext 52 = .ok (.iload_n 3, 1) := by decide +kernel
theorem dX4_findNext_53 : decode cX4_findNext 53 = .ok (.bipush 6, 2) := by decide +kernel
theorem dX4_findNext_55 : decode cX4_findNext 55 = .ok (.if_icmp .ne 7, 3) := by decide +kernel
theorem dX4_findNext_58 : decode cX4_findNext 58 = .ok (.iconst 1, 1) := by decide +kernel
theorem dX4_findNext_59 : decode cX4_findNext 59 = .ok (.goto 4, 3) := by decide +kernel
theorem dX4_findNext_62 : decode cX4_findNext 62 = .ok (.iconst 2, 1) := by decide +kernel
theorem dX4_findNext_63 : decode cX4_findNext 63 = .ok (.istore 4, 2) := by decide +kernel
theorem dX4_findNext_65 : decode cX4_findNext 65 = .ok (.iconst 0, 1) := by decide +kernel
theorem dX4_findNext_66 : decode cX4_findNext 66 = .ok (.istore 5, 2) := by decide +kernel
theorem dX4_findNext_68 : decode cX4_findNext 68 = .ok (.iload 5, 2) := by decide +kernel
theorem dX4_findNext_70 : decode cX4_findNext 70 = .ok (.aload_n 0, 1) := by decide +kernel
theorem dX4_findNext_71 : decode cX4_findNext 71 = .ok (.getfield 9, 3) := by decide +kernel
theorem dX4_findNext_74 : decode cX4_findNext 74 = .ok (.getfield 42, 3) := by decide +kernel
theorem dX4_findNext_77 : decode cX4_findNext 77 = .ok (.if_icmp .ge 67, 3) := by decide +kernel
theorem dX4_findNext_80 : decode cX4_findNext 80 = .ok (.aload_n 1, 1) := by decide +kernel
theorem dX4_findNext_81 : decode cX4_findNext 81 = .ok (.iload 5, 2) := by decide +kernel
theorem dX4_findNext_83 : decode cX4_findNext 83 = .ok (.invokevirtual 48, 3) := by decide +kernel
theorem dX4_findNext_86 : decode cX4_findNext 86 = .ok (.ifCond .eq 6, 3) := by decide +kernel
theorem dX4_findNext_89 : decode cX4_findNext 89 = .ok (.goto 49, 3) := by decide +kernel
theorem dX4_findNext_92 : decode cX4_findNext 92 = .ok (.aload_n 0, 1) := by decide +kernel
theorem dX4_findNext_93 : decode cX4_findNext 93 = .ok (.getfield 20, 3) := by decide +kernel
theorem dX4_findNext_96 : decode cX4_findNext 96 = .ok (.aload_n 1, 1) := by decide +kernel
theorem dX4_findNext_97 : decode cX4_findNext 97 = .ok (.invokevirtual 52, 3) := by decide +kernel
theorem dX4_findNext_100 : decode cX4_findNext 100 = .ok (.aload_n 0, 1) := by decide +kernel
theorem dX4_findNext_101 : decode cX4_findNext 101 = .ok (.getfield 20, 3) := by decide +kernel
theorem dX4_findNext_104 : decode cX4_findNext 104 = .ok (.iload 5, 2) := by decide +kernel
theorem dX4_findNext_106 : decode cX4_findNext 106 = .ok (.iload 4, 2) := by decide +kernel
theorem dX4_findNext_108 : decode cX4_findNext 108 = .ok (.invokevirtual 56, 3) := by decide +kernel
theorem dX4_findNext_111 : decode cX4_findNext 111 = .ok (.aload_n 0, 1) := by decide +kernel
theorem dX4_findNext_112 : decode cX4_findNext 112 = .ok (.getfield 20, 3) := by decide +kernel
theorem dX4_findNext_115 : decode cX4_findNext 115 = .ok (.invokevirtual 60, 3) := by decide +kernel
theorem dX4_findNext_118 : decode cX4_findNext 118 = .ok (.aload_n 0, 1) := by decide +kernel
theorem dX4_findNext_119 : decode cX4_findNext 119 = .ok (.getfield 20, 3) := by decide +kernel
theorem dX4_findNext_122 : decode cX4_findNext 122 = .ok (.invokevirtual 35, 3) := by decide +kernel
theorem dX4_findNext_125 : decode cX4_findNext 125 = .ok (.ifCond .ne 13, 3) := by decide +kernel
theorem dX4_findNext_128 : decode cX4_findNext 128 = .ok (.aload_n 1, 1) := by decide +kernel
theorem dX4_findNext_129 : decode cX4_findNext 129 = .ok (.iload_n 3, 1) := by decide +kernel
theorem dX4_findNext_130 : decode cX4_findNext 130 = .ok (.iload 5, 2) := by decide +kernel
theorem dX4_findNext_132 : decode cX4_findNext 132 = .ok (.iconst (-1), 1) := by decide +kernel
theorem dX4_findNext_133 : decode cX4_findNext 133 = .ok (.invokevirtual 63, 3) := by decide +kernel
theorem dX4_findNext_136 : decode cX4_findNext 136 = .ok (.iconst 1, 1) := by decide +kernel
theorem dX4_findNext_137 : decode cX4_findNext 137 = .ok (.ireturn, 1) := by decide +kernel
theorem dX4_findNext_138 : decode cX4_findNext 138 = .ok (.iinc 5 1, 3) := by decide +kernel
theorem dX4_findNext_141 : decode cX4_findNext 141 = .ok (.goto (-73), 3) := by decide +kernel
theorem dX4_findNext_144 : decode cX4_findNext 144 = .ok (.iinc 3 1, 3) := by decide +kernel
theorem dX4_findNext_147 : decode cX4_findNext 147 = .ok (.goto (-106), 3) := by decide +kernel
theorem dX4_findNext_150 : decode cX4_findNext 150 = .ok (.iconst 0, 1) := by decide +kernel
theorem dX4_findNext_151 : decode cX4_findNext 151 = .ok (.ireturn, 1) := by decide +kernel
theorem dX5_init_0 : decode cX5_init 0 = .ok (.aload_n 0, 1) := by decide +kernel
theorem dX5_init_1 : decode cX5_init 1 = .ok (.invokespecial 3, 3) := by decide +kernel
theorem dX5_init_4 : decode cX5_init 4 = .ok (.aload_n 0, 1) := by decide +kernel
theorem dX5_init_5 : decode cX5_init 5 = .ok (.bipush 40, 2) := by decide +kernel
theorem dX5_init_7 : decode cX5_init 7 = .ok (.newarray .byte, 2) := by decide +kernel
theorem dX5_init_9 : decode cX5_init 9 = .ok (.putfield 9, 3) := by decide +kernel
theorem dX5_init_12 : decode cX5_init 12 = .ok (.aload_n 0, 1) := by decide +kernel
theorem dX5_init_13 : decode cX5_init 13 = .ok (.bipush 16, 2) := by decide +kernel
theorem dX5_init_15 : decode cX5_init 15 = .ok (.newarray .int, 2) := by decide +kernel
theorem dX5_init_17 : decode cX5_init 17 = .ok (.putfield 15, 3) := by decide +kernel
theorem dX5_init_20 : decode cX5_init 20 = .ok (.return_, 1) := by decide +kernel
theorem dX5_append_0 : decode cX5_append 0 = .ok (.aload_n 0, 1) := by decide +kernel
theorem dX5_append_1 : decode cX5_append 1 = .ok (.getfield 19, 3) := by decide +kernel
theorem dX5_append_4 : decode cX5_append 4 = .ok (.ifCond .lt 12, 3) := by decide +kernel
theorem dX5_append_7 : decode cX5_append 7 = .ok (.aload_n 0, 1) := by decide +kernel
theorem dX5_append_8 : decode cX5_append 8 = .ok (.getfield 19, 3) := by decide +kernel
theorem dX5_append_11 : decode cX5_append 11 = .ok (.bipush 40, 2) := by decide +kernel
theorem dX5_append_13 : decode cX5_append 13 = .ok (.if_icmp .lt 6, 3) := by decide +kernel
theorem dX5_append_16 : decode cX5_append 16 = .ok (.bipush (-4), 2) := by decide +kernel
theorem dX5_append_18 : decode cX5_append 18 = .ok (.ireturn, 1) := by decide +kernel
theorem dX5_append_19 : decode cX5_append 19 = .ok (.aload_n 0, 1) := by decide +kernel
theorem dX5_append_20 : decode cX5_append 20 = .ok (.getfield 9, 3) := by decide +kernel
theorem dX5_append_23 : decode cX5_append 23 = .ok (.aload_n 0, 1) := by decide +kernel
theorem dX5_append_24 : decode cX5_append 24 = .ok (.getfield 19, 3) := by decide +kernel
theorem dX5_append_27 : decode cX5_append 27 = .ok (.iload_n 1, 1) := by decide +kernel
theorem dX5_append_28 : decode cX5_append 28 = .ok (.i2b, 1) := by decide +kernel
theorem dX5_append_29 : decode cX5_append 29 = .ok (.bastore, 1) := by decide +kernel
theorem dX5_append_30 : decode cX5_append 30 = .ok (.aload_n 0, 1) := by decide +kernel
theorem dX5_append_31 : decode cX5_append 31 = .ok (.dup, 1) := by decide +kernel
theorem dX5_append_32 : decode cX5_append 32 = .ok (.getfield 19, 3) := by decide +kernel
theorem dX5_append_35 : decode cX5_append 35 = .ok (.iconst 1, 1) := by decide +kernel
theorem dX5_append_36 : decode cX5_append 36 = .ok (.iadd, 1) := by decide +kernel
theorem dX5_append_37 : decode cX5_append 37 = .ok (.putfield 19, 3) := by decide +kernel
theorem dX5_append_40 : decode cX5_append 40 = .ok (.aload_n 0, 1) := by decide +kernel
theorem dX5_append_41 : decode cX5_append 41 = .ok (.getfield 19, 3) := by decide +kernel
theorem dX5_append_44 : decode cX5_append 44 = .ok (.ireturn, 1) := by decide +kernel
theorem dX5_read_0 : decode cX5_read 0 = .ok (.aload_n 0, 1) := by decide +kernel
theorem dX5_read_1 : decode cX5_read 1 = .ok (.iconst 4, 1) := by decide +kernel
theorem dX5_read_2 : decode cX5_read 2 = .ok (.putfield 23, 3) := by decide +kernel
theorem dX5_read_5 : decode cX5_read 5 = .ok (.aload_n 0, 1) := by decide +kernel
theorem dX5_read_6 : decode cX5_read 6 = .ok (.iconst 1, 1) := by decide +kernel
theorem dX5_read_7 : decode cX5_read 7 = .ok (.putfield 26, 3) := by decide +kernel
theorem dX5_read_10 : decode cX5_read 10 = .ok (.aload_n 0, 1) := by decide +kernel
theorem dX5_read_11 : decode cX5_read 11 = .ok (.iconst 0, 1) := by decide +kernel
theorem dX5_read_12 : decode cX5_read 12 = .ok (.putfield 29, 3) := by decide +kernel
theorem dX5_read_15 : decode cX5_read 15 = .ok (.iconst 0, 1) := by decide +kernel
theorem dX5_read_16 : decode cX5_read 16 = .ok (.istore_n 1, 1) := by decide +kernel
theorem dX5_read_17 : decode cX5_read 17 = .ok (.iload_n 1, 1) := by decide +kernel
theorem dX5_read_18 : decode cX5_read 18 = .ok (.aload_n 0, 1) := by decide +kernel
theorem dX5_read_19 : decode cX5_read 19 = .ok (.getfield 19, 3) := by decide +kernel
theorem dX5_read_22 : decode cX5_read 22 = .ok (.if_icmp .ge 64, 3) := by decide +kernel
theorem dX5_read_25 : decode cX5_read 25 = .ok (.iload_n 1, 1) := by decide +kernel
theorem dX5_read_26 : decode cX5_read 26 = .ok (.bipush 40, 2) := by decide +kernel
theorem dX5_read_28 : decode cX5_read 28 = .ok (.if_icmp .ge 58, 3) := by decide +kernel
theorem dX5_read_31 : decode cX5_read 31 = .ok (.aload_n 0, 1) := by decide +kernel
theorem dX5_read_32 : decode cX5_read 32 = .ok (.getfield 9, 3) := by decide +kernel
theorem dX5_read_35 : decode cX5_read 35 = .ok (.iload_n 1, 1) := by decide +kernel
theorem dX5_read_36 : decode cX5_read 36 = .ok (.baload, 1) := by decide +kernel
theorem dX5_read_37 : decode cX5_read 37 = .ok (.istore_n 2, 1) := by decide +kernel
theorem dX5_read_38 : decode cX5_read 38 = .ok (.iload_n 2, 1) := by decide +kernel
theorem dX5_read_39 : decode cX5_read 39 = .ok (.bipush 32, 2) := by decide +kernel
theorem dX5_read_41 : decode cX5_read 41 = .ok (.if_icmp .eq 27, 3) := by decide +kernel
theorem dX5_read_44 : decode cX5_read 44 = .ok (.iload_n 2, 1) := by decide +kernel
theorem dX5_read_45 : decode cX5_read 45 = .ok (.bipush 47, 2) := by decide +kernel
theorem dX5_read_47 : decode cX5_read 47 = .ok (.if_icmp .ne 13, 3) := by decide +kernel
theorem dX5_read_50 : decode cX5_read 50 = .ok (.aload_n 0, 1) := by decide +kernel
theorem dX5_read_51 : decode cX5_read 51 = .ok (.invokevirtual 32, 3) := by decide +kernel
theorem dX5_read_54 : decode cX5_read 54 = .ok (.ifCond .eq 18, 3) := by decide +kernel
theorem dX5_read_57 : decode cX5_read 57 = .ok (.goto 11, 3) := by decide +kernel
theorem dX5_read_60 : decode cX5_read 60 = .ok (.aload_n 0, 1) := by decide +kernel
theorem dX5_read_61 : decode cX5_read 61 = .ok (.iload_n 2, 1) := by decide +kernel
theorem dX5_read_62 : decode cX5_read 62 = .ok (.invokevirtual 36, 3) := by decide +kernel
theorem dX5_read_65 : decode cX5_read 65 = .ok (.ifCond .eq 7, 3) := by decide +kernel
theorem dX5_read_68 : decode cX5_read 68 = .ok (.iconst 1, 1) := by decide +kernel
theorem dX5_read_69 : decode cX5_read 69 = .ok (.goto 4, 3) := by decide +kernel
theorem dX5_read_72 : decode cX5_read 72 = .ok (.iconst 0, 1) := by decide +kernel
theorem dX5_read_73 : decode cX5_read 73 = .ok (.istore_n 3, 1) := by decide +kernel
theorem dX5_read_74 : decode cX5_read 74 = .ok (.iload_n 3, 1) := by decide +kernel
theorem dX5_read_75 : decode cX5_read 75 = .ok (.ifCond .ne 5, 3) := by decide +kernel
theorem dX5_read_78 : decode cX5_read 78 = .ok (.iload_n 1, 1) := by decide +kernel
theorem dX5_read_79 : decode cX5_read 79 = .ok (.ireturn, 1) := by decide +kernel
theorem dX5_read_80 : decode cX5_read 80 = .ok (.iinc 1 1, 3) := by decide +kernel
theorem dX5_read_83 : decode cX5_read 83 = .ok (.goto (-66), 3) := by decide +kernel
theorem dX5_read_86 : decode cX5_read 86 = .ok (.aload_n 0, 1) := by decide +kernel
theorem dX5_read_87 : decode cX5_read 87 = .ok (.invokevirtual 40, 3) := by decide +kernel
theorem dX5_read_90 : decode cX5_read 90 = .ok (.ifCond .ne 8, 3) := by decide +kernel
theorem dX5_read_93 : decode cX5_read 93 = .ok (.aload_n 0, 1) := by decide +kernel
theorem dX5_read_94 : decode cX5_read 94 = .ok (.getfield 19, 3) := by decide +kernel
theorem dX5_read_97 : decode cX5_read 97 = .ok (.ireturn, 1) := by decide +kernel
theorem dX5_read_98 : decode cX5_read 98 = .ok (.aload_n 0, 1) := by decide +kernel
theorem dX5_read_99 : decode cX5_read 99 = .ok (.aload_n 0, 1) := by decide +kernel
theorem dX5_read_100 : decode cX5_read 100 = .ok (.getfield 29, 3) := by decide +kernel
theorem dX5_read_103 : decode cX5_read 103 = .ok (.putfield 23, 3) := by decide +kernel
theorem dX5_read_106 : decode cX5_read 106 = .ok (.iconst (-1), 1) := by decide +kernel
theorem dX5_read_107 : decode cX5_read 107 = .ok (.ireturn, 1) := by decide +kernel
theorem dX5_beginRow_0 : decode cX5_beginRow 0 = .ok (.aload_n 0, 1) := by decide +kernel
theorem dX5_beginRow_1 : decode cX5_beginRow 1 = .ok (.invokevirtual 40, 3) := by decide +kernel
theorem dX5_beginRow_4 : decode cX5_beginRow 4 = .ok (.ifCond .eq 11, 3) := by decide +kernel
theorem dX5_beginRow_7 : decode cX5_beginRow 7 = .ok (.aload_n 0, 1) := by decide +kernel
theorem dX5_beginRow_8 : decode cX5_beginRow 8 = .ok (.getfield 26, 3) := by decide +kernel
theorem dX5_beginRow_11 : decode cX5_beginRow 11 = .ok (.iconst 4, 1) := by decide +kernel
theorem dX5_beginRow_12 : decode cX5_beginRow 12 = .ok (.if_icmp .ne 5, 3) := by decide +kernel
theorem dX5_beginRow_15 : decode cX5_beginRow 15 = .ok (.iconst 0, 1) := by decide +kernel
theorem dX5_beginRow_16 : decode cX5_beginRow 16 = .ok (.ireturn, 1) := by decide +kernel
theorem dX5_beginRow_17 : decode cX5_beginRow 17 = .ok (.aload_n 0, 1) := by decide +kernel
theorem dX5_beginRow_18 : decode cX5_beginRow 18 = .ok (.aload_n 0, 1) := by decide +kernel
theorem dX5_beginRow_19 : decode cX5_beginRow 19 = .ok (.getfield 29, 3) := by decide +kernel
theorem dX5_beginRow_22 : decode cX5_beginRow 22 = .ok (.putfield 23, 3) := by decide +kernel
theorem dX5_beginRow_25 : decode cX5_beginRow 25 = .ok (.aload_n 0, 1) := by decide +kernel
theorem dX5_beginRow_26 : decode cX5_beginRow 26 = .ok (.dup, 1) := by decide +kernel
theorem dX5_beginRow_27 : decode cX5_beginRow 27 = .ok (.getfield 26, 3) := by decide +kernel
theorem dX5_beginRow_30 : decode cX5_beginRow 30 = .ok (.iconst 1, 1) := by decide +kernel
theorem dX5_beginRow_31 : decode cX5_beginRow 31 = .ok (.iadd, 1) := by decide +kernel
theorem dX5_beginRow_32 : decode cX5_beginRow 32 = .ok (.putfield 26, 3) := by decide +kernel
theorem dX5_beginRow_35 : decode cX5_beginRow 35 = .ok (.aload_n 0, 1) := by decide +kernel
theorem dX5_beginRow_36 : decode cX5_beginRow 36 = .ok (.iconst 0, 1) := by decide +kernel
theorem dX5_beginRow_37 : decode cX5_beginRow 37 = .ok (.putfield 29, 3) := by decide +kernel
theorem dX5_beginRow_40 : decode cX5_beginRow 40 = .ok (.iconst 1, 1) := by decide +kernel
theorem dX5_beginRow_41 : decode cX5_beginRow 41 = .ok (.ireturn, 1) := by decide +kernel
theorem dX5_addCell_0 : decode cX5_addCell 0 = .ok (.aload_n 0, 1) := by decide +kernel
theorem dX5_addCell_1 : decode cX5_addCell 1 = .ok (.getfield 26, 3) := by decide +kernel
theorem dX5_addCell_4 : decode cX5_addCell 4 = .ok (.iconst 1, 1) := by decide +kernel
theorem dX5_addCell_5 : decode cX5_addCell 5 = .ok (.isub, 1) := by decide +kernel
theorem dX5_addCell_6 : decode cX5_addCell 6 = .ok (.aload_n 0, 1) := by decide +kernel
theorem dX5_addCell_7 : decode cX5_addCell 7 = .ok (.getfield 23, 3) := by decide +kernel
theorem dX5_addCell_10 : decode cX5_addCell 10 = .ok (.imul, 1) := by decide +kernel
theorem dX5_addCell_11 : decode cX5_addCell 11 = .ok (.aload_n 0, 1) := by decide +kernel
theorem dX5_addCell_12 : decode cX5_addCell 12 = .ok (.getfield 29, 3) := by decide +kernel
theorem dX5_addCell_15 : decode cX5_addCell 15 = .ok (.iadd, 1) := by decide +kernel
theorem dX5_addCell_16 : decode cX5_addCell 16 = .ok (.istore_n 2, 1) := by decide +kernel
theorem dX5_addCell_17 : decode cX5_addCell 17 = .ok (.iload_n 1, 1) := by decide +kernel
theorem dX5_addCell_18 : decode cX5_addCell 18 = .ok (.invokestatic 43, 3) := by decide +kernel
theorem dX5_addCell_21 : decode cX5_addCell 21 = .ok (.ifCond .eq 24, 3) := by decide +kernel
theorem dX5_addCell_24 : decode cX5_addCell 24 = .ok (.aload_n 0, 1) := by decide +kernel
theorem dX5_addCell_25 : decode cX5_addCell 25 = .ok (.getfield 29, 3) := by decide +kernel
theorem dX5_addCell_28 : decode cX5_addCell 28 = .ok (.aload_n 0, 1) := by decide +kernel
theorem dX5_addCell_29 : decode cX5_addCell 29 = .ok (.getfield 23, 3) := by decide +kernel
theorem dX5_addCell_32 : decode cX5_addCell 32 = .ok (.if_icmp .ge 13, 3) := by decide +kernel
theorem dX5_addCell_35 : decode cX5_addCell 35 = .ok (.iload_n 2, 1) := by decide +kernel
theorem dX5_addCell_36 : decode cX5_addCell 36 = .ok (.ifCond .lt 9, 3) := by decide +kernel
theorem dX5_addCell_39 : decode cX5_addCell 39 = .ok (.iload_n 2, 1) := by decide +kernel
theorem dX5_addCell_40 : decode cX5_addCell 40 = .ok (.bipush 16, 2) := by decide +kernel
theorem dX5_addCell_42 : decode cX5_addCell 42 = .ok (.if_icmp .lt 5, 3) := by decide +kernel
theorem dX5_addCell_45 : decode cX5_addCell 45 = .ok (.iconst 0, 1) := by decide +kernel
theorem dX5_addCell_46 : decode cX5_addCell 46 = .ok (.ireturn, 1) := by decide +kernel
theorem dX5_addCell_47 : decode cX5_addCell 47 = .ok (.aload_n 0, 1) := by decide +kernel
theorem dX5_addCell_48 : decode cX5_addCell 48 = .ok (.getfield 15, 3) := by decide +kernel
theorem dX5_addCell_51 : decode cX5_addCell 51 = .ok (.iload_n 2, 1) := by decide +kernel
theorem dX5_addCell_52 : decode cX5_addCell 52 = .ok (.iload_n 1, 1) := by decide +kernel
theorem dX5_addCell_53 : decode cX5_addCell 53 = .ok (.bipush 46, 2) := by decide +kernel
theorem dX5_addCell_55 : decode cX5_addCell 55 = .ok (.if_icmp .ne 7, 3) := by decide +kernel
theorem dX5_addCell_58 : decode cX5_addCell 58 = .ok (.iconst (-1), 1) := by decide +kernel
theorem dX5_addCell_59 : decode cX5_addCell 59 = .ok (.goto 7, 3) := by decide +kernel
theorem dX5_addCell_62 : decode cX5_addCell 62 = .ok (.iload_n 1, 1) := by decide +kernel
theorem dX5_addCell_63 : decode cX5_addCell 63 = .ok (.bipush 48, 2) := by decide +kernel
theorem dX5_addCell_65 : decode cX5_addCell 65 = .ok (.isub, 1) := by decide +kernel
theorem dX5_addCell_66 : decode cX5_addCell 66 = .ok (.iastore, 1) := by decide +kernel
theorem dX5_addCell_67 : decode cX5_addCell 67 = .ok (.aload_n 0, 1) := by decide +kernel
theorem dX5_addCell_68 : decode cX5_addCell 68 = .ok (.dup, 1) := by decide +kernel
theorem dX5_addCell_69 : decode cX5_addCell 69 = .ok (.getfield 29, 3) := by decide +kernel
theorem dX5_addCell_72 : decode cX5_addCell 72 = .ok (.iconst 1, 1) := by decide +kernel
theorem dX5_addCell_73 : decode cX5_addCell 73 = .ok (.iadd, 1) := by decide +kernel
theorem dX5_addCell_74 : decode cX5_addCell 74 = .ok (.putfield 29, 3) := by decide +kernel
theorem dX5_addCell_77 : decode cX5_addCell 77 = .ok (.iconst 1, 1) := by decide +kernel
theorem dX5_addCell_78 : decode cX5_addCell 78 = .ok (.ireturn, 1) := by decide +kernel
theorem dX5_rowIsWhole_0 : decode cX5_rowIsWhole 0 = .ok (.aload_n 0, 1) := by decide +kernel
theorem dX5_rowIsWhole_1 : decode cX5_rowIsWhole 1 = .ok (.getfield 26, 3) := by decide +kernel
theorem dX5_rowIsWhole_4 : decode cX5_rowIsWhole 4 = .ok (.iconst 1, 1) := by decide +kernel
theorem dX5_rowIsWhole_5 : decode cX5_rowIsWhole 5 = .ok (.if_icmp .ne 18, 3) := by decide +kernel
theorem dX5_rowIsWhole_8 : decode cX5_rowIsWhole 8 = .ok (.aload_n 0, 1) := by decide +kernel
theorem dX5_rowIsWhole_9 : decode cX5_rowIsWhole 9 = .ok (.getfield 29, 3) := by decide +kernel
theorem dX5_rowIsWhole_12 : decode cX5_rowIsWhole 12 = .ok (.ifCond .le 7, 3) := by decide +kernel
theorem dX5_rowIsWhole_15 : decode cX5_rowIsWhole 15 = .ok (.iconst 1, 1) := by decide +kernel
theorem dX5_rowIsWhole_16 : decode cX5_rowIsWhole 16 = .ok (.goto 23, 3) := by decide +kernel
theorem dX5_rowIsWhole_19 : decode cX5_rowIsWhole 19 = .ok (.iconst 0, 1) := by decide +kernel
theorem dX5_rowIsWhole_20 : decode cX5_rowIsWhole 20 = .ok (.goto 19, 3) := by decide +kernel
theorem dX5_rowIsWhole_23 : decode cX5_rowIsWhole 23 = .ok (.aload_n 0, 1) := by decide +kernel
theorem dX5_rowIsWhole_24 : decode cX5_rowIsWhole 24 = .ok (.getfield 29, 3) := by decide +kernel
theorem dX5_rowIsWhole_27 : decode cX5_rowIsWhole 27 = .ok (.aload_n 0, 1) := by decide +kernel
theorem dX5_rowIsWhole_28 : decode cX5_rowIsWhole 28 = .ok (.getfield 23, 3) := by decide +kernel
theorem dX5_rowIsWhole_31 : decode cX5_rowIsWhole 31 = .ok (.if_icmp .ne 7, 3) := by decide +kernel
theorem dX5_rowIsWhole_34 : decode cX5_rowIsWhole 34 = .ok (.iconst 1, 1) := by decide +kernel
theorem dX5_rowIsWhole_35 : decode cX5_rowIsWhole 35 = .ok (.goto 4, 3) := by decide +kernel
theorem dX5_rowIsWhole_38 : decode cX5_rowIsWhole 38 = .ok (.iconst 0, 1) := by decide +kernel
theorem dX5_rowIsWhole_39 : decode cX5_rowIsWhole 39 = .ok (.ireturn, 1) := by decide +kernel
theorem dX5_isCell_0 : decode cX5_isCell 0 = .ok (.iload_n 0, 1) := by decide +kernel
theorem dX5_isCell_1 : decode cX5_isCell 1 = .ok (.bipush 46, 2) := by decide +kernel
theorem dX5_isCell_3 : decode cX5_isCell 3 = .ok (.if_icmp .eq 15, 3) := by decide +kernel
theorem dX5_isCell_6 : decode cX5_isCell 6 = .ok (.iload_n 0, 1) := by decide +kernel
theorem dX5_isCell_7 : decode cX5_isCell 7 = .ok (.bipush 48, 2) := by decide +kernel
theorem dX5_isCell_9 : decode cX5_isCell 9 = .ok (.if_icmp .lt 13, 3) := by decide +kernel
theorem dX5_isCell_12 : decode cX5_isCell 12 = .ok (.iload_n 0, 1) := by decide +kernel
theorem dX5_isCell_13 : decode cX5_isCell 13 = .ok (.bipush 51, 2) := by decide +kernel
theorem dX5_isCell_15 : decode cX5_isCell 15 = .ok (.if_icmp .gt 7, 3) := by decide +kernel
theorem dX5_isCell_18 : decode cX5_isCell 18 = .ok (.iconst 1, 1) := by decide +kernel
theorem dX5_isCell_19 : decode cX5_isCell 19 = .ok (.goto 4, 3) := by decide +kernel
theorem dX5_isCell_22 : decode cX5_isCell 22 = .ok (.iconst 0, 1) := by decide +kernel
theorem dX5_isCell_23 : decode cX5_isCell 23 = .ok (.ireturn, 1) := by decide +kernel
theorem dX6_init_0 : decode cX6_init 0 = .ok (.aload_n 0, 1) := by decide +kernel
theorem dX6_init_1 : decode cX6_init 1 = .ok (.invokespecial 1, 3) := by decide +kernel
theorem dX6_init_4 : decode cX6_init 4 = .ok (.new 7, 3) := by decide +kernel
theorem dX6_init_7 : decode cX6_init 7 = .ok (.dup, 1) := by decide +kernel
theorem dX6_init_8 : decode cX6_init 8 = .ok (.invokespecial 9, 3) := by decide +kernel
theorem dX6_init_11 : decode cX6_init 11 = .ok (.astore_n 1, 1) := by decide +kernel
theorem dX6_init_12 : decode cX6_init 12 = .ok (.aload_n 1, 1) := by decide +kernel
theorem dX6_init_13 : decode cX6_init 13 = .ok (.iconst 3, 1) := by decide +kernel
theorem dX6_init_14 : decode cX6_init 14 = .ok (.iconst 3, 1) := by decide +kernel
theorem dX6_init_15 : decode cX6_init 15 = .ok (.invokevirtual 10, 3) := by decide +kernel
theorem dX6_init_18 : decode cX6_init 18 = .ok (.new 14, 3) := by decide +kernel
theorem dX6_init_21 : decode cX6_init 21 = .ok (.dup, 1) := by decide +kernel
theorem dX6_init_22 : decode cX6_init 22 = .ok (.aload_n 1, 1) := by decide +kernel
theorem dX6_init_23 : decode cX6_init 23 = .ok (.invokespecial 16, 3) := by decide +kernel
theorem dX6_init_26 : decode cX6_init 26 = .ok (.astore_n 2, 1) := by decide +kernel
theorem dX6_init_27 : decode cX6_init 27 = .ok (.aload_n 2, 1) := by decide +kernel
theorem dX6_init_28 : decode cX6_init 28 = .ok (.lconst 0, 1) := by decide +kernel
theorem dX6_init_29 : decode cX6_init 29 = .ok (.aload_n 1, 1) := by decide +kernel
theorem dX6_init_30 : decode cX6_init 30 = .ok (.invokevirtual 19, 3) := by decide +kernel
theorem dX6_init_33 : decode cX6_init 33 = .ok (.invokevirtual 23, 3) := by decide +kernel
theorem dX6_init_36 : decode cX6_init 36 = .ok (.aload_n 0, 1) := by decide +kernel
theorem dX6_init_37 : decode cX6_init 37 = .ok (.aload_n 1, 1) := by decide +kernel
theorem dX6_init_38 : decode cX6_init 38 = .ok (.putfield 27, 3) := by decide +kernel
theorem dX6_init_41 : decode cX6_init 41 = .ok (.aload_n 0, 1) := by decide +kernel
theorem dX6_init_42 : decode cX6_init 42 = .ok (.aload_n 2, 1) := by decide +kernel
theorem dX6_init_43 : decode cX6_init 43 = .ok (.putfield 33, 3) := by decide +kernel
theorem dX6_init_46 : decode cX6_init 46 = .ok (.aload_n 0, 1) := by decide +kernel
theorem dX6_init_47 : decode cX6_init 47 = .ok (.new 37, 3) := by decide +kernel
theorem dX6_init_50 : decode cX6_init 50 = .ok (.dup, 1) := by decide +kernel
theorem dX6_init_51 : decode cX6_init 51 = .ok (.aload_n 1, 1) := by decide +kernel
theorem dX6_init_52 : decode cX6_init 52 = .ok (.invokespecial 39, 3) := by decide +kernel
theorem dX6_init_55 : decode cX6_init 55 = .ok (.putfield 40, 3) := by decide +kernel
theorem dX6_init_58 : decode cX6_init 58 = .ok (.aload_n 0, 1) := by decide +kernel
theorem dX6_init_59 : decode cX6_init 59 = .ok (.new 44, 3) := by decide +kernel
theorem dX6_init_62 : decode cX6_init 62 = .ok (.dup, 1) := by decide +kernel
theorem dX6_init_63 : decode cX6_init 63 = .ok (.aload_n 1, 1) := by decide +kernel
theorem dX6_init_64 : decode cX6_init 64 = .ok (.invokespecial 46, 3) := by decide +kernel
theorem dX6_init_67 : decode cX6_init 67 = .ok (.putfield 47, 3) := by decide +kernel
theorem dX6_init_70 : decode cX6_init 70 = .ok (.aload_n 0, 1) := by decide +kernel
theorem dX6_init_71 : decode cX6_init 71 = .ok (.new 51, 3) := by decide +kernel
theorem dX6_init_74 : decode cX6_init 74 = .ok (.dup, 1) := by decide +kernel
theorem dX6_init_75 : decode cX6_init 75 = .ok (.invokespecial 53, 3) := by decide +kernel
theorem dX6_init_78 : decode cX6_init 78 = .ok (.putfield 54, 3) := by decide +kernel
theorem dX6_init_81 : decode cX6_init 81 = .ok (.aload_n 0, 1) := by decide +kernel
theorem dX6_init_82 : decode cX6_init 82 = .ok (.new 58, 3) := by decide +kernel
theorem dX6_init_85 : decode cX6_init 85 = .ok (.dup, 1) := by decide +kernel
theorem dX6_init_86 : decode cX6_init 86 = .ok (.invokespecial 60, 3) := by decide +kernel
theorem dX6_init_89 : decode cX6_init 89 = .ok (.putfield 61, 3) := by decide +kernel
theorem dX6_init_92 : decode cX6_init 92 = .ok (.aload_n 0, 1) := by decide +kernel
theorem dX6_init_93 : decode cX6_init 93 = .ok (.bipush 8, 2) := by decide +kernel
theorem dX6_init_95 : decode cX6_init 95 = .ok (.newarray .int, 2) := by decide +kernel
theorem dX6_init_97 : decode cX6_init 97 = .ok (.putfield 65, 3) := by decide +kernel
theorem dX6_init_100 : decode cX6_init 100 = .ok (.return_, 1) := by decide +kernel
theorem dX6_type_0 : decode cX6_type 0 = .ok (.iload_n 1, 1) := by decide +kernel
theorem dX6_type_1 : decode cX6_type 1 = .ok (.ifCond .lt 9, 3) := by decide +kernel
theorem dX6_type_4 : decode cX6_type 4 = .ok (.iload_n 1, 1) := by decide +kernel
theorem dX6_type_5 : decode cX6_type 5 = .ok (.bipush 127, 2) := by decide +kernel
theorem dX6_type_7 : decode cX6_type 7 = .ok (.if_icmp .le 6, 3) := by decide +kernel
theorem dX6_type_10 : decode cX6_type 10 = .ok (.bipush (-2), 2) := by decide +kernel
theorem dX6_type_12 : decode cX6_type 12 = .ok (.ireturn, 1) := by decide +kernel
theorem dX6_type_13 : decode cX6_type 13 = .ok (.aload_n 0, 1) := by decide +kernel
theorem dX6_type_14 : decode cX6_type 14 = .ok (.getfield 61, 3) := by decide +kernel
theorem dX6_type_17 : decode cX6_type 17 = .ok (.iload_n 1, 1) := by decide +kernel
theorem dX6_type_18 : decode cX6_type 18 = .ok (.invokevirtual 69, 3) := by decide +kernel
theorem dX6_type_21 : decode cX6_type 21 = .ok (.ireturn, 1) := by decide +kernel
theorem dX6_clearText_0 : decode cX6_clearText 0 = .ok (.aload_n 0, 1) := by decide +kernel
theorem dX6_clearText_1 : decode cX6_clearText 1 = .ok (.getfield 61, 3) := by decide +kernel
theorem dX6_clearText_4 : decode cX6_clearText 4 = .ok (.getfield 73, 3) := by decide +kernel
theorem dX6_clearText_7 : decode cX6_clearText 7 = .ok (.istore_n 1, 1) := by decide +kernel
theorem dX6_clearText_8 : decode cX6_clearText 8 = .ok (.aload_n 0, 1) := by decide +kernel
theorem dX6_clearText_9 : decode cX6_clearText 9 = .ok (.getfield 61, 3) := by decide +kernel
theorem dX6_clearText_12 : decode cX6_clearText 12 = .ok (.iconst 0, 1) := by decide +kernel
theorem dX6_clearText_13 : decode cX6_clearText 13 = .ok (.putfield 73, 3) := by decide +kernel
theorem dX6_clearText_16 : decode cX6_clearText 16 = .ok (.iload_n 1, 1) := by decide +kernel
theorem dX6_clearText_17 : decode cX6_clearText 17 = .ok (.ireturn, 1) := by decide +kernel
theorem dX6_fault_0 : decode cX6_fault 0 = .ok (.aload_n 0, 1) := by decide +kernel
theorem dX6_fault_1 : decode cX6_fault 1 = .ok (.getfield 61, 3) := by decide +kernel
theorem dX6_fault_4 : decode cX6_fault 4 = .ok (.invokevirtual 77, 3) := by decide +kernel
theorem dX6_fault_7 : decode cX6_fault 7 = .ok (.ireturn, 1) := by decide +kernel
theorem dX6_setPuzzle_0 : decode cX6_setPuzzle 0 = .ok (.aload_n 0, 1) := by decide +kernel
theorem dX6_setPuzzle_1 : decode cX6_setPuzzle 1 = .ok (.getfield 61, 3) := by decide +kernel
theorem dX6_setPuzzle_4 : decode cX6_setPuzzle 4 = .ok (.invokevirtual 77, 3) := by decide +kernel
theorem dX6_setPuzzle_7 : decode cX6_setPuzzle 7 = .ok (.iconst (-1), 1) := by decide +kernel
theorem dX6_setPuzzle_8 : decode cX6_setPuzzle 8 = .ok (.if_icmp .eq 6, 3) := by decide +kernel
theorem dX6_setPuzzle_11 : decode cX6_setPuzzle 11 = .ok (.bipush (-3), 2) := by decide +kernel
theorem dX6_setPuzzle_13 : decode cX6_setPuzzle 13 = .ok (.ireturn, 1) := by decide +kernel
theorem dX6_setPuzzle_14 : decode cX6_setPuzzle 14 = .ok (.aload_n 0, 1) := by decide +kernel
theorem dX6_setPuzzle_15 : decode cX6_setPuzzle 15 = .ok (.getfield 54, 3) := by decide +kernel
theorem dX6_setPuzzle_18 : decode cX6_setPuzzle 18 = .ok (.aload_n 0, 1) := by decide +kernel
theorem dX6_setPuzzle_19 : decode cX6_setPuzzle 19 = .ok (.getfield 27, 3) := by decide +kernel
theorem dX6_setPuzzle_22 : decode cX6_setPuzzle 22 = .ok (.aload_n 0, 1) := by decide +kernel
theorem dX6_setPuzzle_23 : decode cX6_setPuzzle 23 = .ok (.getfield 33, 3) := by decide +kernel
theorem dX6_setPuzzle_26 : decode cX6_setPuzzle 26 = .ok (.aload_n 0, 1) := by decide +kernel
theorem dX6_setPuzzle_27 : decode cX6_setPuzzle 27 = .ok (.getfield 65, 3) := by decide +kernel
theorem dX6_setPuzzle_30 : decode cX6_setPuzzle 30 = .ok (.invokevirtual 81, 3) := by decide +kernel
theorem dX6_setPuzzle_33 : decode cX6_setPuzzle 33 = .ok (.aload_n 0, 1) := by decide +kernel
theorem dX6_setPuzzle_34 : decode cX6_setPuzzle 34 = .ok (.getfield 27, 3) := by decide +kernel
theorem dX6_setPuzzle_37 : decode cX6_setPuzzle 37 = .ok (.aload_n 0, 1) := by decide +kernel
theorem dX6_setPuzzle_38 : decode cX6_setPuzzle 38 = .ok (.getfield 61, 3) := by decide +kernel
theorem dX6_setPuzzle_41 : decode cX6_setPuzzle 41 = .ok (.getfield 85, 3) := by decide +kernel
theorem dX6_setPuzzle_44 : decode cX6_setPuzzle 44 = .ok (.aload_n 0, 1) := by decide +kernel
theorem dX6_setPuzzle_45 : decode cX6_setPuzzle 45 = .ok (.getfield 61, 3) := by decide +kernel
theorem dX6_setPuzzle_48 : decode cX6_setPuzzle 48 = .ok (.getfield 88, 3) := by decide +kernel
theorem dX6_setPuzzle_51 : decode cX6_setPuzzle 51 = .ok (.invokevirtual 10, 3) := by decide +kernel
theorem dX6_setPuzzle_54 : decode cX6_setPuzzle 54 = .ok (.iconst 0, 1) := by decide +kernel
theorem dX6_setPuzzle_55 : decode cX6_setPuzzle 55 = .ok (.istore_n 1, 1) := by decide +kernel
theorem dX6_setPuzzle_56 : decode cX6_setPuzzle 56 = .ok (.iload_n 1, 1) := by decide +kernel
theorem dX6_setPuzzle_57 : decode cX6_setPuzzle 57 = .ok (.aload_n 0, 1) := by decide +kernel
theorem dX6_setPuzzle_58 : decode cX6_setPuzzle 58 = .ok (.getfield 27, 3) := by decide +kernel
theorem dX6_setPuzzle_61 : decode cX6_setPuzzle 61 = .ok (.getfield 91, 3) := by decide +kernel
theorem dX6_setPuzzle_64 : decode cX6_setPuzzle 64 = .ok (.if_icmp .ge 27, 3) := by decide +kernel
theorem dX6_setPuzzle_67 : decode cX6_setPuzzle 67 = .ok (.aload_n 0, 1) := by decide +kernel
theorem dX6_setPuzzle_68 : decode cX6_setPuzzle 68 = .ok (.getfield 27, 3) := by decide +kernel
theorem dX6_setPuzzle_71 : decode cX6_setPuzzle 71 = .ok (.getfield 94, 3) := by decide +kernel
theorem dX6_setPuzzle_74 : decode cX6_setPuzzle 74 = .ok (.iload_n 1, 1) := by decide +kernel
theorem dX6_setPuzzle_75 : decode cX6_setPuzzle 75 = .ok (.aload_n 0, 1) := by decide +kernel
theorem dX6_setPuzzle_76 : decode cX6_setPuzzle 76 = .ok (.getfield 61, 3) := by decide +kernel
theorem dX6_setPuzzle_79 : decode cX6_setPuzzle 79 = .ok (.getfield 97, 3) := by decide +kernel
theorem dX6_setPuzzle_82 : decode cX6_setPuzzle 82 = .ok (.iload_n 1, 1) := by decide +kernel
theorem dX6_setPuzzle_83 : decode cX6_setPuzzle 83 = .ok (.iaload, 1) := by decide +kernel
theorem dX6_setPuzzle_84 : decode cX6_setPuzzle 84 = .ok (.iastore, 1) := by decide +kernel
theorem dX6_setPuzzle_85 : decode cX6_setPuzzle 85 = .ok (.iinc 1 1, 3) := by decide +kernel
theorem dX6_setPuzzle_88 : decode cX6_setPuzzle 88 = .ok (.goto (-32), 3) := by decide +kernel
theorem dX6_setPuzzle_91 : decode cX6_setPuzzle 91 = .ok (.aload_n 0, 1) := by decide +kernel
theorem dX6_setPuzzle_92 : decode cX6_setPuzzle 92 = .ok (.invokevirtual 98, 3) := by decide +kernel
theorem dX6_setPuzzle_95 : decode cX6_setPuzzle 95 = .ok (.aload_n 0, 1) := by decide +kernel
theorem dX6_setPuzzle_96 : decode cX6_setPuzzle 96 = .ok (.getfield 33, 3) := by decide +kernel
theorem dX6_setPuzzle_99 : decode cX6_setPuzzle 99 = .ok (.lconst 0, 1) := by decide +kernel
theorem dX6_setPuzzle_100 : decode cX6_setPuzzle 100 = .ok (.aload_n 0, 1) := by decide +kernel
theorem dX6_setPuzzle_101 : decode cX6_setPuzzle 101 = .ok (.getfield 27, 3) := by decide +kernel
theorem dX6_setPuzzle_104 : decode cX6_setPuzzle 104 = .ok (.invokevirtual 19, 3) := by decide +kernel
theorem dX6_setPuzzle_107 : decode cX6_setPuzzle 107 = .ok (.invokevirtual 23, 3) := by decide +kernel
theorem dX6_setPuzzle_110 : decode cX6_setPuzzle 110 = .ok (.aload_n 0, 1) := by decide +kernel
theorem dX6_setPuzzle_111 : decode cX6_setPuzzle 111 = .ok (.getfield 27, 3) := by decide +kernel
theorem dX6_setPuzzle_114 : decode cX6_setPuzzle 114 = .ok (.getfield 101, 3) := by decide +kernel
theorem dX6_setPuzzle_117 : decode cX6_setPuzzle 117 = .ok (.ireturn, 1) := by decide +kernel
theorem dX6_setCount_0 : decode cX6_setCount 0 = .ok (.aload_n 0, 1) := by decide +kernel
theorem dX6_setCount_1 : decode cX6_setCount 1 = .ok (.getfield 27, 3) := by decide +kernel
theorem dX6_setCount_4 : decode cX6_setCount 4 = .ok (.iload_n 1, 1) := by decide +kernel
theorem dX6_setCount_5 : decode cX6_setCount 5 = .ok (.invokevirtual 104, 3) := by decide +kernel
theorem dX6_setCount_8 : decode cX6_setCount 8 = .ok (.ifCond .eq 13, 3) := by decide +kernel
theorem dX6_setCount_11 : decode cX6_setCount 11 = .ok (.iload_n 2, 1) := by decide +kernel
theorem dX6_setCount_12 : decode cX6_setCount 12 = .ok (.iconst (-1), 1) := by decide +kernel
theorem dX6_setCount_13 : decode cX6_setCount 13 = .ok (.if_icmp .lt 8, 3) := by decide +kernel
theorem dX6_setCount_16 : decode cX6_setCount 16 = .ok (.iload_n 2, 1) := by decide +kernel
theorem dX6_setCount_17 : decode cX6_setCount 17 = .ok (.iconst 3, 1) := by decide +kernel
theorem dX6_setCount_18 : decode cX6_setCount 18 = .ok (.if_icmp .le 6, 3) := by decide +kernel
theorem dX6_setCount_21 : decode cX6_setCount 21 = .ok (.bipush (-2), 2) := by decide +kernel
theorem dX6_setCount_23 : decode cX6_setCount 23 = .ok (.ireturn, 1) := by decide +kernel
theorem dX6_setCount_24 : decode cX6_setCount 24 = .ok (.aload_n 0, 1) := by decide +kernel
theorem dX6_setCount_25 : decode cX6_setCount 25 = .ok (.getfield 54, 3) := by decide +kernel
theorem dX6_setCount_28 : decode cX6_setCount 28 = .ok (.aload_n 0, 1) := by decide +kernel
theorem dX6_setCount_29 : decode cX6_setCount 29 = .ok (.getfield 27, 3) := by decide +kernel
theorem dX6_setCount_32 : decode cX6_setCount 32 = .ok (.aload_n 0, 1) := by decide +kernel
theorem dX6_setCount_33 : decode cX6_setCount 33 = .ok (.getfield 33, 3) := by decide +kernel
theorem dX6_setCount_36 : decode cX6_setCount 36 = .ok (.aload_n 0, 1) := by decide +kernel
theorem dX6_setCount_37 : decode cX6_setCount 37 = .ok (.getfield 65, 3) := by decide +kernel
theorem dX6_setCount_40 : decode cX6_setCount 40 = .ok (.invokevirtual 81, 3) := by decide +kernel
theorem dX6_setCount_43 : decode cX6_setCount 43 = .ok (.aload_n 0, 1) := by decide +kernel
theorem dX6_setCount_44 : decode cX6_setCount 44 = .ok (.getfield 27, 3) := by decide +kernel
theorem dX6_setCount_47 : decode cX6_setCount 47 = .ok (.getfield 94, 3) := by decide +kernel
theorem dX6_setCount_50 : decode cX6_setCount 50 = .ok (.iload_n 1, 1) := by decide +kernel
theorem dX6_setCount_51 : decode cX6_setCount 51 = .ok (.iaload, 1) := by decide +kernel
theorem dX6_setCount_52 : decode cX6_setCount 52 = .ok (.istore_n 3, 1) := by decide +kernel
theorem dX6_setCount_53 : decode cX6_setCount 53 = .ok (.aload_n 0, 1) := by decide +kernel
theorem dX6_setCount_54 : decode cX6_setCount 54 = .ok (.getfield 27, 3) := by decide +kernel
theorem dX6_setCount_57 : decode cX6_setCount 57 = .ok (.getfield 94, 3) := by decide +kernel
theorem dX6_setCount_60 : decode cX6_setCount 60 = .ok (.iload_n 1, 1) := by decide +kernel
theorem dX6_setCount_61 : decode cX6_setCount 61 = .ok (.iload_n 2, 1) := by decide +kernel
theorem dX6_setCount_62 : decode cX6_setCount 62 = .ok (.iastore, 1) := by decide +kernel
theorem dX6_setCount_63 : decode cX6_setCount 63 = .ok (.aload_n 0, 1) := by decide +kernel
theorem dX6_setCount_64 : decode cX6_setCount 64 = .ok (.getfield 33, 3) := by decide +kernel
theorem dX6_setCount_67 : decode cX6_setCount 67 = .ok (.aload_n 0, 1) := by decide +kernel
theorem dX6_setCount_68 : decode cX6_setCount 68 = .ok (.getfield 33, 3) := by decide +kernel
theorem dX6_setCount_71 : decode cX6_setCount 71 = .ok (.getfield 108, 3) := by decide +kernel
theorem dX6_setCount_74 : decode cX6_setCount 74 = .ok (.aload_n 0, 1) := by decide +kernel
theorem dX6_setCount_75 : decode cX6_setCount 75 = .ok (.getfield 33, 3) := by decide +kernel
theorem dX6_setCount_78 : decode cX6_setCount 78 = .ok (.getfield 112, 3) := by decide +kernel
theorem dX6_setCount_81 : decode cX6_setCount 81 = .ok (.invokevirtual 23, 3) := by decide +kernel
theorem dX6_setCount_84 : decode cX6_setCount 84 = .ok (.iload_n 3, 1) := by decide +kernel
theorem dX6_setCount_85 : decode cX6_setCount 85 = .ok (.ireturn, 1) := by decide +kernel
theorem dX6_mark_0 : decode cX6_mark 0 = .ok (.aload_n 0, 1) := by decide +kernel
theorem dX6_mark_1 : decode cX6_mark 1 = .ok (.getfield 27, 3) := by decide +kernel
theorem dX6_mark_4 : decode cX6_mark 4 = .ok (.iload_n 1, 1) := by decide +kernel
theorem dX6_mark_5 : decode cX6_mark 5 = .ok (.invokevirtual 115, 3) := by decide +kernel
theorem dX6_mark_8 : decode cX6_mark 8 = .ok (.ifCond .eq 12, 3) := by decide +kernel
theorem dX6_mark_11 : decode cX6_mark 11 = .ok (.iload_n 2, 1) := by decide +kernel
theorem dX6_mark_12 : decode cX6_mark 12 = .ok (.ifCond .lt 8, 3) := by decide +kernel
theorem dX6_mark_15 : decode cX6_mark 15 = .ok (.iload_n 2, 1) := by decide +kernel
theorem dX6_mark_16 : decode cX6_mark 16 = .ok (.iconst 2, 1) := by decide +kernel
theorem dX6_mark_17 : decode cX6_mark 17 = .ok (.if_icmp .le 6, 3) := by decide +kernel
theorem dX6_mark_20 : decode cX6_mark 20 = .ok (.bipush (-2), 2) := by decide +kernel
theorem dX6_mark_22 : decode cX6_mark 22 = .ok (.ireturn, 1) := by decide +kernel
theorem dX6_mark_23 : decode cX6_mark 23 = .ok (.aload_n 0, 1) := by decide +kernel
theorem dX6_mark_24 : decode cX6_mark 24 = .ok (.getfield 54, 3) := by decide +kernel
theorem dX6_mark_27 : decode cX6_mark 27 = .ok (.aload_n 0, 1) := by decide +kernel
theorem dX6_mark_28 : decode cX6_mark 28 = .ok (.getfield 27, 3) := by decide +kernel
theorem dX6_mark_31 : decode cX6_mark 31 = .ok (.aload_n 0, 1) := by decide +kernel
theorem dX6_mark_32 : decode cX6_mark 32 = .ok (.getfield 33, 3) := by decide +kernel
theorem dX6_mark_35 : decode cX6_mark 35 = .ok (.aload_n 0, 1) := by decide +kernel
theorem dX6_mark_36 : decode cX6_mark 36 = .ok (.getfield 65, 3) := by decide +kernel
theorem dX6_mark_39 : decode cX6_mark 39 = .ok (.invokevirtual 81, 3) := by decide +kernel
theorem dX6_mark_42 : decode cX6_mark 42 = .ok (.aload_n 0, 1) := by decide +kernel
theorem dX6_mark_43 : decode cX6_mark 43 = .ok (.getfield 33, 3) := by decide +kernel
theorem dX6_mark_46 : decode cX6_mark 46 = .ok (.iload_n 1, 1) := by decide +kernel
theorem dX6_mark_47 : decode cX6_mark 47 = .ok (.invokevirtual 118, 3) := by decide +kernel
theorem dX6_mark_50 : decode cX6_mark 50 = .ok (.istore_n 3, 1) := by decide +kernel
theorem dX6_mark_51 : decode cX6_mark 51 = .ok (.lconst 1, 1) := by decide +kernel
theorem dX6_mark_52 : decode cX6_mark 52 = .ok (.iload_n 1, 1) := by decide +kernel
theorem dX6_mark_53 : decode cX6_mark 53 = .ok (.lshl, 1) := by decide +kernel
theorem dX6_mark_54 : decode cX6_mark 54 = .ok (.lstore 4, 2) := by decide +kernel
theorem dX6_mark_56 : decode cX6_mark 56 = .ok (.iload_n 2, 1) := by decide +kernel
theorem dX6_mark_57 : decode cX6_mark 57 = .ok (.iconst 1, 1) := by decide +kernel
theorem dX6_mark_58 : decode cX6_mark 58 = .ok (.if_icmp .ne 16, 3) := by decide +kernel
theorem dX6_mark_61 : decode cX6_mark 61 = .ok (.aload_n 0, 1) := by decide +kernel
theorem dX6_mark_62 : decode cX6_mark 62 = .ok (.getfield 33, 3) := by decide +kernel
theorem dX6_mark_65 : decode cX6_mark 65 = .ok (.getfield 108, 3) := by decide +kernel
theorem dX6_mark_68 : decode cX6_mark 68 = .ok (.lload 4, 2) := by decide +kernel
theorem dX6_mark_70 : decode cX6_mark 70 = .ok (.lor, 1) := by decide +kernel
theorem dX6_mark_71 : decode cX6_mark 71 = .ok (.goto 17, 3) := by decide +kernel
theorem dX6_mark_74 : decode cX6_mark 74 = .ok (.aload_n 0, 1) := by decide +kernel
theorem dX6_mark_75 : decode cX6_mark 75 = .ok (.getfield 33, 3) := by decide +kernel
theorem dX6_mark_78 : decode cX6_mark 78 = .ok (.getfield 108, 3) := by decide +kernel
theorem dX6_mark_81 : decode cX6_mark 81 = .ok (.lload 4, 2) := by decide +kernel
theorem dX6_mark_83 : decode cX6_mark 83 = .ok (.ldc2_w 121, 3) := by decide +kernel
theorem dX6_mark_86 : decode cX6_mark 86 = .ok (.lxor, 1) := by decide +kernel
theorem dX6_mark_87 : decode cX6_mark 87 = .ok (.land, 1) := by decide +kernel
theorem dX6_mark_88 : decode cX6_mark 88 = .ok (.lstore 6, 2) := by decide +kernel
theorem dX6_mark_90 : decode cX6_mark 90 = .ok (.iload_n 2, 1) := by decide +kernel
theorem dX6_mark_91 : decode cX6_mark 91 = .ok (.ifCond .ne 16, 3) := by decide +kernel
theorem dX6_mark_94 : decode cX6_mark 94 = .ok (.aload_n 0, 1) := by decide +kernel
theorem dX6_mark_95 : decode cX6_mark 95 = .ok (.getfield 33, 3) := by decide +kernel
theorem dX6_mark_98 : decode cX6_mark 98 = .ok (.getfield 112, 3) := by decide +kernel
theorem dX6_mark_101 : decode cX6_mark 101 = .ok (.lload 4, 2) := by decide +kernel
theorem dX6_mark_103 : decode cX6_mark 103 = .ok (.lor, 1) := by decide +kernel
theorem dX6_mark_104 : decode cX6_mark 104 = .ok (.goto 17, 3) := by decide +kernel
theorem dX6_mark_107 : decode cX6_mark 107 = .ok (.aload_n 0, 1) := by decide +kernel
theorem dX6_mark_108 : decode cX6_mark 108 = .ok (.getfield 33, 3) := by decide +kernel
theorem dX6_mark_111 : decode cX6_mark 111 = .ok (.getfield 112, 3) := by decide +kernel
theorem dX6_mark_114 : decode cX6_mark 114 = .ok (.lload 4, 2) := by decide +kernel
theorem dX6_mark_116 : decode cX6_mark 116 = .ok (.ldc2_w 121, 3) := by decide +kernel
theorem dX6_mark_119 : decode cX6_mark 119 = .ok (.lxor, 1) := by decide +kernel
theorem dX6_mark_120 : decode cX6_mark 120 = .ok (.land, 1) := by decide +kernel
theorem dX6_mark_121 : decode cX6_mark 121 = .ok (.lstore 8, 2) := by decide +kernel
theorem dX6_mark_123 : decode cX6_mark 123 = .ok (.aload_n 0, 1) := by decide +kernel
theorem dX6_mark_124 : decode cX6_mark 124 = .ok (.getfield 33, 3) := by decide +kernel
theorem dX6_mark_127 : decode cX6_mark 127 = .ok (.lload 6, 2) := by decide +kernel
theorem dX6_mark_129 : decode cX6_mark 129 = .ok (.lload 8, 2) := by decide +kernel
theorem dX6_mark_131 : decode cX6_mark 131 = .ok (.invokevirtual 23, 3) := by decide +kernel
theorem dX6_mark_134 : decode cX6_mark 134 = .ok (.iload_n 3, 1) := by decide +kernel
theorem dX6_mark_135 : decode cX6_mark 135 = .ok (.ireturn, 1) := by decide +kernel
theorem dX6_wipe_0 : decode cX6_wipe 0 = .ok (.aload_n 0, 1) := by decide +kernel
theorem dX6_wipe_1 : decode cX6_wipe 1 = .ok (.getfield 54, 3) := by decide +kernel
theorem dX6_wipe_4 : decode cX6_wipe 4 = .ok (.aload_n 0, 1) := by decide +kernel
theorem dX6_wipe_5 : decode cX6_wipe 5 = .ok (.getfield 27, 3) := by decide +kernel
theorem dX6_wipe_8 : decode cX6_wipe 8 = .ok (.aload_n 0, 1) := by decide +kernel
theorem dX6_wipe_9 : decode cX6_wipe 9 = .ok (.getfield 33, 3) := by decide +kernel
theorem dX6_wipe_12 : decode cX6_wipe 12 = .ok (.aload_n 0, 1) := by decide +kernel
theorem dX6_wipe_13 : decode cX6_wipe 13 = .ok (.getfield 65, 3) := by decide +kernel
theorem dX6_wipe_16 : decode cX6_wipe 16 = .ok (.invokevirtual 81, 3) := by decide +kernel
theorem dX6_wipe_19 : decode cX6_wipe 19 = .ok (.aload_n 0, 1) := by decide +kernel
theorem dX6_wipe_20 : decode cX6_wipe 20 = .ok (.getfield 27, 3) := by decide +kernel
theorem dX6_wipe_23 : decode cX6_wipe 23 = .ok (.getfield 101, 3) := by decide +kernel
theorem dX6_wipe_26 : decode cX6_wipe 26 = .ok (.aload_n 0, 1) := by decide +kernel
theorem dX6_wipe_27 : decode cX6_wipe 27 = .ok (.getfield 33, 3) := by decide +kernel
theorem dX6_wipe_30 : decode cX6_wipe 30 = .ok (.getfield 112, 3) := by decide +kernel
theorem dX6_wipe_33 : decode cX6_wipe 33 = .ok (.invokestatic 123, 3) := by decide +kernel
theorem dX6_wipe_36 : decode cX6_wipe 36 = .ok (.isub, 1) := by decide +kernel
theorem dX6_wipe_37 : decode cX6_wipe 37 = .ok (.istore_n 1, 1) := by decide +kernel
theorem dX6_wipe_38 : decode cX6_wipe 38 = .ok (.aload_n 0, 1) := by decide +kernel
theorem dX6_wipe_39 : decode cX6_wipe 39 = .ok (.invokevirtual 98, 3) := by decide +kernel
theorem dX6_wipe_42 : decode cX6_wipe 42 = .ok (.aload_n 0, 1) := by decide +kernel
theorem dX6_wipe_43 : decode cX6_wipe 43 = .ok (.getfield 33, 3) := by decide +kernel
theorem dX6_wipe_46 : decode cX6_wipe 46 = .ok (.lconst 0, 1) := by decide +kernel
theorem dX6_wipe_47 : decode cX6_wipe 47 = .ok (.aload_n 0, 1) := by decide +kernel
theorem dX6_wipe_48 : decode cX6_wipe 48 = .ok (.getfield 27, 3) := by decide +kernel
theorem dX6_wipe_51 : decode cX6_wipe 51 = .ok (.invokevirtual 19, 3) := by decide +kernel
theorem dX6_wipe_54 : decode cX6_wipe 54 = .ok (.invokevirtual 23, 3) := by decide +kernel
theorem dX6_wipe_57 : decode cX6_wipe 57 = .ok (.iload_n 1, 1) := by decide +kernel
theorem dX6_wipe_58 : decode cX6_wipe 58 = .ok (.ireturn, 1) := by decide +kernel
theorem dX6_deduceAll_0 : decode cX6_deduceAll 0 = .ok (.iload_n 1, 1) := by decide +kernel
theorem dX6_deduceAll_1 : decode cX6_deduceAll 1 = .ok (.ifCond .lt 9, 3) := by decide +kernel
theorem dX6_deduceAll_4 : decode cX6_deduceAll 4 = .ok (.iload_n 1, 1) := by decide +kernel
theorem dX6_deduceAll_5 : decode cX6_deduceAll 5 = .ok (.bipush 7, 2) := by decide +kernel
theorem dX6_deduceAll_7 : decode cX6_deduceAll 7 = .ok (.if_icmp .le 6, 3) := by decide +kernel
theorem dX6_deduceAll_10 : decode cX6_deduceAll 10 = .ok (.bipush (-2), 2) := by decide +kernel
theorem dX6_deduceAll_12 : decode cX6_deduceAll 12 = .ok (.ireturn, 1) := by decide +kernel
theorem dX6_deduceAll_13 : decode cX6_deduceAll 13 = .ok (.aload_n 0, 1) := by decide +kernel
theorem dX6_deduceAll_14 : decode cX6_deduceAll 14 = .ok (.getfield 33, 3) := by decide +kernel
theorem dX6_deduceAll_17 : decode cX6_deduceAll 17 = .ok (.invokevirtual 129, 3) := by decide +kernel
theorem dX6_deduceAll_20 : decode cX6_deduceAll 20 = .ok (.ifCond .ne 6, 3) := by decide +kernel
theorem dX6_deduceAll_23 : decode cX6_deduceAll 23 = .ok (.bipush (-3), 2) := by decide +kernel
theorem dX6_deduceAll_25 : decode cX6_deduceAll 25 = .ok (.ireturn, 1) := by decide +kernel
theorem dX6_deduceAll_26 : decode cX6_deduceAll 26 = .ok (.aload_n 0, 1) := by decide +kernel
theorem dX6_deduceAll_27 : decode cX6_deduceAll 27 = .ok (.getfield 54, 3) := by decide +kernel
theorem dX6_deduceAll_30 : decode cX6_deduceAll 30 = .ok (.aload_n 0, 1) := by decide +kernel
theorem dX6_deduceAll_31 : decode cX6_deduceAll 31 = .ok (.getfield 27, 3) := by decide +kernel
theorem dX6_deduceAll_34 : decode cX6_deduceAll 34 = .ok (.aload_n 0, 1) := by decide +kernel
theorem dX6_deduceAll_35 : decode cX6_deduceAll 35 = .ok (.getfield 33, 3) := by decide +kernel
theorem dX6_deduceAll_38 : decode cX6_deduceAll 38 = .ok (.aload_n 0, 1) := by decide +kernel
theorem dX6_deduceAll_39 : decode cX6_deduceAll 39 = .ok (.getfield 65, 3) := by decide +kernel
theorem dX6_deduceAll_42 : decode cX6_deduceAll 42 = .ok (.invokevirtual 81, 3) := by decide +kernel
theorem dX6_deduceAll_45 : decode cX6_deduceAll 45 = .ok (.iconst 0, 1) := by decide +kernel
theorem dX6_deduceAll_46 : decode cX6_deduceAll 46 = .ok (.istore_n 2, 1) := by decide +kernel
theorem dX6_deduceAll_47 : decode cX6_deduceAll 47 = .ok (.iload_n 2, 1) := by decide +kernel
theorem dX6_deduceAll_48 : decode cX6_deduceAll 48 = .ok (.bipush 40, 2) := by decide +kernel
theorem dX6_deduceAll_50 : decode cX6_deduceAll 50 = .ok (.if_icmp .ge 28, 3) := by decide +kernel
theorem dX6_deduceAll_53 : decode cX6_deduceAll 53 = .ok (.aload_n 0, 1) := by decide +kernel
theorem dX6_deduceAll_54 : decode cX6_deduceAll 54 = .ok (.getfield 40, 3) := by decide +kernel
theorem dX6_deduceAll_57 : decode cX6_deduceAll 57 = .ok (.aload_n 0, 1) := by decide +kernel
theorem dX6_deduceAll_58 : decode cX6_deduceAll 58 = .ok (.getfield 33, 3) := by decide +kernel
theorem dX6_deduceAll_61 : decode cX6_deduceAll 61 = .ok (.iload_n 1, 1) := by decide +kernel
theorem dX6_deduceAll_62 : decode cX6_deduceAll 62 = .ok (.invokevirtual 133, 3) := by decide +kernel
theorem dX6_deduceAll_65 : decode cX6_deduceAll 65 = .ok (.ifCond .eq 13, 3) := by decide +kernel
theorem dX6_deduceAll_68 : decode cX6_deduceAll 68 = .ok (.aload_n 0, 1) := by decide +kernel
theorem dX6_deduceAll_69 : decode cX6_deduceAll 69 = .ok (.invokevirtual 137, 3) := by decide +kernel
theorem dX6_deduceAll_72 : decode cX6_deduceAll 72 = .ok (.iinc 2 1, 3) := by decide +kernel
theorem dX6_deduceAll_75 : decode cX6_deduceAll 75 = .ok (.goto (-28), 3) := by decide +kernel
theorem dX6_deduceAll_78 : decode cX6_deduceAll 78 = .ok (.iload_n 2, 1) := by decide +kernel
theorem dX6_deduceAll_79 : decode cX6_deduceAll 79 = .ok (.ireturn, 1) := by decide +kernel
theorem dX6_undo_0 : decode cX6_undo 0 = .ok (.aload_n 0, 1) := by decide +kernel
theorem dX6_undo_1 : decode cX6_undo 1 = .ok (.getfield 54, 3) := by decide +kernel
theorem dX6_undo_4 : decode cX6_undo 4 = .ok (.getfield 143, 3) := by decide +kernel
theorem dX6_undo_7 : decode cX6_undo 7 = .ok (.ifCond .ne 6, 3) := by decide +kernel
theorem dX6_undo_10 : decode cX6_undo 10 = .ok (.bipush (-3), 2) := by decide +kernel
theorem dX6_undo_12 : decode cX6_undo 12 = .ok (.ireturn, 1) := by decide +kernel
theorem dX6_undo_13 : decode cX6_undo 13 = .ok (.aload_n 0, 1) := by decide +kernel
theorem dX6_undo_14 : decode cX6_undo 14 = .ok (.getfield 54, 3) := by decide +kernel
theorem dX6_undo_17 : decode cX6_undo 17 = .ok (.aload_n 0, 1) := by decide +kernel
theorem dX6_undo_18 : decode cX6_undo 18 = .ok (.getfield 27, 3) := by decide +kernel
theorem dX6_undo_21 : decode cX6_undo 21 = .ok (.aload_n 0, 1) := by decide +kernel
theorem dX6_undo_22 : decode cX6_undo 22 = .ok (.getfield 33, 3) := by decide +kernel
theorem dX6_undo_25 : decode cX6_undo 25 = .ok (.aload_n 0, 1) := by decide +kernel
theorem dX6_undo_26 : decode cX6_undo 26 = .ok (.getfield 65, 3) := by decide +kernel
theorem dX6_undo_29 : decode cX6_undo 29 = .ok (.invokevirtual 146, 3) := by decide +kernel
theorem dX6_undo_32 : decode cX6_undo 32 = .ok (.aload_n 0, 1) := by decide +kernel
theorem dX6_undo_33 : decode cX6_undo 33 = .ok (.getfield 54, 3) := by decide +kernel
theorem dX6_undo_36 : decode cX6_undo 36 = .ok (.getfield 143, 3) := by decide +kernel
theorem dX6_undo_39 : decode cX6_undo 39 = .ok (.ireturn, 1) := by decide +kernel
theorem dX6_countOf_0 : decode cX6_countOf 0 = .ok (.aload_n 0, 1) := by decide +kernel
theorem dX6_countOf_1 : decode cX6_countOf 1 = .ok (.getfield 27, 3) := by decide +kernel
theorem dX6_countOf_4 : decode cX6_countOf 4 = .ok (.iload_n 1, 1) := by decide +kernel
theorem dX6_countOf_5 : decode cX6_countOf 5 = .ok (.invokevirtual 104, 3) := by decide +kernel
theorem dX6_countOf_8 : decode cX6_countOf 8 = .ok (.ifCond .eq 15, 3) := by decide +kernel
theorem dX6_countOf_11 : decode cX6_countOf 11 = .ok (.aload_n 0, 1) := by decide +kernel
theorem dX6_countOf_12 : decode cX6_countOf 12 = .ok (.getfield 27, 3) := by decide +kernel
theorem dX6_countOf_15 : decode cX6_countOf 15 = .ok (.getfield 94, 3) := by decide +kernel
theorem dX6_countOf_18 : decode cX6_countOf 18 = .ok (.iload_n 1, 1) := by decide +kernel
theorem dX6_countOf_19 : decode cX6_countOf 19 = .ok (.iaload, 1) := by decide +kernel
theorem dX6_countOf_20 : decode cX6_countOf 20 = .ok (.goto 5, 3) := by decide +kernel
theorem dX6_countOf_23 : decode cX6_countOf 23 = .ok (.bipush (-2), 2) := by decide +kernel
theorem dX6_countOf_25 : decode cX6_countOf 25 = .ok (.ireturn, 1) := by decide +kernel
theorem dX6_edge_0 : decode cX6_edge 0 = .ok (.aload_n 0, 1) := by decide +kernel
theorem dX6_edge_1 : decode cX6_edge 1 = .ok (.getfield 27, 3) := by decide +kernel
theorem dX6_edge_4 : decode cX6_edge 4 = .ok (.iload_n 1, 1) := by decide +kernel
theorem dX6_edge_5 : decode cX6_edge 5 = .ok (.invokevirtual 115, 3) := by decide +kernel
theorem dX6_edge_8 : decode cX6_edge 8 = .ok (.ifCond .eq 14, 3) := by decide +kernel
theorem dX6_edge_11 : decode cX6_edge 11 = .ok (.aload_n 0, 1) := by decide +kernel
theorem dX6_edge_12 : decode cX6_edge 12 = .ok (.getfield 33, 3) := by decide +kernel
theorem dX6_edge_15 : decode cX6_edge 15 = .ok (.iload_n 1, 1) := by decide +kernel
theorem dX6_edge_16 : decode cX6_edge 16 = .ok (.invokevirtual 118, 3) := by decide +kernel
theorem dX6_edge_19 : decode cX6_edge 19 = .ok (.goto 5, 3) := by decide +kernel
theorem dX6_edge_22 : decode cX6_edge 22 = .ok (.bipush (-2), 2) := by decide +kernel
theorem dX6_edge_24 : decode cX6_edge 24 = .ok (.ireturn, 1) := by decide +kernel
theorem dX6_edgeAt_0 : decode cX6_edgeAt 0 = .ok (.iload_n 1, 1) := by decide +kernel
theorem dX6_edgeAt_1 : decode cX6_edgeAt 1 = .ok (.ifCond .eq 14, 3) := by decide +kernel
theorem dX6_edgeAt_4 : decode cX6_edgeAt 4 = .ok (.aload_n 0, 1) := by decide +kernel
theorem dX6_edgeAt_5 : decode cX6_edgeAt 5 = .ok (.getfield 27, 3) := by decide +kernel
theorem dX6_edgeAt_8 : decode cX6_edgeAt 8 = .ok (.iload_n 2, 1) := by decide +kernel
theorem dX6_edgeAt_9 : decode cX6_edgeAt 9 = .ok (.invokevirtual 149, 3) := by decide +kernel
theorem dX6_edgeAt_12 : decode cX6_edgeAt 12 = .ok (.goto 11, 3) := by decide +kernel
theorem dX6_edgeAt_15 : decode cX6_edgeAt 15 = .ok (.aload_n 0, 1) := by decide +kernel
theorem dX6_edgeAt_16 : decode cX6_edgeAt 16 = .ok (.getfield 27, 3) := by decide +kernel
theorem dX6_edgeAt_19 : decode cX6_edgeAt 19 = .ok (.iload_n 2, 1) := by decide +kernel
theorem dX6_edgeAt_20 : decode cX6_edgeAt 20 = .ok (.invokevirtual 104, 3) := by decide +kernel
theorem dX6_edgeAt_23 : decode cX6_edgeAt 23 = .ok (.istore 4, 2) := by decide +kernel
theorem dX6_edgeAt_25 : decode cX6_edgeAt 25 = .ok (.iload 4, 2) := by decide +kernel
theorem dX6_edgeAt_27 : decode cX6_edgeAt 27 = .ok (.ifCond .eq 7, 3) := by decide +kernel
theorem dX6_edgeAt_30 : decode cX6_edgeAt 30 = .ok (.iload_n 3, 1) := by decide +kernel
theorem dX6_edgeAt_31 : decode cX6_edgeAt 31 = .ok (.ifCond .ge 6, 3) := by decide +kernel
theorem dX6_edgeAt_34 : decode cX6_edgeAt 34 = .ok (.bipush (-2), 2) := by decide +kernel
theorem dX6_edgeAt_36 : decode cX6_edgeAt 36 = .ok (.ireturn, 1) := by decide +kernel
theorem dX6_edgeAt_37 : decode cX6_edgeAt 37 = .ok (.iload_n 1, 1) := by decide +kernel
theorem dX6_edgeAt_38 : decode cX6_edgeAt 38 = .ok (.ifCond .eq 15, 3) := by decide +kernel
theorem dX6_edgeAt_41 : decode cX6_edgeAt 41 = .ok (.aload_n 0, 1) := by decide +kernel
theorem dX6_edgeAt_42 : decode cX6_edgeAt 42 = .ok (.getfield 27, 3) := by decide +kernel
theorem dX6_edgeAt_45 : decode cX6_edgeAt 45 = .ok (.getfield 152, 3) := by decide +kernel
theorem dX6_edgeAt_48 : decode cX6_edgeAt 48 = .ok (.iload_n 2, 1) := by decide +kernel
theorem dX6_edgeAt_49 : decode cX6_edgeAt 49 = .ok (.laload, 1) := by decide +kernel
theorem dX6_edgeAt_50 : decode cX6_edgeAt 50 = .ok (.goto 12, 3) := by decide +kernel
theorem dX6_edgeAt_53 : decode cX6_edgeAt 53 = .ok (.aload_n 0, 1) := by decide +kernel
theorem dX6_edgeAt_54 : decode cX6_edgeAt 54 = .ok (.getfield 27, 3) := by decide +kernel
theorem dX6_edgeAt_57 : decode cX6_edgeAt 57 = .ok (.getfield 156, 3) := by decide +kernel
theorem dX6_edgeAt_60 : decode cX6_edgeAt 60 = .ok (.iload_n 2, 1) := by decide +kernel
theorem dX6_edgeAt_61 : decode cX6_edgeAt 61 = .ok (.laload, 1) := by decide +kernel
theorem dX6_edgeAt_62 : decode cX6_edgeAt 62 = .ok (.lstore 5, 2) := by decide +kernel
theorem dX6_edgeAt_64 : decode cX6_edgeAt 64 = .ok (.iconst 0, 1) := by decide +kernel
theorem dX6_edgeAt_65 : decode cX6_edgeAt 65 = .ok (.istore 7, 2) := by decide +kernel
theorem dX6_edgeAt_67 : decode cX6_edgeAt 67 = .ok (.iload 7, 2) := by decide +kernel
theorem dX6_edgeAt_69 : decode cX6_edgeAt 69 = .ok (.iload_n 3, 1) := by decide +kernel
theorem dX6_edgeAt_70 : decode cX6_edgeAt 70 = .ok (.if_icmp .ge 25, 3) := by decide +kernel
theorem dX6_edgeAt_73 : decode cX6_edgeAt 73 = .ok (.lload 5, 2) := by decide +kernel
theorem dX6_edgeAt_75 : decode cX6_edgeAt 75 = .ok (.lconst 0, 1) := by decide +kernel
theorem dX6_edgeAt_76 : decode cX6_edgeAt 76 = .ok (.lcmp, 1) := by decide +kernel
theorem dX6_edgeAt_77 : decode cX6_edgeAt 77 = .ok (.ifCond .eq 18, 3) := by decide +kernel
theorem dX6_edgeAt_80 : decode cX6_edgeAt 80 = .ok (.lload 5, 2) := by decide +kernel
theorem dX6_edgeAt_82 : decode cX6_edgeAt 82 = .ok (.lload 5, 2) := by decide +kernel
theorem dX6_edgeAt_84 : decode cX6_edgeAt 84 = .ok (.lconst 1, 1) := by decide +kernel
theorem dX6_edgeAt_85 : decode cX6_edgeAt 85 = .ok (.lsub, 1) := by decide +kernel
theorem dX6_edgeAt_86 : decode cX6_edgeAt 86 = .ok (.land, 1) := by decide +kernel
theorem dX6_edgeAt_87 : decode cX6_edgeAt 87 = .ok (.lstore 5, 2) := by decide +kernel
theorem dX6_edgeAt_89 : decode cX6_edgeAt 89 = .ok (.iinc 7 1, 3) := by decide +kernel
theorem dX6_edgeAt_92 : decode cX6_edgeAt 92 = .ok (.goto (-25), 3) := by decide +kernel
theorem dX6_edgeAt_95 : decode cX6_edgeAt 95 = .ok (.lload 5, 2) := by decide +kernel
theorem dX6_edgeAt_97 : decode cX6_edgeAt 97 = .ok (.invokestatic 159, 3) := by decide +kernel
theorem dX6_edgeAt_100 : decode cX6_edgeAt 100 = .ok (.ireturn, 1) := by decide +kernel
theorem dX6_misfit_0 : decode cX6_misfit 0 = .ok (.iload_n 1, 1) := by decide +kernel
theorem dX6_misfit_1 : decode cX6_misfit 1 = .ok (.tableswitch 102 0 4 #[35, 47, 59, 70, 86], 35) := by decide +kernel
theorem dX6_misfit_36 : decode cX6_misfit 36 = .ok (.aload_n 0, 1) := by decide +kernel
theorem dX6_misfit_37 : decode cX6_misfit 37 = .ok (.getfield 33, 3) := by decide +kernel
theorem dX6_misfit_40 : decode cX6_misfit 40 = .ok (.getfield 162, 3) := by decide +kernel
theorem dX6_misfit_43 : decode cX6_misfit 43 = .ok (.i2l, 1) := by decide +kernel
theorem dX6_misfit_44 : decode cX6_misfit 44 = .ok (.invokestatic 159, 3) := by decide +kernel
theorem dX6_misfit_47 : decode cX6_misfit 47 = .ok (.ireturn, 1) := by decide +kernel
theorem dX6_misfit_48 : decode cX6_misfit 48 = .ok (.aload_n 0, 1) := by decide +kernel
theorem dX6_misfit_49 : decode cX6_misfit 49 = .ok (.getfield 33, 3) := by decide +kernel
theorem dX6_misfit_52 : decode cX6_misfit 52 = .ok (.getfield 165, 3) := by decide +kernel
theorem dX6_misfit_55 : decode cX6_misfit 55 = .ok (.i2l, 1) := by decide +kernel
theorem dX6_misfit_56 : decode cX6_misfit 56 = .ok (.invokestatic 159, 3) := by decide +kernel
theorem dX6_misfit_59 : decode cX6_misfit 59 = .ok (.ireturn, 1) := by decide +kernel
theorem dX6_misfit_60 : decode cX6_misfit 60 = .ok (.aload_n 0, 1) := by decide +kernel
theorem dX6_misfit_61 : decode cX6_misfit 61 = .ok (.getfield 33, 3) := by decide +kernel
theorem dX6_misfit_64 : decode cX6_misfit 64 = .ok (.getfield 168, 3) := by decide +kernel
theorem dX6_misfit_67 : decode cX6_misfit 67 = .ok (.invokestatic 159, 3) := by decide +kernel
theorem dX6_misfit_70 : decode cX6_misfit 70 = .ok (.ireturn, 1) := by decide +kernel
theorem dX6_misfit_71 : decode cX6_misfit 71 = .ok (.aload_n 0, 1) := by decide +kernel
theorem dX6_misfit_72 : decode cX6_misfit 72 = .ok (.getfield 33, 3) := by decide +kernel
theorem dX6_misfit_75 : decode cX6_misfit 75 = .ok (.invokevirtual 129, 3) := by decide +kernel
theorem dX6_misfit_78 : decode cX6_misfit 78 = .ok (.ifCond .eq 7, 3) := by decide +kernel
theorem dX6_misfit_81 : decode cX6_misfit 81 = .ok (.iconst 1, 1) := by decide +kernel
theorem dX6_misfit_82 : decode cX6_misfit 82 = .ok (.goto 4, 3) := by decide +kernel
theorem dX6_misfit_85 : decode cX6_misfit 85 = .ok (.iconst 0, 1) := by decide +kernel
theorem dX6_misfit_86 : decode cX6_misfit 86 = .ok (.ireturn, 1) := by decide +kernel
theorem dX6_misfit_87 : decode cX6_misfit 87 = .ok (.aload_n 0, 1) := by decide +kernel
theorem dX6_misfit_88 : decode cX6_misfit 88 = .ok (.getfield 33, 3) := by decide +kernel
theorem dX6_misfit_91 : decode cX6_misfit 91 = .ok (.invokevirtual 171, 3) := by decide +kernel
theorem dX6_misfit_94 : decode cX6_misfit 94 = .ok (.ifCond .eq 7, 3) := by decide +kernel
theorem dX6_misfit_97 : decode cX6_misfit 97 = .ok (.iconst 1, 1) := by decide +kernel
theorem dX6_misfit_98 : decode cX6_misfit 98 = .ok (.goto 4, 3) := by decide +kernel
theorem dX6_misfit_101 : decode cX6_misfit 101 = .ok (.iconst 0, 1) := by decide +kernel
theorem dX6_misfit_102 : decode cX6_misfit 102 = .ok (.ireturn, 1) := by decide +kernel
theorem dX6_misfit_103 : decode cX6_misfit 103 = .ok (.bipush (-2), 2) := by decide +kernel
theorem dX6_misfit_105 : decode cX6_misfit 105 = .ok (.ireturn, 1) := by decide +kernel
theorem dX6_hint_0 : decode cX6_hint 0 = .ok (.iload_n 1, 1) := by decide +kernel
theorem dX6_hint_1 : decode cX6_hint 1 = .ok (.ifCond .lt 8, 3) := by decide +kernel
theorem dX6_hint_4 : decode cX6_hint 4 = .ok (.iload_n 1, 1) := by decide +kernel
theorem dX6_hint_5 : decode cX6_hint 5 = .ok (.iconst 3, 1) := by decide +kernel
theorem dX6_hint_6 : decode cX6_hint 6 = .ok (.if_icmp .le 6, 3) := by decide +kernel
theorem dX6_hint_9 : decode cX6_hint 9 = .ok (.bipush (-2), 2) := by decide +kernel
theorem dX6_hint_11 : decode cX6_hint 11 = .ok (.ireturn, 1) := by decide +kernel
theorem dX6_hint_12 : decode cX6_hint 12 = .ok (.aload_n 0, 1) := by decide +kernel
theorem dX6_hint_13 : decode cX6_hint 13 = .ok (.getfield 33, 3) := by decide +kernel
theorem dX6_hint_16 : decode cX6_hint 16 = .ok (.invokevirtual 129, 3) := by decide +kernel
theorem dX6_hint_19 : decode cX6_hint 19 = .ok (.ifCond .ne 6, 3) := by decide +kernel
theorem dX6_hint_22 : decode cX6_hint 22 = .ok (.bipush (-3), 2) := by decide +kernel
theorem dX6_hint_24 : decode cX6_hint 24 = .ok (.ireturn, 1) := by decide +kernel
theorem dX6_hint_25 : decode cX6_hint 25 = .ok (.aload_n 0, 1) := by decide +kernel
theorem dX6_hint_26 : decode cX6_hint 26 = .ok (.getfield 40, 3) := by decide +kernel
theorem dX6_hint_29 : decode cX6_hint 29 = .ok (.aload_n 0, 1) := by decide +kernel
theorem dX6_hint_30 : decode cX6_hint 30 = .ok (.getfield 33, 3) := by decide +kernel
theorem dX6_hint_33 : decode cX6_hint 33 = .ok (.bipush 7, 2) := by decide +kernel
theorem dX6_hint_35 : decode cX6_hint 35 = .ok (.invokevirtual 133, 3) := by decide +kernel
theorem dX6_hint_38 : decode cX6_hint 38 = .ok (.ifCond .eq 11, 3) := by decide +kernel
theorem dX6_hint_41 : decode cX6_hint 41 = .ok (.aload_n 0, 1) := by decide +kernel
theorem dX6_hint_42 : decode cX6_hint 42 = .ok (.iload_n 1, 1) := by decide +kernel
theorem dX6_hint_43 : decode cX6_hint 43 = .ok (.invokevirtual 174, 3) := by decide +kernel
theorem dX6_hint_46 : decode cX6_hint 46 = .ok (.goto 4, 3) := by decide +kernel
theorem dX6_hint_49 : decode cX6_hint 49 = .ok (.iconst (-1), 1) := by decide +kernel
theorem dX6_hint_50 : decode cX6_hint 50 = .ok (.ireturn, 1) := by decide +kernel
theorem dX6_way_0 : decode cX6_way 0 = .ok (.aload_n 0, 1) := by decide +kernel
theorem dX6_way_1 : decode cX6_way 1 = .ok (.getfield 27, 3) := by decide +kernel
theorem dX6_way_4 : decode cX6_way 4 = .ok (.iload_n 1, 1) := by decide +kernel
theorem dX6_way_5 : decode cX6_way 5 = .ok (.invokevirtual 115, 3) := by decide +kernel
theorem dX6_way_8 : decode cX6_way 8 = .ok (.ifCond .eq 12, 3) := by decide +kernel
theorem dX6_way_11 : decode cX6_way 11 = .ok (.iload_n 2, 1) := by decide +kernel
theorem dX6_way_12 : decode cX6_way 12 = .ok (.ifCond .lt 8, 3) := by decide +kernel
theorem dX6_way_15 : decode cX6_way 15 = .ok (.iload_n 2, 1) := by decide +kernel
theorem dX6_way_16 : decode cX6_way 16 = .ok (.iconst 2, 1) := by decide +kernel
theorem dX6_way_17 : decode cX6_way 17 = .ok (.if_icmp .le 6, 3) := by decide +kernel
theorem dX6_way_20 : decode cX6_way 20 = .ok (.bipush (-2), 2) := by decide +kernel
theorem dX6_way_22 : decode cX6_way 22 = .ok (.ireturn, 1) := by decide +kernel
theorem dX6_way_23 : decode cX6_way 23 = .ok (.aload_n 0, 1) := by decide +kernel
theorem dX6_way_24 : decode cX6_way 24 = .ok (.getfield 33, 3) := by decide +kernel
theorem dX6_way_27 : decode cX6_way 27 = .ok (.lconst 1, 1) := by decide +kernel
theorem dX6_way_28 : decode cX6_way 28 = .ok (.iload_n 1, 1) := by decide +kernel
theorem dX6_way_29 : decode cX6_way 29 = .ok (.lshl, 1) := by decide +kernel
theorem dX6_way_30 : decode cX6_way 30 = .ok (.invokevirtual 177, 3) := by decide +kernel
theorem dX6_way_33 : decode cX6_way 33 = .ok (.lstore_n 3, 1) := by decide +kernel
theorem dX6_way_34 : decode cX6_way 34 = .ok (.lload_n 3, 1) := by decide +kernel
theorem dX6_way_35 : decode cX6_way 35 = .ok (.lconst 0, 1) := by decide +kernel
theorem dX6_way_36 : decode cX6_way 36 = .ok (.lcmp, 1) := by decide +kernel
theorem dX6_way_37 : decode cX6_way 37 = .ok (.ifCond .ne 5, 3) := by decide +kernel
theorem dX6_way_40 : decode cX6_way 40 = .ok (.iconst (-1), 1) := by decide +kernel
theorem dX6_way_41 : decode cX6_way 41 = .ok (.ireturn, 1) := by decide +kernel
theorem dX6_way_42 : decode cX6_way 42 = .ok (.iload_n 2, 1) := by decide +kernel
theorem dX6_way_43 : decode cX6_way 43 = .ok (.ifCond .ne 8, 3) := by decide +kernel
theorem dX6_way_46 : decode cX6_way 46 = .ok (.lload_n 3, 1) := by decide +kernel
theorem dX6_way_47 : decode cX6_way 47 = .ok (.invokestatic 123, 3) := by decide +kernel
theorem dX6_way_50 : decode cX6_way 50 = .ok (.ireturn, 1) := by decide +kernel
theorem dX6_way_51 : decode cX6_way 51 = .ok (.iload_n 2, 1) := by decide +kernel
theorem dX6_way_52 : decode cX6_way 52 = .ok (.iconst 1, 1) := by decide +kernel
theorem dX6_way_53 : decode cX6_way 53 = .ok (.if_icmp .ne 8, 3) := by decide +kernel
theorem dX6_way_56 : decode cX6_way 56 = .ok (.lload_n 3, 1) := by decide +kernel
theorem dX6_way_57 : decode cX6_way 57 = .ok (.invokestatic 159, 3) := by decide +kernel
theorem dX6_way_60 : decode cX6_way 60 = .ok (.ireturn, 1) := by decide +kernel
theorem dX6_way_61 : decode cX6_way 61 = .ok (.aload_n 0, 1) := by decide +kernel
theorem dX6_way_62 : decode cX6_way 62 = .ok (.getfield 33, 3) := by decide +kernel
theorem dX6_way_65 : decode cX6_way 65 = .ok (.lload_n 3, 1) := by decide +kernel
theorem dX6_way_66 : decode cX6_way 66 = .ok (.invokevirtual 181, 3) := by decide +kernel
theorem dX6_way_69 : decode cX6_way 69 = .ok (.ifCond .eq 7, 3) := by decide +kernel
theorem dX6_way_72 : decode cX6_way 72 = .ok (.iconst 1, 1) := by decide +kernel
theorem dX6_way_73 : decode cX6_way 73 = .ok (.goto 4, 3) := by decide +kernel
theorem dX6_way_76 : decode cX6_way 76 = .ok (.iconst 0, 1) := by decide +kernel
theorem dX6_way_77 : decode cX6_way 77 = .ok (.ireturn, 1) := by decide +kernel
theorem dX6_count_0 : decode cX6_count 0 = .ok (.iload_n 1, 1) := by decide +kernel
theorem dX6_count_1 : decode cX6_count 1 = .ok (.ifCond .lt 9, 3) := by decide +kernel
theorem dX6_count_4 : decode cX6_count 4 = .ok (.iload_n 1, 1) := by decide +kernel
theorem dX6_count_5 : decode cX6_count 5 = .ok (.bipush 15, 2) := by decide +kernel
theorem dX6_count_7 : decode cX6_count 7 = .ok (.if_icmp .le 6, 3) := by decide +kernel
theorem dX6_count_10 : decode cX6_count 10 = .ok (.bipush (-2), 2) := by decide +kernel
theorem dX6_count_12 : decode cX6_count 12 = .ok (.ireturn, 1) := by decide +kernel
theorem dX6_count_13 : decode cX6_count 13 = .ok (.iload_n 1, 1) := by decide +kernel
theorem dX6_count_14 : decode cX6_count 14 = .ok (.bipush 6, 2) := by decide +kernel
theorem dX6_count_16 : decode cX6_count 16 = .ok (.if_icmp .lt 19, 3) := by decide +kernel
theorem dX6_count_19 : decode cX6_count 19 = .ok (.iload_n 1, 1) := by decide +kernel
theorem dX6_count_20 : decode cX6_count 20 = .ok (.bipush 14, 2) := by decide +kernel
theorem dX6_count_22 : decode cX6_count 22 = .ok (.if_icmp .ge 13, 3) := by decide +kernel
theorem dX6_count_25 : decode cX6_count 25 = .ok (.aload_n 0, 1) := by decide +kernel
theorem dX6_count_26 : decode cX6_count 26 = .ok (.getfield 65, 3) := by decide +kernel
theorem dX6_count_29 : decode cX6_count 29 = .ok (.iload_n 1, 1) := by decide +kernel
theorem dX6_count_30 : decode cX6_count 30 = .ok (.bipush 6, 2) := by decide +kernel
theorem dX6_count_32 : decode cX6_count 32 = .ok (.isub, 1) := by decide +kernel
theorem dX6_count_33 : decode cX6_count 33 = .ok (.iaload, 1) := by decide +kernel
theorem dX6_count_34 : decode cX6_count 34 = .ok (.ireturn, 1) := by decide +kernel
theorem dX6_count_35 : decode cX6_count 35 = .ok (.iload_n 1, 1) := by decide +kernel
theorem dX6_count_36 : decode cX6_count 36 = .ok (.tableswitch 138 0 14 #[76, 84, 92, 100, 111, 122, 138, 138, 138, 138, 138, 138, 138, 138, 130], 76) := by decide +kernel
theorem dX6_count_112 : decode cX6_count 112 = .ok (.aload_n 0, 1) := by decide +kernel
theorem dX6_count_113 : decode cX6_count 113 = .ok (.getfield 27, 3) := by decide +kernel
theorem dX6_count_116 : decode cX6_count 116 = .ok (.getfield 201, 3) := by decide +kernel
theorem dX6_count_119 : decode cX6_count 119 = .ok (.ireturn, 1) := by decide +kernel
theorem dX6_count_120 : decode cX6_count 120 = .ok (.aload_n 0, 1) := by decide +kernel
theorem dX6_count_121 : decode cX6_count 121 = .ok (.getfield 27, 3) := by decide +kernel
theorem dX6_count_124 : decode cX6_count 124 = .ok (.getfield 204, 3) := by decide +kernel
theorem dX6_count_127 : decode cX6_count 127 = .ok (.ireturn, 1) := by decide +kernel
theorem dX6_count_128 : decode cX6_count 128 = .ok (.aload_n 0, 1) := by decide +kernel
theorem dX6_count_129 : decode cX6_count 129 = .ok (.getfield 27, 3) := by decide +kernel
theorem dX6_count_132 : decode cX6_count 132 = .ok (.getfield 101, 3) := by decide +kernel
theorem dX6_count_135 : decode cX6_count 135 = .ok (.ireturn, 1) := by decide +kernel
theorem dX6_count_136 : decode cX6_count 136 = .ok (.aload_n 0, 1) := by decide +kernel
theorem dX6_count_137 : decode cX6_count 137 = .ok (.getfield 33, 3) := by decide +kernel
theorem dX6_count_140 : decode cX6_count 140 = .ok (.getfield 112, 3) := by decide +kernel
theorem dX6_count_143 : decode cX6_count 143 = .ok (.invokestatic 123, 3) := by decide +kernel
theorem dX6_count_146 : decode cX6_count 146 = .ok (.ireturn, 1) := by decide +kernel
theorem dX6_count_147 : decode cX6_count 147 = .ok (.aload_n 0, 1) := by decide +kernel
theorem dX6_count_148 : decode cX6_count 148 = .ok (.getfield 33, 3) := by decide +kernel
theorem dX6_count_151 : decode cX6_count 151 = .ok (.getfield 108, 3) := by decide +kernel
theorem dX6_count_154 : decode cX6_count 154 = .ok (.invokestatic 123, 3) := by decide +kernel
theorem dX6_count_157 : decode cX6_count 157 = .ok (.ireturn, 1) := by decide +kernel
theorem dX6_count_158 : decode cX6_count 158 = .ok (.aload_n 0, 1) := by decide +kernel
theorem dX6_count_159 : decode cX6_count 159 = .ok (.getfield 27, 3) := by decide +kernel
theorem dX6_count_162 : decode cX6_count 162 = .ok (.invokevirtual 207, 3) := by decide +kernel
theorem dX6_count_165 : decode cX6_count 165 = .ok (.ireturn, 1) := by decide +kernel
theorem dX6_count_166 : decode cX6_count 166 = .ok (.aload_n 0, 1) := by decide +kernel
theorem dX6_count_167 : decode cX6_count 167 = .ok (.getfield 54, 3) := by decide +kernel
theorem dX6_count_170 : decode cX6_count 170 = .ok (.getfield 143, 3) := by decide +kernel
theorem dX6_count_173 : decode cX6_count 173 = .ok (.ireturn, 1) := by decide +kernel
theorem dX6_count_174 : decode cX6_count 174 = .ok (.aload_n 0, 1) := by decide +kernel
theorem dX6_count_175 : decode cX6_count 175 = .ok (.getfield 61, 3) := by decide +kernel
theorem dX6_count_178 : decode cX6_count 178 = .ok (.getfield 73, 3) := by decide +kernel
theorem dX6_count_181 : decode cX6_count 181 = .ok (.ireturn, 1) := by decide +kernel
theorem dX6_foundPart_0 : decode cX6_foundPart 0 = .ok (.iload_n 1, 1) := by decide +kernel
theorem dX6_foundPart_1 : decode cX6_foundPart 1 = .ok (.tableswitch 54 0 2 #[27, 35, 43], 27) := by decide +kernel
theorem dX6_foundPart_28 : decode cX6_foundPart 28 = .ok (.aload_n 0, 1) := by decide +kernel
theorem dX6_foundPart_29 : decode cX6_foundPart 29 = .ok (.getfield 33, 3) := by decide +kernel
theorem dX6_foundPart_32 : decode cX6_foundPart 32 = .ok (.getfield 140, 3) := by decide +kernel
theorem dX6_foundPart_35 : decode cX6_foundPart 35 = .ok (.ireturn, 1) := by decide +kernel
theorem dX6_foundPart_36 : decode cX6_foundPart 36 = .ok (.aload_n 0, 1) := by decide +kernel
theorem dX6_foundPart_37 : decode cX6_foundPart 37 = .ok (.getfield 33, 3) := by decide +kernel
theorem dX6_foundPart_40 : decode cX6_foundPart 40 = .ok (.getfield 227, 3) := by decide +kernel
theorem dX6_foundPart_43 : decode cX6_foundPart 43 = .ok (.ireturn, 1) := by decide +kernel
theorem dX6_foundPart_44 : decode cX6_foundPart 44 = .ok (.aload_n 0, 1) := by decide +kernel
theorem dX6_foundPart_45 : decode cX6_foundPart 45 = .ok (.getfield 33, 3) := by decide +kernel
theorem dX6_foundPart_48 : decode cX6_foundPart 48 = .ok (.getfield 140, 3) := by decide +kernel
theorem dX6_foundPart_51 : decode cX6_foundPart 51 = .ok (.invokestatic 230, 3) := by decide +kernel
theorem dX6_foundPart_54 : decode cX6_foundPart 54 = .ok (.ireturn, 1) := by decide +kernel
theorem dX6_foundPart_55 : decode cX6_foundPart 55 = .ok (.aload_n 0, 1) := by decide +kernel
theorem dX6_foundPart_56 : decode cX6_foundPart 56 = .ok (.getfield 33, 3) := by decide +kernel
theorem dX6_foundPart_59 : decode cX6_foundPart 59 = .ok (.getfield 233, 3) := by decide +kernel
theorem dX6_foundPart_62 : decode cX6_foundPart 62 = .ok (.ireturn, 1) := by decide +kernel
theorem dX6_makeFound_0 : decode cX6_makeFound 0 = .ok (.aload_n 0, 1) := by decide +kernel
theorem dX6_makeFound_1 : decode cX6_makeFound 1 = .ok (.getfield 33, 3) := by decide +kernel
theorem dX6_makeFound_4 : decode cX6_makeFound 4 = .ok (.getfield 140, 3) := by decide +kernel
theorem dX6_makeFound_7 : decode cX6_makeFound 7 = .ok (.istore_n 1, 1) := by decide +kernel
theorem dX6_makeFound_8 : decode cX6_makeFound 8 = .ok (.iload_n 1, 1) := by decide +kernel
theorem dX6_makeFound_9 : decode cX6_makeFound 9 = .ok (.ifCond .lt 19, 3) := by decide +kernel
theorem dX6_makeFound_12 : decode cX6_makeFound 12 = .ok (.iload_n 1, 1) := by decide +kernel
theorem dX6_makeFound_13 : decode cX6_makeFound 13 = .ok (.bipush 8, 2) := by decide +kernel
theorem dX6_makeFound_15 : decode cX6_makeFound 15 = .ok (.if_icmp .ge 13, 3) := by decide +kernel
theorem dX6_makeFound_18 : decode cX6_makeFound 18 = .ok (.aload_n 0, 1) := by decide +kernel
theorem dX6_makeFound_19 : decode cX6_makeFound 19 = .ok (.getfield 65, 3) := by decide +kernel
theorem dX6_makeFound_22 : decode cX6_makeFound 22 = .ok (.iload_n 1, 1) := by decide +kernel
theorem dX6_makeFound_23 : decode cX6_makeFound 23 = .ok (.dup2, 1) := by decide +kernel
theorem dX6_makeFound_24 : decode cX6_makeFound 24 = .ok (.iaload, 1) := by decide +kernel
theorem dX6_makeFound_25 : decode cX6_makeFound 25 = .ok (.iconst 1, 1) := by decide +kernel
theorem dX6_makeFound_26 : decode cX6_makeFound 26 = .ok (.iadd, 1) := by decide +kernel
theorem dX6_makeFound_27 : decode cX6_makeFound 27 = .ok (.iastore, 1) := by decide +kernel
theorem dX6_makeFound_28 : decode cX6_makeFound 28 = .ok (.aload_n 0, 1) := by decide +kernel
theorem dX6_makeFound_29 : decode cX6_makeFound 29 = .ok (.getfield 33, 3) := by decide +kernel
theorem dX6_makeFound_32 : decode cX6_makeFound 32 = .ok (.invokevirtual 236, 3) := by decide +kernel
theorem dX6_makeFound_35 : decode cX6_makeFound 35 = .ok (.return_, 1) := by decide +kernel
theorem dX6_forgetMade_0 : decode cX6_forgetMade 0 = .ok (.iconst 0, 1) := by decide +kernel
theorem dX6_forgetMade_1 : decode cX6_forgetMade 1 = .ok (.istore_n 1, 1) := by decide +kernel
theorem dX6_forgetMade_2 : decode cX6_forgetMade 2 = .ok (.iload_n 1, 1) := by decide +kernel
theorem dX6_forgetMade_3 : decode cX6_forgetMade 3 = .ok (.bipush 8, 2) := by decide +kernel
theorem dX6_forgetMade_5 : decode cX6_forgetMade 5 = .ok (.if_icmp .ge 16, 3) := by decide +kernel
theorem dX6_forgetMade_8 : decode cX6_forgetMade 8 = .ok (.aload_n 0, 1) := by decide +kernel
theorem dX6_forgetMade_9 : decode cX6_forgetMade 9 = .ok (.getfield 65, 3) := by decide +kernel
theorem dX6_forgetMade_12 : decode cX6_forgetMade 12 = .ok (.iload_n 1, 1) := by decide +kernel
theorem dX6_forgetMade_13 : decode cX6_forgetMade 13 = .ok (.iconst 0, 1) := by decide +kernel
theorem dX6_forgetMade_14 : decode cX6_forgetMade 14 = .ok (.iastore, 1) := by decide +kernel
theorem dX6_forgetMade_15 : decode cX6_forgetMade 15 = .ok (.iinc 1 1, 3) := by decide +kernel
theorem dX6_forgetMade_18 : decode cX6_forgetMade 18 = .ok (.goto (-16), 3) := by decide +kernel
theorem dX6_forgetMade_21 : decode cX6_forgetMade 21 = .ok (.return_, 1) := by decide +kernel
theorem dX6_becomes_0 : decode cX6_becomes 0 = .ok (.iload_n 0, 1) := by decide +kernel
theorem dX6_becomes_1 : decode cX6_becomes 1 = .ok (.ifCond .lt 17, 3) := by decide +kernel
theorem dX6_becomes_4 : decode cX6_becomes 4 = .ok (.iload_n 0, 1) := by decide +kernel
theorem dX6_becomes_5 : decode cX6_becomes 5 = .ok (.bipush 8, 2) := by decide +kernel
theorem dX6_becomes_7 : decode cX6_becomes 7 = .ok (.if_icmp .ge 11, 3) := by decide +kernel
theorem dX6_becomes_10 : decode cX6_becomes 10 = .ok (.getstatic 237, 3) := by decide +kernel
theorem dX6_becomes_13 : decode cX6_becomes 13 = .ok (.iload_n 0, 1) := by decide +kernel
theorem dX6_becomes_14 : decode cX6_becomes 14 = .ok (.iaload, 1) := by decide +kernel
theorem dX6_becomes_15 : decode cX6_becomes 15 = .ok (.goto 4, 3) := by decide +kernel
theorem dX6_becomes_18 : decode cX6_becomes 18 = .ok (.iconst 0, 1) := by decide +kernel
theorem dX6_becomes_19 : decode cX6_becomes 19 = .ok (.ireturn, 1) := by decide +kernel
theorem dX6_leastOf_0 : decode cX6_leastOf 0 = .ok (.lload_n 0, 1) := by decide +kernel
theorem dX6_leastOf_1 : decode cX6_leastOf 1 = .ok (.lconst 0, 1) := by decide +kernel
theorem dX6_leastOf_2 : decode cX6_leastOf 2 = .ok (.lcmp, 1) := by decide +kernel
theorem dX6_leastOf_3 : decode cX6_leastOf 3 = .ok (.ifCond .ne 7, 3) := by decide +kernel
theorem dX6_leastOf_6 : decode cX6_leastOf 6 = .ok (.iconst (-1), 1) := by decide +kernel
theorem dX6_leastOf_7 : decode cX6_leastOf 7 = .ok (.goto 12, 3) := by decide +kernel
theorem dX6_leastOf_10 : decode cX6_leastOf 10 = .ok (.lload_n 0, 1) := by decide +kernel
theorem dX6_leastOf_11 : decode cX6_leastOf 11 = .ok (.lload_n 0, 1) := by decide +kernel
theorem dX6_leastOf_12 : decode cX6_leastOf 12 = .ok (.lneg, 1) := by decide +kernel
theorem dX6_leastOf_13 : decode cX6_leastOf 13 = .ok (.land, 1) := by decide +kernel
theorem dX6_leastOf_14 : decode cX6_leastOf 14 = .ok (.lconst 1, 1) := by decide +kernel
theorem dX6_leastOf_15 : decode cX6_leastOf 15 = .ok (.lsub, 1) := by decide +kernel
theorem dX6_leastOf_16 : decode cX6_leastOf 16 = .ok (.invokestatic 123, 3) := by decide +kernel
theorem dX6_leastOf_19 : decode cX6_leastOf 19 = .ok (.ireturn, 1) := by decide +kernel
theorem dX6_with_0 : decode cX6_with 0 = .ok (.iload_n 2, 1) := by decide +kernel
theorem dX6_with_1 : decode cX6_with 1 = .ok (.ifCond .eq 11, 3) := by decide +kernel
theorem dX6_with_4 : decode cX6_with 4 = .ok (.iload_n 0, 1) := by decide +kernel
theorem dX6_with_5 : decode cX6_with 5 = .ok (.iconst 1, 1) := by decide +kernel
theorem dX6_with_6 : decode cX6_with 6 = .ok (.iload_n 1, 1) := by decide +kernel
theorem dX6_with_7 : decode cX6_with 7 = .ok (.ishl, 1) := by decide +kernel
theorem dX6_with_8 : decode cX6_with 8 = .ok (.ior, 1) := by decide +kernel
theorem dX6_with_9 : decode cX6_with 9 = .ok (.goto 10, 3) := by decide +kernel
theorem dX6_with_12 : decode cX6_with 12 = .ok (.iload_n 0, 1) := by decide +kernel
theorem dX6_with_13 : decode cX6_with 13 = .ok (.iconst 1, 1) := by decide +kernel
theorem dX6_with_14 : decode cX6_with 14 = .ok (.iload_n 1, 1) := by decide +kernel
theorem dX6_with_15 : decode cX6_with 15 = .ok (.ishl, 1) := by decide +kernel
theorem dX6_with_16 : decode cX6_with 16 = .ok (.iconst (-1), 1) := by decide +kernel
theorem dX6_with_17 : decode cX6_with 17 = .ok (.ixor, 1) := by decide +kernel
theorem dX6_with_18 : decode cX6_with 18 = .ok (.iand, 1) := by decide +kernel
theorem dX6_with_19 : decode cX6_with 19 = .ok (.ireturn, 1) := by decide +kernel
theorem dJ13_bitCount_95d88_0 : decode cJ13_bitCount_95d88 0 = .ok (.lload_n 0, 1) := by decide +kernel
theorem dJ13_bitCount_95d88_1 : decode cJ13_bitCount_95d88 1 = .ok (.lload_n 0, 1) := by decide +kernel
theorem dJ13_bitCount_95d88_2 : decode cJ13_bitCount_95d88 2 = .ok (.iconst 1, 1) := by decide +kernel
theorem dJ13_bitCount_95d88_3 : decode cJ13_bitCount_95d88 3 = .ok (.lushr, 1) := by decide +kernel
theorem dJ13_bitCount_95d88_4 : decode cJ13_bitCount_95d88 4 = .ok (.ldc2_w 314, 3) := by decide +kernel
theorem dJ13_bitCount_95d88_7 : decode cJ13_bitCount_95d88 7 = .ok (.land, 1) := by decide +kernel
theorem dJ13_bitCount_95d88_8 : decode cJ13_bitCount_95d88 8 = .ok (.lsub, 1) := by decide +kernel
theorem dJ13_bitCount_95d88_9 : decode cJ13_bitCount_95d88 9 = .ok (.lstore_n 0, 1) := by decide +kernel
theorem dJ13_bitCount_95d88_10 : decode cJ13_bitCount_95d88 10 = .ok (.lload_n 0, 1) := by decide +kernel
theorem dJ13_bitCount_95d88_11 : decode cJ13_bitCount_95d88 11 = .ok (.ldc2_w 316, 3) := by decide +kernel
theorem dJ13_bitCount_95d88_14 : decode cJ13_bitCount_95d88 14 = .ok (.land, 1) := by decide +kernel
theorem dJ13_bitCount_95d88_15 : decode cJ13_bitCount_95d88 15 = .ok (.lload_n 0, 1) := by decide +kernel
theorem dJ13_bitCount_95d88_16 : decode cJ13_bitCount_95d88 16 = .ok (.iconst 2, 1) := by decide +kernel
theorem dJ13_bitCount_95d88_17 : decode cJ13_bitCount_95d88 17 = .ok (.lushr, 1) := by decide +kernel
theorem dJ13_bitCount_95d88_18 : decode cJ13_bitCount_95d88 18 = .ok (.ldc2_w 316, 3) := by decide +kernel
theorem dJ13_bitCount_95d88_21 : decode cJ13_bitCount_95d88 21 = .ok (.land, 1) := by decide +kernel
theorem dJ13_bitCount_95d88_22 : decode cJ13_bitCount_95d88 22 = .ok (.ladd, 1) := by decide +kernel
theorem dJ13_bitCount_95d88_23 : decode cJ13_bitCount_95d88 23 = .ok (.lstore_n 0, 1) := by decide +kernel
theorem dJ13_bitCount_95d88_24 : decode cJ13_bitCount_95d88 24 = .ok (.lload_n 0, 1) := by decide +kernel
theorem dJ13_bitCount_95d88_25 : decode cJ13_bitCount_95d88 25 = .ok (.lload_n 0, 1) := by decide +kernel
theorem dJ13_bitCount_95d88_26 : decode cJ13_bitCount_95d88 26 = .ok (.iconst 4, 1) := by decide +kernel
theorem dJ13_bitCount_95d88_27 : decode cJ13_bitCount_95d88 27 = .ok (.lushr, 1) := by decide +kernel
theorem dJ13_bitCount_95d88_28 : decode cJ13_bitCount_95d88 28 = .ok (.ladd, 1) := by decide +kernel
theorem dJ13_bitCount_95d88_29 : decode cJ13_bitCount_95d88 29 = .ok (.ldc2_w 318, 3) := by decide +kernel
theorem dJ13_bitCount_95d88_32 : decode cJ13_bitCount_95d88 32 = .ok (.land, 1) := by decide +kernel
theorem dJ13_bitCount_95d88_33 : decode cJ13_bitCount_95d88 33 = .ok (.lstore_n 0, 1) := by decide +kernel
theorem dJ13_bitCount_95d88_34 : decode cJ13_bitCount_95d88 34 = .ok (.lload_n 0, 1) := by decide +kernel
theorem dJ13_bitCount_95d88_35 : decode cJ13_bitCount_95d88 35 = .ok (.lload_n 0, 1) := by decide +kernel
theorem dJ13_bitCount_95d88_36 : decode cJ13_bitCount_95d88 36 = .ok (.bipush 8, 2) := by decide +kernel
theorem dJ13_bitCount_95d88_38 : decode cJ13_bitCount_95d88 38 = .ok (.lushr, 1) := by decide +kernel
theorem dJ13_bitCount_95d88_39 : decode cJ13_bitCount_95d88 39 = .ok (.ladd, 1) := by decide +kernel
theorem dJ13_bitCount_95d88_40 : decode cJ13_bitCount_95d88 40 = .ok (.lstore_n 0, 1) := by decide +kernel
theorem dJ13_bitCount_95d88_41 : decode cJ13_bitCount_95d88 41 = .ok (.lload_n 0, 1) := by decide +kernel
theorem dJ13_bitCount_95d88_42 : decode cJ13_bitCount_95d88 42 = .ok (.lload_n 0, 1) := by decide +kernel
theorem dJ13_bitCount_95d88_43 : decode cJ13_bitCount_95d88 43 = .ok (.bipush 16, 2) := by decide +kernel
theorem dJ13_bitCount_95d88_45 : decode cJ13_bitCount_95d88 45 = .ok (.lushr, 1) := by decide +kernel
theorem dJ13_bitCount_95d88_46 : decode cJ13_bitCount_95d88 46 = .ok (.ladd, 1) := by decide +kernel
theorem dJ13_bitCount_95d88_47 : decode cJ13_bitCount_95d88 47 = .ok (.lstore_n 0, 1) := by decide +kernel
theorem dJ13_bitCount_95d88_48 : decode cJ13_bitCount_95d88 48 = .ok (.lload_n 0, 1) := by decide +kernel
theorem dJ13_bitCount_95d88_49 : decode cJ13_bitCount_95d88 49 = .ok (.lload_n 0, 1) := by decide +kernel
theorem dJ13_bitCount_95d88_50 : decode cJ13_bitCount_95d88 50 = .ok (.bipush 32, 2) := by decide +kernel
theorem dJ13_bitCount_95d88_52 : decode cJ13_bitCount_95d88 52 = .ok (.lushr, 1) := by decide +kernel
theorem dJ13_bitCount_95d88_53 : decode cJ13_bitCount_95d88 53 = .ok (.ladd, 1) := by decide +kernel
theorem dJ13_bitCount_95d88_54 : decode cJ13_bitCount_95d88 54 = .ok (.lstore_n 0, 1) := by decide +kernel
theorem dJ13_bitCount_95d88_55 : decode cJ13_bitCount_95d88 55 = .ok (.lload_n 0, 1) := by decide +kernel
theorem dJ13_bitCount_95d88_56 : decode cJ13_bitCount_95d88 56 = .ok (.l2i, 1) := by decide +kernel
theorem dJ13_bitCount_95d88_57 : decode cJ13_bitCount_95d88 57 = .ok (.bipush 127, 2) := by decide +kernel
theorem dJ13_bitCount_95d88_59 : decode cJ13_bitCount_95d88 59 = .ok (.iand, 1) := by decide +kernel
theorem dJ13_bitCount_95d88_60 : decode cJ13_bitCount_95d88 60 = .ok (.ireturn, 1) := by decide +kernel
theorem dJ9_floorMod_7cf53_0 : decode cJ9_floorMod_7cf53 0 = .ok (.iload_n 0, 1) := by decide +kernel
theorem dJ9_floorMod_7cf53_1 : decode cJ9_floorMod_7cf53 1 = .ok (.iload_n 1, 1) := by decide +kernel
theorem dJ9_floorMod_7cf53_2 : decode cJ9_floorMod_7cf53 2 = .ok (.irem, 1) := by decide +kernel
theorem dJ9_floorMod_7cf53_3 : decode cJ9_floorMod_7cf53 3 = .ok (.istore_n 2, 1) := by decide +kernel
theorem dJ9_floorMod_7cf53_4 : decode cJ9_floorMod_7cf53 4 = .ok (.iload_n 0, 1) := by decide +kernel
theorem dJ9_floorMod_7cf53_5 : decode cJ9_floorMod_7cf53 5 = .ok (.iload_n 1, 1) := by decide +kernel
theorem dJ9_floorMod_7cf53_6 : decode cJ9_floorMod_7cf53 6 = .ok (.ixor, 1) := by decide +kernel
theorem dJ9_floorMod_7cf53_7 : decode cJ9_floorMod_7cf53 7 = .ok (.ifCond .ge 11, 3) := by decide +kernel
theorem dJ9_floorMod_7cf53_10 : decode cJ9_floorMod_7cf53 10 = .ok (.iload_n 2, 1) := by decide +kernel
theorem dJ9_floorMod_7cf53_11 : decode cJ9_floorMod_7cf53 11 = .ok (.ifCond .eq 7, 3) := by decide +kernel
theorem dJ9_floorMod_7cf53_14 : decode cJ9_floorMod_7cf53 14 = .ok (.iload_n 2, 1) := by decide +kernel
theorem dJ9_floorMod_7cf53_15 : decode cJ9_floorMod_7cf53 15 = .ok (.iload_n 1, 1) := by decide +kernel
theorem dJ9_floorMod_7cf53_16 : decode cJ9_floorMod_7cf53 16 = .ok (.iadd, 1) := by decide +kernel
theorem dJ9_floorMod_7cf53_17 : decode cJ9_floorMod_7cf53 17 = .ok (.ireturn, 1) := by decide +kernel
theorem dJ9_floorMod_7cf53_18 : decode cJ9_floorMod_7cf53 18 = .ok (.iload_n 2, 1) := by decide +kernel
theorem dJ9_floorMod_7cf53_19 : decode cJ9_floorMod_7cf53 19 = .ok (.ireturn, 1) := by decide +kernel
theorem dJ9_max_7cf53_0 : decode cJ9_max_7cf53 0 = .ok (.iload_n 0, 1) := by decide +kernel
theorem dJ9_max_7cf53_1 : decode cJ9_max_7cf53 1 = .ok (.iload_n 1, 1) := by decide +kernel
theorem dJ9_max_7cf53_2 : decode cJ9_max_7cf53 2 = .ok (.if_icmp .lt 7, 3) := by decide +kernel
theorem dJ9_max_7cf53_5 : decode cJ9_max_7cf53 5 = .ok (.iload_n 0, 1) := by decide +kernel
theorem dJ9_max_7cf53_6 : decode cJ9_max_7cf53 6 = .ok (.goto 4, 3) := by decide +kernel
theorem dJ9_max_7cf53_9 : decode cJ9_max_7cf53 9 = .ok (.iload_n 1, 1) := by decide +kernel
theorem dJ9_max_7cf53_10 : decode cJ9_max_7cf53 10 = .ok (.ireturn, 1) := by decide +kernel
theorem dJ9_min_7cf53_0 : decode cJ9_min_7cf53 0 = .ok (.iload_n 0, 1) := by decide +kernel
theorem dJ9_min_7cf53_1 : decode cJ9_min_7cf53 1 = .ok (.iload_n 1, 1) := by decide +kernel
theorem dJ9_min_7cf53_2 : decode cJ9_min_7cf53 2 = .ok (.if_icmp .gt 7, 3) := by decide +kernel
theorem dJ9_min_7cf53_5 : decode cJ9_min_7cf53 5 = .ok (.iload_n 0, 1) := by decide +kernel
theorem dJ9_min_7cf53_6 : decode cJ9_min_7cf53 6 = .ok (.goto 4, 3) := by decide +kernel
theorem dJ9_min_7cf53_9 : decode cJ9_min_7cf53 9 = .ok (.iload_n 1, 1) := by decide +kernel
theorem dJ9_min_7cf53_10 : decode cJ9_min_7cf53 10 = .ok (.ireturn, 1) := by decide +kernel
theorem dL_cell_0 : decode cL_cell 0 = .ok (.iload_n 1, 1) := by decide +kernel
theorem dL_cell_1 : decode cL_cell 1 = .ok (.aload_n 0, 1) := by decide +kernel
theorem dL_cell_2 : decode cL_cell 2 = .ok (.arraylength, 1) := by decide +kernel
theorem dL_cell_3 : decode cL_cell 3 = .ok (.if_icmp .ge 9, 3) := by decide +kernel
theorem dL_cell_6 : decode cL_cell 6 = .ok (.aload_n 0, 1) := by decide +kernel
theorem dL_cell_7 : decode cL_cell 7 = .ok (.iload_n 1, 1) := by decide +kernel
theorem dL_cell_8 : decode cL_cell 8 = .ok (.iaload, 1) := by decide +kernel
theorem dL_cell_9 : decode cL_cell 9 = .ok (.goto 9, 3) := by decide +kernel
theorem dL_cell_12 : decode cL_cell 12 = .ok (.ldc 7, 2) := by decide +kernel
theorem dL_cell_14 : decode cL_cell 14 = .ok (.iload_n 1, 1) := by decide +kernel
theorem dL_cell_15 : decode cL_cell 15 = .ok (.iconst 1, 1) := by decide +kernel
theorem dL_cell_16 : decode cL_cell 16 = .ok (.iadd, 1) := by decide +kernel
theorem dL_cell_17 : decode cL_cell 17 = .ok (.imul, 1) := by decide +kernel
theorem dL_cell_18 : decode cL_cell 18 = .ok (.ireturn, 1) := by decide +kernel
theorem dL_low_0 : decode cL_low 0 = .ok (.iload_n 0, 1) := by decide +kernel
theorem dL_low_1 : decode cL_low 1 = .ok (.ldc 8, 2) := by decide +kernel
theorem dL_low_3 : decode cL_low 3 = .ok (.iand, 1) := by decide +kernel
theorem dL_low_4 : decode cL_low 4 = .ok (.iload_n 1, 1) := by decide +kernel
theorem dL_low_5 : decode cL_low 5 = .ok (.irem, 1) := by decide +kernel
theorem dL_low_6 : decode cL_low 6 = .ok (.ireturn, 1) := by decide +kernel
theorem dL_vertical_0 : decode cL_vertical 0 = .ok (.aload_n 0, 1) := by decide +kernel
theorem dL_vertical_1 : decode cL_vertical 1 = .ok (.iconst 0, 1) := by decide +kernel
theorem dL_vertical_2 : decode cL_vertical 2 = .ok (.iaload, 1) := by decide +kernel
theorem dL_vertical_3 : decode cL_vertical 3 = .ok (.aload_n 0, 1) := by decide +kernel
theorem dL_vertical_4 : decode cL_vertical 4 = .ok (.iconst 1, 1) := by decide +kernel
theorem dL_vertical_5 : decode cL_vertical 5 = .ok (.iaload, 1) := by decide +kernel
theorem dL_vertical_6 : decode cL_vertical 6 = .ok (.iconst 1, 1) := by decide +kernel
theorem dL_vertical_7 : decode cL_vertical 7 = .ok (.iadd, 1) := by decide +kernel
theorem dL_vertical_8 : decode cL_vertical 8 = .ok (.imul, 1) := by decide +kernel
theorem dL_vertical_9 : decode cL_vertical 9 = .ok (.ireturn, 1) := by decide +kernel
theorem dL_edges_0 : decode cL_edges 0 = .ok (.aload_n 0, 1) := by decide +kernel
theorem dL_edges_1 : decode cL_edges 1 = .ok (.invokestatic 9, 3) := by decide +kernel
theorem dL_edges_4 : decode cL_edges 4 = .ok (.aload_n 0, 1) := by decide +kernel
theorem dL_edges_5 : decode cL_edges 5 = .ok (.iconst 0, 1) := by decide +kernel
theorem dL_edges_6 : decode cL_edges 6 = .ok (.iaload, 1) := by decide +kernel
theorem dL_edges_7 : decode cL_edges 7 = .ok (.iconst 1, 1) := by decide +kernel
theorem dL_edges_8 : decode cL_edges 8 = .ok (.iadd, 1) := by decide +kernel
theorem dL_edges_9 : decode cL_edges 9 = .ok (.aload_n 0, 1) := by decide +kernel
theorem dL_edges_10 : decode cL_edges 10 = .ok (.iconst 1, 1) := by decide +kernel
theorem dL_edges_11 : decode cL_edges 11 = .ok (.iaload, 1) := by decide +kernel
theorem dL_edges_12 : decode cL_edges 12 = .ok (.imul, 1) := by decide +kernel
theorem dL_edges_13 : decode cL_edges 13 = .ok (.iadd, 1) := by decide +kernel
theorem dL_edges_14 : decode cL_edges 14 = .ok (.ireturn, 1) := by decide +kernel
theorem dL_corners_0 : decode cL_corners 0 = .ok (.aload_n 0, 1) := by decide +kernel
theorem dL_corners_1 : decode cL_corners 1 = .ok (.iconst 0, 1) := by decide +kernel
theorem dL_corners_2 : decode cL_corners 2 = .ok (.iaload, 1) := by decide +kernel
theorem dL_corners_3 : decode cL_corners 3 = .ok (.iconst 1, 1) := by decide +kernel
theorem dL_corners_4 : decode cL_corners 4 = .ok (.iadd, 1) := by decide +kernel
theorem dL_corners_5 : decode cL_corners 5 = .ok (.aload_n 0, 1) := by decide +kernel
theorem dL_corners_6 : decode cL_corners 6 = .ok (.iconst 1, 1) := by decide +kernel
theorem dL_corners_7 : decode cL_corners 7 = .ok (.iaload, 1) := by decide +kernel
theorem dL_corners_8 : decode cL_corners 8 = .ok (.iconst 1, 1) := by decide +kernel
theorem dL_corners_9 : decode cL_corners 9 = .ok (.iadd, 1) := by decide +kernel
theorem dL_corners_10 : decode cL_corners 10 = .ok (.imul, 1) := by decide +kernel
theorem dL_corners_11 : decode cL_corners 11 = .ok (.ireturn, 1) := by decide +kernel
theorem dL_ends_0 : decode cL_ends 0 = .ok (.aload_n 0, 1) := by decide +kernel
theorem dL_ends_1 : decode cL_ends 1 = .ok (.iconst 0, 1) := by decide +kernel
theorem dL_ends_2 : decode cL_ends 2 = .ok (.iaload, 1) := by decide +kernel
theorem dL_ends_3 : decode cL_ends 3 = .ok (.iconst 1, 1) := by decide +kernel
theorem dL_ends_4 : decode cL_ends 4 = .ok (.iadd, 1) := by decide +kernel
theorem dL_ends_5 : decode cL_ends 5 = .ok (.istore_n 2, 1) := by decide +kernel
theorem dL_ends_6 : decode cL_ends 6 = .ok (.aload_n 0, 1) := by decide +kernel
theorem dL_ends_7 : decode cL_ends 7 = .ok (.invokestatic 9, 3) := by decide +kernel
theorem dL_ends_10 : decode cL_ends 10 = .ok (.istore_n 3, 1) := by decide +kernel
theorem dL_ends_11 : decode cL_ends 11 = .ok (.iload_n 1, 1) := by decide +kernel
theorem dL_ends_12 : decode cL_ends 12 = .ok (.iload_n 3, 1) := by decide +kernel
theorem dL_ends_13 : decode cL_ends 13 = .ok (.if_icmp .ge 13, 3) := by decide +kernel
theorem dL_ends_16 : decode cL_ends 16 = .ok (.iload_n 1, 1) := by decide +kernel
theorem dL_ends_17 : decode cL_ends 17 = .ok (.iload_n 1, 1) := by decide +kernel
theorem dL_ends_18 : decode cL_ends 18 = .ok (.aload_n 0, 1) := by decide +kernel
theorem dL_ends_19 : decode cL_ends 19 = .ok (.iconst 0, 1) := by decide +kernel
theorem dL_ends_20 : decode cL_ends 20 = .ok (.iaload, 1) := by decide +kernel
theorem dL_ends_21 : decode cL_ends 21 = .ok (.idiv, 1) := by decide +kernel
theorem dL_ends_22 : decode cL_ends 22 = .ok (.iadd, 1) := by decide +kernel
theorem dL_ends_23 : decode cL_ends 23 = .ok (.goto 6, 3) := by decide +kernel
theorem dL_ends_26 : decode cL_ends 26 = .ok (.iload_n 1, 1) := by decide +kernel
theorem dL_ends_27 : decode cL_ends 27 = .ok (.iload_n 3, 1) := by decide +kernel
theorem dL_ends_28 : decode cL_ends 28 = .ok (.isub, 1) := by decide +kernel
theorem dL_ends_29 : decode cL_ends 29 = .ok (.istore 4, 2) := by decide +kernel
theorem dL_ends_31 : decode cL_ends 31 = .ok (.bipush 32, 2) := by decide +kernel
theorem dL_ends_33 : decode cL_ends 33 = .ok (.iload 4, 2) := by decide +kernel
theorem dL_ends_35 : decode cL_ends 35 = .ok (.imul, 1) := by decide +kernel
theorem dL_ends_36 : decode cL_ends 36 = .ok (.iload_n 1, 1) := by decide +kernel
theorem dL_ends_37 : decode cL_ends 37 = .ok (.iload_n 3, 1) := by decide +kernel
theorem dL_ends_38 : decode cL_ends 38 = .ok (.if_icmp .ge 10, 3) := by decide +kernel
theorem dL_ends_41 : decode cL_ends 41 = .ok (.iload 4, 2) := by decide +kernel
theorem dL_ends_43 : decode cL_ends 43 = .ok (.iconst 1, 1) := by decide +kernel
theorem dL_ends_44 : decode cL_ends 44 = .ok (.iadd, 1) := by decide +kernel
theorem dL_ends_45 : decode cL_ends 45 = .ok (.goto 7, 3) := by decide +kernel
theorem dL_ends_48 : decode cL_ends 48 = .ok (.iload 4, 2) := by decide +kernel
theorem dL_ends_50 : decode cL_ends 50 = .ok (.iload_n 2, 1) := by decide +kernel
theorem dL_ends_51 : decode cL_ends 51 = .ok (.iadd, 1) := by decide +kernel
theorem dL_ends_52 : decode cL_ends 52 = .ok (.iadd, 1) := by decide +kernel
theorem dL_ends_53 : decode cL_ends 53 = .ok (.ireturn, 1) := by decide +kernel
theorem dL_isAt_0 : decode cL_isAt 0 = .ok (.aload_n 0, 1) := by decide +kernel
theorem dL_isAt_1 : decode cL_isAt 1 = .ok (.iload_n 1, 1) := by decide +kernel
theorem dL_isAt_2 : decode cL_isAt 2 = .ok (.invokestatic 15, 3) := by decide +kernel
theorem dL_isAt_5 : decode cL_isAt 5 = .ok (.bipush 32, 2) := by decide +kernel
theorem dL_isAt_7 : decode cL_isAt 7 = .ok (.idiv, 1) := by decide +kernel
theorem dL_isAt_8 : decode cL_isAt 8 = .ok (.iload_n 2, 1) := by decide +kernel
theorem dL_isAt_9 : decode cL_isAt 9 = .ok (.if_icmp .eq 15, 3) := by decide +kernel
theorem dL_isAt_12 : decode cL_isAt 12 = .ok (.aload_n 0, 1) := by decide +kernel
theorem dL_isAt_13 : decode cL_isAt 13 = .ok (.iload_n 1, 1) := by decide +kernel
theorem dL_isAt_14 : decode cL_isAt 14 = .ok (.invokestatic 15, 3) := by decide +kernel
theorem dL_isAt_17 : decode cL_isAt 17 = .ok (.bipush 32, 2) := by decide +kernel
theorem dL_isAt_19 : decode cL_isAt 19 = .ok (.irem, 1) := by decide +kernel
theorem dL_isAt_20 : decode cL_isAt 20 = .ok (.iload_n 2, 1) := by decide +kernel
theorem dL_isAt_21 : decode cL_isAt 21 = .ok (.if_icmp .ne 7, 3) := by decide +kernel
theorem dL_isAt_24 : decode cL_isAt 24 = .ok (.iconst 1, 1) := by decide +kernel
theorem dL_isAt_25 : decode cL_isAt 25 = .ok (.goto 4, 3) := by decide +kernel
theorem dL_isAt_28 : decode cL_isAt 28 = .ok (.iconst 0, 1) := by decide +kernel
theorem dL_isAt_29 : decode cL_isAt 29 = .ok (.ireturn, 1) := by decide +kernel
theorem dL_isAround_0 : decode cL_isAround 0 = .ok (.iload_n 2, 1) := by decide +kernel
theorem dL_isAround_1 : decode cL_isAround 1 = .ok (.aload_n 0, 1) := by decide +kernel
theorem dL_isAround_2 : decode cL_isAround 2 = .ok (.iconst 0, 1) := by decide +kernel
theorem dL_isAround_3 : decode cL_isAround 3 = .ok (.iaload, 1) := by decide +kernel
theorem dL_isAround_4 : decode cL_isAround 4 = .ok (.idiv, 1) := by decide +kernel
theorem dL_isAround_5 : decode cL_isAround 5 = .ok (.istore_n 3, 1) := by decide +kernel
theorem dL_isAround_6 : decode cL_isAround 6 = .ok (.iload_n 3, 1) := by decide +kernel
theorem dL_isAround_7 : decode cL_isAround 7 = .ok (.aload_n 0, 1) := by decide +kernel
theorem dL_isAround_8 : decode cL_isAround 8 = .ok (.iconst 0, 1) := by decide +kernel
theorem dL_isAround_9 : decode cL_isAround 9 = .ok (.iaload, 1) := by decide +kernel
theorem dL_isAround_10 : decode cL_isAround 10 = .ok (.iconst 1, 1) := by decide +kernel
theorem dL_isAround_11 : decode cL_isAround 11 = .ok (.iadd, 1) := by decide +kernel
theorem dL_isAround_12 : decode cL_isAround 12 = .ok (.imul, 1) := by decide +kernel
theorem dL_isAround_13 : decode cL_isAround 13 = .ok (.iload_n 2, 1) := by decide +kernel
theorem dL_isAround_14 : decode cL_isAround 14 = .ok (.aload_n 0, 1) := by decide +kernel
theorem dL_isAround_15 : decode cL_isAround 15 = .ok (.iconst 0, 1) := by decide +kernel
theorem dL_isAround_16 : decode cL_isAround 16 = .ok (.iaload, 1) := by decide +kernel
theorem dL_isAround_17 : decode cL_isAround 17 = .ok (.irem, 1) := by decide +kernel
theorem dL_isAround_18 : decode cL_isAround 18 = .ok (.iadd, 1) := by decide +kernel
theorem dL_isAround_19 : decode cL_isAround 19 = .ok (.istore 4, 2) := by decide +kernel
theorem dL_isAround_21 : decode cL_isAround 21 = .ok (.aload_n 0, 1) := by decide +kernel
theorem dL_isAround_22 : decode cL_isAround 22 = .ok (.iload_n 1, 1) := by decide +kernel
theorem dL_isAround_23 : decode cL_isAround 23 = .ok (.invokestatic 15, 3) := by decide +kernel
theorem dL_isAround_26 : decode cL_isAround 26 = .ok (.bipush 32, 2) := by decide +kernel
theorem dL_isAround_28 : decode cL_isAround 28 = .ok (.idiv, 1) := by decide +kernel
theorem dL_isAround_29 : decode cL_isAround 29 = .ok (.istore 5, 2) := by decide +kernel
theorem dL_isAround_31 : decode cL_isAround 31 = .ok (.aload_n 0, 1) := by decide +kernel
theorem dL_isAround_32 : decode cL_isAround 32 = .ok (.iload_n 1, 1) := by decide +kernel
theorem dL_isAround_33 : decode cL_isAround 33 = .ok (.invokestatic 15, 3) := by decide +kernel
theorem dL_isAround_36 : decode cL_isAround 36 = .ok (.bipush 32, 2) := by decide +kernel
theorem dL_isAround_38 : decode cL_isAround 38 = .ok (.irem, 1) := by decide +kernel
theorem dL_isAround_39 : decode cL_isAround 39 = .ok (.istore 6, 2) := by decide +kernel
theorem dL_isAround_41 : decode cL_isAround 41 = .ok (.iload 5, 2) := by decide +kernel
theorem dL_isAround_43 : decode cL_isAround 43 = .ok (.iload 4, 2) := by decide +kernel
theorem dL_isAround_45 : decode cL_isAround 45 = .ok (.if_icmp .eq 25, 3) := by decide +kernel
theorem dL_isAround_48 : decode cL_isAround 48 = .ok (.iload 5, 2) := by decide +kernel
theorem dL_isAround_50 : decode cL_isAround 50 = .ok (.iload 4, 2) := by decide +kernel
theorem dL_isAround_52 : decode cL_isAround 52 = .ok (.iconst 1, 1) := by decide +kernel
theorem dL_isAround_53 : decode cL_isAround 53 = .ok (.iadd, 1) := by decide +kernel
theorem dL_isAround_54 : decode cL_isAround 54 = .ok (.if_icmp .eq 16, 3) := by decide +kernel
theorem dL_isAround_57 : decode cL_isAround 57 = .ok (.iload 5, 2) := by decide +kernel
theorem dL_isAround_59 : decode cL_isAround 59 = .ok (.iload 4, 2) := by decide +kernel
theorem dL_isAround_61 : decode cL_isAround 61 = .ok (.aload_n 0, 1) := by decide +kernel
theorem dL_isAround_62 : decode cL_isAround 62 = .ok (.iconst 0, 1) := by decide +kernel
theorem dL_isAround_63 : decode cL_isAround 63 = .ok (.iaload, 1) := by decide +kernel
theorem dL_isAround_64 : decode cL_isAround 64 = .ok (.iadd, 1) := by decide +kernel
theorem dL_isAround_65 : decode cL_isAround 65 = .ok (.iconst 1, 1) := by decide +kernel
theorem dL_isAround_66 : decode cL_isAround 66 = .ok (.iadd, 1) := by decide +kernel
theorem dL_isAround_67 : decode cL_isAround 67 = .ok (.if_icmp .ne 7, 3) := by decide +kernel
theorem dL_isAround_70 : decode cL_isAround 70 = .ok (.iconst 1, 1) := by decide +kernel
theorem dL_isAround_71 : decode cL_isAround 71 = .ok (.goto 4, 3) := by decide +kernel
theorem dL_isAround_74 : decode cL_isAround 74 = .ok (.iconst 0, 1) := by decide +kernel
theorem dL_isAround_75 : decode cL_isAround 75 = .ok (.istore 7, 2) := by decide +kernel
theorem dL_isAround_77 : decode cL_isAround 77 = .ok (.iload 7, 2) := by decide +kernel
theorem dL_isAround_79 : decode cL_isAround 79 = .ok (.ifCond .eq 42, 3) := by decide +kernel
theorem dL_isAround_82 : decode cL_isAround 82 = .ok (.iload 6, 2) := by decide +kernel
theorem dL_isAround_84 : decode cL_isAround 84 = .ok (.iload 4, 2) := by decide +kernel
theorem dL_isAround_86 : decode cL_isAround 86 = .ok (.iconst 1, 1) := by decide +kernel
theorem dL_isAround_87 : decode cL_isAround 87 = .ok (.iadd, 1) := by decide +kernel
theorem dL_isAround_88 : decode cL_isAround 88 = .ok (.if_icmp .eq 29, 3) := by decide +kernel
theorem dL_isAround_91 : decode cL_isAround 91 = .ok (.iload 6, 2) := by decide +kernel
