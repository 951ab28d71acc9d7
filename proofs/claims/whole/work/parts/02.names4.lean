theorem dX7_byCorners_36 : decode cX7_byCorners 36 = .ok (.iload_n 3, 1) := by decide +kernel
theorem dX7_byCorners_37 : decode cX7_byCorners 37 = .ok (.ifCond .le 7, 3) := by decide +kernel
theorem dX7_byCorners_40 : decode cX7_byCorners 40 = .ok (.iconst 1, 1) := by decide +kernel
theorem dX7_byCorners_41 : decode cX7_byCorners 41 = .ok (.goto 25, 3) := by decide +kernel
theorem dX7_byCorners_44 : decode cX7_byCorners 44 = .ok (.iconst 0, 1) := by decide +kernel
theorem dX7_byCorners_45 : decode cX7_byCorners 45 = .ok (.goto 21, 3) := by decide +kernel
theorem dX7_byCorners_48 : decode cX7_byCorners 48 = .ok (.iload_n 3, 1) := by decide +kernel
theorem dX7_byCorners_49 : decode cX7_byCorners 49 = .ok (.iconst 1, 1) := by decide +kernel
theorem dX7_byCorners_50 : decode cX7_byCorners 50 = .ok (.if_icmp .ne 15, 3) := by decide +kernel
theorem dX7_byCorners_53 : decode cX7_byCorners 53 = .ok (.iload 4, 2) := by decide +kernel
theorem dX7_byCorners_55 : decode cX7_byCorners 55 = .ok (.iload_n 1, 1) := by decide +kernel
theorem dX7_byCorners_56 : decode cX7_byCorners 56 = .ok (.iconst 3, 1) := by decide +kernel
theorem dX7_byCorners_57 : decode cX7_byCorners 57 = .ok (.isub, 1) := by decide +kernel
theorem dX7_byCorners_58 : decode cX7_byCorners 58 = .ok (.if_icmp .ne 7, 3) := by decide +kernel
theorem dX7_byCorners_61 : decode cX7_byCorners 61 = .ok (.iconst 1, 1) := by decide +kernel
theorem dX7_byCorners_62 : decode cX7_byCorners 62 = .ok (.goto 4, 3) := by decide +kernel
theorem dX7_byCorners_65 : decode cX7_byCorners 65 = .ok (.iconst 0, 1) := by decide +kernel
theorem dX7_byCorners_66 : decode cX7_byCorners 66 = .ok (.istore 5, 2) := by decide +kernel
theorem dX7_byCorners_68 : decode cX7_byCorners 68 = .ok (.iload 5, 2) := by decide +kernel
theorem dX7_byCorners_70 : decode cX7_byCorners 70 = .ok (.ifCond .eq 25, 3) := by decide +kernel
theorem dX7_byCorners_73 : decode cX7_byCorners 73 = .ok (.aload_n 0, 1) := by decide +kernel
theorem dX7_byCorners_74 : decode cX7_byCorners 74 = .ok (.iload_n 1, 1) := by decide +kernel
theorem dX7_byCorners_75 : decode cX7_byCorners 75 = .ok (.aload_n 0, 1) := by decide +kernel
theorem dX7_byCorners_76 : decode cX7_byCorners 76 = .ok (.iload_n 2, 1) := by decide +kernel
theorem dX7_byCorners_77 : decode cX7_byCorners 77 = .ok (.invokevirtual 134, 3) := by decide +kernel
theorem dX7_byCorners_80 : decode cX7_byCorners 80 = .ok (.iload_n 1, 1) := by decide +kernel
theorem dX7_byCorners_81 : decode cX7_byCorners 81 = .ok (.iconst 4, 1) := by decide +kernel
theorem dX7_byCorners_82 : decode cX7_byCorners 82 = .ok (.if_icmp .ne 7, 3) := by decide +kernel
theorem dX7_byCorners_85 : decode cX7_byCorners 85 = .ok (.iconst 1, 1) := by decide +kernel
theorem dX7_byCorners_86 : decode cX7_byCorners 86 = .ok (.goto 4, 3) := by decide +kernel
theorem dX7_byCorners_89 : decode cX7_byCorners 89 = .ok (.iconst 2, 1) := by decide +kernel
theorem dX7_byCorners_90 : decode cX7_byCorners 90 = .ok (.iload_n 2, 1) := by decide +kernel
theorem dX7_byCorners_91 : decode cX7_byCorners 91 = .ok (.invokevirtual 130, 3) := by decide +kernel
theorem dX7_byCorners_94 : decode cX7_byCorners 94 = .ok (.ireturn, 1) := by decide +kernel
theorem dX7_byCorners_95 : decode cX7_byCorners 95 = .ok (.iinc 2 1, 3) := by decide +kernel
theorem dX7_byCorners_98 : decode cX7_byCorners 98 = .ok (.goto (-96), 3) := by decide +kernel
theorem dX7_byCorners_101 : decode cX7_byCorners 101 = .ok (.iconst 0, 1) := by decide +kernel
theorem dX7_byCorners_102 : decode cX7_byCorners 102 = .ok (.ireturn, 1) := by decide +kernel
theorem dX7_byRings_0 : decode cX7_byRings 0 = .ok (.aload_n 0, 1) := by decide +kernel
theorem dX7_byRings_1 : decode cX7_byRings 1 = .ok (.invokevirtual 94, 3) := by decide +kernel
theorem dX7_byRings_4 : decode cX7_byRings 4 = .ok (.iconst 0, 1) := by decide +kernel
theorem dX7_byRings_5 : decode cX7_byRings 5 = .ok (.istore_n 1, 1) := by decide +kernel
theorem dX7_byRings_6 : decode cX7_byRings 6 = .ok (.iload_n 1, 1) := by decide +kernel
theorem dX7_byRings_7 : decode cX7_byRings 7 = .ok (.aload_n 0, 1) := by decide +kernel
theorem dX7_byRings_8 : decode cX7_byRings 8 = .ok (.invokevirtual 69, 3) := by decide +kernel
theorem dX7_byRings_11 : decode cX7_byRings 11 = .ok (.if_icmp .ge 100, 3) := by decide +kernel
theorem dX7_byRings_14 : decode cX7_byRings 14 = .ok (.aload_n 0, 1) := by decide +kernel
theorem dX7_byRings_15 : decode cX7_byRings 15 = .ok (.iload_n 1, 1) := by decide +kernel
theorem dX7_byRings_16 : decode cX7_byRings 16 = .ok (.invokevirtual 56, 3) := by decide +kernel
theorem dX7_byRings_19 : decode cX7_byRings 19 = .ok (.ifCond .ne 86, 3) := by decide +kernel
theorem dX7_byRings_22 : decode cX7_byRings 22 = .ok (.aload_n 0, 1) := by decide +kernel
theorem dX7_byRings_23 : decode cX7_byRings 23 = .ok (.aload_n 0, 1) := by decide +kernel
theorem dX7_byRings_24 : decode cX7_byRings 24 = .ok (.iload_n 1, 1) := by decide +kernel
theorem dX7_byRings_25 : decode cX7_byRings 25 = .ok (.iconst 0, 1) := by decide +kernel
theorem dX7_byRings_26 : decode cX7_byRings 26 = .ok (.invokevirtual 72, 3) := by decide +kernel
theorem dX7_byRings_29 : decode cX7_byRings 29 = .ok (.invokevirtual 76, 3) := by decide +kernel
theorem dX7_byRings_32 : decode cX7_byRings 32 = .ok (.aload_n 0, 1) := by decide +kernel
theorem dX7_byRings_33 : decode cX7_byRings 33 = .ok (.aload_n 0, 1) := by decide +kernel
theorem dX7_byRings_34 : decode cX7_byRings 34 = .ok (.iload_n 1, 1) := by decide +kernel
theorem dX7_byRings_35 : decode cX7_byRings 35 = .ok (.iconst 1, 1) := by decide +kernel
theorem dX7_byRings_36 : decode cX7_byRings 36 = .ok (.invokevirtual 72, 3) := by decide +kernel
theorem dX7_byRings_39 : decode cX7_byRings 39 = .ok (.invokevirtual 76, 3) := by decide +kernel
theorem dX7_byRings_42 : decode cX7_byRings 42 = .ok (.if_icmp .ne 63, 3) := by decide +kernel
theorem dX7_byRings_45 : decode cX7_byRings 45 = .ok (.aload_n 0, 1) := by decide +kernel
theorem dX7_byRings_46 : decode cX7_byRings 46 = .ok (.getfield 7, 3) := by decide +kernel
theorem dX7_byRings_49 : decode cX7_byRings 49 = .ok (.bipush 18, 2) := by decide +kernel
theorem dX7_byRings_51 : decode cX7_byRings 51 = .ok (.iload_n 1, 1) := by decide +kernel
theorem dX7_byRings_52 : decode cX7_byRings 52 = .ok (.iadd, 1) := by decide +kernel
theorem dX7_byRings_53 : decode cX7_byRings 53 = .ok (.iconst 1, 1) := by decide +kernel
theorem dX7_byRings_54 : decode cX7_byRings 54 = .ok (.iastore, 1) := by decide +kernel
theorem dX7_byRings_55 : decode cX7_byRings 55 = .ok (.aload_n 0, 1) := by decide +kernel
theorem dX7_byRings_56 : decode cX7_byRings 56 = .ok (.invokevirtual 104, 3) := by decide +kernel
theorem dX7_byRings_59 : decode cX7_byRings 59 = .ok (.istore_n 2, 1) := by decide +kernel
theorem dX7_byRings_60 : decode cX7_byRings 60 = .ok (.aload_n 0, 1) := by decide +kernel
theorem dX7_byRings_61 : decode cX7_byRings 61 = .ok (.getfield 7, 3) := by decide +kernel
theorem dX7_byRings_64 : decode cX7_byRings 64 = .ok (.bipush 18, 2) := by decide +kernel
theorem dX7_byRings_66 : decode cX7_byRings 66 = .ok (.iload_n 1, 1) := by decide +kernel
theorem dX7_byRings_67 : decode cX7_byRings 67 = .ok (.iadd, 1) := by decide +kernel
theorem dX7_byRings_68 : decode cX7_byRings 68 = .ok (.iconst 0, 1) := by decide +kernel
theorem dX7_byRings_69 : decode cX7_byRings 69 = .ok (.iastore, 1) := by decide +kernel
theorem dX7_byRings_70 : decode cX7_byRings 70 = .ok (.iload_n 2, 1) := by decide +kernel
theorem dX7_byRings_71 : decode cX7_byRings 71 = .ok (.ifCond .eq 25, 3) := by decide +kernel
theorem dX7_byRings_74 : decode cX7_byRings 74 = .ok (.aload_n 0, 1) := by decide +kernel
theorem dX7_byRings_75 : decode cX7_byRings 75 = .ok (.getfield 22, 3) := by decide +kernel
theorem dX7_byRings_78 : decode cX7_byRings 78 = .ok (.aload_n 0, 1) := by decide +kernel
theorem dX7_byRings_79 : decode cX7_byRings 79 = .ok (.aload_n 0, 1) := by decide +kernel
theorem dX7_byRings_80 : decode cX7_byRings 80 = .ok (.iload_n 1, 1) := by decide +kernel
theorem dX7_byRings_81 : decode cX7_byRings 81 = .ok (.iconst 0, 1) := by decide +kernel
theorem dX7_byRings_82 : decode cX7_byRings 82 = .ok (.invokevirtual 72, 3) := by decide +kernel
theorem dX7_byRings_85 : decode cX7_byRings 85 = .ok (.invokevirtual 76, 3) := by decide +kernel
theorem dX7_byRings_88 : decode cX7_byRings 88 = .ok (.iaload, 1) := by decide +kernel
theorem dX7_byRings_89 : decode cX7_byRings 89 = .ok (.aload_n 0, 1) := by decide +kernel
theorem dX7_byRings_90 : decode cX7_byRings 90 = .ok (.getfield 66, 3) := by decide +kernel
theorem dX7_byRings_93 : decode cX7_byRings 93 = .ok (.if_icmp .eq 12, 3) := by decide +kernel
theorem dX7_byRings_96 : decode cX7_byRings 96 = .ok (.aload_n 0, 1) := by decide +kernel
theorem dX7_byRings_97 : decode cX7_byRings 97 = .ok (.iconst 5, 1) := by decide +kernel
theorem dX7_byRings_98 : decode cX7_byRings 98 = .ok (.iload_n 1, 1) := by decide +kernel
theorem dX7_byRings_99 : decode cX7_byRings 99 = .ok (.iconst 2, 1) := by decide +kernel
theorem dX7_byRings_100 : decode cX7_byRings 100 = .ok (.iconst (-1), 1) := by decide +kernel
theorem dX7_byRings_101 : decode cX7_byRings 101 = .ok (.invokevirtual 130, 3) := by decide +kernel
theorem dX7_byRings_104 : decode cX7_byRings 104 = .ok (.ireturn, 1) := by decide +kernel
theorem dX7_byRings_105 : decode cX7_byRings 105 = .ok (.iinc 1 1, 3) := by decide +kernel
theorem dX7_byRings_108 : decode cX7_byRings 108 = .ok (.goto (-102), 3) := by decide +kernel
theorem dX7_byRings_111 : decode cX7_byRings 111 = .ok (.iconst 0, 1) := by decide +kernel
theorem dX7_byRings_112 : decode cX7_byRings 112 = .ok (.ireturn, 1) := by decide +kernel
theorem dX7_findsPlain_0 : decode cX7_findsPlain 0 = .ok (.aload_n 0, 1) := by decide +kernel
theorem dX7_findsPlain_1 : decode cX7_findsPlain 1 = .ok (.invokevirtual 137, 3) := by decide +kernel
theorem dX7_findsPlain_4 : decode cX7_findsPlain 4 = .ok (.ifCond .eq 14, 3) := by decide +kernel
theorem dX7_findsPlain_7 : decode cX7_findsPlain 7 = .ok (.aload_n 0, 1) := by decide +kernel
theorem dX7_findsPlain_8 : decode cX7_findsPlain 8 = .ok (.getfield 97, 3) := by decide +kernel
theorem dX7_findsPlain_11 : decode cX7_findsPlain 11 = .ok (.ifCond .ne 7, 3) := by decide +kernel
theorem dX7_findsPlain_14 : decode cX7_findsPlain 14 = .ok (.iconst 1, 1) := by decide +kernel
theorem dX7_findsPlain_15 : decode cX7_findsPlain 15 = .ok (.goto 4, 3) := by decide +kernel
theorem dX7_findsPlain_18 : decode cX7_findsPlain 18 = .ok (.iconst 0, 1) := by decide +kernel
theorem dX7_findsPlain_19 : decode cX7_findsPlain 19 = .ok (.istore_n 2, 1) := by decide +kernel
theorem dX7_findsPlain_20 : decode cX7_findsPlain 20 = .ok (.iload_n 2, 1) := by decide +kernel
theorem dX7_findsPlain_21 : decode cX7_findsPlain 21 = .ok (.ifCond .ne 5, 3) := by decide +kernel
theorem dX7_findsPlain_24 : decode cX7_findsPlain 24 = .ok (.iconst 0, 1) := by decide +kernel
theorem dX7_findsPlain_25 : decode cX7_findsPlain 25 = .ok (.ireturn, 1) := by decide +kernel
theorem dX7_findsPlain_26 : decode cX7_findsPlain 26 = .ok (.iconst 0, 1) := by decide +kernel
theorem dX7_findsPlain_27 : decode cX7_findsPlain 27 = .ok (.istore_n 3, 1) := by decide +kernel
theorem dX7_findsPlain_28 : decode cX7_findsPlain 28 = .ok (.iconst 0, 1) := by decide +kernel
theorem dX7_findsPlain_29 : decode cX7_findsPlain 29 = .ok (.istore 4, 2) := by decide +kernel
theorem dX7_findsPlain_31 : decode cX7_findsPlain 31 = .ok (.iload 4, 2) := by decide +kernel
theorem dX7_findsPlain_33 : decode cX7_findsPlain 33 = .ok (.iload_n 1, 1) := by decide +kernel
theorem dX7_findsPlain_34 : decode cX7_findsPlain 34 = .ok (.if_icmp .gt 55, 3) := by decide +kernel
theorem dX7_findsPlain_37 : decode cX7_findsPlain 37 = .ok (.iload 4, 2) := by decide +kernel
theorem dX7_findsPlain_39 : decode cX7_findsPlain 39 = .ok (.bipush 6, 2) := by decide +kernel
theorem dX7_findsPlain_41 : decode cX7_findsPlain 41 = .ok (.if_icmp .ge 48, 3) := by decide +kernel
theorem dX7_findsPlain_44 : decode cX7_findsPlain 44 = .ok (.iload_n 3, 1) := by decide +kernel
theorem dX7_findsPlain_45 : decode cX7_findsPlain 45 = .ok (.ifCond .ne 44, 3) := by decide +kernel
theorem dX7_findsPlain_48 : decode cX7_findsPlain 48 = .ok (.iload 4, 2) := by decide +kernel
theorem dX7_findsPlain_50 : decode cX7_findsPlain 50 = .ok (.iconst 2, 1) := by decide +kernel
theorem dX7_findsPlain_51 : decode cX7_findsPlain 51 = .ok (.if_icmp .ge 12, 3) := by decide +kernel
theorem dX7_findsPlain_54 : decode cX7_findsPlain 54 = .ok (.aload_n 0, 1) := by decide +kernel
theorem dX7_findsPlain_55 : decode cX7_findsPlain 55 = .ok (.iload 4, 2) := by decide +kernel
theorem dX7_findsPlain_57 : decode cX7_findsPlain 57 = .ok (.invokevirtual 140, 3) := by decide +kernel
theorem dX7_findsPlain_60 : decode cX7_findsPlain 60 = .ok (.goto 22, 3) := by decide +kernel
theorem dX7_findsPlain_63 : decode cX7_findsPlain 63 = .ok (.iload 4, 2) := by decide +kernel
theorem dX7_findsPlain_65 : decode cX7_findsPlain 65 = .ok (.iconst 5, 1) := by decide +kernel
theorem dX7_findsPlain_66 : decode cX7_findsPlain 66 = .ok (.if_icmp .ge 12, 3) := by decide +kernel
theorem dX7_findsPlain_69 : decode cX7_findsPlain 69 = .ok (.aload_n 0, 1) := by decide +kernel
theorem dX7_findsPlain_70 : decode cX7_findsPlain 70 = .ok (.iload 4, 2) := by decide +kernel
theorem dX7_findsPlain_72 : decode cX7_findsPlain 72 = .ok (.invokevirtual 143, 3) := by decide +kernel
theorem dX7_findsPlain_75 : decode cX7_findsPlain 75 = .ok (.goto 7, 3) := by decide +kernel
theorem dX7_findsPlain_78 : decode cX7_findsPlain 78 = .ok (.aload_n 0, 1) := by decide +kernel
theorem dX7_findsPlain_79 : decode cX7_findsPlain 79 = .ok (.invokevirtual 146, 3) := by decide +kernel
theorem dX7_findsPlain_82 : decode cX7_findsPlain 82 = .ok (.istore_n 3, 1) := by decide +kernel
theorem dX7_findsPlain_83 : decode cX7_findsPlain 83 = .ok (.iinc 4 1, 3) := by decide +kernel
theorem dX7_findsPlain_86 : decode cX7_findsPlain 86 = .ok (.goto (-55), 3) := by decide +kernel
theorem dX7_findsPlain_89 : decode cX7_findsPlain 89 = .ok (.iload_n 3, 1) := by decide +kernel
theorem dX7_findsPlain_90 : decode cX7_findsPlain 90 = .ok (.ireturn, 1) := by decide +kernel
theorem dX7_makes_0 : decode cX7_makes 0 = .ok (.aload_n 0, 1) := by decide +kernel
theorem dX7_makes_1 : decode cX7_makes 1 = .ok (.getfield 7, 3) := by decide +kernel
theorem dX7_makes_4 : decode cX7_makes 4 = .ok (.bipush 18, 2) := by decide +kernel
theorem dX7_makes_6 : decode cX7_makes 6 = .ok (.aload_n 0, 1) := by decide +kernel
theorem dX7_makes_7 : decode cX7_makes 7 = .ok (.getfield 118, 3) := by decide +kernel
theorem dX7_makes_10 : decode cX7_makes 10 = .ok (.iadd, 1) := by decide +kernel
theorem dX7_makes_11 : decode cX7_makes 11 = .ok (.aload_n 0, 1) := by decide +kernel
theorem dX7_makes_12 : decode cX7_makes 12 = .ok (.getfield 121, 3) := by decide +kernel
theorem dX7_makes_15 : decode cX7_makes 15 = .ok (.iastore, 1) := by decide +kernel
theorem dX7_makes_16 : decode cX7_makes 16 = .ok (.return_, 1) := by decide +kernel
theorem dX7_fails_0 : decode cX7_fails 0 = .ok (.iconst 0, 1) := by decide +kernel
theorem dX7_fails_1 : decode cX7_fails 1 = .ok (.istore_n 3, 1) := by decide +kernel
theorem dX7_fails_2 : decode cX7_fails 2 = .ok (.iload_n 3, 1) := by decide +kernel
theorem dX7_fails_3 : decode cX7_fails 3 = .ok (.bipush 40, 2) := by decide +kernel
theorem dX7_fails_5 : decode cX7_fails 5 = .ok (.if_icmp .ge 24, 3) := by decide +kernel
theorem dX7_fails_8 : decode cX7_fails 8 = .ok (.aload_n 0, 1) := by decide +kernel
theorem dX7_fails_9 : decode cX7_fails 9 = .ok (.getfield 29, 3) := by decide +kernel
theorem dX7_fails_12 : decode cX7_fails 12 = .ok (.iload_n 3, 1) := by decide +kernel
theorem dX7_fails_13 : decode cX7_fails 13 = .ok (.aload_n 0, 1) := by decide +kernel
theorem dX7_fails_14 : decode cX7_fails 14 = .ok (.getfield 7, 3) := by decide +kernel
theorem dX7_fails_17 : decode cX7_fails 17 = .ok (.bipush 18, 2) := by decide +kernel
theorem dX7_fails_19 : decode cX7_fails 19 = .ok (.iload_n 3, 1) := by decide +kernel
theorem dX7_fails_20 : decode cX7_fails 20 = .ok (.iadd, 1) := by decide +kernel
theorem dX7_fails_21 : decode cX7_fails 21 = .ok (.iaload, 1) := by decide +kernel
theorem dX7_fails_22 : decode cX7_fails 22 = .ok (.iastore, 1) := by decide +kernel
theorem dX7_fails_23 : decode cX7_fails 23 = .ok (.iinc 3 1, 3) := by decide +kernel
theorem dX7_fails_26 : decode cX7_fails 26 = .ok (.goto (-24), 3) := by decide +kernel
theorem dX7_fails_29 : decode cX7_fails 29 = .ok (.aload_n 0, 1) := by decide +kernel
theorem dX7_fails_30 : decode cX7_fails 30 = .ok (.getfield 7, 3) := by decide +kernel
theorem dX7_fails_33 : decode cX7_fails 33 = .ok (.bipush 18, 2) := by decide +kernel
theorem dX7_fails_35 : decode cX7_fails 35 = .ok (.iload_n 1, 1) := by decide +kernel
theorem dX7_fails_36 : decode cX7_fails 36 = .ok (.iadd, 1) := by decide +kernel
theorem dX7_fails_37 : decode cX7_fails 37 = .ok (.iload_n 2, 1) := by decide +kernel
theorem dX7_fails_38 : decode cX7_fails 38 = .ok (.iastore, 1) := by decide +kernel
theorem dX7_fails_39 : decode cX7_fails 39 = .ok (.aload_n 0, 1) := by decide +kernel
theorem dX7_fails_40 : decode cX7_fails 40 = .ok (.iconst 5, 1) := by decide +kernel
theorem dX7_fails_41 : decode cX7_fails 41 = .ok (.invokevirtual 149, 3) := by decide +kernel
theorem dX7_fails_44 : decode cX7_fails 44 = .ok (.ifCond .eq 10, 3) := by decide +kernel
theorem dX7_fails_47 : decode cX7_fails 47 = .ok (.aload_n 0, 1) := by decide +kernel
theorem dX7_fails_48 : decode cX7_fails 48 = .ok (.invokevirtual 152, 3) := by decide +kernel
theorem dX7_fails_51 : decode cX7_fails 51 = .ok (.goto (-12), 3) := by decide +kernel
theorem dX7_fails_54 : decode cX7_fails 54 = .ok (.aload_n 0, 1) := by decide +kernel
theorem dX7_fails_55 : decode cX7_fails 55 = .ok (.invokevirtual 137, 3) := by decide +kernel
theorem dX7_fails_58 : decode cX7_fails 58 = .ok (.ifCond .ne 7, 3) := by decide +kernel
theorem dX7_fails_61 : decode cX7_fails 61 = .ok (.iconst 1, 1) := by decide +kernel
theorem dX7_fails_62 : decode cX7_fails 62 = .ok (.goto 4, 3) := by decide +kernel
theorem dX7_fails_65 : decode cX7_fails 65 = .ok (.iconst 0, 1) := by decide +kernel
theorem dX7_fails_66 : decode cX7_fails 66 = .ok (.istore_n 3, 1) := by decide +kernel
theorem dX7_fails_67 : decode cX7_fails 67 = .ok (.iconst 0, 1) := by decide +kernel
theorem dX7_fails_68 : decode cX7_fails 68 = .ok (.istore 4, 2) := by decide +kernel
theorem dX7_fails_70 : decode cX7_fails 70 = .ok (.iload 4, 2) := by decide +kernel
theorem dX7_fails_72 : decode cX7_fails 72 = .ok (.bipush 40, 2) := by decide +kernel
theorem dX7_fails_74 : decode cX7_fails 74 = .ok (.if_icmp .ge 26, 3) := by decide +kernel
theorem dX7_fails_77 : decode cX7_fails 77 = .ok (.aload_n 0, 1) := by decide +kernel
theorem dX7_fails_78 : decode cX7_fails 78 = .ok (.getfield 7, 3) := by decide +kernel
theorem dX7_fails_81 : decode cX7_fails 81 = .ok (.bipush 18, 2) := by decide +kernel
theorem dX7_fails_83 : decode cX7_fails 83 = .ok (.iload 4, 2) := by decide +kernel
theorem dX7_fails_85 : decode cX7_fails 85 = .ok (.iadd, 1) := by decide +kernel
theorem dX7_fails_86 : decode cX7_fails 86 = .ok (.aload_n 0, 1) := by decide +kernel
theorem dX7_fails_87 : decode cX7_fails 87 = .ok (.getfield 29, 3) := by decide +kernel
theorem dX7_fails_90 : decode cX7_fails 90 = .ok (.iload 4, 2) := by decide +kernel
theorem dX7_fails_92 : decode cX7_fails 92 = .ok (.iaload, 1) := by decide +kernel
theorem dX7_fails_93 : decode cX7_fails 93 = .ok (.iastore, 1) := by decide +kernel
theorem dX7_fails_94 : decode cX7_fails 94 = .ok (.iinc 4 1, 3) := by decide +kernel
theorem dX7_fails_97 : decode cX7_fails 97 = .ok (.goto (-27), 3) := by decide +kernel
theorem dX7_fails_100 : decode cX7_fails 100 = .ok (.iload_n 3, 1) := by decide +kernel
theorem dX7_fails_101 : decode cX7_fails 101 = .ok (.ireturn, 1) := by decide +kernel
theorem dX7_byTrials_0 : decode cX7_byTrials 0 = .ok (.iconst 0, 1) := by decide +kernel
theorem dX7_byTrials_1 : decode cX7_byTrials 1 = .ok (.istore_n 2, 1) := by decide +kernel
theorem dX7_byTrials_2 : decode cX7_byTrials 2 = .ok (.iload_n 2, 1) := by decide +kernel
theorem dX7_byTrials_3 : decode cX7_byTrials 3 = .ok (.aload_n 0, 1) := by decide +kernel
theorem dX7_byTrials_4 : decode cX7_byTrials 4 = .ok (.invokevirtual 69, 3) := by decide +kernel
theorem dX7_byTrials_7 : decode cX7_byTrials 7 = .ok (.if_icmp .ge 55, 3) := by decide +kernel
theorem dX7_byTrials_10 : decode cX7_byTrials 10 = .ok (.aload_n 0, 1) := by decide +kernel
theorem dX7_byTrials_11 : decode cX7_byTrials 11 = .ok (.iload_n 2, 1) := by decide +kernel
theorem dX7_byTrials_12 : decode cX7_byTrials 12 = .ok (.invokevirtual 56, 3) := by decide +kernel
theorem dX7_byTrials_15 : decode cX7_byTrials 15 = .ok (.ifCond .ne 41, 3) := by decide +kernel
theorem dX7_byTrials_18 : decode cX7_byTrials 18 = .ok (.aload_n 0, 1) := by decide +kernel
theorem dX7_byTrials_19 : decode cX7_byTrials 19 = .ok (.iload_n 2, 1) := by decide +kernel
theorem dX7_byTrials_20 : decode cX7_byTrials 20 = .ok (.iload_n 1, 1) := by decide +kernel
theorem dX7_byTrials_21 : decode cX7_byTrials 21 = .ok (.bipush 6, 2) := by decide +kernel
theorem dX7_byTrials_23 : decode cX7_byTrials 23 = .ok (.if_icmp .ne 7, 3) := by decide +kernel
theorem dX7_byTrials_26 : decode cX7_byTrials 26 = .ok (.iconst 1, 1) := by decide +kernel
theorem dX7_byTrials_27 : decode cX7_byTrials 27 = .ok (.goto 4, 3) := by decide +kernel
theorem dX7_byTrials_30 : decode cX7_byTrials 30 = .ok (.iconst 2, 1) := by decide +kernel
theorem dX7_byTrials_31 : decode cX7_byTrials 31 = .ok (.invokevirtual 155, 3) := by decide +kernel
theorem dX7_byTrials_34 : decode cX7_byTrials 34 = .ok (.ifCond .eq 22, 3) := by decide +kernel
theorem dX7_byTrials_37 : decode cX7_byTrials 37 = .ok (.aload_n 0, 1) := by decide +kernel
theorem dX7_byTrials_38 : decode cX7_byTrials 38 = .ok (.iload_n 1, 1) := by decide +kernel
theorem dX7_byTrials_39 : decode cX7_byTrials 39 = .ok (.iload_n 2, 1) := by decide +kernel
theorem dX7_byTrials_40 : decode cX7_byTrials 40 = .ok (.iload_n 1, 1) := by decide +kernel
theorem dX7_byTrials_41 : decode cX7_byTrials 41 = .ok (.bipush 6, 2) := by decide +kernel
theorem dX7_byTrials_43 : decode cX7_byTrials 43 = .ok (.if_icmp .ne 7, 3) := by decide +kernel
theorem dX7_byTrials_46 : decode cX7_byTrials 46 = .ok (.iconst 2, 1) := by decide +kernel
theorem dX7_byTrials_47 : decode cX7_byTrials 47 = .ok (.goto 4, 3) := by decide +kernel
theorem dX7_byTrials_50 : decode cX7_byTrials 50 = .ok (.iconst 1, 1) := by decide +kernel
theorem dX7_byTrials_51 : decode cX7_byTrials 51 = .ok (.iconst (-1), 1) := by decide +kernel
theorem dX7_byTrials_52 : decode cX7_byTrials 52 = .ok (.invokevirtual 130, 3) := by decide +kernel
theorem dX7_byTrials_55 : decode cX7_byTrials 55 = .ok (.ireturn, 1) := by decide +kernel
theorem dX7_byTrials_56 : decode cX7_byTrials 56 = .ok (.iinc 2 1, 3) := by decide +kernel
theorem dX7_byTrials_59 : decode cX7_byTrials 59 = .ok (.goto (-57), 3) := by decide +kernel
theorem dX7_byTrials_62 : decode cX7_byTrials 62 = .ok (.iconst 0, 1) := by decide +kernel
theorem dX7_byTrials_63 : decode cX7_byTrials 63 = .ok (.ireturn, 1) := by decide +kernel
theorem dX7_findsNext_0 : decode cX7_findsNext 0 = .ok (.aload_n 0, 1) := by decide +kernel
theorem dX7_findsNext_1 : decode cX7_findsNext 1 = .ok (.iload_n 1, 1) := by decide +kernel
theorem dX7_findsNext_2 : decode cX7_findsNext 2 = .ok (.invokevirtual 149, 3) := by decide +kernel
theorem dX7_findsNext_5 : decode cX7_findsNext 5 = .ok (.ifCond .eq 5, 3) := by decide +kernel
theorem dX7_findsNext_8 : decode cX7_findsNext 8 = .ok (.iconst 1, 1) := by decide +kernel
theorem dX7_findsNext_9 : decode cX7_findsNext 9 = .ok (.ireturn, 1) := by decide +kernel
theorem dX7_findsNext_10 : decode cX7_findsNext 10 = .ok (.iload_n 1, 1) := by decide +kernel
theorem dX7_findsNext_11 : decode cX7_findsNext 11 = .ok (.bipush 6, 2) := by decide +kernel
theorem dX7_findsNext_13 : decode cX7_findsNext 13 = .ok (.if_icmp .lt 17, 3) := by decide +kernel
theorem dX7_findsNext_16 : decode cX7_findsNext 16 = .ok (.aload_n 0, 1) := by decide +kernel
theorem dX7_findsNext_17 : decode cX7_findsNext 17 = .ok (.invokevirtual 137, 3) := by decide +kernel
theorem dX7_findsNext_20 : decode cX7_findsNext 20 = .ok (.ifCond .eq 10, 3) := by decide +kernel
theorem dX7_findsNext_23 : decode cX7_findsNext 23 = .ok (.aload_n 0, 1) := by decide +kernel
theorem dX7_findsNext_24 : decode cX7_findsNext 24 = .ok (.getfield 97, 3) := by decide +kernel
theorem dX7_findsNext_27 : decode cX7_findsNext 27 = .ok (.ifCond .eq 5, 3) := by decide +kernel
theorem dX7_findsNext_30 : decode cX7_findsNext 30 = .ok (.iconst 0, 1) := by decide +kernel
theorem dX7_findsNext_31 : decode cX7_findsNext 31 = .ok (.ireturn, 1) := by decide +kernel
theorem dX7_findsNext_32 : decode cX7_findsNext 32 = .ok (.aload_n 0, 1) := by decide +kernel
theorem dX7_findsNext_33 : decode cX7_findsNext 33 = .ok (.bipush 6, 2) := by decide +kernel
theorem dX7_findsNext_35 : decode cX7_findsNext 35 = .ok (.invokevirtual 159, 3) := by decide +kernel
theorem dX7_findsNext_38 : decode cX7_findsNext 38 = .ok (.ifCond .ne 18, 3) := by decide +kernel
theorem dX7_findsNext_41 : decode cX7_findsNext 41 = .ok (.iload_n 1, 1) := by decide +kernel
theorem dX7_findsNext_42 : decode cX7_findsNext 42 = .ok (.bipush 7, 2) := by decide +kernel
theorem dX7_findsNext_44 : decode cX7_findsNext 44 = .ok (.if_icmp .ne 16, 3) := by decide +kernel
theorem dX7_findsNext_47 : decode cX7_findsNext 47 = .ok (.aload_n 0, 1) := by decide +kernel
theorem dX7_findsNext_48 : decode cX7_findsNext 48 = .ok (.bipush 7, 2) := by decide +kernel
theorem dX7_findsNext_50 : decode cX7_findsNext 50 = .ok (.invokevirtual 159, 3) := by decide +kernel
theorem dX7_findsNext_53 : decode cX7_findsNext 53 = .ok (.ifCond .eq 7, 3) := by decide +kernel
theorem dX7_findsNext_56 : decode cX7_findsNext 56 = .ok (.iconst 1, 1) := by decide +kernel
theorem dX7_findsNext_57 : decode cX7_findsNext 57 = .ok (.goto 4, 3) := by decide +kernel
theorem dX7_findsNext_60 : decode cX7_findsNext 60 = .ok (.iconst 0, 1) := by decide +kernel
theorem dX7_findsNext_61 : decode cX7_findsNext 61 = .ok (.ireturn, 1) := by decide +kernel
theorem dX7_type_0 : decode cX7_type 0 = .ok (.iload_n 1, 1) := by decide +kernel
theorem dX7_type_1 : decode cX7_type 1 = .ok (.iconst 0, 1) := by decide +kernel
theorem dX7_type_2 : decode cX7_type 2 = .ok (.bipush 127, 2) := by decide +kernel
theorem dX7_type_4 : decode cX7_type 4 = .ok (.invokestatic 162, 3) := by decide +kernel
theorem dX7_type_7 : decode cX7_type 7 = .ok (.ifCond .ne 6, 3) := by decide +kernel
theorem dX7_type_10 : decode cX7_type 10 = .ok (.bipush (-2), 2) := by decide +kernel
theorem dX7_type_12 : decode cX7_type 12 = .ok (.ireturn, 1) := by decide +kernel
theorem dX7_type_13 : decode cX7_type 13 = .ok (.aload_n 0, 1) := by decide +kernel
theorem dX7_type_14 : decode cX7_type 14 = .ok (.getfield 166, 3) := by decide +kernel
theorem dX7_type_17 : decode cX7_type 17 = .ok (.bipush 40, 2) := by decide +kernel
theorem dX7_type_19 : decode cX7_type 19 = .ok (.if_icmp .ne 6, 3) := by decide +kernel
theorem dX7_type_22 : decode cX7_type 22 = .ok (.bipush (-4), 2) := by decide +kernel
theorem dX7_type_24 : decode cX7_type 24 = .ok (.ireturn, 1) := by decide +kernel
theorem dX7_type_25 : decode cX7_type 25 = .ok (.aload_n 0, 1) := by decide +kernel
theorem dX7_type_26 : decode cX7_type 26 = .ok (.getfield 16, 3) := by decide +kernel
theorem dX7_type_29 : decode cX7_type 29 = .ok (.aload_n 0, 1) := by decide +kernel
theorem dX7_type_30 : decode cX7_type 30 = .ok (.getfield 166, 3) := by decide +kernel
theorem dX7_type_33 : decode cX7_type 33 = .ok (.iload_n 1, 1) := by decide +kernel
theorem dX7_type_34 : decode cX7_type 34 = .ok (.iastore, 1) := by decide +kernel
theorem dX7_type_35 : decode cX7_type 35 = .ok (.aload_n 0, 1) := by decide +kernel
theorem dX7_type_36 : decode cX7_type 36 = .ok (.dup, 1) := by decide +kernel
theorem dX7_type_37 : decode cX7_type 37 = .ok (.getfield 166, 3) := by decide +kernel
theorem dX7_type_40 : decode cX7_type 40 = .ok (.iconst 1, 1) := by decide +kernel
theorem dX7_type_41 : decode cX7_type 41 = .ok (.iadd, 1) := by decide +kernel
theorem dX7_type_42 : decode cX7_type 42 = .ok (.putfield 166, 3) := by decide +kernel
theorem dX7_type_45 : decode cX7_type 45 = .ok (.aload_n 0, 1) := by decide +kernel
theorem dX7_type_46 : decode cX7_type 46 = .ok (.getfield 166, 3) := by decide +kernel
theorem dX7_type_49 : decode cX7_type 49 = .ok (.ireturn, 1) := by decide +kernel
theorem dX7_clearText_0 : decode cX7_clearText 0 = .ok (.aload_n 0, 1) := by decide +kernel
theorem dX7_clearText_1 : decode cX7_clearText 1 = .ok (.getfield 166, 3) := by decide +kernel
theorem dX7_clearText_4 : decode cX7_clearText 4 = .ok (.istore_n 1, 1) := by decide +kernel
theorem dX7_clearText_5 : decode cX7_clearText 5 = .ok (.aload_n 0, 1) := by decide +kernel
theorem dX7_clearText_6 : decode cX7_clearText 6 = .ok (.iconst 0, 1) := by decide +kernel
theorem dX7_clearText_7 : decode cX7_clearText 7 = .ok (.putfield 166, 3) := by decide +kernel
theorem dX7_clearText_10 : decode cX7_clearText 10 = .ok (.iload_n 1, 1) := by decide +kernel
theorem dX7_clearText_11 : decode cX7_clearText 11 = .ok (.ireturn, 1) := by decide +kernel
theorem dX7_next_0 : decode cX7_next 0 = .ok (.aload_n 0, 1) := by decide +kernel
theorem dX7_next_1 : decode cX7_next 1 = .ok (.getfield 169, 3) := by decide +kernel
theorem dX7_next_4 : decode cX7_next 4 = .ok (.aload_n 0, 1) := by decide +kernel
theorem dX7_next_5 : decode cX7_next 5 = .ok (.getfield 166, 3) := by decide +kernel
theorem dX7_next_8 : decode cX7_next 8 = .ok (.if_icmp .ge 30, 3) := by decide +kernel
theorem dX7_next_11 : decode cX7_next 11 = .ok (.aload_n 0, 1) := by decide +kernel
theorem dX7_next_12 : decode cX7_next 12 = .ok (.getfield 16, 3) := by decide +kernel
theorem dX7_next_15 : decode cX7_next 15 = .ok (.aload_n 0, 1) := by decide +kernel
theorem dX7_next_16 : decode cX7_next 16 = .ok (.getfield 169, 3) := by decide +kernel
theorem dX7_next_19 : decode cX7_next 19 = .ok (.iaload, 1) := by decide +kernel
theorem dX7_next_20 : decode cX7_next 20 = .ok (.bipush 32, 2) := by decide +kernel
theorem dX7_next_22 : decode cX7_next 22 = .ok (.if_icmp .ne 16, 3) := by decide +kernel
theorem dX7_next_25 : decode cX7_next 25 = .ok (.aload_n 0, 1) := by decide +kernel
theorem dX7_next_26 : decode cX7_next 26 = .ok (.dup, 1) := by decide +kernel
theorem dX7_next_27 : decode cX7_next 27 = .ok (.getfield 169, 3) := by decide +kernel
theorem dX7_next_30 : decode cX7_next 30 = .ok (.iconst 1, 1) := by decide +kernel
theorem dX7_next_31 : decode cX7_next 31 = .ok (.iadd, 1) := by decide +kernel
theorem dX7_next_32 : decode cX7_next 32 = .ok (.putfield 169, 3) := by decide +kernel
theorem dX7_next_35 : decode cX7_next 35 = .ok (.goto (-35), 3) := by decide +kernel
theorem dX7_next_38 : decode cX7_next 38 = .ok (.aload_n 0, 1) := by decide +kernel
theorem dX7_next_39 : decode cX7_next 39 = .ok (.getfield 169, 3) := by decide +kernel
theorem dX7_next_42 : decode cX7_next 42 = .ok (.aload_n 0, 1) := by decide +kernel
theorem dX7_next_43 : decode cX7_next 43 = .ok (.getfield 166, 3) := by decide +kernel
theorem dX7_next_46 : decode cX7_next 46 = .ok (.if_icmp .ge 15, 3) := by decide +kernel
theorem dX7_next_49 : decode cX7_next 49 = .ok (.aload_n 0, 1) := by decide +kernel
theorem dX7_next_50 : decode cX7_next 50 = .ok (.getfield 16, 3) := by decide +kernel
theorem dX7_next_53 : decode cX7_next 53 = .ok (.aload_n 0, 1) := by decide +kernel
theorem dX7_next_54 : decode cX7_next 54 = .ok (.getfield 169, 3) := by decide +kernel
theorem dX7_next_57 : decode cX7_next 57 = .ok (.iaload, 1) := by decide +kernel
theorem dX7_next_58 : decode cX7_next 58 = .ok (.goto 4, 3) := by decide +kernel
theorem dX7_next_61 : decode cX7_next 61 = .ok (.iconst (-1), 1) := by decide +kernel
theorem dX7_next_62 : decode cX7_next 62 = .ok (.ireturn, 1) := by decide +kernel
theorem dX7_readsRow_0 : decode cX7_readsRow 0 = .ok (.iconst 0, 1) := by decide +kernel
theorem dX7_readsRow_1 : decode cX7_readsRow 1 = .ok (.istore_n 3, 1) := by decide +kernel
theorem dX7_readsRow_2 : decode cX7_readsRow 2 = .ok (.iload_n 3, 1) := by decide +kernel
theorem dX7_readsRow_3 : decode cX7_readsRow 3 = .ok (.iload_n 2, 1) := by decide +kernel
theorem dX7_readsRow_4 : decode cX7_readsRow 4 = .ok (.if_icmp .ge 75, 3) := by decide +kernel
theorem dX7_readsRow_7 : decode cX7_readsRow 7 = .ok (.aload_n 0, 1) := by decide +kernel
theorem dX7_readsRow_8 : decode cX7_readsRow 8 = .ok (.invokevirtual 172, 3) := by decide +kernel
theorem dX7_readsRow_11 : decode cX7_readsRow 11 = .ok (.bipush 48, 2) := by decide +kernel
theorem dX7_readsRow_13 : decode cX7_readsRow 13 = .ok (.bipush 51, 2) := by decide +kernel
theorem dX7_readsRow_15 : decode cX7_readsRow 15 = .ok (.invokestatic 162, 3) := by decide +kernel
theorem dX7_readsRow_18 : decode cX7_readsRow 18 = .ok (.ifCond .ne 12, 3) := by decide +kernel
theorem dX7_readsRow_21 : decode cX7_readsRow 21 = .ok (.aload_n 0, 1) := by decide +kernel
theorem dX7_readsRow_22 : decode cX7_readsRow 22 = .ok (.invokevirtual 172, 3) := by decide +kernel
theorem dX7_readsRow_25 : decode cX7_readsRow 25 = .ok (.bipush 46, 2) := by decide +kernel
theorem dX7_readsRow_27 : decode cX7_readsRow 27 = .ok (.if_icmp .ne 52, 3) := by decide +kernel
theorem dX7_readsRow_30 : decode cX7_readsRow 30 = .ok (.aload_n 0, 1) := by decide +kernel
theorem dX7_readsRow_31 : decode cX7_readsRow 31 = .ok (.getfield 32, 3) := by decide +kernel
theorem dX7_readsRow_34 : decode cX7_readsRow 34 = .ok (.aload_n 0, 1) := by decide +kernel
theorem dX7_readsRow_35 : decode cX7_readsRow 35 = .ok (.getfield 175, 3) := by decide +kernel
theorem dX7_readsRow_38 : decode cX7_readsRow 38 = .ok (.iconst 4, 1) := by decide +kernel
theorem dX7_readsRow_39 : decode cX7_readsRow 39 = .ok (.imul, 1) := by decide +kernel
theorem dX7_readsRow_40 : decode cX7_readsRow 40 = .ok (.iload_n 3, 1) := by decide +kernel
theorem dX7_readsRow_41 : decode cX7_readsRow 41 = .ok (.iadd, 1) := by decide +kernel
theorem dX7_readsRow_42 : decode cX7_readsRow 42 = .ok (.aload_n 0, 1) := by decide +kernel
theorem dX7_readsRow_43 : decode cX7_readsRow 43 = .ok (.invokevirtual 172, 3) := by decide +kernel
theorem dX7_readsRow_46 : decode cX7_readsRow 46 = .ok (.bipush 46, 2) := by decide +kernel
theorem dX7_readsRow_48 : decode cX7_readsRow 48 = .ok (.if_icmp .ne 7, 3) := by decide +kernel
theorem dX7_readsRow_51 : decode cX7_readsRow 51 = .ok (.iconst (-1), 1) := by decide +kernel
theorem dX7_readsRow_52 : decode cX7_readsRow 52 = .ok (.goto 10, 3) := by decide +kernel
theorem dX7_readsRow_55 : decode cX7_readsRow 55 = .ok (.aload_n 0, 1) := by decide +kernel
theorem dX7_readsRow_56 : decode cX7_readsRow 56 = .ok (.invokevirtual 172, 3) := by decide +kernel
theorem dX7_readsRow_59 : decode cX7_readsRow 59 = .ok (.bipush 48, 2) := by decide +kernel
theorem dX7_readsRow_61 : decode cX7_readsRow 61 = .ok (.isub, 1) := by decide +kernel
theorem dX7_readsRow_62 : decode cX7_readsRow 62 = .ok (.iastore, 1) := by decide +kernel
theorem dX7_readsRow_63 : decode cX7_readsRow 63 = .ok (.aload_n 0, 1) := by decide +kernel
theorem dX7_readsRow_64 : decode cX7_readsRow 64 = .ok (.dup, 1) := by decide +kernel
theorem dX7_readsRow_65 : decode cX7_readsRow 65 = .ok (.getfield 169, 3) := by decide +kernel
theorem dX7_readsRow_68 : decode cX7_readsRow 68 = .ok (.iconst 1, 1) := by decide +kernel
theorem dX7_readsRow_69 : decode cX7_readsRow 69 = .ok (.iadd, 1) := by decide +kernel
theorem dX7_readsRow_70 : decode cX7_readsRow 70 = .ok (.putfield 169, 3) := by decide +kernel
theorem dX7_readsRow_73 : decode cX7_readsRow 73 = .ok (.iinc 3 1, 3) := by decide +kernel
theorem dX7_readsRow_76 : decode cX7_readsRow 76 = .ok (.goto (-74), 3) := by decide +kernel
theorem dX7_readsRow_79 : decode cX7_readsRow 79 = .ok (.aload_n 0, 1) := by decide +kernel
theorem dX7_readsRow_80 : decode cX7_readsRow 80 = .ok (.iload_n 3, 1) := by decide +kernel
theorem dX7_readsRow_81 : decode cX7_readsRow 81 = .ok (.putfield 178, 3) := by decide +kernel
theorem dX7_readsRow_84 : decode cX7_readsRow 84 = .ok (.aload_n 0, 1) := by decide +kernel
theorem dX7_readsRow_85 : decode cX7_readsRow 85 = .ok (.dup, 1) := by decide +kernel
theorem dX7_readsRow_86 : decode cX7_readsRow 86 = .ok (.getfield 175, 3) := by decide +kernel
theorem dX7_readsRow_89 : decode cX7_readsRow 89 = .ok (.iconst 1, 1) := by decide +kernel
theorem dX7_readsRow_90 : decode cX7_readsRow 90 = .ok (.iadd, 1) := by decide +kernel
theorem dX7_readsRow_91 : decode cX7_readsRow 91 = .ok (.putfield 175, 3) := by decide +kernel
theorem dX7_readsRow_94 : decode cX7_readsRow 94 = .ok (.iload_n 3, 1) := by decide +kernel
theorem dX7_readsRow_95 : decode cX7_readsRow 95 = .ok (.iload_n 1, 1) := by decide +kernel
theorem dX7_readsRow_96 : decode cX7_readsRow 96 = .ok (.if_icmp .lt 7, 3) := by decide +kernel
theorem dX7_readsRow_99 : decode cX7_readsRow 99 = .ok (.iconst 1, 1) := by decide +kernel
theorem dX7_readsRow_100 : decode cX7_readsRow 100 = .ok (.goto 4, 3) := by decide +kernel
theorem dX7_readsRow_103 : decode cX7_readsRow 103 = .ok (.iconst 0, 1) := by decide +kernel
theorem dX7_readsRow_104 : decode cX7_readsRow 104 = .ok (.ireturn, 1) := by decide +kernel
theorem dX7_reads_0 : decode cX7_reads 0 = .ok (.aload_n 0, 1) := by decide +kernel
theorem dX7_reads_1 : decode cX7_reads 1 = .ok (.iconst 0, 1) := by decide +kernel
theorem dX7_reads_2 : decode cX7_reads 2 = .ok (.putfield 169, 3) := by decide +kernel
theorem dX7_reads_5 : decode cX7_reads 5 = .ok (.aload_n 0, 1) := by decide +kernel
theorem dX7_reads_6 : decode cX7_reads 6 = .ok (.iconst (-1), 1) := by decide +kernel
theorem dX7_reads_7 : decode cX7_reads 7 = .ok (.putfield 181, 3) := by decide +kernel
theorem dX7_reads_10 : decode cX7_reads 10 = .ok (.aload_n 0, 1) := by decide +kernel
theorem dX7_reads_11 : decode cX7_reads 11 = .ok (.iconst 0, 1) := by decide +kernel
theorem dX7_reads_12 : decode cX7_reads 12 = .ok (.putfield 175, 3) := by decide +kernel
theorem dX7_reads_15 : decode cX7_reads 15 = .ok (.aload_n 0, 1) := by decide +kernel
theorem dX7_reads_16 : decode cX7_reads 16 = .ok (.iconst 1, 1) := by decide +kernel
theorem dX7_reads_17 : decode cX7_reads 17 = .ok (.iconst 4, 1) := by decide +kernel
theorem dX7_reads_18 : decode cX7_reads 18 = .ok (.invokevirtual 184, 3) := by decide +kernel
theorem dX7_reads_21 : decode cX7_reads 21 = .ok (.istore_n 1, 1) := by decide +kernel
theorem dX7_reads_22 : decode cX7_reads 22 = .ok (.aload_n 0, 1) := by decide +kernel
theorem dX7_reads_23 : decode cX7_reads 23 = .ok (.getfield 178, 3) := by decide +kernel
theorem dX7_reads_26 : decode cX7_reads 26 = .ok (.istore_n 2, 1) := by decide +kernel
theorem dX7_reads_27 : decode cX7_reads 27 = .ok (.iload_n 1, 1) := by decide +kernel
theorem dX7_reads_28 : decode cX7_reads 28 = .ok (.ifCond .eq 40, 3) := by decide +kernel
theorem dX7_reads_31 : decode cX7_reads 31 = .ok (.aload_n 0, 1) := by decide +kernel
theorem dX7_reads_32 : decode cX7_reads 32 = .ok (.getfield 175, 3) := by decide +kernel
theorem dX7_reads_35 : decode cX7_reads 35 = .ok (.iconst 4, 1) := by decide +kernel
theorem dX7_reads_36 : decode cX7_reads 36 = .ok (.if_icmp .ge 32, 3) := by decide +kernel
theorem dX7_reads_39 : decode cX7_reads 39 = .ok (.aload_n 0, 1) := by decide +kernel
theorem dX7_reads_40 : decode cX7_reads 40 = .ok (.invokevirtual 172, 3) := by decide +kernel
theorem dX7_reads_43 : decode cX7_reads 43 = .ok (.bipush 47, 2) := by decide +kernel
theorem dX7_reads_45 : decode cX7_reads 45 = .ok (.if_icmp .ne 23, 3) := by decide +kernel
theorem dX7_reads_48 : decode cX7_reads 48 = .ok (.aload_n 0, 1) := by decide +kernel
theorem dX7_reads_49 : decode cX7_reads 49 = .ok (.dup, 1) := by decide +kernel
theorem dX7_reads_50 : decode cX7_reads 50 = .ok (.getfield 169, 3) := by decide +kernel
theorem dX7_reads_53 : decode cX7_reads 53 = .ok (.iconst 1, 1) := by decide +kernel
theorem dX7_reads_54 : decode cX7_reads 54 = .ok (.iadd, 1) := by decide +kernel
theorem dX7_reads_55 : decode cX7_reads 55 = .ok (.putfield 169, 3) := by decide +kernel
theorem dX7_reads_58 : decode cX7_reads 58 = .ok (.aload_n 0, 1) := by decide +kernel
theorem dX7_reads_59 : decode cX7_reads 59 = .ok (.iload_n 2, 1) := by decide +kernel
theorem dX7_reads_60 : decode cX7_reads 60 = .ok (.iload_n 2, 1) := by decide +kernel
theorem dX7_reads_61 : decode cX7_reads 61 = .ok (.invokevirtual 184, 3) := by decide +kernel
theorem dX7_reads_64 : decode cX7_reads 64 = .ok (.istore_n 1, 1) := by decide +kernel
theorem dX7_reads_65 : decode cX7_reads 65 = .ok (.goto (-38), 3) := by decide +kernel
theorem dX7_reads_68 : decode cX7_reads 68 = .ok (.aload_n 0, 1) := by decide +kernel
theorem dX7_reads_69 : decode cX7_reads 69 = .ok (.aload_n 0, 1) := by decide +kernel
theorem dX7_reads_70 : decode cX7_reads 70 = .ok (.invokevirtual 172, 3) := by decide +kernel
theorem dX7_reads_73 : decode cX7_reads 73 = .ok (.iconst (-1), 1) := by decide +kernel
theorem dX7_reads_74 : decode cX7_reads 74 = .ok (.if_icmp .ne 7, 3) := by decide +kernel
theorem dX7_reads_77 : decode cX7_reads 77 = .ok (.iload_n 1, 1) := by decide +kernel
theorem dX7_reads_78 : decode cX7_reads 78 = .ok (.ifCond .ne 10, 3) := by decide +kernel
theorem dX7_reads_81 : decode cX7_reads 81 = .ok (.aload_n 0, 1) := by decide +kernel
theorem dX7_reads_82 : decode cX7_reads 82 = .ok (.getfield 169, 3) := by decide +kernel
theorem dX7_reads_85 : decode cX7_reads 85 = .ok (.goto 4, 3) := by decide +kernel
theorem dX7_reads_88 : decode cX7_reads 88 = .ok (.iconst (-1), 1) := by decide +kernel
theorem dX7_reads_89 : decode cX7_reads 89 = .ok (.putfield 181, 3) := by decide +kernel
theorem dX7_reads_92 : decode cX7_reads 92 = .ok (.return_, 1) := by decide +kernel
theorem dX7_fault_0 : decode cX7_fault 0 = .ok (.aload_n 0, 1) := by decide +kernel
theorem dX7_fault_1 : decode cX7_fault 1 = .ok (.invokevirtual 187, 3) := by decide +kernel
theorem dX7_fault_4 : decode cX7_fault 4 = .ok (.aload_n 0, 1) := by decide +kernel
theorem dX7_fault_5 : decode cX7_fault 5 = .ok (.getfield 181, 3) := by decide +kernel
theorem dX7_fault_8 : decode cX7_fault 8 = .ok (.ireturn, 1) := by decide +kernel
theorem dX7_setPuzzle_0 : decode cX7_setPuzzle 0 = .ok (.aload_n 0, 1) := by decide +kernel
theorem dX7_setPuzzle_1 : decode cX7_setPuzzle 1 = .ok (.invokevirtual 187, 3) := by decide +kernel
theorem dX7_setPuzzle_4 : decode cX7_setPuzzle 4 = .ok (.aload_n 0, 1) := by decide +kernel
theorem dX7_setPuzzle_5 : decode cX7_setPuzzle 5 = .ok (.getfield 181, 3) := by decide +kernel
theorem dX7_setPuzzle_8 : decode cX7_setPuzzle 8 = .ok (.iconst (-1), 1) := by decide +kernel
theorem dX7_setPuzzle_9 : decode cX7_setPuzzle 9 = .ok (.if_icmp .eq 6, 3) := by decide +kernel
theorem dX7_setPuzzle_12 : decode cX7_setPuzzle 12 = .ok (.bipush (-3), 2) := by decide +kernel
theorem dX7_setPuzzle_14 : decode cX7_setPuzzle 14 = .ok (.ireturn, 1) := by decide +kernel
theorem dX7_setPuzzle_15 : decode cX7_setPuzzle 15 = .ok (.aload_n 0, 1) := by decide +kernel
theorem dX7_setPuzzle_16 : decode cX7_setPuzzle 16 = .ok (.invokevirtual 190, 3) := by decide +kernel
theorem dX7_setPuzzle_19 : decode cX7_setPuzzle 19 = .ok (.aload_n 0, 1) := by decide +kernel
theorem dX7_setPuzzle_20 : decode cX7_setPuzzle 20 = .ok (.getfield 7, 3) := by decide +kernel
theorem dX7_setPuzzle_23 : decode cX7_setPuzzle 23 = .ok (.iconst 0, 1) := by decide +kernel
theorem dX7_setPuzzle_24 : decode cX7_setPuzzle 24 = .ok (.aload_n 0, 1) := by decide +kernel
theorem dX7_setPuzzle_25 : decode cX7_setPuzzle 25 = .ok (.getfield 178, 3) := by decide +kernel
theorem dX7_setPuzzle_28 : decode cX7_setPuzzle 28 = .ok (.iastore, 1) := by decide +kernel
theorem dX7_setPuzzle_29 : decode cX7_setPuzzle 29 = .ok (.aload_n 0, 1) := by decide +kernel
theorem dX7_setPuzzle_30 : decode cX7_setPuzzle 30 = .ok (.getfield 7, 3) := by decide +kernel
theorem dX7_setPuzzle_33 : decode cX7_setPuzzle 33 = .ok (.iconst 1, 1) := by decide +kernel
theorem dX7_setPuzzle_34 : decode cX7_setPuzzle 34 = .ok (.aload_n 0, 1) := by decide +kernel
theorem dX7_setPuzzle_35 : decode cX7_setPuzzle 35 = .ok (.getfield 175, 3) := by decide +kernel
theorem dX7_setPuzzle_38 : decode cX7_setPuzzle 38 = .ok (.iastore, 1) := by decide +kernel
theorem dX7_setPuzzle_39 : decode cX7_setPuzzle 39 = .ok (.iconst 0, 1) := by decide +kernel
theorem dX7_setPuzzle_40 : decode cX7_setPuzzle 40 = .ok (.istore_n 1, 1) := by decide +kernel
theorem dX7_setPuzzle_41 : decode cX7_setPuzzle 41 = .ok (.iload_n 1, 1) := by decide +kernel
theorem dX7_setPuzzle_42 : decode cX7_setPuzzle 42 = .ok (.bipush 16, 2) := by decide +kernel
theorem dX7_setPuzzle_44 : decode cX7_setPuzzle 44 = .ok (.if_icmp .ge 49, 3) := by decide +kernel
theorem dX7_setPuzzle_47 : decode cX7_setPuzzle 47 = .ok (.aload_n 0, 1) := by decide +kernel
theorem dX7_setPuzzle_48 : decode cX7_setPuzzle 48 = .ok (.getfield 7, 3) := by decide +kernel
theorem dX7_setPuzzle_51 : decode cX7_setPuzzle 51 = .ok (.iconst 2, 1) := by decide +kernel
theorem dX7_setPuzzle_52 : decode cX7_setPuzzle 52 = .ok (.iload_n 1, 1) := by decide +kernel
theorem dX7_setPuzzle_53 : decode cX7_setPuzzle 53 = .ok (.iadd, 1) := by decide +kernel
theorem dX7_setPuzzle_54 : decode cX7_setPuzzle 54 = .ok (.iload_n 1, 1) := by decide +kernel
theorem dX7_setPuzzle_55 : decode cX7_setPuzzle 55 = .ok (.aload_n 0, 1) := by decide +kernel
theorem dX7_setPuzzle_56 : decode cX7_setPuzzle 56 = .ok (.invokevirtual 82, 3) := by decide +kernel
theorem dX7_setPuzzle_59 : decode cX7_setPuzzle 59 = .ok (.if_icmp .ge 26, 3) := by decide +kernel
theorem dX7_setPuzzle_62 : decode cX7_setPuzzle 62 = .ok (.aload_n 0, 1) := by decide +kernel
theorem dX7_setPuzzle_63 : decode cX7_setPuzzle 63 = .ok (.getfield 32, 3) := by decide +kernel
theorem dX7_setPuzzle_66 : decode cX7_setPuzzle 66 = .ok (.iload_n 1, 1) := by decide +kernel
theorem dX7_setPuzzle_67 : decode cX7_setPuzzle 67 = .ok (.aload_n 0, 1) := by decide +kernel
theorem dX7_setPuzzle_68 : decode cX7_setPuzzle 68 = .ok (.getfield 178, 3) := by decide +kernel
theorem dX7_setPuzzle_71 : decode cX7_setPuzzle 71 = .ok (.idiv, 1) := by decide +kernel
theorem dX7_setPuzzle_72 : decode cX7_setPuzzle 72 = .ok (.iconst 4, 1) := by decide +kernel
theorem dX7_setPuzzle_73 : decode cX7_setPuzzle 73 = .ok (.imul, 1) := by decide +kernel
theorem dX7_setPuzzle_74 : decode cX7_setPuzzle 74 = .ok (.iload_n 1, 1) := by decide +kernel
theorem dX7_setPuzzle_75 : decode cX7_setPuzzle 75 = .ok (.aload_n 0, 1) := by decide +kernel
theorem dX7_setPuzzle_76 : decode cX7_setPuzzle 76 = .ok (.getfield 178, 3) := by decide +kernel
theorem dX7_setPuzzle_79 : decode cX7_setPuzzle 79 = .ok (.irem, 1) := by decide +kernel
theorem dX7_setPuzzle_80 : decode cX7_setPuzzle 80 = .ok (.iadd, 1) := by decide +kernel
theorem dX7_setPuzzle_81 : decode cX7_setPuzzle 81 = .ok (.iaload, 1) := by decide +kernel
theorem dX7_setPuzzle_82 : decode cX7_setPuzzle 82 = .ok (.goto 4, 3) := by decide +kernel
theorem dX7_setPuzzle_85 : decode cX7_setPuzzle 85 = .ok (.iconst (-1), 1) := by decide +kernel
theorem dX7_setPuzzle_86 : decode cX7_setPuzzle 86 = .ok (.iastore, 1) := by decide +kernel
theorem dX7_setPuzzle_87 : decode cX7_setPuzzle 87 = .ok (.iinc 1 1, 3) := by decide +kernel
theorem dX7_setPuzzle_90 : decode cX7_setPuzzle 90 = .ok (.goto (-49), 3) := by decide +kernel
theorem dX7_setPuzzle_93 : decode cX7_setPuzzle 93 = .ok (.bipush 18, 2) := by decide +kernel
theorem dX7_setPuzzle_95 : decode cX7_setPuzzle 95 = .ok (.istore_n 1, 1) := by decide +kernel
theorem dX7_setPuzzle_96 : decode cX7_setPuzzle 96 = .ok (.iload_n 1, 1) := by decide +kernel
theorem dX7_setPuzzle_97 : decode cX7_setPuzzle 97 = .ok (.bipush 66, 2) := by decide +kernel
theorem dX7_setPuzzle_99 : decode cX7_setPuzzle 99 = .ok (.if_icmp .ge 16, 3) := by decide +kernel
theorem dX7_setPuzzle_102 : decode cX7_setPuzzle 102 = .ok (.aload_n 0, 1) := by decide +kernel
theorem dX7_setPuzzle_103 : decode cX7_setPuzzle 103 = .ok (.getfield 7, 3) := by decide +kernel
theorem dX7_setPuzzle_106 : decode cX7_setPuzzle 106 = .ok (.iload_n 1, 1) := by decide +kernel
theorem dX7_setPuzzle_107 : decode cX7_setPuzzle 107 = .ok (.iconst 0, 1) := by decide +kernel
theorem dX7_setPuzzle_108 : decode cX7_setPuzzle 108 = .ok (.iastore, 1) := by decide +kernel
theorem dX7_setPuzzle_109 : decode cX7_setPuzzle 109 = .ok (.iinc 1 1, 3) := by decide +kernel
theorem dX7_setPuzzle_112 : decode cX7_setPuzzle 112 = .ok (.goto (-16), 3) := by decide +kernel
theorem dX7_setPuzzle_115 : decode cX7_setPuzzle 115 = .ok (.aload_n 0, 1) := by decide +kernel
theorem dX7_setPuzzle_116 : decode cX7_setPuzzle 116 = .ok (.invokevirtual 69, 3) := by decide +kernel
theorem dX7_setPuzzle_119 : decode cX7_setPuzzle 119 = .ok (.ireturn, 1) := by decide +kernel
theorem dX7_setCount_0 : decode cX7_setCount 0 = .ok (.iload_n 1, 1) := by decide +kernel
theorem dX7_setCount_1 : decode cX7_setCount 1 = .ok (.iconst 0, 1) := by decide +kernel
theorem dX7_setCount_2 : decode cX7_setCount 2 = .ok (.aload_n 0, 1) := by decide +kernel
theorem dX7_setCount_3 : decode cX7_setCount 3 = .ok (.invokevirtual 82, 3) := by decide +kernel
theorem dX7_setCount_6 : decode cX7_setCount 6 = .ok (.iconst 1, 1) := by decide +kernel
theorem dX7_setCount_7 : decode cX7_setCount 7 = .ok (.isub, 1) := by decide +kernel
theorem dX7_setCount_8 : decode cX7_setCount 8 = .ok (.invokestatic 162, 3) := by decide +kernel
theorem dX7_setCount_11 : decode cX7_setCount 11 = .ok (.ifCond .eq 12, 3) := by decide +kernel
theorem dX7_setCount_14 : decode cX7_setCount 14 = .ok (.iload_n 2, 1) := by decide +kernel
theorem dX7_setCount_15 : decode cX7_setCount 15 = .ok (.iconst (-1), 1) := by decide +kernel
theorem dX7_setCount_16 : decode cX7_setCount 16 = .ok (.iconst 3, 1) := by decide +kernel
theorem dX7_setCount_17 : decode cX7_setCount 17 = .ok (.invokestatic 162, 3) := by decide +kernel
theorem dX7_setCount_20 : decode cX7_setCount 20 = .ok (.ifCond .ne 6, 3) := by decide +kernel
theorem dX7_setCount_23 : decode cX7_setCount 23 = .ok (.bipush (-2), 2) := by decide +kernel
theorem dX7_setCount_25 : decode cX7_setCount 25 = .ok (.ireturn, 1) := by decide +kernel
theorem dX7_setCount_26 : decode cX7_setCount 26 = .ok (.aload_n 0, 1) := by decide +kernel
theorem dX7_setCount_27 : decode cX7_setCount 27 = .ok (.invokevirtual 190, 3) := by decide +kernel
theorem dX7_setCount_30 : decode cX7_setCount 30 = .ok (.aload_n 0, 1) := by decide +kernel
theorem dX7_setCount_31 : decode cX7_setCount 31 = .ok (.getfield 7, 3) := by decide +kernel
theorem dX7_setCount_34 : decode cX7_setCount 34 = .ok (.iconst 2, 1) := by decide +kernel
theorem dX7_setCount_35 : decode cX7_setCount 35 = .ok (.iload_n 1, 1) := by decide +kernel
theorem dX7_setCount_36 : decode cX7_setCount 36 = .ok (.iadd, 1) := by decide +kernel
theorem dX7_setCount_37 : decode cX7_setCount 37 = .ok (.iaload, 1) := by decide +kernel
theorem dX7_setCount_38 : decode cX7_setCount 38 = .ok (.istore_n 3, 1) := by decide +kernel
theorem dX7_setCount_39 : decode cX7_setCount 39 = .ok (.aload_n 0, 1) := by decide +kernel
theorem dX7_setCount_40 : decode cX7_setCount 40 = .ok (.getfield 7, 3) := by decide +kernel
theorem dX7_setCount_43 : decode cX7_setCount 43 = .ok (.iconst 2, 1) := by decide +kernel
theorem dX7_setCount_44 : decode cX7_setCount 44 = .ok (.iload_n 1, 1) := by decide +kernel
theorem dX7_setCount_45 : decode cX7_setCount 45 = .ok (.iadd, 1) := by decide +kernel
theorem dX7_setCount_46 : decode cX7_setCount 46 = .ok (.iload_n 2, 1) := by decide +kernel
theorem dX7_setCount_47 : decode cX7_setCount 47 = .ok (.iastore, 1) := by decide +kernel
theorem dX7_setCount_48 : decode cX7_setCount 48 = .ok (.iload_n 3, 1) := by decide +kernel
theorem dX7_setCount_49 : decode cX7_setCount 49 = .ok (.ireturn, 1) := by decide +kernel
theorem dX7_mark_0 : decode cX7_mark 0 = .ok (.iload_n 1, 1) := by decide +kernel
theorem dX7_mark_1 : decode cX7_mark 1 = .ok (.iconst 0, 1) := by decide +kernel
theorem dX7_mark_2 : decode cX7_mark 2 = .ok (.aload_n 0, 1) := by decide +kernel
theorem dX7_mark_3 : decode cX7_mark 3 = .ok (.invokevirtual 69, 3) := by decide +kernel
theorem dX7_mark_6 : decode cX7_mark 6 = .ok (.iconst 1, 1) := by decide +kernel
theorem dX7_mark_7 : decode cX7_mark 7 = .ok (.isub, 1) := by decide +kernel
theorem dX7_mark_8 : decode cX7_mark 8 = .ok (.invokestatic 162, 3) := by decide +kernel
theorem dX7_mark_11 : decode cX7_mark 11 = .ok (.ifCond .eq 12, 3) := by decide +kernel
theorem dX7_mark_14 : decode cX7_mark 14 = .ok (.iload_n 2, 1) := by decide +kernel
theorem dX7_mark_15 : decode cX7_mark 15 = .ok (.iconst 0, 1) := by decide +kernel
theorem dX7_mark_16 : decode cX7_mark 16 = .ok (.iconst 2, 1) := by decide +kernel
theorem dX7_mark_17 : decode cX7_mark 17 = .ok (.invokestatic 162, 3) := by decide +kernel
theorem dX7_mark_20 : decode cX7_mark 20 = .ok (.ifCond .ne 6, 3) := by decide +kernel
theorem dX7_mark_23 : decode cX7_mark 23 = .ok (.bipush (-2), 2) := by decide +kernel
theorem dX7_mark_25 : decode cX7_mark 25 = .ok (.ireturn, 1) := by decide +kernel
theorem dX7_mark_26 : decode cX7_mark 26 = .ok (.aload_n 0, 1) := by decide +kernel
theorem dX7_mark_27 : decode cX7_mark 27 = .ok (.invokevirtual 190, 3) := by decide +kernel
theorem dX7_mark_30 : decode cX7_mark 30 = .ok (.aload_n 0, 1) := by decide +kernel
theorem dX7_mark_31 : decode cX7_mark 31 = .ok (.iload_n 1, 1) := by decide +kernel
theorem dX7_mark_32 : decode cX7_mark 32 = .ok (.invokevirtual 56, 3) := by decide +kernel
theorem dX7_mark_35 : decode cX7_mark 35 = .ok (.istore_n 3, 1) := by decide +kernel
theorem dX7_mark_36 : decode cX7_mark 36 = .ok (.aload_n 0, 1) := by decide +kernel
theorem dX7_mark_37 : decode cX7_mark 37 = .ok (.getfield 7, 3) := by decide +kernel
theorem dX7_mark_40 : decode cX7_mark 40 = .ok (.bipush 18, 2) := by decide +kernel
theorem dX7_mark_42 : decode cX7_mark 42 = .ok (.iload_n 1, 1) := by decide +kernel
theorem dX7_mark_43 : decode cX7_mark 43 = .ok (.iadd, 1) := by decide +kernel
theorem dX7_mark_44 : decode cX7_mark 44 = .ok (.iload_n 2, 1) := by decide +kernel
theorem dX7_mark_45 : decode cX7_mark 45 = .ok (.iastore, 1) := by decide +kernel
theorem dX7_mark_46 : decode cX7_mark 46 = .ok (.iload_n 3, 1) := by decide +kernel
theorem dX7_mark_47 : decode cX7_mark 47 = .ok (.ireturn, 1) := by decide +kernel
theorem dX7_marked_0 : decode cX7_marked 0 = .ok (.iconst 0, 1) := by decide +kernel
theorem dX7_marked_1 : decode cX7_marked 1 = .ok (.istore_n 2, 1) := by decide +kernel
theorem dX7_marked_2 : decode cX7_marked 2 = .ok (.iconst 0, 1) := by decide +kernel
theorem dX7_marked_3 : decode cX7_marked 3 = .ok (.istore_n 3, 1) := by decide +kernel
theorem dX7_marked_4 : decode cX7_marked 4 = .ok (.iload_n 3, 1) := by decide +kernel
theorem dX7_marked_5 : decode cX7_marked 5 = .ok (.aload_n 0, 1) := by decide +kernel
theorem dX7_marked_6 : decode cX7_marked 6 = .ok (.invokevirtual 69, 3) := by decide +kernel
theorem dX7_marked_9 : decode cX7_marked 9 = .ok (.if_icmp .ge 26, 3) := by decide +kernel
theorem dX7_marked_12 : decode cX7_marked 12 = .ok (.iload_n 2, 1) := by decide +kernel
theorem dX7_marked_13 : decode cX7_marked 13 = .ok (.aload_n 0, 1) := by decide +kernel
theorem dX7_marked_14 : decode cX7_marked 14 = .ok (.iload_n 3, 1) := by decide +kernel
theorem dX7_marked_15 : decode cX7_marked 15 = .ok (.invokevirtual 56, 3) := by decide +kernel
theorem dX7_marked_18 : decode cX7_marked 18 = .ok (.iload_n 1, 1) := by decide +kernel
theorem dX7_marked_19 : decode cX7_marked 19 = .ok (.if_icmp .ne 7, 3) := by decide +kernel
theorem dX7_marked_22 : decode cX7_marked 22 = .ok (.iconst 1, 1) := by decide +kernel
theorem dX7_marked_23 : decode cX7_marked 23 = .ok (.goto 4, 3) := by decide +kernel
theorem dX7_marked_26 : decode cX7_marked 26 = .ok (.iconst 0, 1) := by decide +kernel
theorem dX7_marked_27 : decode cX7_marked 27 = .ok (.iadd, 1) := by decide +kernel
theorem dX7_marked_28 : decode cX7_marked 28 = .ok (.istore_n 2, 1) := by decide +kernel
theorem dX7_marked_29 : decode cX7_marked 29 = .ok (.iinc 3 1, 3) := by decide +kernel
theorem dX7_marked_32 : decode cX7_marked 32 = .ok (.goto (-28), 3) := by decide +kernel
theorem dX7_marked_35 : decode cX7_marked 35 = .ok (.iload_n 2, 1) := by decide +kernel
theorem dX7_marked_36 : decode cX7_marked 36 = .ok (.ireturn, 1) := by decide +kernel
theorem dX7_wipe_0 : decode cX7_wipe 0 = .ok (.aload_n 0, 1) := by decide +kernel
theorem dX7_wipe_1 : decode cX7_wipe 1 = .ok (.invokevirtual 190, 3) := by decide +kernel
theorem dX7_wipe_4 : decode cX7_wipe 4 = .ok (.aload_n 0, 1) := by decide +kernel
theorem dX7_wipe_5 : decode cX7_wipe 5 = .ok (.invokevirtual 69, 3) := by decide +kernel
theorem dX7_wipe_8 : decode cX7_wipe 8 = .ok (.aload_n 0, 1) := by decide +kernel
theorem dX7_wipe_9 : decode cX7_wipe 9 = .ok (.iconst 0, 1) := by decide +kernel
theorem dX7_wipe_10 : decode cX7_wipe 10 = .ok (.invokevirtual 193, 3) := by decide +kernel
theorem dX7_wipe_13 : decode cX7_wipe 13 = .ok (.isub, 1) := by decide +kernel
theorem dX7_wipe_14 : decode cX7_wipe 14 = .ok (.istore_n 1, 1) := by decide +kernel
theorem dX7_wipe_15 : decode cX7_wipe 15 = .ok (.bipush 18, 2) := by decide +kernel
theorem dX7_wipe_17 : decode cX7_wipe 17 = .ok (.istore_n 2, 1) := by decide +kernel
theorem dX7_wipe_18 : decode cX7_wipe 18 = .ok (.iload_n 2, 1) := by decide +kernel
theorem dX7_wipe_19 : decode cX7_wipe 19 = .ok (.bipush 66, 2) := by decide +kernel
theorem dX7_wipe_21 : decode cX7_wipe 21 = .ok (.if_icmp .ge 16, 3) := by decide +kernel
theorem dX7_wipe_24 : decode cX7_wipe 24 = .ok (.aload_n 0, 1) := by decide +kernel
theorem dX7_wipe_25 : decode cX7_wipe 25 = .ok (.getfield 7, 3) := by decide +kernel
theorem dX7_wipe_28 : decode cX7_wipe 28 = .ok (.iload_n 2, 1) := by decide +kernel
theorem dX7_wipe_29 : decode cX7_wipe 29 = .ok (.iconst 0, 1) := by decide +kernel
theorem dX7_wipe_30 : decode cX7_wipe 30 = .ok (.iastore, 1) := by decide +kernel
theorem dX7_wipe_31 : decode cX7_wipe 31 = .ok (.iinc 2 1, 3) := by decide +kernel
theorem dX7_wipe_34 : decode cX7_wipe 34 = .ok (.goto (-16), 3) := by decide +kernel
theorem dX7_wipe_37 : decode cX7_wipe 37 = .ok (.iload_n 1, 1) := by decide +kernel
theorem dX7_wipe_38 : decode cX7_wipe 38 = .ok (.ireturn, 1) := by decide +kernel
theorem dX7_deduce_0 : decode cX7_deduce 0 = .ok (.aload_n 0, 1) := by decide +kernel
theorem dX7_deduce_1 : decode cX7_deduce 1 = .ok (.invokevirtual 137, 3) := by decide +kernel
theorem dX7_deduce_4 : decode cX7_deduce 4 = .ok (.ifCond .ne 6, 3) := by decide +kernel
theorem dX7_deduce_7 : decode cX7_deduce 7 = .ok (.bipush (-3), 2) := by decide +kernel
theorem dX7_deduce_9 : decode cX7_deduce 9 = .ok (.ireturn, 1) := by decide +kernel
theorem dX7_deduce_10 : decode cX7_deduce 10 = .ok (.aload_n 0, 1) := by decide +kernel
theorem dX7_deduce_11 : decode cX7_deduce 11 = .ok (.invokevirtual 190, 3) := by decide +kernel
theorem dX7_deduce_14 : decode cX7_deduce 14 = .ok (.aload_n 0, 1) := by decide +kernel
theorem dX7_deduce_15 : decode cX7_deduce 15 = .ok (.bipush 7, 2) := by decide +kernel
theorem dX7_deduce_17 : decode cX7_deduce 17 = .ok (.invokevirtual 196, 3) := by decide +kernel
theorem dX7_deduce_20 : decode cX7_deduce 20 = .ok (.ifCond .ne 5, 3) := by decide +kernel
theorem dX7_deduce_23 : decode cX7_deduce 23 = .ok (.iconst (-1), 1) := by decide +kernel
theorem dX7_deduce_24 : decode cX7_deduce 24 = .ok (.ireturn, 1) := by decide +kernel
theorem dX7_deduce_25 : decode cX7_deduce 25 = .ok (.aload_n 0, 1) := by decide +kernel
theorem dX7_deduce_26 : decode cX7_deduce 26 = .ok (.invokevirtual 152, 3) := by decide +kernel
theorem dX7_deduce_29 : decode cX7_deduce 29 = .ok (.aload_n 0, 1) := by decide +kernel
theorem dX7_deduce_30 : decode cX7_deduce 30 = .ok (.getfield 7, 3) := by decide +kernel
theorem dX7_deduce_33 : decode cX7_deduce 33 = .ok (.bipush 58, 2) := by decide +kernel
theorem dX7_deduce_35 : decode cX7_deduce 35 = .ok (.aload_n 0, 1) := by decide +kernel
theorem dX7_deduce_36 : decode cX7_deduce 36 = .ok (.getfield 115, 3) := by decide +kernel
theorem dX7_deduce_39 : decode cX7_deduce 39 = .ok (.iadd, 1) := by decide +kernel
theorem dX7_deduce_40 : decode cX7_deduce 40 = .ok (.dup2, 1) := by decide +kernel
theorem dX7_deduce_41 : decode cX7_deduce 41 = .ok (.iaload, 1) := by decide +kernel
theorem dX7_deduce_42 : decode cX7_deduce 42 = .ok (.iconst 1, 1) := by decide +kernel
theorem dX7_deduce_43 : decode cX7_deduce 43 = .ok (.iadd, 1) := by decide +kernel
theorem dX7_deduce_44 : decode cX7_deduce 44 = .ok (.iastore, 1) := by decide +kernel
theorem dX7_deduce_45 : decode cX7_deduce 45 = .ok (.aload_n 0, 1) := by decide +kernel
theorem dX7_deduce_46 : decode cX7_deduce 46 = .ok (.getfield 115, 3) := by decide +kernel
theorem dX7_deduce_49 : decode cX7_deduce 49 = .ok (.ireturn, 1) := by decide +kernel
theorem dX7_deduceAll_0 : decode cX7_deduceAll 0 = .ok (.iload_n 1, 1) := by decide +kernel
theorem dX7_deduceAll_1 : decode cX7_deduceAll 1 = .ok (.iconst 0, 1) := by decide +kernel
theorem dX7_deduceAll_2 : decode cX7_deduceAll 2 = .ok (.bipush 7, 2) := by decide +kernel
theorem dX7_deduceAll_4 : decode cX7_deduceAll 4 = .ok (.invokestatic 162, 3) := by decide +kernel
theorem dX7_deduceAll_7 : decode cX7_deduceAll 7 = .ok (.ifCond .ne 6, 3) := by decide +kernel
theorem dX7_deduceAll_10 : decode cX7_deduceAll 10 = .ok (.bipush (-2), 2) := by decide +kernel
theorem dX7_deduceAll_12 : decode cX7_deduceAll 12 = .ok (.ireturn, 1) := by decide +kernel
theorem dX7_deduceAll_13 : decode cX7_deduceAll 13 = .ok (.aload_n 0, 1) := by decide +kernel
theorem dX7_deduceAll_14 : decode cX7_deduceAll 14 = .ok (.invokevirtual 137, 3) := by decide +kernel
theorem dX7_deduceAll_17 : decode cX7_deduceAll 17 = .ok (.ifCond .ne 6, 3) := by decide +kernel
theorem dX7_deduceAll_20 : decode cX7_deduceAll 20 = .ok (.bipush (-3), 2) := by decide +kernel
theorem dX7_deduceAll_22 : decode cX7_deduceAll 22 = .ok (.ireturn, 1) := by decide +kernel
theorem dX7_deduceAll_23 : decode cX7_deduceAll 23 = .ok (.aload_n 0, 1) := by decide +kernel
theorem dX7_deduceAll_24 : decode cX7_deduceAll 24 = .ok (.invokevirtual 190, 3) := by decide +kernel
theorem dX7_deduceAll_27 : decode cX7_deduceAll 27 = .ok (.iconst 0, 1) := by decide +kernel
theorem dX7_deduceAll_28 : decode cX7_deduceAll 28 = .ok (.istore_n 2, 1) := by decide +kernel
theorem dX7_deduceAll_29 : decode cX7_deduceAll 29 = .ok (.aload_n 0, 1) := by decide +kernel
theorem dX7_deduceAll_30 : decode cX7_deduceAll 30 = .ok (.iload_n 1, 1) := by decide +kernel
theorem dX7_deduceAll_31 : decode cX7_deduceAll 31 = .ok (.invokevirtual 196, 3) := by decide +kernel
theorem dX7_deduceAll_34 : decode cX7_deduceAll 34 = .ok (.ifCond .eq 29, 3) := by decide +kernel
theorem dX7_deduceAll_37 : decode cX7_deduceAll 37 = .ok (.aload_n 0, 1) := by decide +kernel
theorem dX7_deduceAll_38 : decode cX7_deduceAll 38 = .ok (.invokevirtual 152, 3) := by decide +kernel
theorem dX7_deduceAll_41 : decode cX7_deduceAll 41 = .ok (.aload_n 0, 1) := by decide +kernel
theorem dX7_deduceAll_42 : decode cX7_deduceAll 42 = .ok (.getfield 7, 3) := by decide +kernel
theorem dX7_deduceAll_45 : decode cX7_deduceAll 45 = .ok (.bipush 58, 2) := by decide +kernel
theorem dX7_deduceAll_47 : decode cX7_deduceAll 47 = .ok (.aload_n 0, 1) := by decide +kernel
theorem dX7_deduceAll_48 : decode cX7_deduceAll 48 = .ok (.getfield 115, 3) := by decide +kernel
theorem dX7_deduceAll_51 : decode cX7_deduceAll 51 = .ok (.iadd, 1) := by decide +kernel
theorem dX7_deduceAll_52 : decode cX7_deduceAll 52 = .ok (.dup2, 1) := by decide +kernel
theorem dX7_deduceAll_53 : decode cX7_deduceAll 53 = .ok (.iaload, 1) := by decide +kernel
theorem dX7_deduceAll_54 : decode cX7_deduceAll 54 = .ok (.iconst 1, 1) := by decide +kernel
theorem dX7_deduceAll_55 : decode cX7_deduceAll 55 = .ok (.iadd, 1) := by decide +kernel
theorem dX7_deduceAll_56 : decode cX7_deduceAll 56 = .ok (.iastore, 1) := by decide +kernel
theorem dX7_deduceAll_57 : decode cX7_deduceAll 57 = .ok (.iinc 2 1, 3) := by decide +kernel
theorem dX7_deduceAll_60 : decode cX7_deduceAll 60 = .ok (.goto (-31), 3) := by decide +kernel
theorem dX7_deduceAll_63 : decode cX7_deduceAll 63 = .ok (.iload_n 2, 1) := by decide +kernel
theorem dX7_deduceAll_64 : decode cX7_deduceAll 64 = .ok (.ireturn, 1) := by decide +kernel
theorem dX7_countOf_0 : decode cX7_countOf 0 = .ok (.iload_n 1, 1) := by decide +kernel
theorem dX7_countOf_1 : decode cX7_countOf 1 = .ok (.iconst 0, 1) := by decide +kernel
theorem dX7_countOf_2 : decode cX7_countOf 2 = .ok (.aload_n 0, 1) := by decide +kernel
theorem dX7_countOf_3 : decode cX7_countOf 3 = .ok (.invokevirtual 82, 3) := by decide +kernel
theorem dX7_countOf_6 : decode cX7_countOf 6 = .ok (.iconst 1, 1) := by decide +kernel
theorem dX7_countOf_7 : decode cX7_countOf 7 = .ok (.isub, 1) := by decide +kernel
theorem dX7_countOf_8 : decode cX7_countOf 8 = .ok (.invokestatic 162, 3) := by decide +kernel
theorem dX7_countOf_11 : decode cX7_countOf 11 = .ok (.ifCond .eq 14, 3) := by decide +kernel
theorem dX7_countOf_14 : decode cX7_countOf 14 = .ok (.aload_n 0, 1) := by decide +kernel
theorem dX7_countOf_15 : decode cX7_countOf 15 = .ok (.getfield 7, 3) := by decide +kernel
theorem dX7_countOf_18 : decode cX7_countOf 18 = .ok (.iconst 2, 1) := by decide +kernel
theorem dX7_countOf_19 : decode cX7_countOf 19 = .ok (.iload_n 1, 1) := by decide +kernel
theorem dX7_countOf_20 : decode cX7_countOf 20 = .ok (.iadd, 1) := by decide +kernel
theorem dX7_countOf_21 : decode cX7_countOf 21 = .ok (.iaload, 1) := by decide +kernel
theorem dX7_countOf_22 : decode cX7_countOf 22 = .ok (.goto 5, 3) := by decide +kernel
theorem dX7_countOf_25 : decode cX7_countOf 25 = .ok (.bipush (-2), 2) := by decide +kernel
theorem dX7_countOf_27 : decode cX7_countOf 27 = .ok (.ireturn, 1) := by decide +kernel
theorem dX7_edge_0 : decode cX7_edge 0 = .ok (.iload_n 1, 1) := by decide +kernel
theorem dX7_edge_1 : decode cX7_edge 1 = .ok (.iconst 0, 1) := by decide +kernel
theorem dX7_edge_2 : decode cX7_edge 2 = .ok (.aload_n 0, 1) := by decide +kernel
theorem dX7_edge_3 : decode cX7_edge 3 = .ok (.invokevirtual 69, 3) := by decide +kernel
theorem dX7_edge_6 : decode cX7_edge 6 = .ok (.iconst 1, 1) := by decide +kernel
theorem dX7_edge_7 : decode cX7_edge 7 = .ok (.isub, 1) := by decide +kernel
theorem dX7_edge_8 : decode cX7_edge 8 = .ok (.invokestatic 162, 3) := by decide +kernel
theorem dX7_edge_11 : decode cX7_edge 11 = .ok (.ifCond .eq 11, 3) := by decide +kernel
theorem dX7_edge_14 : decode cX7_edge 14 = .ok (.aload_n 0, 1) := by decide +kernel
theorem dX7_edge_15 : decode cX7_edge 15 = .ok (.iload_n 1, 1) := by decide +kernel
theorem dX7_edge_16 : decode cX7_edge 16 = .ok (.invokevirtual 56, 3) := by decide +kernel
theorem dX7_edge_19 : decode cX7_edge 19 = .ok (.goto 5, 3) := by decide +kernel
theorem dX7_edge_22 : decode cX7_edge 22 = .ok (.bipush (-2), 2) := by decide +kernel
theorem dX7_edge_24 : decode cX7_edge 24 = .ok (.ireturn, 1) := by decide +kernel
theorem dX7_edgeAt_0 : decode cX7_edgeAt 0 = .ok (.iload_n 2, 1) := by decide +kernel
theorem dX7_edgeAt_1 : decode cX7_edgeAt 1 = .ok (.iconst 0, 1) := by decide +kernel
theorem dX7_edgeAt_2 : decode cX7_edgeAt 2 = .ok (.iload_n 1, 1) := by decide +kernel
theorem dX7_edgeAt_3 : decode cX7_edgeAt 3 = .ok (.ifCond .eq 10, 3) := by decide +kernel
theorem dX7_edgeAt_6 : decode cX7_edgeAt 6 = .ok (.aload_n 0, 1) := by decide +kernel
theorem dX7_edgeAt_7 : decode cX7_edgeAt 7 = .ok (.invokevirtual 63, 3) := by decide +kernel
theorem dX7_edgeAt_10 : decode cX7_edgeAt 10 = .ok (.goto 7, 3) := by decide +kernel
theorem dX7_edgeAt_13 : decode cX7_edgeAt 13 = .ok (.aload_n 0, 1) := by decide +kernel
theorem dX7_edgeAt_14 : decode cX7_edgeAt 14 = .ok (.invokevirtual 82, 3) := by decide +kernel
theorem dX7_edgeAt_17 : decode cX7_edgeAt 17 = .ok (.iconst 1, 1) := by decide +kernel
theorem dX7_edgeAt_18 : decode cX7_edgeAt 18 = .ok (.isub, 1) := by decide +kernel
theorem dX7_edgeAt_19 : decode cX7_edgeAt 19 = .ok (.invokestatic 162, 3) := by decide +kernel
theorem dX7_edgeAt_22 : decode cX7_edgeAt 22 = .ok (.ifCond .eq 7, 3) := by decide +kernel
theorem dX7_edgeAt_25 : decode cX7_edgeAt 25 = .ok (.iload_n 3, 1) := by decide +kernel
theorem dX7_edgeAt_26 : decode cX7_edgeAt 26 = .ok (.ifCond .ge 6, 3) := by decide +kernel
theorem dX7_edgeAt_29 : decode cX7_edgeAt 29 = .ok (.bipush (-2), 2) := by decide +kernel
theorem dX7_edgeAt_31 : decode cX7_edgeAt 31 = .ok (.ireturn, 1) := by decide +kernel
theorem dX7_edgeAt_32 : decode cX7_edgeAt 32 = .ok (.iload_n 1, 1) := by decide +kernel
theorem dX7_edgeAt_33 : decode cX7_edgeAt 33 = .ok (.ifCond .ne 19, 3) := by decide +kernel
theorem dX7_edgeAt_36 : decode cX7_edgeAt 36 = .ok (.iload_n 3, 1) := by decide +kernel
theorem dX7_edgeAt_37 : decode cX7_edgeAt 37 = .ok (.iconst 4, 1) := by decide +kernel
theorem dX7_edgeAt_38 : decode cX7_edgeAt 38 = .ok (.if_icmp .ge 12, 3) := by decide +kernel
theorem dX7_edgeAt_41 : decode cX7_edgeAt 41 = .ok (.aload_n 0, 1) := by decide +kernel
theorem dX7_edgeAt_42 : decode cX7_edgeAt 42 = .ok (.iload_n 2, 1) := by decide +kernel
theorem dX7_edgeAt_43 : decode cX7_edgeAt 43 = .ok (.iload_n 3, 1) := by decide +kernel
theorem dX7_edgeAt_44 : decode cX7_edgeAt 44 = .ok (.invokevirtual 52, 3) := by decide +kernel
theorem dX7_edgeAt_47 : decode cX7_edgeAt 47 = .ok (.goto 4, 3) := by decide +kernel
theorem dX7_edgeAt_50 : decode cX7_edgeAt 50 = .ok (.iconst (-1), 1) := by decide +kernel
theorem dX7_edgeAt_51 : decode cX7_edgeAt 51 = .ok (.ireturn, 1) := by decide +kernel
theorem dX7_edgeAt_52 : decode cX7_edgeAt 52 = .ok (.iconst 0, 1) := by decide +kernel
theorem dX7_edgeAt_53 : decode cX7_edgeAt 53 = .ok (.istore 4, 2) := by decide +kernel
theorem dX7_edgeAt_55 : decode cX7_edgeAt 55 = .ok (.iconst 0, 1) := by decide +kernel
theorem dX7_edgeAt_56 : decode cX7_edgeAt 56 = .ok (.istore 5, 2) := by decide +kernel
theorem dX7_edgeAt_58 : decode cX7_edgeAt 58 = .ok (.iload 5, 2) := by decide +kernel
theorem dX7_edgeAt_60 : decode cX7_edgeAt 60 = .ok (.iconst 4, 1) := by decide +kernel
theorem dX7_edgeAt_61 : decode cX7_edgeAt 61 = .ok (.if_icmp .ge 37, 3) := by decide +kernel
theorem dX7_edgeAt_64 : decode cX7_edgeAt 64 = .ok (.aload_n 0, 1) := by decide +kernel
theorem dX7_edgeAt_65 : decode cX7_edgeAt 65 = .ok (.iload_n 2, 1) := by decide +kernel
theorem dX7_edgeAt_66 : decode cX7_edgeAt 66 = .ok (.iload 5, 2) := by decide +kernel
theorem dX7_edgeAt_68 : decode cX7_edgeAt 68 = .ok (.invokevirtual 60, 3) := by decide +kernel
theorem dX7_edgeAt_71 : decode cX7_edgeAt 71 = .ok (.iconst (-1), 1) := by decide +kernel
theorem dX7_edgeAt_72 : decode cX7_edgeAt 72 = .ok (.if_icmp .eq 20, 3) := by decide +kernel
theorem dX7_edgeAt_75 : decode cX7_edgeAt 75 = .ok (.iload 4, 2) := by decide +kernel
theorem dX7_edgeAt_77 : decode cX7_edgeAt 77 = .ok (.iload_n 3, 1) := by decide +kernel
theorem dX7_edgeAt_78 : decode cX7_edgeAt 78 = .ok (.if_icmp .ne 11, 3) := by decide +kernel
theorem dX7_edgeAt_81 : decode cX7_edgeAt 81 = .ok (.aload_n 0, 1) := by decide +kernel
theorem dX7_edgeAt_82 : decode cX7_edgeAt 82 = .ok (.iload_n 2, 1) := by decide +kernel
theorem dX7_edgeAt_83 : decode cX7_edgeAt 83 = .ok (.iload 5, 2) := by decide +kernel
theorem dX7_edgeAt_85 : decode cX7_edgeAt 85 = .ok (.invokevirtual 60, 3) := by decide +kernel
theorem dX7_edgeAt_88 : decode cX7_edgeAt 88 = .ok (.ireturn, 1) := by decide +kernel
theorem dX7_edgeAt_89 : decode cX7_edgeAt 89 = .ok (.iinc 4 1, 3) := by decide +kernel
theorem dX7_edgeAt_92 : decode cX7_edgeAt 92 = .ok (.iinc 5 1, 3) := by decide +kernel
theorem dX7_edgeAt_95 : decode cX7_edgeAt 95 = .ok (.goto (-37), 3) := by decide +kernel
theorem dX7_edgeAt_98 : decode cX7_edgeAt 98 = .ok (.iconst (-1), 1) := by decide +kernel
theorem dX7_edgeAt_99 : decode cX7_edgeAt 99 = .ok (.ireturn, 1) := by decide +kernel
theorem dX7_misfit_0 : decode cX7_misfit 0 = .ok (.aload_n 0, 1) := by decide +kernel
theorem dX7_misfit_1 : decode cX7_misfit 1 = .ok (.invokevirtual 137, 3) := by decide +kernel
theorem dX7_misfit_4 : decode cX7_misfit 4 = .ok (.istore_n 2, 1) := by decide +kernel
theorem dX7_misfit_5 : decode cX7_misfit 5 = .ok (.iload_n 1, 1) := by decide +kernel
theorem dX7_misfit_6 : decode cX7_misfit 6 = .ok (.tableswitch 76 0 4 #[34, 39, 44, 49, 59], 34) := by decide +kernel
theorem dX7_misfit_40 : decode cX7_misfit 40 = .ok (.aload_n 0, 1) := by decide +kernel
theorem dX7_misfit_41 : decode cX7_misfit 41 = .ok (.getfield 88, 3) := by decide +kernel
theorem dX7_misfit_44 : decode cX7_misfit 44 = .ok (.ireturn, 1) := by decide +kernel
theorem dX7_misfit_45 : decode cX7_misfit 45 = .ok (.aload_n 0, 1) := by decide +kernel
theorem dX7_misfit_46 : decode cX7_misfit 46 = .ok (.getfield 91, 3) := by decide +kernel
theorem dX7_misfit_49 : decode cX7_misfit 49 = .ok (.ireturn, 1) := by decide +kernel
theorem dX7_misfit_50 : decode cX7_misfit 50 = .ok (.aload_n 0, 1) := by decide +kernel
theorem dX7_misfit_51 : decode cX7_misfit 51 = .ok (.getfield 101, 3) := by decide +kernel
theorem dX7_misfit_54 : decode cX7_misfit 54 = .ok (.ireturn, 1) := by decide +kernel
theorem dX7_misfit_55 : decode cX7_misfit 55 = .ok (.iload_n 2, 1) := by decide +kernel
theorem dX7_misfit_56 : decode cX7_misfit 56 = .ok (.ifCond .eq 7, 3) := by decide +kernel
theorem dX7_misfit_59 : decode cX7_misfit 59 = .ok (.iconst 1, 1) := by decide +kernel
theorem dX7_misfit_60 : decode cX7_misfit 60 = .ok (.goto 4, 3) := by decide +kernel
theorem dX7_misfit_63 : decode cX7_misfit 63 = .ok (.iconst 0, 1) := by decide +kernel
theorem dX7_misfit_64 : decode cX7_misfit 64 = .ok (.ireturn, 1) := by decide +kernel
theorem dX7_misfit_65 : decode cX7_misfit 65 = .ok (.iload_n 2, 1) := by decide +kernel
theorem dX7_misfit_66 : decode cX7_misfit 66 = .ok (.ifCond .eq 14, 3) := by decide +kernel
theorem dX7_misfit_69 : decode cX7_misfit 69 = .ok (.aload_n 0, 1) := by decide +kernel
theorem dX7_misfit_70 : decode cX7_misfit 70 = .ok (.getfield 97, 3) := by decide +kernel
theorem dX7_misfit_73 : decode cX7_misfit 73 = .ok (.ifCond .eq 7, 3) := by decide +kernel
theorem dX7_misfit_76 : decode cX7_misfit 76 = .ok (.iconst 1, 1) := by decide +kernel
theorem dX7_misfit_77 : decode cX7_misfit 77 = .ok (.goto 4, 3) := by decide +kernel
theorem dX7_misfit_80 : decode cX7_misfit 80 = .ok (.iconst 0, 1) := by decide +kernel
theorem dX7_misfit_81 : decode cX7_misfit 81 = .ok (.ireturn, 1) := by decide +kernel
theorem dX7_misfit_82 : decode cX7_misfit 82 = .ok (.bipush (-2), 2) := by decide +kernel
theorem dX7_misfit_84 : decode cX7_misfit 84 = .ok (.ireturn, 1) := by decide +kernel
theorem dX7_hint_0 : decode cX7_hint 0 = .ok (.iload_n 1, 1) := by decide +kernel
theorem dX7_hint_1 : decode cX7_hint 1 = .ok (.iconst 0, 1) := by decide +kernel
theorem dX7_hint_2 : decode cX7_hint 2 = .ok (.iconst 3, 1) := by decide +kernel
theorem dX7_hint_3 : decode cX7_hint 3 = .ok (.invokestatic 162, 3) := by decide +kernel
theorem dX7_hint_6 : decode cX7_hint 6 = .ok (.ifCond .ne 6, 3) := by decide +kernel
theorem dX7_hint_9 : decode cX7_hint 9 = .ok (.bipush (-2), 2) := by decide +kernel
theorem dX7_hint_11 : decode cX7_hint 11 = .ok (.ireturn, 1) := by decide +kernel
theorem dX7_hint_12 : decode cX7_hint 12 = .ok (.aload_n 0, 1) := by decide +kernel
theorem dX7_hint_13 : decode cX7_hint 13 = .ok (.invokevirtual 137, 3) := by decide +kernel
theorem dX7_hint_16 : decode cX7_hint 16 = .ok (.ifCond .ne 6, 3) := by decide +kernel
theorem dX7_hint_19 : decode cX7_hint 19 = .ok (.bipush (-3), 2) := by decide +kernel
theorem dX7_hint_21 : decode cX7_hint 21 = .ok (.ireturn, 1) := by decide +kernel
theorem dX7_hint_22 : decode cX7_hint 22 = .ok (.aload_n 0, 1) := by decide +kernel
theorem dX7_hint_23 : decode cX7_hint 23 = .ok (.bipush 7, 2) := by decide +kernel
theorem dX7_hint_25 : decode cX7_hint 25 = .ok (.invokevirtual 196, 3) := by decide +kernel
theorem dX7_hint_28 : decode cX7_hint 28 = .ok (.ifCond .ne 5, 3) := by decide +kernel
theorem dX7_hint_31 : decode cX7_hint 31 = .ok (.iconst (-1), 1) := by decide +kernel
theorem dX7_hint_32 : decode cX7_hint 32 = .ok (.ireturn, 1) := by decide +kernel
theorem dX7_hint_33 : decode cX7_hint 33 = .ok (.iload_n 1, 1) := by decide +kernel
theorem dX7_hint_34 : decode cX7_hint 34 = .ok (.ifCond .ne 10, 3) := by decide +kernel
theorem dX7_hint_37 : decode cX7_hint 37 = .ok (.aload_n 0, 1) := by decide +kernel
theorem dX7_hint_38 : decode cX7_hint 38 = .ok (.getfield 115, 3) := by decide +kernel
theorem dX7_hint_41 : decode cX7_hint 41 = .ok (.goto 31, 3) := by decide +kernel
theorem dX7_hint_44 : decode cX7_hint 44 = .ok (.iload_n 1, 1) := by decide +kernel
theorem dX7_hint_45 : decode cX7_hint 45 = .ok (.iconst 1, 1) := by decide +kernel
theorem dX7_hint_46 : decode cX7_hint 46 = .ok (.if_icmp .ne 10, 3) := by decide +kernel
theorem dX7_hint_49 : decode cX7_hint 49 = .ok (.aload_n 0, 1) := by decide +kernel
theorem dX7_hint_50 : decode cX7_hint 50 = .ok (.getfield 118, 3) := by decide +kernel
theorem dX7_hint_53 : decode cX7_hint 53 = .ok (.goto 19, 3) := by decide +kernel
theorem dX7_hint_56 : decode cX7_hint 56 = .ok (.iload_n 1, 1) := by decide +kernel
theorem dX7_hint_57 : decode cX7_hint 57 = .ok (.iconst 2, 1) := by decide +kernel
theorem dX7_hint_58 : decode cX7_hint 58 = .ok (.if_icmp .ne 10, 3) := by decide +kernel
theorem dX7_hint_61 : decode cX7_hint 61 = .ok (.aload_n 0, 1) := by decide +kernel
theorem dX7_hint_62 : decode cX7_hint 62 = .ok (.getfield 121, 3) := by decide +kernel
theorem dX7_hint_65 : decode cX7_hint 65 = .ok (.goto 7, 3) := by decide +kernel
theorem dX7_hint_68 : decode cX7_hint 68 = .ok (.aload_n 0, 1) := by decide +kernel
theorem dX7_hint_69 : decode cX7_hint 69 = .ok (.getfield 124, 3) := by decide +kernel
theorem dX7_hint_72 : decode cX7_hint 72 = .ok (.ireturn, 1) := by decide +kernel
theorem dX7_way_0 : decode cX7_way 0 = .ok (.iload_n 1, 1) := by decide +kernel
theorem dX7_way_1 : decode cX7_way 1 = .ok (.iconst 0, 1) := by decide +kernel
theorem dX7_way_2 : decode cX7_way 2 = .ok (.aload_n 0, 1) := by decide +kernel
theorem dX7_way_3 : decode cX7_way 3 = .ok (.invokevirtual 69, 3) := by decide +kernel
theorem dX7_way_6 : decode cX7_way 6 = .ok (.iconst 1, 1) := by decide +kernel
theorem dX7_way_7 : decode cX7_way 7 = .ok (.isub, 1) := by decide +kernel
theorem dX7_way_8 : decode cX7_way 8 = .ok (.invokestatic 162, 3) := by decide +kernel
theorem dX7_way_11 : decode cX7_way 11 = .ok (.ifCond .eq 12, 3) := by decide +kernel
theorem dX7_way_14 : decode cX7_way 14 = .ok (.iload_n 2, 1) := by decide +kernel
theorem dX7_way_15 : decode cX7_way 15 = .ok (.iconst 0, 1) := by decide +kernel
theorem dX7_way_16 : decode cX7_way 16 = .ok (.iconst 2, 1) := by decide +kernel
theorem dX7_way_17 : decode cX7_way 17 = .ok (.invokestatic 162, 3) := by decide +kernel
theorem dX7_way_20 : decode cX7_way 20 = .ok (.ifCond .ne 6, 3) := by decide +kernel
theorem dX7_way_23 : decode cX7_way 23 = .ok (.bipush (-2), 2) := by decide +kernel
theorem dX7_way_25 : decode cX7_way 25 = .ok (.ireturn, 1) := by decide +kernel
theorem dX7_way_26 : decode cX7_way 26 = .ok (.aload_n 0, 1) := by decide +kernel
theorem dX7_way_27 : decode cX7_way 27 = .ok (.iload_n 1, 1) := by decide +kernel
theorem dX7_way_28 : decode cX7_way 28 = .ok (.invokevirtual 56, 3) := by decide +kernel
theorem dX7_way_31 : decode cX7_way 31 = .ok (.iconst 1, 1) := by decide +kernel
theorem dX7_way_32 : decode cX7_way 32 = .ok (.if_icmp .eq 5, 3) := by decide +kernel
theorem dX7_way_35 : decode cX7_way 35 = .ok (.iconst (-1), 1) := by decide +kernel
theorem dX7_way_36 : decode cX7_way 36 = .ok (.ireturn, 1) := by decide +kernel
theorem dX7_way_37 : decode cX7_way 37 = .ok (.aload_n 0, 1) := by decide +kernel
theorem dX7_way_38 : decode cX7_way 38 = .ok (.invokevirtual 94, 3) := by decide +kernel
theorem dX7_way_41 : decode cX7_way 41 = .ok (.aload_n 0, 1) := by decide +kernel
theorem dX7_way_42 : decode cX7_way 42 = .ok (.aload_n 0, 1) := by decide +kernel
theorem dX7_way_43 : decode cX7_way 43 = .ok (.iload_n 1, 1) := by decide +kernel
theorem dX7_way_44 : decode cX7_way 44 = .ok (.iconst 0, 1) := by decide +kernel
theorem dX7_way_45 : decode cX7_way 45 = .ok (.invokevirtual 72, 3) := by decide +kernel
theorem dX7_way_48 : decode cX7_way 48 = .ok (.invokevirtual 76, 3) := by decide +kernel
theorem dX7_way_51 : decode cX7_way 51 = .ok (.istore_n 3, 1) := by decide +kernel
theorem dX7_way_52 : decode cX7_way 52 = .ok (.iload_n 2, 1) := by decide +kernel
theorem dX7_way_53 : decode cX7_way 53 = .ok (.iconst 1, 1) := by decide +kernel
theorem dX7_way_54 : decode cX7_way 54 = .ok (.if_icmp .eq 30, 3) := by decide +kernel
theorem dX7_way_57 : decode cX7_way 57 = .ok (.iload_n 2, 1) := by decide +kernel
theorem dX7_way_58 : decode cX7_way 58 = .ok (.ifCond .ne 12, 3) := by decide +kernel
theorem dX7_way_61 : decode cX7_way 61 = .ok (.aload_n 0, 1) := by decide +kernel
theorem dX7_way_62 : decode cX7_way 62 = .ok (.getfield 22, 3) := by decide +kernel
theorem dX7_way_65 : decode cX7_way 65 = .ok (.iload_n 3, 1) := by decide +kernel
theorem dX7_way_66 : decode cX7_way 66 = .ok (.iaload, 1) := by decide +kernel
theorem dX7_way_67 : decode cX7_way 67 = .ok (.goto 16, 3) := by decide +kernel
theorem dX7_way_70 : decode cX7_way 70 = .ok (.aload_n 0, 1) := by decide +kernel
theorem dX7_way_71 : decode cX7_way 71 = .ok (.iload_n 3, 1) := by decide +kernel
theorem dX7_way_72 : decode cX7_way 72 = .ok (.invokevirtual 108, 3) := by decide +kernel
theorem dX7_way_75 : decode cX7_way 75 = .ok (.ifCond .eq 7, 3) := by decide +kernel
theorem dX7_way_78 : decode cX7_way 78 = .ok (.iconst 1, 1) := by decide +kernel
theorem dX7_way_79 : decode cX7_way 79 = .ok (.goto 4, 3) := by decide +kernel
theorem dX7_way_82 : decode cX7_way 82 = .ok (.iconst 0, 1) := by decide +kernel
theorem dX7_way_83 : decode cX7_way 83 = .ok (.ireturn, 1) := by decide +kernel
theorem dX7_way_84 : decode cX7_way 84 = .ok (.iconst 0, 1) := by decide +kernel
theorem dX7_way_85 : decode cX7_way 85 = .ok (.istore 4, 2) := by decide +kernel
theorem dX7_way_87 : decode cX7_way 87 = .ok (.aload_n 0, 1) := by decide +kernel
theorem dX7_way_88 : decode cX7_way 88 = .ok (.iload 4, 2) := by decide +kernel
theorem dX7_way_90 : decode cX7_way 90 = .ok (.invokevirtual 56, 3) := by decide +kernel
theorem dX7_way_93 : decode cX7_way 93 = .ok (.iconst 1, 1) := by decide +kernel
theorem dX7_way_94 : decode cX7_way 94 = .ok (.if_icmp .ne 18, 3) := by decide +kernel
theorem dX7_way_97 : decode cX7_way 97 = .ok (.aload_n 0, 1) := by decide +kernel
theorem dX7_way_98 : decode cX7_way 98 = .ok (.aload_n 0, 1) := by decide +kernel
theorem dX7_way_99 : decode cX7_way 99 = .ok (.iload 4, 2) := by decide +kernel
theorem dX7_way_101 : decode cX7_way 101 = .ok (.iconst 0, 1) := by decide +kernel
theorem dX7_way_102 : decode cX7_way 102 = .ok (.invokevirtual 72, 3) := by decide +kernel
theorem dX7_way_105 : decode cX7_way 105 = .ok (.invokevirtual 76, 3) := by decide +kernel
theorem dX7_way_108 : decode cX7_way 108 = .ok (.iload_n 3, 1) := by decide +kernel
theorem dX7_way_109 : decode cX7_way 109 = .ok (.if_icmp .eq 9, 3) := by decide +kernel
theorem dX7_way_112 : decode cX7_way 112 = .ok (.iinc 4 1, 3) := by decide +kernel
theorem dX7_way_115 : decode cX7_way 115 = .ok (.goto (-28), 3) := by decide +kernel
theorem dX7_way_118 : decode cX7_way 118 = .ok (.iload 4, 2) := by decide +kernel
theorem dX7_way_120 : decode cX7_way 120 = .ok (.ireturn, 1) := by decide +kernel
theorem dX7_puts_0 : decode cX7_puts 0 = .ok (.iconst 0, 1) := by decide +kernel
theorem dX7_puts_1 : decode cX7_puts 1 = .ok (.istore_n 2, 1) := by decide +kernel
theorem dX7_puts_2 : decode cX7_puts 2 = .ok (.iload_n 2, 1) := by decide +kernel
theorem dX7_puts_3 : decode cX7_puts 3 = .ok (.bipush 40, 2) := by decide +kernel
theorem dX7_puts_5 : decode cX7_puts 5 = .ok (.if_icmp .ge 29, 3) := by decide +kernel
theorem dX7_puts_8 : decode cX7_puts 8 = .ok (.aload_n 0, 1) := by decide +kernel
theorem dX7_puts_9 : decode cX7_puts 9 = .ok (.getfield 35, 3) := by decide +kernel
theorem dX7_puts_12 : decode cX7_puts 12 = .ok (.bipush 40, 2) := by decide +kernel
theorem dX7_puts_14 : decode cX7_puts 14 = .ok (.iload_n 1, 1) := by decide +kernel
theorem dX7_puts_15 : decode cX7_puts 15 = .ok (.imul, 1) := by decide +kernel
theorem dX7_puts_16 : decode cX7_puts 16 = .ok (.iload_n 2, 1) := by decide +kernel
theorem dX7_puts_17 : decode cX7_puts 17 = .ok (.iadd, 1) := by decide +kernel
theorem dX7_puts_18 : decode cX7_puts 18 = .ok (.aload_n 0, 1) := by decide +kernel
theorem dX7_puts_19 : decode cX7_puts 19 = .ok (.getfield 7, 3) := by decide +kernel
theorem dX7_puts_22 : decode cX7_puts 22 = .ok (.bipush 18, 2) := by decide +kernel
theorem dX7_puts_24 : decode cX7_puts 24 = .ok (.iload_n 2, 1) := by decide +kernel
theorem dX7_puts_25 : decode cX7_puts 25 = .ok (.iadd, 1) := by decide +kernel
theorem dX7_puts_26 : decode cX7_puts 26 = .ok (.iaload, 1) := by decide +kernel
theorem dX7_puts_27 : decode cX7_puts 27 = .ok (.iastore, 1) := by decide +kernel
theorem dX7_puts_28 : decode cX7_puts 28 = .ok (.iinc 2 1, 3) := by decide +kernel
theorem dX7_puts_31 : decode cX7_puts 31 = .ok (.goto (-29), 3) := by decide +kernel
theorem dX7_puts_34 : decode cX7_puts 34 = .ok (.return_, 1) := by decide +kernel
theorem dX7_takes_0 : decode cX7_takes 0 = .ok (.iconst 0, 1) := by decide +kernel
theorem dX7_takes_1 : decode cX7_takes 1 = .ok (.istore_n 2, 1) := by decide +kernel
theorem dX7_takes_2 : decode cX7_takes 2 = .ok (.iload_n 2, 1) := by decide +kernel
theorem dX7_takes_3 : decode cX7_takes 3 = .ok (.bipush 40, 2) := by decide +kernel
theorem dX7_takes_5 : decode cX7_takes 5 = .ok (.if_icmp .ge 29, 3) := by decide +kernel
theorem dX7_takes_8 : decode cX7_takes 8 = .ok (.aload_n 0, 1) := by decide +kernel
theorem dX7_takes_9 : decode cX7_takes 9 = .ok (.getfield 7, 3) := by decide +kernel
theorem dX7_takes_12 : decode cX7_takes 12 = .ok (.bipush 18, 2) := by decide +kernel
theorem dX7_takes_14 : decode cX7_takes 14 = .ok (.iload_n 2, 1) := by decide +kernel
theorem dX7_takes_15 : decode cX7_takes 15 = .ok (.iadd, 1) := by decide +kernel
theorem dX7_takes_16 : decode cX7_takes 16 = .ok (.aload_n 0, 1) := by decide +kernel
theorem dX7_takes_17 : decode cX7_takes 17 = .ok (.getfield 35, 3) := by decide +kernel
theorem dX7_takes_20 : decode cX7_takes 20 = .ok (.bipush 40, 2) := by decide +kernel
theorem dX7_takes_22 : decode cX7_takes 22 = .ok (.iload_n 1, 1) := by decide +kernel
theorem dX7_takes_23 : decode cX7_takes 23 = .ok (.imul, 1) := by decide +kernel
theorem dX7_takes_24 : decode cX7_takes 24 = .ok (.iload_n 2, 1) := by decide +kernel
theorem dX7_takes_25 : decode cX7_takes 25 = .ok (.iadd, 1) := by decide +kernel
theorem dX7_takes_26 : decode cX7_takes 26 = .ok (.iaload, 1) := by decide +kernel
theorem dX7_takes_27 : decode cX7_takes 27 = .ok (.iastore, 1) := by decide +kernel
theorem dX7_takes_28 : decode cX7_takes 28 = .ok (.iinc 2 1, 3) := by decide +kernel
theorem dX7_takes_31 : decode cX7_takes 31 = .ok (.goto (-29), 3) := by decide +kernel
theorem dX7_takes_34 : decode cX7_takes 34 = .ok (.return_, 1) := by decide +kernel
theorem dX7_node_0 : decode cX7_node 0 = .ok (.aload_n 0, 1) := by decide +kernel
theorem dX7_node_1 : decode cX7_node 1 = .ok (.iconst 5, 1) := by decide +kernel
theorem dX7_node_2 : decode cX7_node 2 = .ok (.invokevirtual 149, 3) := by decide +kernel
theorem dX7_node_5 : decode cX7_node 5 = .ok (.ifCond .eq 10, 3) := by decide +kernel
theorem dX7_node_8 : decode cX7_node 8 = .ok (.aload_n 0, 1) := by decide +kernel
theorem dX7_node_9 : decode cX7_node 9 = .ok (.invokevirtual 152, 3) := by decide +kernel
theorem dX7_node_12 : decode cX7_node 12 = .ok (.goto (-12), 3) := by decide +kernel
theorem dX7_node_15 : decode cX7_node 15 = .ok (.aload_n 0, 1) := by decide +kernel
theorem dX7_node_16 : decode cX7_node 16 = .ok (.invokevirtual 137, 3) := by decide +kernel
theorem dX7_node_19 : decode cX7_node 19 = .ok (.ifCond .ne 5, 3) := by decide +kernel
theorem dX7_node_22 : decode cX7_node 22 = .ok (.iconst (-1), 1) := by decide +kernel
theorem dX7_node_23 : decode cX7_node 23 = .ok (.ireturn, 1) := by decide +kernel
theorem dX7_node_24 : decode cX7_node 24 = .ok (.aload_n 0, 1) := by decide +kernel
theorem dX7_node_25 : decode cX7_node 25 = .ok (.getfield 97, 3) := by decide +kernel
theorem dX7_node_28 : decode cX7_node 28 = .ok (.ifCond .eq 60, 3) := by decide +kernel
theorem dX7_node_31 : decode cX7_node 31 = .ok (.iconst 0, 1) := by decide +kernel
theorem dX7_node_32 : decode cX7_node 32 = .ok (.istore_n 1, 1) := by decide +kernel
theorem dX7_node_33 : decode cX7_node 33 = .ok (.iload_n 1, 1) := by decide +kernel
theorem dX7_node_34 : decode cX7_node 34 = .ok (.bipush 40, 2) := by decide +kernel
theorem dX7_node_36 : decode cX7_node 36 = .ok (.if_icmp .ge 40, 3) := by decide +kernel
theorem dX7_node_39 : decode cX7_node 39 = .ok (.aload_n 0, 1) := by decide +kernel
theorem dX7_node_40 : decode cX7_node 40 = .ok (.getfield 199, 3) := by decide +kernel
theorem dX7_node_43 : decode cX7_node 43 = .ok (.ifCond .ne 33, 3) := by decide +kernel
theorem dX7_node_46 : decode cX7_node 46 = .ok (.aload_n 0, 1) := by decide +kernel
theorem dX7_node_47 : decode cX7_node 47 = .ok (.getfield 41, 3) := by decide +kernel
theorem dX7_node_50 : decode cX7_node 50 = .ok (.iload_n 1, 1) := by decide +kernel
theorem dX7_node_51 : decode cX7_node 51 = .ok (.aload_n 0, 1) := by decide +kernel
theorem dX7_node_52 : decode cX7_node 52 = .ok (.getfield 7, 3) := by decide +kernel
theorem dX7_node_55 : decode cX7_node 55 = .ok (.bipush 18, 2) := by decide +kernel
theorem dX7_node_57 : decode cX7_node 57 = .ok (.iload_n 1, 1) := by decide +kernel
theorem dX7_node_58 : decode cX7_node 58 = .ok (.iadd, 1) := by decide +kernel
theorem dX7_node_59 : decode cX7_node 59 = .ok (.iaload, 1) := by decide +kernel
theorem dX7_node_60 : decode cX7_node 60 = .ok (.iconst 1, 1) := by decide +kernel
theorem dX7_node_61 : decode cX7_node 61 = .ok (.if_icmp .ne 7, 3) := by decide +kernel
theorem dX7_node_64 : decode cX7_node 64 = .ok (.iconst 1, 1) := by decide +kernel
theorem dX7_node_65 : decode cX7_node 65 = .ok (.goto 4, 3) := by decide +kernel
theorem dX7_node_68 : decode cX7_node 68 = .ok (.iconst 0, 1) := by decide +kernel
theorem dX7_node_69 : decode cX7_node 69 = .ok (.iastore, 1) := by decide +kernel
theorem dX7_node_70 : decode cX7_node 70 = .ok (.iinc 1 1, 3) := by decide +kernel
theorem dX7_node_73 : decode cX7_node 73 = .ok (.goto (-40), 3) := by decide +kernel
theorem dX7_node_76 : decode cX7_node 76 = .ok (.aload_n 0, 1) := by decide +kernel
theorem dX7_node_77 : decode cX7_node 77 = .ok (.dup, 1) := by decide +kernel
theorem dX7_node_78 : decode cX7_node 78 = .ok (.getfield 199, 3) := by decide +kernel
theorem dX7_node_81 : decode cX7_node 81 = .ok (.iconst 1, 1) := by decide +kernel
theorem dX7_node_82 : decode cX7_node 82 = .ok (.iadd, 1) := by decide +kernel
theorem dX7_node_83 : decode cX7_node 83 = .ok (.putfield 199, 3) := by decide +kernel
theorem dX7_node_86 : decode cX7_node 86 = .ok (.iconst (-1), 1) := by decide +kernel
theorem dX7_node_87 : decode cX7_node 87 = .ok (.ireturn, 1) := by decide +kernel
theorem dX7_node_88 : decode cX7_node 88 = .ok (.iconst 0, 1) := by decide +kernel
theorem dX7_node_89 : decode cX7_node 89 = .ok (.istore_n 1, 1) := by decide +kernel
theorem dX7_node_90 : decode cX7_node 90 = .ok (.iload_n 1, 1) := by decide +kernel
theorem dX7_node_91 : decode cX7_node 91 = .ok (.aload_n 0, 1) := by decide +kernel
theorem dX7_node_92 : decode cX7_node 92 = .ok (.invokevirtual 69, 3) := by decide +kernel
theorem dX7_node_95 : decode cX7_node 95 = .ok (.if_icmp .ge 17, 3) := by decide +kernel
theorem dX7_node_98 : decode cX7_node 98 = .ok (.aload_n 0, 1) := by decide +kernel
theorem dX7_node_99 : decode cX7_node 99 = .ok (.iload_n 1, 1) := by decide +kernel
theorem dX7_node_100 : decode cX7_node 100 = .ok (.invokevirtual 56, 3) := by decide +kernel
theorem dX7_node_103 : decode cX7_node 103 = .ok (.ifCond .eq 9, 3) := by decide +kernel
theorem dX7_node_106 : decode cX7_node 106 = .ok (.iinc 1 1, 3) := by decide +kernel
theorem dX7_node_109 : decode cX7_node 109 = .ok (.goto (-19), 3) := by decide +kernel
theorem dX7_node_112 : decode cX7_node 112 = .ok (.iload_n 1, 1) := by decide +kernel
theorem dX7_node_113 : decode cX7_node 113 = .ok (.aload_n 0, 1) := by decide +kernel
theorem dX7_node_114 : decode cX7_node 114 = .ok (.invokevirtual 69, 3) := by decide +kernel
theorem dX7_node_117 : decode cX7_node 117 = .ok (.if_icmp .ge 7, 3) := by decide +kernel
theorem dX7_node_120 : decode cX7_node 120 = .ok (.iload_n 1, 1) := by decide +kernel
theorem dX7_node_121 : decode cX7_node 121 = .ok (.goto 4, 3) := by decide +kernel
theorem dX7_node_124 : decode cX7_node 124 = .ok (.iconst (-1), 1) := by decide +kernel
theorem dX7_node_125 : decode cX7_node 125 = .ok (.ireturn, 1) := by decide +kernel
theorem dX7_searches_0 : decode cX7_searches 0 = .ok (.iconst 0, 1) := by decide +kernel
theorem dX7_searches_1 : decode cX7_searches 1 = .ok (.istore_n 2, 1) := by decide +kernel
theorem dX7_searches_2 : decode cX7_searches 2 = .ok (.iload_n 2, 1) := by decide +kernel
theorem dX7_searches_3 : decode cX7_searches 3 = .ok (.bipush 40, 2) := by decide +kernel
theorem dX7_searches_5 : decode cX7_searches 5 = .ok (.if_icmp .ge 24, 3) := by decide +kernel
theorem dX7_searches_8 : decode cX7_searches 8 = .ok (.aload_n 0, 1) := by decide +kernel
theorem dX7_searches_9 : decode cX7_searches 9 = .ok (.getfield 38, 3) := by decide +kernel
theorem dX7_searches_12 : decode cX7_searches 12 = .ok (.iload_n 2, 1) := by decide +kernel
theorem dX7_searches_13 : decode cX7_searches 13 = .ok (.aload_n 0, 1) := by decide +kernel
theorem dX7_searches_14 : decode cX7_searches 14 = .ok (.getfield 7, 3) := by decide +kernel
theorem dX7_searches_17 : decode cX7_searches 17 = .ok (.bipush 18, 2) := by decide +kernel
theorem dX7_searches_19 : decode cX7_searches 19 = .ok (.iload_n 2, 1) := by decide +kernel
theorem dX7_searches_20 : decode cX7_searches 20 = .ok (.iadd, 1) := by decide +kernel
theorem dX7_searches_21 : decode cX7_searches 21 = .ok (.iaload, 1) := by decide +kernel
theorem dX7_searches_22 : decode cX7_searches 22 = .ok (.iastore, 1) := by decide +kernel
theorem dX7_searches_23 : decode cX7_searches 23 = .ok (.iinc 2 1, 3) := by decide +kernel
theorem dX7_searches_26 : decode cX7_searches 26 = .ok (.goto (-24), 3) := by decide +kernel
theorem dX7_searches_29 : decode cX7_searches 29 = .ok (.aload_n 0, 1) := by decide +kernel
theorem dX7_searches_30 : decode cX7_searches 30 = .ok (.iconst 0, 1) := by decide +kernel
theorem dX7_searches_31 : decode cX7_searches 31 = .ok (.putfield 202, 3) := by decide +kernel
theorem dX7_searches_34 : decode cX7_searches 34 = .ok (.aload_n 0, 1) := by decide +kernel
theorem dX7_searches_35 : decode cX7_searches 35 = .ok (.iconst 0, 1) := by decide +kernel
theorem dX7_searches_36 : decode cX7_searches 36 = .ok (.putfield 199, 3) := by decide +kernel
theorem dX7_searches_39 : decode cX7_searches 39 = .ok (.aload_n 0, 1) := by decide +kernel
theorem dX7_searches_40 : decode cX7_searches 40 = .ok (.iconst 0, 1) := by decide +kernel
theorem dX7_searches_41 : decode cX7_searches 41 = .ok (.putfield 205, 3) := by decide +kernel
theorem dX7_searches_44 : decode cX7_searches 44 = .ok (.aload_n 0, 1) := by decide +kernel
theorem dX7_searches_45 : decode cX7_searches 45 = .ok (.iconst 0, 1) := by decide +kernel
theorem dX7_searches_46 : decode cX7_searches 46 = .ok (.invokevirtual 208, 3) := by decide +kernel
theorem dX7_searches_49 : decode cX7_searches 49 = .ok (.iconst 1, 1) := by decide +kernel
theorem dX7_searches_50 : decode cX7_searches 50 = .ok (.istore_n 2, 1) := by decide +kernel
theorem dX7_searches_51 : decode cX7_searches 51 = .ok (.iload_n 2, 1) := by decide +kernel
theorem dX7_searches_52 : decode cX7_searches 52 = .ok (.ifCond .le 110, 3) := by decide +kernel
theorem dX7_searches_55 : decode cX7_searches 55 = .ok (.aload_n 0, 1) := by decide +kernel
theorem dX7_searches_56 : decode cX7_searches 56 = .ok (.getfield 199, 3) := by decide +kernel
theorem dX7_searches_59 : decode cX7_searches 59 = .ok (.iload_n 1, 1) := by decide +kernel
theorem dX7_searches_60 : decode cX7_searches 60 = .ok (.if_icmp .ge 102, 3) := by decide +kernel
theorem dX7_searches_63 : decode cX7_searches 63 = .ok (.aload_n 0, 1) := by decide +kernel
theorem dX7_searches_64 : decode cX7_searches 64 = .ok (.getfield 205, 3) := by decide +kernel
theorem dX7_searches_67 : decode cX7_searches 67 = .ok (.ifCond .ne 95, 3) := by decide +kernel
theorem dX7_searches_70 : decode cX7_searches 70 = .ok (.aload_n 0, 1) := by decide +kernel
theorem dX7_searches_71 : decode cX7_searches 71 = .ok (.aload_n 0, 1) := by decide +kernel
theorem dX7_searches_72 : decode cX7_searches 72 = .ok (.getfield 202, 3) := by decide +kernel
theorem dX7_searches_75 : decode cX7_searches 75 = .ok (.sipush 200, 3) := by decide +kernel
theorem dX7_searches_78 : decode cX7_searches 78 = .ok (.if_icmp .ne 7, 3) := by decide +kernel
theorem dX7_searches_81 : decode cX7_searches 81 = .ok (.iconst 1, 1) := by decide +kernel
theorem dX7_searches_82 : decode cX7_searches 82 = .ok (.goto 4, 3) := by decide +kernel
theorem dX7_searches_85 : decode cX7_searches 85 = .ok (.iconst 0, 1) := by decide +kernel
theorem dX7_searches_86 : decode cX7_searches 86 = .ok (.putfield 205, 3) := by decide +kernel
theorem dX7_searches_89 : decode cX7_searches 89 = .ok (.aload_n 0, 1) := by decide +kernel
theorem dX7_searches_90 : decode cX7_searches 90 = .ok (.getfield 205, 3) := by decide +kernel
theorem dX7_searches_93 : decode cX7_searches 93 = .ok (.ifCond .ne (-42), 3) := by decide +kernel
theorem dX7_searches_96 : decode cX7_searches 96 = .ok (.iinc 2 (-1), 3) := by decide +kernel
theorem dX7_searches_99 : decode cX7_searches 99 = .ok (.aload_n 0, 1) := by decide +kernel
theorem dX7_searches_100 : decode cX7_searches 100 = .ok (.dup, 1) := by decide +kernel
theorem dX7_searches_101 : decode cX7_searches 101 = .ok (.getfield 202, 3) := by decide +kernel
theorem dX7_searches_104 : decode cX7_searches 104 = .ok (.iconst 1, 1) := by decide +kernel
theorem dX7_searches_105 : decode cX7_searches 105 = .ok (.iadd, 1) := by decide +kernel
theorem dX7_searches_106 : decode cX7_searches 106 = .ok (.putfield 202, 3) := by decide +kernel
theorem dX7_searches_109 : decode cX7_searches 109 = .ok (.aload_n 0, 1) := by decide +kernel
theorem dX7_searches_110 : decode cX7_searches 110 = .ok (.iload_n 2, 1) := by decide +kernel
theorem dX7_searches_111 : decode cX7_searches 111 = .ok (.invokevirtual 212, 3) := by decide +kernel
theorem dX7_searches_114 : decode cX7_searches 114 = .ok (.aload_n 0, 1) := by decide +kernel
theorem dX7_searches_115 : decode cX7_searches 115 = .ok (.invokevirtual 215, 3) := by decide +kernel
theorem dX7_searches_118 : decode cX7_searches 118 = .ok (.istore_n 3, 1) := by decide +kernel
theorem dX7_searches_119 : decode cX7_searches 119 = .ok (.iload_n 3, 1) := by decide +kernel
theorem dX7_searches_120 : decode cX7_searches 120 = .ok (.iconst (-1), 1) := by decide +kernel
theorem dX7_searches_121 : decode cX7_searches 121 = .ok (.if_icmp .eq 38, 3) := by decide +kernel
theorem dX7_searches_124 : decode cX7_searches 124 = .ok (.aload_n 0, 1) := by decide +kernel
theorem dX7_searches_125 : decode cX7_searches 125 = .ok (.getfield 7, 3) := by decide +kernel
theorem dX7_searches_128 : decode cX7_searches 128 = .ok (.bipush 18, 2) := by decide +kernel
theorem dX7_searches_130 : decode cX7_searches 130 = .ok (.iload_n 3, 1) := by decide +kernel
theorem dX7_searches_131 : decode cX7_searches 131 = .ok (.iadd, 1) := by decide +kernel
theorem dX7_searches_132 : decode cX7_searches 132 = .ok (.iconst 2, 1) := by decide +kernel
theorem dX7_searches_133 : decode cX7_searches 133 = .ok (.iastore, 1) := by decide +kernel
theorem dX7_searches_134 : decode cX7_searches 134 = .ok (.aload_n 0, 1) := by decide +kernel
theorem dX7_searches_135 : decode cX7_searches 135 = .ok (.iload_n 2, 1) := by decide +kernel
theorem dX7_searches_136 : decode cX7_searches 136 = .ok (.invokevirtual 208, 3) := by decide +kernel
theorem dX7_searches_139 : decode cX7_searches 139 = .ok (.aload_n 0, 1) := by decide +kernel
theorem dX7_searches_140 : decode cX7_searches 140 = .ok (.getfield 7, 3) := by decide +kernel
theorem dX7_searches_143 : decode cX7_searches 143 = .ok (.bipush 18, 2) := by decide +kernel
theorem dX7_searches_145 : decode cX7_searches 145 = .ok (.iload_n 3, 1) := by decide +kernel
theorem dX7_searches_146 : decode cX7_searches 146 = .ok (.iadd, 1) := by decide +kernel
theorem dX7_searches_147 : decode cX7_searches 147 = .ok (.iconst 1, 1) := by decide +kernel
theorem dX7_searches_148 : decode cX7_searches 148 = .ok (.iastore, 1) := by decide +kernel
theorem dX7_searches_149 : decode cX7_searches 149 = .ok (.aload_n 0, 1) := by decide +kernel
theorem dX7_searches_150 : decode cX7_searches 150 = .ok (.iload_n 2, 1) := by decide +kernel
theorem dX7_searches_151 : decode cX7_searches 151 = .ok (.iconst 1, 1) := by decide +kernel
theorem dX7_searches_152 : decode cX7_searches 152 = .ok (.iadd, 1) := by decide +kernel
theorem dX7_searches_153 : decode cX7_searches 153 = .ok (.invokevirtual 208, 3) := by decide +kernel
theorem dX7_searches_156 : decode cX7_searches 156 = .ok (.iinc 2 2, 3) := by decide +kernel
theorem dX7_searches_159 : decode cX7_searches 159 = .ok (.goto (-108), 3) := by decide +kernel
theorem dX7_searches_162 : decode cX7_searches 162 = .ok (.iconst 0, 1) := by decide +kernel
theorem dX7_searches_163 : decode cX7_searches 163 = .ok (.istore_n 3, 1) := by decide +kernel
theorem dX7_searches_164 : decode cX7_searches 164 = .ok (.iload_n 3, 1) := by decide +kernel
theorem dX7_searches_165 : decode cX7_searches 165 = .ok (.bipush 40, 2) := by decide +kernel
theorem dX7_searches_167 : decode cX7_searches 167 = .ok (.if_icmp .ge 24, 3) := by decide +kernel
theorem dX7_searches_170 : decode cX7_searches 170 = .ok (.aload_n 0, 1) := by decide +kernel
theorem dX7_searches_171 : decode cX7_searches 171 = .ok (.getfield 7, 3) := by decide +kernel
theorem dX7_searches_174 : decode cX7_searches 174 = .ok (.bipush 18, 2) := by decide +kernel
theorem dX7_searches_176 : decode cX7_searches 176 = .ok (.iload_n 3, 1) := by decide +kernel
theorem dX7_searches_177 : decode cX7_searches 177 = .ok (.iadd, 1) := by decide +kernel
theorem dX7_searches_178 : decode cX7_searches 178 = .ok (.aload_n 0, 1) := by decide +kernel
theorem dX7_searches_179 : decode cX7_searches 179 = .ok (.getfield 38, 3) := by decide +kernel
theorem dX7_searches_182 : decode cX7_searches 182 = .ok (.iload_n 3, 1) := by decide +kernel
theorem dX7_searches_183 : decode cX7_searches 183 = .ok (.iaload, 1) := by decide +kernel
theorem dX7_searches_184 : decode cX7_searches 184 = .ok (.iastore, 1) := by decide +kernel
theorem dX7_searches_185 : decode cX7_searches 185 = .ok (.iinc 3 1, 3) := by decide +kernel
theorem dX7_searches_188 : decode cX7_searches 188 = .ok (.goto (-24), 3) := by decide +kernel
theorem dX7_searches_191 : decode cX7_searches 191 = .ok (.return_, 1) := by decide +kernel
theorem dX7_solutions_0 : decode cX7_solutions 0 = .ok (.iload_n 1, 1) := by decide +kernel
theorem dX7_solutions_1 : decode cX7_solutions 1 = .ok (.iconst 1, 1) := by decide +kernel
theorem dX7_solutions_2 : decode cX7_solutions 2 = .ok (.bipush 20, 2) := by decide +kernel
theorem dX7_solutions_4 : decode cX7_solutions 4 = .ok (.invokestatic 162, 3) := by decide +kernel
theorem dX7_solutions_7 : decode cX7_solutions 7 = .ok (.ifCond .ne 6, 3) := by decide +kernel
theorem dX7_solutions_10 : decode cX7_solutions 10 = .ok (.bipush (-2), 2) := by decide +kernel
theorem dX7_solutions_12 : decode cX7_solutions 12 = .ok (.ireturn, 1) := by decide +kernel
theorem dX7_solutions_13 : decode cX7_solutions 13 = .ok (.aload_n 0, 1) := by decide +kernel
theorem dX7_solutions_14 : decode cX7_solutions 14 = .ok (.iload_n 1, 1) := by decide +kernel
theorem dX7_solutions_15 : decode cX7_solutions 15 = .ok (.invokevirtual 218, 3) := by decide +kernel
theorem dX7_solutions_18 : decode cX7_solutions 18 = .ok (.aload_n 0, 1) := by decide +kernel
theorem dX7_solutions_19 : decode cX7_solutions 19 = .ok (.getfield 199, 3) := by decide +kernel
theorem dX7_solutions_22 : decode cX7_solutions 22 = .ok (.ireturn, 1) := by decide +kernel
theorem dX7_nodes_0 : decode cX7_nodes 0 = .ok (.iload_n 1, 1) := by decide +kernel
theorem dX7_nodes_1 : decode cX7_nodes 1 = .ok (.iconst 1, 1) := by decide +kernel
theorem dX7_nodes_2 : decode cX7_nodes 2 = .ok (.bipush 20, 2) := by decide +kernel
theorem dX7_nodes_4 : decode cX7_nodes 4 = .ok (.invokestatic 162, 3) := by decide +kernel
theorem dX7_nodes_7 : decode cX7_nodes 7 = .ok (.ifCond .ne 6, 3) := by decide +kernel
theorem dX7_nodes_10 : decode cX7_nodes 10 = .ok (.bipush (-2), 2) := by decide +kernel
theorem dX7_nodes_12 : decode cX7_nodes 12 = .ok (.ireturn, 1) := by decide +kernel
theorem dX7_nodes_13 : decode cX7_nodes 13 = .ok (.aload_n 0, 1) := by decide +kernel
theorem dX7_nodes_14 : decode cX7_nodes 14 = .ok (.iload_n 1, 1) := by decide +kernel
theorem dX7_nodes_15 : decode cX7_nodes 15 = .ok (.invokevirtual 218, 3) := by decide +kernel
theorem dX7_nodes_18 : decode cX7_nodes 18 = .ok (.aload_n 0, 1) := by decide +kernel
theorem dX7_nodes_19 : decode cX7_nodes 19 = .ok (.getfield 205, 3) := by decide +kernel
theorem dX7_nodes_22 : decode cX7_nodes 22 = .ok (.ifCond .eq 9, 3) := by decide +kernel
theorem dX7_nodes_25 : decode cX7_nodes 25 = .ok (.sipush (-200), 3) := by decide +kernel
theorem dX7_nodes_28 : decode cX7_nodes 28 = .ok (.goto 7, 3) := by decide +kernel
theorem dX7_nodes_31 : decode cX7_nodes 31 = .ok (.aload_n 0, 1) := by decide +kernel
theorem dX7_nodes_32 : decode cX7_nodes 32 = .ok (.getfield 202, 3) := by decide +kernel
theorem dX7_nodes_35 : decode cX7_nodes 35 = .ok (.ireturn, 1) := by decide +kernel
theorem dX7_solved_0 : decode cX7_solved 0 = .ok (.iload_n 1, 1) := by decide +kernel
theorem dX7_solved_1 : decode cX7_solved 1 = .ok (.iconst 0, 1) := by decide +kernel
theorem dX7_solved_2 : decode cX7_solved 2 = .ok (.aload_n 0, 1) := by decide +kernel
theorem dX7_solved_3 : decode cX7_solved 3 = .ok (.invokevirtual 69, 3) := by decide +kernel
theorem dX7_solved_6 : decode cX7_solved 6 = .ok (.iconst 1, 1) := by decide +kernel
theorem dX7_solved_7 : decode cX7_solved 7 = .ok (.isub, 1) := by decide +kernel
theorem dX7_solved_8 : decode cX7_solved 8 = .ok (.invokestatic 162, 3) := by decide +kernel
theorem dX7_solved_11 : decode cX7_solved 11 = .ok (.ifCond .ne 6, 3) := by decide +kernel
theorem dX7_solved_14 : decode cX7_solved 14 = .ok (.bipush (-2), 2) := by decide +kernel
theorem dX7_solved_16 : decode cX7_solved 16 = .ok (.ireturn, 1) := by decide +kernel
theorem dX7_solved_17 : decode cX7_solved 17 = .ok (.aload_n 0, 1) := by decide +kernel
theorem dX7_solved_18 : decode cX7_solved 18 = .ok (.iconst 1, 1) := by decide +kernel
theorem dX7_solved_19 : decode cX7_solved 19 = .ok (.invokevirtual 218, 3) := by decide +kernel
theorem dX7_solved_22 : decode cX7_solved 22 = .ok (.aload_n 0, 1) := by decide +kernel
theorem dX7_solved_23 : decode cX7_solved 23 = .ok (.getfield 199, 3) := by decide +kernel
theorem dX7_solved_26 : decode cX7_solved 26 = .ok (.ifCond .ne 7, 3) := by decide +kernel
theorem dX7_solved_29 : decode cX7_solved 29 = .ok (.iconst (-1), 1) := by decide +kernel
theorem dX7_solved_30 : decode cX7_solved 30 = .ok (.goto 9, 3) := by decide +kernel
theorem dX7_solved_33 : decode cX7_solved 33 = .ok (.aload_n 0, 1) := by decide +kernel
theorem dX7_solved_34 : decode cX7_solved 34 = .ok (.getfield 41, 3) := by decide +kernel
theorem dX7_solved_37 : decode cX7_solved 37 = .ok (.iload_n 1, 1) := by decide +kernel
theorem dX7_solved_38 : decode cX7_solved 38 = .ok (.iaload, 1) := by decide +kernel
theorem dX7_solved_39 : decode cX7_solved 39 = .ok (.ireturn, 1) := by decide +kernel
theorem dX7_gradeOf_0 : decode cX7_gradeOf 0 = .ok (.iload_n 0, 1) := by decide +kernel
theorem dX7_gradeOf_1 : decode cX7_gradeOf 1 = .ok (.iconst 3, 1) := by decide +kernel
theorem dX7_gradeOf_2 : decode cX7_gradeOf 2 = .ok (.if_icmp .ge 7, 3) := by decide +kernel
theorem dX7_gradeOf_5 : decode cX7_gradeOf 5 = .ok (.iconst 1, 1) := by decide +kernel
theorem dX7_gradeOf_6 : decode cX7_gradeOf 6 = .ok (.goto 22, 3) := by decide +kernel
theorem dX7_gradeOf_9 : decode cX7_gradeOf 9 = .ok (.iload_n 0, 1) := by decide +kernel
theorem dX7_gradeOf_10 : decode cX7_gradeOf 10 = .ok (.iconst 5, 1) := by decide +kernel
theorem dX7_gradeOf_11 : decode cX7_gradeOf 11 = .ok (.if_icmp .ge 7, 3) := by decide +kernel
theorem dX7_gradeOf_14 : decode cX7_gradeOf 14 = .ok (.iconst 2, 1) := by decide +kernel
theorem dX7_gradeOf_15 : decode cX7_gradeOf 15 = .ok (.goto 13, 3) := by decide +kernel
theorem dX7_gradeOf_18 : decode cX7_gradeOf 18 = .ok (.iload_n 0, 1) := by decide +kernel
theorem dX7_gradeOf_19 : decode cX7_gradeOf 19 = .ok (.iconst 5, 1) := by decide +kernel
theorem dX7_gradeOf_20 : decode cX7_gradeOf 20 = .ok (.if_icmp .ne 7, 3) := by decide +kernel
theorem dX7_gradeOf_23 : decode cX7_gradeOf 23 = .ok (.iconst 3, 1) := by decide +kernel
theorem dX7_gradeOf_24 : decode cX7_gradeOf 24 = .ok (.goto 4, 3) := by decide +kernel
theorem dX7_gradeOf_27 : decode cX7_gradeOf 27 = .ok (.iconst 4, 1) := by decide +kernel
theorem dX7_gradeOf_28 : decode cX7_gradeOf 28 = .ok (.ireturn, 1) := by decide +kernel
theorem dX7_grade_0 : decode cX7_grade 0 = .ok (.iconst 0, 1) := by decide +kernel
theorem dX7_grade_1 : decode cX7_grade 1 = .ok (.istore_n 1, 1) := by decide +kernel
theorem dX7_grade_2 : decode cX7_grade 2 = .ok (.iload_n 1, 1) := by decide +kernel
theorem dX7_grade_3 : decode cX7_grade 3 = .ok (.bipush 40, 2) := by decide +kernel
theorem dX7_grade_5 : decode cX7_grade 5 = .ok (.if_icmp .ge 34, 3) := by decide +kernel
theorem dX7_grade_8 : decode cX7_grade 8 = .ok (.aload_n 0, 1) := by decide +kernel
theorem dX7_grade_9 : decode cX7_grade 9 = .ok (.getfield 38, 3) := by decide +kernel
theorem dX7_grade_12 : decode cX7_grade 12 = .ok (.iload_n 1, 1) := by decide +kernel
theorem dX7_grade_13 : decode cX7_grade 13 = .ok (.aload_n 0, 1) := by decide +kernel
theorem dX7_grade_14 : decode cX7_grade 14 = .ok (.getfield 7, 3) := by decide +kernel
theorem dX7_grade_17 : decode cX7_grade 17 = .ok (.bipush 18, 2) := by decide +kernel
theorem dX7_grade_19 : decode cX7_grade 19 = .ok (.iload_n 1, 1) := by decide +kernel
theorem dX7_grade_20 : decode cX7_grade 20 = .ok (.iadd, 1) := by decide +kernel
theorem dX7_grade_21 : decode cX7_grade 21 = .ok (.iaload, 1) := by decide +kernel
theorem dX7_grade_22 : decode cX7_grade 22 = .ok (.iastore, 1) := by decide +kernel
theorem dX7_grade_23 : decode cX7_grade 23 = .ok (.aload_n 0, 1) := by decide +kernel
theorem dX7_grade_24 : decode cX7_grade 24 = .ok (.getfield 7, 3) := by decide +kernel
theorem dX7_grade_27 : decode cX7_grade 27 = .ok (.bipush 18, 2) := by decide +kernel
theorem dX7_grade_29 : decode cX7_grade 29 = .ok (.iload_n 1, 1) := by decide +kernel
theorem dX7_grade_30 : decode cX7_grade 30 = .ok (.iadd, 1) := by decide +kernel
theorem dX7_grade_31 : decode cX7_grade 31 = .ok (.iconst 0, 1) := by decide +kernel
theorem dX7_grade_32 : decode cX7_grade 32 = .ok (.iastore, 1) := by decide +kernel
theorem dX7_grade_33 : decode cX7_grade 33 = .ok (.iinc 1 1, 3) := by decide +kernel
theorem dX7_grade_36 : decode cX7_grade 36 = .ok (.goto (-34), 3) := by decide +kernel
theorem dX7_grade_39 : decode cX7_grade 39 = .ok (.iconst 0, 1) := by decide +kernel
theorem dX7_grade_40 : decode cX7_grade 40 = .ok (.istore_n 1, 1) := by decide +kernel
theorem dX7_grade_41 : decode cX7_grade 41 = .ok (.aload_n 0, 1) := by decide +kernel
theorem dX7_grade_42 : decode cX7_grade 42 = .ok (.bipush 7, 2) := by decide +kernel
theorem dX7_grade_44 : decode cX7_grade 44 = .ok (.invokevirtual 196, 3) := by decide +kernel
theorem dX7_grade_47 : decode cX7_grade 47 = .ok (.ifCond .eq 33, 3) := by decide +kernel
theorem dX7_grade_50 : decode cX7_grade 50 = .ok (.aload_n 0, 1) := by decide +kernel
theorem dX7_grade_51 : decode cX7_grade 51 = .ok (.invokevirtual 152, 3) := by decide +kernel
theorem dX7_grade_54 : decode cX7_grade 54 = .ok (.aload_n 0, 1) := by decide +kernel
theorem dX7_grade_55 : decode cX7_grade 55 = .ok (.getfield 115, 3) := by decide +kernel
theorem dX7_grade_58 : decode cX7_grade 58 = .ok (.invokestatic 221, 3) := by decide +kernel
theorem dX7_grade_61 : decode cX7_grade 61 = .ok (.iload_n 1, 1) := by decide +kernel
theorem dX7_grade_62 : decode cX7_grade 62 = .ok (.if_icmp .le 13, 3) := by decide +kernel
theorem dX7_grade_65 : decode cX7_grade 65 = .ok (.aload_n 0, 1) := by decide +kernel
theorem dX7_grade_66 : decode cX7_grade 66 = .ok (.getfield 115, 3) := by decide +kernel
theorem dX7_grade_69 : decode cX7_grade 69 = .ok (.invokestatic 221, 3) := by decide +kernel
theorem dX7_grade_72 : decode cX7_grade 72 = .ok (.goto 4, 3) := by decide +kernel
theorem dX7_grade_75 : decode cX7_grade 75 = .ok (.iload_n 1, 1) := by decide +kernel
theorem dX7_grade_76 : decode cX7_grade 76 = .ok (.istore_n 1, 1) := by decide +kernel
theorem dX7_grade_77 : decode cX7_grade 77 = .ok (.goto (-36), 3) := by decide +kernel
theorem dX7_grade_80 : decode cX7_grade 80 = .ok (.aload_n 0, 1) := by decide +kernel
theorem dX7_grade_81 : decode cX7_grade 81 = .ok (.invokevirtual 137, 3) := by decide +kernel
theorem dX7_grade_84 : decode cX7_grade 84 = .ok (.ifCond .eq 14, 3) := by decide +kernel
theorem dX7_grade_87 : decode cX7_grade 87 = .ok (.aload_n 0, 1) := by decide +kernel
theorem dX7_grade_88 : decode cX7_grade 88 = .ok (.getfield 97, 3) := by decide +kernel
theorem dX7_grade_91 : decode cX7_grade 91 = .ok (.ifCond .eq 7, 3) := by decide +kernel
theorem dX7_grade_94 : decode cX7_grade 94 = .ok (.iconst 1, 1) := by decide +kernel
theorem dX7_grade_95 : decode cX7_grade 95 = .ok (.goto 4, 3) := by decide +kernel
theorem dX7_grade_98 : decode cX7_grade 98 = .ok (.iconst 0, 1) := by decide +kernel
theorem dX7_grade_99 : decode cX7_grade 99 = .ok (.istore_n 2, 1) := by decide +kernel
theorem dX7_grade_100 : decode cX7_grade 100 = .ok (.iconst 0, 1) := by decide +kernel
theorem dX7_grade_101 : decode cX7_grade 101 = .ok (.istore_n 3, 1) := by decide +kernel
theorem dX7_grade_102 : decode cX7_grade 102 = .ok (.iload_n 3, 1) := by decide +kernel
theorem dX7_grade_103 : decode cX7_grade 103 = .ok (.bipush 40, 2) := by decide +kernel
theorem dX7_grade_105 : decode cX7_grade 105 = .ok (.if_icmp .ge 24, 3) := by decide +kernel
theorem dX7_grade_108 : decode cX7_grade 108 = .ok (.aload_n 0, 1) := by decide +kernel
theorem dX7_grade_109 : decode cX7_grade 109 = .ok (.getfield 7, 3) := by decide +kernel
theorem dX7_grade_112 : decode cX7_grade 112 = .ok (.bipush 18, 2) := by decide +kernel
theorem dX7_grade_114 : decode cX7_grade 114 = .ok (.iload_n 3, 1) := by decide +kernel
theorem dX7_grade_115 : decode cX7_grade 115 = .ok (.iadd, 1) := by decide +kernel
theorem dX7_grade_116 : decode cX7_grade 116 = .ok (.aload_n 0, 1) := by decide +kernel
theorem dX7_grade_117 : decode cX7_grade 117 = .ok (.getfield 38, 3) := by decide +kernel
theorem dX7_grade_120 : decode cX7_grade 120 = .ok (.iload_n 3, 1) := by decide +kernel
theorem dX7_grade_121 : decode cX7_grade 121 = .ok (.iaload, 1) := by decide +kernel
theorem dX7_grade_122 : decode cX7_grade 122 = .ok (.iastore, 1) := by decide +kernel
theorem dX7_grade_123 : decode cX7_grade 123 = .ok (.iinc 3 1, 3) := by decide +kernel
theorem dX7_grade_126 : decode cX7_grade 126 = .ok (.goto (-24), 3) := by decide +kernel
theorem dX7_grade_129 : decode cX7_grade 129 = .ok (.iload_n 2, 1) := by decide +kernel
theorem dX7_grade_130 : decode cX7_grade 130 = .ok (.ifCond .eq 7, 3) := by decide +kernel
theorem dX7_grade_133 : decode cX7_grade 133 = .ok (.iload_n 1, 1) := by decide +kernel
theorem dX7_grade_134 : decode cX7_grade 134 = .ok (.goto 4, 3) := by decide +kernel
theorem dX7_grade_137 : decode cX7_grade 137 = .ok (.iconst (-1), 1) := by decide +kernel
theorem dX7_grade_138 : decode cX7_grade 138 = .ok (.ireturn, 1) := by decide +kernel
theorem dX7_counts_0 : decode cX7_counts 0 = .ok (.iconst 0, 1) := by decide +kernel
theorem dX7_counts_1 : decode cX7_counts 1 = .ok (.istore_n 1, 1) := by decide +kernel
theorem dX7_counts_2 : decode cX7_counts 2 = .ok (.iconst 0, 1) := by decide +kernel
theorem dX7_counts_3 : decode cX7_counts 3 = .ok (.istore_n 2, 1) := by decide +kernel
theorem dX7_counts_4 : decode cX7_counts 4 = .ok (.iload_n 2, 1) := by decide +kernel
theorem dX7_counts_5 : decode cX7_counts 5 = .ok (.aload_n 0, 1) := by decide +kernel
theorem dX7_counts_6 : decode cX7_counts 6 = .ok (.invokevirtual 82, 3) := by decide +kernel
theorem dX7_counts_9 : decode cX7_counts 9 = .ok (.if_icmp .ge 29, 3) := by decide +kernel
theorem dX7_counts_12 : decode cX7_counts 12 = .ok (.iload_n 1, 1) := by decide +kernel
theorem dX7_counts_13 : decode cX7_counts 13 = .ok (.aload_n 0, 1) := by decide +kernel
theorem dX7_counts_14 : decode cX7_counts 14 = .ok (.getfield 7, 3) := by decide +kernel
theorem dX7_counts_17 : decode cX7_counts 17 = .ok (.iconst 2, 1) := by decide +kernel
theorem dX7_counts_18 : decode cX7_counts 18 = .ok (.iload_n 2, 1) := by decide +kernel
theorem dX7_counts_19 : decode cX7_counts 19 = .ok (.iadd, 1) := by decide +kernel
theorem dX7_counts_20 : decode cX7_counts 20 = .ok (.iaload, 1) := by decide +kernel
theorem dX7_counts_21 : decode cX7_counts 21 = .ok (.iconst (-1), 1) := by decide +kernel
theorem dX7_counts_22 : decode cX7_counts 22 = .ok (.if_icmp .ne 7, 3) := by decide +kernel
theorem dX7_counts_25 : decode cX7_counts 25 = .ok (.iconst 0, 1) := by decide +kernel
theorem dX7_counts_26 : decode cX7_counts 26 = .ok (.goto 4, 3) := by decide +kernel
theorem dX7_counts_29 : decode cX7_counts 29 = .ok (.iconst 1, 1) := by decide +kernel
theorem dX7_counts_30 : decode cX7_counts 30 = .ok (.iadd, 1) := by decide +kernel
theorem dX7_counts_31 : decode cX7_counts 31 = .ok (.istore_n 1, 1) := by decide +kernel
theorem dX7_counts_32 : decode cX7_counts 32 = .ok (.iinc 2 1, 3) := by decide +kernel
theorem dX7_counts_35 : decode cX7_counts 35 = .ok (.goto (-31), 3) := by decide +kernel
theorem dX7_counts_38 : decode cX7_counts 38 = .ok (.iload_n 1, 1) := by decide +kernel
theorem dX7_counts_39 : decode cX7_counts 39 = .ok (.ireturn, 1) := by decide +kernel
theorem dX7_count_0 : decode cX7_count 0 = .ok (.iload_n 1, 1) := by decide +kernel
theorem dX7_count_1 : decode cX7_count 1 = .ok (.bipush 6, 2) := by decide +kernel
theorem dX7_count_3 : decode cX7_count 3 = .ok (.bipush 13, 2) := by decide +kernel
theorem dX7_count_5 : decode cX7_count 5 = .ok (.invokestatic 162, 3) := by decide +kernel
theorem dX7_count_8 : decode cX7_count 8 = .ok (.ifCond .eq 16, 3) := by decide +kernel
theorem dX7_count_11 : decode cX7_count 11 = .ok (.aload_n 0, 1) := by decide +kernel
theorem dX7_count_12 : decode cX7_count 12 = .ok (.getfield 7, 3) := by decide +kernel
theorem dX7_count_15 : decode cX7_count 15 = .ok (.bipush 58, 2) := by decide +kernel
theorem dX7_count_17 : decode cX7_count 17 = .ok (.iload_n 1, 1) := by decide +kernel
theorem dX7_count_18 : decode cX7_count 18 = .ok (.iadd, 1) := by decide +kernel
theorem dX7_count_19 : decode cX7_count 19 = .ok (.bipush 6, 2) := by decide +kernel
theorem dX7_count_21 : decode cX7_count 21 = .ok (.isub, 1) := by decide +kernel
theorem dX7_count_22 : decode cX7_count 22 = .ok (.iaload, 1) := by decide +kernel
theorem dX7_count_23 : decode cX7_count 23 = .ok (.ireturn, 1) := by decide +kernel
theorem dX7_count_24 : decode cX7_count 24 = .ok (.iload_n 1, 1) := by decide +kernel
theorem dX7_count_25 : decode cX7_count 25 = .ok (.tableswitch 114 0 15 #[79, 79, 86, 91, 91, 99, 114, 114, 114, 114, 114, 114, 114, 114, 104, 109], 79) := by decide +kernel
theorem dX7_count_104 : decode cX7_count 104 = .ok (.aload_n 0, 1) := by decide +kernel
theorem dX7_count_105 : decode cX7_count 105 = .ok (.getfield 7, 3) := by decide +kernel
theorem dX7_count_108 : decode cX7_count 108 = .ok (.iload_n 1, 1) := by decide +kernel
theorem dX7_count_109 : decode cX7_count 109 = .ok (.iaload, 1) := by decide +kernel
theorem dX7_count_110 : decode cX7_count 110 = .ok (.ireturn, 1) := by decide +kernel
theorem dX7_count_111 : decode cX7_count 111 = .ok (.aload_n 0, 1) := by decide +kernel
theorem dX7_count_112 : decode cX7_count 112 = .ok (.invokevirtual 69, 3) := by decide +kernel
theorem dX7_count_115 : decode cX7_count 115 = .ok (.ireturn, 1) := by decide +kernel
theorem dX7_count_116 : decode cX7_count 116 = .ok (.aload_n 0, 1) := by decide +kernel
theorem dX7_count_117 : decode cX7_count 117 = .ok (.iload_n 1, 1) := by decide +kernel
theorem dX7_count_118 : decode cX7_count 118 = .ok (.iconst 3, 1) := by decide +kernel
theorem dX7_count_119 : decode cX7_count 119 = .ok (.isub, 1) := by decide +kernel
theorem dX7_count_120 : decode cX7_count 120 = .ok (.invokevirtual 193, 3) := by decide +kernel
theorem dX7_count_123 : decode cX7_count 123 = .ok (.ireturn, 1) := by decide +kernel
theorem dX7_count_124 : decode cX7_count 124 = .ok (.aload_n 0, 1) := by decide +kernel
theorem dX7_count_125 : decode cX7_count 125 = .ok (.invokevirtual 224, 3) := by decide +kernel
theorem dX7_count_128 : decode cX7_count 128 = .ok (.ireturn, 1) := by decide +kernel
theorem dX7_count_129 : decode cX7_count 129 = .ok (.aload_n 0, 1) := by decide +kernel
theorem dX7_count_130 : decode cX7_count 130 = .ok (.getfield 44, 3) := by decide +kernel
theorem dX7_count_133 : decode cX7_count 133 = .ok (.ireturn, 1) := by decide +kernel
theorem dX7_count_134 : decode cX7_count 134 = .ok (.aload_n 0, 1) := by decide +kernel
theorem dX7_count_135 : decode cX7_count 135 = .ok (.getfield 166, 3) := by decide +kernel
theorem dX7_count_138 : decode cX7_count 138 = .ok (.ireturn, 1) := by decide +kernel
theorem dX7_count_139 : decode cX7_count 139 = .ok (.bipush (-2), 2) := by decide +kernel
theorem dX7_count_141 : decode cX7_count 141 = .ok (.ireturn, 1) := by decide +kernel
theorem dX7_mixes_0 : decode cX7_mixes 0 = .ok (.aload_n 0, 1) := by decide +kernel
theorem dX7_mixes_1 : decode cX7_mixes 1 = .ok (.ldc2_w 227, 3) := by decide +kernel
theorem dX7_mixes_4 : decode cX7_mixes 4 = .ok (.aload_n 0, 1) := by decide +kernel
theorem dX7_mixes_5 : decode cX7_mixes 5 = .ok (.getfield 229, 3) := by decide +kernel
theorem dX7_mixes_8 : decode cX7_mixes 8 = .ok (.lmul, 1) := by decide +kernel
theorem dX7_mixes_9 : decode cX7_mixes 9 = .ok (.iload_n 1, 1) := by decide +kernel
theorem dX7_mixes_10 : decode cX7_mixes 10 = .ok (.i2l, 1) := by decide +kernel
theorem dX7_mixes_11 : decode cX7_mixes 11 = .ok (.ladd, 1) := by decide +kernel
theorem dX7_mixes_12 : decode cX7_mixes 12 = .ok (.putfield 229, 3) := by decide +kernel
theorem dX7_mixes_15 : decode cX7_mixes 15 = .ok (.return_, 1) := by decide +kernel
theorem dX7_digest_0 : decode cX7_digest 0 = .ok (.aload_n 0, 1) := by decide +kernel
theorem dX7_digest_1 : decode cX7_digest 1 = .ok (.ldc2_w 233, 3) := by decide +kernel
theorem dX7_digest_4 : decode cX7_digest 4 = .ok (.putfield 229, 3) := by decide +kernel
theorem dX7_digest_7 : decode cX7_digest 7 = .ok (.iconst 0, 1) := by decide +kernel
theorem dX7_digest_8 : decode cX7_digest 8 = .ok (.istore_n 1, 1) := by decide +kernel
theorem dX7_digest_9 : decode cX7_digest 9 = .ok (.iload_n 1, 1) := by decide +kernel
theorem dX7_digest_10 : decode cX7_digest 10 = .ok (.bipush 16, 2) := by decide +kernel
theorem dX7_digest_12 : decode cX7_digest 12 = .ok (.if_icmp .ge 18, 3) := by decide +kernel
theorem dX7_digest_15 : decode cX7_digest 15 = .ok (.aload_n 0, 1) := by decide +kernel
theorem dX7_digest_16 : decode cX7_digest 16 = .ok (.aload_n 0, 1) := by decide +kernel
theorem dX7_digest_17 : decode cX7_digest 17 = .ok (.iload_n 1, 1) := by decide +kernel
theorem dX7_digest_18 : decode cX7_digest 18 = .ok (.invokevirtual 235, 3) := by decide +kernel
theorem dX7_digest_21 : decode cX7_digest 21 = .ok (.invokevirtual 238, 3) := by decide +kernel
theorem dX7_digest_24 : decode cX7_digest 24 = .ok (.iinc 1 1, 3) := by decide +kernel
theorem dX7_digest_27 : decode cX7_digest 27 = .ok (.goto (-18), 3) := by decide +kernel
theorem dX7_digest_30 : decode cX7_digest 30 = .ok (.iconst 0, 1) := by decide +kernel
theorem dX7_digest_31 : decode cX7_digest 31 = .ok (.istore_n 1, 1) := by decide +kernel
theorem dX7_digest_32 : decode cX7_digest 32 = .ok (.iload_n 1, 1) := by decide +kernel
theorem dX7_digest_33 : decode cX7_digest 33 = .ok (.aload_n 0, 1) := by decide +kernel
theorem dX7_digest_34 : decode cX7_digest 34 = .ok (.invokevirtual 82, 3) := by decide +kernel
theorem dX7_digest_37 : decode cX7_digest 37 = .ok (.if_icmp .ge 21, 3) := by decide +kernel
theorem dX7_digest_40 : decode cX7_digest 40 = .ok (.aload_n 0, 1) := by decide +kernel
theorem dX7_digest_41 : decode cX7_digest 41 = .ok (.aload_n 0, 1) := by decide +kernel
theorem dX7_digest_42 : decode cX7_digest 42 = .ok (.getfield 7, 3) := by decide +kernel
theorem dX7_digest_45 : decode cX7_digest 45 = .ok (.iconst 2, 1) := by decide +kernel
theorem dX7_digest_46 : decode cX7_digest 46 = .ok (.iload_n 1, 1) := by decide +kernel
theorem dX7_digest_47 : decode cX7_digest 47 = .ok (.iadd, 1) := by decide +kernel
theorem dX7_digest_48 : decode cX7_digest 48 = .ok (.iaload, 1) := by decide +kernel
theorem dX7_digest_49 : decode cX7_digest 49 = .ok (.invokevirtual 238, 3) := by decide +kernel
theorem dX7_digest_52 : decode cX7_digest 52 = .ok (.iinc 1 1, 3) := by decide +kernel
theorem dX7_digest_55 : decode cX7_digest 55 = .ok (.goto (-23), 3) := by decide +kernel
theorem dX7_digest_58 : decode cX7_digest 58 = .ok (.iconst 0, 1) := by decide +kernel
theorem dX7_digest_59 : decode cX7_digest 59 = .ok (.istore_n 1, 1) := by decide +kernel
theorem dX7_digest_60 : decode cX7_digest 60 = .ok (.iload_n 1, 1) := by decide +kernel
theorem dX7_digest_61 : decode cX7_digest 61 = .ok (.aload_n 0, 1) := by decide +kernel
theorem dX7_digest_62 : decode cX7_digest 62 = .ok (.invokevirtual 69, 3) := by decide +kernel
theorem dX7_digest_65 : decode cX7_digest 65 = .ok (.if_icmp .ge 18, 3) := by decide +kernel
theorem dX7_digest_68 : decode cX7_digest 68 = .ok (.aload_n 0, 1) := by decide +kernel
theorem dX7_digest_69 : decode cX7_digest 69 = .ok (.aload_n 0, 1) := by decide +kernel
theorem dX7_digest_70 : decode cX7_digest 70 = .ok (.iload_n 1, 1) := by decide +kernel
theorem dX7_digest_71 : decode cX7_digest 71 = .ok (.invokevirtual 56, 3) := by decide +kernel
theorem dX7_digest_74 : decode cX7_digest 74 = .ok (.invokevirtual 238, 3) := by decide +kernel
theorem dX7_digest_77 : decode cX7_digest 77 = .ok (.iinc 1 1, 3) := by decide +kernel
theorem dX7_digest_80 : decode cX7_digest 80 = .ok (.goto (-20), 3) := by decide +kernel
theorem dX7_digest_83 : decode cX7_digest 83 = .ok (.iconst 0, 1) := by decide +kernel
theorem dX7_digest_84 : decode cX7_digest 84 = .ok (.istore_n 1, 1) := by decide +kernel
theorem dX7_digest_85 : decode cX7_digest 85 = .ok (.iload_n 1, 1) := by decide +kernel
theorem dX7_digest_86 : decode cX7_digest 86 = .ok (.iconst 5, 1) := by decide +kernel
theorem dX7_digest_87 : decode cX7_digest 87 = .ok (.if_icmp .ge 18, 3) := by decide +kernel
theorem dX7_digest_90 : decode cX7_digest 90 = .ok (.aload_n 0, 1) := by decide +kernel
theorem dX7_digest_91 : decode cX7_digest 91 = .ok (.aload_n 0, 1) := by decide +kernel
theorem dX7_digest_92 : decode cX7_digest 92 = .ok (.iload_n 1, 1) := by decide +kernel
theorem dX7_digest_93 : decode cX7_digest 93 = .ok (.invokevirtual 241, 3) := by decide +kernel
theorem dX7_digest_96 : decode cX7_digest 96 = .ok (.invokevirtual 238, 3) := by decide +kernel
theorem dX7_digest_99 : decode cX7_digest 99 = .ok (.iinc 1 1, 3) := by decide +kernel
theorem dX7_digest_102 : decode cX7_digest 102 = .ok (.goto (-17), 3) := by decide +kernel
theorem dX7_digest_105 : decode cX7_digest 105 = .ok (.iconst 0, 1) := by decide +kernel
theorem dX7_digest_106 : decode cX7_digest 106 = .ok (.istore_n 1, 1) := by decide +kernel
theorem dX7_digest_107 : decode cX7_digest 107 = .ok (.iload_n 1, 1) := by decide +kernel
theorem dX7_digest_108 : decode cX7_digest 108 = .ok (.iconst 4, 1) := by decide +kernel
theorem dX7_digest_109 : decode cX7_digest 109 = .ok (.if_icmp .ge 18, 3) := by decide +kernel
theorem dX7_digest_112 : decode cX7_digest 112 = .ok (.aload_n 0, 1) := by decide +kernel
theorem dX7_digest_113 : decode cX7_digest 113 = .ok (.aload_n 0, 1) := by decide +kernel
theorem dX7_digest_114 : decode cX7_digest 114 = .ok (.iload_n 1, 1) := by decide +kernel
theorem dX7_digest_115 : decode cX7_digest 115 = .ok (.invokevirtual 244, 3) := by decide +kernel
theorem dX7_digest_118 : decode cX7_digest 118 = .ok (.invokevirtual 238, 3) := by decide +kernel
theorem dX7_digest_121 : decode cX7_digest 121 = .ok (.iinc 1 1, 3) := by decide +kernel
theorem dX7_digest_124 : decode cX7_digest 124 = .ok (.goto (-17), 3) := by decide +kernel
theorem dX7_digest_127 : decode cX7_digest 127 = .ok (.aload_n 0, 1) := by decide +kernel
theorem dX7_digest_128 : decode cX7_digest 128 = .ok (.aload_n 0, 1) := by decide +kernel
theorem dX7_digest_129 : decode cX7_digest 129 = .ok (.iconst 2, 1) := by decide +kernel
theorem dX7_digest_130 : decode cX7_digest 130 = .ok (.invokevirtual 247, 3) := by decide +kernel
theorem dX7_digest_133 : decode cX7_digest 133 = .ok (.invokevirtual 238, 3) := by decide +kernel
theorem dX7_digest_136 : decode cX7_digest 136 = .ok (.aload_n 0, 1) := by decide +kernel
theorem dX7_digest_137 : decode cX7_digest 137 = .ok (.aload_n 0, 1) := by decide +kernel
theorem dX7_digest_138 : decode cX7_digest 138 = .ok (.iconst 2, 1) := by decide +kernel
theorem dX7_digest_139 : decode cX7_digest 139 = .ok (.invokevirtual 250, 3) := by decide +kernel
theorem dX7_digest_142 : decode cX7_digest 142 = .ok (.invokevirtual 238, 3) := by decide +kernel
theorem dX7_digest_145 : decode cX7_digest 145 = .ok (.aload_n 0, 1) := by decide +kernel
theorem dX7_digest_146 : decode cX7_digest 146 = .ok (.aload_n 0, 1) := by decide +kernel
theorem dX7_digest_147 : decode cX7_digest 147 = .ok (.invokevirtual 253, 3) := by decide +kernel
theorem dX7_digest_150 : decode cX7_digest 150 = .ok (.invokevirtual 238, 3) := by decide +kernel
theorem dX7_digest_153 : decode cX7_digest 153 = .ok (.iconst 0, 1) := by decide +kernel
theorem dX7_digest_154 : decode cX7_digest 154 = .ok (.istore_n 1, 1) := by decide +kernel
theorem dX7_digest_155 : decode cX7_digest 155 = .ok (.iload_n 1, 1) := by decide +kernel
theorem dX7_digest_156 : decode cX7_digest 156 = .ok (.aload_n 0, 1) := by decide +kernel
theorem dX7_digest_157 : decode cX7_digest 157 = .ok (.getfield 166, 3) := by decide +kernel
theorem dX7_digest_160 : decode cX7_digest 160 = .ok (.if_icmp .ge 19, 3) := by decide +kernel
theorem dX7_digest_163 : decode cX7_digest 163 = .ok (.aload_n 0, 1) := by decide +kernel
theorem dX7_digest_164 : decode cX7_digest 164 = .ok (.aload_n 0, 1) := by decide +kernel
theorem dX7_digest_165 : decode cX7_digest 165 = .ok (.getfield 16, 3) := by decide +kernel
theorem dX7_digest_168 : decode cX7_digest 168 = .ok (.iload_n 1, 1) := by decide +kernel
theorem dX7_digest_169 : decode cX7_digest 169 = .ok (.iaload, 1) := by decide +kernel
theorem dX7_digest_170 : decode cX7_digest 170 = .ok (.invokevirtual 238, 3) := by decide +kernel
theorem dX7_digest_173 : decode cX7_digest 173 = .ok (.iinc 1 1, 3) := by decide +kernel
theorem dX7_digest_176 : decode cX7_digest 176 = .ok (.goto (-21), 3) := by decide +kernel
theorem dX7_digest_179 : decode cX7_digest 179 = .ok (.aload_n 0, 1) := by decide +kernel
theorem dX7_digest_180 : decode cX7_digest 180 = .ok (.getfield 229, 3) := by decide +kernel
theorem dX7_digest_183 : decode cX7_digest 183 = .ok (.lreturn, 1) := by decide +kernel
theorem dJ13_bitCount_95d88_0 : decode cJ13_bitCount_95d88 0 = .ok (.lload_n 0, 1) := by decide +kernel
theorem dJ13_bitCount_95d88_1 : decode cJ13_bitCount_95d88 1 = .ok (.lload_n 0, 1) := by decide +kernel
theorem dJ13_bitCount_95d88_2 : decode cJ13_bitCount_95d88 2 = .ok (.iconst 1, 1) := by decide +kernel
theorem dJ13_bitCount_95d88_3 : decode cJ13_bitCount_95d88 3 = .ok (.lushr, 1) := by decide +kernel
theorem dJ13_bitCount_95d88_4 : decode cJ13_bitCount_95d88 4 = .ok (.ldc2_w 314, 3) := by decide +kernel
theorem dJ13_bitCount_95d88_7 : decode cJ13_bitCount_95d88 7 = .ok (.land, 1) := by decide +kernel
theorem dJ13_bitCount_95d88_8 : decode cJ13_bitCount_95d88 8 = .ok (.lsub, 1) := by decide +kernel
theorem dJ13_bitCount_95d88_9 : decode cJ13_bitCount_95d88 9 = .ok (.lstore_n 0, 1) := by decide +kernel
theorem dJ13_bitCount_95d88_10 : decode cJ13_bitCount_95d88 10 = .ok (.lload_n 0, 1) := by decide +kernel
theorem dJ13_bitCount_95d88_11 : decode cJ13_bitCount_95d88 11 = .ok (.ldc2_w 316, 3) := by decide +kernel
theorem dJ13_bitCount_95d88_14 : decode cJ13_bitCount_95d88 14 = .ok (.land, 1) := by decide +kernel
theorem dJ13_bitCount_95d88_15 : decode cJ13_bitCount_95d88 15 = .ok (.lload_n 0, 1) := by decide +kernel
theorem dJ13_bitCount_95d88_16 : decode cJ13_bitCount_95d88 16 = .ok (.iconst 2, 1) := by decide +kernel
theorem dJ13_bitCount_95d88_17 : decode cJ13_bitCount_95d88 17 = .ok (.lushr, 1) := by decide +kernel
theorem dJ13_bitCount_95d88_18 : decode cJ13_bitCount_95d88 18 = .ok (.ldc2_w 316, 3) := by decide +kernel
theorem dJ13_bitCount_95d88_21 : decode cJ13_bitCount_95d88 21 = .ok (.land, 1) := by decide +kernel
theorem dJ13_bitCount_95d88_22 : decode cJ13_bitCount_95d88 22 = .ok (.ladd, 1) := by decide +kernel
theorem dJ13_bitCount_95d88_23 : decode cJ13_bitCount_95d88 23 = .ok (.lstore_n 0, 1) := by decide +kernel
theorem dJ13_bitCount_95d88_24 : decode cJ13_bitCount_95d88 24 = .ok (.lload_n 0, 1) := by decide +kernel
theorem dJ13_bitCount_95d88_25 : decode cJ13_bitCount_95d88 25 = .ok (.lload_n 0, 1) := by decide +kernel
theorem dJ13_bitCount_95d88_26 : decode cJ13_bitCount_95d88 26 = .ok (.iconst 4, 1) := by decide +kernel
theorem dJ13_bitCount_95d88_27 : decode cJ13_bitCount_95d88 27 = .ok (.lushr, 1) := by decide +kernel
theorem dJ13_bitCount_95d88_28 : decode cJ13_bitCount_95d88 28 = .ok (.ladd, 1) := by decide +kernel
theorem dJ13_bitCount_95d88_29 : decode cJ13_bitCount_95d88 29 = .ok (.ldc2_w 318, 3) := by decide +kernel
theorem dJ13_bitCount_95d88_32 : decode cJ13_bitCount_95d88 32 = .ok (.land, 1) := by decide +kernel
theorem dJ13_bitCount_95d88_33 : decode cJ13_bitCount_95d88 33 = .ok (.lstore_n 0, 1) := by decide +kernel
theorem dJ13_bitCount_95d88_34 : decode cJ13_bitCount_95d88 34 = .ok (.lload_n 0, 1) := by decide +kernel
theorem dJ13_bitCount_95d88_35 : decode cJ13_bitCount_95d88 35 = .ok (.lload_n 0, 1) := by decide +kernel
theorem dJ13_bitCount_95d88_36 : decode cJ13_bitCount_95d88 36 = .ok (.bipush 8, 2) := by decide +kernel
theorem dJ13_bitCount_95d88_38 : decode cJ13_bitCount_95d88 38 = .ok (.lushr, 1) := by decide +kernel
theorem dJ13_bitCount_95d88_39 : decode cJ13_bitCount_95d88 39 = .ok (.ladd, 1) := by decide +kernel
theorem dJ13_bitCount_95d88_40 : decode cJ13_bitCount_95d88 40 = .ok (.lstore_n 0, 1) := by decide +kernel
theorem dJ13_bitCount_95d88_41 : decode cJ13_bitCount_95d88 41 = .ok (.lload_n 0, 1) := by decide +kernel
theorem dJ13_bitCount_95d88_42 : decode cJ13_bitCount_95d88 42 = .ok (.lload_n 0, 1) := by decide +kernel
theorem dJ13_bitCount_95d88_43 : decode cJ13_bitCount_95d88 43 = .ok (.bipush 16, 2) := by decide +kernel
theorem dJ13_bitCount_95d88_45 : decode cJ13_bitCount_95d88 45 = .ok (.lushr, 1) := by decide +kernel
theorem dJ13_bitCount_95d88_46 : decode cJ13_bitCount_95d88 46 = .ok (.ladd, 1) := by decide +kernel
theorem dJ13_bitCount_95d88_47 : decode cJ13_bitCount_95d88 47 = .ok (.lstore_n 0, 1) := by decide +kernel
theorem dJ13_bitCount_95d88_48 : decode cJ13_bitCount_95d88 48 = .ok (.lload_n 0, 1) := by decide +kernel
theorem dJ13_bitCount_95d88_49 : decode cJ13_bitCount_95d88 49 = .ok (.lload_n 0, 1) := by decide +kernel
theorem dJ13_bitCount_95d88_50 : decode cJ13_bitCount_95d88 50 = .ok (.bipush 32, 2) := by decide +kernel
theorem dJ13_bitCount_95d88_52 : decode cJ13_bitCount_95d88 52 = .ok (.lushr, 1) := by decide +kernel
theorem dJ13_bitCount_95d88_53 : decode cJ13_bitCount_95d88 53 = .ok (.ladd, 1) := by decide +kernel
theorem dJ13_bitCount_95d88_54 : decode cJ13_bitCount_95d88 54 = .ok (.lstore_n 0, 1) := by decide +kernel
theorem dJ13_bitCount_95d88_55 : decode cJ13_bitCount_95d88 55 = .ok (.lload_n 0, 1) := by decide +kernel
theorem dJ13_bitCount_95d88_56 : decode cJ13_bitCount_95d88 56 = .ok (.l2i, 1) := by decide +kernel
theorem dJ13_bitCount_95d88_57 : decode cJ13_bitCount_95d88 57 = .ok (.bipush 127, 2) := by decide +kernel
theorem dJ13_bitCount_95d88_59 : decode cJ13_bitCount_95d88 59 = .ok (.iand, 1) := by decide +kernel
theorem dJ13_bitCount_95d88_60 : decode cJ13_bitCount_95d88 60 = .ok (.ireturn, 1) := by decide +kernel
theorem dJ9_floorMod_7cf53_0 : decode cJ9_floorMod_7cf53 0 = .ok (.iload_n 0, 1) := by decide +kernel
theorem dJ9_floorMod_7cf53_1 : decode cJ9_floorMod_7cf53 1 = .ok (.iload_n 1, 1) := by decide +kernel
theorem dJ9_floorMod_7cf53_2 : decode cJ9_floorMod_7cf53 2 = .ok (.irem, 1) := by decide +kernel
theorem dJ9_floorMod_7cf53_3 : decode cJ9_floorMod_7cf53 3 = .ok (.istore_n 2, 1) := by decide +kernel
theorem dJ9_floorMod_7cf53_4 : decode cJ9_floorMod_7cf53 4 = .ok (.iload_n 0, 1) := by decide +kernel
theorem dJ9_floorMod_7cf53_5 : decode cJ9_floorMod_7cf53 5 = .ok (.iload_n 1, 1) := by decide +kernel
theorem dJ9_floorMod_7cf53_6 : decode cJ9_floorMod_7cf53 6 = .ok (.ixor, 1) := by decide +kernel
theorem dJ9_floorMod_7cf53_7 : decode cJ9_floorMod_7cf53 7 = .ok (.ifCond .ge 11, 3) := by decide +kernel
theorem dJ9_floorMod_7cf53_10 : decode cJ9_floorMod_7cf53 10 = .ok (.iload_n 2, 1) := by decide +kernel
theorem dJ9_floorMod_7cf53_11 : decode cJ9_floorMod_7cf53 11 = .ok (.ifCond .eq 7, 3) := by decide +kernel
theorem dJ9_floorMod_7cf53_14 : decode cJ9_floorMod_7cf53 14 = .ok (.iload_n 2, 1) := by decide +kernel
theorem dJ9_floorMod_7cf53_15 : decode cJ9_floorMod_7cf53 15 = .ok (.iload_n 1, 1) := by decide +kernel
theorem dJ9_floorMod_7cf53_16 : decode cJ9_floorMod_7cf53 16 = .ok (.iadd, 1) := by decide +kernel
theorem dJ9_floorMod_7cf53_17 : decode cJ9_floorMod_7cf53 17 = .ok (.ireturn, 1) := by decide +kernel
theorem dJ9_floorMod_7cf53_18 : decode cJ9_floorMod_7cf53 18 = .ok (.iload_n 2, 1) := by decide +kernel
theorem dJ9_floorMod_7cf53_19 : decode cJ9_floorMod_7cf53 19 = .ok (.ireturn, 1) := by decide +kernel
theorem dJ9_max_7cf53_0 : decode cJ9_max_7cf53 0 = .ok (.iload_n 0, 1) := by decide +kernel
theorem dJ9_max_7cf53_1 : decode cJ9_max_7cf53 1 = .ok (.iload_n 1, 1) := by decide +kernel
theorem dJ9_max_7cf53_2 : decode cJ9_max_7cf53 2 = .ok (.if_icmp .lt 7, 3) := by decide +kernel
theorem dJ9_max_7cf53_5 : decode cJ9_max_7cf53 5 = .ok (.iload_n 0, 1) := by decide +kernel
theorem dJ9_max_7cf53_6 : decode cJ9_max_7cf53 6 = .ok (.goto 4, 3) := by decide +kernel
theorem dJ9_max_7cf53_9 : decode cJ9_max_7cf53 9 = .ok (.iload_n 1, 1) := by decide +kernel
theorem dJ9_max_7cf53_10 : decode cJ9_max_7cf53 10 = .ok (.ireturn, 1) := by decide +kernel
theorem dJ9_min_7cf53_0 : decode cJ9_min_7cf53 0 = .ok (.iload_n 0, 1) := by decide +kernel
theorem dJ9_min_7cf53_1 : decode cJ9_min_7cf53 1 = .ok (.iload_n 1, 1) := by decide +kernel
theorem dJ9_min_7cf53_2 : decode cJ9_min_7cf53 2 = .ok (.if_icmp .gt 7, 3) := by decide +kernel
theorem dJ9_min_7cf53_5 : decode cJ9_min_7cf53 5 = .ok (.iload_n 0, 1) := by decide +kernel
theorem dJ9_min_7cf53_6 : decode cJ9_min_7cf53 6 = .ok (.goto 4, 3) := by decide +kernel
theorem dJ9_min_7cf53_9 : decode cJ9_min_7cf53 9 = .ok (.iload_n 1, 1) := by decide +kernel
theorem dJ9_min_7cf53_10 : decode cJ9_min_7cf53 10 = .ok (.ireturn, 1) := by decide +kernel
theorem dL_law_0 : decode cL_law 0 = .ok (.new 7, 3) := by decide +kernel
theorem dL_law_3 : decode cL_law 3 = .ok (.dup, 1) := by decide +kernel
theorem dL_law_4 : decode cL_law 4 = .ok (.invokespecial 9, 3) := by decide +kernel
theorem dL_law_7 : decode cL_law 7 = .ok (.astore_n 1, 1) := by decide +kernel
theorem dL_law_8 : decode cL_law 8 = .ok (.new 10, 3) := by decide +kernel
theorem dL_law_11 : decode cL_law 11 = .ok (.dup, 1) := by decide +kernel
theorem dL_law_12 : decode cL_law 12 = .ok (.invokespecial 12, 3) := by decide +kernel
theorem dL_law_15 : decode cL_law 15 = .ok (.astore_n 2, 1) := by decide +kernel
theorem dL_law_16 : decode cL_law 16 = .ok (.iconst 0, 1) := by decide +kernel
theorem dL_law_17 : decode cL_law 17 = .ok (.istore_n 3, 1) := by decide +kernel
theorem dL_law_18 : decode cL_law 18 = .ok (.iload_n 3, 1) := by decide +kernel
theorem dL_law_19 : decode cL_law 19 = .ok (.aload_n 0, 1) := by decide +kernel
theorem dL_law_20 : decode cL_law 20 = .ok (.arraylength, 1) := by decide +kernel
theorem dL_law_21 : decode cL_law 21 = .ok (.iconst 4, 1) := by decide +kernel
theorem dL_law_22 : decode cL_law 22 = .ok (.isub, 1) := by decide +kernel
theorem dL_law_23 : decode cL_law 23 = .ok (.if_icmp .gt 612, 3) := by decide +kernel
theorem dL_law_26 : decode cL_law 26 = .ok (.aload_n 0, 1) := by decide +kernel
theorem dL_law_27 : decode cL_law 27 = .ok (.iload_n 3, 1) := by decide +kernel
theorem dL_law_28 : decode cL_law 28 = .ok (.iaload, 1) := by decide +kernel
theorem dL_law_29 : decode cL_law 29 = .ok (.bipush 31, 2) := by decide +kernel
theorem dL_law_31 : decode cL_law 31 = .ok (.iand, 1) := by decide +kernel
theorem dL_law_32 : decode cL_law 32 = .ok (.tableswitch 597 0 21 #[104, 127, 140, 153, 166, 199, 232, 245, 258, 281, 294, 317, 340, 399, 422, 445, 478, 501, 524, 547, 560, 583], 104) := by decide +kernel
theorem dL_law_136 : decode cL_law 136 = .ok (.aload_n 1, 1) := by decide +kernel
theorem dL_law_137 : decode cL_law 137 = .ok (.aload_n 0, 1) := by decide +kernel
theorem dL_law_138 : decode cL_law 138 = .ok (.iload_n 3, 1) := by decide +kernel
theorem dL_law_139 : decode cL_law 139 = .ok (.iconst 1, 1) := by decide +kernel
theorem dL_law_140 : decode cL_law 140 = .ok (.iadd, 1) := by decide +kernel
theorem dL_law_141 : decode cL_law 141 = .ok (.iaload, 1) := by decide +kernel
theorem dL_law_142 : decode cL_law 142 = .ok (.invokevirtual 13, 3) := by decide +kernel
theorem dL_law_145 : decode cL_law 145 = .ok (.aload_n 2, 1) := by decide +kernel
theorem dL_law_146 : decode cL_law 146 = .ok (.aload_n 0, 1) := by decide +kernel
theorem dL_law_147 : decode cL_law 147 = .ok (.iload_n 3, 1) := by decide +kernel
theorem dL_law_148 : decode cL_law 148 = .ok (.iconst 1, 1) := by decide +kernel
theorem dL_law_149 : decode cL_law 149 = .ok (.iadd, 1) := by decide +kernel
theorem dL_law_150 : decode cL_law 150 = .ok (.iaload, 1) := by decide +kernel
theorem dL_law_151 : decode cL_law 151 = .ok (.invokevirtual 17, 3) := by decide +kernel
theorem dL_law_154 : decode cL_law 154 = .ok (.if_icmp .eq 475, 3) := by decide +kernel
theorem dL_law_157 : decode cL_law 157 = .ok (.iconst 0, 1) := by decide +kernel
theorem dL_law_158 : decode cL_law 158 = .ok (.ireturn, 1) := by decide +kernel
theorem dL_law_159 : decode cL_law 159 = .ok (.aload_n 1, 1) := by decide +kernel
theorem dL_law_160 : decode cL_law 160 = .ok (.invokevirtual 18, 3) := by decide +kernel
theorem dL_law_163 : decode cL_law 163 = .ok (.aload_n 2, 1) := by decide +kernel
theorem dL_law_164 : decode cL_law 164 = .ok (.invokevirtual 22, 3) := by decide +kernel
theorem dL_law_167 : decode cL_law 167 = .ok (.if_icmp .eq 462, 3) := by decide +kernel
theorem dL_law_170 : decode cL_law 170 = .ok (.iconst 0, 1) := by decide +kernel
theorem dL_law_171 : decode cL_law 171 = .ok (.ireturn, 1) := by decide +kernel
theorem dL_law_172 : decode cL_law 172 = .ok (.aload_n 1, 1) := by decide +kernel
theorem dL_law_173 : decode cL_law 173 = .ok (.invokevirtual 23, 3) := by decide +kernel
theorem dL_law_176 : decode cL_law 176 = .ok (.aload_n 2, 1) := by decide +kernel
theorem dL_law_177 : decode cL_law 177 = .ok (.invokevirtual 26, 3) := by decide +kernel
theorem dL_law_180 : decode cL_law 180 = .ok (.if_icmp .eq 449, 3) := by decide +kernel
theorem dL_law_183 : decode cL_law 183 = .ok (.iconst 0, 1) := by decide +kernel
theorem dL_law_184 : decode cL_law 184 = .ok (.ireturn, 1) := by decide +kernel
theorem dL_law_185 : decode cL_law 185 = .ok (.aload_n 1, 1) := by decide +kernel
theorem dL_law_186 : decode cL_law 186 = .ok (.invokevirtual 27, 3) := by decide +kernel
theorem dL_law_189 : decode cL_law 189 = .ok (.aload_n 2, 1) := by decide +kernel
theorem dL_law_190 : decode cL_law 190 = .ok (.invokevirtual 30, 3) := by decide +kernel
theorem dL_law_193 : decode cL_law 193 = .ok (.if_icmp .eq 436, 3) := by decide +kernel
theorem dL_law_196 : decode cL_law 196 = .ok (.iconst 0, 1) := by decide +kernel
theorem dL_law_197 : decode cL_law 197 = .ok (.ireturn, 1) := by decide +kernel
theorem dL_law_198 : decode cL_law 198 = .ok (.aload_n 1, 1) := by decide +kernel
theorem dL_law_199 : decode cL_law 199 = .ok (.aload_n 0, 1) := by decide +kernel
theorem dL_law_200 : decode cL_law 200 = .ok (.iload_n 3, 1) := by decide +kernel
theorem dL_law_201 : decode cL_law 201 = .ok (.iconst 1, 1) := by decide +kernel
theorem dL_law_202 : decode cL_law 202 = .ok (.iadd, 1) := by decide +kernel
theorem dL_law_203 : decode cL_law 203 = .ok (.iaload, 1) := by decide +kernel
theorem dL_law_204 : decode cL_law 204 = .ok (.aload_n 0, 1) := by decide +kernel
theorem dL_law_205 : decode cL_law 205 = .ok (.iload_n 3, 1) := by decide +kernel
theorem dL_law_206 : decode cL_law 206 = .ok (.iconst 2, 1) := by decide +kernel
theorem dL_law_207 : decode cL_law 207 = .ok (.iadd, 1) := by decide +kernel
theorem dL_law_208 : decode cL_law 208 = .ok (.iaload, 1) := by decide +kernel
theorem dL_law_209 : decode cL_law 209 = .ok (.invokevirtual 31, 3) := by decide +kernel
theorem dL_law_212 : decode cL_law 212 = .ok (.aload_n 2, 1) := by decide +kernel
theorem dL_law_213 : decode cL_law 213 = .ok (.aload_n 0, 1) := by decide +kernel
theorem dL_law_214 : decode cL_law 214 = .ok (.iload_n 3, 1) := by decide +kernel
theorem dL_law_215 : decode cL_law 215 = .ok (.iconst 1, 1) := by decide +kernel
theorem dL_law_216 : decode cL_law 216 = .ok (.iadd, 1) := by decide +kernel
theorem dL_law_217 : decode cL_law 217 = .ok (.iaload, 1) := by decide +kernel
theorem dL_law_218 : decode cL_law 218 = .ok (.aload_n 0, 1) := by decide +kernel
theorem dL_law_219 : decode cL_law 219 = .ok (.iload_n 3, 1) := by decide +kernel
theorem dL_law_220 : decode cL_law 220 = .ok (.iconst 2, 1) := by decide +kernel
theorem dL_law_221 : decode cL_law 221 = .ok (.iadd, 1) := by decide +kernel
theorem dL_law_222 : decode cL_law 222 = .ok (.iaload, 1) := by decide +kernel
theorem dL_law_223 : decode cL_law 223 = .ok (.invokevirtual 35, 3) := by decide +kernel
theorem dL_law_226 : decode cL_law 226 = .ok (.if_icmp .eq 403, 3) := by decide +kernel
theorem dL_law_229 : decode cL_law 229 = .ok (.iconst 0, 1) := by decide +kernel
theorem dL_law_230 : decode cL_law 230 = .ok (.ireturn, 1) := by decide +kernel
theorem dL_law_231 : decode cL_law 231 = .ok (.aload_n 1, 1) := by decide +kernel
theorem dL_law_232 : decode cL_law 232 = .ok (.aload_n 0, 1) := by decide +kernel
theorem dL_law_233 : decode cL_law 233 = .ok (.iload_n 3, 1) := by decide +kernel
theorem dL_law_234 : decode cL_law 234 = .ok (.iconst 1, 1) := by decide +kernel
theorem dL_law_235 : decode cL_law 235 = .ok (.iadd, 1) := by decide +kernel
theorem dL_law_236 : decode cL_law 236 = .ok (.iaload, 1) := by decide +kernel
theorem dL_law_237 : decode cL_law 237 = .ok (.aload_n 0, 1) := by decide +kernel
theorem dL_law_238 : decode cL_law 238 = .ok (.iload_n 3, 1) := by decide +kernel
theorem dL_law_239 : decode cL_law 239 = .ok (.iconst 2, 1) := by decide +kernel
theorem dL_law_240 : decode cL_law 240 = .ok (.iadd, 1) := by decide +kernel
theorem dL_law_241 : decode cL_law 241 = .ok (.iaload, 1) := by decide +kernel
theorem dL_law_242 : decode cL_law 242 = .ok (.invokevirtual 36, 3) := by decide +kernel
theorem dL_law_245 : decode cL_law 245 = .ok (.aload_n 2, 1) := by decide +kernel
theorem dL_law_246 : decode cL_law 246 = .ok (.aload_n 0, 1) := by decide +kernel
theorem dL_law_247 : decode cL_law 247 = .ok (.iload_n 3, 1) := by decide +kernel
theorem dL_law_248 : decode cL_law 248 = .ok (.iconst 1, 1) := by decide +kernel
theorem dL_law_249 : decode cL_law 249 = .ok (.iadd, 1) := by decide +kernel
theorem dL_law_250 : decode cL_law 250 = .ok (.iaload, 1) := by decide +kernel
theorem dL_law_251 : decode cL_law 251 = .ok (.aload_n 0, 1) := by decide +kernel
theorem dL_law_252 : decode cL_law 252 = .ok (.iload_n 3, 1) := by decide +kernel
theorem dL_law_253 : decode cL_law 253 = .ok (.iconst 2, 1) := by decide +kernel
theorem dL_law_254 : decode cL_law 254 = .ok (.iadd, 1) := by decide +kernel
theorem dL_law_255 : decode cL_law 255 = .ok (.iaload, 1) := by decide +kernel
theorem dL_law_256 : decode cL_law 256 = .ok (.invokevirtual 39, 3) := by decide +kernel
theorem dL_law_259 : decode cL_law 259 = .ok (.if_icmp .eq 370, 3) := by decide +kernel
theorem dL_law_262 : decode cL_law 262 = .ok (.iconst 0, 1) := by decide +kernel
theorem dL_law_263 : decode cL_law 263 = .ok (.ireturn, 1) := by decide +kernel
theorem dL_law_264 : decode cL_law 264 = .ok (.aload_n 1, 1) := by decide +kernel
theorem dL_law_265 : decode cL_law 265 = .ok (.invokevirtual 40, 3) := by decide +kernel
theorem dL_law_268 : decode cL_law 268 = .ok (.aload_n 2, 1) := by decide +kernel
theorem dL_law_269 : decode cL_law 269 = .ok (.invokevirtual 43, 3) := by decide +kernel
theorem dL_law_272 : decode cL_law 272 = .ok (.if_icmp .eq 357, 3) := by decide +kernel
theorem dL_law_275 : decode cL_law 275 = .ok (.iconst 0, 1) := by decide +kernel
theorem dL_law_276 : decode cL_law 276 = .ok (.ireturn, 1) := by decide +kernel
theorem dL_law_277 : decode cL_law 277 = .ok (.aload_n 1, 1) := by decide +kernel
theorem dL_law_278 : decode cL_law 278 = .ok (.invokevirtual 44, 3) := by decide +kernel
theorem dL_law_281 : decode cL_law 281 = .ok (.aload_n 2, 1) := by decide +kernel
theorem dL_law_282 : decode cL_law 282 = .ok (.invokevirtual 47, 3) := by decide +kernel
theorem dL_law_285 : decode cL_law 285 = .ok (.if_icmp .eq 344, 3) := by decide +kernel
theorem dL_law_288 : decode cL_law 288 = .ok (.iconst 0, 1) := by decide +kernel
theorem dL_law_289 : decode cL_law 289 = .ok (.ireturn, 1) := by decide +kernel
theorem dL_law_290 : decode cL_law 290 = .ok (.aload_n 1, 1) := by decide +kernel
theorem dL_law_291 : decode cL_law 291 = .ok (.aload_n 0, 1) := by decide +kernel
theorem dL_law_292 : decode cL_law 292 = .ok (.iload_n 3, 1) := by decide +kernel
theorem dL_law_293 : decode cL_law 293 = .ok (.iconst 1, 1) := by decide +kernel
theorem dL_law_294 : decode cL_law 294 = .ok (.iadd, 1) := by decide +kernel
theorem dL_law_295 : decode cL_law 295 = .ok (.iaload, 1) := by decide +kernel
theorem dL_law_296 : decode cL_law 296 = .ok (.invokevirtual 48, 3) := by decide +kernel
theorem dL_law_299 : decode cL_law 299 = .ok (.aload_n 2, 1) := by decide +kernel
theorem dL_law_300 : decode cL_law 300 = .ok (.aload_n 0, 1) := by decide +kernel
theorem dL_law_301 : decode cL_law 301 = .ok (.iload_n 3, 1) := by decide +kernel
theorem dL_law_302 : decode cL_law 302 = .ok (.iconst 1, 1) := by decide +kernel
theorem dL_law_303 : decode cL_law 303 = .ok (.iadd, 1) := by decide +kernel
theorem dL_law_304 : decode cL_law 304 = .ok (.iaload, 1) := by decide +kernel
theorem dL_law_305 : decode cL_law 305 = .ok (.invokevirtual 51, 3) := by decide +kernel
theorem dL_law_308 : decode cL_law 308 = .ok (.if_icmp .eq 321, 3) := by decide +kernel
theorem dL_law_311 : decode cL_law 311 = .ok (.iconst 0, 1) := by decide +kernel
theorem dL_law_312 : decode cL_law 312 = .ok (.ireturn, 1) := by decide +kernel
theorem dL_law_313 : decode cL_law 313 = .ok (.aload_n 1, 1) := by decide +kernel
theorem dL_law_314 : decode cL_law 314 = .ok (.invokevirtual 52, 3) := by decide +kernel
theorem dL_law_317 : decode cL_law 317 = .ok (.aload_n 2, 1) := by decide +kernel
theorem dL_law_318 : decode cL_law 318 = .ok (.invokevirtual 55, 3) := by decide +kernel
theorem dL_law_321 : decode cL_law 321 = .ok (.if_icmp .eq 308, 3) := by decide +kernel
theorem dL_law_324 : decode cL_law 324 = .ok (.iconst 0, 1) := by decide +kernel
theorem dL_law_325 : decode cL_law 325 = .ok (.ireturn, 1) := by decide +kernel
theorem dL_law_326 : decode cL_law 326 = .ok (.aload_n 1, 1) := by decide +kernel
theorem dL_law_327 : decode cL_law 327 = .ok (.aload_n 0, 1) := by decide +kernel
theorem dL_law_328 : decode cL_law 328 = .ok (.iload_n 3, 1) := by decide +kernel
theorem dL_law_329 : decode cL_law 329 = .ok (.iconst 1, 1) := by decide +kernel
theorem dL_law_330 : decode cL_law 330 = .ok (.iadd, 1) := by decide +kernel
theorem dL_law_331 : decode cL_law 331 = .ok (.iaload, 1) := by decide +kernel
theorem dL_law_332 : decode cL_law 332 = .ok (.invokevirtual 56, 3) := by decide +kernel
theorem dL_law_335 : decode cL_law 335 = .ok (.aload_n 2, 1) := by decide +kernel
theorem dL_law_336 : decode cL_law 336 = .ok (.aload_n 0, 1) := by decide +kernel
theorem dL_law_337 : decode cL_law 337 = .ok (.iload_n 3, 1) := by decide +kernel
theorem dL_law_338 : decode cL_law 338 = .ok (.iconst 1, 1) := by decide +kernel
theorem dL_law_339 : decode cL_law 339 = .ok (.iadd, 1) := by decide +kernel
theorem dL_law_340 : decode cL_law 340 = .ok (.iaload, 1) := by decide +kernel
theorem dL_law_341 : decode cL_law 341 = .ok (.invokevirtual 59, 3) := by decide +kernel
theorem dL_law_344 : decode cL_law 344 = .ok (.if_icmp .eq 285, 3) := by decide +kernel
theorem dL_law_347 : decode cL_law 347 = .ok (.iconst 0, 1) := by decide +kernel
theorem dL_law_348 : decode cL_law 348 = .ok (.ireturn, 1) := by decide +kernel
theorem dL_law_349 : decode cL_law 349 = .ok (.aload_n 1, 1) := by decide +kernel
theorem dL_law_350 : decode cL_law 350 = .ok (.aload_n 0, 1) := by decide +kernel
theorem dL_law_351 : decode cL_law 351 = .ok (.iload_n 3, 1) := by decide +kernel
theorem dL_law_352 : decode cL_law 352 = .ok (.iconst 1, 1) := by decide +kernel
theorem dL_law_353 : decode cL_law 353 = .ok (.iadd, 1) := by decide +kernel
theorem dL_law_354 : decode cL_law 354 = .ok (.iaload, 1) := by decide +kernel
theorem dL_law_355 : decode cL_law 355 = .ok (.invokevirtual 60, 3) := by decide +kernel
theorem dL_law_358 : decode cL_law 358 = .ok (.aload_n 2, 1) := by decide +kernel
theorem dL_law_359 : decode cL_law 359 = .ok (.aload_n 0, 1) := by decide +kernel
theorem dL_law_360 : decode cL_law 360 = .ok (.iload_n 3, 1) := by decide +kernel
theorem dL_law_361 : decode cL_law 361 = .ok (.iconst 1, 1) := by decide +kernel
theorem dL_law_362 : decode cL_law 362 = .ok (.iadd, 1) := by decide +kernel
theorem dL_law_363 : decode cL_law 363 = .ok (.iaload, 1) := by decide +kernel
theorem dL_law_364 : decode cL_law 364 = .ok (.invokevirtual 63, 3) := by decide +kernel
theorem dL_law_367 : decode cL_law 367 = .ok (.if_icmp .eq 262, 3) := by decide +kernel
theorem dL_law_370 : decode cL_law 370 = .ok (.iconst 0, 1) := by decide +kernel
theorem dL_law_371 : decode cL_law 371 = .ok (.ireturn, 1) := by decide +kernel
theorem dL_law_372 : decode cL_law 372 = .ok (.aload_n 1, 1) := by decide +kernel
theorem dL_law_373 : decode cL_law 373 = .ok (.aload_n 0, 1) := by decide +kernel
theorem dL_law_374 : decode cL_law 374 = .ok (.iload_n 3, 1) := by decide +kernel
theorem dL_law_375 : decode cL_law 375 = .ok (.iconst 1, 1) := by decide +kernel
theorem dL_law_376 : decode cL_law 376 = .ok (.iadd, 1) := by decide +kernel
theorem dL_law_377 : decode cL_law 377 = .ok (.iaload, 1) := by decide +kernel
theorem dL_law_378 : decode cL_law 378 = .ok (.ifCond .eq 7, 3) := by decide +kernel
theorem dL_law_381 : decode cL_law 381 = .ok (.iconst 1, 1) := by decide +kernel
theorem dL_law_382 : decode cL_law 382 = .ok (.goto 4, 3) := by decide +kernel
theorem dL_law_385 : decode cL_law 385 = .ok (.iconst 0, 1) := by decide +kernel
theorem dL_law_386 : decode cL_law 386 = .ok (.aload_n 0, 1) := by decide +kernel
theorem dL_law_387 : decode cL_law 387 = .ok (.iload_n 3, 1) := by decide +kernel
theorem dL_law_388 : decode cL_law 388 = .ok (.iconst 2, 1) := by decide +kernel
theorem dL_law_389 : decode cL_law 389 = .ok (.iadd, 1) := by decide +kernel
theorem dL_law_390 : decode cL_law 390 = .ok (.iaload, 1) := by decide +kernel
theorem dL_law_391 : decode cL_law 391 = .ok (.aload_n 0, 1) := by decide +kernel
theorem dL_law_392 : decode cL_law 392 = .ok (.iload_n 3, 1) := by decide +kernel
theorem dL_law_393 : decode cL_law 393 = .ok (.iconst 3, 1) := by decide +kernel
theorem dL_law_394 : decode cL_law 394 = .ok (.iadd, 1) := by decide +kernel
theorem dL_law_395 : decode cL_law 395 = .ok (.iaload, 1) := by decide +kernel
theorem dL_law_396 : decode cL_law 396 = .ok (.invokevirtual 64, 3) := by decide +kernel
theorem dL_law_399 : decode cL_law 399 = .ok (.aload_n 2, 1) := by decide +kernel
theorem dL_law_400 : decode cL_law 400 = .ok (.aload_n 0, 1) := by decide +kernel
theorem dL_law_401 : decode cL_law 401 = .ok (.iload_n 3, 1) := by decide +kernel
theorem dL_law_402 : decode cL_law 402 = .ok (.iconst 1, 1) := by decide +kernel
theorem dL_law_403 : decode cL_law 403 = .ok (.iadd, 1) := by decide +kernel
theorem dL_law_404 : decode cL_law 404 = .ok (.iaload, 1) := by decide +kernel
theorem dL_law_405 : decode cL_law 405 = .ok (.ifCond .eq 7, 3) := by decide +kernel
theorem dL_law_408 : decode cL_law 408 = .ok (.iconst 1, 1) := by decide +kernel
theorem dL_law_409 : decode cL_law 409 = .ok (.goto 4, 3) := by decide +kernel
theorem dL_law_412 : decode cL_law 412 = .ok (.iconst 0, 1) := by decide +kernel
theorem dL_law_413 : decode cL_law 413 = .ok (.aload_n 0, 1) := by decide +kernel
theorem dL_law_414 : decode cL_law 414 = .ok (.iload_n 3, 1) := by decide +kernel
theorem dL_law_415 : decode cL_law 415 = .ok (.iconst 2, 1) := by decide +kernel
theorem dL_law_416 : decode cL_law 416 = .ok (.iadd, 1) := by decide +kernel
theorem dL_law_417 : decode cL_law 417 = .ok (.iaload, 1) := by decide +kernel
theorem dL_law_418 : decode cL_law 418 = .ok (.aload_n 0, 1) := by decide +kernel
theorem dL_law_419 : decode cL_law 419 = .ok (.iload_n 3, 1) := by decide +kernel
theorem dL_law_420 : decode cL_law 420 = .ok (.iconst 3, 1) := by decide +kernel
theorem dL_law_421 : decode cL_law 421 = .ok (.iadd, 1) := by decide +kernel
theorem dL_law_422 : decode cL_law 422 = .ok (.iaload, 1) := by decide +kernel
theorem dL_law_423 : decode cL_law 423 = .ok (.invokevirtual 68, 3) := by decide +kernel
theorem dL_law_426 : decode cL_law 426 = .ok (.if_icmp .eq 203, 3) := by decide +kernel
theorem dL_law_429 : decode cL_law 429 = .ok (.iconst 0, 1) := by decide +kernel
theorem dL_law_430 : decode cL_law 430 = .ok (.ireturn, 1) := by decide +kernel
theorem dL_law_431 : decode cL_law 431 = .ok (.aload_n 1, 1) := by decide +kernel
theorem dL_law_432 : decode cL_law 432 = .ok (.aload_n 0, 1) := by decide +kernel
theorem dL_law_433 : decode cL_law 433 = .ok (.iload_n 3, 1) := by decide +kernel
theorem dL_law_434 : decode cL_law 434 = .ok (.iconst 1, 1) := by decide +kernel
theorem dL_law_435 : decode cL_law 435 = .ok (.iadd, 1) := by decide +kernel
theorem dL_law_436 : decode cL_law 436 = .ok (.iaload, 1) := by decide +kernel
theorem dL_law_437 : decode cL_law 437 = .ok (.invokevirtual 69, 3) := by decide +kernel
theorem dL_law_440 : decode cL_law 440 = .ok (.aload_n 2, 1) := by decide +kernel
theorem dL_law_441 : decode cL_law 441 = .ok (.aload_n 0, 1) := by decide +kernel
theorem dL_law_442 : decode cL_law 442 = .ok (.iload_n 3, 1) := by decide +kernel
theorem dL_law_443 : decode cL_law 443 = .ok (.iconst 1, 1) := by decide +kernel
theorem dL_law_444 : decode cL_law 444 = .ok (.iadd, 1) := by decide +kernel
theorem dL_law_445 : decode cL_law 445 = .ok (.iaload, 1) := by decide +kernel
theorem dL_law_446 : decode cL_law 446 = .ok (.invokevirtual 72, 3) := by decide +kernel
theorem dL_law_449 : decode cL_law 449 = .ok (.if_icmp .eq 180, 3) := by decide +kernel
theorem dL_law_452 : decode cL_law 452 = .ok (.iconst 0, 1) := by decide +kernel
theorem dL_law_453 : decode cL_law 453 = .ok (.ireturn, 1) := by decide +kernel
theorem dL_law_454 : decode cL_law 454 = .ok (.aload_n 1, 1) := by decide +kernel
theorem dL_law_455 : decode cL_law 455 = .ok (.aload_n 0, 1) := by decide +kernel
theorem dL_law_456 : decode cL_law 456 = .ok (.iload_n 3, 1) := by decide +kernel
theorem dL_law_457 : decode cL_law 457 = .ok (.iconst 1, 1) := by decide +kernel
theorem dL_law_458 : decode cL_law 458 = .ok (.iadd, 1) := by decide +kernel
theorem dL_law_459 : decode cL_law 459 = .ok (.iaload, 1) := by decide +kernel
theorem dL_law_460 : decode cL_law 460 = .ok (.invokevirtual 73, 3) := by decide +kernel
theorem dL_law_463 : decode cL_law 463 = .ok (.aload_n 2, 1) := by decide +kernel
theorem dL_law_464 : decode cL_law 464 = .ok (.aload_n 0, 1) := by decide +kernel
theorem dL_law_465 : decode cL_law 465 = .ok (.iload_n 3, 1) := by decide +kernel
theorem dL_law_466 : decode cL_law 466 = .ok (.iconst 1, 1) := by decide +kernel
theorem dL_law_467 : decode cL_law 467 = .ok (.iadd, 1) := by decide +kernel
theorem dL_law_468 : decode cL_law 468 = .ok (.iaload, 1) := by decide +kernel
theorem dL_law_469 : decode cL_law 469 = .ok (.invokevirtual 76, 3) := by decide +kernel
theorem dL_law_472 : decode cL_law 472 = .ok (.if_icmp .eq 157, 3) := by decide +kernel
theorem dL_law_475 : decode cL_law 475 = .ok (.iconst 0, 1) := by decide +kernel
theorem dL_law_476 : decode cL_law 476 = .ok (.ireturn, 1) := by decide +kernel
theorem dL_law_477 : decode cL_law 477 = .ok (.aload_n 1, 1) := by decide +kernel
theorem dL_law_478 : decode cL_law 478 = .ok (.aload_n 0, 1) := by decide +kernel
theorem dL_law_479 : decode cL_law 479 = .ok (.iload_n 3, 1) := by decide +kernel
theorem dL_law_480 : decode cL_law 480 = .ok (.iconst 1, 1) := by decide +kernel
theorem dL_law_481 : decode cL_law 481 = .ok (.iadd, 1) := by decide +kernel
theorem dL_law_482 : decode cL_law 482 = .ok (.iaload, 1) := by decide +kernel
theorem dL_law_483 : decode cL_law 483 = .ok (.aload_n 0, 1) := by decide +kernel
theorem dL_law_484 : decode cL_law 484 = .ok (.iload_n 3, 1) := by decide +kernel
theorem dL_law_485 : decode cL_law 485 = .ok (.iconst 2, 1) := by decide +kernel
theorem dL_law_486 : decode cL_law 486 = .ok (.iadd, 1) := by decide +kernel
theorem dL_law_487 : decode cL_law 487 = .ok (.iaload, 1) := by decide +kernel
theorem dL_law_488 : decode cL_law 488 = .ok (.invokevirtual 77, 3) := by decide +kernel
theorem dL_law_491 : decode cL_law 491 = .ok (.aload_n 2, 1) := by decide +kernel
theorem dL_law_492 : decode cL_law 492 = .ok (.aload_n 0, 1) := by decide +kernel
theorem dL_law_493 : decode cL_law 493 = .ok (.iload_n 3, 1) := by decide +kernel
theorem dL_law_494 : decode cL_law 494 = .ok (.iconst 1, 1) := by decide +kernel
theorem dL_law_495 : decode cL_law 495 = .ok (.iadd, 1) := by decide +kernel
theorem dL_law_496 : decode cL_law 496 = .ok (.iaload, 1) := by decide +kernel
theorem dL_law_497 : decode cL_law 497 = .ok (.aload_n 0, 1) := by decide +kernel
theorem dL_law_498 : decode cL_law 498 = .ok (.iload_n 3, 1) := by decide +kernel
theorem dL_law_499 : decode cL_law 499 = .ok (.iconst 2, 1) := by decide +kernel
theorem dL_law_500 : decode cL_law 500 = .ok (.iadd, 1) := by decide +kernel
theorem dL_law_501 : decode cL_law 501 = .ok (.iaload, 1) := by decide +kernel
theorem dL_law_502 : decode cL_law 502 = .ok (.invokevirtual 80, 3) := by decide +kernel
theorem dL_law_505 : decode cL_law 505 = .ok (.if_icmp .eq 124, 3) := by decide +kernel
theorem dL_law_508 : decode cL_law 508 = .ok (.iconst 0, 1) := by decide +kernel
theorem dL_law_509 : decode cL_law 509 = .ok (.ireturn, 1) := by decide +kernel
theorem dL_law_510 : decode cL_law 510 = .ok (.aload_n 1, 1) := by decide +kernel
theorem dL_law_511 : decode cL_law 511 = .ok (.aload_n 0, 1) := by decide +kernel
theorem dL_law_512 : decode cL_law 512 = .ok (.iload_n 3, 1) := by decide +kernel
theorem dL_law_513 : decode cL_law 513 = .ok (.iconst 1, 1) := by decide +kernel
theorem dL_law_514 : decode cL_law 514 = .ok (.iadd, 1) := by decide +kernel
theorem dL_law_515 : decode cL_law 515 = .ok (.iaload, 1) := by decide +kernel
theorem dL_law_516 : decode cL_law 516 = .ok (.invokevirtual 81, 3) := by decide +kernel
theorem dL_law_519 : decode cL_law 519 = .ok (.aload_n 2, 1) := by decide +kernel
theorem dL_law_520 : decode cL_law 520 = .ok (.aload_n 0, 1) := by decide +kernel
theorem dL_law_521 : decode cL_law 521 = .ok (.iload_n 3, 1) := by decide +kernel
theorem dL_law_522 : decode cL_law 522 = .ok (.iconst 1, 1) := by decide +kernel
theorem dL_law_523 : decode cL_law 523 = .ok (.iadd, 1) := by decide +kernel
theorem dL_law_524 : decode cL_law 524 = .ok (.iaload, 1) := by decide +kernel
theorem dL_law_525 : decode cL_law 525 = .ok (.invokevirtual 84, 3) := by decide +kernel
theorem dL_law_528 : decode cL_law 528 = .ok (.if_icmp .eq 101, 3) := by decide +kernel
theorem dL_law_531 : decode cL_law 531 = .ok (.iconst 0, 1) := by decide +kernel
theorem dL_law_532 : decode cL_law 532 = .ok (.ireturn, 1) := by decide +kernel
theorem dL_law_533 : decode cL_law 533 = .ok (.aload_n 1, 1) := by decide +kernel
theorem dL_law_534 : decode cL_law 534 = .ok (.aload_n 0, 1) := by decide +kernel
theorem dL_law_535 : decode cL_law 535 = .ok (.iload_n 3, 1) := by decide +kernel
theorem dL_law_536 : decode cL_law 536 = .ok (.iconst 1, 1) := by decide +kernel
theorem dL_law_537 : decode cL_law 537 = .ok (.iadd, 1) := by decide +kernel
theorem dL_law_538 : decode cL_law 538 = .ok (.iaload, 1) := by decide +kernel
theorem dL_law_539 : decode cL_law 539 = .ok (.invokevirtual 85, 3) := by decide +kernel
theorem dL_law_542 : decode cL_law 542 = .ok (.aload_n 2, 1) := by decide +kernel
theorem dL_law_543 : decode cL_law 543 = .ok (.aload_n 0, 1) := by decide +kernel
theorem dL_law_544 : decode cL_law 544 = .ok (.iload_n 3, 1) := by decide +kernel
theorem dL_law_545 : decode cL_law 545 = .ok (.iconst 1, 1) := by decide +kernel
theorem dL_law_546 : decode cL_law 546 = .ok (.iadd, 1) := by decide +kernel
theorem dL_law_547 : decode cL_law 547 = .ok (.iaload, 1) := by decide +kernel
theorem dL_law_548 : decode cL_law 548 = .ok (.invokevirtual 88, 3) := by decide +kernel
theorem dL_law_551 : decode cL_law 551 = .ok (.if_icmp .eq 78, 3) := by decide +kernel
theorem dL_law_554 : decode cL_law 554 = .ok (.iconst 0, 1) := by decide +kernel
theorem dL_law_555 : decode cL_law 555 = .ok (.ireturn, 1) := by decide +kernel
theorem dL_law_556 : decode cL_law 556 = .ok (.aload_n 1, 1) := by decide +kernel
theorem dL_law_557 : decode cL_law 557 = .ok (.aload_n 0, 1) := by decide +kernel
theorem dL_law_558 : decode cL_law 558 = .ok (.iload_n 3, 1) := by decide +kernel
theorem dL_law_559 : decode cL_law 559 = .ok (.iconst 1, 1) := by decide +kernel
theorem dL_law_560 : decode cL_law 560 = .ok (.iadd, 1) := by decide +kernel
theorem dL_law_561 : decode cL_law 561 = .ok (.iaload, 1) := by decide +kernel
theorem dL_law_562 : decode cL_law 562 = .ok (.invokevirtual 89, 3) := by decide +kernel
theorem dL_law_565 : decode cL_law 565 = .ok (.aload_n 2, 1) := by decide +kernel
theorem dL_law_566 : decode cL_law 566 = .ok (.aload_n 0, 1) := by decide +kernel
theorem dL_law_567 : decode cL_law 567 = .ok (.iload_n 3, 1) := by decide +kernel
theorem dL_law_568 : decode cL_law 568 = .ok (.iconst 1, 1) := by decide +kernel
theorem dL_law_569 : decode cL_law 569 = .ok (.iadd, 1) := by decide +kernel
theorem dL_law_570 : decode cL_law 570 = .ok (.iaload, 1) := by decide +kernel
theorem dL_law_571 : decode cL_law 571 = .ok (.invokevirtual 92, 3) := by decide +kernel
theorem dL_law_574 : decode cL_law 574 = .ok (.if_icmp .eq 55, 3) := by decide +kernel
theorem dL_law_577 : decode cL_law 577 = .ok (.iconst 0, 1) := by decide +kernel
theorem dL_law_578 : decode cL_law 578 = .ok (.ireturn, 1) := by decide +kernel
theorem dL_law_579 : decode cL_law 579 = .ok (.aload_n 1, 1) := by decide +kernel
theorem dL_law_580 : decode cL_law 580 = .ok (.invokevirtual 93, 3) := by decide +kernel
theorem dL_law_583 : decode cL_law 583 = .ok (.aload_n 2, 1) := by decide +kernel
theorem dL_law_584 : decode cL_law 584 = .ok (.invokevirtual 96, 3) := by decide +kernel
theorem dL_law_587 : decode cL_law 587 = .ok (.if_icmp .eq 42, 3) := by decide +kernel
theorem dL_law_590 : decode cL_law 590 = .ok (.iconst 0, 1) := by decide +kernel
theorem dL_law_591 : decode cL_law 591 = .ok (.ireturn, 1) := by decide +kernel
theorem dL_law_592 : decode cL_law 592 = .ok (.aload_n 1, 1) := by decide +kernel
theorem dL_law_593 : decode cL_law 593 = .ok (.aload_n 0, 1) := by decide +kernel
theorem dL_law_594 : decode cL_law 594 = .ok (.iload_n 3, 1) := by decide +kernel
theorem dL_law_595 : decode cL_law 595 = .ok (.iconst 1, 1) := by decide +kernel
theorem dL_law_596 : decode cL_law 596 = .ok (.iadd, 1) := by decide +kernel
theorem dL_law_597 : decode cL_law 597 = .ok (.iaload, 1) := by decide +kernel
theorem dL_law_598 : decode cL_law 598 = .ok (.invokevirtual 97, 3) := by decide +kernel
theorem dL_law_601 : decode cL_law 601 = .ok (.aload_n 2, 1) := by decide +kernel
theorem dL_law_602 : decode cL_law 602 = .ok (.aload_n 0, 1) := by decide +kernel
theorem dL_law_603 : decode cL_law 603 = .ok (.iload_n 3, 1) := by decide +kernel
theorem dL_law_604 : decode cL_law 604 = .ok (.iconst 1, 1) := by decide +kernel
theorem dL_law_605 : decode cL_law 605 = .ok (.iadd, 1) := by decide +kernel
theorem dL_law_606 : decode cL_law 606 = .ok (.iaload, 1) := by decide +kernel
theorem dL_law_607 : decode cL_law 607 = .ok (.invokevirtual 100, 3) := by decide +kernel
theorem dL_law_610 : decode cL_law 610 = .ok (.if_icmp .eq 19, 3) := by decide +kernel
theorem dL_law_613 : decode cL_law 613 = .ok (.iconst 0, 1) := by decide +kernel
theorem dL_law_614 : decode cL_law 614 = .ok (.ireturn, 1) := by decide +kernel
theorem dL_law_615 : decode cL_law 615 = .ok (.aload_n 1, 1) := by decide +kernel
theorem dL_law_616 : decode cL_law 616 = .ok (.invokevirtual 101, 3) := by decide +kernel
theorem dL_law_619 : decode cL_law 619 = .ok (.aload_n 2, 1) := by decide +kernel
theorem dL_law_620 : decode cL_law 620 = .ok (.invokevirtual 105, 3) := by decide +kernel
theorem dL_law_623 : decode cL_law 623 = .ok (.lcmp, 1) := by decide +kernel
theorem dL_law_624 : decode cL_law 624 = .ok (.ifCond .eq 5, 3) := by decide +kernel
theorem dL_law_627 : decode cL_law 627 = .ok (.iconst 0, 1) := by decide +kernel
theorem dL_law_628 : decode cL_law 628 = .ok (.ireturn, 1) := by decide +kernel
theorem dL_law_629 : decode cL_law 629 = .ok (.iinc 3 4, 3) := by decide +kernel
theorem dL_law_632 : decode cL_law 632 = .ok (.goto (-614), 3) := by decide +kernel
theorem dL_law_635 : decode cL_law 635 = .ok (.iconst 1, 1) := by decide +kernel
theorem dL_law_636 : decode cL_law 636 = .ok (.ireturn, 1) := by decide +kernel
