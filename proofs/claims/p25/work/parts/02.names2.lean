theorem dX0_init_0 : decode cX0_init 0 = .ok (.aload_n 0, 1) := by decide +kernel
theorem dX0_init_1 : decode cX0_init 1 = .ok (.invokespecial 3, 3) := by decide +kernel
theorem dX0_init_4 : decode cX0_init 4 = .ok (.aload_n 0, 1) := by decide +kernel
theorem dX0_init_5 : decode cX0_init 5 = .ok (.iconst 5, 1) := by decide +kernel
theorem dX0_init_6 : decode cX0_init 6 = .ok (.newarray .int, 2) := by decide +kernel
theorem dX0_init_8 : decode cX0_init 8 = .ok (.putfield 9, 3) := by decide +kernel
theorem dX0_init_11 : decode cX0_init 11 = .ok (.aload_n 0, 1) := by decide +kernel
theorem dX0_init_12 : decode cX0_init 12 = .ok (.iconst (-1), 1) := by decide +kernel
theorem dX0_init_13 : decode cX0_init 13 = .ok (.putfield 15, 3) := by decide +kernel
theorem dX0_init_16 : decode cX0_init 16 = .ok (.aload_n 0, 1) := by decide +kernel
theorem dX0_init_17 : decode cX0_init 17 = .ok (.iconst (-1), 1) := by decide +kernel
theorem dX0_init_18 : decode cX0_init 18 = .ok (.putfield 19, 3) := by decide +kernel
theorem dX0_init_21 : decode cX0_init 21 = .ok (.aload_n 0, 1) := by decide +kernel
theorem dX0_init_22 : decode cX0_init 22 = .ok (.iconst (-1), 1) := by decide +kernel
theorem dX0_init_23 : decode cX0_init 23 = .ok (.putfield 22, 3) := by decide +kernel
theorem dX0_init_26 : decode cX0_init 26 = .ok (.aload_n 0, 1) := by decide +kernel
theorem dX0_init_27 : decode cX0_init 27 = .ok (.aload_n 1, 1) := by decide +kernel
theorem dX0_init_28 : decode cX0_init 28 = .ok (.putfield 25, 3) := by decide +kernel
theorem dX0_init_31 : decode cX0_init 31 = .ok (.return_, 1) := by decide +kernel
theorem dX0_fits_0 : decode cX0_fits 0 = .ok (.aload_n 0, 1) := by decide +kernel
theorem dX0_fits_1 : decode cX0_fits 1 = .ok (.getfield 29, 3) := by decide +kernel
theorem dX0_fits_4 : decode cX0_fits 4 = .ok (.ifCond .ne 23, 3) := by decide +kernel
theorem dX0_fits_7 : decode cX0_fits 7 = .ok (.aload_n 0, 1) := by decide +kernel
theorem dX0_fits_8 : decode cX0_fits 8 = .ok (.getfield 32, 3) := by decide +kernel
theorem dX0_fits_11 : decode cX0_fits 11 = .ok (.ifCond .ne 16, 3) := by decide +kernel
theorem dX0_fits_14 : decode cX0_fits 14 = .ok (.aload_n 0, 1) := by decide +kernel
theorem dX0_fits_15 : decode cX0_fits 15 = .ok (.getfield 35, 3) := by decide +kernel
theorem dX0_fits_18 : decode cX0_fits 18 = .ok (.lconst 0, 1) := by decide +kernel
theorem dX0_fits_19 : decode cX0_fits 19 = .ok (.lcmp, 1) := by decide +kernel
theorem dX0_fits_20 : decode cX0_fits 20 = .ok (.ifCond .ne 7, 3) := by decide +kernel
theorem dX0_fits_23 : decode cX0_fits 23 = .ok (.iconst 1, 1) := by decide +kernel
theorem dX0_fits_24 : decode cX0_fits 24 = .ok (.goto 4, 3) := by decide +kernel
theorem dX0_fits_27 : decode cX0_fits 27 = .ok (.iconst 0, 1) := by decide +kernel
theorem dX0_fits_28 : decode cX0_fits 28 = .ok (.ireturn, 1) := by decide +kernel
theorem dX0_finished_0 : decode cX0_finished 0 = .ok (.aload_n 0, 1) := by decide +kernel
theorem dX0_finished_1 : decode cX0_finished 1 = .ok (.getfield 39, 3) := by decide +kernel
theorem dX0_finished_4 : decode cX0_finished 4 = .ok (.ifCond .eq 14, 3) := by decide +kernel
theorem dX0_finished_7 : decode cX0_finished 7 = .ok (.aload_n 0, 1) := by decide +kernel
theorem dX0_finished_8 : decode cX0_finished 8 = .ok (.invokevirtual 43, 3) := by decide +kernel
theorem dX0_finished_11 : decode cX0_finished 11 = .ok (.ifCond .eq 7, 3) := by decide +kernel
theorem dX0_finished_14 : decode cX0_finished 14 = .ok (.iconst 1, 1) := by decide +kernel
theorem dX0_finished_15 : decode cX0_finished 15 = .ok (.goto 4, 3) := by decide +kernel
theorem dX0_finished_18 : decode cX0_finished 18 = .ok (.iconst 0, 1) := by decide +kernel
theorem dX0_finished_19 : decode cX0_finished 19 = .ok (.ireturn, 1) := by decide +kernel
theorem dX0_markOf_0 : decode cX0_markOf 0 = .ok (.aload_n 0, 1) := by decide +kernel
theorem dX0_markOf_1 : decode cX0_markOf 1 = .ok (.getfield 47, 3) := by decide +kernel
theorem dX0_markOf_4 : decode cX0_markOf 4 = .ok (.iload_n 1, 1) := by decide +kernel
theorem dX0_markOf_5 : decode cX0_markOf 5 = .ok (.lushr, 1) := by decide +kernel
theorem dX0_markOf_6 : decode cX0_markOf 6 = .ok (.lconst 1, 1) := by decide +kernel
theorem dX0_markOf_7 : decode cX0_markOf 7 = .ok (.land, 1) := by decide +kernel
theorem dX0_markOf_8 : decode cX0_markOf 8 = .ok (.lconst 0, 1) := by decide +kernel
theorem dX0_markOf_9 : decode cX0_markOf 9 = .ok (.lcmp, 1) := by decide +kernel
theorem dX0_markOf_10 : decode cX0_markOf 10 = .ok (.ifCond .eq 5, 3) := by decide +kernel
theorem dX0_markOf_13 : decode cX0_markOf 13 = .ok (.iconst 1, 1) := by decide +kernel
theorem dX0_markOf_14 : decode cX0_markOf 14 = .ok (.ireturn, 1) := by decide +kernel
theorem dX0_markOf_15 : decode cX0_markOf 15 = .ok (.aload_n 0, 1) := by decide +kernel
theorem dX0_markOf_16 : decode cX0_markOf 16 = .ok (.getfield 50, 3) := by decide +kernel
theorem dX0_markOf_19 : decode cX0_markOf 19 = .ok (.iload_n 1, 1) := by decide +kernel
theorem dX0_markOf_20 : decode cX0_markOf 20 = .ok (.lushr, 1) := by decide +kernel
theorem dX0_markOf_21 : decode cX0_markOf 21 = .ok (.lconst 1, 1) := by decide +kernel
theorem dX0_markOf_22 : decode cX0_markOf 22 = .ok (.land, 1) := by decide +kernel
theorem dX0_markOf_23 : decode cX0_markOf 23 = .ok (.lconst 0, 1) := by decide +kernel
theorem dX0_markOf_24 : decode cX0_markOf 24 = .ok (.lcmp, 1) := by decide +kernel
theorem dX0_markOf_25 : decode cX0_markOf 25 = .ok (.ifCond .eq 7, 3) := by decide +kernel
theorem dX0_markOf_28 : decode cX0_markOf 28 = .ok (.iconst 0, 1) := by decide +kernel
theorem dX0_markOf_29 : decode cX0_markOf 29 = .ok (.goto 4, 3) := by decide +kernel
theorem dX0_markOf_32 : decode cX0_markOf 32 = .ok (.iconst 2, 1) := by decide +kernel
theorem dX0_markOf_33 : decode cX0_markOf 33 = .ok (.ireturn, 1) := by decide +kernel
theorem dX0_begin_0 : decode cX0_begin 0 = .ok (.aload_n 0, 1) := by decide +kernel
theorem dX0_begin_1 : decode cX0_begin 1 = .ok (.lload_n 1, 1) := by decide +kernel
theorem dX0_begin_2 : decode cX0_begin 2 = .ok (.putfield 47, 3) := by decide +kernel
theorem dX0_begin_5 : decode cX0_begin 5 = .ok (.aload_n 0, 1) := by decide +kernel
theorem dX0_begin_6 : decode cX0_begin 6 = .ok (.lload_n 3, 1) := by decide +kernel
theorem dX0_begin_7 : decode cX0_begin 7 = .ok (.putfield 50, 3) := by decide +kernel
theorem dX0_begin_10 : decode cX0_begin 10 = .ok (.aload_n 0, 1) := by decide +kernel
theorem dX0_begin_11 : decode cX0_begin 11 = .ok (.iconst 0, 1) := by decide +kernel
theorem dX0_begin_12 : decode cX0_begin 12 = .ok (.putfield 29, 3) := by decide +kernel
theorem dX0_begin_15 : decode cX0_begin 15 = .ok (.aload_n 0, 1) := by decide +kernel
theorem dX0_begin_16 : decode cX0_begin 16 = .ok (.iconst 0, 1) := by decide +kernel
theorem dX0_begin_17 : decode cX0_begin 17 = .ok (.putfield 53, 3) := by decide +kernel
theorem dX0_begin_20 : decode cX0_begin 20 = .ok (.aload_n 0, 1) := by decide +kernel
theorem dX0_begin_21 : decode cX0_begin 21 = .ok (.iconst 0, 1) := by decide +kernel
theorem dX0_begin_22 : decode cX0_begin 22 = .ok (.putfield 32, 3) := by decide +kernel
theorem dX0_begin_25 : decode cX0_begin 25 = .ok (.aload_n 0, 1) := by decide +kernel
theorem dX0_begin_26 : decode cX0_begin 26 = .ok (.iconst 0, 1) := by decide +kernel
theorem dX0_begin_27 : decode cX0_begin 27 = .ok (.putfield 56, 3) := by decide +kernel
theorem dX0_begin_30 : decode cX0_begin 30 = .ok (.iconst 0, 1) := by decide +kernel
theorem dX0_begin_31 : decode cX0_begin 31 = .ok (.istore 5, 2) := by decide +kernel
theorem dX0_begin_33 : decode cX0_begin 33 = .ok (.iload 5, 2) := by decide +kernel
theorem dX0_begin_35 : decode cX0_begin 35 = .ok (.iconst 5, 1) := by decide +kernel
theorem dX0_begin_36 : decode cX0_begin 36 = .ok (.if_icmp .ge 17, 3) := by decide +kernel
theorem dX0_begin_39 : decode cX0_begin 39 = .ok (.aload_n 0, 1) := by decide +kernel
theorem dX0_begin_40 : decode cX0_begin 40 = .ok (.getfield 9, 3) := by decide +kernel
theorem dX0_begin_43 : decode cX0_begin 43 = .ok (.iload 5, 2) := by decide +kernel
theorem dX0_begin_45 : decode cX0_begin 45 = .ok (.iconst 0, 1) := by decide +kernel
theorem dX0_begin_46 : decode cX0_begin 46 = .ok (.iastore, 1) := by decide +kernel
theorem dX0_begin_47 : decode cX0_begin 47 = .ok (.iinc 5 1, 3) := by decide +kernel
theorem dX0_begin_50 : decode cX0_begin 50 = .ok (.goto (-17), 3) := by decide +kernel
theorem dX0_begin_53 : decode cX0_begin 53 = .ok (.iconst 0, 1) := by decide +kernel
theorem dX0_begin_54 : decode cX0_begin 54 = .ok (.istore 5, 2) := by decide +kernel
theorem dX0_begin_56 : decode cX0_begin 56 = .ok (.iload 5, 2) := by decide +kernel
theorem dX0_begin_58 : decode cX0_begin 58 = .ok (.aload_n 0, 1) := by decide +kernel
theorem dX0_begin_59 : decode cX0_begin 59 = .ok (.getfield 25, 3) := by decide +kernel
theorem dX0_begin_62 : decode cX0_begin 62 = .ok (.getfield 59, 3) := by decide +kernel
theorem dX0_begin_65 : decode cX0_begin 65 = .ok (.if_icmp .ge 15, 3) := by decide +kernel
theorem dX0_begin_68 : decode cX0_begin 68 = .ok (.aload_n 0, 1) := by decide +kernel
theorem dX0_begin_69 : decode cX0_begin 69 = .ok (.iload 5, 2) := by decide +kernel
theorem dX0_begin_71 : decode cX0_begin 71 = .ok (.invokevirtual 64, 3) := by decide +kernel
theorem dX0_begin_74 : decode cX0_begin 74 = .ok (.iinc 5 1, 3) := by decide +kernel
theorem dX0_begin_77 : decode cX0_begin 77 = .ok (.goto (-21), 3) := by decide +kernel
theorem dX0_begin_80 : decode cX0_begin 80 = .ok (.iconst 0, 1) := by decide +kernel
theorem dX0_begin_81 : decode cX0_begin 81 = .ok (.istore 5, 2) := by decide +kernel
theorem dX0_begin_83 : decode cX0_begin 83 = .ok (.iload 5, 2) := by decide +kernel
theorem dX0_begin_85 : decode cX0_begin 85 = .ok (.aload_n 0, 1) := by decide +kernel
theorem dX0_begin_86 : decode cX0_begin 86 = .ok (.getfield 25, 3) := by decide +kernel
theorem dX0_begin_89 : decode cX0_begin 89 = .ok (.getfield 68, 3) := by decide +kernel
theorem dX0_begin_92 : decode cX0_begin 92 = .ok (.if_icmp .ge 15, 3) := by decide +kernel
theorem dX0_begin_95 : decode cX0_begin 95 = .ok (.aload_n 0, 1) := by decide +kernel
theorem dX0_begin_96 : decode cX0_begin 96 = .ok (.iload 5, 2) := by decide +kernel
theorem dX0_begin_98 : decode cX0_begin 98 = .ok (.invokevirtual 71, 3) := by decide +kernel
theorem dX0_begin_101 : decode cX0_begin 101 = .ok (.iinc 5 1, 3) := by decide +kernel
theorem dX0_begin_104 : decode cX0_begin 104 = .ok (.goto (-21), 3) := by decide +kernel
theorem dX0_begin_107 : decode cX0_begin 107 = .ok (.aload_n 0, 1) := by decide +kernel
theorem dX0_begin_108 : decode cX0_begin 108 = .ok (.invokevirtual 74, 3) := by decide +kernel
theorem dX0_begin_111 : decode cX0_begin 111 = .ok (.return_, 1) := by decide +kernel
theorem dX0_copyFrom_0 : decode cX0_copyFrom 0 = .ok (.aload_n 0, 1) := by decide +kernel
theorem dX0_copyFrom_1 : decode cX0_copyFrom 1 = .ok (.aload_n 1, 1) := by decide +kernel
theorem dX0_copyFrom_2 : decode cX0_copyFrom 2 = .ok (.getfield 47, 3) := by decide +kernel
theorem dX0_copyFrom_5 : decode cX0_copyFrom 5 = .ok (.putfield 47, 3) := by decide +kernel
theorem dX0_copyFrom_8 : decode cX0_copyFrom 8 = .ok (.aload_n 0, 1) := by decide +kernel
theorem dX0_copyFrom_9 : decode cX0_copyFrom 9 = .ok (.aload_n 1, 1) := by decide +kernel
theorem dX0_copyFrom_10 : decode cX0_copyFrom 10 = .ok (.getfield 50, 3) := by decide +kernel
theorem dX0_copyFrom_13 : decode cX0_copyFrom 13 = .ok (.putfield 50, 3) := by decide +kernel
theorem dX0_copyFrom_16 : decode cX0_copyFrom 16 = .ok (.aload_n 0, 1) := by decide +kernel
theorem dX0_copyFrom_17 : decode cX0_copyFrom 17 = .ok (.aload_n 1, 1) := by decide +kernel
theorem dX0_copyFrom_18 : decode cX0_copyFrom 18 = .ok (.getfield 29, 3) := by decide +kernel
theorem dX0_copyFrom_21 : decode cX0_copyFrom 21 = .ok (.putfield 29, 3) := by decide +kernel
theorem dX0_copyFrom_24 : decode cX0_copyFrom 24 = .ok (.aload_n 0, 1) := by decide +kernel
theorem dX0_copyFrom_25 : decode cX0_copyFrom 25 = .ok (.aload_n 1, 1) := by decide +kernel
theorem dX0_copyFrom_26 : decode cX0_copyFrom 26 = .ok (.getfield 53, 3) := by decide +kernel
theorem dX0_copyFrom_29 : decode cX0_copyFrom 29 = .ok (.putfield 53, 3) := by decide +kernel
theorem dX0_copyFrom_32 : decode cX0_copyFrom 32 = .ok (.aload_n 0, 1) := by decide +kernel
theorem dX0_copyFrom_33 : decode cX0_copyFrom 33 = .ok (.aload_n 1, 1) := by decide +kernel
theorem dX0_copyFrom_34 : decode cX0_copyFrom 34 = .ok (.getfield 32, 3) := by decide +kernel
theorem dX0_copyFrom_37 : decode cX0_copyFrom 37 = .ok (.putfield 32, 3) := by decide +kernel
theorem dX0_copyFrom_40 : decode cX0_copyFrom 40 = .ok (.aload_n 0, 1) := by decide +kernel
theorem dX0_copyFrom_41 : decode cX0_copyFrom 41 = .ok (.aload_n 1, 1) := by decide +kernel
theorem dX0_copyFrom_42 : decode cX0_copyFrom 42 = .ok (.getfield 56, 3) := by decide +kernel
theorem dX0_copyFrom_45 : decode cX0_copyFrom 45 = .ok (.putfield 56, 3) := by decide +kernel
theorem dX0_copyFrom_48 : decode cX0_copyFrom 48 = .ok (.aload_n 0, 1) := by decide +kernel
theorem dX0_copyFrom_49 : decode cX0_copyFrom 49 = .ok (.aload_n 1, 1) := by decide +kernel
theorem dX0_copyFrom_50 : decode cX0_copyFrom 50 = .ok (.getfield 35, 3) := by decide +kernel
theorem dX0_copyFrom_53 : decode cX0_copyFrom 53 = .ok (.putfield 35, 3) := by decide +kernel
theorem dX0_copyFrom_56 : decode cX0_copyFrom 56 = .ok (.aload_n 0, 1) := by decide +kernel
theorem dX0_copyFrom_57 : decode cX0_copyFrom 57 = .ok (.aload_n 1, 1) := by decide +kernel
theorem dX0_copyFrom_58 : decode cX0_copyFrom 58 = .ok (.getfield 39, 3) := by decide +kernel
theorem dX0_copyFrom_61 : decode cX0_copyFrom 61 = .ok (.putfield 39, 3) := by decide +kernel
theorem dX0_copyFrom_64 : decode cX0_copyFrom 64 = .ok (.iconst 0, 1) := by decide +kernel
theorem dX0_copyFrom_65 : decode cX0_copyFrom 65 = .ok (.istore_n 2, 1) := by decide +kernel
theorem dX0_copyFrom_66 : decode cX0_copyFrom 66 = .ok (.iload_n 2, 1) := by decide +kernel
theorem dX0_copyFrom_67 : decode cX0_copyFrom 67 = .ok (.iconst 5, 1) := by decide +kernel
theorem dX0_copyFrom_68 : decode cX0_copyFrom 68 = .ok (.if_icmp .ge 21, 3) := by decide +kernel
theorem dX0_copyFrom_71 : decode cX0_copyFrom 71 = .ok (.aload_n 0, 1) := by decide +kernel
theorem dX0_copyFrom_72 : decode cX0_copyFrom 72 = .ok (.getfield 9, 3) := by decide +kernel
theorem dX0_copyFrom_75 : decode cX0_copyFrom 75 = .ok (.iload_n 2, 1) := by decide +kernel
theorem dX0_copyFrom_76 : decode cX0_copyFrom 76 = .ok (.aload_n 1, 1) := by decide +kernel
theorem dX0_copyFrom_77 : decode cX0_copyFrom 77 = .ok (.getfield 9, 3) := by decide +kernel
theorem dX0_copyFrom_80 : decode cX0_copyFrom 80 = .ok (.iload_n 2, 1) := by decide +kernel
theorem dX0_copyFrom_81 : decode cX0_copyFrom 81 = .ok (.iaload, 1) := by decide +kernel
theorem dX0_copyFrom_82 : decode cX0_copyFrom 82 = .ok (.iastore, 1) := by decide +kernel
theorem dX0_copyFrom_83 : decode cX0_copyFrom 83 = .ok (.iinc 2 1, 3) := by decide +kernel
theorem dX0_copyFrom_86 : decode cX0_copyFrom 86 = .ok (.goto (-20), 3) := by decide +kernel
theorem dX0_copyFrom_89 : decode cX0_copyFrom 89 = .ok (.return_, 1) := by decide +kernel
theorem dX0_settleEdge_0 : decode cX0_settleEdge 0 = .ok (.aload_n 0, 1) := by decide +kernel
theorem dX0_settleEdge_1 : decode cX0_settleEdge 1 = .ok (.getfield 25, 3) := by decide +kernel
theorem dX0_settleEdge_4 : decode cX0_settleEdge 4 = .ok (.iload_n 1, 1) := by decide +kernel
theorem dX0_settleEdge_5 : decode cX0_settleEdge 5 = .ok (.invokevirtual 77, 3) := by decide +kernel
theorem dX0_settleEdge_8 : decode cX0_settleEdge 8 = .ok (.ifCond .ne 4, 3) := by decide +kernel
theorem dX0_settleEdge_11 : decode cX0_settleEdge 11 = .ok (.return_, 1) := by decide +kernel
theorem dX0_settleEdge_12 : decode cX0_settleEdge 12 = .ok (.lconst 1, 1) := by decide +kernel
theorem dX0_settleEdge_13 : decode cX0_settleEdge 13 = .ok (.iload_n 1, 1) := by decide +kernel
theorem dX0_settleEdge_14 : decode cX0_settleEdge 14 = .ok (.lshl, 1) := by decide +kernel
theorem dX0_settleEdge_15 : decode cX0_settleEdge 15 = .ok (.lstore_n 3, 1) := by decide +kernel
theorem dX0_settleEdge_16 : decode cX0_settleEdge 16 = .ok (.aload_n 0, 1) := by decide +kernel
theorem dX0_settleEdge_17 : decode cX0_settleEdge 17 = .ok (.dup, 1) := by decide +kernel
theorem dX0_settleEdge_18 : decode cX0_settleEdge 18 = .ok (.getfield 50, 3) := by decide +kernel
theorem dX0_settleEdge_21 : decode cX0_settleEdge 21 = .ok (.lload_n 3, 1) := by decide +kernel
theorem dX0_settleEdge_22 : decode cX0_settleEdge 22 = .ok (.ldc2_w 81, 3) := by decide +kernel
theorem dX0_settleEdge_25 : decode cX0_settleEdge 25 = .ok (.lxor, 1) := by decide +kernel
theorem dX0_settleEdge_26 : decode cX0_settleEdge 26 = .ok (.land, 1) := by decide +kernel
theorem dX0_settleEdge_27 : decode cX0_settleEdge 27 = .ok (.putfield 50, 3) := by decide +kernel
theorem dX0_settleEdge_30 : decode cX0_settleEdge 30 = .ok (.iload_n 2, 1) := by decide +kernel
theorem dX0_settleEdge_31 : decode cX0_settleEdge 31 = .ok (.iconst 1, 1) := by decide +kernel
theorem dX0_settleEdge_32 : decode cX0_settleEdge 32 = .ok (.if_icmp .ne 13, 3) := by decide +kernel
theorem dX0_settleEdge_35 : decode cX0_settleEdge 35 = .ok (.aload_n 0, 1) := by decide +kernel
theorem dX0_settleEdge_36 : decode cX0_settleEdge 36 = .ok (.dup, 1) := by decide +kernel
theorem dX0_settleEdge_37 : decode cX0_settleEdge 37 = .ok (.getfield 47, 3) := by decide +kernel
theorem dX0_settleEdge_40 : decode cX0_settleEdge 40 = .ok (.lload_n 3, 1) := by decide +kernel
theorem dX0_settleEdge_41 : decode cX0_settleEdge 41 = .ok (.lor, 1) := by decide +kernel
theorem dX0_settleEdge_42 : decode cX0_settleEdge 42 = .ok (.putfield 47, 3) := by decide +kernel
theorem dX0_settleEdge_45 : decode cX0_settleEdge 45 = .ok (.aload_n 0, 1) := by decide +kernel
theorem dX0_settleEdge_46 : decode cX0_settleEdge 46 = .ok (.aload_n 0, 1) := by decide +kernel
theorem dX0_settleEdge_47 : decode cX0_settleEdge 47 = .ok (.getfield 25, 3) := by decide +kernel
theorem dX0_settleEdge_50 : decode cX0_settleEdge 50 = .ok (.getfield 83, 3) := by decide +kernel
theorem dX0_settleEdge_53 : decode cX0_settleEdge 53 = .ok (.iconst 2, 1) := by decide +kernel
theorem dX0_settleEdge_54 : decode cX0_settleEdge 54 = .ok (.iload_n 1, 1) := by decide +kernel
theorem dX0_settleEdge_55 : decode cX0_settleEdge 55 = .ok (.imul, 1) := by decide +kernel
theorem dX0_settleEdge_56 : decode cX0_settleEdge 56 = .ok (.iaload, 1) := by decide +kernel
theorem dX0_settleEdge_57 : decode cX0_settleEdge 57 = .ok (.invokevirtual 64, 3) := by decide +kernel
theorem dX0_settleEdge_60 : decode cX0_settleEdge 60 = .ok (.aload_n 0, 1) := by decide +kernel
theorem dX0_settleEdge_61 : decode cX0_settleEdge 61 = .ok (.aload_n 0, 1) := by decide +kernel
theorem dX0_settleEdge_62 : decode cX0_settleEdge 62 = .ok (.getfield 25, 3) := by decide +kernel
theorem dX0_settleEdge_65 : decode cX0_settleEdge 65 = .ok (.getfield 83, 3) := by decide +kernel
theorem dX0_settleEdge_68 : decode cX0_settleEdge 68 = .ok (.iconst 2, 1) := by decide +kernel
theorem dX0_settleEdge_69 : decode cX0_settleEdge 69 = .ok (.iload_n 1, 1) := by decide +kernel
theorem dX0_settleEdge_70 : decode cX0_settleEdge 70 = .ok (.imul, 1) := by decide +kernel
theorem dX0_settleEdge_71 : decode cX0_settleEdge 71 = .ok (.iconst 1, 1) := by decide +kernel
theorem dX0_settleEdge_72 : decode cX0_settleEdge 72 = .ok (.iadd, 1) := by decide +kernel
theorem dX0_settleEdge_73 : decode cX0_settleEdge 73 = .ok (.iaload, 1) := by decide +kernel
theorem dX0_settleEdge_74 : decode cX0_settleEdge 74 = .ok (.invokevirtual 64, 3) := by decide +kernel
theorem dX0_settleEdge_77 : decode cX0_settleEdge 77 = .ok (.aload_n 0, 1) := by decide +kernel
theorem dX0_settleEdge_78 : decode cX0_settleEdge 78 = .ok (.aload_n 0, 1) := by decide +kernel
theorem dX0_settleEdge_79 : decode cX0_settleEdge 79 = .ok (.getfield 25, 3) := by decide +kernel
theorem dX0_settleEdge_82 : decode cX0_settleEdge 82 = .ok (.getfield 86, 3) := by decide +kernel
theorem dX0_settleEdge_85 : decode cX0_settleEdge 85 = .ok (.iconst 2, 1) := by decide +kernel
theorem dX0_settleEdge_86 : decode cX0_settleEdge 86 = .ok (.iload_n 1, 1) := by decide +kernel
theorem dX0_settleEdge_87 : decode cX0_settleEdge 87 = .ok (.imul, 1) := by decide +kernel
theorem dX0_settleEdge_88 : decode cX0_settleEdge 88 = .ok (.iaload, 1) := by decide +kernel
theorem dX0_settleEdge_89 : decode cX0_settleEdge 89 = .ok (.invokevirtual 71, 3) := by decide +kernel
theorem dX0_settleEdge_92 : decode cX0_settleEdge 92 = .ok (.aload_n 0, 1) := by decide +kernel
theorem dX0_settleEdge_93 : decode cX0_settleEdge 93 = .ok (.aload_n 0, 1) := by decide +kernel
theorem dX0_settleEdge_94 : decode cX0_settleEdge 94 = .ok (.getfield 25, 3) := by decide +kernel
theorem dX0_settleEdge_97 : decode cX0_settleEdge 97 = .ok (.getfield 86, 3) := by decide +kernel
theorem dX0_settleEdge_100 : decode cX0_settleEdge 100 = .ok (.iconst 2, 1) := by decide +kernel
theorem dX0_settleEdge_101 : decode cX0_settleEdge 101 = .ok (.iload_n 1, 1) := by decide +kernel
theorem dX0_settleEdge_102 : decode cX0_settleEdge 102 = .ok (.imul, 1) := by decide +kernel
theorem dX0_settleEdge_103 : decode cX0_settleEdge 103 = .ok (.iconst 1, 1) := by decide +kernel
theorem dX0_settleEdge_104 : decode cX0_settleEdge 104 = .ok (.iadd, 1) := by decide +kernel
theorem dX0_settleEdge_105 : decode cX0_settleEdge 105 = .ok (.iaload, 1) := by decide +kernel
theorem dX0_settleEdge_106 : decode cX0_settleEdge 106 = .ok (.invokevirtual 71, 3) := by decide +kernel
theorem dX0_settleEdge_109 : decode cX0_settleEdge 109 = .ok (.iload_n 2, 1) := by decide +kernel
theorem dX0_settleEdge_110 : decode cX0_settleEdge 110 = .ok (.iconst 1, 1) := by decide +kernel
theorem dX0_settleEdge_111 : decode cX0_settleEdge 111 = .ok (.if_icmp .ne 12, 3) := by decide +kernel
theorem dX0_settleEdge_114 : decode cX0_settleEdge 114 = .ok (.aload_n 0, 1) := by decide +kernel
theorem dX0_settleEdge_115 : decode cX0_settleEdge 115 = .ok (.aload_n 0, 1) := by decide +kernel
theorem dX0_settleEdge_116 : decode cX0_settleEdge 116 = .ok (.lload_n 3, 1) := by decide +kernel
theorem dX0_settleEdge_117 : decode cX0_settleEdge 117 = .ok (.invokevirtual 89, 3) := by decide +kernel
theorem dX0_settleEdge_120 : decode cX0_settleEdge 120 = .ok (.invokevirtual 93, 3) := by decide +kernel
theorem dX0_settleEdge_123 : decode cX0_settleEdge 123 = .ok (.return_, 1) := by decide +kernel
theorem dX0_lookAtCell_0 : decode cX0_lookAtCell 0 = .ok (.aload_n 0, 1) := by decide +kernel
theorem dX0_lookAtCell_1 : decode cX0_lookAtCell 1 = .ok (.getfield 25, 3) := by decide +kernel
theorem dX0_lookAtCell_4 : decode cX0_lookAtCell 4 = .ok (.iload_n 1, 1) := by decide +kernel
theorem dX0_lookAtCell_5 : decode cX0_lookAtCell 5 = .ok (.invokevirtual 97, 3) := by decide +kernel
theorem dX0_lookAtCell_8 : decode cX0_lookAtCell 8 = .ok (.ifCond .eq 16, 3) := by decide +kernel
theorem dX0_lookAtCell_11 : decode cX0_lookAtCell 11 = .ok (.aload_n 0, 1) := by decide +kernel
theorem dX0_lookAtCell_12 : decode cX0_lookAtCell 12 = .ok (.getfield 25, 3) := by decide +kernel
theorem dX0_lookAtCell_15 : decode cX0_lookAtCell 15 = .ok (.getfield 100, 3) := by decide +kernel
theorem dX0_lookAtCell_18 : decode cX0_lookAtCell 18 = .ok (.iload_n 1, 1) := by decide +kernel
theorem dX0_lookAtCell_19 : decode cX0_lookAtCell 19 = .ok (.iaload, 1) := by decide +kernel
theorem dX0_lookAtCell_20 : decode cX0_lookAtCell 20 = .ok (.iconst (-1), 1) := by decide +kernel
theorem dX0_lookAtCell_21 : decode cX0_lookAtCell 21 = .ok (.if_icmp .ne 4, 3) := by decide +kernel
theorem dX0_lookAtCell_24 : decode cX0_lookAtCell 24 = .ok (.return_, 1) := by decide +kernel
theorem dX0_lookAtCell_25 : decode cX0_lookAtCell 25 = .ok (.aload_n 0, 1) := by decide +kernel
theorem dX0_lookAtCell_26 : decode cX0_lookAtCell 26 = .ok (.getfield 25, 3) := by decide +kernel
theorem dX0_lookAtCell_29 : decode cX0_lookAtCell 29 = .ok (.getfield 100, 3) := by decide +kernel
theorem dX0_lookAtCell_32 : decode cX0_lookAtCell 32 = .ok (.iload_n 1, 1) := by decide +kernel
theorem dX0_lookAtCell_33 : decode cX0_lookAtCell 33 = .ok (.iaload, 1) := by decide +kernel
theorem dX0_lookAtCell_34 : decode cX0_lookAtCell 34 = .ok (.istore_n 2, 1) := by decide +kernel
theorem dX0_lookAtCell_35 : decode cX0_lookAtCell 35 = .ok (.aload_n 0, 1) := by decide +kernel
theorem dX0_lookAtCell_36 : decode cX0_lookAtCell 36 = .ok (.getfield 25, 3) := by decide +kernel
theorem dX0_lookAtCell_39 : decode cX0_lookAtCell 39 = .ok (.getfield 103, 3) := by decide +kernel
theorem dX0_lookAtCell_42 : decode cX0_lookAtCell 42 = .ok (.iload_n 1, 1) := by decide +kernel
theorem dX0_lookAtCell_43 : decode cX0_lookAtCell 43 = .ok (.laload, 1) := by decide +kernel
theorem dX0_lookAtCell_44 : decode cX0_lookAtCell 44 = .ok (.aload_n 0, 1) := by decide +kernel
theorem dX0_lookAtCell_45 : decode cX0_lookAtCell 45 = .ok (.getfield 47, 3) := by decide +kernel
theorem dX0_lookAtCell_48 : decode cX0_lookAtCell 48 = .ok (.land, 1) := by decide +kernel
theorem dX0_lookAtCell_49 : decode cX0_lookAtCell 49 = .ok (.invokestatic 107, 3) := by decide +kernel
theorem dX0_lookAtCell_52 : decode cX0_lookAtCell 52 = .ok (.istore_n 3, 1) := by decide +kernel
theorem dX0_lookAtCell_53 : decode cX0_lookAtCell 53 = .ok (.aload_n 0, 1) := by decide +kernel
theorem dX0_lookAtCell_54 : decode cX0_lookAtCell 54 = .ok (.getfield 25, 3) := by decide +kernel
theorem dX0_lookAtCell_57 : decode cX0_lookAtCell 57 = .ok (.getfield 103, 3) := by decide +kernel
theorem dX0_lookAtCell_60 : decode cX0_lookAtCell 60 = .ok (.iload_n 1, 1) := by decide +kernel
theorem dX0_lookAtCell_61 : decode cX0_lookAtCell 61 = .ok (.laload, 1) := by decide +kernel
theorem dX0_lookAtCell_62 : decode cX0_lookAtCell 62 = .ok (.aload_n 0, 1) := by decide +kernel
theorem dX0_lookAtCell_63 : decode cX0_lookAtCell 63 = .ok (.getfield 50, 3) := by decide +kernel
theorem dX0_lookAtCell_66 : decode cX0_lookAtCell 66 = .ok (.land, 1) := by decide +kernel
theorem dX0_lookAtCell_67 : decode cX0_lookAtCell 67 = .ok (.invokestatic 107, 3) := by decide +kernel
theorem dX0_lookAtCell_70 : decode cX0_lookAtCell 70 = .ok (.istore 4, 2) := by decide +kernel
theorem dX0_lookAtCell_72 : decode cX0_lookAtCell 72 = .ok (.aload_n 0, 1) := by decide +kernel
theorem dX0_lookAtCell_73 : decode cX0_lookAtCell 73 = .ok (.aload_n 0, 1) := by decide +kernel
theorem dX0_lookAtCell_74 : decode cX0_lookAtCell 74 = .ok (.getfield 29, 3) := by decide +kernel
theorem dX0_lookAtCell_77 : decode cX0_lookAtCell 77 = .ok (.iload_n 1, 1) := by decide +kernel
theorem dX0_lookAtCell_78 : decode cX0_lookAtCell 78 = .ok (.iload_n 3, 1) := by decide +kernel
theorem dX0_lookAtCell_79 : decode cX0_lookAtCell 79 = .ok (.iload_n 2, 1) := by decide +kernel
theorem dX0_lookAtCell_80 : decode cX0_lookAtCell 80 = .ok (.if_icmp .gt 11, 3) := by decide +kernel
theorem dX0_lookAtCell_83 : decode cX0_lookAtCell 83 = .ok (.iload_n 3, 1) := by decide +kernel
theorem dX0_lookAtCell_84 : decode cX0_lookAtCell 84 = .ok (.iload 4, 2) := by decide +kernel
theorem dX0_lookAtCell_86 : decode cX0_lookAtCell 86 = .ok (.iadd, 1) := by decide +kernel
theorem dX0_lookAtCell_87 : decode cX0_lookAtCell 87 = .ok (.iload_n 2, 1) := by decide +kernel
theorem dX0_lookAtCell_88 : decode cX0_lookAtCell 88 = .ok (.if_icmp .ge 7, 3) := by decide +kernel
theorem dX0_lookAtCell_91 : decode cX0_lookAtCell 91 = .ok (.iconst 1, 1) := by decide +kernel
theorem dX0_lookAtCell_92 : decode cX0_lookAtCell 92 = .ok (.goto 4, 3) := by decide +kernel
theorem dX0_lookAtCell_95 : decode cX0_lookAtCell 95 = .ok (.iconst 0, 1) := by decide +kernel
theorem dX0_lookAtCell_96 : decode cX0_lookAtCell 96 = .ok (.invokestatic 113, 3) := by decide +kernel
theorem dX0_lookAtCell_99 : decode cX0_lookAtCell 99 = .ok (.putfield 29, 3) := by decide +kernel
theorem dX0_lookAtCell_102 : decode cX0_lookAtCell 102 = .ok (.aload_n 0, 1) := by decide +kernel
theorem dX0_lookAtCell_103 : decode cX0_lookAtCell 103 = .ok (.aload_n 0, 1) := by decide +kernel
theorem dX0_lookAtCell_104 : decode cX0_lookAtCell 104 = .ok (.getfield 53, 3) := by decide +kernel
theorem dX0_lookAtCell_107 : decode cX0_lookAtCell 107 = .ok (.iload_n 1, 1) := by decide +kernel
theorem dX0_lookAtCell_108 : decode cX0_lookAtCell 108 = .ok (.iload_n 3, 1) := by decide +kernel
theorem dX0_lookAtCell_109 : decode cX0_lookAtCell 109 = .ok (.iload_n 2, 1) := by decide +kernel
theorem dX0_lookAtCell_110 : decode cX0_lookAtCell 110 = .ok (.if_icmp .eq 7, 3) := by decide +kernel
theorem dX0_lookAtCell_113 : decode cX0_lookAtCell 113 = .ok (.iconst 1, 1) := by decide +kernel
theorem dX0_lookAtCell_114 : decode cX0_lookAtCell 114 = .ok (.goto 4, 3) := by decide +kernel
theorem dX0_lookAtCell_117 : decode cX0_lookAtCell 117 = .ok (.iconst 0, 1) := by decide +kernel
theorem dX0_lookAtCell_118 : decode cX0_lookAtCell 118 = .ok (.invokestatic 113, 3) := by decide +kernel
theorem dX0_lookAtCell_121 : decode cX0_lookAtCell 121 = .ok (.putfield 53, 3) := by decide +kernel
theorem dX0_lookAtCell_124 : decode cX0_lookAtCell 124 = .ok (.aload_n 0, 1) := by decide +kernel
theorem dX0_lookAtCell_125 : decode cX0_lookAtCell 125 = .ok (.getfield 9, 3) := by decide +kernel
theorem dX0_lookAtCell_128 : decode cX0_lookAtCell 128 = .ok (.iconst 0, 1) := by decide +kernel
theorem dX0_lookAtCell_129 : decode cX0_lookAtCell 129 = .ok (.aload_n 0, 1) := by decide +kernel
theorem dX0_lookAtCell_130 : decode cX0_lookAtCell 130 = .ok (.getfield 9, 3) := by decide +kernel
theorem dX0_lookAtCell_133 : decode cX0_lookAtCell 133 = .ok (.iconst 0, 1) := by decide +kernel
theorem dX0_lookAtCell_134 : decode cX0_lookAtCell 134 = .ok (.iaload, 1) := by decide +kernel
theorem dX0_lookAtCell_135 : decode cX0_lookAtCell 135 = .ok (.iload_n 1, 1) := by decide +kernel
theorem dX0_lookAtCell_136 : decode cX0_lookAtCell 136 = .ok (.iload 4, 2) := by decide +kernel
theorem dX0_lookAtCell_138 : decode cX0_lookAtCell 138 = .ok (.ifCond .le 12, 3) := by decide +kernel
theorem dX0_lookAtCell_141 : decode cX0_lookAtCell 141 = .ok (.iload_n 3, 1) := by decide +kernel
theorem dX0_lookAtCell_142 : decode cX0_lookAtCell 142 = .ok (.iload_n 2, 1) := by decide +kernel
theorem dX0_lookAtCell_143 : decode cX0_lookAtCell 143 = .ok (.if_icmp .ne 7, 3) := by decide +kernel
theorem dX0_lookAtCell_146 : decode cX0_lookAtCell 146 = .ok (.iconst 1, 1) := by decide +kernel
theorem dX0_lookAtCell_147 : decode cX0_lookAtCell 147 = .ok (.goto 4, 3) := by decide +kernel
theorem dX0_lookAtCell_150 : decode cX0_lookAtCell 150 = .ok (.iconst 0, 1) := by decide +kernel
theorem dX0_lookAtCell_151 : decode cX0_lookAtCell 151 = .ok (.invokestatic 113, 3) := by decide +kernel
theorem dX0_lookAtCell_154 : decode cX0_lookAtCell 154 = .ok (.iastore, 1) := by decide +kernel
theorem dX0_lookAtCell_155 : decode cX0_lookAtCell 155 = .ok (.aload_n 0, 1) := by decide +kernel
theorem dX0_lookAtCell_156 : decode cX0_lookAtCell 156 = .ok (.getfield 9, 3) := by decide +kernel
theorem dX0_lookAtCell_159 : decode cX0_lookAtCell 159 = .ok (.iconst 1, 1) := by decide +kernel
theorem dX0_lookAtCell_160 : decode cX0_lookAtCell 160 = .ok (.aload_n 0, 1) := by decide +kernel
theorem dX0_lookAtCell_161 : decode cX0_lookAtCell 161 = .ok (.getfield 9, 3) := by decide +kernel
theorem dX0_lookAtCell_164 : decode cX0_lookAtCell 164 = .ok (.iconst 1, 1) := by decide +kernel
theorem dX0_lookAtCell_165 : decode cX0_lookAtCell 165 = .ok (.iaload, 1) := by decide +kernel
theorem dX0_lookAtCell_166 : decode cX0_lookAtCell 166 = .ok (.iload_n 1, 1) := by decide +kernel
theorem dX0_lookAtCell_167 : decode cX0_lookAtCell 167 = .ok (.iload 4, 2) := by decide +kernel
theorem dX0_lookAtCell_169 : decode cX0_lookAtCell 169 = .ok (.ifCond .le 15, 3) := by decide +kernel
theorem dX0_lookAtCell_172 : decode cX0_lookAtCell 172 = .ok (.iload_n 3, 1) := by decide +kernel
theorem dX0_lookAtCell_173 : decode cX0_lookAtCell 173 = .ok (.iload 4, 2) := by decide +kernel
theorem dX0_lookAtCell_175 : decode cX0_lookAtCell 175 = .ok (.iadd, 1) := by decide +kernel
theorem dX0_lookAtCell_176 : decode cX0_lookAtCell 176 = .ok (.iload_n 2, 1) := by decide +kernel
theorem dX0_lookAtCell_177 : decode cX0_lookAtCell 177 = .ok (.if_icmp .ne 7, 3) := by decide +kernel
theorem dX0_lookAtCell_180 : decode cX0_lookAtCell 180 = .ok (.iconst 1, 1) := by decide +kernel
theorem dX0_lookAtCell_181 : decode cX0_lookAtCell 181 = .ok (.goto 4, 3) := by decide +kernel
theorem dX0_lookAtCell_184 : decode cX0_lookAtCell 184 = .ok (.iconst 0, 1) := by decide +kernel
theorem dX0_lookAtCell_185 : decode cX0_lookAtCell 185 = .ok (.invokestatic 113, 3) := by decide +kernel
theorem dX0_lookAtCell_188 : decode cX0_lookAtCell 188 = .ok (.iastore, 1) := by decide +kernel
theorem dX0_lookAtCell_189 : decode cX0_lookAtCell 189 = .ok (.return_, 1) := by decide +kernel
theorem dX0_lookAtCorner_0 : decode cX0_lookAtCorner 0 = .ok (.aload_n 0, 1) := by decide +kernel
theorem dX0_lookAtCorner_1 : decode cX0_lookAtCorner 1 = .ok (.getfield 25, 3) := by decide +kernel
theorem dX0_lookAtCorner_4 : decode cX0_lookAtCorner 4 = .ok (.iload_n 1, 1) := by decide +kernel
theorem dX0_lookAtCorner_5 : decode cX0_lookAtCorner 5 = .ok (.invokevirtual 117, 3) := by decide +kernel
theorem dX0_lookAtCorner_8 : decode cX0_lookAtCorner 8 = .ok (.ifCond .ne 4, 3) := by decide +kernel
theorem dX0_lookAtCorner_11 : decode cX0_lookAtCorner 11 = .ok (.return_, 1) := by decide +kernel
theorem dX0_lookAtCorner_12 : decode cX0_lookAtCorner 12 = .ok (.aload_n 0, 1) := by decide +kernel
theorem dX0_lookAtCorner_13 : decode cX0_lookAtCorner 13 = .ok (.getfield 25, 3) := by decide +kernel
theorem dX0_lookAtCorner_16 : decode cX0_lookAtCorner 16 = .ok (.getfield 120, 3) := by decide +kernel
theorem dX0_lookAtCorner_19 : decode cX0_lookAtCorner 19 = .ok (.iload_n 1, 1) := by decide +kernel
theorem dX0_lookAtCorner_20 : decode cX0_lookAtCorner 20 = .ok (.laload, 1) := by decide +kernel
theorem dX0_lookAtCorner_21 : decode cX0_lookAtCorner 21 = .ok (.aload_n 0, 1) := by decide +kernel
theorem dX0_lookAtCorner_22 : decode cX0_lookAtCorner 22 = .ok (.getfield 47, 3) := by decide +kernel
theorem dX0_lookAtCorner_25 : decode cX0_lookAtCorner 25 = .ok (.land, 1) := by decide +kernel
theorem dX0_lookAtCorner_26 : decode cX0_lookAtCorner 26 = .ok (.invokestatic 107, 3) := by decide +kernel
theorem dX0_lookAtCorner_29 : decode cX0_lookAtCorner 29 = .ok (.istore_n 2, 1) := by decide +kernel
theorem dX0_lookAtCorner_30 : decode cX0_lookAtCorner 30 = .ok (.aload_n 0, 1) := by decide +kernel
theorem dX0_lookAtCorner_31 : decode cX0_lookAtCorner 31 = .ok (.getfield 25, 3) := by decide +kernel
theorem dX0_lookAtCorner_34 : decode cX0_lookAtCorner 34 = .ok (.getfield 120, 3) := by decide +kernel
theorem dX0_lookAtCorner_37 : decode cX0_lookAtCorner 37 = .ok (.iload_n 1, 1) := by decide +kernel
theorem dX0_lookAtCorner_38 : decode cX0_lookAtCorner 38 = .ok (.laload, 1) := by decide +kernel
theorem dX0_lookAtCorner_39 : decode cX0_lookAtCorner 39 = .ok (.aload_n 0, 1) := by decide +kernel
theorem dX0_lookAtCorner_40 : decode cX0_lookAtCorner 40 = .ok (.getfield 50, 3) := by decide +kernel
theorem dX0_lookAtCorner_43 : decode cX0_lookAtCorner 43 = .ok (.land, 1) := by decide +kernel
theorem dX0_lookAtCorner_44 : decode cX0_lookAtCorner 44 = .ok (.invokestatic 107, 3) := by decide +kernel
theorem dX0_lookAtCorner_47 : decode cX0_lookAtCorner 47 = .ok (.istore_n 3, 1) := by decide +kernel
theorem dX0_lookAtCorner_48 : decode cX0_lookAtCorner 48 = .ok (.aload_n 0, 1) := by decide +kernel
theorem dX0_lookAtCorner_49 : decode cX0_lookAtCorner 49 = .ok (.aload_n 0, 1) := by decide +kernel
theorem dX0_lookAtCorner_50 : decode cX0_lookAtCorner 50 = .ok (.getfield 32, 3) := by decide +kernel
theorem dX0_lookAtCorner_53 : decode cX0_lookAtCorner 53 = .ok (.iload_n 1, 1) := by decide +kernel
theorem dX0_lookAtCorner_54 : decode cX0_lookAtCorner 54 = .ok (.iload_n 2, 1) := by decide +kernel
theorem dX0_lookAtCorner_55 : decode cX0_lookAtCorner 55 = .ok (.iconst 2, 1) := by decide +kernel
theorem dX0_lookAtCorner_56 : decode cX0_lookAtCorner 56 = .ok (.if_icmp .gt 12, 3) := by decide +kernel
theorem dX0_lookAtCorner_59 : decode cX0_lookAtCorner 59 = .ok (.iload_n 2, 1) := by decide +kernel
theorem dX0_lookAtCorner_60 : decode cX0_lookAtCorner 60 = .ok (.iconst 1, 1) := by decide +kernel
theorem dX0_lookAtCorner_61 : decode cX0_lookAtCorner 61 = .ok (.if_icmp .ne 11, 3) := by decide +kernel
theorem dX0_lookAtCorner_64 : decode cX0_lookAtCorner 64 = .ok (.iload_n 3, 1) := by decide +kernel
theorem dX0_lookAtCorner_65 : decode cX0_lookAtCorner 65 = .ok (.ifCond .ne 7, 3) := by decide +kernel
theorem dX0_lookAtCorner_68 : decode cX0_lookAtCorner 68 = .ok (.iconst 1, 1) := by decide +kernel
theorem dX0_lookAtCorner_69 : decode cX0_lookAtCorner 69 = .ok (.goto 4, 3) := by decide +kernel
theorem dX0_lookAtCorner_72 : decode cX0_lookAtCorner 72 = .ok (.iconst 0, 1) := by decide +kernel
theorem dX0_lookAtCorner_73 : decode cX0_lookAtCorner 73 = .ok (.invokestatic 113, 3) := by decide +kernel
theorem dX0_lookAtCorner_76 : decode cX0_lookAtCorner 76 = .ok (.putfield 32, 3) := by decide +kernel
theorem dX0_lookAtCorner_79 : decode cX0_lookAtCorner 79 = .ok (.aload_n 0, 1) := by decide +kernel
theorem dX0_lookAtCorner_80 : decode cX0_lookAtCorner 80 = .ok (.aload_n 0, 1) := by decide +kernel
theorem dX0_lookAtCorner_81 : decode cX0_lookAtCorner 81 = .ok (.getfield 56, 3) := by decide +kernel
theorem dX0_lookAtCorner_84 : decode cX0_lookAtCorner 84 = .ok (.iload_n 1, 1) := by decide +kernel
theorem dX0_lookAtCorner_85 : decode cX0_lookAtCorner 85 = .ok (.iload_n 2, 1) := by decide +kernel
theorem dX0_lookAtCorner_86 : decode cX0_lookAtCorner 86 = .ok (.iconst 2, 1) := by decide +kernel
theorem dX0_lookAtCorner_87 : decode cX0_lookAtCorner 87 = .ok (.if_icmp .ne 7, 3) := by decide +kernel
theorem dX0_lookAtCorner_90 : decode cX0_lookAtCorner 90 = .ok (.iconst 1, 1) := by decide +kernel
theorem dX0_lookAtCorner_91 : decode cX0_lookAtCorner 91 = .ok (.goto 4, 3) := by decide +kernel
theorem dX0_lookAtCorner_94 : decode cX0_lookAtCorner 94 = .ok (.iconst 0, 1) := by decide +kernel
theorem dX0_lookAtCorner_95 : decode cX0_lookAtCorner 95 = .ok (.invokestatic 113, 3) := by decide +kernel
theorem dX0_lookAtCorner_98 : decode cX0_lookAtCorner 98 = .ok (.putfield 56, 3) := by decide +kernel
theorem dX0_lookAtCorner_101 : decode cX0_lookAtCorner 101 = .ok (.aload_n 0, 1) := by decide +kernel
theorem dX0_lookAtCorner_102 : decode cX0_lookAtCorner 102 = .ok (.getfield 9, 3) := by decide +kernel
theorem dX0_lookAtCorner_105 : decode cX0_lookAtCorner 105 = .ok (.iconst 2, 1) := by decide +kernel
theorem dX0_lookAtCorner_106 : decode cX0_lookAtCorner 106 = .ok (.aload_n 0, 1) := by decide +kernel
theorem dX0_lookAtCorner_107 : decode cX0_lookAtCorner 107 = .ok (.getfield 9, 3) := by decide +kernel
theorem dX0_lookAtCorner_110 : decode cX0_lookAtCorner 110 = .ok (.iconst 2, 1) := by decide +kernel
theorem dX0_lookAtCorner_111 : decode cX0_lookAtCorner 111 = .ok (.iaload, 1) := by decide +kernel
theorem dX0_lookAtCorner_112 : decode cX0_lookAtCorner 112 = .ok (.iload_n 1, 1) := by decide +kernel
theorem dX0_lookAtCorner_113 : decode cX0_lookAtCorner 113 = .ok (.iload_n 2, 1) := by decide +kernel
theorem dX0_lookAtCorner_114 : decode cX0_lookAtCorner 114 = .ok (.iconst 2, 1) := by decide +kernel
theorem dX0_lookAtCorner_115 : decode cX0_lookAtCorner 115 = .ok (.if_icmp .ne 11, 3) := by decide +kernel
theorem dX0_lookAtCorner_118 : decode cX0_lookAtCorner 118 = .ok (.iload_n 3, 1) := by decide +kernel
theorem dX0_lookAtCorner_119 : decode cX0_lookAtCorner 119 = .ok (.ifCond .le 7, 3) := by decide +kernel
theorem dX0_lookAtCorner_122 : decode cX0_lookAtCorner 122 = .ok (.iconst 1, 1) := by decide +kernel
theorem dX0_lookAtCorner_123 : decode cX0_lookAtCorner 123 = .ok (.goto 4, 3) := by decide +kernel
theorem dX0_lookAtCorner_126 : decode cX0_lookAtCorner 126 = .ok (.iconst 0, 1) := by decide +kernel
theorem dX0_lookAtCorner_127 : decode cX0_lookAtCorner 127 = .ok (.invokestatic 113, 3) := by decide +kernel
theorem dX0_lookAtCorner_130 : decode cX0_lookAtCorner 130 = .ok (.iastore, 1) := by decide +kernel
theorem dX0_lookAtCorner_131 : decode cX0_lookAtCorner 131 = .ok (.aload_n 0, 1) := by decide +kernel
theorem dX0_lookAtCorner_132 : decode cX0_lookAtCorner 132 = .ok (.getfield 9, 3) := by decide +kernel
theorem dX0_lookAtCorner_135 : decode cX0_lookAtCorner 135 = .ok (.iconst 3, 1) := by decide +kernel
theorem dX0_lookAtCorner_136 : decode cX0_lookAtCorner 136 = .ok (.aload_n 0, 1) := by decide +kernel
theorem dX0_lookAtCorner_137 : decode cX0_lookAtCorner 137 = .ok (.getfield 9, 3) := by decide +kernel
theorem dX0_lookAtCorner_140 : decode cX0_lookAtCorner 140 = .ok (.iconst 3, 1) := by decide +kernel
theorem dX0_lookAtCorner_141 : decode cX0_lookAtCorner 141 = .ok (.iaload, 1) := by decide +kernel
theorem dX0_lookAtCorner_142 : decode cX0_lookAtCorner 142 = .ok (.iload_n 1, 1) := by decide +kernel
theorem dX0_lookAtCorner_143 : decode cX0_lookAtCorner 143 = .ok (.iload_n 2, 1) := by decide +kernel
theorem dX0_lookAtCorner_144 : decode cX0_lookAtCorner 144 = .ok (.ifCond .ne 12, 3) := by decide +kernel
theorem dX0_lookAtCorner_147 : decode cX0_lookAtCorner 147 = .ok (.iload_n 3, 1) := by decide +kernel
theorem dX0_lookAtCorner_148 : decode cX0_lookAtCorner 148 = .ok (.iconst 1, 1) := by decide +kernel
theorem dX0_lookAtCorner_149 : decode cX0_lookAtCorner 149 = .ok (.if_icmp .ne 7, 3) := by decide +kernel
theorem dX0_lookAtCorner_152 : decode cX0_lookAtCorner 152 = .ok (.iconst 1, 1) := by decide +kernel
theorem dX0_lookAtCorner_153 : decode cX0_lookAtCorner 153 = .ok (.goto 4, 3) := by decide +kernel
theorem dX0_lookAtCorner_156 : decode cX0_lookAtCorner 156 = .ok (.iconst 0, 1) := by decide +kernel
theorem dX0_lookAtCorner_157 : decode cX0_lookAtCorner 157 = .ok (.invokestatic 113, 3) := by decide +kernel
theorem dX0_lookAtCorner_160 : decode cX0_lookAtCorner 160 = .ok (.iastore, 1) := by decide +kernel
theorem dX0_lookAtCorner_161 : decode cX0_lookAtCorner 161 = .ok (.aload_n 0, 1) := by decide +kernel
theorem dX0_lookAtCorner_162 : decode cX0_lookAtCorner 162 = .ok (.getfield 9, 3) := by decide +kernel
theorem dX0_lookAtCorner_165 : decode cX0_lookAtCorner 165 = .ok (.iconst 4, 1) := by decide +kernel
theorem dX0_lookAtCorner_166 : decode cX0_lookAtCorner 166 = .ok (.aload_n 0, 1) := by decide +kernel
theorem dX0_lookAtCorner_167 : decode cX0_lookAtCorner 167 = .ok (.getfield 9, 3) := by decide +kernel
theorem dX0_lookAtCorner_170 : decode cX0_lookAtCorner 170 = .ok (.iconst 4, 1) := by decide +kernel
theorem dX0_lookAtCorner_171 : decode cX0_lookAtCorner 171 = .ok (.iaload, 1) := by decide +kernel
theorem dX0_lookAtCorner_172 : decode cX0_lookAtCorner 172 = .ok (.iload_n 1, 1) := by decide +kernel
theorem dX0_lookAtCorner_173 : decode cX0_lookAtCorner 173 = .ok (.iload_n 2, 1) := by decide +kernel
theorem dX0_lookAtCorner_174 : decode cX0_lookAtCorner 174 = .ok (.iconst 1, 1) := by decide +kernel
theorem dX0_lookAtCorner_175 : decode cX0_lookAtCorner 175 = .ok (.if_icmp .ne 12, 3) := by decide +kernel
theorem dX0_lookAtCorner_178 : decode cX0_lookAtCorner 178 = .ok (.iload_n 3, 1) := by decide +kernel
theorem dX0_lookAtCorner_179 : decode cX0_lookAtCorner 179 = .ok (.iconst 1, 1) := by decide +kernel
theorem dX0_lookAtCorner_180 : decode cX0_lookAtCorner 180 = .ok (.if_icmp .ne 7, 3) := by decide +kernel
theorem dX0_lookAtCorner_183 : decode cX0_lookAtCorner 183 = .ok (.iconst 1, 1) := by decide +kernel
theorem dX0_lookAtCorner_184 : decode cX0_lookAtCorner 184 = .ok (.goto 4, 3) := by decide +kernel
theorem dX0_lookAtCorner_187 : decode cX0_lookAtCorner 187 = .ok (.iconst 0, 1) := by decide +kernel
theorem dX0_lookAtCorner_188 : decode cX0_lookAtCorner 188 = .ok (.invokestatic 113, 3) := by decide +kernel
theorem dX0_lookAtCorner_191 : decode cX0_lookAtCorner 191 = .ok (.iastore, 1) := by decide +kernel
theorem dX0_lookAtCorner_192 : decode cX0_lookAtCorner 192 = .ok (.return_, 1) := by decide +kernel
theorem dX0_lookAtRings_0 : decode cX0_lookAtRings 0 = .ok (.aload_n 0, 1) := by decide +kernel
theorem dX0_lookAtRings_1 : decode cX0_lookAtRings 1 = .ok (.lconst 0, 1) := by decide +kernel
theorem dX0_lookAtRings_2 : decode cX0_lookAtRings 2 = .ok (.putfield 35, 3) := by decide +kernel
theorem dX0_lookAtRings_5 : decode cX0_lookAtRings 5 = .ok (.aload_n 0, 1) := by decide +kernel
theorem dX0_lookAtRings_6 : decode cX0_lookAtRings 6 = .ok (.iconst 0, 1) := by decide +kernel
theorem dX0_lookAtRings_7 : decode cX0_lookAtRings 7 = .ok (.putfield 39, 3) := by decide +kernel
theorem dX0_lookAtRings_10 : decode cX0_lookAtRings 10 = .ok (.aload_n 0, 1) := by decide +kernel
theorem dX0_lookAtRings_11 : decode cX0_lookAtRings 11 = .ok (.getfield 47, 3) := by decide +kernel
theorem dX0_lookAtRings_14 : decode cX0_lookAtRings 14 = .ok (.lstore_n 1, 1) := by decide +kernel
theorem dX0_lookAtRings_15 : decode cX0_lookAtRings 15 = .ok (.iconst 0, 1) := by decide +kernel
theorem dX0_lookAtRings_16 : decode cX0_lookAtRings 16 = .ok (.istore_n 3, 1) := by decide +kernel
theorem dX0_lookAtRings_17 : decode cX0_lookAtRings 17 = .ok (.iload_n 3, 1) := by decide +kernel
theorem dX0_lookAtRings_18 : decode cX0_lookAtRings 18 = .ok (.bipush 40, 2) := by decide +kernel
theorem dX0_lookAtRings_20 : decode cX0_lookAtRings 20 = .ok (.if_icmp .ge 40, 3) := by decide +kernel
theorem dX0_lookAtRings_23 : decode cX0_lookAtRings 23 = .ok (.lload_n 1, 1) := by decide +kernel
theorem dX0_lookAtRings_24 : decode cX0_lookAtRings 24 = .ok (.lconst 0, 1) := by decide +kernel
theorem dX0_lookAtRings_25 : decode cX0_lookAtRings 25 = .ok (.lcmp, 1) := by decide +kernel
theorem dX0_lookAtRings_26 : decode cX0_lookAtRings 26 = .ok (.ifCond .eq 34, 3) := by decide +kernel
theorem dX0_lookAtRings_29 : decode cX0_lookAtRings 29 = .ok (.aload_n 0, 1) := by decide +kernel
theorem dX0_lookAtRings_30 : decode cX0_lookAtRings 30 = .ok (.lload_n 1, 1) := by decide +kernel
theorem dX0_lookAtRings_31 : decode cX0_lookAtRings 31 = .ok (.lload_n 1, 1) := by decide +kernel
theorem dX0_lookAtRings_32 : decode cX0_lookAtRings 32 = .ok (.lneg, 1) := by decide +kernel
theorem dX0_lookAtRings_33 : decode cX0_lookAtRings 33 = .ok (.land, 1) := by decide +kernel
theorem dX0_lookAtRings_34 : decode cX0_lookAtRings 34 = .ok (.invokevirtual 89, 3) := by decide +kernel
theorem dX0_lookAtRings_37 : decode cX0_lookAtRings 37 = .ok (.lstore 4, 2) := by decide +kernel
theorem dX0_lookAtRings_39 : decode cX0_lookAtRings 39 = .ok (.aload_n 0, 1) := by decide +kernel
theorem dX0_lookAtRings_40 : decode cX0_lookAtRings 40 = .ok (.lload 4, 2) := by decide +kernel
theorem dX0_lookAtRings_42 : decode cX0_lookAtRings 42 = .ok (.invokevirtual 93, 3) := by decide +kernel
theorem dX0_lookAtRings_45 : decode cX0_lookAtRings 45 = .ok (.lload_n 1, 1) := by decide +kernel
theorem dX0_lookAtRings_46 : decode cX0_lookAtRings 46 = .ok (.lload 4, 2) := by decide +kernel
theorem dX0_lookAtRings_48 : decode cX0_lookAtRings 48 = .ok (.ldc2_w 81, 3) := by decide +kernel
theorem dX0_lookAtRings_51 : decode cX0_lookAtRings 51 = .ok (.lxor, 1) := by decide +kernel
theorem dX0_lookAtRings_52 : decode cX0_lookAtRings 52 = .ok (.land, 1) := by decide +kernel
theorem dX0_lookAtRings_53 : decode cX0_lookAtRings 53 = .ok (.lstore_n 1, 1) := by decide +kernel
theorem dX0_lookAtRings_54 : decode cX0_lookAtRings 54 = .ok (.iinc 3 1, 3) := by decide +kernel
theorem dX0_lookAtRings_57 : decode cX0_lookAtRings 57 = .ok (.goto (-40), 3) := by decide +kernel
theorem dX0_lookAtRings_60 : decode cX0_lookAtRings 60 = .ok (.return_, 1) := by decide +kernel
theorem dX0_lookAtWay_0 : decode cX0_lookAtWay 0 = .ok (.aload_n 0, 1) := by decide +kernel
theorem dX0_lookAtWay_1 : decode cX0_lookAtWay 1 = .ok (.lload_n 1, 1) := by decide +kernel
theorem dX0_lookAtWay_2 : decode cX0_lookAtWay 2 = .ok (.invokevirtual 123, 3) := by decide +kernel
theorem dX0_lookAtWay_5 : decode cX0_lookAtWay 5 = .ok (.ifCond .ne 4, 3) := by decide +kernel
theorem dX0_lookAtWay_8 : decode cX0_lookAtWay 8 = .ok (.return_, 1) := by decide +kernel
theorem dX0_lookAtWay_9 : decode cX0_lookAtWay 9 = .ok (.lload_n 1, 1) := by decide +kernel
theorem dX0_lookAtWay_10 : decode cX0_lookAtWay 10 = .ok (.aload_n 0, 1) := by decide +kernel
theorem dX0_lookAtWay_11 : decode cX0_lookAtWay 11 = .ok (.getfield 47, 3) := by decide +kernel
theorem dX0_lookAtWay_14 : decode cX0_lookAtWay 14 = .ok (.lcmp, 1) := by decide +kernel
theorem dX0_lookAtWay_15 : decode cX0_lookAtWay 15 = .ok (.ifCond .ne 18, 3) := by decide +kernel
theorem dX0_lookAtWay_18 : decode cX0_lookAtWay 18 = .ok (.aload_n 0, 1) := by decide +kernel
theorem dX0_lookAtWay_19 : decode cX0_lookAtWay 19 = .ok (.getfield 53, 3) := by decide +kernel
theorem dX0_lookAtWay_22 : decode cX0_lookAtWay 22 = .ok (.ifCond .ne 11, 3) := by decide +kernel
theorem dX0_lookAtWay_25 : decode cX0_lookAtWay 25 = .ok (.aload_n 0, 1) := by decide +kernel
theorem dX0_lookAtWay_26 : decode cX0_lookAtWay 26 = .ok (.iconst 1, 1) := by decide +kernel
theorem dX0_lookAtWay_27 : decode cX0_lookAtWay 27 = .ok (.putfield 39, 3) := by decide +kernel
theorem dX0_lookAtWay_30 : decode cX0_lookAtWay 30 = .ok (.goto 17, 3) := by decide +kernel
theorem dX0_lookAtWay_33 : decode cX0_lookAtWay 33 = .ok (.aload_n 0, 1) := by decide +kernel
theorem dX0_lookAtWay_34 : decode cX0_lookAtWay 34 = .ok (.getfield 35, 3) := by decide +kernel
theorem dX0_lookAtWay_37 : decode cX0_lookAtWay 37 = .ok (.lconst 0, 1) := by decide +kernel
theorem dX0_lookAtWay_38 : decode cX0_lookAtWay 38 = .ok (.lcmp, 1) := by decide +kernel
theorem dX0_lookAtWay_39 : decode cX0_lookAtWay 39 = .ok (.ifCond .ne 8, 3) := by decide +kernel
theorem dX0_lookAtWay_42 : decode cX0_lookAtWay 42 = .ok (.aload_n 0, 1) := by decide +kernel
theorem dX0_lookAtWay_43 : decode cX0_lookAtWay 43 = .ok (.lload_n 1, 1) := by decide +kernel
theorem dX0_lookAtWay_44 : decode cX0_lookAtWay 44 = .ok (.putfield 35, 3) := by decide +kernel
theorem dX0_lookAtWay_47 : decode cX0_lookAtWay 47 = .ok (.return_, 1) := by decide +kernel
theorem dX0_wayOf_0 : decode cX0_wayOf 0 = .ok (.lload_n 1, 1) := by decide +kernel
theorem dX0_wayOf_1 : decode cX0_wayOf 1 = .ok (.aload_n 0, 1) := by decide +kernel
theorem dX0_wayOf_2 : decode cX0_wayOf 2 = .ok (.getfield 47, 3) := by decide +kernel
theorem dX0_wayOf_5 : decode cX0_wayOf 5 = .ok (.land, 1) := by decide +kernel
theorem dX0_wayOf_6 : decode cX0_wayOf 6 = .ok (.lstore_n 3, 1) := by decide +kernel
theorem dX0_wayOf_7 : decode cX0_wayOf 7 = .ok (.iconst 0, 1) := by decide +kernel
theorem dX0_wayOf_8 : decode cX0_wayOf 8 = .ok (.istore 5, 2) := by decide +kernel
theorem dX0_wayOf_10 : decode cX0_wayOf 10 = .ok (.iload 5, 2) := by decide +kernel
theorem dX0_wayOf_12 : decode cX0_wayOf 12 = .ok (.bipush 40, 2) := by decide +kernel
theorem dX0_wayOf_14 : decode cX0_wayOf 14 = .ok (.if_icmp .ge 73, 3) := by decide +kernel
theorem dX0_wayOf_17 : decode cX0_wayOf 17 = .ok (.lload_n 3, 1) := by decide +kernel
theorem dX0_wayOf_18 : decode cX0_wayOf 18 = .ok (.lstore 6, 2) := by decide +kernel
theorem dX0_wayOf_20 : decode cX0_wayOf 20 = .ok (.iconst 0, 1) := by decide +kernel
theorem dX0_wayOf_21 : decode cX0_wayOf 21 = .ok (.istore 8, 2) := by decide +kernel
theorem dX0_wayOf_23 : decode cX0_wayOf 23 = .ok (.iload 8, 2) := by decide +kernel
theorem dX0_wayOf_25 : decode cX0_wayOf 25 = .ok (.aload_n 0, 1) := by decide +kernel
theorem dX0_wayOf_26 : decode cX0_wayOf 26 = .ok (.getfield 25, 3) := by decide +kernel
theorem dX0_wayOf_29 : decode cX0_wayOf 29 = .ok (.getfield 68, 3) := by decide +kernel
theorem dX0_wayOf_32 : decode cX0_wayOf 32 = .ok (.if_icmp .ge 40, 3) := by decide +kernel
theorem dX0_wayOf_35 : decode cX0_wayOf 35 = .ok (.aload_n 0, 1) := by decide +kernel
theorem dX0_wayOf_36 : decode cX0_wayOf 36 = .ok (.getfield 25, 3) := by decide +kernel
theorem dX0_wayOf_39 : decode cX0_wayOf 39 = .ok (.getfield 120, 3) := by decide +kernel
theorem dX0_wayOf_42 : decode cX0_wayOf 42 = .ok (.iload 8, 2) := by decide +kernel
theorem dX0_wayOf_44 : decode cX0_wayOf 44 = .ok (.laload, 1) := by decide +kernel
theorem dX0_wayOf_45 : decode cX0_wayOf 45 = .ok (.aload_n 0, 1) := by decide +kernel
theorem dX0_wayOf_46 : decode cX0_wayOf 46 = .ok (.getfield 47, 3) := by decide +kernel
theorem dX0_wayOf_49 : decode cX0_wayOf 49 = .ok (.land, 1) := by decide +kernel
theorem dX0_wayOf_50 : decode cX0_wayOf 50 = .ok (.lstore 9, 2) := by decide +kernel
theorem dX0_wayOf_52 : decode cX0_wayOf 52 = .ok (.lload 9, 2) := by decide +kernel
theorem dX0_wayOf_54 : decode cX0_wayOf 54 = .ok (.lload_n 3, 1) := by decide +kernel
theorem dX0_wayOf_55 : decode cX0_wayOf 55 = .ok (.land, 1) := by decide +kernel
theorem dX0_wayOf_56 : decode cX0_wayOf 56 = .ok (.lconst 0, 1) := by decide +kernel
theorem dX0_wayOf_57 : decode cX0_wayOf 57 = .ok (.lcmp, 1) := by decide +kernel
theorem dX0_wayOf_58 : decode cX0_wayOf 58 = .ok (.ifCond .eq 8, 3) := by decide +kernel
theorem dX0_wayOf_61 : decode cX0_wayOf 61 = .ok (.lload_n 3, 1) := by decide +kernel
theorem dX0_wayOf_62 : decode cX0_wayOf 62 = .ok (.lload 9, 2) := by decide +kernel
theorem dX0_wayOf_64 : decode cX0_wayOf 64 = .ok (.lor, 1) := by decide +kernel
theorem dX0_wayOf_65 : decode cX0_wayOf 65 = .ok (.lstore_n 3, 1) := by decide +kernel
theorem dX0_wayOf_66 : decode cX0_wayOf 66 = .ok (.iinc 8 1, 3) := by decide +kernel
theorem dX0_wayOf_69 : decode cX0_wayOf 69 = .ok (.goto (-46), 3) := by decide +kernel
theorem dX0_wayOf_72 : decode cX0_wayOf 72 = .ok (.lload_n 3, 1) := by decide +kernel
theorem dX0_wayOf_73 : decode cX0_wayOf 73 = .ok (.lload 6, 2) := by decide +kernel
theorem dX0_wayOf_75 : decode cX0_wayOf 75 = .ok (.lcmp, 1) := by decide +kernel
theorem dX0_wayOf_76 : decode cX0_wayOf 76 = .ok (.ifCond .ne 5, 3) := by decide +kernel
theorem dX0_wayOf_79 : decode cX0_wayOf 79 = .ok (.lload_n 3, 1) := by decide +kernel
theorem dX0_wayOf_80 : decode cX0_wayOf 80 = .ok (.lreturn, 1) := by decide +kernel
theorem dX0_wayOf_81 : decode cX0_wayOf 81 = .ok (.iinc 5 1, 3) := by decide +kernel
theorem dX0_wayOf_84 : decode cX0_wayOf 84 = .ok (.goto (-74), 3) := by decide +kernel
theorem dX0_wayOf_87 : decode cX0_wayOf 87 = .ok (.lload_n 3, 1) := by decide +kernel
theorem dX0_wayOf_88 : decode cX0_wayOf 88 = .ok (.lreturn, 1) := by decide +kernel
theorem dX0_isRing_0 : decode cX0_isRing 0 = .ok (.iconst 0, 1) := by decide +kernel
theorem dX0_isRing_1 : decode cX0_isRing 1 = .ok (.istore_n 3, 1) := by decide +kernel
theorem dX0_isRing_2 : decode cX0_isRing 2 = .ok (.iload_n 3, 1) := by decide +kernel
theorem dX0_isRing_3 : decode cX0_isRing 3 = .ok (.aload_n 0, 1) := by decide +kernel
theorem dX0_isRing_4 : decode cX0_isRing 4 = .ok (.getfield 25, 3) := by decide +kernel
theorem dX0_isRing_7 : decode cX0_isRing 7 = .ok (.getfield 68, 3) := by decide +kernel
theorem dX0_isRing_10 : decode cX0_isRing 10 = .ok (.if_icmp .ge 50, 3) := by decide +kernel
theorem dX0_isRing_13 : decode cX0_isRing 13 = .ok (.aload_n 0, 1) := by decide +kernel
theorem dX0_isRing_14 : decode cX0_isRing 14 = .ok (.getfield 56, 3) := by decide +kernel
theorem dX0_isRing_17 : decode cX0_isRing 17 = .ok (.iload_n 3, 1) := by decide +kernel
theorem dX0_isRing_18 : decode cX0_isRing 18 = .ok (.iushr, 1) := by decide +kernel
theorem dX0_isRing_19 : decode cX0_isRing 19 = .ok (.iconst 1, 1) := by decide +kernel
theorem dX0_isRing_20 : decode cX0_isRing 20 = .ok (.iand, 1) := by decide +kernel
theorem dX0_isRing_21 : decode cX0_isRing 21 = .ok (.ifCond .eq 7, 3) := by decide +kernel
theorem dX0_isRing_24 : decode cX0_isRing 24 = .ok (.iconst 1, 1) := by decide +kernel
theorem dX0_isRing_25 : decode cX0_isRing 25 = .ok (.goto 4, 3) := by decide +kernel
theorem dX0_isRing_28 : decode cX0_isRing 28 = .ok (.iconst 0, 1) := by decide +kernel
theorem dX0_isRing_29 : decode cX0_isRing 29 = .ok (.istore 4, 2) := by decide +kernel
theorem dX0_isRing_31 : decode cX0_isRing 31 = .ok (.aload_n 0, 1) := by decide +kernel
theorem dX0_isRing_32 : decode cX0_isRing 32 = .ok (.getfield 25, 3) := by decide +kernel
theorem dX0_isRing_35 : decode cX0_isRing 35 = .ok (.getfield 120, 3) := by decide +kernel
theorem dX0_isRing_38 : decode cX0_isRing 38 = .ok (.iload_n 3, 1) := by decide +kernel
theorem dX0_isRing_39 : decode cX0_isRing 39 = .ok (.laload, 1) := by decide +kernel
theorem dX0_isRing_40 : decode cX0_isRing 40 = .ok (.lload_n 1, 1) := by decide +kernel
theorem dX0_isRing_41 : decode cX0_isRing 41 = .ok (.land, 1) := by decide +kernel
theorem dX0_isRing_42 : decode cX0_isRing 42 = .ok (.lconst 0, 1) := by decide +kernel
theorem dX0_isRing_43 : decode cX0_isRing 43 = .ok (.lcmp, 1) := by decide +kernel
theorem dX0_isRing_44 : decode cX0_isRing 44 = .ok (.ifCond .eq 10, 3) := by decide +kernel
theorem dX0_isRing_47 : decode cX0_isRing 47 = .ok (.iload 4, 2) := by decide +kernel
theorem dX0_isRing_49 : decode cX0_isRing 49 = .ok (.ifCond .ne 5, 3) := by decide +kernel
theorem dX0_isRing_52 : decode cX0_isRing 52 = .ok (.iconst 0, 1) := by decide +kernel
theorem dX0_isRing_53 : decode cX0_isRing 53 = .ok (.ireturn, 1) := by decide +kernel
theorem dX0_isRing_54 : decode cX0_isRing 54 = .ok (.iinc 3 1, 3) := by decide +kernel
theorem dX0_isRing_57 : decode cX0_isRing 57 = .ok (.goto (-55), 3) := by decide +kernel
theorem dX0_isRing_60 : decode cX0_isRing 60 = .ok (.lload_n 1, 1) := by decide +kernel
theorem dX0_isRing_61 : decode cX0_isRing 61 = .ok (.lconst 0, 1) := by decide +kernel
theorem dX0_isRing_62 : decode cX0_isRing 62 = .ok (.lcmp, 1) := by decide +kernel
theorem dX0_isRing_63 : decode cX0_isRing 63 = .ok (.ifCond .eq 7, 3) := by decide +kernel
theorem dX0_isRing_66 : decode cX0_isRing 66 = .ok (.iconst 1, 1) := by decide +kernel
theorem dX0_isRing_67 : decode cX0_isRing 67 = .ok (.goto 4, 3) := by decide +kernel
theorem dX0_isRing_70 : decode cX0_isRing 70 = .ok (.iconst 0, 1) := by decide +kernel
theorem dX0_isRing_71 : decode cX0_isRing 71 = .ok (.ireturn, 1) := by decide +kernel
theorem dX0_findAtPlace_0 : decode cX0_findAtPlace 0 = .ok (.aload_n 0, 1) := by decide +kernel
theorem dX0_findAtPlace_1 : decode cX0_findAtPlace 1 = .ok (.invokevirtual 43, 3) := by decide +kernel
theorem dX0_findAtPlace_4 : decode cX0_findAtPlace 4 = .ok (.ifCond .eq 10, 3) := by decide +kernel
theorem dX0_findAtPlace_7 : decode cX0_findAtPlace 7 = .ok (.aload_n 0, 1) := by decide +kernel
theorem dX0_findAtPlace_8 : decode cX0_findAtPlace 8 = .ok (.getfield 39, 3) := by decide +kernel
theorem dX0_findAtPlace_11 : decode cX0_findAtPlace 11 = .ok (.ifCond .eq 5, 3) := by decide +kernel
theorem dX0_findAtPlace_14 : decode cX0_findAtPlace 14 = .ok (.iconst 0, 1) := by decide +kernel
theorem dX0_findAtPlace_15 : decode cX0_findAtPlace 15 = .ok (.ireturn, 1) := by decide +kernel
theorem dX0_findAtPlace_16 : decode cX0_findAtPlace 16 = .ok (.iconst 0, 1) := by decide +kernel
theorem dX0_findAtPlace_17 : decode cX0_findAtPlace 17 = .ok (.istore_n 2, 1) := by decide +kernel
theorem dX0_findAtPlace_18 : decode cX0_findAtPlace 18 = .ok (.iload_n 2, 1) := by decide +kernel
theorem dX0_findAtPlace_19 : decode cX0_findAtPlace 19 = .ok (.iload_n 1, 1) := by decide +kernel
theorem dX0_findAtPlace_20 : decode cX0_findAtPlace 20 = .ok (.if_icmp .gt 113, 3) := by decide +kernel
theorem dX0_findAtPlace_23 : decode cX0_findAtPlace 23 = .ok (.iload_n 2, 1) := by decide +kernel
theorem dX0_findAtPlace_24 : decode cX0_findAtPlace 24 = .ok (.iconst 5, 1) := by decide +kernel
theorem dX0_findAtPlace_25 : decode cX0_findAtPlace 25 = .ok (.if_icmp .ge 108, 3) := by decide +kernel
theorem dX0_findAtPlace_28 : decode cX0_findAtPlace 28 = .ok (.aload_n 0, 1) := by decide +kernel
theorem dX0_findAtPlace_29 : decode cX0_findAtPlace 29 = .ok (.getfield 9, 3) := by decide +kernel
theorem dX0_findAtPlace_32 : decode cX0_findAtPlace 32 = .ok (.iload_n 2, 1) := by decide +kernel
theorem dX0_findAtPlace_33 : decode cX0_findAtPlace 33 = .ok (.iaload, 1) := by decide +kernel
theorem dX0_findAtPlace_34 : decode cX0_findAtPlace 34 = .ok (.i2l, 1) := by decide +kernel
theorem dX0_findAtPlace_35 : decode cX0_findAtPlace 35 = .ok (.invokestatic 127, 3) := by decide +kernel
theorem dX0_findAtPlace_38 : decode cX0_findAtPlace 38 = .ok (.istore_n 3, 1) := by decide +kernel
theorem dX0_findAtPlace_39 : decode cX0_findAtPlace 39 = .ok (.iload_n 2, 1) := by decide +kernel
theorem dX0_findAtPlace_40 : decode cX0_findAtPlace 40 = .ok (.iconst 2, 1) := by decide +kernel
theorem dX0_findAtPlace_41 : decode cX0_findAtPlace 41 = .ok (.if_icmp .ge 7, 3) := by decide +kernel
theorem dX0_findAtPlace_44 : decode cX0_findAtPlace 44 = .ok (.iconst 1, 1) := by decide +kernel
theorem dX0_findAtPlace_45 : decode cX0_findAtPlace 45 = .ok (.goto 4, 3) := by decide +kernel
theorem dX0_findAtPlace_48 : decode cX0_findAtPlace 48 = .ok (.iconst 0, 1) := by decide +kernel
theorem dX0_findAtPlace_49 : decode cX0_findAtPlace 49 = .ok (.istore 4, 2) := by decide +kernel
theorem dX0_findAtPlace_51 : decode cX0_findAtPlace 51 = .ok (.iload 4, 2) := by decide +kernel
theorem dX0_findAtPlace_53 : decode cX0_findAtPlace 53 = .ok (.ifCond .eq 17, 3) := by decide +kernel
theorem dX0_findAtPlace_56 : decode cX0_findAtPlace 56 = .ok (.aload_n 0, 1) := by decide +kernel
theorem dX0_findAtPlace_57 : decode cX0_findAtPlace 57 = .ok (.getfield 25, 3) := by decide +kernel
theorem dX0_findAtPlace_60 : decode cX0_findAtPlace 60 = .ok (.iload_n 3, 1) := by decide +kernel
theorem dX0_findAtPlace_61 : decode cX0_findAtPlace 61 = .ok (.invokevirtual 97, 3) := by decide +kernel
theorem dX0_findAtPlace_64 : decode cX0_findAtPlace 64 = .ok (.ifCond .eq 63, 3) := by decide +kernel
theorem dX0_findAtPlace_67 : decode cX0_findAtPlace 67 = .ok (.goto 14, 3) := by decide +kernel
theorem dX0_findAtPlace_70 : decode cX0_findAtPlace 70 = .ok (.aload_n 0, 1) := by decide +kernel
theorem dX0_findAtPlace_71 : decode cX0_findAtPlace 71 = .ok (.getfield 25, 3) := by decide +kernel
theorem dX0_findAtPlace_74 : decode cX0_findAtPlace 74 = .ok (.iload_n 3, 1) := by decide +kernel
theorem dX0_findAtPlace_75 : decode cX0_findAtPlace 75 = .ok (.invokevirtual 117, 3) := by decide +kernel
theorem dX0_findAtPlace_78 : decode cX0_findAtPlace 78 = .ok (.ifCond .eq 49, 3) := by decide +kernel
theorem dX0_findAtPlace_81 : decode cX0_findAtPlace 81 = .ok (.iload 4, 2) := by decide +kernel
theorem dX0_findAtPlace_83 : decode cX0_findAtPlace 83 = .ok (.ifCond .eq 15, 3) := by decide +kernel
theorem dX0_findAtPlace_86 : decode cX0_findAtPlace 86 = .ok (.aload_n 0, 1) := by decide +kernel
theorem dX0_findAtPlace_87 : decode cX0_findAtPlace 87 = .ok (.getfield 25, 3) := by decide +kernel
theorem dX0_findAtPlace_90 : decode cX0_findAtPlace 90 = .ok (.getfield 103, 3) := by decide +kernel
theorem dX0_findAtPlace_93 : decode cX0_findAtPlace 93 = .ok (.iload_n 3, 1) := by decide +kernel
theorem dX0_findAtPlace_94 : decode cX0_findAtPlace 94 = .ok (.laload, 1) := by decide +kernel
theorem dX0_findAtPlace_95 : decode cX0_findAtPlace 95 = .ok (.goto 12, 3) := by decide +kernel
theorem dX0_findAtPlace_98 : decode cX0_findAtPlace 98 = .ok (.aload_n 0, 1) := by decide +kernel
theorem dX0_findAtPlace_99 : decode cX0_findAtPlace 99 = .ok (.getfield 25, 3) := by decide +kernel
theorem dX0_findAtPlace_102 : decode cX0_findAtPlace 102 = .ok (.getfield 120, 3) := by decide +kernel
theorem dX0_findAtPlace_105 : decode cX0_findAtPlace 105 = .ok (.iload_n 3, 1) := by decide +kernel
theorem dX0_findAtPlace_106 : decode cX0_findAtPlace 106 = .ok (.laload, 1) := by decide +kernel
theorem dX0_findAtPlace_107 : decode cX0_findAtPlace 107 = .ok (.lstore 5, 2) := by decide +kernel
theorem dX0_findAtPlace_109 : decode cX0_findAtPlace 109 = .ok (.aload_n 0, 1) := by decide +kernel
theorem dX0_findAtPlace_110 : decode cX0_findAtPlace 110 = .ok (.iload_n 2, 1) := by decide +kernel
theorem dX0_findAtPlace_111 : decode cX0_findAtPlace 111 = .ok (.lload 5, 2) := by decide +kernel
theorem dX0_findAtPlace_113 : decode cX0_findAtPlace 113 = .ok (.aload_n 0, 1) := by decide +kernel
theorem dX0_findAtPlace_114 : decode cX0_findAtPlace 114 = .ok (.getfield 50, 3) := by decide +kernel
theorem dX0_findAtPlace_117 : decode cX0_findAtPlace 117 = .ok (.land, 1) := by decide +kernel
theorem dX0_findAtPlace_118 : decode cX0_findAtPlace 118 = .ok (.invokestatic 127, 3) := by decide +kernel
theorem dX0_findAtPlace_121 : decode cX0_findAtPlace 121 = .ok (.iload_n 3, 1) := by decide +kernel
theorem dX0_findAtPlace_122 : decode cX0_findAtPlace 122 = .ok (.invokevirtual 130, 3) := by decide +kernel
theorem dX0_findAtPlace_125 : decode cX0_findAtPlace 125 = .ok (.iconst 1, 1) := by decide +kernel
theorem dX0_findAtPlace_126 : decode cX0_findAtPlace 126 = .ok (.ireturn, 1) := by decide +kernel
theorem dX0_findAtPlace_127 : decode cX0_findAtPlace 127 = .ok (.iinc 2 1, 3) := by decide +kernel
theorem dX0_findAtPlace_130 : decode cX0_findAtPlace 130 = .ok (.goto (-112), 3) := by decide +kernel
theorem dX0_findAtPlace_133 : decode cX0_findAtPlace 133 = .ok (.iconst 0, 1) := by decide +kernel
theorem dX0_findAtPlace_134 : decode cX0_findAtPlace 134 = .ok (.ireturn, 1) := by decide +kernel
theorem dX0_findClosing_0 : decode cX0_findClosing 0 = .ok (.aload_n 0, 1) := by decide +kernel
theorem dX0_findClosing_1 : decode cX0_findClosing 1 = .ok (.invokevirtual 43, 3) := by decide +kernel
theorem dX0_findClosing_4 : decode cX0_findClosing 4 = .ok (.ifCond .eq 10, 3) := by decide +kernel
theorem dX0_findClosing_7 : decode cX0_findClosing 7 = .ok (.aload_n 0, 1) := by decide +kernel
theorem dX0_findClosing_8 : decode cX0_findClosing 8 = .ok (.getfield 39, 3) := by decide +kernel
theorem dX0_findClosing_11 : decode cX0_findClosing 11 = .ok (.ifCond .eq 5, 3) := by decide +kernel
theorem dX0_findClosing_14 : decode cX0_findClosing 14 = .ok (.iconst 0, 1) := by decide +kernel
theorem dX0_findClosing_15 : decode cX0_findClosing 15 = .ok (.ireturn, 1) := by decide +kernel
theorem dX0_findClosing_16 : decode cX0_findClosing 16 = .ok (.iconst 0, 1) := by decide +kernel
theorem dX0_findClosing_17 : decode cX0_findClosing 17 = .ok (.istore_n 1, 1) := by decide +kernel
theorem dX0_findClosing_18 : decode cX0_findClosing 18 = .ok (.iload_n 1, 1) := by decide +kernel
theorem dX0_findClosing_19 : decode cX0_findClosing 19 = .ok (.aload_n 0, 1) := by decide +kernel
theorem dX0_findClosing_20 : decode cX0_findClosing 20 = .ok (.getfield 25, 3) := by decide +kernel
theorem dX0_findClosing_23 : decode cX0_findClosing 23 = .ok (.getfield 134, 3) := by decide +kernel
theorem dX0_findClosing_26 : decode cX0_findClosing 26 = .ok (.if_icmp .ge 119, 3) := by decide +kernel
theorem dX0_findClosing_29 : decode cX0_findClosing 29 = .ok (.lconst 1, 1) := by decide +kernel
theorem dX0_findClosing_30 : decode cX0_findClosing 30 = .ok (.iload_n 1, 1) := by decide +kernel
theorem dX0_findClosing_31 : decode cX0_findClosing 31 = .ok (.lshl, 1) := by decide +kernel
theorem dX0_findClosing_32 : decode cX0_findClosing 32 = .ok (.lstore_n 2, 1) := by decide +kernel
theorem dX0_findClosing_33 : decode cX0_findClosing 33 = .ok (.aload_n 0, 1) := by decide +kernel
theorem dX0_findClosing_34 : decode cX0_findClosing 34 = .ok (.iload_n 1, 1) := by decide +kernel
theorem dX0_findClosing_35 : decode cX0_findClosing 35 = .ok (.iconst 0, 1) := by decide +kernel
theorem dX0_findClosing_36 : decode cX0_findClosing 36 = .ok (.invokevirtual 137, 3) := by decide +kernel
theorem dX0_findClosing_39 : decode cX0_findClosing 39 = .ok (.lstore 4, 2) := by decide +kernel
theorem dX0_findClosing_41 : decode cX0_findClosing 41 = .ok (.aload_n 0, 1) := by decide +kernel
theorem dX0_findClosing_42 : decode cX0_findClosing 42 = .ok (.iload_n 1, 1) := by decide +kernel
theorem dX0_findClosing_43 : decode cX0_findClosing 43 = .ok (.iconst 1, 1) := by decide +kernel
theorem dX0_findClosing_44 : decode cX0_findClosing 44 = .ok (.invokevirtual 137, 3) := by decide +kernel
theorem dX0_findClosing_47 : decode cX0_findClosing 47 = .ok (.lstore 6, 2) := by decide +kernel
theorem dX0_findClosing_49 : decode cX0_findClosing 49 = .ok (.aload_n 0, 1) := by decide +kernel
theorem dX0_findClosing_50 : decode cX0_findClosing 50 = .ok (.getfield 50, 3) := by decide +kernel
theorem dX0_findClosing_53 : decode cX0_findClosing 53 = .ok (.lload_n 2, 1) := by decide +kernel
theorem dX0_findClosing_54 : decode cX0_findClosing 54 = .ok (.land, 1) := by decide +kernel
theorem dX0_findClosing_55 : decode cX0_findClosing 55 = .ok (.lconst 0, 1) := by decide +kernel
theorem dX0_findClosing_56 : decode cX0_findClosing 56 = .ok (.lcmp, 1) := by decide +kernel
theorem dX0_findClosing_57 : decode cX0_findClosing 57 = .ok (.ifCond .eq 82, 3) := by decide +kernel
theorem dX0_findClosing_60 : decode cX0_findClosing 60 = .ok (.lload 4, 2) := by decide +kernel
theorem dX0_findClosing_62 : decode cX0_findClosing 62 = .ok (.lconst 0, 1) := by decide +kernel
theorem dX0_findClosing_63 : decode cX0_findClosing 63 = .ok (.lcmp, 1) := by decide +kernel
theorem dX0_findClosing_64 : decode cX0_findClosing 64 = .ok (.ifCond .eq 75, 3) := by decide +kernel
theorem dX0_findClosing_67 : decode cX0_findClosing 67 = .ok (.lload 6, 2) := by decide +kernel
theorem dX0_findClosing_69 : decode cX0_findClosing 69 = .ok (.lconst 0, 1) := by decide +kernel
theorem dX0_findClosing_70 : decode cX0_findClosing 70 = .ok (.lcmp, 1) := by decide +kernel
theorem dX0_findClosing_71 : decode cX0_findClosing 71 = .ok (.ifCond .ne 6, 3) := by decide +kernel
theorem dX0_findClosing_74 : decode cX0_findClosing 74 = .ok (.goto 65, 3) := by decide +kernel
theorem dX0_findClosing_77 : decode cX0_findClosing 77 = .ok (.aload_n 0, 1) := by decide +kernel
theorem dX0_findClosing_78 : decode cX0_findClosing 78 = .ok (.lload 4, 2) := by decide +kernel
theorem dX0_findClosing_80 : decode cX0_findClosing 80 = .ok (.invokevirtual 89, 3) := by decide +kernel
theorem dX0_findClosing_83 : decode cX0_findClosing 83 = .ok (.lstore 8, 2) := by decide +kernel
theorem dX0_findClosing_85 : decode cX0_findClosing 85 = .ok (.lload 8, 2) := by decide +kernel
theorem dX0_findClosing_87 : decode cX0_findClosing 87 = .ok (.lload 6, 2) := by decide +kernel
theorem dX0_findClosing_89 : decode cX0_findClosing 89 = .ok (.land, 1) := by decide +kernel
theorem dX0_findClosing_90 : decode cX0_findClosing 90 = .ok (.lconst 0, 1) := by decide +kernel
theorem dX0_findClosing_91 : decode cX0_findClosing 91 = .ok (.lcmp, 1) := by decide +kernel
theorem dX0_findClosing_92 : decode cX0_findClosing 92 = .ok (.ifCond .eq 7, 3) := by decide +kernel
theorem dX0_findClosing_95 : decode cX0_findClosing 95 = .ok (.iconst 1, 1) := by decide +kernel
theorem dX0_findClosing_96 : decode cX0_findClosing 96 = .ok (.goto 4, 3) := by decide +kernel
theorem dX0_findClosing_99 : decode cX0_findClosing 99 = .ok (.iconst 0, 1) := by decide +kernel
theorem dX0_findClosing_100 : decode cX0_findClosing 100 = .ok (.istore 10, 2) := by decide +kernel
theorem dX0_findClosing_102 : decode cX0_findClosing 102 = .ok (.iload 10, 2) := by decide +kernel
theorem dX0_findClosing_104 : decode cX0_findClosing 104 = .ok (.ifCond .eq 35, 3) := by decide +kernel
theorem dX0_findClosing_107 : decode cX0_findClosing 107 = .ok (.lload 8, 2) := by decide +kernel
theorem dX0_findClosing_109 : decode cX0_findClosing 109 = .ok (.aload_n 0, 1) := by decide +kernel
theorem dX0_findClosing_110 : decode cX0_findClosing 110 = .ok (.getfield 47, 3) := by decide +kernel
theorem dX0_findClosing_113 : decode cX0_findClosing 113 = .ok (.lcmp, 1) := by decide +kernel
theorem dX0_findClosing_114 : decode cX0_findClosing 114 = .ok (.ifCond .ne 16, 3) := by decide +kernel
theorem dX0_findClosing_117 : decode cX0_findClosing 117 = .ok (.aload_n 0, 1) := by decide +kernel
theorem dX0_findClosing_118 : decode cX0_findClosing 118 = .ok (.aload_n 0, 1) := by decide +kernel
theorem dX0_findClosing_119 : decode cX0_findClosing 119 = .ok (.getfield 47, 3) := by decide +kernel
theorem dX0_findClosing_122 : decode cX0_findClosing 122 = .ok (.lload_n 2, 1) := by decide +kernel
theorem dX0_findClosing_123 : decode cX0_findClosing 123 = .ok (.lor, 1) := by decide +kernel
theorem dX0_findClosing_124 : decode cX0_findClosing 124 = .ok (.invokevirtual 141, 3) := by decide +kernel
theorem dX0_findClosing_127 : decode cX0_findClosing 127 = .ok (.ifCond .ne 12, 3) := by decide +kernel
theorem dX0_findClosing_130 : decode cX0_findClosing 130 = .ok (.aload_n 0, 1) := by decide +kernel
theorem dX0_findClosing_131 : decode cX0_findClosing 131 = .ok (.iconst 5, 1) := by decide +kernel
theorem dX0_findClosing_132 : decode cX0_findClosing 132 = .ok (.iload_n 1, 1) := by decide +kernel
theorem dX0_findClosing_133 : decode cX0_findClosing 133 = .ok (.iconst (-1), 1) := by decide +kernel
theorem dX0_findClosing_134 : decode cX0_findClosing 134 = .ok (.invokevirtual 130, 3) := by decide +kernel
theorem dX0_findClosing_137 : decode cX0_findClosing 137 = .ok (.iconst 1, 1) := by decide +kernel
theorem dX0_findClosing_138 : decode cX0_findClosing 138 = .ok (.ireturn, 1) := by decide +kernel
theorem dX0_findClosing_139 : decode cX0_findClosing 139 = .ok (.iinc 1 1, 3) := by decide +kernel
theorem dX0_findClosing_142 : decode cX0_findClosing 142 = .ok (.goto (-124), 3) := by decide +kernel
theorem dX0_findClosing_145 : decode cX0_findClosing 145 = .ok (.iconst 0, 1) := by decide +kernel
theorem dX0_findClosing_146 : decode cX0_findClosing 146 = .ok (.ireturn, 1) := by decide +kernel
theorem dX0_drawnAtEnd_0 : decode cX0_drawnAtEnd 0 = .ok (.aload_n 0, 1) := by decide +kernel
theorem dX0_drawnAtEnd_1 : decode cX0_drawnAtEnd 1 = .ok (.getfield 25, 3) := by decide +kernel
theorem dX0_drawnAtEnd_4 : decode cX0_drawnAtEnd 4 = .ok (.getfield 86, 3) := by decide +kernel
theorem dX0_drawnAtEnd_7 : decode cX0_drawnAtEnd 7 = .ok (.iconst 2, 1) := by decide +kernel
theorem dX0_drawnAtEnd_8 : decode cX0_drawnAtEnd 8 = .ok (.iload_n 1, 1) := by decide +kernel
theorem dX0_drawnAtEnd_9 : decode cX0_drawnAtEnd 9 = .ok (.imul, 1) := by decide +kernel
theorem dX0_drawnAtEnd_10 : decode cX0_drawnAtEnd 10 = .ok (.iload_n 2, 1) := by decide +kernel
theorem dX0_drawnAtEnd_11 : decode cX0_drawnAtEnd 11 = .ok (.iadd, 1) := by decide +kernel
theorem dX0_drawnAtEnd_12 : decode cX0_drawnAtEnd 12 = .ok (.iaload, 1) := by decide +kernel
theorem dX0_drawnAtEnd_13 : decode cX0_drawnAtEnd 13 = .ok (.istore_n 3, 1) := by decide +kernel
theorem dX0_drawnAtEnd_14 : decode cX0_drawnAtEnd 14 = .ok (.aload_n 0, 1) := by decide +kernel
theorem dX0_drawnAtEnd_15 : decode cX0_drawnAtEnd 15 = .ok (.getfield 25, 3) := by decide +kernel
theorem dX0_drawnAtEnd_18 : decode cX0_drawnAtEnd 18 = .ok (.iload_n 3, 1) := by decide +kernel
theorem dX0_drawnAtEnd_19 : decode cX0_drawnAtEnd 19 = .ok (.invokevirtual 117, 3) := by decide +kernel
theorem dX0_drawnAtEnd_22 : decode cX0_drawnAtEnd 22 = .ok (.ifCond .eq 20, 3) := by decide +kernel
theorem dX0_drawnAtEnd_25 : decode cX0_drawnAtEnd 25 = .ok (.aload_n 0, 1) := by decide +kernel
theorem dX0_drawnAtEnd_26 : decode cX0_drawnAtEnd 26 = .ok (.getfield 25, 3) := by decide +kernel
theorem dX0_drawnAtEnd_29 : decode cX0_drawnAtEnd 29 = .ok (.getfield 120, 3) := by decide +kernel
theorem dX0_drawnAtEnd_32 : decode cX0_drawnAtEnd 32 = .ok (.iload_n 3, 1) := by decide +kernel
theorem dX0_drawnAtEnd_33 : decode cX0_drawnAtEnd 33 = .ok (.laload, 1) := by decide +kernel
theorem dX0_drawnAtEnd_34 : decode cX0_drawnAtEnd 34 = .ok (.aload_n 0, 1) := by decide +kernel
theorem dX0_drawnAtEnd_35 : decode cX0_drawnAtEnd 35 = .ok (.getfield 47, 3) := by decide +kernel
theorem dX0_drawnAtEnd_38 : decode cX0_drawnAtEnd 38 = .ok (.land, 1) := by decide +kernel
theorem dX0_drawnAtEnd_39 : decode cX0_drawnAtEnd 39 = .ok (.goto 4, 3) := by decide +kernel
theorem dX0_drawnAtEnd_42 : decode cX0_drawnAtEnd 42 = .ok (.lconst 0, 1) := by decide +kernel
theorem dX0_drawnAtEnd_43 : decode cX0_drawnAtEnd 43 = .ok (.lreturn, 1) := by decide +kernel
theorem dX0_meetsCounts_0 : decode cX0_meetsCounts 0 = .ok (.iconst 0, 1) := by decide +kernel
theorem dX0_meetsCounts_1 : decode cX0_meetsCounts 1 = .ok (.istore_n 3, 1) := by decide +kernel
theorem dX0_meetsCounts_2 : decode cX0_meetsCounts 2 = .ok (.iload_n 3, 1) := by decide +kernel
theorem dX0_meetsCounts_3 : decode cX0_meetsCounts 3 = .ok (.aload_n 0, 1) := by decide +kernel
theorem dX0_meetsCounts_4 : decode cX0_meetsCounts 4 = .ok (.getfield 25, 3) := by decide +kernel
theorem dX0_meetsCounts_7 : decode cX0_meetsCounts 7 = .ok (.getfield 59, 3) := by decide +kernel
theorem dX0_meetsCounts_10 : decode cX0_meetsCounts 10 = .ok (.if_icmp .ge 47, 3) := by decide +kernel
theorem dX0_meetsCounts_13 : decode cX0_meetsCounts 13 = .ok (.aload_n 0, 1) := by decide +kernel
theorem dX0_meetsCounts_14 : decode cX0_meetsCounts 14 = .ok (.getfield 25, 3) := by decide +kernel
theorem dX0_meetsCounts_17 : decode cX0_meetsCounts 17 = .ok (.getfield 100, 3) := by decide +kernel
theorem dX0_meetsCounts_20 : decode cX0_meetsCounts 20 = .ok (.iload_n 3, 1) := by decide +kernel
theorem dX0_meetsCounts_21 : decode cX0_meetsCounts 21 = .ok (.iaload, 1) := by decide +kernel
theorem dX0_meetsCounts_22 : decode cX0_meetsCounts 22 = .ok (.istore 4, 2) := by decide +kernel
theorem dX0_meetsCounts_24 : decode cX0_meetsCounts 24 = .ok (.iload 4, 2) := by decide +kernel
theorem dX0_meetsCounts_26 : decode cX0_meetsCounts 26 = .ok (.iconst (-1), 1) := by decide +kernel
theorem dX0_meetsCounts_27 : decode cX0_meetsCounts 27 = .ok (.if_icmp .eq 24, 3) := by decide +kernel
theorem dX0_meetsCounts_30 : decode cX0_meetsCounts 30 = .ok (.aload_n 0, 1) := by decide +kernel
theorem dX0_meetsCounts_31 : decode cX0_meetsCounts 31 = .ok (.getfield 25, 3) := by decide +kernel
theorem dX0_meetsCounts_34 : decode cX0_meetsCounts 34 = .ok (.getfield 103, 3) := by decide +kernel
theorem dX0_meetsCounts_37 : decode cX0_meetsCounts 37 = .ok (.iload_n 3, 1) := by decide +kernel
theorem dX0_meetsCounts_38 : decode cX0_meetsCounts 38 = .ok (.laload, 1) := by decide +kernel
theorem dX0_meetsCounts_39 : decode cX0_meetsCounts 39 = .ok (.lload_n 1, 1) := by decide +kernel
theorem dX0_meetsCounts_40 : decode cX0_meetsCounts 40 = .ok (.land, 1) := by decide +kernel
theorem dX0_meetsCounts_41 : decode cX0_meetsCounts 41 = .ok (.invokestatic 107, 3) := by decide +kernel
theorem dX0_meetsCounts_44 : decode cX0_meetsCounts 44 = .ok (.iload 4, 2) := by decide +kernel
theorem dX0_meetsCounts_46 : decode cX0_meetsCounts 46 = .ok (.if_icmp .eq 5, 3) := by decide +kernel
theorem dX0_meetsCounts_49 : decode cX0_meetsCounts 49 = .ok (.iconst 0, 1) := by decide +kernel
theorem dX0_meetsCounts_50 : decode cX0_meetsCounts 50 = .ok (.ireturn, 1) := by decide +kernel
theorem dX0_meetsCounts_51 : decode cX0_meetsCounts 51 = .ok (.iinc 3 1, 3) := by decide +kernel
theorem dX0_meetsCounts_54 : decode cX0_meetsCounts 54 = .ok (.goto (-52), 3) := by decide +kernel
theorem dX0_meetsCounts_57 : decode cX0_meetsCounts 57 = .ok (.iconst 1, 1) := by decide +kernel
theorem dX0_meetsCounts_58 : decode cX0_meetsCounts 58 = .ok (.ireturn, 1) := by decide +kernel
theorem dX0_found_0 : decode cX0_found 0 = .ok (.aload_n 0, 1) := by decide +kernel
theorem dX0_found_1 : decode cX0_found 1 = .ok (.iload_n 1, 1) := by decide +kernel
theorem dX0_found_2 : decode cX0_found 2 = .ok (.putfield 15, 3) := by decide +kernel
theorem dX0_found_5 : decode cX0_found 5 = .ok (.aload_n 0, 1) := by decide +kernel
theorem dX0_found_6 : decode cX0_found 6 = .ok (.iload_n 2, 1) := by decide +kernel
theorem dX0_found_7 : decode cX0_found 7 = .ok (.putfield 19, 3) := by decide +kernel
theorem dX0_found_10 : decode cX0_found 10 = .ok (.aload_n 0, 1) := by decide +kernel
theorem dX0_found_11 : decode cX0_found 11 = .ok (.iload_n 3, 1) := by decide +kernel
theorem dX0_found_12 : decode cX0_found 12 = .ok (.putfield 22, 3) := by decide +kernel
theorem dX0_found_15 : decode cX0_found 15 = .ok (.return_, 1) := by decide +kernel
theorem dX0_makeFound_0 : decode cX0_makeFound 0 = .ok (.aload_n 0, 1) := by decide +kernel
theorem dX0_makeFound_1 : decode cX0_makeFound 1 = .ok (.aload_n 0, 1) := by decide +kernel
theorem dX0_makeFound_2 : decode cX0_makeFound 2 = .ok (.getfield 19, 3) := by decide +kernel
theorem dX0_makeFound_5 : decode cX0_makeFound 5 = .ok (.aload_n 0, 1) := by decide +kernel
theorem dX0_makeFound_6 : decode cX0_makeFound 6 = .ok (.getfield 15, 3) := by decide +kernel
theorem dX0_makeFound_9 : decode cX0_makeFound 9 = .ok (.invokestatic 144, 3) := by decide +kernel
theorem dX0_makeFound_12 : decode cX0_makeFound 12 = .ok (.invokevirtual 148, 3) := by decide +kernel
theorem dX0_makeFound_15 : decode cX0_makeFound 15 = .ok (.return_, 1) := by decide +kernel
theorem dX0_settle_0 : decode cX0_settle 0 = .ok (.iconst 0, 1) := by decide +kernel
theorem dX0_settle_1 : decode cX0_settle 1 = .ok (.istore_n 1, 1) := by decide +kernel
theorem dX0_settle_2 : decode cX0_settle 2 = .ok (.iload_n 1, 1) := by decide +kernel
theorem dX0_settle_3 : decode cX0_settle 3 = .ok (.bipush 40, 2) := by decide +kernel
theorem dX0_settle_5 : decode cX0_settle 5 = .ok (.if_icmp .ge 40, 3) := by decide +kernel
theorem dX0_settle_8 : decode cX0_settle 8 = .ok (.aload_n 0, 1) := by decide +kernel
theorem dX0_settle_9 : decode cX0_settle 9 = .ok (.iconst 4, 1) := by decide +kernel
theorem dX0_settle_10 : decode cX0_settle 10 = .ok (.invokevirtual 152, 3) := by decide +kernel
theorem dX0_settle_13 : decode cX0_settle 13 = .ok (.ifCond .ne 11, 3) := by decide +kernel
theorem dX0_settle_16 : decode cX0_settle 16 = .ok (.aload_n 0, 1) := by decide +kernel
theorem dX0_settle_17 : decode cX0_settle 17 = .ok (.invokevirtual 155, 3) := by decide +kernel
theorem dX0_settle_20 : decode cX0_settle 20 = .ok (.ifCond .ne 4, 3) := by decide +kernel
theorem dX0_settle_23 : decode cX0_settle 23 = .ok (.return_, 1) := by decide +kernel
theorem dX0_settle_24 : decode cX0_settle 24 = .ok (.aload_n 0, 1) := by decide +kernel
theorem dX0_settle_25 : decode cX0_settle 25 = .ok (.aload_n 0, 1) := by decide +kernel
theorem dX0_settle_26 : decode cX0_settle 26 = .ok (.getfield 19, 3) := by decide +kernel
theorem dX0_settle_29 : decode cX0_settle 29 = .ok (.aload_n 0, 1) := by decide +kernel
theorem dX0_settle_30 : decode cX0_settle 30 = .ok (.getfield 15, 3) := by decide +kernel
theorem dX0_settle_33 : decode cX0_settle 33 = .ok (.invokestatic 144, 3) := by decide +kernel
theorem dX0_settle_36 : decode cX0_settle 36 = .ok (.invokevirtual 148, 3) := by decide +kernel
theorem dX0_settle_39 : decode cX0_settle 39 = .ok (.iinc 1 1, 3) := by decide +kernel
theorem dX0_settle_42 : decode cX0_settle 42 = .ok (.goto (-40), 3) := by decide +kernel
theorem dX0_settle_45 : decode cX0_settle 45 = .ok (.return_, 1) := by decide +kernel
theorem dX1_init_0 : decode cX1_init 0 = .ok (.aload_n 0, 1) := by decide +kernel
theorem dX1_init_1 : decode cX1_init 1 = .ok (.invokespecial 3, 3) := by decide +kernel
theorem dX1_init_4 : decode cX1_init 4 = .ok (.aload_n 0, 1) := by decide +kernel
theorem dX1_init_5 : decode cX1_init 5 = .ok (.bipush 16, 2) := by decide +kernel
theorem dX1_init_7 : decode cX1_init 7 = .ok (.newarray .int, 2) := by decide +kernel
theorem dX1_init_9 : decode cX1_init 9 = .ok (.putfield 9, 3) := by decide +kernel
theorem dX1_init_12 : decode cX1_init 12 = .ok (.aload_n 0, 1) := by decide +kernel
theorem dX1_init_13 : decode cX1_init 13 = .ok (.bipush 16, 2) := by decide +kernel
theorem dX1_init_15 : decode cX1_init 15 = .ok (.newarray .long, 2) := by decide +kernel
theorem dX1_init_17 : decode cX1_init 17 = .ok (.putfield 15, 3) := by decide +kernel
theorem dX1_init_20 : decode cX1_init 20 = .ok (.aload_n 0, 1) := by decide +kernel
theorem dX1_init_21 : decode cX1_init 21 = .ok (.bipush 25, 2) := by decide +kernel
theorem dX1_init_23 : decode cX1_init 23 = .ok (.newarray .long, 2) := by decide +kernel
theorem dX1_init_25 : decode cX1_init 25 = .ok (.putfield 19, 3) := by decide +kernel
theorem dX1_init_28 : decode cX1_init 28 = .ok (.aload_n 0, 1) := by decide +kernel
theorem dX1_init_29 : decode cX1_init 29 = .ok (.bipush 80, 2) := by decide +kernel
theorem dX1_init_31 : decode cX1_init 31 = .ok (.newarray .int, 2) := by decide +kernel
theorem dX1_init_33 : decode cX1_init 33 = .ok (.putfield 22, 3) := by decide +kernel
theorem dX1_init_36 : decode cX1_init 36 = .ok (.aload_n 0, 1) := by decide +kernel
theorem dX1_init_37 : decode cX1_init 37 = .ok (.bipush 80, 2) := by decide +kernel
theorem dX1_init_39 : decode cX1_init 39 = .ok (.newarray .int, 2) := by decide +kernel
theorem dX1_init_41 : decode cX1_init 41 = .ok (.putfield 25, 3) := by decide +kernel
theorem dX1_init_44 : decode cX1_init 44 = .ok (.return_, 1) := by decide +kernel
theorem dX1_hasCell_0 : decode cX1_hasCell 0 = .ok (.iload_n 1, 1) := by decide +kernel
theorem dX1_hasCell_1 : decode cX1_hasCell 1 = .ok (.ifCond .lt 15, 3) := by decide +kernel
theorem dX1_hasCell_4 : decode cX1_hasCell 4 = .ok (.iload_n 1, 1) := by decide +kernel
theorem dX1_hasCell_5 : decode cX1_hasCell 5 = .ok (.aload_n 0, 1) := by decide +kernel
theorem dX1_hasCell_6 : decode cX1_hasCell 6 = .ok (.getfield 28, 3) := by decide +kernel
theorem dX1_hasCell_9 : decode cX1_hasCell 9 = .ok (.if_icmp .ge 7, 3) := by decide +kernel
theorem dX1_hasCell_12 : decode cX1_hasCell 12 = .ok (.iconst 1, 1) := by decide +kernel
theorem dX1_hasCell_13 : decode cX1_hasCell 13 = .ok (.goto 4, 3) := by decide +kernel
theorem dX1_hasCell_16 : decode cX1_hasCell 16 = .ok (.iconst 0, 1) := by decide +kernel
theorem dX1_hasCell_17 : decode cX1_hasCell 17 = .ok (.ireturn, 1) := by decide +kernel
theorem dX1_hasCorner_0 : decode cX1_hasCorner 0 = .ok (.iload_n 1, 1) := by decide +kernel
theorem dX1_hasCorner_1 : decode cX1_hasCorner 1 = .ok (.ifCond .lt 15, 3) := by decide +kernel
theorem dX1_hasCorner_4 : decode cX1_hasCorner 4 = .ok (.iload_n 1, 1) := by decide +kernel
theorem dX1_hasCorner_5 : decode cX1_hasCorner 5 = .ok (.aload_n 0, 1) := by decide +kernel
theorem dX1_hasCorner_6 : decode cX1_hasCorner 6 = .ok (.getfield 32, 3) := by decide +kernel
theorem dX1_hasCorner_9 : decode cX1_hasCorner 9 = .ok (.if_icmp .ge 7, 3) := by decide +kernel
theorem dX1_hasCorner_12 : decode cX1_hasCorner 12 = .ok (.iconst 1, 1) := by decide +kernel
theorem dX1_hasCorner_13 : decode cX1_hasCorner 13 = .ok (.goto 4, 3) := by decide +kernel
theorem dX1_hasCorner_16 : decode cX1_hasCorner 16 = .ok (.iconst 0, 1) := by decide +kernel
theorem dX1_hasCorner_17 : decode cX1_hasCorner 17 = .ok (.ireturn, 1) := by decide +kernel
theorem dX1_hasEdge_0 : decode cX1_hasEdge 0 = .ok (.iload_n 1, 1) := by decide +kernel
theorem dX1_hasEdge_1 : decode cX1_hasEdge 1 = .ok (.ifCond .lt 15, 3) := by decide +kernel
theorem dX1_hasEdge_4 : decode cX1_hasEdge 4 = .ok (.iload_n 1, 1) := by decide +kernel
theorem dX1_hasEdge_5 : decode cX1_hasEdge 5 = .ok (.aload_n 0, 1) := by decide +kernel
theorem dX1_hasEdge_6 : decode cX1_hasEdge 6 = .ok (.getfield 35, 3) := by decide +kernel
theorem dX1_hasEdge_9 : decode cX1_hasEdge 9 = .ok (.if_icmp .ge 7, 3) := by decide +kernel
theorem dX1_hasEdge_12 : decode cX1_hasEdge 12 = .ok (.iconst 1, 1) := by decide +kernel
theorem dX1_hasEdge_13 : decode cX1_hasEdge 13 = .ok (.goto 4, 3) := by decide +kernel
theorem dX1_hasEdge_16 : decode cX1_hasEdge 16 = .ok (.iconst 0, 1) := by decide +kernel
theorem dX1_hasEdge_17 : decode cX1_hasEdge 17 = .ok (.ireturn, 1) := by decide +kernel
theorem dX1_allEdges_0 : decode cX1_allEdges 0 = .ok (.lconst 1, 1) := by decide +kernel
theorem dX1_allEdges_1 : decode cX1_allEdges 1 = .ok (.aload_n 0, 1) := by decide +kernel
theorem dX1_allEdges_2 : decode cX1_allEdges 2 = .ok (.getfield 35, 3) := by decide +kernel
theorem dX1_allEdges_5 : decode cX1_allEdges 5 = .ok (.lshl, 1) := by decide +kernel
theorem dX1_allEdges_6 : decode cX1_allEdges 6 = .ok (.lconst 1, 1) := by decide +kernel
theorem dX1_allEdges_7 : decode cX1_allEdges 7 = .ok (.lsub, 1) := by decide +kernel
theorem dX1_allEdges_8 : decode cX1_allEdges 8 = .ok (.lreturn, 1) := by decide +kernel
theorem dX1_countedCells_0 : decode cX1_countedCells 0 = .ok (.iconst 0, 1) := by decide +kernel
theorem dX1_countedCells_1 : decode cX1_countedCells 1 = .ok (.istore_n 1, 1) := by decide +kernel
theorem dX1_countedCells_2 : decode cX1_countedCells 2 = .ok (.iconst 0, 1) := by decide +kernel
theorem dX1_countedCells_3 : decode cX1_countedCells 3 = .ok (.istore_n 2, 1) := by decide +kernel
theorem dX1_countedCells_4 : decode cX1_countedCells 4 = .ok (.iload_n 2, 1) := by decide +kernel
theorem dX1_countedCells_5 : decode cX1_countedCells 5 = .ok (.aload_n 0, 1) := by decide +kernel
theorem dX1_countedCells_6 : decode cX1_countedCells 6 = .ok (.getfield 28, 3) := by decide +kernel
theorem dX1_countedCells_9 : decode cX1_countedCells 9 = .ok (.if_icmp .ge 22, 3) := by decide +kernel
theorem dX1_countedCells_12 : decode cX1_countedCells 12 = .ok (.aload_n 0, 1) := by decide +kernel
theorem dX1_countedCells_13 : decode cX1_countedCells 13 = .ok (.getfield 9, 3) := by decide +kernel
theorem dX1_countedCells_16 : decode cX1_countedCells 16 = .ok (.iload_n 2, 1) := by decide +kernel
theorem dX1_countedCells_17 : decode cX1_countedCells 17 = .ok (.iaload, 1) := by decide +kernel
theorem dX1_countedCells_18 : decode cX1_countedCells 18 = .ok (.iconst (-1), 1) := by decide +kernel
theorem dX1_countedCells_19 : decode cX1_countedCells 19 = .ok (.if_icmp .eq 6, 3) := by decide +kernel
theorem dX1_countedCells_22 : decode cX1_countedCells 22 = .ok (.iinc 1 1, 3) := by decide +kernel
theorem dX1_countedCells_25 : decode cX1_countedCells 25 = .ok (.iinc 2 1, 3) := by decide +kernel
theorem dX1_countedCells_28 : decode cX1_countedCells 28 = .ok (.goto (-24), 3) := by decide +kernel
theorem dX1_countedCells_31 : decode cX1_countedCells 31 = .ok (.iload_n 1, 1) := by decide +kernel
theorem dX1_countedCells_32 : decode cX1_countedCells 32 = .ok (.ireturn, 1) := by decide +kernel
theorem dX1_lay_0 : decode cX1_lay 0 = .ok (.aload_n 0, 1) := by decide +kernel
theorem dX1_lay_1 : decode cX1_lay 1 = .ok (.iconst 1, 1) := by decide +kernel
theorem dX1_lay_2 : decode cX1_lay 2 = .ok (.iconst 4, 1) := by decide +kernel
theorem dX1_lay_3 : decode cX1_lay 3 = .ok (.iload_n 1, 1) := by decide +kernel
theorem dX1_lay_4 : decode cX1_lay 4 = .ok (.invokestatic 38, 3) := by decide +kernel
theorem dX1_lay_7 : decode cX1_lay 7 = .ok (.invokestatic 44, 3) := by decide +kernel
theorem dX1_lay_10 : decode cX1_lay 10 = .ok (.putfield 47, 3) := by decide +kernel
theorem dX1_lay_13 : decode cX1_lay 13 = .ok (.aload_n 0, 1) := by decide +kernel
theorem dX1_lay_14 : decode cX1_lay 14 = .ok (.iconst 1, 1) := by decide +kernel
theorem dX1_lay_15 : decode cX1_lay 15 = .ok (.iconst 4, 1) := by decide +kernel
theorem dX1_lay_16 : decode cX1_lay 16 = .ok (.iload_n 2, 1) := by decide +kernel
theorem dX1_lay_17 : decode cX1_lay 17 = .ok (.invokestatic 38, 3) := by decide +kernel
theorem dX1_lay_20 : decode cX1_lay 20 = .ok (.invokestatic 44, 3) := by decide +kernel
theorem dX1_lay_23 : decode cX1_lay 23 = .ok (.putfield 50, 3) := by decide +kernel
theorem dX1_lay_26 : decode cX1_lay 26 = .ok (.aload_n 0, 1) := by decide +kernel
theorem dX1_lay_27 : decode cX1_lay 27 = .ok (.aload_n 0, 1) := by decide +kernel
theorem dX1_lay_28 : decode cX1_lay 28 = .ok (.getfield 47, 3) := by decide +kernel
theorem dX1_lay_31 : decode cX1_lay 31 = .ok (.aload_n 0, 1) := by decide +kernel
theorem dX1_lay_32 : decode cX1_lay 32 = .ok (.getfield 50, 3) := by decide +kernel
theorem dX1_lay_35 : decode cX1_lay 35 = .ok (.imul, 1) := by decide +kernel
theorem dX1_lay_36 : decode cX1_lay 36 = .ok (.putfield 28, 3) := by decide +kernel
theorem dX1_lay_39 : decode cX1_lay 39 = .ok (.aload_n 0, 1) := by decide +kernel
theorem dX1_lay_40 : decode cX1_lay 40 = .ok (.aload_n 0, 1) := by decide +kernel
theorem dX1_lay_41 : decode cX1_lay 41 = .ok (.getfield 47, 3) := by decide +kernel
theorem dX1_lay_44 : decode cX1_lay 44 = .ok (.iconst 1, 1) := by decide +kernel
theorem dX1_lay_45 : decode cX1_lay 45 = .ok (.iadd, 1) := by decide +kernel
theorem dX1_lay_46 : decode cX1_lay 46 = .ok (.aload_n 0, 1) := by decide +kernel
theorem dX1_lay_47 : decode cX1_lay 47 = .ok (.getfield 50, 3) := by decide +kernel
theorem dX1_lay_50 : decode cX1_lay 50 = .ok (.iconst 1, 1) := by decide +kernel
theorem dX1_lay_51 : decode cX1_lay 51 = .ok (.iadd, 1) := by decide +kernel
theorem dX1_lay_52 : decode cX1_lay 52 = .ok (.imul, 1) := by decide +kernel
theorem dX1_lay_53 : decode cX1_lay 53 = .ok (.putfield 32, 3) := by decide +kernel
theorem dX1_lay_56 : decode cX1_lay 56 = .ok (.aload_n 0, 1) := by decide +kernel
theorem dX1_lay_57 : decode cX1_lay 57 = .ok (.aload_n 0, 1) := by decide +kernel
theorem dX1_lay_58 : decode cX1_lay 58 = .ok (.getfield 50, 3) := by decide +kernel
theorem dX1_lay_61 : decode cX1_lay 61 = .ok (.iconst 1, 1) := by decide +kernel
theorem dX1_lay_62 : decode cX1_lay 62 = .ok (.iadd, 1) := by decide +kernel
theorem dX1_lay_63 : decode cX1_lay 63 = .ok (.aload_n 0, 1) := by decide +kernel
theorem dX1_lay_64 : decode cX1_lay 64 = .ok (.getfield 47, 3) := by decide +kernel
theorem dX1_lay_67 : decode cX1_lay 67 = .ok (.imul, 1) := by decide +kernel
theorem dX1_lay_68 : decode cX1_lay 68 = .ok (.aload_n 0, 1) := by decide +kernel
theorem dX1_lay_69 : decode cX1_lay 69 = .ok (.getfield 50, 3) := by decide +kernel
theorem dX1_lay_72 : decode cX1_lay 72 = .ok (.aload_n 0, 1) := by decide +kernel
theorem dX1_lay_73 : decode cX1_lay 73 = .ok (.getfield 47, 3) := by decide +kernel
theorem dX1_lay_76 : decode cX1_lay 76 = .ok (.iconst 1, 1) := by decide +kernel
theorem dX1_lay_77 : decode cX1_lay 77 = .ok (.iadd, 1) := by decide +kernel
theorem dX1_lay_78 : decode cX1_lay 78 = .ok (.imul, 1) := by decide +kernel
theorem dX1_lay_79 : decode cX1_lay 79 = .ok (.iadd, 1) := by decide +kernel
theorem dX1_lay_80 : decode cX1_lay 80 = .ok (.putfield 35, 3) := by decide +kernel
theorem dX1_lay_83 : decode cX1_lay 83 = .ok (.iconst 0, 1) := by decide +kernel
theorem dX1_lay_84 : decode cX1_lay 84 = .ok (.istore_n 3, 1) := by decide +kernel
theorem dX1_lay_85 : decode cX1_lay 85 = .ok (.iload_n 3, 1) := by decide +kernel
theorem dX1_lay_86 : decode cX1_lay 86 = .ok (.bipush 16, 2) := by decide +kernel
theorem dX1_lay_88 : decode cX1_lay 88 = .ok (.if_icmp .ge 23, 3) := by decide +kernel
theorem dX1_lay_91 : decode cX1_lay 91 = .ok (.aload_n 0, 1) := by decide +kernel
theorem dX1_lay_92 : decode cX1_lay 92 = .ok (.getfield 9, 3) := by decide +kernel
theorem dX1_lay_95 : decode cX1_lay 95 = .ok (.iload_n 3, 1) := by decide +kernel
theorem dX1_lay_96 : decode cX1_lay 96 = .ok (.iconst (-1), 1) := by decide +kernel
theorem dX1_lay_97 : decode cX1_lay 97 = .ok (.iastore, 1) := by decide +kernel
theorem dX1_lay_98 : decode cX1_lay 98 = .ok (.aload_n 0, 1) := by decide +kernel
theorem dX1_lay_99 : decode cX1_lay 99 = .ok (.getfield 15, 3) := by decide +kernel
theorem dX1_lay_102 : decode cX1_lay 102 = .ok (.iload_n 3, 1) := by decide +kernel
theorem dX1_lay_103 : decode cX1_lay 103 = .ok (.lconst 0, 1) := by decide +kernel
theorem dX1_lay_104 : decode cX1_lay 104 = .ok (.lastore, 1) := by decide +kernel
theorem dX1_lay_105 : decode cX1_lay 105 = .ok (.iinc 3 1, 3) := by decide +kernel
theorem dX1_lay_108 : decode cX1_lay 108 = .ok (.goto (-23), 3) := by decide +kernel
theorem dX1_lay_111 : decode cX1_lay 111 = .ok (.iconst 0, 1) := by decide +kernel
theorem dX1_lay_112 : decode cX1_lay 112 = .ok (.istore_n 3, 1) := by decide +kernel
theorem dX1_lay_113 : decode cX1_lay 113 = .ok (.iload_n 3, 1) := by decide +kernel
theorem dX1_lay_114 : decode cX1_lay 114 = .ok (.bipush 25, 2) := by decide +kernel
theorem dX1_lay_116 : decode cX1_lay 116 = .ok (.if_icmp .ge 16, 3) := by decide +kernel
theorem dX1_lay_119 : decode cX1_lay 119 = .ok (.aload_n 0, 1) := by decide +kernel
theorem dX1_lay_120 : decode cX1_lay 120 = .ok (.getfield 19, 3) := by decide +kernel
theorem dX1_lay_123 : decode cX1_lay 123 = .ok (.iload_n 3, 1) := by decide +kernel
theorem dX1_lay_124 : decode cX1_lay 124 = .ok (.lconst 0, 1) := by decide +kernel
theorem dX1_lay_125 : decode cX1_lay 125 = .ok (.lastore, 1) := by decide +kernel
theorem dX1_lay_126 : decode cX1_lay 126 = .ok (.iinc 3 1, 3) := by decide +kernel
theorem dX1_lay_129 : decode cX1_lay 129 = .ok (.goto (-16), 3) := by decide +kernel
theorem dX1_lay_132 : decode cX1_lay 132 = .ok (.iconst 0, 1) := by decide +kernel
theorem dX1_lay_133 : decode cX1_lay 133 = .ok (.istore_n 3, 1) := by decide +kernel
theorem dX1_lay_134 : decode cX1_lay 134 = .ok (.iload_n 3, 1) := by decide +kernel
theorem dX1_lay_135 : decode cX1_lay 135 = .ok (.aload_n 0, 1) := by decide +kernel
theorem dX1_lay_136 : decode cX1_lay 136 = .ok (.getfield 50, 3) := by decide +kernel
theorem dX1_lay_139 : decode cX1_lay 139 = .ok (.if_icmp .gt 34, 3) := by decide +kernel
theorem dX1_lay_142 : decode cX1_lay 142 = .ok (.iconst 0, 1) := by decide +kernel
theorem dX1_lay_143 : decode cX1_lay 143 = .ok (.istore 4, 2) := by decide +kernel
theorem dX1_lay_145 : decode cX1_lay 145 = .ok (.iload 4, 2) := by decide +kernel
theorem dX1_lay_147 : decode cX1_lay 147 = .ok (.aload_n 0, 1) := by decide +kernel
theorem dX1_lay_148 : decode cX1_lay 148 = .ok (.getfield 47, 3) := by decide +kernel
theorem dX1_lay_151 : decode cX1_lay 151 = .ok (.if_icmp .gt 16, 3) := by decide +kernel
theorem dX1_lay_154 : decode cX1_lay 154 = .ok (.aload_n 0, 1) := by decide +kernel
theorem dX1_lay_155 : decode cX1_lay 155 = .ok (.iload_n 3, 1) := by decide +kernel
theorem dX1_lay_156 : decode cX1_lay 156 = .ok (.iload 4, 2) := by decide +kernel
theorem dX1_lay_158 : decode cX1_lay 158 = .ok (.invokevirtual 53, 3) := by decide +kernel
theorem dX1_lay_161 : decode cX1_lay 161 = .ok (.iinc 4 1, 3) := by decide +kernel
theorem dX1_lay_164 : decode cX1_lay 164 = .ok (.goto (-19), 3) := by decide +kernel
theorem dX1_lay_167 : decode cX1_lay 167 = .ok (.iinc 3 1, 3) := by decide +kernel
theorem dX1_lay_170 : decode cX1_lay 170 = .ok (.goto (-36), 3) := by decide +kernel
theorem dX1_lay_173 : decode cX1_lay 173 = .ok (.return_, 1) := by decide +kernel
theorem dX1_layEdgesFrom_0 : decode cX1_layEdgesFrom 0 = .ok (.iload_n 1, 1) := by decide +kernel
theorem dX1_layEdgesFrom_1 : decode cX1_layEdgesFrom 1 = .ok (.aload_n 0, 1) := by decide +kernel
theorem dX1_layEdgesFrom_2 : decode cX1_layEdgesFrom 2 = .ok (.getfield 47, 3) := by decide +kernel
theorem dX1_layEdgesFrom_5 : decode cX1_layEdgesFrom 5 = .ok (.iconst 1, 1) := by decide +kernel
theorem dX1_layEdgesFrom_6 : decode cX1_layEdgesFrom 6 = .ok (.iadd, 1) := by decide +kernel
theorem dX1_layEdgesFrom_7 : decode cX1_layEdgesFrom 7 = .ok (.imul, 1) := by decide +kernel
theorem dX1_layEdgesFrom_8 : decode cX1_layEdgesFrom 8 = .ok (.iload_n 2, 1) := by decide +kernel
theorem dX1_layEdgesFrom_9 : decode cX1_layEdgesFrom 9 = .ok (.iadd, 1) := by decide +kernel
theorem dX1_layEdgesFrom_10 : decode cX1_layEdgesFrom 10 = .ok (.istore_n 3, 1) := by decide +kernel
theorem dX1_layEdgesFrom_11 : decode cX1_layEdgesFrom 11 = .ok (.aload_n 0, 1) := by decide +kernel
theorem dX1_layEdgesFrom_12 : decode cX1_layEdgesFrom 12 = .ok (.iload_n 1, 1) := by decide +kernel
theorem dX1_layEdgesFrom_13 : decode cX1_layEdgesFrom 13 = .ok (.iload_n 2, 1) := by decide +kernel
theorem dX1_layEdgesFrom_14 : decode cX1_layEdgesFrom 14 = .ok (.invokevirtual 57, 3) := by decide +kernel
theorem dX1_layEdgesFrom_17 : decode cX1_layEdgesFrom 17 = .ok (.istore 4, 2) := by decide +kernel
theorem dX1_layEdgesFrom_19 : decode cX1_layEdgesFrom 19 = .ok (.iload_n 2, 1) := by decide +kernel
theorem dX1_layEdgesFrom_20 : decode cX1_layEdgesFrom 20 = .ok (.aload_n 0, 1) := by decide +kernel
theorem dX1_layEdgesFrom_21 : decode cX1_layEdgesFrom 21 = .ok (.getfield 47, 3) := by decide +kernel
theorem dX1_layEdgesFrom_24 : decode cX1_layEdgesFrom 24 = .ok (.if_icmp .ge 29, 3) := by decide +kernel
theorem dX1_layEdgesFrom_27 : decode cX1_layEdgesFrom 27 = .ok (.aload_n 0, 1) := by decide +kernel
theorem dX1_layEdgesFrom_28 : decode cX1_layEdgesFrom 28 = .ok (.iload_n 1, 1) := by decide +kernel
theorem dX1_layEdgesFrom_29 : decode cX1_layEdgesFrom 29 = .ok (.aload_n 0, 1) := by decide +kernel
theorem dX1_layEdgesFrom_30 : decode cX1_layEdgesFrom 30 = .ok (.getfield 47, 3) := by decide +kernel
theorem dX1_layEdgesFrom_33 : decode cX1_layEdgesFrom 33 = .ok (.imul, 1) := by decide +kernel
theorem dX1_layEdgesFrom_34 : decode cX1_layEdgesFrom 34 = .ok (.iload_n 2, 1) := by decide +kernel
theorem dX1_layEdgesFrom_35 : decode cX1_layEdgesFrom 35 = .ok (.iadd, 1) := by decide +kernel
theorem dX1_layEdgesFrom_36 : decode cX1_layEdgesFrom 36 = .ok (.iload_n 3, 1) := by decide +kernel
theorem dX1_layEdgesFrom_37 : decode cX1_layEdgesFrom 37 = .ok (.iload_n 3, 1) := by decide +kernel
theorem dX1_layEdgesFrom_38 : decode cX1_layEdgesFrom 38 = .ok (.iconst 1, 1) := by decide +kernel
theorem dX1_layEdgesFrom_39 : decode cX1_layEdgesFrom 39 = .ok (.iadd, 1) := by decide +kernel
theorem dX1_layEdgesFrom_40 : decode cX1_layEdgesFrom 40 = .ok (.aload_n 0, 1) := by decide +kernel
theorem dX1_layEdgesFrom_41 : decode cX1_layEdgesFrom 41 = .ok (.iload_n 1, 1) := by decide +kernel
theorem dX1_layEdgesFrom_42 : decode cX1_layEdgesFrom 42 = .ok (.iconst 1, 1) := by decide +kernel
theorem dX1_layEdgesFrom_43 : decode cX1_layEdgesFrom 43 = .ok (.isub, 1) := by decide +kernel
theorem dX1_layEdgesFrom_44 : decode cX1_layEdgesFrom 44 = .ok (.iload_n 2, 1) := by decide +kernel
theorem dX1_layEdgesFrom_45 : decode cX1_layEdgesFrom 45 = .ok (.invokevirtual 57, 3) := by decide +kernel
theorem dX1_layEdgesFrom_48 : decode cX1_layEdgesFrom 48 = .ok (.iload 4, 2) := by decide +kernel
theorem dX1_layEdgesFrom_50 : decode cX1_layEdgesFrom 50 = .ok (.invokevirtual 60, 3) := by decide +kernel
theorem dX1_layEdgesFrom_53 : decode cX1_layEdgesFrom 53 = .ok (.iload_n 1, 1) := by decide +kernel
theorem dX1_layEdgesFrom_54 : decode cX1_layEdgesFrom 54 = .ok (.aload_n 0, 1) := by decide +kernel
theorem dX1_layEdgesFrom_55 : decode cX1_layEdgesFrom 55 = .ok (.getfield 50, 3) := by decide +kernel
theorem dX1_layEdgesFrom_58 : decode cX1_layEdgesFrom 58 = .ok (.if_icmp .ge 43, 3) := by decide +kernel
theorem dX1_layEdgesFrom_61 : decode cX1_layEdgesFrom 61 = .ok (.aload_n 0, 1) := by decide +kernel
theorem dX1_layEdgesFrom_62 : decode cX1_layEdgesFrom 62 = .ok (.getfield 50, 3) := by decide +kernel
theorem dX1_layEdgesFrom_65 : decode cX1_layEdgesFrom 65 = .ok (.iconst 1, 1) := by decide +kernel
theorem dX1_layEdgesFrom_66 : decode cX1_layEdgesFrom 66 = .ok (.iadd, 1) := by decide +kernel
theorem dX1_layEdgesFrom_67 : decode cX1_layEdgesFrom 67 = .ok (.aload_n 0, 1) := by decide +kernel
theorem dX1_layEdgesFrom_68 : decode cX1_layEdgesFrom 68 = .ok (.getfield 47, 3) := by decide +kernel
theorem dX1_layEdgesFrom_71 : decode cX1_layEdgesFrom 71 = .ok (.imul, 1) := by decide +kernel
theorem dX1_layEdgesFrom_72 : decode cX1_layEdgesFrom 72 = .ok (.iload_n 3, 1) := by decide +kernel
theorem dX1_layEdgesFrom_73 : decode cX1_layEdgesFrom 73 = .ok (.iadd, 1) := by decide +kernel
theorem dX1_layEdgesFrom_74 : decode cX1_layEdgesFrom 74 = .ok (.istore 5, 2) := by decide +kernel
theorem dX1_layEdgesFrom_76 : decode cX1_layEdgesFrom 76 = .ok (.aload_n 0, 1) := by decide +kernel
theorem dX1_layEdgesFrom_77 : decode cX1_layEdgesFrom 77 = .ok (.iload 5, 2) := by decide +kernel
theorem dX1_layEdgesFrom_79 : decode cX1_layEdgesFrom 79 = .ok (.iload_n 3, 1) := by decide +kernel
theorem dX1_layEdgesFrom_80 : decode cX1_layEdgesFrom 80 = .ok (.iload_n 3, 1) := by decide +kernel
theorem dX1_layEdgesFrom_81 : decode cX1_layEdgesFrom 81 = .ok (.aload_n 0, 1) := by decide +kernel
theorem dX1_layEdgesFrom_82 : decode cX1_layEdgesFrom 82 = .ok (.getfield 47, 3) := by decide +kernel
theorem dX1_layEdgesFrom_85 : decode cX1_layEdgesFrom 85 = .ok (.iadd, 1) := by decide +kernel
theorem dX1_layEdgesFrom_86 : decode cX1_layEdgesFrom 86 = .ok (.iconst 1, 1) := by decide +kernel
theorem dX1_layEdgesFrom_87 : decode cX1_layEdgesFrom 87 = .ok (.iadd, 1) := by decide +kernel
theorem dX1_layEdgesFrom_88 : decode cX1_layEdgesFrom 88 = .ok (.aload_n 0, 1) := by decide +kernel
theorem dX1_layEdgesFrom_89 : decode cX1_layEdgesFrom 89 = .ok (.iload_n 1, 1) := by decide +kernel
theorem dX1_layEdgesFrom_90 : decode cX1_layEdgesFrom 90 = .ok (.iload_n 2, 1) := by decide +kernel
theorem dX1_layEdgesFrom_91 : decode cX1_layEdgesFrom 91 = .ok (.iconst 1, 1) := by decide +kernel
theorem dX1_layEdgesFrom_92 : decode cX1_layEdgesFrom 92 = .ok (.isub, 1) := by decide +kernel
theorem dX1_layEdgesFrom_93 : decode cX1_layEdgesFrom 93 = .ok (.invokevirtual 57, 3) := by decide +kernel
theorem dX1_layEdgesFrom_96 : decode cX1_layEdgesFrom 96 = .ok (.iload 4, 2) := by decide +kernel
theorem dX1_layEdgesFrom_98 : decode cX1_layEdgesFrom 98 = .ok (.invokevirtual 60, 3) := by decide +kernel
theorem dX1_layEdgesFrom_101 : decode cX1_layEdgesFrom 101 = .ok (.return_, 1) := by decide +kernel
theorem dX1_cellAt_0 : decode cX1_cellAt 0 = .ok (.iload_n 1, 1) := by decide +kernel
theorem dX1_cellAt_1 : decode cX1_cellAt 1 = .ok (.ifCond .lt 27, 3) := by decide +kernel
theorem dX1_cellAt_4 : decode cX1_cellAt 4 = .ok (.iload_n 1, 1) := by decide +kernel
theorem dX1_cellAt_5 : decode cX1_cellAt 5 = .ok (.aload_n 0, 1) := by decide +kernel
theorem dX1_cellAt_6 : decode cX1_cellAt 6 = .ok (.getfield 50, 3) := by decide +kernel
theorem dX1_cellAt_9 : decode cX1_cellAt 9 = .ok (.if_icmp .ge 19, 3) := by decide +kernel
theorem dX1_cellAt_12 : decode cX1_cellAt 12 = .ok (.iload_n 2, 1) := by decide +kernel
theorem dX1_cellAt_13 : decode cX1_cellAt 13 = .ok (.ifCond .lt 15, 3) := by decide +kernel
theorem dX1_cellAt_16 : decode cX1_cellAt 16 = .ok (.iload_n 2, 1) := by decide +kernel
theorem dX1_cellAt_17 : decode cX1_cellAt 17 = .ok (.aload_n 0, 1) := by decide +kernel
theorem dX1_cellAt_18 : decode cX1_cellAt 18 = .ok (.getfield 47, 3) := by decide +kernel
theorem dX1_cellAt_21 : decode cX1_cellAt 21 = .ok (.if_icmp .ge 7, 3) := by decide +kernel
theorem dX1_cellAt_24 : decode cX1_cellAt 24 = .ok (.iconst 1, 1) := by decide +kernel
theorem dX1_cellAt_25 : decode cX1_cellAt 25 = .ok (.goto 4, 3) := by decide +kernel
theorem dX1_cellAt_28 : decode cX1_cellAt 28 = .ok (.iconst 0, 1) := by decide +kernel
theorem dX1_cellAt_29 : decode cX1_cellAt 29 = .ok (.istore_n 3, 1) := by decide +kernel
theorem dX1_cellAt_30 : decode cX1_cellAt 30 = .ok (.iload_n 3, 1) := by decide +kernel
theorem dX1_cellAt_31 : decode cX1_cellAt 31 = .ok (.ifCond .eq 14, 3) := by decide +kernel
theorem dX1_cellAt_34 : decode cX1_cellAt 34 = .ok (.iload_n 1, 1) := by decide +kernel
theorem dX1_cellAt_35 : decode cX1_cellAt 35 = .ok (.aload_n 0, 1) := by decide +kernel
theorem dX1_cellAt_36 : decode cX1_cellAt 36 = .ok (.getfield 47, 3) := by decide +kernel
theorem dX1_cellAt_39 : decode cX1_cellAt 39 = .ok (.imul, 1) := by decide +kernel
theorem dX1_cellAt_40 : decode cX1_cellAt 40 = .ok (.iload_n 2, 1) := by decide +kernel
theorem dX1_cellAt_41 : decode cX1_cellAt 41 = .ok (.iadd, 1) := by decide +kernel
theorem dX1_cellAt_42 : decode cX1_cellAt 42 = .ok (.goto 4, 3) := by decide +kernel
theorem dX1_cellAt_45 : decode cX1_cellAt 45 = .ok (.iconst (-1), 1) := by decide +kernel
theorem dX1_cellAt_46 : decode cX1_cellAt 46 = .ok (.ireturn, 1) := by decide +kernel
theorem dX1_layEdge_0 : decode cX1_layEdge 0 = .ok (.aload_n 0, 1) := by decide +kernel
theorem dX1_layEdge_1 : decode cX1_layEdge 1 = .ok (.iload_n 1, 1) := by decide +kernel
theorem dX1_layEdge_2 : decode cX1_layEdge 2 = .ok (.invokevirtual 64, 3) := by decide +kernel
theorem dX1_layEdge_5 : decode cX1_layEdge 5 = .ok (.ifCond .eq 19, 3) := by decide +kernel
theorem dX1_layEdge_8 : decode cX1_layEdge 8 = .ok (.aload_n 0, 1) := by decide +kernel
theorem dX1_layEdge_9 : decode cX1_layEdge 9 = .ok (.iload_n 2, 1) := by decide +kernel
theorem dX1_layEdge_10 : decode cX1_layEdge 10 = .ok (.invokevirtual 68, 3) := by decide +kernel
theorem dX1_layEdge_13 : decode cX1_layEdge 13 = .ok (.ifCond .eq 11, 3) := by decide +kernel
theorem dX1_layEdge_16 : decode cX1_layEdge 16 = .ok (.aload_n 0, 1) := by decide +kernel
theorem dX1_layEdge_17 : decode cX1_layEdge 17 = .ok (.iload_n 3, 1) := by decide +kernel
theorem dX1_layEdge_18 : decode cX1_layEdge 18 = .ok (.invokevirtual 68, 3) := by decide +kernel
theorem dX1_layEdge_21 : decode cX1_layEdge 21 = .ok (.ifCond .ne 4, 3) := by decide +kernel
theorem dX1_layEdge_24 : decode cX1_layEdge 24 = .ok (.return_, 1) := by decide +kernel
theorem dX1_layEdge_25 : decode cX1_layEdge 25 = .ok (.lconst 1, 1) := by decide +kernel
theorem dX1_layEdge_26 : decode cX1_layEdge 26 = .ok (.iload_n 1, 1) := by decide +kernel
theorem dX1_layEdge_27 : decode cX1_layEdge 27 = .ok (.lshl, 1) := by decide +kernel
theorem dX1_layEdge_28 : decode cX1_layEdge 28 = .ok (.lstore 6, 2) := by decide +kernel
theorem dX1_layEdge_30 : decode cX1_layEdge 30 = .ok (.aload_n 0, 1) := by decide +kernel
theorem dX1_layEdge_31 : decode cX1_layEdge 31 = .ok (.getfield 25, 3) := by decide +kernel
theorem dX1_layEdge_34 : decode cX1_layEdge 34 = .ok (.iconst 2, 1) := by decide +kernel
theorem dX1_layEdge_35 : decode cX1_layEdge 35 = .ok (.iload_n 1, 1) := by decide +kernel
theorem dX1_layEdge_36 : decode cX1_layEdge 36 = .ok (.imul, 1) := by decide +kernel
theorem dX1_layEdge_37 : decode cX1_layEdge 37 = .ok (.iload_n 2, 1) := by decide +kernel
theorem dX1_layEdge_38 : decode cX1_layEdge 38 = .ok (.iastore, 1) := by decide +kernel
theorem dX1_layEdge_39 : decode cX1_layEdge 39 = .ok (.aload_n 0, 1) := by decide +kernel
theorem dX1_layEdge_40 : decode cX1_layEdge 40 = .ok (.getfield 25, 3) := by decide +kernel
theorem dX1_layEdge_43 : decode cX1_layEdge 43 = .ok (.iconst 2, 1) := by decide +kernel
theorem dX1_layEdge_44 : decode cX1_layEdge 44 = .ok (.iload_n 1, 1) := by decide +kernel
theorem dX1_layEdge_45 : decode cX1_layEdge 45 = .ok (.imul, 1) := by decide +kernel
theorem dX1_layEdge_46 : decode cX1_layEdge 46 = .ok (.iconst 1, 1) := by decide +kernel
theorem dX1_layEdge_47 : decode cX1_layEdge 47 = .ok (.iadd, 1) := by decide +kernel
theorem dX1_layEdge_48 : decode cX1_layEdge 48 = .ok (.iload_n 3, 1) := by decide +kernel
theorem dX1_layEdge_49 : decode cX1_layEdge 49 = .ok (.iastore, 1) := by decide +kernel
theorem dX1_layEdge_50 : decode cX1_layEdge 50 = .ok (.aload_n 0, 1) := by decide +kernel
theorem dX1_layEdge_51 : decode cX1_layEdge 51 = .ok (.getfield 19, 3) := by decide +kernel
theorem dX1_layEdge_54 : decode cX1_layEdge 54 = .ok (.iload_n 2, 1) := by decide +kernel
theorem dX1_layEdge_55 : decode cX1_layEdge 55 = .ok (.dup2, 1) := by decide +kernel
theorem dX1_layEdge_56 : decode cX1_layEdge 56 = .ok (.laload, 1) := by decide +kernel
theorem dX1_layEdge_57 : decode cX1_layEdge 57 = .ok (.lload 6, 2) := by decide +kernel
theorem dX1_layEdge_59 : decode cX1_layEdge 59 = .ok (.lor, 1) := by decide +kernel
theorem dX1_layEdge_60 : decode cX1_layEdge 60 = .ok (.lastore, 1) := by decide +kernel
theorem dX1_layEdge_61 : decode cX1_layEdge 61 = .ok (.aload_n 0, 1) := by decide +kernel
theorem dX1_layEdge_62 : decode cX1_layEdge 62 = .ok (.getfield 19, 3) := by decide +kernel
theorem dX1_layEdge_65 : decode cX1_layEdge 65 = .ok (.iload_n 3, 1) := by decide +kernel
theorem dX1_layEdge_66 : decode cX1_layEdge 66 = .ok (.dup2, 1) := by decide +kernel
theorem dX1_layEdge_67 : decode cX1_layEdge 67 = .ok (.laload, 1) := by decide +kernel
theorem dX1_layEdge_68 : decode cX1_layEdge 68 = .ok (.lload 6, 2) := by decide +kernel
theorem dX1_layEdge_70 : decode cX1_layEdge 70 = .ok (.lor, 1) := by decide +kernel
theorem dX1_layEdge_71 : decode cX1_layEdge 71 = .ok (.lastore, 1) := by decide +kernel
theorem dX1_layEdge_72 : decode cX1_layEdge 72 = .ok (.aload_n 0, 1) := by decide +kernel
theorem dX1_layEdge_73 : decode cX1_layEdge 73 = .ok (.getfield 22, 3) := by decide +kernel
theorem dX1_layEdge_76 : decode cX1_layEdge 76 = .ok (.iconst 2, 1) := by decide +kernel
theorem dX1_layEdge_77 : decode cX1_layEdge 77 = .ok (.iload_n 1, 1) := by decide +kernel
theorem dX1_layEdge_78 : decode cX1_layEdge 78 = .ok (.imul, 1) := by decide +kernel
theorem dX1_layEdge_79 : decode cX1_layEdge 79 = .ok (.iload 4, 2) := by decide +kernel
theorem dX1_layEdge_81 : decode cX1_layEdge 81 = .ok (.iastore, 1) := by decide +kernel
theorem dX1_layEdge_82 : decode cX1_layEdge 82 = .ok (.aload_n 0, 1) := by decide +kernel
theorem dX1_layEdge_83 : decode cX1_layEdge 83 = .ok (.getfield 22, 3) := by decide +kernel
theorem dX1_layEdge_86 : decode cX1_layEdge 86 = .ok (.iconst 2, 1) := by decide +kernel
theorem dX1_layEdge_87 : decode cX1_layEdge 87 = .ok (.iload_n 1, 1) := by decide +kernel
theorem dX1_layEdge_88 : decode cX1_layEdge 88 = .ok (.imul, 1) := by decide +kernel
theorem dX1_layEdge_89 : decode cX1_layEdge 89 = .ok (.iconst 1, 1) := by decide +kernel
theorem dX1_layEdge_90 : decode cX1_layEdge 90 = .ok (.iadd, 1) := by decide +kernel
theorem dX1_layEdge_91 : decode cX1_layEdge 91 = .ok (.iload 5, 2) := by decide +kernel
theorem dX1_layEdge_93 : decode cX1_layEdge 93 = .ok (.iastore, 1) := by decide +kernel
theorem dX1_layEdge_94 : decode cX1_layEdge 94 = .ok (.aload_n 0, 1) := by decide +kernel
theorem dX1_layEdge_95 : decode cX1_layEdge 95 = .ok (.iload 4, 2) := by decide +kernel
theorem dX1_layEdge_97 : decode cX1_layEdge 97 = .ok (.invokevirtual 71, 3) := by decide +kernel
theorem dX1_layEdge_100 : decode cX1_layEdge 100 = .ok (.ifCond .eq 15, 3) := by decide +kernel
theorem dX1_layEdge_103 : decode cX1_layEdge 103 = .ok (.aload_n 0, 1) := by decide +kernel
theorem dX1_layEdge_104 : decode cX1_layEdge 104 = .ok (.getfield 15, 3) := by decide +kernel
theorem dX1_layEdge_107 : decode cX1_layEdge 107 = .ok (.iload 4, 2) := by decide +kernel
theorem dX1_layEdge_109 : decode cX1_layEdge 109 = .ok (.dup2, 1) := by decide +kernel
theorem dX1_layEdge_110 : decode cX1_layEdge 110 = .ok (.laload, 1) := by decide +kernel
theorem dX1_layEdge_111 : decode cX1_layEdge 111 = .ok (.lload 6, 2) := by decide +kernel
theorem dX1_layEdge_113 : decode cX1_layEdge 113 = .ok (.lor, 1) := by decide +kernel
theorem dX1_layEdge_114 : decode cX1_layEdge 114 = .ok (.lastore, 1) := by decide +kernel
theorem dX1_layEdge_115 : decode cX1_layEdge 115 = .ok (.aload_n 0, 1) := by decide +kernel
theorem dX1_layEdge_116 : decode cX1_layEdge 116 = .ok (.iload 5, 2) := by decide +kernel
theorem dX1_layEdge_118 : decode cX1_layEdge 118 = .ok (.invokevirtual 71, 3) := by decide +kernel
theorem dX1_layEdge_121 : decode cX1_layEdge 121 = .ok (.ifCond .eq 15, 3) := by decide +kernel
theorem dX1_layEdge_124 : decode cX1_layEdge 124 = .ok (.aload_n 0, 1) := by decide +kernel
theorem dX1_layEdge_125 : decode cX1_layEdge 125 = .ok (.getfield 15, 3) := by decide +kernel
theorem dX1_layEdge_128 : decode cX1_layEdge 128 = .ok (.iload 5, 2) := by decide +kernel
theorem dX1_layEdge_130 : decode cX1_layEdge 130 = .ok (.dup2, 1) := by decide +kernel
theorem dX1_layEdge_131 : decode cX1_layEdge 131 = .ok (.laload, 1) := by decide +kernel
theorem dX1_layEdge_132 : decode cX1_layEdge 132 = .ok (.lload 6, 2) := by decide +kernel
theorem dX1_layEdge_134 : decode cX1_layEdge 134 = .ok (.lor, 1) := by decide +kernel
theorem dX1_layEdge_135 : decode cX1_layEdge 135 = .ok (.lastore, 1) := by decide +kernel
theorem dX1_layEdge_136 : decode cX1_layEdge 136 = .ok (.return_, 1) := by decide +kernel
theorem dX2_init_0 : decode cX2_init 0 = .ok (.aload_n 0, 1) := by decide +kernel
theorem dX2_init_1 : decode cX2_init 1 = .ok (.invokespecial 3, 3) := by decide +kernel
theorem dX2_init_4 : decode cX2_init 4 = .ok (.aload_n 0, 1) := by decide +kernel
theorem dX2_init_5 : decode cX2_init 5 = .ok (.bipush 8, 2) := by decide +kernel
theorem dX2_init_7 : decode cX2_init 7 = .ok (.newarray .int, 2) := by decide +kernel
theorem dX2_init_9 : decode cX2_init 9 = .ok (.putfield 9, 3) := by decide +kernel
theorem dX2_init_12 : decode cX2_init 12 = .ok (.aload_n 0, 1) := by decide +kernel
theorem dX2_init_13 : decode cX2_init 13 = .ok (.bipush 8, 2) := by decide +kernel
theorem dX2_init_15 : decode cX2_init 15 = .ok (.newarray .int, 2) := by decide +kernel
theorem dX2_init_17 : decode cX2_init 17 = .ok (.putfield 15, 3) := by decide +kernel
theorem dX2_init_20 : decode cX2_init 20 = .ok (.aload_n 0, 1) := by decide +kernel
theorem dX2_init_21 : decode cX2_init 21 = .ok (.bipush 8, 2) := by decide +kernel
theorem dX2_init_23 : decode cX2_init 23 = .ok (.newarray .long, 2) := by decide +kernel
theorem dX2_init_25 : decode cX2_init 25 = .ok (.putfield 18, 3) := by decide +kernel
theorem dX2_init_28 : decode cX2_init 28 = .ok (.aload_n 0, 1) := by decide +kernel
theorem dX2_init_29 : decode cX2_init 29 = .ok (.bipush 8, 2) := by decide +kernel
theorem dX2_init_31 : decode cX2_init 31 = .ok (.newarray .long, 2) := by decide +kernel
theorem dX2_init_33 : decode cX2_init 33 = .ok (.putfield 22, 3) := by decide +kernel
theorem dX2_init_36 : decode cX2_init 36 = .ok (.aload_n 0, 1) := by decide +kernel
theorem dX2_init_37 : decode cX2_init 37 = .ok (.sipush 128, 3) := by decide +kernel
theorem dX2_init_40 : decode cX2_init 40 = .ok (.newarray .int, 2) := by decide +kernel
theorem dX2_init_42 : decode cX2_init 42 = .ok (.putfield 25, 3) := by decide +kernel
theorem dX2_init_45 : decode cX2_init 45 = .ok (.aload_n 0, 1) := by decide +kernel
theorem dX2_init_46 : decode cX2_init 46 = .ok (.bipush 64, 2) := by decide +kernel
theorem dX2_init_48 : decode cX2_init 48 = .ok (.newarray .int, 2) := by decide +kernel
theorem dX2_init_50 : decode cX2_init 50 = .ok (.putfield 28, 3) := by decide +kernel
theorem dX2_init_53 : decode cX2_init 53 = .ok (.return_, 1) := by decide +kernel
theorem dX2_keep_0 : decode cX2_keep 0 = .ok (.aload_n 0, 1) := by decide +kernel
theorem dX2_keep_1 : decode cX2_keep 1 = .ok (.getfield 31, 3) := by decide +kernel
theorem dX2_keep_4 : decode cX2_keep 4 = .ok (.bipush 8, 2) := by decide +kernel
theorem dX2_keep_6 : decode cX2_keep 6 = .ok (.invokestatic 35, 3) := by decide +kernel
theorem dX2_keep_9 : decode cX2_keep 9 = .ok (.istore 4, 2) := by decide +kernel
theorem dX2_keep_11 : decode cX2_keep 11 = .ok (.aload_n 0, 1) := by decide +kernel
theorem dX2_keep_12 : decode cX2_keep 12 = .ok (.getfield 9, 3) := by decide +kernel
theorem dX2_keep_15 : decode cX2_keep 15 = .ok (.iload 4, 2) := by decide +kernel
theorem dX2_keep_17 : decode cX2_keep 17 = .ok (.aload_n 1, 1) := by decide +kernel
theorem dX2_keep_18 : decode cX2_keep 18 = .ok (.getfield 41, 3) := by decide +kernel
theorem dX2_keep_21 : decode cX2_keep 21 = .ok (.iastore, 1) := by decide +kernel
theorem dX2_keep_22 : decode cX2_keep 22 = .ok (.aload_n 0, 1) := by decide +kernel
theorem dX2_keep_23 : decode cX2_keep 23 = .ok (.getfield 15, 3) := by decide +kernel
theorem dX2_keep_26 : decode cX2_keep 26 = .ok (.iload 4, 2) := by decide +kernel
theorem dX2_keep_28 : decode cX2_keep 28 = .ok (.aload_n 1, 1) := by decide +kernel
theorem dX2_keep_29 : decode cX2_keep 29 = .ok (.getfield 46, 3) := by decide +kernel
theorem dX2_keep_32 : decode cX2_keep 32 = .ok (.iastore, 1) := by decide +kernel
theorem dX2_keep_33 : decode cX2_keep 33 = .ok (.aload_n 0, 1) := by decide +kernel
theorem dX2_keep_34 : decode cX2_keep 34 = .ok (.getfield 18, 3) := by decide +kernel
theorem dX2_keep_37 : decode cX2_keep 37 = .ok (.iload 4, 2) := by decide +kernel
theorem dX2_keep_39 : decode cX2_keep 39 = .ok (.aload_n 2, 1) := by decide +kernel
theorem dX2_keep_40 : decode cX2_keep 40 = .ok (.getfield 49, 3) := by decide +kernel
theorem dX2_keep_43 : decode cX2_keep 43 = .ok (.lastore, 1) := by decide +kernel
theorem dX2_keep_44 : decode cX2_keep 44 = .ok (.aload_n 0, 1) := by decide +kernel
theorem dX2_keep_45 : decode cX2_keep 45 = .ok (.getfield 22, 3) := by decide +kernel
theorem dX2_keep_48 : decode cX2_keep 48 = .ok (.iload 4, 2) := by decide +kernel
theorem dX2_keep_50 : decode cX2_keep 50 = .ok (.aload_n 2, 1) := by decide +kernel
theorem dX2_keep_51 : decode cX2_keep 51 = .ok (.getfield 54, 3) := by decide +kernel
theorem dX2_keep_54 : decode cX2_keep 54 = .ok (.lastore, 1) := by decide +kernel
theorem dX2_keep_55 : decode cX2_keep 55 = .ok (.iconst 0, 1) := by decide +kernel
theorem dX2_keep_56 : decode cX2_keep 56 = .ok (.istore 5, 2) := by decide +kernel
theorem dX2_keep_58 : decode cX2_keep 58 = .ok (.iload 5, 2) := by decide +kernel
theorem dX2_keep_60 : decode cX2_keep 60 = .ok (.bipush 16, 2) := by decide +kernel
theorem dX2_keep_62 : decode cX2_keep 62 = .ok (.if_icmp .ge 29, 3) := by decide +kernel
theorem dX2_keep_65 : decode cX2_keep 65 = .ok (.aload_n 0, 1) := by decide +kernel
theorem dX2_keep_66 : decode cX2_keep 66 = .ok (.getfield 25, 3) := by decide +kernel
theorem dX2_keep_69 : decode cX2_keep 69 = .ok (.iload 4, 2) := by decide +kernel
theorem dX2_keep_71 : decode cX2_keep 71 = .ok (.bipush 16, 2) := by decide +kernel
theorem dX2_keep_73 : decode cX2_keep 73 = .ok (.imul, 1) := by decide +kernel
theorem dX2_keep_74 : decode cX2_keep 74 = .ok (.iload 5, 2) := by decide +kernel
theorem dX2_keep_76 : decode cX2_keep 76 = .ok (.iadd, 1) := by decide +kernel
theorem dX2_keep_77 : decode cX2_keep 77 = .ok (.aload_n 1, 1) := by decide +kernel
theorem dX2_keep_78 : decode cX2_keep 78 = .ok (.getfield 56, 3) := by decide +kernel
theorem dX2_keep_81 : decode cX2_keep 81 = .ok (.iload 5, 2) := by decide +kernel
theorem dX2_keep_83 : decode cX2_keep 83 = .ok (.iaload, 1) := by decide +kernel
theorem dX2_keep_84 : decode cX2_keep 84 = .ok (.iastore, 1) := by decide +kernel
theorem dX2_keep_85 : decode cX2_keep 85 = .ok (.iinc 5 1, 3) := by decide +kernel
theorem dX2_keep_88 : decode cX2_keep 88 = .ok (.goto (-30), 3) := by decide +kernel
theorem dX2_keep_91 : decode cX2_keep 91 = .ok (.iconst 0, 1) := by decide +kernel
theorem dX2_keep_92 : decode cX2_keep 92 = .ok (.istore 5, 2) := by decide +kernel
theorem dX2_keep_94 : decode cX2_keep 94 = .ok (.iload 5, 2) := by decide +kernel
theorem dX2_keep_96 : decode cX2_keep 96 = .ok (.bipush 8, 2) := by decide +kernel
theorem dX2_keep_98 : decode cX2_keep 98 = .ok (.if_icmp .ge 33, 3) := by decide +kernel
theorem dX2_keep_101 : decode cX2_keep 101 = .ok (.iload 5, 2) := by decide +kernel
theorem dX2_keep_103 : decode cX2_keep 103 = .ok (.aload_n 3, 1) := by decide +kernel
theorem dX2_keep_104 : decode cX2_keep 104 = .ok (.arraylength, 1) := by decide +kernel
theorem dX2_keep_105 : decode cX2_keep 105 = .ok (.if_icmp .ge 26, 3) := by decide +kernel
theorem dX2_keep_108 : decode cX2_keep 108 = .ok (.aload_n 0, 1) := by decide +kernel
theorem dX2_keep_109 : decode cX2_keep 109 = .ok (.getfield 28, 3) := by decide +kernel
theorem dX2_keep_112 : decode cX2_keep 112 = .ok (.iload 4, 2) := by decide +kernel
theorem dX2_keep_114 : decode cX2_keep 114 = .ok (.bipush 8, 2) := by decide +kernel
theorem dX2_keep_116 : decode cX2_keep 116 = .ok (.imul, 1) := by decide +kernel
theorem dX2_keep_117 : decode cX2_keep 117 = .ok (.iload 5, 2) := by decide +kernel
theorem dX2_keep_119 : decode cX2_keep 119 = .ok (.iadd, 1) := by decide +kernel
theorem dX2_keep_120 : decode cX2_keep 120 = .ok (.aload_n 3, 1) := by decide +kernel
theorem dX2_keep_121 : decode cX2_keep 121 = .ok (.iload 5, 2) := by decide +kernel
