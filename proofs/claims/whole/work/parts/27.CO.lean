theorem dX1_beginsWith_0 : decode cX1_beginsWith 0 = .ok (.aload_n 0, 1) := by decide +kernel
theorem dX1_beginsWith_1 : decode cX1_beginsWith 1 = .ok (.getfield 19, 3) := by decide +kernel
theorem dX1_beginsWith_4 : decode cX1_beginsWith 4 = .ok (.getfield 33, 3) := by decide +kernel
theorem dX1_beginsWith_7 : decode cX1_beginsWith 7 = .ok (.iload_n 2, 1) := by decide +kernel
theorem dX1_beginsWith_8 : decode cX1_beginsWith 8 = .ok (.iaload, 1) := by decide +kernel
theorem dX1_beginsWith_9 : decode cX1_beginsWith 9 = .ok (.istore_n 3, 1) := by decide +kernel
theorem dX1_beginsWith_10 : decode cX1_beginsWith 10 = .ok (.iload_n 3, 1) := by decide +kernel
theorem dX1_beginsWith_11 : decode cX1_beginsWith 11 = .ok (.aload_n 0, 1) := by decide +kernel
theorem dX1_beginsWith_12 : decode cX1_beginsWith 12 = .ok (.getfield 19, 3) := by decide +kernel
theorem dX1_beginsWith_15 : decode cX1_beginsWith 15 = .ok (.getfield 33, 3) := by decide +kernel
theorem dX1_beginsWith_18 : decode cX1_beginsWith 18 = .ok (.iload_n 1, 1) := by decide +kernel
theorem dX1_beginsWith_19 : decode cX1_beginsWith 19 = .ok (.iaload, 1) := by decide +kernel
theorem dX1_beginsWith_20 : decode cX1_beginsWith 20 = .ok (.if_icmp .ge 42, 3) := by decide +kernel
theorem dX1_beginsWith_23 : decode cX1_beginsWith 23 = .ok (.aload_n 0, 1) := by decide +kernel
theorem dX1_beginsWith_24 : decode cX1_beginsWith 24 = .ok (.getfield 19, 3) := by decide +kernel
theorem dX1_beginsWith_27 : decode cX1_beginsWith 27 = .ok (.getfield 36, 3) := by decide +kernel
theorem dX1_beginsWith_30 : decode cX1_beginsWith 30 = .ok (.iload_n 1, 1) := by decide +kernel
theorem dX1_beginsWith_31 : decode cX1_beginsWith 31 = .ok (.iaload, 1) := by decide +kernel
theorem dX1_beginsWith_32 : decode cX1_beginsWith 32 = .ok (.aload_n 0, 1) := by decide +kernel
theorem dX1_beginsWith_33 : decode cX1_beginsWith 33 = .ok (.getfield 19, 3) := by decide +kernel
theorem dX1_beginsWith_36 : decode cX1_beginsWith 36 = .ok (.getfield 33, 3) := by decide +kernel
theorem dX1_beginsWith_39 : decode cX1_beginsWith 39 = .ok (.iload_n 1, 1) := by decide +kernel
theorem dX1_beginsWith_40 : decode cX1_beginsWith 40 = .ok (.iaload, 1) := by decide +kernel
theorem dX1_beginsWith_41 : decode cX1_beginsWith 41 = .ok (.iconst 0, 1) := by decide +kernel
theorem dX1_beginsWith_42 : decode cX1_beginsWith 42 = .ok (.iload_n 3, 1) := by decide +kernel
theorem dX1_beginsWith_43 : decode cX1_beginsWith 43 = .ok (.invokestatic 39, 3) := by decide +kernel
theorem dX1_beginsWith_46 : decode cX1_beginsWith 46 = .ok (.aload_n 0, 1) := by decide +kernel
theorem dX1_beginsWith_47 : decode cX1_beginsWith 47 = .ok (.getfield 19, 3) := by decide +kernel
theorem dX1_beginsWith_50 : decode cX1_beginsWith 50 = .ok (.getfield 36, 3) := by decide +kernel
theorem dX1_beginsWith_53 : decode cX1_beginsWith 53 = .ok (.iload_n 2, 1) := by decide +kernel
theorem dX1_beginsWith_54 : decode cX1_beginsWith 54 = .ok (.iaload, 1) := by decide +kernel
theorem dX1_beginsWith_55 : decode cX1_beginsWith 55 = .ok (.if_icmp .ne 7, 3) := by decide +kernel
theorem dX1_beginsWith_58 : decode cX1_beginsWith 58 = .ok (.iconst 1, 1) := by decide +kernel
theorem dX1_beginsWith_59 : decode cX1_beginsWith 59 = .ok (.goto 4, 3) := by decide +kernel
theorem dX1_beginsWith_62 : decode cX1_beginsWith 62 = .ok (.iconst 0, 1) := by decide +kernel
theorem dX1_beginsWith_63 : decode cX1_beginsWith 63 = .ok (.ireturn, 1) := by decide +kernel
theorem dX1_shorten_0 : decode cX1_shorten 0 = .ok (.iload_n 1, 1) := by decide +kernel
theorem dX1_shorten_1 : decode cX1_shorten 1 = .ok (.bipush 6, 2) := by decide +kernel
theorem dX1_shorten_3 : decode cX1_shorten 3 = .ok (.imul, 1) := by decide +kernel
theorem dX1_shorten_4 : decode cX1_shorten 4 = .ok (.iload_n 2, 1) := by decide +kernel
theorem dX1_shorten_5 : decode cX1_shorten 5 = .ok (.iadd, 1) := by decide +kernel
theorem dX1_shorten_6 : decode cX1_shorten 6 = .ok (.istore 4, 2) := by decide +kernel
theorem dX1_shorten_8 : decode cX1_shorten 8 = .ok (.aload_n 0, 1) := by decide +kernel
theorem dX1_shorten_9 : decode cX1_shorten 9 = .ok (.getfield 9, 3) := by decide +kernel
theorem dX1_shorten_12 : decode cX1_shorten 12 = .ok (.iload 4, 2) := by decide +kernel
theorem dX1_shorten_14 : decode cX1_shorten 14 = .ok (.aload_n 0, 1) := by decide +kernel
theorem dX1_shorten_15 : decode cX1_shorten 15 = .ok (.getfield 9, 3) := by decide +kernel
theorem dX1_shorten_18 : decode cX1_shorten 18 = .ok (.iload 4, 2) := by decide +kernel
theorem dX1_shorten_20 : decode cX1_shorten 20 = .ok (.iaload, 1) := by decide +kernel
theorem dX1_shorten_21 : decode cX1_shorten 21 = .ok (.iload_n 3, 1) := by decide +kernel
theorem dX1_shorten_22 : decode cX1_shorten 22 = .ok (.invokestatic 67, 3) := by decide +kernel
theorem dX1_shorten_25 : decode cX1_shorten 25 = .ok (.iastore, 1) := by decide +kernel
theorem dX1_shorten_26 : decode cX1_shorten 26 = .ok (.return_, 1) := by decide +kernel
theorem dX1_begin_0 : decode cX1_begin 0 = .ok (.aload_n 0, 1) := by decide +kernel
theorem dX1_begin_1 : decode cX1_begin 1 = .ok (.getfield 9, 3) := by decide +kernel
theorem dX1_begin_4 : decode cX1_begin 4 = .ok (.ldc 56, 2) := by decide +kernel
theorem dX1_begin_6 : decode cX1_begin 6 = .ok (.invokestatic 57, 3) := by decide +kernel
theorem dX1_begin_9 : decode cX1_begin 9 = .ok (.iconst 0, 1) := by decide +kernel
theorem dX1_begin_10 : decode cX1_begin 10 = .ok (.istore_n 1, 1) := by decide +kernel
theorem dX1_begin_11 : decode cX1_begin 11 = .ok (.iload_n 1, 1) := by decide +kernel
theorem dX1_begin_12 : decode cX1_begin 12 = .ok (.aload_n 0, 1) := by decide +kernel
theorem dX1_begin_13 : decode cX1_begin 13 = .ok (.getfield 15, 3) := by decide +kernel
theorem dX1_begin_16 : decode cX1_begin 16 = .ok (.arraylength, 1) := by decide +kernel
theorem dX1_begin_17 : decode cX1_begin 17 = .ok (.if_icmp .ge 16, 3) := by decide +kernel
theorem dX1_begin_20 : decode cX1_begin 20 = .ok (.aload_n 0, 1) := by decide +kernel
theorem dX1_begin_21 : decode cX1_begin 21 = .ok (.getfield 15, 3) := by decide +kernel
theorem dX1_begin_24 : decode cX1_begin 24 = .ok (.iload_n 1, 1) := by decide +kernel
theorem dX1_begin_25 : decode cX1_begin 25 = .ok (.iconst 0, 1) := by decide +kernel
theorem dX1_begin_26 : decode cX1_begin 26 = .ok (.bastore, 1) := by decide +kernel
theorem dX1_begin_27 : decode cX1_begin 27 = .ok (.iinc 1 1, 3) := by decide +kernel
theorem dX1_begin_30 : decode cX1_begin 30 = .ok (.goto (-19), 3) := by decide +kernel
theorem dX1_begin_33 : decode cX1_begin 33 = .ok (.iconst 0, 1) := by decide +kernel
theorem dX1_begin_34 : decode cX1_begin 34 = .ok (.istore_n 1, 1) := by decide +kernel
theorem dX1_begin_35 : decode cX1_begin 35 = .ok (.iload_n 1, 1) := by decide +kernel
theorem dX1_begin_36 : decode cX1_begin 36 = .ok (.aload_n 0, 1) := by decide +kernel
theorem dX1_begin_37 : decode cX1_begin 37 = .ok (.getfield 19, 3) := by decide +kernel
theorem dX1_begin_40 : decode cX1_begin 40 = .ok (.getfield 23, 3) := by decide +kernel
theorem dX1_begin_43 : decode cX1_begin 43 = .ok (.if_icmp .ge 60, 3) := by decide +kernel
theorem dX1_begin_46 : decode cX1_begin 46 = .ok (.iconst 0, 1) := by decide +kernel
theorem dX1_begin_47 : decode cX1_begin 47 = .ok (.istore_n 2, 1) := by decide +kernel
theorem dX1_begin_48 : decode cX1_begin 48 = .ok (.iload_n 2, 1) := by decide +kernel
theorem dX1_begin_49 : decode cX1_begin 49 = .ok (.aload_n 0, 1) := by decide +kernel
theorem dX1_begin_50 : decode cX1_begin 50 = .ok (.getfield 19, 3) := by decide +kernel
theorem dX1_begin_53 : decode cX1_begin 53 = .ok (.getfield 23, 3) := by decide +kernel
theorem dX1_begin_56 : decode cX1_begin 56 = .ok (.if_icmp .ge 41, 3) := by decide +kernel
theorem dX1_begin_59 : decode cX1_begin 59 = .ok (.aload_n 0, 1) := by decide +kernel
theorem dX1_begin_60 : decode cX1_begin 60 = .ok (.iload_n 1, 1) := by decide +kernel
theorem dX1_begin_61 : decode cX1_begin 61 = .ok (.iload_n 2, 1) := by decide +kernel
theorem dX1_begin_62 : decode cX1_begin 62 = .ok (.invokevirtual 29, 3) := by decide +kernel
theorem dX1_begin_65 : decode cX1_begin 65 = .ok (.ifCond .eq 26, 3) := by decide +kernel
theorem dX1_begin_68 : decode cX1_begin 68 = .ok (.aload_n 0, 1) := by decide +kernel
theorem dX1_begin_69 : decode cX1_begin 69 = .ok (.iload_n 1, 1) := by decide +kernel
theorem dX1_begin_70 : decode cX1_begin 70 = .ok (.aload_n 0, 1) := by decide +kernel
theorem dX1_begin_71 : decode cX1_begin 71 = .ok (.getfield 19, 3) := by decide +kernel
theorem dX1_begin_74 : decode cX1_begin 74 = .ok (.getfield 33, 3) := by decide +kernel
theorem dX1_begin_77 : decode cX1_begin 77 = .ok (.iload_n 2, 1) := by decide +kernel
theorem dX1_begin_78 : decode cX1_begin 78 = .ok (.iaload, 1) := by decide +kernel
theorem dX1_begin_79 : decode cX1_begin 79 = .ok (.aload_n 0, 1) := by decide +kernel
theorem dX1_begin_80 : decode cX1_begin 80 = .ok (.getfield 19, 3) := by decide +kernel
theorem dX1_begin_83 : decode cX1_begin 83 = .ok (.getfield 33, 3) := by decide +kernel
theorem dX1_begin_86 : decode cX1_begin 86 = .ok (.iload_n 1, 1) := by decide +kernel
theorem dX1_begin_87 : decode cX1_begin 87 = .ok (.iaload, 1) := by decide +kernel
theorem dX1_begin_88 : decode cX1_begin 88 = .ok (.invokevirtual 63, 3) := by decide +kernel
theorem dX1_begin_91 : decode cX1_begin 91 = .ok (.iinc 2 1, 3) := by decide +kernel
theorem dX1_begin_94 : decode cX1_begin 94 = .ok (.goto (-46), 3) := by decide +kernel
theorem dX1_begin_97 : decode cX1_begin 97 = .ok (.iinc 1 1, 3) := by decide +kernel
theorem dX1_begin_100 : decode cX1_begin 100 = .ok (.goto (-65), 3) := by decide +kernel
theorem dX1_begin_103 : decode cX1_begin 103 = .ok (.return_, 1) := by decide +kernel
theorem dX1_shortestLead_0 : decode cX1_shortestLead 0 = .ok (.iconst (-1), 1) := by decide +kernel
theorem dX1_shortestLead_1 : decode cX1_shortestLead 1 = .ok (.istore_n 1, 1) := by decide +kernel
theorem dX1_shortestLead_2 : decode cX1_shortestLead 2 = .ok (.iconst 0, 1) := by decide +kernel
theorem dX1_shortestLead_3 : decode cX1_shortestLead 3 = .ok (.istore_n 2, 1) := by decide +kernel
theorem dX1_shortestLead_4 : decode cX1_shortestLead 4 = .ok (.iload_n 2, 1) := by decide +kernel
theorem dX1_shortestLead_5 : decode cX1_shortestLead 5 = .ok (.aload_n 0, 1) := by decide +kernel
theorem dX1_shortestLead_6 : decode cX1_shortestLead 6 = .ok (.getfield 9, 3) := by decide +kernel
theorem dX1_shortestLead_9 : decode cX1_shortestLead 9 = .ok (.arraylength, 1) := by decide +kernel
theorem dX1_shortestLead_10 : decode cX1_shortestLead 10 = .ok (.if_icmp .ge 51, 3) := by decide +kernel
theorem dX1_shortestLead_13 : decode cX1_shortestLead 13 = .ok (.aload_n 0, 1) := by decide +kernel
theorem dX1_shortestLead_14 : decode cX1_shortestLead 14 = .ok (.getfield 15, 3) := by decide +kernel
theorem dX1_shortestLead_17 : decode cX1_shortestLead 17 = .ok (.iload_n 2, 1) := by decide +kernel
theorem dX1_shortestLead_18 : decode cX1_shortestLead 18 = .ok (.baload, 1) := by decide +kernel
theorem dX1_shortestLead_19 : decode cX1_shortestLead 19 = .ok (.ifCond .ne 36, 3) := by decide +kernel
theorem dX1_shortestLead_22 : decode cX1_shortestLead 22 = .ok (.aload_n 0, 1) := by decide +kernel
theorem dX1_shortestLead_23 : decode cX1_shortestLead 23 = .ok (.getfield 9, 3) := by decide +kernel
theorem dX1_shortestLead_26 : decode cX1_shortestLead 26 = .ok (.iload_n 2, 1) := by decide +kernel
theorem dX1_shortestLead_27 : decode cX1_shortestLead 27 = .ok (.iaload, 1) := by decide +kernel
theorem dX1_shortestLead_28 : decode cX1_shortestLead 28 = .ok (.ldc 56, 2) := by decide +kernel
theorem dX1_shortestLead_30 : decode cX1_shortestLead 30 = .ok (.if_icmp .ge 25, 3) := by decide +kernel
theorem dX1_shortestLead_33 : decode cX1_shortestLead 33 = .ok (.iload_n 1, 1) := by decide +kernel
theorem dX1_shortestLead_34 : decode cX1_shortestLead 34 = .ok (.iconst (-1), 1) := by decide +kernel
theorem dX1_shortestLead_35 : decode cX1_shortestLead 35 = .ok (.if_icmp .eq 18, 3) := by decide +kernel
theorem dX1_shortestLead_38 : decode cX1_shortestLead 38 = .ok (.aload_n 0, 1) := by decide +kernel
theorem dX1_shortestLead_39 : decode cX1_shortestLead 39 = .ok (.getfield 9, 3) := by decide +kernel
theorem dX1_shortestLead_42 : decode cX1_shortestLead 42 = .ok (.iload_n 2, 1) := by decide +kernel
theorem dX1_shortestLead_43 : decode cX1_shortestLead 43 = .ok (.iaload, 1) := by decide +kernel
theorem dX1_shortestLead_44 : decode cX1_shortestLead 44 = .ok (.aload_n 0, 1) := by decide +kernel
theorem dX1_shortestLead_45 : decode cX1_shortestLead 45 = .ok (.getfield 9, 3) := by decide +kernel
theorem dX1_shortestLead_48 : decode cX1_shortestLead 48 = .ok (.iload_n 1, 1) := by decide +kernel
theorem dX1_shortestLead_49 : decode cX1_shortestLead 49 = .ok (.iaload, 1) := by decide +kernel
theorem dX1_shortestLead_50 : decode cX1_shortestLead 50 = .ok (.if_icmp .ge 5, 3) := by decide +kernel
theorem dX1_shortestLead_53 : decode cX1_shortestLead 53 = .ok (.iload_n 2, 1) := by decide +kernel
theorem dX1_shortestLead_54 : decode cX1_shortestLead 54 = .ok (.istore_n 1, 1) := by decide +kernel
theorem dX1_shortestLead_55 : decode cX1_shortestLead 55 = .ok (.iinc 2 1, 3) := by decide +kernel
theorem dX1_shortestLead_58 : decode cX1_shortestLead 58 = .ok (.goto (-54), 3) := by decide +kernel
theorem dX1_shortestLead_61 : decode cX1_shortestLead 61 = .ok (.iload_n 1, 1) := by decide +kernel
theorem dX1_shortestLead_62 : decode cX1_shortestLead 62 = .ok (.ireturn, 1) := by decide +kernel
theorem dX1_catchUp_0 : decode cX1_catchUp 0 = .ok (.iload_n 1, 1) := by decide +kernel
theorem dX1_catchUp_1 : decode cX1_catchUp 1 = .ok (.bipush 6, 2) := by decide +kernel
theorem dX1_catchUp_3 : decode cX1_catchUp 3 = .ok (.idiv, 1) := by decide +kernel
theorem dX1_catchUp_4 : decode cX1_catchUp 4 = .ok (.istore_n 2, 1) := by decide +kernel
theorem dX1_catchUp_5 : decode cX1_catchUp 5 = .ok (.iload_n 1, 1) := by decide +kernel
theorem dX1_catchUp_6 : decode cX1_catchUp 6 = .ok (.bipush 6, 2) := by decide +kernel
theorem dX1_catchUp_8 : decode cX1_catchUp 8 = .ok (.irem, 1) := by decide +kernel
theorem dX1_catchUp_9 : decode cX1_catchUp 9 = .ok (.istore_n 3, 1) := by decide +kernel
theorem dX1_catchUp_10 : decode cX1_catchUp 10 = .ok (.aload_n 0, 1) := by decide +kernel
theorem dX1_catchUp_11 : decode cX1_catchUp 11 = .ok (.getfield 19, 3) := by decide +kernel
theorem dX1_catchUp_14 : decode cX1_catchUp 14 = .ok (.getfield 33, 3) := by decide +kernel
theorem dX1_catchUp_17 : decode cX1_catchUp 17 = .ok (.iload_n 2, 1) := by decide +kernel
theorem dX1_catchUp_18 : decode cX1_catchUp 18 = .ok (.iaload, 1) := by decide +kernel
theorem dX1_catchUp_19 : decode cX1_catchUp 19 = .ok (.istore 4, 2) := by decide +kernel
theorem dX1_catchUp_21 : decode cX1_catchUp 21 = .ok (.iload 4, 2) := by decide +kernel
theorem dX1_catchUp_23 : decode cX1_catchUp 23 = .ok (.iload_n 3, 1) := by decide +kernel
theorem dX1_catchUp_24 : decode cX1_catchUp 24 = .ok (.isub, 1) := by decide +kernel
theorem dX1_catchUp_25 : decode cX1_catchUp 25 = .ok (.istore 5, 2) := by decide +kernel
theorem dX1_catchUp_27 : decode cX1_catchUp 27 = .ok (.aload_n 0, 1) := by decide +kernel
theorem dX1_catchUp_28 : decode cX1_catchUp 28 = .ok (.getfield 19, 3) := by decide +kernel
theorem dX1_catchUp_31 : decode cX1_catchUp 31 = .ok (.getfield 36, 3) := by decide +kernel
theorem dX1_catchUp_34 : decode cX1_catchUp 34 = .ok (.iload_n 2, 1) := by decide +kernel
theorem dX1_catchUp_35 : decode cX1_catchUp 35 = .ok (.iaload, 1) := by decide +kernel
theorem dX1_catchUp_36 : decode cX1_catchUp 36 = .ok (.iload 4, 2) := by decide +kernel
theorem dX1_catchUp_38 : decode cX1_catchUp 38 = .ok (.iload_n 3, 1) := by decide +kernel
theorem dX1_catchUp_39 : decode cX1_catchUp 39 = .ok (.iload 4, 2) := by decide +kernel
theorem dX1_catchUp_41 : decode cX1_catchUp 41 = .ok (.invokestatic 39, 3) := by decide +kernel
theorem dX1_catchUp_44 : decode cX1_catchUp 44 = .ok (.istore 6, 2) := by decide +kernel
theorem dX1_catchUp_46 : decode cX1_catchUp 46 = .ok (.iconst 0, 1) := by decide +kernel
theorem dX1_catchUp_47 : decode cX1_catchUp 47 = .ok (.istore 7, 2) := by decide +kernel
theorem dX1_catchUp_49 : decode cX1_catchUp 49 = .ok (.iload 7, 2) := by decide +kernel
theorem dX1_catchUp_51 : decode cX1_catchUp 51 = .ok (.aload_n 0, 1) := by decide +kernel
theorem dX1_catchUp_52 : decode cX1_catchUp 52 = .ok (.getfield 19, 3) := by decide +kernel
theorem dX1_catchUp_55 : decode cX1_catchUp 55 = .ok (.getfield 23, 3) := by decide +kernel
theorem dX1_catchUp_58 : decode cX1_catchUp 58 = .ok (.if_icmp .ge 115, 3) := by decide +kernel
theorem dX1_catchUp_61 : decode cX1_catchUp 61 = .ok (.aload_n 0, 1) := by decide +kernel
theorem dX1_catchUp_62 : decode cX1_catchUp 62 = .ok (.getfield 19, 3) := by decide +kernel
theorem dX1_catchUp_65 : decode cX1_catchUp 65 = .ok (.getfield 33, 3) := by decide +kernel
theorem dX1_catchUp_68 : decode cX1_catchUp 68 = .ok (.iload 7, 2) := by decide +kernel
theorem dX1_catchUp_70 : decode cX1_catchUp 70 = .ok (.iaload, 1) := by decide +kernel
theorem dX1_catchUp_71 : decode cX1_catchUp 71 = .ok (.istore 8, 2) := by decide +kernel
theorem dX1_catchUp_73 : decode cX1_catchUp 73 = .ok (.iload 5, 2) := by decide +kernel
theorem dX1_catchUp_75 : decode cX1_catchUp 75 = .ok (.iload 8, 2) := by decide +kernel
theorem dX1_catchUp_77 : decode cX1_catchUp 77 = .ok (.invokestatic 67, 3) := by decide +kernel
theorem dX1_catchUp_80 : decode cX1_catchUp 80 = .ok (.istore 9, 2) := by decide +kernel
theorem dX1_catchUp_82 : decode cX1_catchUp 82 = .ok (.iload 6, 2) := by decide +kernel
theorem dX1_catchUp_84 : decode cX1_catchUp 84 = .ok (.iload 5, 2) := by decide +kernel
theorem dX1_catchUp_86 : decode cX1_catchUp 86 = .ok (.iconst 0, 1) := by decide +kernel
theorem dX1_catchUp_87 : decode cX1_catchUp 87 = .ok (.iload 9, 2) := by decide +kernel
theorem dX1_catchUp_89 : decode cX1_catchUp 89 = .ok (.invokestatic 39, 3) := by decide +kernel
theorem dX1_catchUp_92 : decode cX1_catchUp 92 = .ok (.aload_n 0, 1) := by decide +kernel
theorem dX1_catchUp_93 : decode cX1_catchUp 93 = .ok (.getfield 19, 3) := by decide +kernel
theorem dX1_catchUp_96 : decode cX1_catchUp 96 = .ok (.getfield 36, 3) := by decide +kernel
theorem dX1_catchUp_99 : decode cX1_catchUp 99 = .ok (.iload 7, 2) := by decide +kernel
theorem dX1_catchUp_101 : decode cX1_catchUp 101 = .ok (.iaload, 1) := by decide +kernel
theorem dX1_catchUp_102 : decode cX1_catchUp 102 = .ok (.iload 8, 2) := by decide +kernel
theorem dX1_catchUp_104 : decode cX1_catchUp 104 = .ok (.iconst 0, 1) := by decide +kernel
theorem dX1_catchUp_105 : decode cX1_catchUp 105 = .ok (.iload 9, 2) := by decide +kernel
theorem dX1_catchUp_107 : decode cX1_catchUp 107 = .ok (.invokestatic 39, 3) := by decide +kernel
theorem dX1_catchUp_110 : decode cX1_catchUp 110 = .ok (.if_icmp .ne 57, 3) := by decide +kernel
theorem dX1_catchUp_113 : decode cX1_catchUp 113 = .ok (.iload 5, 2) := by decide +kernel
theorem dX1_catchUp_115 : decode cX1_catchUp 115 = .ok (.iload 8, 2) := by decide +kernel
theorem dX1_catchUp_117 : decode cX1_catchUp 117 = .ok (.if_icmp .ne 5, 3) := by decide +kernel
theorem dX1_catchUp_120 : decode cX1_catchUp 120 = .ok (.iconst 1, 1) := by decide +kernel
theorem dX1_catchUp_121 : decode cX1_catchUp 121 = .ok (.ireturn, 1) := by decide +kernel
theorem dX1_catchUp_122 : decode cX1_catchUp 122 = .ok (.iload 8, 2) := by decide +kernel
theorem dX1_catchUp_124 : decode cX1_catchUp 124 = .ok (.iload 5, 2) := by decide +kernel
theorem dX1_catchUp_126 : decode cX1_catchUp 126 = .ok (.if_icmp .ge 21, 3) := by decide +kernel
theorem dX1_catchUp_129 : decode cX1_catchUp 129 = .ok (.aload_n 0, 1) := by decide +kernel
theorem dX1_catchUp_130 : decode cX1_catchUp 130 = .ok (.iload_n 2, 1) := by decide +kernel
theorem dX1_catchUp_131 : decode cX1_catchUp 131 = .ok (.iload_n 3, 1) := by decide +kernel
theorem dX1_catchUp_132 : decode cX1_catchUp 132 = .ok (.iload 8, 2) := by decide +kernel
theorem dX1_catchUp_134 : decode cX1_catchUp 134 = .ok (.iadd, 1) := by decide +kernel
theorem dX1_catchUp_135 : decode cX1_catchUp 135 = .ok (.aload_n 0, 1) := by decide +kernel
theorem dX1_catchUp_136 : decode cX1_catchUp 136 = .ok (.getfield 9, 3) := by decide +kernel
theorem dX1_catchUp_139 : decode cX1_catchUp 139 = .ok (.iload_n 1, 1) := by decide +kernel
theorem dX1_catchUp_140 : decode cX1_catchUp 140 = .ok (.iaload, 1) := by decide +kernel
theorem dX1_catchUp_141 : decode cX1_catchUp 141 = .ok (.invokevirtual 63, 3) := by decide +kernel
theorem dX1_catchUp_144 : decode cX1_catchUp 144 = .ok (.goto 23, 3) := by decide +kernel
theorem dX1_catchUp_147 : decode cX1_catchUp 147 = .ok (.aload_n 0, 1) := by decide +kernel
theorem dX1_catchUp_148 : decode cX1_catchUp 148 = .ok (.iload 7, 2) := by decide +kernel
theorem dX1_catchUp_150 : decode cX1_catchUp 150 = .ok (.iload 5, 2) := by decide +kernel
theorem dX1_catchUp_152 : decode cX1_catchUp 152 = .ok (.aload_n 0, 1) := by decide +kernel
theorem dX1_catchUp_153 : decode cX1_catchUp 153 = .ok (.getfield 9, 3) := by decide +kernel
theorem dX1_catchUp_156 : decode cX1_catchUp 156 = .ok (.iload_n 1, 1) := by decide +kernel
theorem dX1_catchUp_157 : decode cX1_catchUp 157 = .ok (.iaload, 1) := by decide +kernel
theorem dX1_catchUp_158 : decode cX1_catchUp 158 = .ok (.iload 8, 2) := by decide +kernel
theorem dX1_catchUp_160 : decode cX1_catchUp 160 = .ok (.iadd, 1) := by decide +kernel
theorem dX1_catchUp_161 : decode cX1_catchUp 161 = .ok (.iload 5, 2) := by decide +kernel
theorem dX1_catchUp_163 : decode cX1_catchUp 163 = .ok (.isub, 1) := by decide +kernel
theorem dX1_catchUp_164 : decode cX1_catchUp 164 = .ok (.invokevirtual 63, 3) := by decide +kernel
theorem dX1_catchUp_167 : decode cX1_catchUp 167 = .ok (.iinc 7 1, 3) := by decide +kernel
theorem dX1_catchUp_170 : decode cX1_catchUp 170 = .ok (.goto (-121), 3) := by decide +kernel
theorem dX1_catchUp_173 : decode cX1_catchUp 173 = .ok (.iconst 0, 1) := by decide +kernel
theorem dX1_catchUp_174 : decode cX1_catchUp 174 = .ok (.ireturn, 1) := by decide +kernel
theorem dX1_shortestAmbiguous_0 : decode cX1_shortestAmbiguous 0 = .ok (.aload_n 0, 1) := by decide +kernel
theorem dX1_shortestAmbiguous_1 : decode cX1_shortestAmbiguous 1 = .ok (.invokevirtual 45, 3) := by decide +kernel
theorem dX1_shortestAmbiguous_4 : decode cX1_shortestAmbiguous 4 = .ok (.iconst 0, 1) := by decide +kernel
theorem dX1_shortestAmbiguous_5 : decode cX1_shortestAmbiguous 5 = .ok (.istore_n 1, 1) := by decide +kernel
theorem dX1_shortestAmbiguous_6 : decode cX1_shortestAmbiguous 6 = .ok (.iload_n 1, 1) := by decide +kernel
theorem dX1_shortestAmbiguous_7 : decode cX1_shortestAmbiguous 7 = .ok (.aload_n 0, 1) := by decide +kernel
theorem dX1_shortestAmbiguous_8 : decode cX1_shortestAmbiguous 8 = .ok (.getfield 9, 3) := by decide +kernel
theorem dX1_shortestAmbiguous_11 : decode cX1_shortestAmbiguous 11 = .ok (.arraylength, 1) := by decide +kernel
theorem dX1_shortestAmbiguous_12 : decode cX1_shortestAmbiguous 12 = .ok (.if_icmp .ge 43, 3) := by decide +kernel
theorem dX1_shortestAmbiguous_15 : decode cX1_shortestAmbiguous 15 = .ok (.aload_n 0, 1) := by decide +kernel
theorem dX1_shortestAmbiguous_16 : decode cX1_shortestAmbiguous 16 = .ok (.invokevirtual 48, 3) := by decide +kernel
theorem dX1_shortestAmbiguous_19 : decode cX1_shortestAmbiguous 19 = .ok (.istore_n 2, 1) := by decide +kernel
theorem dX1_shortestAmbiguous_20 : decode cX1_shortestAmbiguous 20 = .ok (.iload_n 2, 1) := by decide +kernel
theorem dX1_shortestAmbiguous_21 : decode cX1_shortestAmbiguous 21 = .ok (.iconst (-1), 1) := by decide +kernel
theorem dX1_shortestAmbiguous_22 : decode cX1_shortestAmbiguous 22 = .ok (.if_icmp .ne 5, 3) := by decide +kernel
theorem dX1_shortestAmbiguous_25 : decode cX1_shortestAmbiguous 25 = .ok (.iconst (-1), 1) := by decide +kernel
theorem dX1_shortestAmbiguous_26 : decode cX1_shortestAmbiguous 26 = .ok (.ireturn, 1) := by decide +kernel
theorem dX1_shortestAmbiguous_27 : decode cX1_shortestAmbiguous 27 = .ok (.aload_n 0, 1) := by decide +kernel
theorem dX1_shortestAmbiguous_28 : decode cX1_shortestAmbiguous 28 = .ok (.getfield 15, 3) := by decide +kernel
theorem dX1_shortestAmbiguous_31 : decode cX1_shortestAmbiguous 31 = .ok (.iload_n 2, 1) := by decide +kernel
theorem dX1_shortestAmbiguous_32 : decode cX1_shortestAmbiguous 32 = .ok (.iconst 1, 1) := by decide +kernel
theorem dX1_shortestAmbiguous_33 : decode cX1_shortestAmbiguous 33 = .ok (.bastore, 1) := by decide +kernel
theorem dX1_shortestAmbiguous_34 : decode cX1_shortestAmbiguous 34 = .ok (.aload_n 0, 1) := by decide +kernel
theorem dX1_shortestAmbiguous_35 : decode cX1_shortestAmbiguous 35 = .ok (.iload_n 2, 1) := by decide +kernel
theorem dX1_shortestAmbiguous_36 : decode cX1_shortestAmbiguous 36 = .ok (.invokevirtual 52, 3) := by decide +kernel
theorem dX1_shortestAmbiguous_39 : decode cX1_shortestAmbiguous 39 = .ok (.ifCond .eq 10, 3) := by decide +kernel
theorem dX1_shortestAmbiguous_42 : decode cX1_shortestAmbiguous 42 = .ok (.aload_n 0, 1) := by decide +kernel
theorem dX1_shortestAmbiguous_43 : decode cX1_shortestAmbiguous 43 = .ok (.getfield 9, 3) := by decide +kernel
theorem dX1_shortestAmbiguous_46 : decode cX1_shortestAmbiguous 46 = .ok (.iload_n 2, 1) := by decide +kernel
theorem dX1_shortestAmbiguous_47 : decode cX1_shortestAmbiguous 47 = .ok (.iaload, 1) := by decide +kernel
theorem dX1_shortestAmbiguous_48 : decode cX1_shortestAmbiguous 48 = .ok (.ireturn, 1) := by decide +kernel
theorem dX1_shortestAmbiguous_49 : decode cX1_shortestAmbiguous 49 = .ok (.iinc 1 1, 3) := by decide +kernel
theorem dX1_shortestAmbiguous_52 : decode cX1_shortestAmbiguous 52 = .ok (.goto (-46), 3) := by decide +kernel
theorem dX1_shortestAmbiguous_55 : decode cX1_shortestAmbiguous 55 = .ok (.iconst (-1), 1) := by decide +kernel
theorem dX1_shortestAmbiguous_56 : decode cX1_shortestAmbiguous 56 = .ok (.ireturn, 1) := by decide +kernel
theorem dX1_prefixCouples_0 : decode cX1_prefixCouples 0 = .ok (.iconst 0, 1) := by decide +kernel
theorem dX1_prefixCouples_1 : decode cX1_prefixCouples 1 = .ok (.istore_n 1, 1) := by decide +kernel
theorem dX1_prefixCouples_2 : decode cX1_prefixCouples 2 = .ok (.iconst 0, 1) := by decide +kernel
theorem dX1_prefixCouples_3 : decode cX1_prefixCouples 3 = .ok (.istore_n 2, 1) := by decide +kernel
theorem dX1_prefixCouples_4 : decode cX1_prefixCouples 4 = .ok (.iload_n 2, 1) := by decide +kernel
theorem dX1_prefixCouples_5 : decode cX1_prefixCouples 5 = .ok (.aload_n 0, 1) := by decide +kernel
theorem dX1_prefixCouples_6 : decode cX1_prefixCouples 6 = .ok (.getfield 19, 3) := by decide +kernel
theorem dX1_prefixCouples_9 : decode cX1_prefixCouples 9 = .ok (.getfield 23, 3) := by decide +kernel
theorem dX1_prefixCouples_12 : decode cX1_prefixCouples 12 = .ok (.if_icmp .ge 45, 3) := by decide +kernel
theorem dX1_prefixCouples_15 : decode cX1_prefixCouples 15 = .ok (.iconst 0, 1) := by decide +kernel
theorem dX1_prefixCouples_16 : decode cX1_prefixCouples 16 = .ok (.istore_n 3, 1) := by decide +kernel
theorem dX1_prefixCouples_17 : decode cX1_prefixCouples 17 = .ok (.iload_n 3, 1) := by decide +kernel
theorem dX1_prefixCouples_18 : decode cX1_prefixCouples 18 = .ok (.aload_n 0, 1) := by decide +kernel
theorem dX1_prefixCouples_19 : decode cX1_prefixCouples 19 = .ok (.getfield 19, 3) := by decide +kernel
theorem dX1_prefixCouples_22 : decode cX1_prefixCouples 22 = .ok (.getfield 23, 3) := by decide +kernel
theorem dX1_prefixCouples_25 : decode cX1_prefixCouples 25 = .ok (.if_icmp .ge 26, 3) := by decide +kernel
theorem dX1_prefixCouples_28 : decode cX1_prefixCouples 28 = .ok (.iload_n 1, 1) := by decide +kernel
theorem dX1_prefixCouples_29 : decode cX1_prefixCouples 29 = .ok (.aload_n 0, 1) := by decide +kernel
theorem dX1_prefixCouples_30 : decode cX1_prefixCouples 30 = .ok (.iload_n 2, 1) := by decide +kernel
theorem dX1_prefixCouples_31 : decode cX1_prefixCouples 31 = .ok (.iload_n 3, 1) := by decide +kernel
theorem dX1_prefixCouples_32 : decode cX1_prefixCouples 32 = .ok (.invokevirtual 29, 3) := by decide +kernel
theorem dX1_prefixCouples_35 : decode cX1_prefixCouples 35 = .ok (.ifCond .eq 7, 3) := by decide +kernel
theorem dX1_prefixCouples_38 : decode cX1_prefixCouples 38 = .ok (.iconst 1, 1) := by decide +kernel
theorem dX1_prefixCouples_39 : decode cX1_prefixCouples 39 = .ok (.goto 4, 3) := by decide +kernel
theorem dX1_prefixCouples_42 : decode cX1_prefixCouples 42 = .ok (.iconst 0, 1) := by decide +kernel
theorem dX1_prefixCouples_43 : decode cX1_prefixCouples 43 = .ok (.iadd, 1) := by decide +kernel
theorem dX1_prefixCouples_44 : decode cX1_prefixCouples 44 = .ok (.istore_n 1, 1) := by decide +kernel
theorem dX1_prefixCouples_45 : decode cX1_prefixCouples 45 = .ok (.iinc 3 1, 3) := by decide +kernel
theorem dX1_prefixCouples_48 : decode cX1_prefixCouples 48 = .ok (.goto (-31), 3) := by decide +kernel
theorem dX1_prefixCouples_51 : decode cX1_prefixCouples 51 = .ok (.iinc 2 1, 3) := by decide +kernel
theorem dX1_prefixCouples_54 : decode cX1_prefixCouples 54 = .ok (.goto (-50), 3) := by decide +kernel
theorem dX1_prefixCouples_57 : decode cX1_prefixCouples 57 = .ok (.iload_n 1, 1) := by decide +kernel
theorem dX1_prefixCouples_58 : decode cX1_prefixCouples 58 = .ok (.ireturn, 1) := by decide +kernel
def jn_CO_beginsWith_63 (w0 : Int32) (μ : kbM) : Option (Int32) :=
  kbIf (decide (w0 = 0 ∨ w0 = 1)) <|
  some w0
theorem jnR_CO_beginsWith_63 {l : Launch}   (w0 : Int32) (μ : kbM) {Q : kbQt} {P : Int32 → Prop} (hr : ∀ z : Int32, P z → Q (some (.int z)) μ) (h : kbG (jn_CO_beginsWith_63 w0 μ) P) : kbR l MX1_beginsWith 2 Q 63 [none, none, none, none] [.int w0] μ := by
  unfold jn_CO_beginsWith_63 at h
  obtain ⟨hz, h⟩ := kbG_if h
  exact r_zret rfl (kb_z01 (of_decide_eq_true hz)) dX1_beginsWith_63 (hr w0 (kbG_some h))
def jn_CO_beginsWith_62 (μ : kbM) : Option (Int32) :=
  jn_CO_beginsWith_63 0 μ
theorem jnR_CO_beginsWith_62 {l : Launch}    (μ : kbM) {Q : kbQt} {P : Int32 → Prop} (hr : ∀ z : Int32, P z → Q (some (.int z)) μ) (h : kbG (jn_CO_beginsWith_62 μ) P) : kbR l MX1_beginsWith 2 Q 62 [none, none, none, none] [] μ := by
  unfold jn_CO_beginsWith_62 at h
  refine r_iconst 0 dX1_beginsWith_62 (by decide) ?_
  refine r_le [none, none, none, none] trivial ?_
  exact jnR_CO_beginsWith_63 0 μ (hr := hr) h
def f_CO_beginsWith (a1 : Int32) (a2 : Int32) (μ : kbM) : Option (Int32) :=
  kbIf (kbIn a2 10) <|
  kbIf (kbIn a1 10) <|
  if (μ.1 15 a1.toNatClampNeg) ≤ (μ.1 15 a2.toNatClampNeg) then
    jn_CO_beginsWith_62 μ
  else
    kbIf (kbIn a1 10) <|
    kbIf (kbIn a1 10) <|
    (f_RO_slice (μ.1 14 a1.toNatClampNeg) (μ.1 15 a1.toNatClampNeg) 0 (μ.1 15 a2.toNatClampNeg)).bind fun x1 =>
    kbIf (kbIn a2 10) <|
    if x1 = (μ.1 14 a2.toNatClampNeg) then
      jn_CO_beginsWith_63 1 μ
    else
      jn_CO_beginsWith_62 μ
theorem sp_CO_beginsWith {l : Launch} (a1 : Int32) (a2 : Int32) (μ : kbM)  {x : Int32} (h : f_CO_beginsWith a1 a2 μ = some x) : kbS l MX1_beginsWith 2 [.ref 48, .int a1, .int a2] μ (kbQe (some (.int x)) μ) := by
  refine kb_enter 1 rfl rfl ?_
  suffices H : ∀ (Q : kbQt) (P : Int32 → Prop), (∀ z : Int32, P z → Q (some (.int z)) μ) → kbG (f_CO_beginsWith a1 a2 μ) P → kbR l MX1_beginsWith 2 Q 0 [some (.ref 48), some (.int a1), some (.int a2), none] [] μ from H _ (fun z => z = x) (fun z e => by subst e; exact ⟨rfl, rfl⟩) ⟨x, h, rfl⟩
  clear h
  intro Q P hr h
  unfold f_CO_beginsWith at h
  refine r_aload_n dX1_beginsWith_0 rfl ?_
  refine r_getR flX1_19 sh48 rfl dX1_beginsWith_1 ?_
  refine r_getR flX1_33 sh13 rfl dX1_beginsWith_4 ?_
  refine r_iload_n dX1_beginsWith_7 rfl ?_
  obtain ⟨hin, h⟩ := kbG_if h
  replace hin := kbIn_of hin
  refine q_iald a2.toNatClampNeg rfl sh15 hin dX1_beginsWith_8 ?_
  refine r_istore_n dX1_beginsWith_9 (Nat.le_of_ble_eq_true rfl) rfl ?_
  refine r_iload_n dX1_beginsWith_10 rfl ?_
  refine r_aload_n dX1_beginsWith_11 rfl ?_
  refine r_getR flX1_19 sh48 rfl dX1_beginsWith_12 ?_
  refine r_getR flX1_33 sh13 rfl dX1_beginsWith_15 ?_
  refine r_iload_n dX1_beginsWith_18 rfl ?_
  obtain ⟨hin, h⟩ := kbG_if h
  replace hin := kbIn_of hin
  refine q_iald a1.toNatClampNeg rfl sh15 hin dX1_beginsWith_19 ?_
  refine r_icmp_ge 62 dX1_beginsWith_20 (by decide) (fun hc => ?_) (fun hc => ?_)
  · replace h := kbG_t hc h
    refine r_le [none, none, none, none] trivial ?_
    exact jnR_CO_beginsWith_62  μ (hr := hr) h
  · replace h := kbG_f hc h
    refine r_aload_n dX1_beginsWith_23 rfl ?_
    refine r_getR flX1_19 sh48 rfl dX1_beginsWith_24 ?_
    refine r_getR flX1_36 sh13 rfl dX1_beginsWith_27 ?_
    refine r_iload_n dX1_beginsWith_30 rfl ?_
    obtain ⟨hin, h⟩ := kbG_if h
    replace hin := kbIn_of hin
    refine q_iald a1.toNatClampNeg rfl sh14 hin dX1_beginsWith_31 ?_
    refine r_aload_n dX1_beginsWith_32 rfl ?_
    refine r_getR flX1_19 sh48 rfl dX1_beginsWith_33 ?_
    refine r_getR flX1_33 sh13 rfl dX1_beginsWith_36 ?_
    refine r_iload_n dX1_beginsWith_39 rfl ?_
    obtain ⟨hin, h⟩ := kbG_if h
    replace hin := kbIn_of hin
    refine q_iald a1.toNatClampNeg rfl sh15 hin dX1_beginsWith_40 ?_
    refine r_iconst 0 dX1_beginsWith_41 (by decide) ?_
    refine r_iload_n dX1_beginsWith_42 rfl ?_
    obtain ⟨x1, hx0, h⟩ := kbG_bind h
    refine r_inv_i csX1_39 (sp_RO_slice (μ.1 14 a1.toNatClampNeg) (μ.1 15 a1.toNatClampNeg) 0 (μ.1 15 a2.toNatClampNeg) μ hx0) rfl rfl (Nat.le_of_ble_eq_true rfl) (Nat.le_of_ble_eq_true rfl) dX1_beginsWith_43 ?_
    refine r_aload_n dX1_beginsWith_46 rfl ?_
    refine r_getR flX1_19 sh48 rfl dX1_beginsWith_47 ?_
    refine r_getR flX1_36 sh13 rfl dX1_beginsWith_50 ?_
    refine r_iload_n dX1_beginsWith_53 rfl ?_
    obtain ⟨hin, h⟩ := kbG_if h
    replace hin := kbIn_of hin
    refine q_iald a2.toNatClampNeg rfl sh14 hin dX1_beginsWith_54 ?_
    refine r_icmp_ne 62 dX1_beginsWith_55 (by decide) (fun hc => ?_) (fun hc => ?_)
    · replace h := kbG_f hc h
      refine r_le [none, none, none, none] trivial ?_
      exact jnR_CO_beginsWith_62  μ (hr := hr) h
    · replace h := kbG_t hc h
      refine r_iconst 1 dX1_beginsWith_58 (by decide) ?_
      refine r_goto 63 dX1_beginsWith_59 (by decide) ?_
      refine r_le [none, none, none, none] trivial ?_
      exact jnR_CO_beginsWith_63 1 μ (hr := hr) h
def f_CO_shorten (a1 : Int32) (a2 : Int32) (a3 : Int32) (μ : kbM) : Option (kbM) :=
  kbIf (kbIn ((a1 * 6) + a2) 60) <|
  kbIf (kbIn ((a1 * 6) + a2) 60) <|
  some (kbW μ 49 (((a1 * 6) + a2).toNatClampNeg) (kbMin (μ.1 49 (((a1 * 6) + a2).toNatClampNeg)) a3))
theorem sp_CO_shorten {l : Launch} (a1 : Int32) (a2 : Int32) (a3 : Int32) (μ : kbM)  {x : kbM} (h : f_CO_shorten a1 a2 a3 μ = some x) : kbS l MX1_shorten 1 [.ref 48, .int a1, .int a2, .int a3] μ (kbQe none x) := by
  refine kb_enter 1 rfl rfl ?_
  suffices H : ∀ (Q : kbQt) (P : kbM → Prop), (∀ z : kbM, P z → Q none z) → kbG (f_CO_shorten a1 a2 a3 μ) P → kbR l MX1_shorten 1 Q 0 [some (.ref 48), some (.int a1), some (.int a2), some (.int a3), none] [] μ from H _ (fun z => z = x) (fun z e => by subst e; exact ⟨rfl, rfl⟩) ⟨x, h, rfl⟩
  clear h
  intro Q P hr h
  unfold f_CO_shorten at h
  refine r_iload_n dX1_shorten_0 rfl ?_
  refine r_bipush 6 dX1_shorten_1 (by decide) ?_
  refine r_imul dX1_shorten_3 ?_
  refine r_iload_n dX1_shorten_4 rfl ?_
  refine r_iadd dX1_shorten_5 ?_
  refine r_istore dX1_shorten_6 (Nat.le_of_ble_eq_true rfl) rfl ?_
  refine r_aload_n dX1_shorten_8 rfl ?_
  refine r_getR flX1_9 sh48 rfl dX1_shorten_9 ?_
  refine r_iload dX1_shorten_12 rfl ?_
  refine r_aload_n dX1_shorten_14 rfl ?_
  refine r_getR flX1_9 sh48 rfl dX1_shorten_15 ?_
  refine r_iload dX1_shorten_18 rfl ?_
  obtain ⟨hin, h⟩ := kbG_if h
  replace hin := kbIn_of hin
  refine q_iald (((a1 * 6) + a2).toNatClampNeg) rfl sh49 hin dX1_shorten_20 ?_
  refine r_iload_n dX1_shorten_21 rfl ?_
  refine r_min mlX1_67 (Nat.le_of_ble_eq_true rfl) (Nat.le_of_ble_eq_true rfl) dX1_shorten_22 ?_
  obtain ⟨hin, h⟩ := kbG_if h
  replace hin := kbIn_of hin
  refine q_iast (((a1 * 6) + a2).toNatClampNeg) rfl sh49 hin dX1_shorten_25 ?_
  exact r_vret rfl dX1_shorten_26 (hr (kbW μ 49 (((a1 * 6) + a2).toNatClampNeg) (kbMin (μ.1 49 (((a1 * 6) + a2).toNatClampNeg)) a3)) (kbG_some h))
def lp_CO_begin_11 (n : Nat) : Nat → Int32 → kbM → Option (kbM)
  | 0, _, _ => none
  | k + 1, v1, μ =>
    if 60 ≤ v1 then
      some μ
    else
      kbIf (kbIn v1 60) <|
      lp_CO_begin_11 n k (v1 + 1) (kbW μ 50 v1.toNatClampNeg (vp_nar .boolean 0))
theorem lpR_CO_begin_11 {l : Launch} (n : Nat)   {Q : kbQt} {P : kbM → Prop} (hx : ∀ z : kbM, P (z) → kbR l MX1_begin 3 Q 33 [some (.ref 48), none, none] [] z) : ∀ (k : Nat) (v1 : Int32) (μ : kbM), kbG (lp_CO_begin_11 n k v1 μ) P → kbR l MX1_begin 3 Q 11 [some (.ref 48), some (.int v1), none] [] μ := by
  intro k
  induction k with
  | zero => intro v1 μ h; exact absurd h kbG_none
  | succ k ih =>
    intro v1 μ h
    unfold lp_CO_begin_11 at h
    refine r_iload_n dX1_begin_11 rfl ?_
    refine r_aload_n dX1_begin_12 rfl ?_
    refine r_getR flX1_15 sh48 rfl dX1_begin_13 ?_
    refine r_alen 60 sh50 (by decide) (by decide) dX1_begin_16 ?_
    refine r_icmp_ge 33 dX1_begin_17 (by decide) (fun hc => ?_) (fun hc => ?_)
    · replace h := kbG_t hc h
      refine r_le [some (.ref 48), none, none] ⟨rfl, trivial⟩ ?_
      exact hx μ (kbG_some h)
    · replace h := kbG_f hc h
      refine r_aload_n dX1_begin_20 rfl ?_
      refine r_getR flX1_15 sh48 rfl dX1_begin_21 ?_
      refine r_iload_n dX1_begin_24 rfl ?_
      refine r_iconst 0 dX1_begin_25 (by decide) ?_
      obtain ⟨hin, h⟩ := kbG_if h
      replace hin := kbIn_of hin
      refine q_zast v1.toNatClampNeg rfl sh50 hin dX1_begin_26 ?_
      refine r_iinc 1 dX1_begin_27 rfl (by decide) (Nat.le_of_ble_eq_true rfl) rfl ?_
      refine r_goto 11 dX1_begin_30 (by decide) ?_
      refine r_le [some (.ref 48), some (.int (v1 + 1)), none] ⟨rfl, ⟨rfl, trivial⟩⟩ ?_
      exact ih (v1 + 1) (kbW μ 50 v1.toNatClampNeg (vp_nar .boolean 0)) h
def jn_CO_begin_91 (n : Nat) (rec : Int32 → kbM → Option (kbM)) (v1 : Int32) (v2 : Int32) (μ : kbM) : Option (kbM) :=
  rec (v2 + 1) μ
theorem jnR_CO_begin_91 {l : Launch} (n : Nat)   (v1 : Int32) (v2 : Int32) (μ : kbM) {Q : kbQt} {P : kbM → Prop} (hx : ∀ z : kbM, P (z) → kbR l MX1_begin 3 Q 97 [some (.ref 48), some (.int v1), none] [] z) {rec : Int32 → kbM → Option (kbM)} (hrec : ∀ (v2 : Int32) (μ : kbM), kbG (rec v2 μ) P → kbR l MX1_begin 3 Q 48 [some (.ref 48), some (.int v1), some (.int v2)] [] μ) (h : kbG (jn_CO_begin_91 n rec v1 v2 μ) P) : kbR l MX1_begin 3 Q 91 [some (.ref 48), some (.int v1), some (.int v2)] [] μ := by
  unfold jn_CO_begin_91 at h
  refine r_iinc 1 dX1_begin_91 rfl (by decide) (Nat.le_of_ble_eq_true rfl) rfl ?_
  refine r_goto 48 dX1_begin_94 (by decide) ?_
  refine r_le [some (.ref 48), some (.int v1), some (.int (v2 + 1))] ⟨rfl, ⟨rfl, ⟨rfl, trivial⟩⟩⟩ ?_
  exact hrec (v2 + 1) μ h
def lp_CO_begin_48 (n : Nat) (v1 : Int32) : Nat → Int32 → kbM → Option (kbM)
  | 0, _, _ => none
  | k + 1, v2, μ =>
    if (μ.1 13 4) ≤ v2 then
      some μ
    else
      (f_CO_beginsWith v1 v2 μ).bind fun x2 =>
      if x2 = 0 then
        jn_CO_begin_91 n (lp_CO_begin_48 n v1 k) v1 v2 μ
      else
        kbIf (kbIn v2 10) <|
        kbIf (kbIn v1 10) <|
        (f_CO_shorten v1 (μ.1 15 v2.toNatClampNeg) (μ.1 15 v1.toNatClampNeg) μ).bind fun x3 =>
        jn_CO_begin_91 n (lp_CO_begin_48 n v1 k) v1 v2 x3
theorem lpR_CO_begin_48 {l : Launch} (n : Nat) (v1 : Int32)  {Q : kbQt} {P : kbM → Prop} (hx : ∀ z : kbM, P (z) → kbR l MX1_begin 3 Q 97 [some (.ref 48), some (.int v1), none] [] z) : ∀ (k : Nat) (v2 : Int32) (μ : kbM), kbG (lp_CO_begin_48 n v1 k v2 μ) P → kbR l MX1_begin 3 Q 48 [some (.ref 48), some (.int v1), some (.int v2)] [] μ := by
  intro k
  induction k with
  | zero => intro v2 μ h; exact absurd h kbG_none
  | succ k ih =>
    intro v2 μ h
    unfold lp_CO_begin_48 at h
    refine r_iload_n dX1_begin_48 rfl ?_
    refine r_aload_n dX1_begin_49 rfl ?_
    refine r_getR flX1_19 sh48 rfl dX1_begin_50 ?_
    refine r_getI flX1_23 sh13 rfl dX1_begin_53 ?_
    refine r_icmp_ge 97 dX1_begin_56 (by decide) (fun hc => ?_) (fun hc => ?_)
    · replace h := kbG_t hc h
      refine r_le [some (.ref 48), some (.int v1), none] ⟨rfl, ⟨rfl, trivial⟩⟩ ?_
      exact hx μ (kbG_some h)
    · replace h := kbG_f hc h
      refine r_aload_n dX1_begin_59 rfl ?_
      refine r_iload_n dX1_begin_60 rfl ?_
      refine r_iload_n dX1_begin_61 rfl ?_
      obtain ⟨x2, hx0, h⟩ := kbG_bind h
      refine r_invV_i cvX1_29 sh48 rfl (sp_CO_beginsWith v1 v2 μ hx0) rfl rfl (Nat.le_of_ble_eq_true rfl) (Nat.le_of_ble_eq_true rfl) dX1_begin_62 ?_
      refine r_if_eq 91 dX1_begin_65 (by decide) (fun hc => ?_) (fun hc => ?_)
      · replace h := kbG_t hc h
        refine r_le [some (.ref 48), some (.int v1), some (.int v2)] ⟨rfl, ⟨rfl, ⟨rfl, trivial⟩⟩⟩ ?_
        exact jnR_CO_begin_91 n v1 v2 μ (hx := hx) (hrec := ih) h
      · replace h := kbG_f hc h
        refine r_aload_n dX1_begin_68 rfl ?_
        refine r_iload_n dX1_begin_69 rfl ?_
        refine r_aload_n dX1_begin_70 rfl ?_
        refine r_getR flX1_19 sh48 rfl dX1_begin_71 ?_
        refine r_getR flX1_33 sh13 rfl dX1_begin_74 ?_
        refine r_iload_n dX1_begin_77 rfl ?_
        obtain ⟨hin, h⟩ := kbG_if h
        replace hin := kbIn_of hin
        refine q_iald v2.toNatClampNeg rfl sh15 hin dX1_begin_78 ?_
        refine r_aload_n dX1_begin_79 rfl ?_
        refine r_getR flX1_19 sh48 rfl dX1_begin_80 ?_
        refine r_getR flX1_33 sh13 rfl dX1_begin_83 ?_
        refine r_iload_n dX1_begin_86 rfl ?_
        obtain ⟨hin, h⟩ := kbG_if h
        replace hin := kbIn_of hin
        refine q_iald v1.toNatClampNeg rfl sh15 hin dX1_begin_87 ?_
        obtain ⟨x3, hx0, h⟩ := kbG_bind h
        refine r_invV_v cvX1_63 sh48 rfl (sp_CO_shorten v1 (μ.1 15 v2.toNatClampNeg) (μ.1 15 v1.toNatClampNeg) μ hx0) rfl rfl (Nat.le_of_ble_eq_true rfl) (Nat.le_of_ble_eq_true rfl) dX1_begin_88 ?_
        refine r_le [some (.ref 48), some (.int v1), some (.int v2)] ⟨rfl, ⟨rfl, ⟨rfl, trivial⟩⟩⟩ ?_
        exact jnR_CO_begin_91 n v1 v2 x3 (hx := hx) (hrec := ih) h
def lp_CO_begin_35 (n : Nat) : Nat → Int32 → kbM → Option (kbM)
  | 0, _, _ => none
  | k + 1, v1, μ =>
    if (μ.1 13 4) ≤ v1 then
      some μ
    else
      (lp_CO_begin_48 n v1 n 0 μ).bind fun x4 =>
      lp_CO_begin_35 n k (v1 + 1) x4
theorem lpR_CO_begin_35 {l : Launch} (n : Nat)   {Q : kbQt} {P : kbM → Prop} (hx : ∀ z : kbM, P (z) → kbR l MX1_begin 3 Q 103 [none, none, none] [] z) : ∀ (k : Nat) (v1 : Int32) (μ : kbM), kbG (lp_CO_begin_35 n k v1 μ) P → kbR l MX1_begin 3 Q 35 [some (.ref 48), some (.int v1), none] [] μ := by
  intro k
  induction k with
  | zero => intro v1 μ h; exact absurd h kbG_none
  | succ k ih =>
    intro v1 μ h
    unfold lp_CO_begin_35 at h
    refine r_iload_n dX1_begin_35 rfl ?_
    refine r_aload_n dX1_begin_36 rfl ?_
    refine r_getR flX1_19 sh48 rfl dX1_begin_37 ?_
    refine r_getI flX1_23 sh13 rfl dX1_begin_40 ?_
    refine r_icmp_ge 103 dX1_begin_43 (by decide) (fun hc => ?_) (fun hc => ?_)
    · replace h := kbG_t hc h
      refine r_le [none, none, none] trivial ?_
      exact hx μ (kbG_some h)
    · replace h := kbG_f hc h
      refine r_iconst 0 dX1_begin_46 (by decide) ?_
      refine r_istore_n dX1_begin_47 (Nat.le_of_ble_eq_true rfl) rfl ?_
      refine r_le [some (.ref 48), some (.int v1), some (.int 0)] ⟨rfl, ⟨rfl, ⟨rfl, trivial⟩⟩⟩ ?_
      obtain ⟨x4, hx0, h⟩ := kbG_bind h
      refine lpR_CO_begin_48 n v1 (P := fun z => x4 = z) (hx := fun z e => ?_) n _ _ ⟨_, hx0, rfl⟩
      subst e
      refine r_iinc 1 dX1_begin_97 rfl (by decide) (Nat.le_of_ble_eq_true rfl) rfl ?_
      refine r_goto 35 dX1_begin_100 (by decide) ?_
      refine r_le [some (.ref 48), some (.int (v1 + 1)), none] ⟨rfl, ⟨rfl, trivial⟩⟩ ?_
      exact ih (v1 + 1) x4 h
def f_CO_begin (n : Nat) (μ : kbM) : Option (kbM) :=
  (lp_CO_begin_11 n n 0 (kbA μ 49 (kbFill (μ.1 49) 60 1000000))).bind fun x1 =>
  (lp_CO_begin_35 n n 0 x1).bind fun x5 =>
  some x5
theorem sp_CO_begin {l : Launch} (n : Nat) (μ : kbM)  {x : kbM} (h : f_CO_begin n μ = some x) : kbS l MX1_begin 3 [.ref 48] μ (kbQe none x) := by
  refine kb_enter 2 rfl rfl ?_
  suffices H : ∀ (Q : kbQt) (P : kbM → Prop), (∀ z : kbM, P z → Q none z) → kbG (f_CO_begin n μ) P → kbR l MX1_begin 3 Q 0 [some (.ref 48), none, none] [] μ from H _ (fun z => z = x) (fun z e => by subst e; exact ⟨rfl, rfl⟩) ⟨x, h, rfl⟩
  clear h
  intro Q P hr h
  unfold f_CO_begin at h
  refine r_aload_n dX1_begin_0 rfl ?_
  refine r_getR flX1_9 sh48 rfl dX1_begin_1 ?_
  refine r_ldc 1000000 liX1_56 dX1_begin_4 ?_
  refine r_inv_v csX1_57 (sp_fill sh49 (by decide) 1000000 _) rfl rfl (Nat.le_of_ble_eq_true rfl) (Nat.le_of_ble_eq_true rfl) dX1_begin_6 ?_
  refine r_iconst 0 dX1_begin_9 (by decide) ?_
  refine r_istore_n dX1_begin_10 (Nat.le_of_ble_eq_true rfl) rfl ?_
  refine r_le [some (.ref 48), some (.int 0), none] ⟨rfl, ⟨rfl, trivial⟩⟩ ?_
  obtain ⟨x1, hx0, h⟩ := kbG_bind h
  refine lpR_CO_begin_11 n (P := fun z => x1 = z) (hx := fun z e => ?_) n _ _ ⟨_, hx0, rfl⟩
  subst e
  refine r_iconst 0 dX1_begin_33 (by decide) ?_
  refine r_istore_n dX1_begin_34 (Nat.le_of_ble_eq_true rfl) rfl ?_
  refine r_le [some (.ref 48), some (.int 0), none] ⟨rfl, ⟨rfl, trivial⟩⟩ ?_
  obtain ⟨x5, hx0, h⟩ := kbG_bind h
  refine lpR_CO_begin_35 n (P := fun z => x5 = z) (hx := fun z e => ?_) n _ _ ⟨_, hx0, rfl⟩
  subst e
  exact r_vret rfl dX1_begin_103 (hr x5 (kbG_some h))
def jn_CO_shortestLead_55 (n : Nat) (rec : Int32 → Int32 → Option (Int32)) (v1 : Int32) (v2 : Int32) (μ : kbM) : Option (Int32) :=
  rec v1 (v2 + 1)
theorem jnR_CO_shortestLead_55 {l : Launch} (n : Nat)   (v1 : Int32) (v2 : Int32) (μ : kbM) {Q : kbQt} {P : Int32 → Prop} (hx : ∀ z : Int32, P (z) → kbR l MX1_shortestLead 1 Q 61 [none, some (.int z), none] [] μ) {rec : Int32 → Int32 → Option (Int32)} (hrec : ∀ (v1 : Int32) (v2 : Int32), kbG (rec v1 v2) P → kbR l MX1_shortestLead 1 Q 4 [some (.ref 48), some (.int v1), some (.int v2)] [] μ) (h : kbG (jn_CO_shortestLead_55 n rec v1 v2 μ) P) : kbR l MX1_shortestLead 1 Q 55 [some (.ref 48), some (.int v1), some (.int v2)] [] μ := by
  unfold jn_CO_shortestLead_55 at h
  refine r_iinc 1 dX1_shortestLead_55 rfl (by decide) (Nat.le_of_ble_eq_true rfl) rfl ?_
  refine r_goto 4 dX1_shortestLead_58 (by decide) ?_
  refine r_le [some (.ref 48), some (.int v1), some (.int (v2 + 1))] ⟨rfl, ⟨rfl, ⟨rfl, trivial⟩⟩⟩ ?_
  exact hrec v1 (v2 + 1) h
def jn_CO_shortestLead_53 (n : Nat) (rec : Int32 → Int32 → Option (Int32)) (v2 : Int32) (μ : kbM) : Option (Int32) :=
  jn_CO_shortestLead_55 n rec v2 v2 μ
theorem jnR_CO_shortestLead_53 {l : Launch} (n : Nat)   (v2 : Int32) (μ : kbM) {Q : kbQt} {P : Int32 → Prop} (hx : ∀ z : Int32, P (z) → kbR l MX1_shortestLead 1 Q 61 [none, some (.int z), none] [] μ) {rec : Int32 → Int32 → Option (Int32)} (hrec : ∀ (v1 : Int32) (v2 : Int32), kbG (rec v1 v2) P → kbR l MX1_shortestLead 1 Q 4 [some (.ref 48), some (.int v1), some (.int v2)] [] μ) (h : kbG (jn_CO_shortestLead_53 n rec v2 μ) P) : kbR l MX1_shortestLead 1 Q 53 [some (.ref 48), none, some (.int v2)] [] μ := by
  unfold jn_CO_shortestLead_53 at h
  refine r_iload_n dX1_shortestLead_53 rfl ?_
  refine r_istore_n dX1_shortestLead_54 (Nat.le_of_ble_eq_true rfl) rfl ?_
  refine r_le [some (.ref 48), some (.int v2), some (.int v2)] ⟨rfl, ⟨rfl, ⟨rfl, trivial⟩⟩⟩ ?_
  exact jnR_CO_shortestLead_55 n v2 v2 μ (hx := hx) (hrec := hrec) h
def lp_CO_shortestLead_4 (n : Nat) (μ : kbM) : Nat → Int32 → Int32 → Option (Int32)
  | 0, _, _ => none
  | k + 1, v1, v2 =>
    if 60 ≤ v2 then
      some v1
    else
      kbIf (kbIn v2 60) <|
      if (μ.1 50 v2.toNatClampNeg) = 0 then
        kbIf (kbIn v2 60) <|
        if 1000000 ≤ (μ.1 49 v2.toNatClampNeg) then
          jn_CO_shortestLead_55 n (lp_CO_shortestLead_4 n μ k) v1 v2 μ
        else
          if v1 = (-1) then
            jn_CO_shortestLead_53 n (lp_CO_shortestLead_4 n μ k) v2 μ
          else
            kbIf (kbIn v2 60) <|
            kbIf (kbIn v1 60) <|
            if (μ.1 49 v1.toNatClampNeg) ≤ (μ.1 49 v2.toNatClampNeg) then
              jn_CO_shortestLead_55 n (lp_CO_shortestLead_4 n μ k) v1 v2 μ
            else
              jn_CO_shortestLead_53 n (lp_CO_shortestLead_4 n μ k) v2 μ
      else
        jn_CO_shortestLead_55 n (lp_CO_shortestLead_4 n μ k) v1 v2 μ
theorem lpR_CO_shortestLead_4 {l : Launch} (n : Nat) (μ : kbM)  {Q : kbQt} {P : Int32 → Prop} (hx : ∀ z : Int32, P (z) → kbR l MX1_shortestLead 1 Q 61 [none, some (.int z), none] [] μ) : ∀ (k : Nat) (v1 : Int32) (v2 : Int32), kbG (lp_CO_shortestLead_4 n μ k v1 v2) P → kbR l MX1_shortestLead 1 Q 4 [some (.ref 48), some (.int v1), some (.int v2)] [] μ := by
  intro k
  induction k with
  | zero => intro v1 v2 h; exact absurd h kbG_none
  | succ k ih =>
    intro v1 v2 h
    unfold lp_CO_shortestLead_4 at h
    refine r_iload_n dX1_shortestLead_4 rfl ?_
    refine r_aload_n dX1_shortestLead_5 rfl ?_
    refine r_getR flX1_9 sh48 rfl dX1_shortestLead_6 ?_
    refine r_alen 60 sh49 (by decide) (by decide) dX1_shortestLead_9 ?_
    refine r_icmp_ge 61 dX1_shortestLead_10 (by decide) (fun hc => ?_) (fun hc => ?_)
    · replace h := kbG_t hc h
      refine r_le [none, some (.int v1), none] ⟨rfl, trivial⟩ ?_
      exact hx v1 (kbG_some h)
    · replace h := kbG_f hc h
      refine r_aload_n dX1_shortestLead_13 rfl ?_
      refine r_getR flX1_15 sh48 rfl dX1_shortestLead_14 ?_
      refine r_iload_n dX1_shortestLead_17 rfl ?_
      obtain ⟨hin, h⟩ := kbG_if h
      replace hin := kbIn_of hin
      refine q_zald v2.toNatClampNeg rfl sh50 hin dX1_shortestLead_18 ?_
      refine r_if_ne 55 dX1_shortestLead_19 (by decide) (fun hc => ?_) (fun hc => ?_)
      · replace h := kbG_f hc h
        refine r_le [some (.ref 48), some (.int v1), some (.int v2)] ⟨rfl, ⟨rfl, ⟨rfl, trivial⟩⟩⟩ ?_
        exact jnR_CO_shortestLead_55 n v1 v2 μ (hx := hx) (hrec := ih) h
      · replace h := kbG_t hc h
        refine r_aload_n dX1_shortestLead_22 rfl ?_
        refine r_getR flX1_9 sh48 rfl dX1_shortestLead_23 ?_
        refine r_iload_n dX1_shortestLead_26 rfl ?_
        obtain ⟨hin, h⟩ := kbG_if h
        replace hin := kbIn_of hin
        refine q_iald v2.toNatClampNeg rfl sh49 hin dX1_shortestLead_27 ?_
        refine r_ldc 1000000 liX1_56 dX1_shortestLead_28 ?_
        refine r_icmp_ge 55 dX1_shortestLead_30 (by decide) (fun hc => ?_) (fun hc => ?_)
        · replace h := kbG_t hc h
          refine r_le [some (.ref 48), some (.int v1), some (.int v2)] ⟨rfl, ⟨rfl, ⟨rfl, trivial⟩⟩⟩ ?_
          exact jnR_CO_shortestLead_55 n v1 v2 μ (hx := hx) (hrec := ih) h
        · replace h := kbG_f hc h
          refine r_iload_n dX1_shortestLead_33 rfl ?_
          refine r_iconst (-1) dX1_shortestLead_34 (by decide) ?_
          refine r_icmp_eq 53 dX1_shortestLead_35 (by decide) (fun hc => ?_) (fun hc => ?_)
          · replace h := kbG_t hc h
            refine r_le [some (.ref 48), none, some (.int v2)] ⟨rfl, ⟨rfl, trivial⟩⟩ ?_
            exact jnR_CO_shortestLead_53 n v2 μ (hx := hx) (hrec := ih) h
          · replace h := kbG_f hc h
            refine r_aload_n dX1_shortestLead_38 rfl ?_
            refine r_getR flX1_9 sh48 rfl dX1_shortestLead_39 ?_
            refine r_iload_n dX1_shortestLead_42 rfl ?_
            obtain ⟨hin, h⟩ := kbG_if h
            replace hin := kbIn_of hin
            refine q_iald v2.toNatClampNeg rfl sh49 hin dX1_shortestLead_43 ?_
            refine r_aload_n dX1_shortestLead_44 rfl ?_
            refine r_getR flX1_9 sh48 rfl dX1_shortestLead_45 ?_
            refine r_iload_n dX1_shortestLead_48 rfl ?_
            obtain ⟨hin, h⟩ := kbG_if h
            replace hin := kbIn_of hin
            refine q_iald v1.toNatClampNeg rfl sh49 hin dX1_shortestLead_49 ?_
            refine r_icmp_ge 55 dX1_shortestLead_50 (by decide) (fun hc => ?_) (fun hc => ?_)
            · replace h := kbG_t hc h
              refine r_le [some (.ref 48), some (.int v1), some (.int v2)] ⟨rfl, ⟨rfl, ⟨rfl, trivial⟩⟩⟩ ?_
              exact jnR_CO_shortestLead_55 n v1 v2 μ (hx := hx) (hrec := ih) h
            · replace h := kbG_f hc h
              refine r_le [some (.ref 48), none, some (.int v2)] ⟨rfl, ⟨rfl, trivial⟩⟩ ?_
              exact jnR_CO_shortestLead_53 n v2 μ (hx := hx) (hrec := ih) h
def f_CO_shortestLead (n : Nat) (μ : kbM) : Option (Int32) :=
  (lp_CO_shortestLead_4 n μ n (-1) 0).bind fun x1 =>
  some x1
theorem sp_CO_shortestLead {l : Launch} (n : Nat) (μ : kbM)  {x : Int32} (h : f_CO_shortestLead n μ = some x) : kbS l MX1_shortestLead 1 [.ref 48] μ (kbQe (some (.int x)) μ) := by
  refine kb_enter 2 rfl rfl ?_
  suffices H : ∀ (Q : kbQt) (P : Int32 → Prop), (∀ z : Int32, P z → Q (some (.int z)) μ) → kbG (f_CO_shortestLead n μ) P → kbR l MX1_shortestLead 1 Q 0 [some (.ref 48), none, none] [] μ from H _ (fun z => z = x) (fun z e => by subst e; exact ⟨rfl, rfl⟩) ⟨x, h, rfl⟩
  clear h
  intro Q P hr h
  unfold f_CO_shortestLead at h
  refine r_iconst (-1) dX1_shortestLead_0 (by decide) ?_
  refine r_istore_n dX1_shortestLead_1 (Nat.le_of_ble_eq_true rfl) rfl ?_
  refine r_iconst 0 dX1_shortestLead_2 (by decide) ?_
  refine r_istore_n dX1_shortestLead_3 (Nat.le_of_ble_eq_true rfl) rfl ?_
  refine r_le [some (.ref 48), some (.int (-1)), some (.int 0)] ⟨rfl, ⟨rfl, ⟨rfl, trivial⟩⟩⟩ ?_
  obtain ⟨x1, hx0, h⟩ := kbG_bind h
  refine lpR_CO_shortestLead_4 n μ (P := fun z => x1 = z) (hx := fun z e => ?_) n _ _ ⟨_, hx0, rfl⟩
  subst e
  refine r_iload_n dX1_shortestLead_61 rfl ?_
  exact r_iret rfl dX1_shortestLead_62 (hr x1 (kbG_some h))
def jn_CO_catchUp_167 (n : Nat) (rec : Int32 → kbM → Option ((Int32 × kbM) ⊕ (kbM))) (v1 : Int32) (v2 : Int32) (v3 : Int32) (v5 : Int32) (v6 : Int32) (v7 : Int32) (μ : kbM) : Option ((Int32 × kbM) ⊕ (kbM)) :=
  rec (v7 + 1) μ
theorem jnR_CO_catchUp_167 {l : Launch} (n : Nat)   (v1 : Int32) (v2 : Int32) (v3 : Int32) (v5 : Int32) (v6 : Int32) (v7 : Int32) (μ : kbM) {Q : kbQt} {P : (Int32 × kbM) ⊕ (kbM) → Prop} (hr : ∀ z : Int32 × kbM, P (.inl z) → Q (some (.int z.1)) z.2) (hx : ∀ z : kbM, P (.inr z) → kbR l MX1_catchUp 2 Q 173 [none, none, none, none, none, none, none, none, none, none] [] z) {rec : Int32 → kbM → Option ((Int32 × kbM) ⊕ (kbM))} (hrec : ∀ (v7 : Int32) (μ : kbM), kbG (rec v7 μ) P → kbR l MX1_catchUp 2 Q 49 [some (.ref 48), some (.int v1), some (.int v2), some (.int v3), none, some (.int v5), some (.int v6), some (.int v7), none, none] [] μ) (h : kbG (jn_CO_catchUp_167 n rec v1 v2 v3 v5 v6 v7 μ) P) : kbR l MX1_catchUp 2 Q 167 [some (.ref 48), some (.int v1), some (.int v2), some (.int v3), none, some (.int v5), some (.int v6), some (.int v7), none, none] [] μ := by
  unfold jn_CO_catchUp_167 at h
  refine r_iinc 1 dX1_catchUp_167 rfl (by decide) (Nat.le_of_ble_eq_true rfl) rfl ?_
  refine r_goto 49 dX1_catchUp_170 (by decide) ?_
  refine r_le [some (.ref 48), some (.int v1), some (.int v2), some (.int v3), none, some (.int v5), some (.int v6), some (.int (v7 + 1)), none, none] ⟨rfl, ⟨rfl, ⟨rfl, ⟨rfl, ⟨rfl, ⟨rfl, ⟨rfl, trivial⟩⟩⟩⟩⟩⟩⟩ ?_
  exact hrec (v7 + 1) μ h
def lp_CO_catchUp_49 (n : Nat) (v1 : Int32) (v2 : Int32) (v3 : Int32) (v5 : Int32) (v6 : Int32) : Nat → Int32 → kbM → Option ((Int32 × kbM) ⊕ (kbM))
  | 0, _, _ => none
  | k + 1, v7, μ =>
    if (μ.1 13 4) ≤ v7 then
      some (.inr μ)
    else
      kbIf (kbIn v7 10) <|
      (f_RO_slice v6 v5 0 (kbMin v5 (μ.1 15 v7.toNatClampNeg))).bind fun x2 =>
      kbIf (kbIn v7 10) <|
      (f_RO_slice (μ.1 14 v7.toNatClampNeg) (μ.1 15 v7.toNatClampNeg) 0 (kbMin v5 (μ.1 15 v7.toNatClampNeg))).bind fun x3 =>
      if x2 = x3 then
        if v5 = (μ.1 15 v7.toNatClampNeg) then
          some (.inl ((1, μ)))
        else
          if v5 ≤ (μ.1 15 v7.toNatClampNeg) then
            kbIf (kbIn v1 60) <|
            (f_CO_shorten v7 v5 (((μ.1 49 v1.toNatClampNeg) + (μ.1 15 v7.toNatClampNeg)) - v5) μ).bind fun x4 =>
            jn_CO_catchUp_167 n (lp_CO_catchUp_49 n v1 v2 v3 v5 v6 k) v1 v2 v3 v5 v6 v7 x4
          else
            kbIf (kbIn v1 60) <|
            (f_CO_shorten v2 (v3 + (μ.1 15 v7.toNatClampNeg)) (μ.1 49 v1.toNatClampNeg) μ).bind fun x5 =>
            jn_CO_catchUp_167 n (lp_CO_catchUp_49 n v1 v2 v3 v5 v6 k) v1 v2 v3 v5 v6 v7 x5
      else
        jn_CO_catchUp_167 n (lp_CO_catchUp_49 n v1 v2 v3 v5 v6 k) v1 v2 v3 v5 v6 v7 μ
theorem lpR_CO_catchUp_49 {l : Launch} (n : Nat) (v1 : Int32) (v2 : Int32) (v3 : Int32) (v5 : Int32) (v6 : Int32)  {Q : kbQt} {P : (Int32 × kbM) ⊕ (kbM) → Prop} (hr : ∀ z : Int32 × kbM, P (.inl z) → Q (some (.int z.1)) z.2) (hx : ∀ z : kbM, P (.inr z) → kbR l MX1_catchUp 2 Q 173 [none, none, none, none, none, none, none, none, none, none] [] z) : ∀ (k : Nat) (v7 : Int32) (μ : kbM), kbG (lp_CO_catchUp_49 n v1 v2 v3 v5 v6 k v7 μ) P → kbR l MX1_catchUp 2 Q 49 [some (.ref 48), some (.int v1), some (.int v2), some (.int v3), none, some (.int v5), some (.int v6), some (.int v7), none, none] [] μ := by
  intro k
  induction k with
  | zero => intro v7 μ h; exact absurd h kbG_none
  | succ k ih =>
    intro v7 μ h
    unfold lp_CO_catchUp_49 at h
    refine r_iload dX1_catchUp_49 rfl ?_
    refine r_aload_n dX1_catchUp_51 rfl ?_
    refine r_getR flX1_19 sh48 rfl dX1_catchUp_52 ?_
    refine r_getI flX1_23 sh13 rfl dX1_catchUp_55 ?_
    refine r_icmp_ge 173 dX1_catchUp_58 (by decide) (fun hc => ?_) (fun hc => ?_)
    · replace h := kbG_t hc h
      refine r_le [none, none, none, none, none, none, none, none, none, none] trivial ?_
      exact hx μ (kbG_some h)
    · replace h := kbG_f hc h
      refine r_aload_n dX1_catchUp_61 rfl ?_
      refine r_getR flX1_19 sh48 rfl dX1_catchUp_62 ?_
      refine r_getR flX1_33 sh13 rfl dX1_catchUp_65 ?_
      refine r_iload dX1_catchUp_68 rfl ?_
      obtain ⟨hin, h⟩ := kbG_if h
      replace hin := kbIn_of hin
      refine q_iald v7.toNatClampNeg rfl sh15 hin dX1_catchUp_70 ?_
      refine r_istore dX1_catchUp_71 (Nat.le_of_ble_eq_true rfl) rfl ?_
      refine r_iload dX1_catchUp_73 rfl ?_
      refine r_iload dX1_catchUp_75 rfl ?_
      refine r_min mlX1_67 (Nat.le_of_ble_eq_true rfl) (Nat.le_of_ble_eq_true rfl) dX1_catchUp_77 ?_
      refine r_istore dX1_catchUp_80 (Nat.le_of_ble_eq_true rfl) rfl ?_
      refine r_iload dX1_catchUp_82 rfl ?_
      refine r_iload dX1_catchUp_84 rfl ?_
      refine r_iconst 0 dX1_catchUp_86 (by decide) ?_
      refine r_iload dX1_catchUp_87 rfl ?_
      obtain ⟨x2, hx0, h⟩ := kbG_bind h
      refine r_inv_i csX1_39 (sp_RO_slice v6 v5 0 (kbMin v5 (μ.1 15 v7.toNatClampNeg)) μ hx0) rfl rfl (Nat.le_of_ble_eq_true rfl) (Nat.le_of_ble_eq_true rfl) dX1_catchUp_89 ?_
      refine r_aload_n dX1_catchUp_92 rfl ?_
      refine r_getR flX1_19 sh48 rfl dX1_catchUp_93 ?_
      refine r_getR flX1_36 sh13 rfl dX1_catchUp_96 ?_
      refine r_iload dX1_catchUp_99 rfl ?_
      obtain ⟨hin, h⟩ := kbG_if h
      replace hin := kbIn_of hin
      refine q_iald v7.toNatClampNeg rfl sh14 hin dX1_catchUp_101 ?_
      refine r_iload dX1_catchUp_102 rfl ?_
      refine r_iconst 0 dX1_catchUp_104 (by decide) ?_
      refine r_iload dX1_catchUp_105 rfl ?_
      obtain ⟨x3, hx0, h⟩ := kbG_bind h
      refine r_inv_i csX1_39 (sp_RO_slice (μ.1 14 v7.toNatClampNeg) (μ.1 15 v7.toNatClampNeg) 0 (kbMin v5 (μ.1 15 v7.toNatClampNeg)) μ hx0) rfl rfl (Nat.le_of_ble_eq_true rfl) (Nat.le_of_ble_eq_true rfl) dX1_catchUp_107 ?_
      refine r_icmp_ne 167 dX1_catchUp_110 (by decide) (fun hc => ?_) (fun hc => ?_)
      · replace h := kbG_f hc h
        refine r_le [some (.ref 48), some (.int v1), some (.int v2), some (.int v3), none, some (.int v5), some (.int v6), some (.int v7), none, none] ⟨rfl, ⟨rfl, ⟨rfl, ⟨rfl, ⟨rfl, ⟨rfl, ⟨rfl, trivial⟩⟩⟩⟩⟩⟩⟩ ?_
        exact jnR_CO_catchUp_167 n v1 v2 v3 v5 v6 v7 μ (hr := hr) (hx := hx) (hrec := ih) h
      · replace h := kbG_t hc h
        refine r_iload dX1_catchUp_113 rfl ?_
        refine r_iload dX1_catchUp_115 rfl ?_
        refine r_icmp_ne 122 dX1_catchUp_117 (by decide) (fun hc => ?_) (fun hc => ?_)
        · replace h := kbG_f hc h
          refine r_iload dX1_catchUp_122 rfl ?_
          refine r_iload dX1_catchUp_124 rfl ?_
          refine r_icmp_ge 147 dX1_catchUp_126 (by decide) (fun hc => ?_) (fun hc => ?_)
          · replace h := kbG_t hc h
            refine r_aload_n dX1_catchUp_147 rfl ?_
            refine r_iload dX1_catchUp_148 rfl ?_
            refine r_iload dX1_catchUp_150 rfl ?_
            refine r_aload_n dX1_catchUp_152 rfl ?_
            refine r_getR flX1_9 sh48 rfl dX1_catchUp_153 ?_
            refine r_iload_n dX1_catchUp_156 rfl ?_
            obtain ⟨hin, h⟩ := kbG_if h
            replace hin := kbIn_of hin
            refine q_iald v1.toNatClampNeg rfl sh49 hin dX1_catchUp_157 ?_
            refine r_iload dX1_catchUp_158 rfl ?_
            refine r_iadd dX1_catchUp_160 ?_
            refine r_iload dX1_catchUp_161 rfl ?_
            refine r_isub dX1_catchUp_163 ?_
            obtain ⟨x4, hx0, h⟩ := kbG_bind h
            refine r_invV_v cvX1_63 sh48 rfl (sp_CO_shorten v7 v5 (((μ.1 49 v1.toNatClampNeg) + (μ.1 15 v7.toNatClampNeg)) - v5) μ hx0) rfl rfl (Nat.le_of_ble_eq_true rfl) (Nat.le_of_ble_eq_true rfl) dX1_catchUp_164 ?_
            refine r_le [some (.ref 48), some (.int v1), some (.int v2), some (.int v3), none, some (.int v5), some (.int v6), some (.int v7), none, none] ⟨rfl, ⟨rfl, ⟨rfl, ⟨rfl, ⟨rfl, ⟨rfl, ⟨rfl, trivial⟩⟩⟩⟩⟩⟩⟩ ?_
            exact jnR_CO_catchUp_167 n v1 v2 v3 v5 v6 v7 x4 (hr := hr) (hx := hx) (hrec := ih) h
          · replace h := kbG_f hc h
            refine r_aload_n dX1_catchUp_129 rfl ?_
            refine r_iload_n dX1_catchUp_130 rfl ?_
            refine r_iload_n dX1_catchUp_131 rfl ?_
            refine r_iload dX1_catchUp_132 rfl ?_
            refine r_iadd dX1_catchUp_134 ?_
            refine r_aload_n dX1_catchUp_135 rfl ?_
            refine r_getR flX1_9 sh48 rfl dX1_catchUp_136 ?_
            refine r_iload_n dX1_catchUp_139 rfl ?_
            obtain ⟨hin, h⟩ := kbG_if h
            replace hin := kbIn_of hin
            refine q_iald v1.toNatClampNeg rfl sh49 hin dX1_catchUp_140 ?_
            obtain ⟨x5, hx0, h⟩ := kbG_bind h
            refine r_invV_v cvX1_63 sh48 rfl (sp_CO_shorten v2 (v3 + (μ.1 15 v7.toNatClampNeg)) (μ.1 49 v1.toNatClampNeg) μ hx0) rfl rfl (Nat.le_of_ble_eq_true rfl) (Nat.le_of_ble_eq_true rfl) dX1_catchUp_141 ?_
            refine r_goto 167 dX1_catchUp_144 (by decide) ?_
            refine r_le [some (.ref 48), some (.int v1), some (.int v2), some (.int v3), none, some (.int v5), some (.int v6), some (.int v7), none, none] ⟨rfl, ⟨rfl, ⟨rfl, ⟨rfl, ⟨rfl, ⟨rfl, ⟨rfl, trivial⟩⟩⟩⟩⟩⟩⟩ ?_
            exact jnR_CO_catchUp_167 n v1 v2 v3 v5 v6 v7 x5 (hr := hr) (hx := hx) (hrec := ih) h
        · replace h := kbG_t hc h
          refine r_iconst 1 dX1_catchUp_120 (by decide) ?_
          exact r_zret rfl rfl dX1_catchUp_121 (hr ((1, μ)) (kbG_some h))
def f_CO_catchUp (n : Nat) (a1 : Int32) (μ : kbM) : Option (Int32 × kbM) :=
  kbIf (kbIn (a1 / 6) 10) <|
  kbIf (kbIn (a1 / 6) 10) <|
  (f_RO_slice (μ.1 14 ((a1 / 6).toNatClampNeg)) (μ.1 15 ((a1 / 6).toNatClampNeg)) (kbRem a1 6) (μ.1 15 ((a1 / 6).toNatClampNeg))).bind fun x1 =>
  kbOr (lp_CO_catchUp_49 n a1 (a1 / 6) (kbRem a1 6) ((μ.1 15 ((a1 / 6).toNatClampNeg)) - (kbRem a1 6)) x1 n 0 μ) (fun r7 => some r7) fun x6 =>
  some ((0, x6))
theorem sp_CO_catchUp {l : Launch} (n : Nat) (a1 : Int32) (μ : kbM)  {x : Int32 × kbM} (h : f_CO_catchUp n a1 μ = some x) : kbS l MX1_catchUp 2 [.ref 48, .int a1] μ (kbQe (some (.int x.1)) x.2) := by
  refine kb_enter 8 rfl rfl ?_
  suffices H : ∀ (Q : kbQt) (P : Int32 × kbM → Prop), (∀ z : Int32 × kbM, P z → Q (some (.int z.1)) z.2) → kbG (f_CO_catchUp n a1 μ) P → kbR l MX1_catchUp 2 Q 0 [some (.ref 48), some (.int a1), none, none, none, none, none, none, none, none] [] μ from H _ (fun z => z = x) (fun z e => by subst e; exact ⟨rfl, rfl⟩) ⟨x, h, rfl⟩
  clear h
  intro Q P hr h
  unfold f_CO_catchUp at h
  refine r_iload_n dX1_catchUp_0 rfl ?_
  refine r_bipush 6 dX1_catchUp_1 (by decide) ?_
  refine r_idiv dX1_catchUp_3 (by decide) ?_
  refine r_istore_n dX1_catchUp_4 (Nat.le_of_ble_eq_true rfl) rfl ?_
  refine r_iload_n dX1_catchUp_5 rfl ?_
  refine r_bipush 6 dX1_catchUp_6 (by decide) ?_
  refine r_rem dX1_catchUp_8 (by decide) ?_
  refine r_istore_n dX1_catchUp_9 (Nat.le_of_ble_eq_true rfl) rfl ?_
  refine r_aload_n dX1_catchUp_10 rfl ?_
  refine r_getR flX1_19 sh48 rfl dX1_catchUp_11 ?_
  refine r_getR flX1_33 sh13 rfl dX1_catchUp_14 ?_
  refine r_iload_n dX1_catchUp_17 rfl ?_
  obtain ⟨hin, h⟩ := kbG_if h
  replace hin := kbIn_of hin
  refine q_iald ((a1 / 6).toNatClampNeg) rfl sh15 hin dX1_catchUp_18 ?_
  refine r_istore dX1_catchUp_19 (Nat.le_of_ble_eq_true rfl) rfl ?_
  refine r_iload dX1_catchUp_21 rfl ?_
  refine r_iload_n dX1_catchUp_23 rfl ?_
  refine r_isub dX1_catchUp_24 ?_
  refine r_istore dX1_catchUp_25 (Nat.le_of_ble_eq_true rfl) rfl ?_
  refine r_aload_n dX1_catchUp_27 rfl ?_
  refine r_getR flX1_19 sh48 rfl dX1_catchUp_28 ?_
  refine r_getR flX1_36 sh13 rfl dX1_catchUp_31 ?_
  refine r_iload_n dX1_catchUp_34 rfl ?_
  obtain ⟨hin, h⟩ := kbG_if h
  replace hin := kbIn_of hin
  refine q_iald ((a1 / 6).toNatClampNeg) rfl sh14 hin dX1_catchUp_35 ?_
  refine r_iload dX1_catchUp_36 rfl ?_
  refine r_iload_n dX1_catchUp_38 rfl ?_
  refine r_iload dX1_catchUp_39 rfl ?_
  obtain ⟨x1, hx0, h⟩ := kbG_bind h
  refine r_inv_i csX1_39 (sp_RO_slice (μ.1 14 ((a1 / 6).toNatClampNeg)) (μ.1 15 ((a1 / 6).toNatClampNeg)) (kbRem a1 6) (μ.1 15 ((a1 / 6).toNatClampNeg)) μ hx0) rfl rfl (Nat.le_of_ble_eq_true rfl) (Nat.le_of_ble_eq_true rfl) dX1_catchUp_41 ?_
  refine r_istore dX1_catchUp_44 (Nat.le_of_ble_eq_true rfl) rfl ?_
  refine r_iconst 0 dX1_catchUp_46 (by decide) ?_
  refine r_istore dX1_catchUp_47 (Nat.le_of_ble_eq_true rfl) rfl ?_
  refine r_le [some (.ref 48), some (.int a1), some (.int (a1 / 6)), some (.int (kbRem a1 6)), none, some (.int ((μ.1 15 ((a1 / 6).toNatClampNeg)) - (kbRem a1 6))), some (.int x1), some (.int 0), none, none] ⟨rfl, ⟨rfl, ⟨rfl, ⟨rfl, ⟨rfl, ⟨rfl, ⟨rfl, trivial⟩⟩⟩⟩⟩⟩⟩ ?_
  rcases kbG_or h with ⟨r7, hx0, h⟩ | ⟨x6, hx0, h⟩
  · exact lpR_CO_catchUp_49 n a1 (a1 / 6) (kbRem a1 6) ((μ.1 15 ((a1 / 6).toNatClampNeg)) - (kbRem a1 6)) x1 (P := fun z => .inl r7 = z) (hr := fun z e => by cases e; exact hr _ (kbG_some h)) (hx := fun z e => by cases e) n _ _ ⟨_, hx0, rfl⟩
  · refine lpR_CO_catchUp_49 n a1 (a1 / 6) (kbRem a1 6) ((μ.1 15 ((a1 / 6).toNatClampNeg)) - (kbRem a1 6)) x1 (P := fun z => .inr x6 = z) (hr := fun z e => by cases e) (hx := fun z e => ?_) n _ _ ⟨_, hx0, rfl⟩
    cases e
    refine r_iconst 0 dX1_catchUp_173 (by decide) ?_
    exact r_zret rfl rfl dX1_catchUp_174 (hr ((0, x6)) (kbG_some h))
def lp_CO_shortestAmbiguous_6 (n : Nat) : Nat → Int32 → kbM → Option ((Int32 × kbM) ⊕ (kbM))
  | 0, _, _ => none
  | k + 1, v1, μ =>
    if 60 ≤ v1 then
      some (.inr μ)
    else
      (f_CO_shortestLead n μ).bind fun x2 =>
      if x2 = (-1) then
        some (.inl (((-1), μ)))
      else
        kbIf (kbIn x2 60) <|
        (f_CO_catchUp n x2 (kbW μ 50 x2.toNatClampNeg (vp_nar .boolean 1))).bind fun x3 =>
        if x3.1 = 0 then
          lp_CO_shortestAmbiguous_6 n k (v1 + 1) x3.2
        else
          kbIf (kbIn x2 60) <|
          some (.inl ((x3.2.1 49 x2.toNatClampNeg, x3.2)))
theorem lpR_CO_shortestAmbiguous_6 {l : Launch} (n : Nat)   {Q : kbQt} {P : (Int32 × kbM) ⊕ (kbM) → Prop} (hr : ∀ z : Int32 × kbM, P (.inl z) → Q (some (.int z.1)) z.2) (hx : ∀ z : kbM, P (.inr z) → kbR l MX1_shortestAmbiguous 4 Q 55 [none, none, none] [] z) : ∀ (k : Nat) (v1 : Int32) (μ : kbM), kbG (lp_CO_shortestAmbiguous_6 n k v1 μ) P → kbR l MX1_shortestAmbiguous 4 Q 6 [some (.ref 48), some (.int v1), none] [] μ := by
  intro k
  induction k with
  | zero => intro v1 μ h; exact absurd h kbG_none
  | succ k ih =>
    intro v1 μ h
    unfold lp_CO_shortestAmbiguous_6 at h
    refine r_iload_n dX1_shortestAmbiguous_6 rfl ?_
    refine r_aload_n dX1_shortestAmbiguous_7 rfl ?_
    refine r_getR flX1_9 sh48 rfl dX1_shortestAmbiguous_8 ?_
    refine r_alen 60 sh49 (by decide) (by decide) dX1_shortestAmbiguous_11 ?_
    refine r_icmp_ge 55 dX1_shortestAmbiguous_12 (by decide) (fun hc => ?_) (fun hc => ?_)
    · replace h := kbG_t hc h
      refine r_le [none, none, none] trivial ?_
      exact hx μ (kbG_some h)
    · replace h := kbG_f hc h
      refine r_aload_n dX1_shortestAmbiguous_15 rfl ?_
      obtain ⟨x2, hx0, h⟩ := kbG_bind h
      refine r_invV_i cvX1_48 sh48 rfl (sp_CO_shortestLead n μ hx0) rfl rfl (Nat.le_of_ble_eq_true rfl) (Nat.le_of_ble_eq_true rfl) dX1_shortestAmbiguous_16 ?_
      refine r_istore_n dX1_shortestAmbiguous_19 (Nat.le_of_ble_eq_true rfl) rfl ?_
      refine r_iload_n dX1_shortestAmbiguous_20 rfl ?_
      refine r_iconst (-1) dX1_shortestAmbiguous_21 (by decide) ?_
      refine r_icmp_ne 27 dX1_shortestAmbiguous_22 (by decide) (fun hc => ?_) (fun hc => ?_)
      · replace h := kbG_f hc h
        refine r_aload_n dX1_shortestAmbiguous_27 rfl ?_
        refine r_getR flX1_15 sh48 rfl dX1_shortestAmbiguous_28 ?_
        refine r_iload_n dX1_shortestAmbiguous_31 rfl ?_
        refine r_iconst 1 dX1_shortestAmbiguous_32 (by decide) ?_
        obtain ⟨hin, h⟩ := kbG_if h
        replace hin := kbIn_of hin
        refine q_zast x2.toNatClampNeg rfl sh50 hin dX1_shortestAmbiguous_33 ?_
        refine r_aload_n dX1_shortestAmbiguous_34 rfl ?_
        refine r_iload_n dX1_shortestAmbiguous_35 rfl ?_
        obtain ⟨x3, hx0, h⟩ := kbG_bind h
        refine r_invV_i cvX1_52 sh48 rfl (sp_CO_catchUp n x2 (kbW μ 50 x2.toNatClampNeg (vp_nar .boolean 1)) hx0) rfl rfl (Nat.le_of_ble_eq_true rfl) (Nat.le_of_ble_eq_true rfl) dX1_shortestAmbiguous_36 ?_
        refine r_if_eq 49 dX1_shortestAmbiguous_39 (by decide) (fun hc => ?_) (fun hc => ?_)
        · replace h := kbG_t hc h
          refine r_iinc 1 dX1_shortestAmbiguous_49 rfl (by decide) (Nat.le_of_ble_eq_true rfl) rfl ?_
          refine r_goto 6 dX1_shortestAmbiguous_52 (by decide) ?_
          refine r_le [some (.ref 48), some (.int (v1 + 1)), none] ⟨rfl, ⟨rfl, trivial⟩⟩ ?_
          exact ih (v1 + 1) x3.2 h
        · replace h := kbG_f hc h
          refine r_aload_n dX1_shortestAmbiguous_42 rfl ?_
          refine r_getR flX1_9 sh48 rfl dX1_shortestAmbiguous_43 ?_
          refine r_iload_n dX1_shortestAmbiguous_46 rfl ?_
          obtain ⟨hin, h⟩ := kbG_if h
          replace hin := kbIn_of hin
          refine q_iald x2.toNatClampNeg rfl sh49 hin dX1_shortestAmbiguous_47 ?_
          exact r_iret rfl dX1_shortestAmbiguous_48 (hr ((x3.2.1 49 x2.toNatClampNeg, x3.2)) (kbG_some h))
      · replace h := kbG_t hc h
        refine r_iconst (-1) dX1_shortestAmbiguous_25 (by decide) ?_
        exact r_iret rfl dX1_shortestAmbiguous_26 (hr (((-1), μ)) (kbG_some h))
def f_CO_shortestAmbiguous (n : Nat) (μ : kbM) : Option (Int32 × kbM) :=
  (f_CO_begin n μ).bind fun x1 =>
  kbOr (lp_CO_shortestAmbiguous_6 n n 0 x1) (fun r5 => some r5) fun x4 =>
  some (((-1), x4))
theorem sp_CO_shortestAmbiguous {l : Launch} (n : Nat) (μ : kbM)  {x : Int32 × kbM} (h : f_CO_shortestAmbiguous n μ = some x) : kbS l MX1_shortestAmbiguous 4 [.ref 48] μ (kbQe (some (.int x.1)) x.2) := by
  refine kb_enter 2 rfl rfl ?_
  suffices H : ∀ (Q : kbQt) (P : Int32 × kbM → Prop), (∀ z : Int32 × kbM, P z → Q (some (.int z.1)) z.2) → kbG (f_CO_shortestAmbiguous n μ) P → kbR l MX1_shortestAmbiguous 4 Q 0 [some (.ref 48), none, none] [] μ from H _ (fun z => z = x) (fun z e => by subst e; exact ⟨rfl, rfl⟩) ⟨x, h, rfl⟩
  clear h
  intro Q P hr h
  unfold f_CO_shortestAmbiguous at h
  refine r_aload_n dX1_shortestAmbiguous_0 rfl ?_
  obtain ⟨x1, hx0, h⟩ := kbG_bind h
  refine r_invV_v cvX1_45 sh48 rfl (sp_CO_begin n μ hx0) rfl rfl (Nat.le_of_ble_eq_true rfl) (Nat.le_of_ble_eq_true rfl) dX1_shortestAmbiguous_1 ?_
  refine r_iconst 0 dX1_shortestAmbiguous_4 (by decide) ?_
  refine r_istore_n dX1_shortestAmbiguous_5 (Nat.le_of_ble_eq_true rfl) rfl ?_
  refine r_le [some (.ref 48), some (.int 0), none] ⟨rfl, ⟨rfl, trivial⟩⟩ ?_
  rcases kbG_or h with ⟨r5, hx0, h⟩ | ⟨x4, hx0, h⟩
  · exact lpR_CO_shortestAmbiguous_6 n (P := fun z => .inl r5 = z) (hr := fun z e => by cases e; exact hr _ (kbG_some h)) (hx := fun z e => by cases e) n _ _ ⟨_, hx0, rfl⟩
  · refine lpR_CO_shortestAmbiguous_6 n (P := fun z => .inr x4 = z) (hr := fun z e => by cases e) (hx := fun z e => ?_) n _ _ ⟨_, hx0, rfl⟩
    cases e
    refine r_iconst (-1) dX1_shortestAmbiguous_55 (by decide) ?_
    exact r_iret rfl dX1_shortestAmbiguous_56 (hr (((-1), x4)) (kbG_some h))
def jn_CO_prefixCouples_43 (n : Nat) (rec : Int32 → Int32 → Option (Int32)) (v2 : Int32) (v3 : Int32) (w0 : Int32) (w1 : Int32) (μ : kbM) : Option (Int32) :=
  rec (w0 + w1) (v3 + 1)
theorem jnR_CO_prefixCouples_43 {l : Launch} (n : Nat)   (v2 : Int32) (v3 : Int32) (w0 : Int32) (w1 : Int32) (μ : kbM) {Q : kbQt} {P : Int32 → Prop} (hx : ∀ z : Int32, P (z) → kbR l MX1_prefixCouples 3 Q 51 [some (.ref 48), some (.int z), some (.int v2), none] [] μ) {rec : Int32 → Int32 → Option (Int32)} (hrec : ∀ (v1 : Int32) (v3 : Int32), kbG (rec v1 v3) P → kbR l MX1_prefixCouples 3 Q 17 [some (.ref 48), some (.int v1), some (.int v2), some (.int v3)] [] μ) (h : kbG (jn_CO_prefixCouples_43 n rec v2 v3 w0 w1 μ) P) : kbR l MX1_prefixCouples 3 Q 43 [some (.ref 48), none, some (.int v2), some (.int v3)] [.int w1, .int w0] μ := by
  unfold jn_CO_prefixCouples_43 at h
  refine r_iadd dX1_prefixCouples_43 ?_
  refine r_istore_n dX1_prefixCouples_44 (Nat.le_of_ble_eq_true rfl) rfl ?_
  refine r_iinc 1 dX1_prefixCouples_45 rfl (by decide) (Nat.le_of_ble_eq_true rfl) rfl ?_
  refine r_goto 17 dX1_prefixCouples_48 (by decide) ?_
  refine r_le [some (.ref 48), some (.int (w0 + w1)), some (.int v2), some (.int (v3 + 1))] ⟨rfl, ⟨rfl, ⟨rfl, ⟨rfl, trivial⟩⟩⟩⟩ ?_
  exact hrec (w0 + w1) (v3 + 1) h
def lp_CO_prefixCouples_17 (n : Nat) (v2 : Int32) (μ : kbM) : Nat → Int32 → Int32 → Option (Int32)
  | 0, _, _ => none
  | k + 1, v1, v3 =>
    if (μ.1 13 4) ≤ v3 then
      some v1
    else
      (f_CO_beginsWith v2 v3 μ).bind fun x1 =>
      if x1 = 0 then
        jn_CO_prefixCouples_43 n (lp_CO_prefixCouples_17 n v2 μ k) v2 v3 v1 0 μ
      else
        jn_CO_prefixCouples_43 n (lp_CO_prefixCouples_17 n v2 μ k) v2 v3 v1 1 μ
theorem lpR_CO_prefixCouples_17 {l : Launch} (n : Nat) (v2 : Int32) (μ : kbM)  {Q : kbQt} {P : Int32 → Prop} (hx : ∀ z : Int32, P (z) → kbR l MX1_prefixCouples 3 Q 51 [some (.ref 48), some (.int z), some (.int v2), none] [] μ) : ∀ (k : Nat) (v1 : Int32) (v3 : Int32), kbG (lp_CO_prefixCouples_17 n v2 μ k v1 v3) P → kbR l MX1_prefixCouples 3 Q 17 [some (.ref 48), some (.int v1), some (.int v2), some (.int v3)] [] μ := by
  intro k
  induction k with
  | zero => intro v1 v3 h; exact absurd h kbG_none
  | succ k ih =>
    intro v1 v3 h
    unfold lp_CO_prefixCouples_17 at h
    refine r_iload_n dX1_prefixCouples_17 rfl ?_
    refine r_aload_n dX1_prefixCouples_18 rfl ?_
    refine r_getR flX1_19 sh48 rfl dX1_prefixCouples_19 ?_
    refine r_getI flX1_23 sh13 rfl dX1_prefixCouples_22 ?_
    refine r_icmp_ge 51 dX1_prefixCouples_25 (by decide) (fun hc => ?_) (fun hc => ?_)
    · replace h := kbG_t hc h
      refine r_le [some (.ref 48), some (.int v1), some (.int v2), none] ⟨rfl, ⟨rfl, ⟨rfl, trivial⟩⟩⟩ ?_
      exact hx v1 (kbG_some h)
    · replace h := kbG_f hc h
      refine r_iload_n dX1_prefixCouples_28 rfl ?_
      refine r_aload_n dX1_prefixCouples_29 rfl ?_
      refine r_iload_n dX1_prefixCouples_30 rfl ?_
      refine r_iload_n dX1_prefixCouples_31 rfl ?_
      obtain ⟨x1, hx0, h⟩ := kbG_bind h
      refine r_invV_i cvX1_29 sh48 rfl (sp_CO_beginsWith v2 v3 μ hx0) rfl rfl (Nat.le_of_ble_eq_true rfl) (Nat.le_of_ble_eq_true rfl) dX1_prefixCouples_32 ?_
      refine r_if_eq 42 dX1_prefixCouples_35 (by decide) (fun hc => ?_) (fun hc => ?_)
      · replace h := kbG_t hc h
        refine r_iconst 0 dX1_prefixCouples_42 (by decide) ?_
        refine r_le [some (.ref 48), none, some (.int v2), some (.int v3)] ⟨rfl, ⟨rfl, ⟨rfl, trivial⟩⟩⟩ ?_
        exact jnR_CO_prefixCouples_43 n v2 v3 v1 0 μ (hx := hx) (hrec := ih) h
      · replace h := kbG_f hc h
        refine r_iconst 1 dX1_prefixCouples_38 (by decide) ?_
        refine r_goto 43 dX1_prefixCouples_39 (by decide) ?_
        refine r_le [some (.ref 48), none, some (.int v2), some (.int v3)] ⟨rfl, ⟨rfl, ⟨rfl, trivial⟩⟩⟩ ?_
        exact jnR_CO_prefixCouples_43 n v2 v3 v1 1 μ (hx := hx) (hrec := ih) h
def lp_CO_prefixCouples_4 (n : Nat) (μ : kbM) : Nat → Int32 → Int32 → Option (Int32)
  | 0, _, _ => none
  | k + 1, v1, v2 =>
    if (μ.1 13 4) ≤ v2 then
      some v1
    else
      (lp_CO_prefixCouples_17 n v2 μ n v1 0).bind fun x2 =>
      lp_CO_prefixCouples_4 n μ k x2 (v2 + 1)
theorem lpR_CO_prefixCouples_4 {l : Launch} (n : Nat) (μ : kbM)  {Q : kbQt} {P : Int32 → Prop} (hx : ∀ z : Int32, P (z) → kbR l MX1_prefixCouples 3 Q 57 [none, some (.int z), none, none] [] μ) : ∀ (k : Nat) (v1 : Int32) (v2 : Int32), kbG (lp_CO_prefixCouples_4 n μ k v1 v2) P → kbR l MX1_prefixCouples 3 Q 4 [some (.ref 48), some (.int v1), some (.int v2), none] [] μ := by
  intro k
  induction k with
  | zero => intro v1 v2 h; exact absurd h kbG_none
  | succ k ih =>
    intro v1 v2 h
    unfold lp_CO_prefixCouples_4 at h
    refine r_iload_n dX1_prefixCouples_4 rfl ?_
    refine r_aload_n dX1_prefixCouples_5 rfl ?_
    refine r_getR flX1_19 sh48 rfl dX1_prefixCouples_6 ?_
    refine r_getI flX1_23 sh13 rfl dX1_prefixCouples_9 ?_
    refine r_icmp_ge 57 dX1_prefixCouples_12 (by decide) (fun hc => ?_) (fun hc => ?_)
    · replace h := kbG_t hc h
      refine r_le [none, some (.int v1), none, none] ⟨rfl, trivial⟩ ?_
      exact hx v1 (kbG_some h)
    · replace h := kbG_f hc h
      refine r_iconst 0 dX1_prefixCouples_15 (by decide) ?_
      refine r_istore_n dX1_prefixCouples_16 (Nat.le_of_ble_eq_true rfl) rfl ?_
      refine r_le [some (.ref 48), some (.int v1), some (.int v2), some (.int 0)] ⟨rfl, ⟨rfl, ⟨rfl, ⟨rfl, trivial⟩⟩⟩⟩ ?_
      obtain ⟨x2, hx0, h⟩ := kbG_bind h
      refine lpR_CO_prefixCouples_17 n v2 μ (P := fun z => x2 = z) (hx := fun z e => ?_) n _ _ ⟨_, hx0, rfl⟩
      subst e
      refine r_iinc 1 dX1_prefixCouples_51 rfl (by decide) (Nat.le_of_ble_eq_true rfl) rfl ?_
      refine r_goto 4 dX1_prefixCouples_54 (by decide) ?_
      refine r_le [some (.ref 48), some (.int x2), some (.int (v2 + 1)), none] ⟨rfl, ⟨rfl, ⟨rfl, trivial⟩⟩⟩ ?_
      exact ih x2 (v2 + 1) h
def f_CO_prefixCouples (n : Nat) (μ : kbM) : Option (Int32) :=
  (lp_CO_prefixCouples_4 n μ n 0 0).bind fun x3 =>
  some x3
theorem sp_CO_prefixCouples {l : Launch} (n : Nat) (μ : kbM)  {x : Int32} (h : f_CO_prefixCouples n μ = some x) : kbS l MX1_prefixCouples 3 [.ref 48] μ (kbQe (some (.int x)) μ) := by
  refine kb_enter 3 rfl rfl ?_
  suffices H : ∀ (Q : kbQt) (P : Int32 → Prop), (∀ z : Int32, P z → Q (some (.int z)) μ) → kbG (f_CO_prefixCouples n μ) P → kbR l MX1_prefixCouples 3 Q 0 [some (.ref 48), none, none, none] [] μ from H _ (fun z => z = x) (fun z e => by subst e; exact ⟨rfl, rfl⟩) ⟨x, h, rfl⟩
  clear h
  intro Q P hr h
  unfold f_CO_prefixCouples at h
  refine r_iconst 0 dX1_prefixCouples_0 (by decide) ?_
  refine r_istore_n dX1_prefixCouples_1 (Nat.le_of_ble_eq_true rfl) rfl ?_
  refine r_iconst 0 dX1_prefixCouples_2 (by decide) ?_
  refine r_istore_n dX1_prefixCouples_3 (Nat.le_of_ble_eq_true rfl) rfl ?_
  refine r_le [some (.ref 48), some (.int 0), some (.int 0), none] ⟨rfl, ⟨rfl, ⟨rfl, trivial⟩⟩⟩ ?_
  obtain ⟨x3, hx0, h⟩ := kbG_bind h
  refine lpR_CO_prefixCouples_4 n μ (P := fun z => x3 = z) (hx := fun z e => ?_) n _ _ ⟨_, hx0, rfl⟩
  subst e
  refine r_iload_n dX1_prefixCouples_57 rfl ?_
  exact r_iret rfl dX1_prefixCouples_58 (hr x3 (kbG_some h))
