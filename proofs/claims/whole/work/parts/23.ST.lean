theorem dX9_begin_0 : decode cX9_begin 0 = .ok (.aload_n 0, 1) := by decide +kernel
theorem dX9_begin_1 : decode cX9_begin 1 = .ok (.getfield 12, 3) := by decide +kernel
theorem dX9_begin_4 : decode cX9_begin 4 = .ok (.aload_n 1, 1) := by decide +kernel
theorem dX9_begin_5 : decode cX9_begin 5 = .ok (.invokevirtual 31, 3) := by decide +kernel
theorem dX9_begin_8 : decode cX9_begin 8 = .ok (.aload_n 0, 1) := by decide +kernel
theorem dX9_begin_9 : decode cX9_begin 9 = .ok (.iconst 0, 1) := by decide +kernel
theorem dX9_begin_10 : decode cX9_begin 10 = .ok (.putfield 35, 3) := by decide +kernel
theorem dX9_begin_13 : decode cX9_begin 13 = .ok (.aload_n 0, 1) := by decide +kernel
theorem dX9_begin_14 : decode cX9_begin 14 = .ok (.iconst 0, 1) := by decide +kernel
theorem dX9_begin_15 : decode cX9_begin 15 = .ok (.putfield 39, 3) := by decide +kernel
theorem dX9_begin_18 : decode cX9_begin 18 = .ok (.aload_n 0, 1) := by decide +kernel
theorem dX9_begin_19 : decode cX9_begin 19 = .ok (.iconst 0, 1) := by decide +kernel
theorem dX9_begin_20 : decode cX9_begin 20 = .ok (.putfield 42, 3) := by decide +kernel
theorem dX9_begin_23 : decode cX9_begin 23 = .ok (.return_, 1) := by decide +kernel
theorem dX9_copyFrom_0 : decode cX9_copyFrom 0 = .ok (.aload_n 0, 1) := by decide +kernel
theorem dX9_copyFrom_1 : decode cX9_copyFrom 1 = .ok (.getfield 12, 3) := by decide +kernel
theorem dX9_copyFrom_4 : decode cX9_copyFrom 4 = .ok (.aload_n 1, 1) := by decide +kernel
theorem dX9_copyFrom_5 : decode cX9_copyFrom 5 = .ok (.getfield 12, 3) := by decide +kernel
theorem dX9_copyFrom_8 : decode cX9_copyFrom 8 = .ok (.invokevirtual 31, 3) := by decide +kernel
theorem dX9_copyFrom_11 : decode cX9_copyFrom 11 = .ok (.aload_n 1, 1) := by decide +kernel
theorem dX9_copyFrom_12 : decode cX9_copyFrom 12 = .ok (.getfield 18, 3) := by decide +kernel
theorem dX9_copyFrom_15 : decode cX9_copyFrom 15 = .ok (.iconst 0, 1) := by decide +kernel
theorem dX9_copyFrom_16 : decode cX9_copyFrom 16 = .ok (.aload_n 0, 1) := by decide +kernel
theorem dX9_copyFrom_17 : decode cX9_copyFrom 17 = .ok (.getfield 18, 3) := by decide +kernel
theorem dX9_copyFrom_20 : decode cX9_copyFrom 20 = .ok (.iconst 0, 1) := by decide +kernel
theorem dX9_copyFrom_21 : decode cX9_copyFrom 21 = .ok (.aload_n 0, 1) := by decide +kernel
theorem dX9_copyFrom_22 : decode cX9_copyFrom 22 = .ok (.getfield 18, 3) := by decide +kernel
theorem dX9_copyFrom_25 : decode cX9_copyFrom 25 = .ok (.arraylength, 1) := by decide +kernel
theorem dX9_copyFrom_26 : decode cX9_copyFrom 26 = .ok (.invokestatic 45, 3) := by decide +kernel
theorem dX9_copyFrom_29 : decode cX9_copyFrom 29 = .ok (.aload_n 1, 1) := by decide +kernel
theorem dX9_copyFrom_30 : decode cX9_copyFrom 30 = .ok (.getfield 22, 3) := by decide +kernel
theorem dX9_copyFrom_33 : decode cX9_copyFrom 33 = .ok (.iconst 0, 1) := by decide +kernel
theorem dX9_copyFrom_34 : decode cX9_copyFrom 34 = .ok (.aload_n 0, 1) := by decide +kernel
theorem dX9_copyFrom_35 : decode cX9_copyFrom 35 = .ok (.getfield 22, 3) := by decide +kernel
theorem dX9_copyFrom_38 : decode cX9_copyFrom 38 = .ok (.iconst 0, 1) := by decide +kernel
theorem dX9_copyFrom_39 : decode cX9_copyFrom 39 = .ok (.bipush 8, 2) := by decide +kernel
theorem dX9_copyFrom_41 : decode cX9_copyFrom 41 = .ok (.invokestatic 45, 3) := by decide +kernel
theorem dX9_copyFrom_44 : decode cX9_copyFrom 44 = .ok (.aload_n 1, 1) := by decide +kernel
theorem dX9_copyFrom_45 : decode cX9_copyFrom 45 = .ok (.getfield 25, 3) := by decide +kernel
theorem dX9_copyFrom_48 : decode cX9_copyFrom 48 = .ok (.iconst 0, 1) := by decide +kernel
theorem dX9_copyFrom_49 : decode cX9_copyFrom 49 = .ok (.aload_n 0, 1) := by decide +kernel
theorem dX9_copyFrom_50 : decode cX9_copyFrom 50 = .ok (.getfield 25, 3) := by decide +kernel
theorem dX9_copyFrom_53 : decode cX9_copyFrom 53 = .ok (.iconst 0, 1) := by decide +kernel
theorem dX9_copyFrom_54 : decode cX9_copyFrom 54 = .ok (.bipush 8, 2) := by decide +kernel
theorem dX9_copyFrom_56 : decode cX9_copyFrom 56 = .ok (.invokestatic 45, 3) := by decide +kernel
theorem dX9_copyFrom_59 : decode cX9_copyFrom 59 = .ok (.aload_n 1, 1) := by decide +kernel
theorem dX9_copyFrom_60 : decode cX9_copyFrom 60 = .ok (.getfield 28, 3) := by decide +kernel
theorem dX9_copyFrom_63 : decode cX9_copyFrom 63 = .ok (.iconst 0, 1) := by decide +kernel
theorem dX9_copyFrom_64 : decode cX9_copyFrom 64 = .ok (.aload_n 0, 1) := by decide +kernel
theorem dX9_copyFrom_65 : decode cX9_copyFrom 65 = .ok (.getfield 28, 3) := by decide +kernel
theorem dX9_copyFrom_68 : decode cX9_copyFrom 68 = .ok (.iconst 0, 1) := by decide +kernel
theorem dX9_copyFrom_69 : decode cX9_copyFrom 69 = .ok (.aload_n 0, 1) := by decide +kernel
theorem dX9_copyFrom_70 : decode cX9_copyFrom 70 = .ok (.getfield 28, 3) := by decide +kernel
theorem dX9_copyFrom_73 : decode cX9_copyFrom 73 = .ok (.arraylength, 1) := by decide +kernel
theorem dX9_copyFrom_74 : decode cX9_copyFrom 74 = .ok (.invokestatic 45, 3) := by decide +kernel
theorem dX9_copyFrom_77 : decode cX9_copyFrom 77 = .ok (.aload_n 0, 1) := by decide +kernel
theorem dX9_copyFrom_78 : decode cX9_copyFrom 78 = .ok (.aload_n 1, 1) := by decide +kernel
theorem dX9_copyFrom_79 : decode cX9_copyFrom 79 = .ok (.getfield 35, 3) := by decide +kernel
theorem dX9_copyFrom_82 : decode cX9_copyFrom 82 = .ok (.putfield 35, 3) := by decide +kernel
theorem dX9_copyFrom_85 : decode cX9_copyFrom 85 = .ok (.aload_n 0, 1) := by decide +kernel
theorem dX9_copyFrom_86 : decode cX9_copyFrom 86 = .ok (.aload_n 1, 1) := by decide +kernel
theorem dX9_copyFrom_87 : decode cX9_copyFrom 87 = .ok (.getfield 39, 3) := by decide +kernel
theorem dX9_copyFrom_90 : decode cX9_copyFrom 90 = .ok (.putfield 39, 3) := by decide +kernel
theorem dX9_copyFrom_93 : decode cX9_copyFrom 93 = .ok (.aload_n 0, 1) := by decide +kernel
theorem dX9_copyFrom_94 : decode cX9_copyFrom 94 = .ok (.aload_n 1, 1) := by decide +kernel
theorem dX9_copyFrom_95 : decode cX9_copyFrom 95 = .ok (.getfield 42, 3) := by decide +kernel
theorem dX9_copyFrom_98 : decode cX9_copyFrom 98 = .ok (.putfield 42, 3) := by decide +kernel
theorem dX9_copyFrom_101 : decode cX9_copyFrom 101 = .ok (.return_, 1) := by decide +kernel
theorem dX9_keepAct_0 : decode cX9_keepAct 0 = .ok (.aload_n 0, 1) := by decide +kernel
theorem dX9_keepAct_1 : decode cX9_keepAct 1 = .ok (.getfield 35, 3) := by decide +kernel
theorem dX9_keepAct_4 : decode cX9_keepAct 4 = .ok (.bipush 40, 2) := by decide +kernel
theorem dX9_keepAct_6 : decode cX9_keepAct 6 = .ok (.if_icmp .lt 25, 3) := by decide +kernel
theorem dX9_keepAct_9 : decode cX9_keepAct 9 = .ok (.aload_n 0, 1) := by decide +kernel
theorem dX9_keepAct_10 : decode cX9_keepAct 10 = .ok (.getfield 18, 3) := by decide +kernel
theorem dX9_keepAct_13 : decode cX9_keepAct 13 = .ok (.iconst 5, 1) := by decide +kernel
theorem dX9_keepAct_14 : decode cX9_keepAct 14 = .ok (.aload_n 0, 1) := by decide +kernel
theorem dX9_keepAct_15 : decode cX9_keepAct 15 = .ok (.getfield 18, 3) := by decide +kernel
theorem dX9_keepAct_18 : decode cX9_keepAct 18 = .ok (.iconst 0, 1) := by decide +kernel
theorem dX9_keepAct_19 : decode cX9_keepAct 19 = .ok (.sipush 195, 3) := by decide +kernel
theorem dX9_keepAct_22 : decode cX9_keepAct 22 = .ok (.invokestatic 45, 3) := by decide +kernel
theorem dX9_keepAct_25 : decode cX9_keepAct 25 = .ok (.aload_n 0, 1) := by decide +kernel
theorem dX9_keepAct_26 : decode cX9_keepAct 26 = .ok (.bipush 39, 2) := by decide +kernel
theorem dX9_keepAct_28 : decode cX9_keepAct 28 = .ok (.putfield 35, 3) := by decide +kernel
theorem dX9_keepAct_31 : decode cX9_keepAct 31 = .ok (.aload_n 0, 1) := by decide +kernel
theorem dX9_keepAct_32 : decode cX9_keepAct 32 = .ok (.getfield 35, 3) := by decide +kernel
theorem dX9_keepAct_35 : decode cX9_keepAct 35 = .ok (.iconst 5, 1) := by decide +kernel
theorem dX9_keepAct_36 : decode cX9_keepAct 36 = .ok (.imul, 1) := by decide +kernel
theorem dX9_keepAct_37 : decode cX9_keepAct 37 = .ok (.istore 6, 2) := by decide +kernel
theorem dX9_keepAct_39 : decode cX9_keepAct 39 = .ok (.aload_n 0, 1) := by decide +kernel
theorem dX9_keepAct_40 : decode cX9_keepAct 40 = .ok (.getfield 18, 3) := by decide +kernel
theorem dX9_keepAct_43 : decode cX9_keepAct 43 = .ok (.iload 6, 2) := by decide +kernel
theorem dX9_keepAct_45 : decode cX9_keepAct 45 = .ok (.iload_n 1, 1) := by decide +kernel
theorem dX9_keepAct_46 : decode cX9_keepAct 46 = .ok (.iastore, 1) := by decide +kernel
theorem dX9_keepAct_47 : decode cX9_keepAct 47 = .ok (.aload_n 0, 1) := by decide +kernel
theorem dX9_keepAct_48 : decode cX9_keepAct 48 = .ok (.getfield 18, 3) := by decide +kernel
theorem dX9_keepAct_51 : decode cX9_keepAct 51 = .ok (.iload 6, 2) := by decide +kernel
theorem dX9_keepAct_53 : decode cX9_keepAct 53 = .ok (.iconst 1, 1) := by decide +kernel
theorem dX9_keepAct_54 : decode cX9_keepAct 54 = .ok (.iadd, 1) := by decide +kernel
theorem dX9_keepAct_55 : decode cX9_keepAct 55 = .ok (.iload_n 2, 1) := by decide +kernel
theorem dX9_keepAct_56 : decode cX9_keepAct 56 = .ok (.iastore, 1) := by decide +kernel
theorem dX9_keepAct_57 : decode cX9_keepAct 57 = .ok (.aload_n 0, 1) := by decide +kernel
theorem dX9_keepAct_58 : decode cX9_keepAct 58 = .ok (.getfield 18, 3) := by decide +kernel
theorem dX9_keepAct_61 : decode cX9_keepAct 61 = .ok (.iload 6, 2) := by decide +kernel
theorem dX9_keepAct_63 : decode cX9_keepAct 63 = .ok (.iconst 2, 1) := by decide +kernel
theorem dX9_keepAct_64 : decode cX9_keepAct 64 = .ok (.iadd, 1) := by decide +kernel
theorem dX9_keepAct_65 : decode cX9_keepAct 65 = .ok (.iload_n 3, 1) := by decide +kernel
theorem dX9_keepAct_66 : decode cX9_keepAct 66 = .ok (.iastore, 1) := by decide +kernel
theorem dX9_keepAct_67 : decode cX9_keepAct 67 = .ok (.aload_n 0, 1) := by decide +kernel
theorem dX9_keepAct_68 : decode cX9_keepAct 68 = .ok (.getfield 18, 3) := by decide +kernel
theorem dX9_keepAct_71 : decode cX9_keepAct 71 = .ok (.iload 6, 2) := by decide +kernel
theorem dX9_keepAct_73 : decode cX9_keepAct 73 = .ok (.iconst 3, 1) := by decide +kernel
theorem dX9_keepAct_74 : decode cX9_keepAct 74 = .ok (.iadd, 1) := by decide +kernel
theorem dX9_keepAct_75 : decode cX9_keepAct 75 = .ok (.iload 4, 2) := by decide +kernel
theorem dX9_keepAct_77 : decode cX9_keepAct 77 = .ok (.iastore, 1) := by decide +kernel
theorem dX9_keepAct_78 : decode cX9_keepAct 78 = .ok (.aload_n 0, 1) := by decide +kernel
theorem dX9_keepAct_79 : decode cX9_keepAct 79 = .ok (.getfield 18, 3) := by decide +kernel
theorem dX9_keepAct_82 : decode cX9_keepAct 82 = .ok (.iload 6, 2) := by decide +kernel
theorem dX9_keepAct_84 : decode cX9_keepAct 84 = .ok (.iconst 4, 1) := by decide +kernel
theorem dX9_keepAct_85 : decode cX9_keepAct 85 = .ok (.iadd, 1) := by decide +kernel
theorem dX9_keepAct_86 : decode cX9_keepAct 86 = .ok (.iload 5, 2) := by decide +kernel
theorem dX9_keepAct_88 : decode cX9_keepAct 88 = .ok (.iastore, 1) := by decide +kernel
theorem dX9_keepAct_89 : decode cX9_keepAct 89 = .ok (.aload_n 0, 1) := by decide +kernel
theorem dX9_keepAct_90 : decode cX9_keepAct 90 = .ok (.dup, 1) := by decide +kernel
theorem dX9_keepAct_91 : decode cX9_keepAct 91 = .ok (.getfield 35, 3) := by decide +kernel
theorem dX9_keepAct_94 : decode cX9_keepAct 94 = .ok (.iconst 1, 1) := by decide +kernel
theorem dX9_keepAct_95 : decode cX9_keepAct 95 = .ok (.iadd, 1) := by decide +kernel
theorem dX9_keepAct_96 : decode cX9_keepAct 96 = .ok (.putfield 35, 3) := by decide +kernel
theorem dX9_keepAct_99 : decode cX9_keepAct 99 = .ok (.return_, 1) := by decide +kernel
theorem dX9_keepWord_0 : decode cX9_keepWord 0 = .ok (.aload_n 0, 1) := by decide +kernel
theorem dX9_keepWord_1 : decode cX9_keepWord 1 = .ok (.iload_n 1, 1) := by decide +kernel
theorem dX9_keepWord_2 : decode cX9_keepWord 2 = .ok (.iload_n 2, 1) := by decide +kernel
theorem dX9_keepWord_3 : decode cX9_keepWord 3 = .ok (.aload_n 0, 1) := by decide +kernel
theorem dX9_keepWord_4 : decode cX9_keepWord 4 = .ok (.getfield 12, 3) := by decide +kernel
theorem dX9_keepWord_7 : decode cX9_keepWord 7 = .ok (.getfield 51, 3) := by decide +kernel
theorem dX9_keepWord_10 : decode cX9_keepWord 10 = .ok (.iload_n 2, 1) := by decide +kernel
theorem dX9_keepWord_11 : decode cX9_keepWord 11 = .ok (.iaload, 1) := by decide +kernel
theorem dX9_keepWord_12 : decode cX9_keepWord 12 = .ok (.aload_n 0, 1) := by decide +kernel
theorem dX9_keepWord_13 : decode cX9_keepWord 13 = .ok (.getfield 12, 3) := by decide +kernel
theorem dX9_keepWord_16 : decode cX9_keepWord 16 = .ok (.getfield 54, 3) := by decide +kernel
theorem dX9_keepWord_19 : decode cX9_keepWord 19 = .ok (.iload_n 2, 1) := by decide +kernel
theorem dX9_keepWord_20 : decode cX9_keepWord 20 = .ok (.iaload, 1) := by decide +kernel
theorem dX9_keepWord_21 : decode cX9_keepWord 21 = .ok (.aload_n 0, 1) := by decide +kernel
theorem dX9_keepWord_22 : decode cX9_keepWord 22 = .ok (.getfield 12, 3) := by decide +kernel
theorem dX9_keepWord_25 : decode cX9_keepWord 25 = .ok (.getfield 57, 3) := by decide +kernel
theorem dX9_keepWord_28 : decode cX9_keepWord 28 = .ok (.iload_n 2, 1) := by decide +kernel
theorem dX9_keepWord_29 : decode cX9_keepWord 29 = .ok (.iaload, 1) := by decide +kernel
theorem dX9_keepWord_30 : decode cX9_keepWord 30 = .ok (.invokevirtual 60, 3) := by decide +kernel
theorem dX9_keepWord_33 : decode cX9_keepWord 33 = .ok (.return_, 1) := by decide +kernel
theorem dX9_isWet_0 : decode cX9_isWet 0 = .ok (.aload_n 0, 1) := by decide +kernel
theorem dX9_isWet_1 : decode cX9_isWet 1 = .ok (.getfield 42, 3) := by decide +kernel
theorem dX9_isWet_4 : decode cX9_isWet 4 = .ok (.iload_n 1, 1) := by decide +kernel
theorem dX9_isWet_5 : decode cX9_isWet 5 = .ok (.ishr, 1) := by decide +kernel
theorem dX9_isWet_6 : decode cX9_isWet 6 = .ok (.iconst 1, 1) := by decide +kernel
theorem dX9_isWet_7 : decode cX9_isWet 7 = .ok (.iand, 1) := by decide +kernel
theorem dX9_isWet_8 : decode cX9_isWet 8 = .ok (.ifCond .eq 7, 3) := by decide +kernel
theorem dX9_isWet_11 : decode cX9_isWet 11 = .ok (.iconst 1, 1) := by decide +kernel
theorem dX9_isWet_12 : decode cX9_isWet 12 = .ok (.goto 4, 3) := by decide +kernel
theorem dX9_isWet_15 : decode cX9_isWet 15 = .ok (.iconst 0, 1) := by decide +kernel
theorem dX9_isWet_16 : decode cX9_isWet 16 = .ok (.ireturn, 1) := by decide +kernel
theorem dX9_turnWeather_0 : decode cX9_turnWeather 0 = .ok (.aload_n 0, 1) := by decide +kernel
theorem dX9_turnWeather_1 : decode cX9_turnWeather 1 = .ok (.dup, 1) := by decide +kernel
theorem dX9_turnWeather_2 : decode cX9_turnWeather 2 = .ok (.getfield 42, 3) := by decide +kernel
theorem dX9_turnWeather_5 : decode cX9_turnWeather 5 = .ok (.iconst 1, 1) := by decide +kernel
theorem dX9_turnWeather_6 : decode cX9_turnWeather 6 = .ok (.iload_n 1, 1) := by decide +kernel
theorem dX9_turnWeather_7 : decode cX9_turnWeather 7 = .ok (.ishl, 1) := by decide +kernel
theorem dX9_turnWeather_8 : decode cX9_turnWeather 8 = .ok (.ixor, 1) := by decide +kernel
theorem dX9_turnWeather_9 : decode cX9_turnWeather 9 = .ok (.putfield 42, 3) := by decide +kernel
theorem dX9_turnWeather_12 : decode cX9_turnWeather 12 = .ok (.return_, 1) := by decide +kernel
theorem dX9_undoLast_0 : decode cX9_undoLast 0 = .ok (.aload_n 0, 1) := by decide +kernel
theorem dX9_undoLast_1 : decode cX9_undoLast 1 = .ok (.getfield 35, 3) := by decide +kernel
theorem dX9_undoLast_4 : decode cX9_undoLast 4 = .ok (.ifCond .gt 4, 3) := by decide +kernel
theorem dX9_undoLast_7 : decode cX9_undoLast 7 = .ok (.return_, 1) := by decide +kernel
theorem dX9_undoLast_8 : decode cX9_undoLast 8 = .ok (.aload_n 0, 1) := by decide +kernel
theorem dX9_undoLast_9 : decode cX9_undoLast 9 = .ok (.dup, 1) := by decide +kernel
theorem dX9_undoLast_10 : decode cX9_undoLast 10 = .ok (.getfield 35, 3) := by decide +kernel
theorem dX9_undoLast_13 : decode cX9_undoLast 13 = .ok (.iconst 1, 1) := by decide +kernel
theorem dX9_undoLast_14 : decode cX9_undoLast 14 = .ok (.isub, 1) := by decide +kernel
theorem dX9_undoLast_15 : decode cX9_undoLast 15 = .ok (.putfield 35, 3) := by decide +kernel
theorem dX9_undoLast_18 : decode cX9_undoLast 18 = .ok (.aload_n 0, 1) := by decide +kernel
theorem dX9_undoLast_19 : decode cX9_undoLast 19 = .ok (.getfield 35, 3) := by decide +kernel
theorem dX9_undoLast_22 : decode cX9_undoLast 22 = .ok (.iconst 5, 1) := by decide +kernel
theorem dX9_undoLast_23 : decode cX9_undoLast 23 = .ok (.imul, 1) := by decide +kernel
theorem dX9_undoLast_24 : decode cX9_undoLast 24 = .ok (.istore_n 1, 1) := by decide +kernel
theorem dX9_undoLast_25 : decode cX9_undoLast 25 = .ok (.aload_n 0, 1) := by decide +kernel
theorem dX9_undoLast_26 : decode cX9_undoLast 26 = .ok (.getfield 18, 3) := by decide +kernel
theorem dX9_undoLast_29 : decode cX9_undoLast 29 = .ok (.iload_n 1, 1) := by decide +kernel
theorem dX9_undoLast_30 : decode cX9_undoLast 30 = .ok (.iconst 1, 1) := by decide +kernel
theorem dX9_undoLast_31 : decode cX9_undoLast 31 = .ok (.iadd, 1) := by decide +kernel
theorem dX9_undoLast_32 : decode cX9_undoLast 32 = .ok (.iaload, 1) := by decide +kernel
theorem dX9_undoLast_33 : decode cX9_undoLast 33 = .ok (.istore_n 2, 1) := by decide +kernel
theorem dX9_undoLast_34 : decode cX9_undoLast 34 = .ok (.aload_n 0, 1) := by decide +kernel
theorem dX9_undoLast_35 : decode cX9_undoLast 35 = .ok (.getfield 18, 3) := by decide +kernel
theorem dX9_undoLast_38 : decode cX9_undoLast 38 = .ok (.iload_n 1, 1) := by decide +kernel
theorem dX9_undoLast_39 : decode cX9_undoLast 39 = .ok (.iaload, 1) := by decide +kernel
theorem dX9_undoLast_40 : decode cX9_undoLast 40 = .ok (.tableswitch 101 0 2 #[28, 39, 74], 28) := by decide +kernel
theorem dX9_undoLast_68 : decode cX9_undoLast 68 = .ok (.aload_n 0, 1) := by decide +kernel
theorem dX9_undoLast_69 : decode cX9_undoLast 69 = .ok (.getfield 12, 3) := by decide +kernel
theorem dX9_undoLast_72 : decode cX9_undoLast 72 = .ok (.iload_n 2, 1) := by decide +kernel
theorem dX9_undoLast_73 : decode cX9_undoLast 73 = .ok (.invokevirtual 64, 3) := by decide +kernel
theorem dX9_undoLast_76 : decode cX9_undoLast 76 = .ok (.goto 70, 3) := by decide +kernel
theorem dX9_undoLast_79 : decode cX9_undoLast 79 = .ok (.aload_n 0, 1) := by decide +kernel
theorem dX9_undoLast_80 : decode cX9_undoLast 80 = .ok (.getfield 12, 3) := by decide +kernel
theorem dX9_undoLast_83 : decode cX9_undoLast 83 = .ok (.iload_n 2, 1) := by decide +kernel
theorem dX9_undoLast_84 : decode cX9_undoLast 84 = .ok (.aload_n 0, 1) := by decide +kernel
theorem dX9_undoLast_85 : decode cX9_undoLast 85 = .ok (.getfield 18, 3) := by decide +kernel
theorem dX9_undoLast_88 : decode cX9_undoLast 88 = .ok (.iload_n 1, 1) := by decide +kernel
theorem dX9_undoLast_89 : decode cX9_undoLast 89 = .ok (.iconst 2, 1) := by decide +kernel
theorem dX9_undoLast_90 : decode cX9_undoLast 90 = .ok (.iadd, 1) := by decide +kernel
theorem dX9_undoLast_91 : decode cX9_undoLast 91 = .ok (.iaload, 1) := by decide +kernel
theorem dX9_undoLast_92 : decode cX9_undoLast 92 = .ok (.aload_n 0, 1) := by decide +kernel
theorem dX9_undoLast_93 : decode cX9_undoLast 93 = .ok (.getfield 18, 3) := by decide +kernel
theorem dX9_undoLast_96 : decode cX9_undoLast 96 = .ok (.iload_n 1, 1) := by decide +kernel
theorem dX9_undoLast_97 : decode cX9_undoLast 97 = .ok (.iconst 3, 1) := by decide +kernel
theorem dX9_undoLast_98 : decode cX9_undoLast 98 = .ok (.iadd, 1) := by decide +kernel
theorem dX9_undoLast_99 : decode cX9_undoLast 99 = .ok (.iaload, 1) := by decide +kernel
theorem dX9_undoLast_100 : decode cX9_undoLast 100 = .ok (.aload_n 0, 1) := by decide +kernel
theorem dX9_undoLast_101 : decode cX9_undoLast 101 = .ok (.getfield 18, 3) := by decide +kernel
theorem dX9_undoLast_104 : decode cX9_undoLast 104 = .ok (.iload_n 1, 1) := by decide +kernel
theorem dX9_undoLast_105 : decode cX9_undoLast 105 = .ok (.iconst 4, 1) := by decide +kernel
theorem dX9_undoLast_106 : decode cX9_undoLast 106 = .ok (.iadd, 1) := by decide +kernel
theorem dX9_undoLast_107 : decode cX9_undoLast 107 = .ok (.iaload, 1) := by decide +kernel
theorem dX9_undoLast_108 : decode cX9_undoLast 108 = .ok (.invokevirtual 68, 3) := by decide +kernel
theorem dX9_undoLast_111 : decode cX9_undoLast 111 = .ok (.goto 35, 3) := by decide +kernel
theorem dX9_undoLast_114 : decode cX9_undoLast 114 = .ok (.aload_n 0, 1) := by decide +kernel
theorem dX9_undoLast_115 : decode cX9_undoLast 115 = .ok (.getfield 12, 3) := by decide +kernel
theorem dX9_undoLast_118 : decode cX9_undoLast 118 = .ok (.iload_n 2, 1) := by decide +kernel
theorem dX9_undoLast_119 : decode cX9_undoLast 119 = .ok (.aload_n 0, 1) := by decide +kernel
theorem dX9_undoLast_120 : decode cX9_undoLast 120 = .ok (.getfield 18, 3) := by decide +kernel
theorem dX9_undoLast_123 : decode cX9_undoLast 123 = .ok (.iload_n 1, 1) := by decide +kernel
theorem dX9_undoLast_124 : decode cX9_undoLast 124 = .ok (.iconst 3, 1) := by decide +kernel
theorem dX9_undoLast_125 : decode cX9_undoLast 125 = .ok (.iadd, 1) := by decide +kernel
theorem dX9_undoLast_126 : decode cX9_undoLast 126 = .ok (.iaload, 1) := by decide +kernel
theorem dX9_undoLast_127 : decode cX9_undoLast 127 = .ok (.aload_n 0, 1) := by decide +kernel
theorem dX9_undoLast_128 : decode cX9_undoLast 128 = .ok (.getfield 18, 3) := by decide +kernel
theorem dX9_undoLast_131 : decode cX9_undoLast 131 = .ok (.iload_n 1, 1) := by decide +kernel
theorem dX9_undoLast_132 : decode cX9_undoLast 132 = .ok (.iconst 4, 1) := by decide +kernel
theorem dX9_undoLast_133 : decode cX9_undoLast 133 = .ok (.iadd, 1) := by decide +kernel
theorem dX9_undoLast_134 : decode cX9_undoLast 134 = .ok (.iaload, 1) := by decide +kernel
theorem dX9_undoLast_135 : decode cX9_undoLast 135 = .ok (.invokevirtual 72, 3) := by decide +kernel
theorem dX9_undoLast_138 : decode cX9_undoLast 138 = .ok (.goto 8, 3) := by decide +kernel
theorem dX9_undoLast_141 : decode cX9_undoLast 141 = .ok (.aload_n 0, 1) := by decide +kernel
theorem dX9_undoLast_142 : decode cX9_undoLast 142 = .ok (.iload_n 2, 1) := by decide +kernel
theorem dX9_undoLast_143 : decode cX9_undoLast 143 = .ok (.invokevirtual 76, 3) := by decide +kernel
theorem dX9_undoLast_146 : decode cX9_undoLast 146 = .ok (.return_, 1) := by decide +kernel
def f_ST_begin_12_3 (μ : kbM) : Option (kbM) :=
  (f_WO_copyFrom_13_3 μ).bind fun x1 =>
  some (kbW (kbW (kbW x1 12 5 0) 12 6 0) 12 7 0)
theorem sp_ST_begin_12_3 {l : Launch} (μ : kbM)  {x : kbM} (h : f_ST_begin_12_3 μ = some x) : kbS l MX9_begin 2 [.ref 12, .ref 3] μ (kbQe none x) := by
  refine kb_enter 0 rfl rfl ?_
  suffices H : ∀ (Q : kbQt) (P : kbM → Prop), (∀ z : kbM, P z → Q none z) → kbG (f_ST_begin_12_3 μ) P → kbR l MX9_begin 2 Q 0 [some (.ref 12), some (.ref 3)] [] μ from H _ (fun z => z = x) (fun z e => by subst e; exact ⟨rfl, rfl⟩) ⟨x, h, rfl⟩
  clear h
  intro Q P hr h
  unfold f_ST_begin_12_3 at h
  refine r_aload_n dX9_begin_0 rfl ?_
  refine r_getR flX9_12 sh12 rfl dX9_begin_1 ?_
  refine r_aload_n dX9_begin_4 rfl ?_
  obtain ⟨x1, hx0, h⟩ := kbG_bind h
  refine r_invV_v cvX9_31 sh13 rfl (sp_WO_copyFrom_13_3 μ hx0) rfl rfl (Nat.le_of_ble_eq_true rfl) (Nat.le_of_ble_eq_true rfl) dX9_begin_5 ?_
  refine r_aload_n dX9_begin_8 rfl ?_
  refine r_iconst 0 dX9_begin_9 (by decide) ?_
  refine r_put flX9_35 sh12 rfl rfl rfl dX9_begin_10 ?_
  refine r_aload_n dX9_begin_13 rfl ?_
  refine r_iconst 0 dX9_begin_14 (by decide) ?_
  refine r_put flX9_39 sh12 rfl rfl rfl dX9_begin_15 ?_
  refine r_aload_n dX9_begin_18 rfl ?_
  refine r_iconst 0 dX9_begin_19 (by decide) ?_
  refine r_put flX9_42 sh12 rfl rfl rfl dX9_begin_20 ?_
  exact r_vret rfl dX9_begin_23 (hr (kbW (kbW (kbW x1 12 5 0) 12 6 0) 12 7 0) (kbG_some h))
def f_ST_copyFrom_12_22 (μ : kbM) : Option (kbM) :=
  (f_WO_copyFrom_13_23 μ).bind fun x1 =>
  some (kbW (kbW (kbW (kbA (kbA (kbA (kbA x1 18 (va_cpy (x1.1 28) (x1.1 18) 0 0 200)) 19 (va_cpy ((kbA x1 18 (va_cpy (x1.1 28) (x1.1 18) 0 0 200)).1 29) ((kbA x1 18 (va_cpy (x1.1 28) (x1.1 18) 0 0 200)).1 19) 0 0 8)) 20 (va_cpy ((kbA (kbA x1 18 (va_cpy (x1.1 28) (x1.1 18) 0 0 200)) 19 (va_cpy ((kbA x1 18 (va_cpy (x1.1 28) (x1.1 18) 0 0 200)).1 29) ((kbA x1 18 (va_cpy (x1.1 28) (x1.1 18) 0 0 200)).1 19) 0 0 8)).1 30) ((kbA (kbA x1 18 (va_cpy (x1.1 28) (x1.1 18) 0 0 200)) 19 (va_cpy ((kbA x1 18 (va_cpy (x1.1 28) (x1.1 18) 0 0 200)).1 29) ((kbA x1 18 (va_cpy (x1.1 28) (x1.1 18) 0 0 200)).1 19) 0 0 8)).1 20) 0 0 8)) 21 (va_cpy ((kbA (kbA (kbA x1 18 (va_cpy (x1.1 28) (x1.1 18) 0 0 200)) 19 (va_cpy ((kbA x1 18 (va_cpy (x1.1 28) (x1.1 18) 0 0 200)).1 29) ((kbA x1 18 (va_cpy (x1.1 28) (x1.1 18) 0 0 200)).1 19) 0 0 8)) 20 (va_cpy ((kbA (kbA x1 18 (va_cpy (x1.1 28) (x1.1 18) 0 0 200)) 19 (va_cpy ((kbA x1 18 (va_cpy (x1.1 28) (x1.1 18) 0 0 200)).1 29) ((kbA x1 18 (va_cpy (x1.1 28) (x1.1 18) 0 0 200)).1 19) 0 0 8)).1 30) ((kbA (kbA x1 18 (va_cpy (x1.1 28) (x1.1 18) 0 0 200)) 19 (va_cpy ((kbA x1 18 (va_cpy (x1.1 28) (x1.1 18) 0 0 200)).1 29) ((kbA x1 18 (va_cpy (x1.1 28) (x1.1 18) 0 0 200)).1 19) 0 0 8)).1 20) 0 0 8)).1 31) ((kbA (kbA (kbA x1 18 (va_cpy (x1.1 28) (x1.1 18) 0 0 200)) 19 (va_cpy ((kbA x1 18 (va_cpy (x1.1 28) (x1.1 18) 0 0 200)).1 29) ((kbA x1 18 (va_cpy (x1.1 28) (x1.1 18) 0 0 200)).1 19) 0 0 8)) 20 (va_cpy ((kbA (kbA x1 18 (va_cpy (x1.1 28) (x1.1 18) 0 0 200)) 19 (va_cpy ((kbA x1 18 (va_cpy (x1.1 28) (x1.1 18) 0 0 200)).1 29) ((kbA x1 18 (va_cpy (x1.1 28) (x1.1 18) 0 0 200)).1 19) 0 0 8)).1 30) ((kbA (kbA x1 18 (va_cpy (x1.1 28) (x1.1 18) 0 0 200)) 19 (va_cpy ((kbA x1 18 (va_cpy (x1.1 28) (x1.1 18) 0 0 200)).1 29) ((kbA x1 18 (va_cpy (x1.1 28) (x1.1 18) 0 0 200)).1 19) 0 0 8)).1 20) 0 0 8)).1 21) 0 0 3)) 12 5 ((kbA (kbA (kbA (kbA x1 18 (va_cpy (x1.1 28) (x1.1 18) 0 0 200)) 19 (va_cpy ((kbA x1 18 (va_cpy (x1.1 28) (x1.1 18) 0 0 200)).1 29) ((kbA x1 18 (va_cpy (x1.1 28) (x1.1 18) 0 0 200)).1 19) 0 0 8)) 20 (va_cpy ((kbA (kbA x1 18 (va_cpy (x1.1 28) (x1.1 18) 0 0 200)) 19 (va_cpy ((kbA x1 18 (va_cpy (x1.1 28) (x1.1 18) 0 0 200)).1 29) ((kbA x1 18 (va_cpy (x1.1 28) (x1.1 18) 0 0 200)).1 19) 0 0 8)).1 30) ((kbA (kbA x1 18 (va_cpy (x1.1 28) (x1.1 18) 0 0 200)) 19 (va_cpy ((kbA x1 18 (va_cpy (x1.1 28) (x1.1 18) 0 0 200)).1 29) ((kbA x1 18 (va_cpy (x1.1 28) (x1.1 18) 0 0 200)).1 19) 0 0 8)).1 20) 0 0 8)) 21 (va_cpy ((kbA (kbA (kbA x1 18 (va_cpy (x1.1 28) (x1.1 18) 0 0 200)) 19 (va_cpy ((kbA x1 18 (va_cpy (x1.1 28) (x1.1 18) 0 0 200)).1 29) ((kbA x1 18 (va_cpy (x1.1 28) (x1.1 18) 0 0 200)).1 19) 0 0 8)) 20 (va_cpy ((kbA (kbA x1 18 (va_cpy (x1.1 28) (x1.1 18) 0 0 200)) 19 (va_cpy ((kbA x1 18 (va_cpy (x1.1 28) (x1.1 18) 0 0 200)).1 29) ((kbA x1 18 (va_cpy (x1.1 28) (x1.1 18) 0 0 200)).1 19) 0 0 8)).1 30) ((kbA (kbA x1 18 (va_cpy (x1.1 28) (x1.1 18) 0 0 200)) 19 (va_cpy ((kbA x1 18 (va_cpy (x1.1 28) (x1.1 18) 0 0 200)).1 29) ((kbA x1 18 (va_cpy (x1.1 28) (x1.1 18) 0 0 200)).1 19) 0 0 8)).1 20) 0 0 8)).1 31) ((kbA (kbA (kbA x1 18 (va_cpy (x1.1 28) (x1.1 18) 0 0 200)) 19 (va_cpy ((kbA x1 18 (va_cpy (x1.1 28) (x1.1 18) 0 0 200)).1 29) ((kbA x1 18 (va_cpy (x1.1 28) (x1.1 18) 0 0 200)).1 19) 0 0 8)) 20 (va_cpy ((kbA (kbA x1 18 (va_cpy (x1.1 28) (x1.1 18) 0 0 200)) 19 (va_cpy ((kbA x1 18 (va_cpy (x1.1 28) (x1.1 18) 0 0 200)).1 29) ((kbA x1 18 (va_cpy (x1.1 28) (x1.1 18) 0 0 200)).1 19) 0 0 8)).1 30) ((kbA (kbA x1 18 (va_cpy (x1.1 28) (x1.1 18) 0 0 200)) 19 (va_cpy ((kbA x1 18 (va_cpy (x1.1 28) (x1.1 18) 0 0 200)).1 29) ((kbA x1 18 (va_cpy (x1.1 28) (x1.1 18) 0 0 200)).1 19) 0 0 8)).1 20) 0 0 8)).1 21) 0 0 3)).1 22 5)) 12 6 ((kbW (kbA (kbA (kbA (kbA x1 18 (va_cpy (x1.1 28) (x1.1 18) 0 0 200)) 19 (va_cpy ((kbA x1 18 (va_cpy (x1.1 28) (x1.1 18) 0 0 200)).1 29) ((kbA x1 18 (va_cpy (x1.1 28) (x1.1 18) 0 0 200)).1 19) 0 0 8)) 20 (va_cpy ((kbA (kbA x1 18 (va_cpy (x1.1 28) (x1.1 18) 0 0 200)) 19 (va_cpy ((kbA x1 18 (va_cpy (x1.1 28) (x1.1 18) 0 0 200)).1 29) ((kbA x1 18 (va_cpy (x1.1 28) (x1.1 18) 0 0 200)).1 19) 0 0 8)).1 30) ((kbA (kbA x1 18 (va_cpy (x1.1 28) (x1.1 18) 0 0 200)) 19 (va_cpy ((kbA x1 18 (va_cpy (x1.1 28) (x1.1 18) 0 0 200)).1 29) ((kbA x1 18 (va_cpy (x1.1 28) (x1.1 18) 0 0 200)).1 19) 0 0 8)).1 20) 0 0 8)) 21 (va_cpy ((kbA (kbA (kbA x1 18 (va_cpy (x1.1 28) (x1.1 18) 0 0 200)) 19 (va_cpy ((kbA x1 18 (va_cpy (x1.1 28) (x1.1 18) 0 0 200)).1 29) ((kbA x1 18 (va_cpy (x1.1 28) (x1.1 18) 0 0 200)).1 19) 0 0 8)) 20 (va_cpy ((kbA (kbA x1 18 (va_cpy (x1.1 28) (x1.1 18) 0 0 200)) 19 (va_cpy ((kbA x1 18 (va_cpy (x1.1 28) (x1.1 18) 0 0 200)).1 29) ((kbA x1 18 (va_cpy (x1.1 28) (x1.1 18) 0 0 200)).1 19) 0 0 8)).1 30) ((kbA (kbA x1 18 (va_cpy (x1.1 28) (x1.1 18) 0 0 200)) 19 (va_cpy ((kbA x1 18 (va_cpy (x1.1 28) (x1.1 18) 0 0 200)).1 29) ((kbA x1 18 (va_cpy (x1.1 28) (x1.1 18) 0 0 200)).1 19) 0 0 8)).1 20) 0 0 8)).1 31) ((kbA (kbA (kbA x1 18 (va_cpy (x1.1 28) (x1.1 18) 0 0 200)) 19 (va_cpy ((kbA x1 18 (va_cpy (x1.1 28) (x1.1 18) 0 0 200)).1 29) ((kbA x1 18 (va_cpy (x1.1 28) (x1.1 18) 0 0 200)).1 19) 0 0 8)) 20 (va_cpy ((kbA (kbA x1 18 (va_cpy (x1.1 28) (x1.1 18) 0 0 200)) 19 (va_cpy ((kbA x1 18 (va_cpy (x1.1 28) (x1.1 18) 0 0 200)).1 29) ((kbA x1 18 (va_cpy (x1.1 28) (x1.1 18) 0 0 200)).1 19) 0 0 8)).1 30) ((kbA (kbA x1 18 (va_cpy (x1.1 28) (x1.1 18) 0 0 200)) 19 (va_cpy ((kbA x1 18 (va_cpy (x1.1 28) (x1.1 18) 0 0 200)).1 29) ((kbA x1 18 (va_cpy (x1.1 28) (x1.1 18) 0 0 200)).1 19) 0 0 8)).1 20) 0 0 8)).1 21) 0 0 3)) 12 5 ((kbA (kbA (kbA (kbA x1 18 (va_cpy (x1.1 28) (x1.1 18) 0 0 200)) 19 (va_cpy ((kbA x1 18 (va_cpy (x1.1 28) (x1.1 18) 0 0 200)).1 29) ((kbA x1 18 (va_cpy (x1.1 28) (x1.1 18) 0 0 200)).1 19) 0 0 8)) 20 (va_cpy ((kbA (kbA x1 18 (va_cpy (x1.1 28) (x1.1 18) 0 0 200)) 19 (va_cpy ((kbA x1 18 (va_cpy (x1.1 28) (x1.1 18) 0 0 200)).1 29) ((kbA x1 18 (va_cpy (x1.1 28) (x1.1 18) 0 0 200)).1 19) 0 0 8)).1 30) ((kbA (kbA x1 18 (va_cpy (x1.1 28) (x1.1 18) 0 0 200)) 19 (va_cpy ((kbA x1 18 (va_cpy (x1.1 28) (x1.1 18) 0 0 200)).1 29) ((kbA x1 18 (va_cpy (x1.1 28) (x1.1 18) 0 0 200)).1 19) 0 0 8)).1 20) 0 0 8)) 21 (va_cpy ((kbA (kbA (kbA x1 18 (va_cpy (x1.1 28) (x1.1 18) 0 0 200)) 19 (va_cpy ((kbA x1 18 (va_cpy (x1.1 28) (x1.1 18) 0 0 200)).1 29) ((kbA x1 18 (va_cpy (x1.1 28) (x1.1 18) 0 0 200)).1 19) 0 0 8)) 20 (va_cpy ((kbA (kbA x1 18 (va_cpy (x1.1 28) (x1.1 18) 0 0 200)) 19 (va_cpy ((kbA x1 18 (va_cpy (x1.1 28) (x1.1 18) 0 0 200)).1 29) ((kbA x1 18 (va_cpy (x1.1 28) (x1.1 18) 0 0 200)).1 19) 0 0 8)).1 30) ((kbA (kbA x1 18 (va_cpy (x1.1 28) (x1.1 18) 0 0 200)) 19 (va_cpy ((kbA x1 18 (va_cpy (x1.1 28) (x1.1 18) 0 0 200)).1 29) ((kbA x1 18 (va_cpy (x1.1 28) (x1.1 18) 0 0 200)).1 19) 0 0 8)).1 20) 0 0 8)).1 31) ((kbA (kbA (kbA x1 18 (va_cpy (x1.1 28) (x1.1 18) 0 0 200)) 19 (va_cpy ((kbA x1 18 (va_cpy (x1.1 28) (x1.1 18) 0 0 200)).1 29) ((kbA x1 18 (va_cpy (x1.1 28) (x1.1 18) 0 0 200)).1 19) 0 0 8)) 20 (va_cpy ((kbA (kbA x1 18 (va_cpy (x1.1 28) (x1.1 18) 0 0 200)) 19 (va_cpy ((kbA x1 18 (va_cpy (x1.1 28) (x1.1 18) 0 0 200)).1 29) ((kbA x1 18 (va_cpy (x1.1 28) (x1.1 18) 0 0 200)).1 19) 0 0 8)).1 30) ((kbA (kbA x1 18 (va_cpy (x1.1 28) (x1.1 18) 0 0 200)) 19 (va_cpy ((kbA x1 18 (va_cpy (x1.1 28) (x1.1 18) 0 0 200)).1 29) ((kbA x1 18 (va_cpy (x1.1 28) (x1.1 18) 0 0 200)).1 19) 0 0 8)).1 20) 0 0 8)).1 21) 0 0 3)).1 22 5)).1 22 6)) 12 7 ((kbW (kbW (kbA (kbA (kbA (kbA x1 18 (va_cpy (x1.1 28) (x1.1 18) 0 0 200)) 19 (va_cpy ((kbA x1 18 (va_cpy (x1.1 28) (x1.1 18) 0 0 200)).1 29) ((kbA x1 18 (va_cpy (x1.1 28) (x1.1 18) 0 0 200)).1 19) 0 0 8)) 20 (va_cpy ((kbA (kbA x1 18 (va_cpy (x1.1 28) (x1.1 18) 0 0 200)) 19 (va_cpy ((kbA x1 18 (va_cpy (x1.1 28) (x1.1 18) 0 0 200)).1 29) ((kbA x1 18 (va_cpy (x1.1 28) (x1.1 18) 0 0 200)).1 19) 0 0 8)).1 30) ((kbA (kbA x1 18 (va_cpy (x1.1 28) (x1.1 18) 0 0 200)) 19 (va_cpy ((kbA x1 18 (va_cpy (x1.1 28) (x1.1 18) 0 0 200)).1 29) ((kbA x1 18 (va_cpy (x1.1 28) (x1.1 18) 0 0 200)).1 19) 0 0 8)).1 20) 0 0 8)) 21 (va_cpy ((kbA (kbA (kbA x1 18 (va_cpy (x1.1 28) (x1.1 18) 0 0 200)) 19 (va_cpy ((kbA x1 18 (va_cpy (x1.1 28) (x1.1 18) 0 0 200)).1 29) ((kbA x1 18 (va_cpy (x1.1 28) (x1.1 18) 0 0 200)).1 19) 0 0 8)) 20 (va_cpy ((kbA (kbA x1 18 (va_cpy (x1.1 28) (x1.1 18) 0 0 200)) 19 (va_cpy ((kbA x1 18 (va_cpy (x1.1 28) (x1.1 18) 0 0 200)).1 29) ((kbA x1 18 (va_cpy (x1.1 28) (x1.1 18) 0 0 200)).1 19) 0 0 8)).1 30) ((kbA (kbA x1 18 (va_cpy (x1.1 28) (x1.1 18) 0 0 200)) 19 (va_cpy ((kbA x1 18 (va_cpy (x1.1 28) (x1.1 18) 0 0 200)).1 29) ((kbA x1 18 (va_cpy (x1.1 28) (x1.1 18) 0 0 200)).1 19) 0 0 8)).1 20) 0 0 8)).1 31) ((kbA (kbA (kbA x1 18 (va_cpy (x1.1 28) (x1.1 18) 0 0 200)) 19 (va_cpy ((kbA x1 18 (va_cpy (x1.1 28) (x1.1 18) 0 0 200)).1 29) ((kbA x1 18 (va_cpy (x1.1 28) (x1.1 18) 0 0 200)).1 19) 0 0 8)) 20 (va_cpy ((kbA (kbA x1 18 (va_cpy (x1.1 28) (x1.1 18) 0 0 200)) 19 (va_cpy ((kbA x1 18 (va_cpy (x1.1 28) (x1.1 18) 0 0 200)).1 29) ((kbA x1 18 (va_cpy (x1.1 28) (x1.1 18) 0 0 200)).1 19) 0 0 8)).1 30) ((kbA (kbA x1 18 (va_cpy (x1.1 28) (x1.1 18) 0 0 200)) 19 (va_cpy ((kbA x1 18 (va_cpy (x1.1 28) (x1.1 18) 0 0 200)).1 29) ((kbA x1 18 (va_cpy (x1.1 28) (x1.1 18) 0 0 200)).1 19) 0 0 8)).1 20) 0 0 8)).1 21) 0 0 3)) 12 5 ((kbA (kbA (kbA (kbA x1 18 (va_cpy (x1.1 28) (x1.1 18) 0 0 200)) 19 (va_cpy ((kbA x1 18 (va_cpy (x1.1 28) (x1.1 18) 0 0 200)).1 29) ((kbA x1 18 (va_cpy (x1.1 28) (x1.1 18) 0 0 200)).1 19) 0 0 8)) 20 (va_cpy ((kbA (kbA x1 18 (va_cpy (x1.1 28) (x1.1 18) 0 0 200)) 19 (va_cpy ((kbA x1 18 (va_cpy (x1.1 28) (x1.1 18) 0 0 200)).1 29) ((kbA x1 18 (va_cpy (x1.1 28) (x1.1 18) 0 0 200)).1 19) 0 0 8)).1 30) ((kbA (kbA x1 18 (va_cpy (x1.1 28) (x1.1 18) 0 0 200)) 19 (va_cpy ((kbA x1 18 (va_cpy (x1.1 28) (x1.1 18) 0 0 200)).1 29) ((kbA x1 18 (va_cpy (x1.1 28) (x1.1 18) 0 0 200)).1 19) 0 0 8)).1 20) 0 0 8)) 21 (va_cpy ((kbA (kbA (kbA x1 18 (va_cpy (x1.1 28) (x1.1 18) 0 0 200)) 19 (va_cpy ((kbA x1 18 (va_cpy (x1.1 28) (x1.1 18) 0 0 200)).1 29) ((kbA x1 18 (va_cpy (x1.1 28) (x1.1 18) 0 0 200)).1 19) 0 0 8)) 20 (va_cpy ((kbA (kbA x1 18 (va_cpy (x1.1 28) (x1.1 18) 0 0 200)) 19 (va_cpy ((kbA x1 18 (va_cpy (x1.1 28) (x1.1 18) 0 0 200)).1 29) ((kbA x1 18 (va_cpy (x1.1 28) (x1.1 18) 0 0 200)).1 19) 0 0 8)).1 30) ((kbA (kbA x1 18 (va_cpy (x1.1 28) (x1.1 18) 0 0 200)) 19 (va_cpy ((kbA x1 18 (va_cpy (x1.1 28) (x1.1 18) 0 0 200)).1 29) ((kbA x1 18 (va_cpy (x1.1 28) (x1.1 18) 0 0 200)).1 19) 0 0 8)).1 20) 0 0 8)).1 31) ((kbA (kbA (kbA x1 18 (va_cpy (x1.1 28) (x1.1 18) 0 0 200)) 19 (va_cpy ((kbA x1 18 (va_cpy (x1.1 28) (x1.1 18) 0 0 200)).1 29) ((kbA x1 18 (va_cpy (x1.1 28) (x1.1 18) 0 0 200)).1 19) 0 0 8)) 20 (va_cpy ((kbA (kbA x1 18 (va_cpy (x1.1 28) (x1.1 18) 0 0 200)) 19 (va_cpy ((kbA x1 18 (va_cpy (x1.1 28) (x1.1 18) 0 0 200)).1 29) ((kbA x1 18 (va_cpy (x1.1 28) (x1.1 18) 0 0 200)).1 19) 0 0 8)).1 30) ((kbA (kbA x1 18 (va_cpy (x1.1 28) (x1.1 18) 0 0 200)) 19 (va_cpy ((kbA x1 18 (va_cpy (x1.1 28) (x1.1 18) 0 0 200)).1 29) ((kbA x1 18 (va_cpy (x1.1 28) (x1.1 18) 0 0 200)).1 19) 0 0 8)).1 20) 0 0 8)).1 21) 0 0 3)).1 22 5)) 12 6 ((kbW (kbA (kbA (kbA (kbA x1 18 (va_cpy (x1.1 28) (x1.1 18) 0 0 200)) 19 (va_cpy ((kbA x1 18 (va_cpy (x1.1 28) (x1.1 18) 0 0 200)).1 29) ((kbA x1 18 (va_cpy (x1.1 28) (x1.1 18) 0 0 200)).1 19) 0 0 8)) 20 (va_cpy ((kbA (kbA x1 18 (va_cpy (x1.1 28) (x1.1 18) 0 0 200)) 19 (va_cpy ((kbA x1 18 (va_cpy (x1.1 28) (x1.1 18) 0 0 200)).1 29) ((kbA x1 18 (va_cpy (x1.1 28) (x1.1 18) 0 0 200)).1 19) 0 0 8)).1 30) ((kbA (kbA x1 18 (va_cpy (x1.1 28) (x1.1 18) 0 0 200)) 19 (va_cpy ((kbA x1 18 (va_cpy (x1.1 28) (x1.1 18) 0 0 200)).1 29) ((kbA x1 18 (va_cpy (x1.1 28) (x1.1 18) 0 0 200)).1 19) 0 0 8)).1 20) 0 0 8)) 21 (va_cpy ((kbA (kbA (kbA x1 18 (va_cpy (x1.1 28) (x1.1 18) 0 0 200)) 19 (va_cpy ((kbA x1 18 (va_cpy (x1.1 28) (x1.1 18) 0 0 200)).1 29) ((kbA x1 18 (va_cpy (x1.1 28) (x1.1 18) 0 0 200)).1 19) 0 0 8)) 20 (va_cpy ((kbA (kbA x1 18 (va_cpy (x1.1 28) (x1.1 18) 0 0 200)) 19 (va_cpy ((kbA x1 18 (va_cpy (x1.1 28) (x1.1 18) 0 0 200)).1 29) ((kbA x1 18 (va_cpy (x1.1 28) (x1.1 18) 0 0 200)).1 19) 0 0 8)).1 30) ((kbA (kbA x1 18 (va_cpy (x1.1 28) (x1.1 18) 0 0 200)) 19 (va_cpy ((kbA x1 18 (va_cpy (x1.1 28) (x1.1 18) 0 0 200)).1 29) ((kbA x1 18 (va_cpy (x1.1 28) (x1.1 18) 0 0 200)).1 19) 0 0 8)).1 20) 0 0 8)).1 31) ((kbA (kbA (kbA x1 18 (va_cpy (x1.1 28) (x1.1 18) 0 0 200)) 19 (va_cpy ((kbA x1 18 (va_cpy (x1.1 28) (x1.1 18) 0 0 200)).1 29) ((kbA x1 18 (va_cpy (x1.1 28) (x1.1 18) 0 0 200)).1 19) 0 0 8)) 20 (va_cpy ((kbA (kbA x1 18 (va_cpy (x1.1 28) (x1.1 18) 0 0 200)) 19 (va_cpy ((kbA x1 18 (va_cpy (x1.1 28) (x1.1 18) 0 0 200)).1 29) ((kbA x1 18 (va_cpy (x1.1 28) (x1.1 18) 0 0 200)).1 19) 0 0 8)).1 30) ((kbA (kbA x1 18 (va_cpy (x1.1 28) (x1.1 18) 0 0 200)) 19 (va_cpy ((kbA x1 18 (va_cpy (x1.1 28) (x1.1 18) 0 0 200)).1 29) ((kbA x1 18 (va_cpy (x1.1 28) (x1.1 18) 0 0 200)).1 19) 0 0 8)).1 20) 0 0 8)).1 21) 0 0 3)) 12 5 ((kbA (kbA (kbA (kbA x1 18 (va_cpy (x1.1 28) (x1.1 18) 0 0 200)) 19 (va_cpy ((kbA x1 18 (va_cpy (x1.1 28) (x1.1 18) 0 0 200)).1 29) ((kbA x1 18 (va_cpy (x1.1 28) (x1.1 18) 0 0 200)).1 19) 0 0 8)) 20 (va_cpy ((kbA (kbA x1 18 (va_cpy (x1.1 28) (x1.1 18) 0 0 200)) 19 (va_cpy ((kbA x1 18 (va_cpy (x1.1 28) (x1.1 18) 0 0 200)).1 29) ((kbA x1 18 (va_cpy (x1.1 28) (x1.1 18) 0 0 200)).1 19) 0 0 8)).1 30) ((kbA (kbA x1 18 (va_cpy (x1.1 28) (x1.1 18) 0 0 200)) 19 (va_cpy ((kbA x1 18 (va_cpy (x1.1 28) (x1.1 18) 0 0 200)).1 29) ((kbA x1 18 (va_cpy (x1.1 28) (x1.1 18) 0 0 200)).1 19) 0 0 8)).1 20) 0 0 8)) 21 (va_cpy ((kbA (kbA (kbA x1 18 (va_cpy (x1.1 28) (x1.1 18) 0 0 200)) 19 (va_cpy ((kbA x1 18 (va_cpy (x1.1 28) (x1.1 18) 0 0 200)).1 29) ((kbA x1 18 (va_cpy (x1.1 28) (x1.1 18) 0 0 200)).1 19) 0 0 8)) 20 (va_cpy ((kbA (kbA x1 18 (va_cpy (x1.1 28) (x1.1 18) 0 0 200)) 19 (va_cpy ((kbA x1 18 (va_cpy (x1.1 28) (x1.1 18) 0 0 200)).1 29) ((kbA x1 18 (va_cpy (x1.1 28) (x1.1 18) 0 0 200)).1 19) 0 0 8)).1 30) ((kbA (kbA x1 18 (va_cpy (x1.1 28) (x1.1 18) 0 0 200)) 19 (va_cpy ((kbA x1 18 (va_cpy (x1.1 28) (x1.1 18) 0 0 200)).1 29) ((kbA x1 18 (va_cpy (x1.1 28) (x1.1 18) 0 0 200)).1 19) 0 0 8)).1 20) 0 0 8)).1 31) ((kbA (kbA (kbA x1 18 (va_cpy (x1.1 28) (x1.1 18) 0 0 200)) 19 (va_cpy ((kbA x1 18 (va_cpy (x1.1 28) (x1.1 18) 0 0 200)).1 29) ((kbA x1 18 (va_cpy (x1.1 28) (x1.1 18) 0 0 200)).1 19) 0 0 8)) 20 (va_cpy ((kbA (kbA x1 18 (va_cpy (x1.1 28) (x1.1 18) 0 0 200)) 19 (va_cpy ((kbA x1 18 (va_cpy (x1.1 28) (x1.1 18) 0 0 200)).1 29) ((kbA x1 18 (va_cpy (x1.1 28) (x1.1 18) 0 0 200)).1 19) 0 0 8)).1 30) ((kbA (kbA x1 18 (va_cpy (x1.1 28) (x1.1 18) 0 0 200)) 19 (va_cpy ((kbA x1 18 (va_cpy (x1.1 28) (x1.1 18) 0 0 200)).1 29) ((kbA x1 18 (va_cpy (x1.1 28) (x1.1 18) 0 0 200)).1 19) 0 0 8)).1 20) 0 0 8)).1 21) 0 0 3)).1 22 5)).1 22 6)).1 22 7))
theorem sp_ST_copyFrom_12_22 {l : Launch} (μ : kbM)  {x : kbM} (h : f_ST_copyFrom_12_22 μ = some x) : kbS l MX9_copyFrom 2 [.ref 12, .ref 22] μ (kbQe none x) := by
  refine kb_enter 0 rfl rfl ?_
  suffices H : ∀ (Q : kbQt) (P : kbM → Prop), (∀ z : kbM, P z → Q none z) → kbG (f_ST_copyFrom_12_22 μ) P → kbR l MX9_copyFrom 2 Q 0 [some (.ref 12), some (.ref 22)] [] μ from H _ (fun z => z = x) (fun z e => by subst e; exact ⟨rfl, rfl⟩) ⟨x, h, rfl⟩
  clear h
  intro Q P hr h
  unfold f_ST_copyFrom_12_22 at h
  refine r_aload_n dX9_copyFrom_0 rfl ?_
  refine r_getR flX9_12 sh12 rfl dX9_copyFrom_1 ?_
  refine r_aload_n dX9_copyFrom_4 rfl ?_
  refine r_getR flX9_12 sh22 rfl dX9_copyFrom_5 ?_
  obtain ⟨x1, hx0, h⟩ := kbG_bind h
  refine r_invV_v cvX9_31 sh13 rfl (sp_WO_copyFrom_13_23 μ hx0) rfl rfl (Nat.le_of_ble_eq_true rfl) (Nat.le_of_ble_eq_true rfl) dX9_copyFrom_8 ?_
  refine r_aload_n dX9_copyFrom_11 rfl ?_
  refine r_getR flX9_18 sh22 rfl dX9_copyFrom_12 ?_
  refine r_iconst 0 dX9_copyFrom_15 (by decide) ?_
  refine r_aload_n dX9_copyFrom_16 rfl ?_
  refine r_getR flX9_18 sh12 rfl dX9_copyFrom_17 ?_
  refine r_iconst 0 dX9_copyFrom_20 (by decide) ?_
  refine r_aload_n dX9_copyFrom_21 rfl ?_
  refine r_getR flX9_18 sh12 rfl dX9_copyFrom_22 ?_
  refine r_alen 200 sh18 (by decide) (by decide) dX9_copyFrom_25 ?_
  have hcp : kbCp 0 0 200 200 200 = true := by decide
  refine q_copy 0 0 200 (by decide) (by decide) (by decide) mlX9_45 sh28 sh18 hcp (Nat.le_of_ble_eq_true rfl) (Nat.le_of_ble_eq_true rfl) dX9_copyFrom_26 ?_
  refine r_aload_n dX9_copyFrom_29 rfl ?_
  refine r_getR flX9_22 sh22 rfl dX9_copyFrom_30 ?_
  refine r_iconst 0 dX9_copyFrom_33 (by decide) ?_
  refine r_aload_n dX9_copyFrom_34 rfl ?_
  refine r_getR flX9_22 sh12 rfl dX9_copyFrom_35 ?_
  refine r_iconst 0 dX9_copyFrom_38 (by decide) ?_
  refine r_bipush 8 dX9_copyFrom_39 (by decide) ?_
  have hcp : kbCp 0 0 8 8 8 = true := by decide
  refine q_copy 0 0 8 (by decide) (by decide) (by decide) mlX9_45 sh29 sh19 hcp (Nat.le_of_ble_eq_true rfl) (Nat.le_of_ble_eq_true rfl) dX9_copyFrom_41 ?_
  refine r_aload_n dX9_copyFrom_44 rfl ?_
  refine r_getR flX9_25 sh22 rfl dX9_copyFrom_45 ?_
  refine r_iconst 0 dX9_copyFrom_48 (by decide) ?_
  refine r_aload_n dX9_copyFrom_49 rfl ?_
  refine r_getR flX9_25 sh12 rfl dX9_copyFrom_50 ?_
  refine r_iconst 0 dX9_copyFrom_53 (by decide) ?_
  refine r_bipush 8 dX9_copyFrom_54 (by decide) ?_
  have hcp : kbCp 0 0 8 8 8 = true := by decide
  refine q_copy 0 0 8 (by decide) (by decide) (by decide) mlX9_45 sh30 sh20 hcp (Nat.le_of_ble_eq_true rfl) (Nat.le_of_ble_eq_true rfl) dX9_copyFrom_56 ?_
  refine r_aload_n dX9_copyFrom_59 rfl ?_
  refine r_getR flX9_28 sh22 rfl dX9_copyFrom_60 ?_
  refine r_iconst 0 dX9_copyFrom_63 (by decide) ?_
  refine r_aload_n dX9_copyFrom_64 rfl ?_
  refine r_getR flX9_28 sh12 rfl dX9_copyFrom_65 ?_
  refine r_iconst 0 dX9_copyFrom_68 (by decide) ?_
  refine r_aload_n dX9_copyFrom_69 rfl ?_
  refine r_getR flX9_28 sh12 rfl dX9_copyFrom_70 ?_
  refine r_alen 3 sh21 (by decide) (by decide) dX9_copyFrom_73 ?_
  have hcp : kbCp 0 0 3 3 3 = true := by decide
  refine q_copy 0 0 3 (by decide) (by decide) (by decide) mlX9_45 sh31 sh21 hcp (Nat.le_of_ble_eq_true rfl) (Nat.le_of_ble_eq_true rfl) dX9_copyFrom_74 ?_
  refine r_aload_n dX9_copyFrom_77 rfl ?_
  refine r_aload_n dX9_copyFrom_78 rfl ?_
  refine r_getI flX9_35 sh22 rfl dX9_copyFrom_79 ?_
  refine r_put flX9_35 sh12 rfl rfl rfl dX9_copyFrom_82 ?_
  refine r_aload_n dX9_copyFrom_85 rfl ?_
  refine r_aload_n dX9_copyFrom_86 rfl ?_
  refine r_getI flX9_39 sh22 rfl dX9_copyFrom_87 ?_
  refine r_put flX9_39 sh12 rfl rfl rfl dX9_copyFrom_90 ?_
  refine r_aload_n dX9_copyFrom_93 rfl ?_
  refine r_aload_n dX9_copyFrom_94 rfl ?_
  refine r_getI flX9_42 sh22 rfl dX9_copyFrom_95 ?_
  refine r_put flX9_42 sh12 rfl rfl rfl dX9_copyFrom_98 ?_
  exact r_vret rfl dX9_copyFrom_101 (hr (kbW (kbW (kbW (kbA (kbA (kbA (kbA x1 18 (va_cpy (x1.1 28) (x1.1 18) 0 0 200)) 19 (va_cpy ((kbA x1 18 (va_cpy (x1.1 28) (x1.1 18) 0 0 200)).1 29) ((kbA x1 18 (va_cpy (x1.1 28) (x1.1 18) 0 0 200)).1 19) 0 0 8)) 20 (va_cpy ((kbA (kbA x1 18 (va_cpy (x1.1 28) (x1.1 18) 0 0 200)) 19 (va_cpy ((kbA x1 18 (va_cpy (x1.1 28) (x1.1 18) 0 0 200)).1 29) ((kbA x1 18 (va_cpy (x1.1 28) (x1.1 18) 0 0 200)).1 19) 0 0 8)).1 30) ((kbA (kbA x1 18 (va_cpy (x1.1 28) (x1.1 18) 0 0 200)) 19 (va_cpy ((kbA x1 18 (va_cpy (x1.1 28) (x1.1 18) 0 0 200)).1 29) ((kbA x1 18 (va_cpy (x1.1 28) (x1.1 18) 0 0 200)).1 19) 0 0 8)).1 20) 0 0 8)) 21 (va_cpy ((kbA (kbA (kbA x1 18 (va_cpy (x1.1 28) (x1.1 18) 0 0 200)) 19 (va_cpy ((kbA x1 18 (va_cpy (x1.1 28) (x1.1 18) 0 0 200)).1 29) ((kbA x1 18 (va_cpy (x1.1 28) (x1.1 18) 0 0 200)).1 19) 0 0 8)) 20 (va_cpy ((kbA (kbA x1 18 (va_cpy (x1.1 28) (x1.1 18) 0 0 200)) 19 (va_cpy ((kbA x1 18 (va_cpy (x1.1 28) (x1.1 18) 0 0 200)).1 29) ((kbA x1 18 (va_cpy (x1.1 28) (x1.1 18) 0 0 200)).1 19) 0 0 8)).1 30) ((kbA (kbA x1 18 (va_cpy (x1.1 28) (x1.1 18) 0 0 200)) 19 (va_cpy ((kbA x1 18 (va_cpy (x1.1 28) (x1.1 18) 0 0 200)).1 29) ((kbA x1 18 (va_cpy (x1.1 28) (x1.1 18) 0 0 200)).1 19) 0 0 8)).1 20) 0 0 8)).1 31) ((kbA (kbA (kbA x1 18 (va_cpy (x1.1 28) (x1.1 18) 0 0 200)) 19 (va_cpy ((kbA x1 18 (va_cpy (x1.1 28) (x1.1 18) 0 0 200)).1 29) ((kbA x1 18 (va_cpy (x1.1 28) (x1.1 18) 0 0 200)).1 19) 0 0 8)) 20 (va_cpy ((kbA (kbA x1 18 (va_cpy (x1.1 28) (x1.1 18) 0 0 200)) 19 (va_cpy ((kbA x1 18 (va_cpy (x1.1 28) (x1.1 18) 0 0 200)).1 29) ((kbA x1 18 (va_cpy (x1.1 28) (x1.1 18) 0 0 200)).1 19) 0 0 8)).1 30) ((kbA (kbA x1 18 (va_cpy (x1.1 28) (x1.1 18) 0 0 200)) 19 (va_cpy ((kbA x1 18 (va_cpy (x1.1 28) (x1.1 18) 0 0 200)).1 29) ((kbA x1 18 (va_cpy (x1.1 28) (x1.1 18) 0 0 200)).1 19) 0 0 8)).1 20) 0 0 8)).1 21) 0 0 3)) 12 5 ((kbA (kbA (kbA (kbA x1 18 (va_cpy (x1.1 28) (x1.1 18) 0 0 200)) 19 (va_cpy ((kbA x1 18 (va_cpy (x1.1 28) (x1.1 18) 0 0 200)).1 29) ((kbA x1 18 (va_cpy (x1.1 28) (x1.1 18) 0 0 200)).1 19) 0 0 8)) 20 (va_cpy ((kbA (kbA x1 18 (va_cpy (x1.1 28) (x1.1 18) 0 0 200)) 19 (va_cpy ((kbA x1 18 (va_cpy (x1.1 28) (x1.1 18) 0 0 200)).1 29) ((kbA x1 18 (va_cpy (x1.1 28) (x1.1 18) 0 0 200)).1 19) 0 0 8)).1 30) ((kbA (kbA x1 18 (va_cpy (x1.1 28) (x1.1 18) 0 0 200)) 19 (va_cpy ((kbA x1 18 (va_cpy (x1.1 28) (x1.1 18) 0 0 200)).1 29) ((kbA x1 18 (va_cpy (x1.1 28) (x1.1 18) 0 0 200)).1 19) 0 0 8)).1 20) 0 0 8)) 21 (va_cpy ((kbA (kbA (kbA x1 18 (va_cpy (x1.1 28) (x1.1 18) 0 0 200)) 19 (va_cpy ((kbA x1 18 (va_cpy (x1.1 28) (x1.1 18) 0 0 200)).1 29) ((kbA x1 18 (va_cpy (x1.1 28) (x1.1 18) 0 0 200)).1 19) 0 0 8)) 20 (va_cpy ((kbA (kbA x1 18 (va_cpy (x1.1 28) (x1.1 18) 0 0 200)) 19 (va_cpy ((kbA x1 18 (va_cpy (x1.1 28) (x1.1 18) 0 0 200)).1 29) ((kbA x1 18 (va_cpy (x1.1 28) (x1.1 18) 0 0 200)).1 19) 0 0 8)).1 30) ((kbA (kbA x1 18 (va_cpy (x1.1 28) (x1.1 18) 0 0 200)) 19 (va_cpy ((kbA x1 18 (va_cpy (x1.1 28) (x1.1 18) 0 0 200)).1 29) ((kbA x1 18 (va_cpy (x1.1 28) (x1.1 18) 0 0 200)).1 19) 0 0 8)).1 20) 0 0 8)).1 31) ((kbA (kbA (kbA x1 18 (va_cpy (x1.1 28) (x1.1 18) 0 0 200)) 19 (va_cpy ((kbA x1 18 (va_cpy (x1.1 28) (x1.1 18) 0 0 200)).1 29) ((kbA x1 18 (va_cpy (x1.1 28) (x1.1 18) 0 0 200)).1 19) 0 0 8)) 20 (va_cpy ((kbA (kbA x1 18 (va_cpy (x1.1 28) (x1.1 18) 0 0 200)) 19 (va_cpy ((kbA x1 18 (va_cpy (x1.1 28) (x1.1 18) 0 0 200)).1 29) ((kbA x1 18 (va_cpy (x1.1 28) (x1.1 18) 0 0 200)).1 19) 0 0 8)).1 30) ((kbA (kbA x1 18 (va_cpy (x1.1 28) (x1.1 18) 0 0 200)) 19 (va_cpy ((kbA x1 18 (va_cpy (x1.1 28) (x1.1 18) 0 0 200)).1 29) ((kbA x1 18 (va_cpy (x1.1 28) (x1.1 18) 0 0 200)).1 19) 0 0 8)).1 20) 0 0 8)).1 21) 0 0 3)).1 22 5)) 12 6 ((kbW (kbA (kbA (kbA (kbA x1 18 (va_cpy (x1.1 28) (x1.1 18) 0 0 200)) 19 (va_cpy ((kbA x1 18 (va_cpy (x1.1 28) (x1.1 18) 0 0 200)).1 29) ((kbA x1 18 (va_cpy (x1.1 28) (x1.1 18) 0 0 200)).1 19) 0 0 8)) 20 (va_cpy ((kbA (kbA x1 18 (va_cpy (x1.1 28) (x1.1 18) 0 0 200)) 19 (va_cpy ((kbA x1 18 (va_cpy (x1.1 28) (x1.1 18) 0 0 200)).1 29) ((kbA x1 18 (va_cpy (x1.1 28) (x1.1 18) 0 0 200)).1 19) 0 0 8)).1 30) ((kbA (kbA x1 18 (va_cpy (x1.1 28) (x1.1 18) 0 0 200)) 19 (va_cpy ((kbA x1 18 (va_cpy (x1.1 28) (x1.1 18) 0 0 200)).1 29) ((kbA x1 18 (va_cpy (x1.1 28) (x1.1 18) 0 0 200)).1 19) 0 0 8)).1 20) 0 0 8)) 21 (va_cpy ((kbA (kbA (kbA x1 18 (va_cpy (x1.1 28) (x1.1 18) 0 0 200)) 19 (va_cpy ((kbA x1 18 (va_cpy (x1.1 28) (x1.1 18) 0 0 200)).1 29) ((kbA x1 18 (va_cpy (x1.1 28) (x1.1 18) 0 0 200)).1 19) 0 0 8)) 20 (va_cpy ((kbA (kbA x1 18 (va_cpy (x1.1 28) (x1.1 18) 0 0 200)) 19 (va_cpy ((kbA x1 18 (va_cpy (x1.1 28) (x1.1 18) 0 0 200)).1 29) ((kbA x1 18 (va_cpy (x1.1 28) (x1.1 18) 0 0 200)).1 19) 0 0 8)).1 30) ((kbA (kbA x1 18 (va_cpy (x1.1 28) (x1.1 18) 0 0 200)) 19 (va_cpy ((kbA x1 18 (va_cpy (x1.1 28) (x1.1 18) 0 0 200)).1 29) ((kbA x1 18 (va_cpy (x1.1 28) (x1.1 18) 0 0 200)).1 19) 0 0 8)).1 20) 0 0 8)).1 31) ((kbA (kbA (kbA x1 18 (va_cpy (x1.1 28) (x1.1 18) 0 0 200)) 19 (va_cpy ((kbA x1 18 (va_cpy (x1.1 28) (x1.1 18) 0 0 200)).1 29) ((kbA x1 18 (va_cpy (x1.1 28) (x1.1 18) 0 0 200)).1 19) 0 0 8)) 20 (va_cpy ((kbA (kbA x1 18 (va_cpy (x1.1 28) (x1.1 18) 0 0 200)) 19 (va_cpy ((kbA x1 18 (va_cpy (x1.1 28) (x1.1 18) 0 0 200)).1 29) ((kbA x1 18 (va_cpy (x1.1 28) (x1.1 18) 0 0 200)).1 19) 0 0 8)).1 30) ((kbA (kbA x1 18 (va_cpy (x1.1 28) (x1.1 18) 0 0 200)) 19 (va_cpy ((kbA x1 18 (va_cpy (x1.1 28) (x1.1 18) 0 0 200)).1 29) ((kbA x1 18 (va_cpy (x1.1 28) (x1.1 18) 0 0 200)).1 19) 0 0 8)).1 20) 0 0 8)).1 21) 0 0 3)) 12 5 ((kbA (kbA (kbA (kbA x1 18 (va_cpy (x1.1 28) (x1.1 18) 0 0 200)) 19 (va_cpy ((kbA x1 18 (va_cpy (x1.1 28) (x1.1 18) 0 0 200)).1 29) ((kbA x1 18 (va_cpy (x1.1 28) (x1.1 18) 0 0 200)).1 19) 0 0 8)) 20 (va_cpy ((kbA (kbA x1 18 (va_cpy (x1.1 28) (x1.1 18) 0 0 200)) 19 (va_cpy ((kbA x1 18 (va_cpy (x1.1 28) (x1.1 18) 0 0 200)).1 29) ((kbA x1 18 (va_cpy (x1.1 28) (x1.1 18) 0 0 200)).1 19) 0 0 8)).1 30) ((kbA (kbA x1 18 (va_cpy (x1.1 28) (x1.1 18) 0 0 200)) 19 (va_cpy ((kbA x1 18 (va_cpy (x1.1 28) (x1.1 18) 0 0 200)).1 29) ((kbA x1 18 (va_cpy (x1.1 28) (x1.1 18) 0 0 200)).1 19) 0 0 8)).1 20) 0 0 8)) 21 (va_cpy ((kbA (kbA (kbA x1 18 (va_cpy (x1.1 28) (x1.1 18) 0 0 200)) 19 (va_cpy ((kbA x1 18 (va_cpy (x1.1 28) (x1.1 18) 0 0 200)).1 29) ((kbA x1 18 (va_cpy (x1.1 28) (x1.1 18) 0 0 200)).1 19) 0 0 8)) 20 (va_cpy ((kbA (kbA x1 18 (va_cpy (x1.1 28) (x1.1 18) 0 0 200)) 19 (va_cpy ((kbA x1 18 (va_cpy (x1.1 28) (x1.1 18) 0 0 200)).1 29) ((kbA x1 18 (va_cpy (x1.1 28) (x1.1 18) 0 0 200)).1 19) 0 0 8)).1 30) ((kbA (kbA x1 18 (va_cpy (x1.1 28) (x1.1 18) 0 0 200)) 19 (va_cpy ((kbA x1 18 (va_cpy (x1.1 28) (x1.1 18) 0 0 200)).1 29) ((kbA x1 18 (va_cpy (x1.1 28) (x1.1 18) 0 0 200)).1 19) 0 0 8)).1 20) 0 0 8)).1 31) ((kbA (kbA (kbA x1 18 (va_cpy (x1.1 28) (x1.1 18) 0 0 200)) 19 (va_cpy ((kbA x1 18 (va_cpy (x1.1 28) (x1.1 18) 0 0 200)).1 29) ((kbA x1 18 (va_cpy (x1.1 28) (x1.1 18) 0 0 200)).1 19) 0 0 8)) 20 (va_cpy ((kbA (kbA x1 18 (va_cpy (x1.1 28) (x1.1 18) 0 0 200)) 19 (va_cpy ((kbA x1 18 (va_cpy (x1.1 28) (x1.1 18) 0 0 200)).1 29) ((kbA x1 18 (va_cpy (x1.1 28) (x1.1 18) 0 0 200)).1 19) 0 0 8)).1 30) ((kbA (kbA x1 18 (va_cpy (x1.1 28) (x1.1 18) 0 0 200)) 19 (va_cpy ((kbA x1 18 (va_cpy (x1.1 28) (x1.1 18) 0 0 200)).1 29) ((kbA x1 18 (va_cpy (x1.1 28) (x1.1 18) 0 0 200)).1 19) 0 0 8)).1 20) 0 0 8)).1 21) 0 0 3)).1 22 5)).1 22 6)) 12 7 ((kbW (kbW (kbA (kbA (kbA (kbA x1 18 (va_cpy (x1.1 28) (x1.1 18) 0 0 200)) 19 (va_cpy ((kbA x1 18 (va_cpy (x1.1 28) (x1.1 18) 0 0 200)).1 29) ((kbA x1 18 (va_cpy (x1.1 28) (x1.1 18) 0 0 200)).1 19) 0 0 8)) 20 (va_cpy ((kbA (kbA x1 18 (va_cpy (x1.1 28) (x1.1 18) 0 0 200)) 19 (va_cpy ((kbA x1 18 (va_cpy (x1.1 28) (x1.1 18) 0 0 200)).1 29) ((kbA x1 18 (va_cpy (x1.1 28) (x1.1 18) 0 0 200)).1 19) 0 0 8)).1 30) ((kbA (kbA x1 18 (va_cpy (x1.1 28) (x1.1 18) 0 0 200)) 19 (va_cpy ((kbA x1 18 (va_cpy (x1.1 28) (x1.1 18) 0 0 200)).1 29) ((kbA x1 18 (va_cpy (x1.1 28) (x1.1 18) 0 0 200)).1 19) 0 0 8)).1 20) 0 0 8)) 21 (va_cpy ((kbA (kbA (kbA x1 18 (va_cpy (x1.1 28) (x1.1 18) 0 0 200)) 19 (va_cpy ((kbA x1 18 (va_cpy (x1.1 28) (x1.1 18) 0 0 200)).1 29) ((kbA x1 18 (va_cpy (x1.1 28) (x1.1 18) 0 0 200)).1 19) 0 0 8)) 20 (va_cpy ((kbA (kbA x1 18 (va_cpy (x1.1 28) (x1.1 18) 0 0 200)) 19 (va_cpy ((kbA x1 18 (va_cpy (x1.1 28) (x1.1 18) 0 0 200)).1 29) ((kbA x1 18 (va_cpy (x1.1 28) (x1.1 18) 0 0 200)).1 19) 0 0 8)).1 30) ((kbA (kbA x1 18 (va_cpy (x1.1 28) (x1.1 18) 0 0 200)) 19 (va_cpy ((kbA x1 18 (va_cpy (x1.1 28) (x1.1 18) 0 0 200)).1 29) ((kbA x1 18 (va_cpy (x1.1 28) (x1.1 18) 0 0 200)).1 19) 0 0 8)).1 20) 0 0 8)).1 31) ((kbA (kbA (kbA x1 18 (va_cpy (x1.1 28) (x1.1 18) 0 0 200)) 19 (va_cpy ((kbA x1 18 (va_cpy (x1.1 28) (x1.1 18) 0 0 200)).1 29) ((kbA x1 18 (va_cpy (x1.1 28) (x1.1 18) 0 0 200)).1 19) 0 0 8)) 20 (va_cpy ((kbA (kbA x1 18 (va_cpy (x1.1 28) (x1.1 18) 0 0 200)) 19 (va_cpy ((kbA x1 18 (va_cpy (x1.1 28) (x1.1 18) 0 0 200)).1 29) ((kbA x1 18 (va_cpy (x1.1 28) (x1.1 18) 0 0 200)).1 19) 0 0 8)).1 30) ((kbA (kbA x1 18 (va_cpy (x1.1 28) (x1.1 18) 0 0 200)) 19 (va_cpy ((kbA x1 18 (va_cpy (x1.1 28) (x1.1 18) 0 0 200)).1 29) ((kbA x1 18 (va_cpy (x1.1 28) (x1.1 18) 0 0 200)).1 19) 0 0 8)).1 20) 0 0 8)).1 21) 0 0 3)) 12 5 ((kbA (kbA (kbA (kbA x1 18 (va_cpy (x1.1 28) (x1.1 18) 0 0 200)) 19 (va_cpy ((kbA x1 18 (va_cpy (x1.1 28) (x1.1 18) 0 0 200)).1 29) ((kbA x1 18 (va_cpy (x1.1 28) (x1.1 18) 0 0 200)).1 19) 0 0 8)) 20 (va_cpy ((kbA (kbA x1 18 (va_cpy (x1.1 28) (x1.1 18) 0 0 200)) 19 (va_cpy ((kbA x1 18 (va_cpy (x1.1 28) (x1.1 18) 0 0 200)).1 29) ((kbA x1 18 (va_cpy (x1.1 28) (x1.1 18) 0 0 200)).1 19) 0 0 8)).1 30) ((kbA (kbA x1 18 (va_cpy (x1.1 28) (x1.1 18) 0 0 200)) 19 (va_cpy ((kbA x1 18 (va_cpy (x1.1 28) (x1.1 18) 0 0 200)).1 29) ((kbA x1 18 (va_cpy (x1.1 28) (x1.1 18) 0 0 200)).1 19) 0 0 8)).1 20) 0 0 8)) 21 (va_cpy ((kbA (kbA (kbA x1 18 (va_cpy (x1.1 28) (x1.1 18) 0 0 200)) 19 (va_cpy ((kbA x1 18 (va_cpy (x1.1 28) (x1.1 18) 0 0 200)).1 29) ((kbA x1 18 (va_cpy (x1.1 28) (x1.1 18) 0 0 200)).1 19) 0 0 8)) 20 (va_cpy ((kbA (kbA x1 18 (va_cpy (x1.1 28) (x1.1 18) 0 0 200)) 19 (va_cpy ((kbA x1 18 (va_cpy (x1.1 28) (x1.1 18) 0 0 200)).1 29) ((kbA x1 18 (va_cpy (x1.1 28) (x1.1 18) 0 0 200)).1 19) 0 0 8)).1 30) ((kbA (kbA x1 18 (va_cpy (x1.1 28) (x1.1 18) 0 0 200)) 19 (va_cpy ((kbA x1 18 (va_cpy (x1.1 28) (x1.1 18) 0 0 200)).1 29) ((kbA x1 18 (va_cpy (x1.1 28) (x1.1 18) 0 0 200)).1 19) 0 0 8)).1 20) 0 0 8)).1 31) ((kbA (kbA (kbA x1 18 (va_cpy (x1.1 28) (x1.1 18) 0 0 200)) 19 (va_cpy ((kbA x1 18 (va_cpy (x1.1 28) (x1.1 18) 0 0 200)).1 29) ((kbA x1 18 (va_cpy (x1.1 28) (x1.1 18) 0 0 200)).1 19) 0 0 8)) 20 (va_cpy ((kbA (kbA x1 18 (va_cpy (x1.1 28) (x1.1 18) 0 0 200)) 19 (va_cpy ((kbA x1 18 (va_cpy (x1.1 28) (x1.1 18) 0 0 200)).1 29) ((kbA x1 18 (va_cpy (x1.1 28) (x1.1 18) 0 0 200)).1 19) 0 0 8)).1 30) ((kbA (kbA x1 18 (va_cpy (x1.1 28) (x1.1 18) 0 0 200)) 19 (va_cpy ((kbA x1 18 (va_cpy (x1.1 28) (x1.1 18) 0 0 200)).1 29) ((kbA x1 18 (va_cpy (x1.1 28) (x1.1 18) 0 0 200)).1 19) 0 0 8)).1 20) 0 0 8)).1 21) 0 0 3)).1 22 5)) 12 6 ((kbW (kbA (kbA (kbA (kbA x1 18 (va_cpy (x1.1 28) (x1.1 18) 0 0 200)) 19 (va_cpy ((kbA x1 18 (va_cpy (x1.1 28) (x1.1 18) 0 0 200)).1 29) ((kbA x1 18 (va_cpy (x1.1 28) (x1.1 18) 0 0 200)).1 19) 0 0 8)) 20 (va_cpy ((kbA (kbA x1 18 (va_cpy (x1.1 28) (x1.1 18) 0 0 200)) 19 (va_cpy ((kbA x1 18 (va_cpy (x1.1 28) (x1.1 18) 0 0 200)).1 29) ((kbA x1 18 (va_cpy (x1.1 28) (x1.1 18) 0 0 200)).1 19) 0 0 8)).1 30) ((kbA (kbA x1 18 (va_cpy (x1.1 28) (x1.1 18) 0 0 200)) 19 (va_cpy ((kbA x1 18 (va_cpy (x1.1 28) (x1.1 18) 0 0 200)).1 29) ((kbA x1 18 (va_cpy (x1.1 28) (x1.1 18) 0 0 200)).1 19) 0 0 8)).1 20) 0 0 8)) 21 (va_cpy ((kbA (kbA (kbA x1 18 (va_cpy (x1.1 28) (x1.1 18) 0 0 200)) 19 (va_cpy ((kbA x1 18 (va_cpy (x1.1 28) (x1.1 18) 0 0 200)).1 29) ((kbA x1 18 (va_cpy (x1.1 28) (x1.1 18) 0 0 200)).1 19) 0 0 8)) 20 (va_cpy ((kbA (kbA x1 18 (va_cpy (x1.1 28) (x1.1 18) 0 0 200)) 19 (va_cpy ((kbA x1 18 (va_cpy (x1.1 28) (x1.1 18) 0 0 200)).1 29) ((kbA x1 18 (va_cpy (x1.1 28) (x1.1 18) 0 0 200)).1 19) 0 0 8)).1 30) ((kbA (kbA x1 18 (va_cpy (x1.1 28) (x1.1 18) 0 0 200)) 19 (va_cpy ((kbA x1 18 (va_cpy (x1.1 28) (x1.1 18) 0 0 200)).1 29) ((kbA x1 18 (va_cpy (x1.1 28) (x1.1 18) 0 0 200)).1 19) 0 0 8)).1 20) 0 0 8)).1 31) ((kbA (kbA (kbA x1 18 (va_cpy (x1.1 28) (x1.1 18) 0 0 200)) 19 (va_cpy ((kbA x1 18 (va_cpy (x1.1 28) (x1.1 18) 0 0 200)).1 29) ((kbA x1 18 (va_cpy (x1.1 28) (x1.1 18) 0 0 200)).1 19) 0 0 8)) 20 (va_cpy ((kbA (kbA x1 18 (va_cpy (x1.1 28) (x1.1 18) 0 0 200)) 19 (va_cpy ((kbA x1 18 (va_cpy (x1.1 28) (x1.1 18) 0 0 200)).1 29) ((kbA x1 18 (va_cpy (x1.1 28) (x1.1 18) 0 0 200)).1 19) 0 0 8)).1 30) ((kbA (kbA x1 18 (va_cpy (x1.1 28) (x1.1 18) 0 0 200)) 19 (va_cpy ((kbA x1 18 (va_cpy (x1.1 28) (x1.1 18) 0 0 200)).1 29) ((kbA x1 18 (va_cpy (x1.1 28) (x1.1 18) 0 0 200)).1 19) 0 0 8)).1 20) 0 0 8)).1 21) 0 0 3)) 12 5 ((kbA (kbA (kbA (kbA x1 18 (va_cpy (x1.1 28) (x1.1 18) 0 0 200)) 19 (va_cpy ((kbA x1 18 (va_cpy (x1.1 28) (x1.1 18) 0 0 200)).1 29) ((kbA x1 18 (va_cpy (x1.1 28) (x1.1 18) 0 0 200)).1 19) 0 0 8)) 20 (va_cpy ((kbA (kbA x1 18 (va_cpy (x1.1 28) (x1.1 18) 0 0 200)) 19 (va_cpy ((kbA x1 18 (va_cpy (x1.1 28) (x1.1 18) 0 0 200)).1 29) ((kbA x1 18 (va_cpy (x1.1 28) (x1.1 18) 0 0 200)).1 19) 0 0 8)).1 30) ((kbA (kbA x1 18 (va_cpy (x1.1 28) (x1.1 18) 0 0 200)) 19 (va_cpy ((kbA x1 18 (va_cpy (x1.1 28) (x1.1 18) 0 0 200)).1 29) ((kbA x1 18 (va_cpy (x1.1 28) (x1.1 18) 0 0 200)).1 19) 0 0 8)).1 20) 0 0 8)) 21 (va_cpy ((kbA (kbA (kbA x1 18 (va_cpy (x1.1 28) (x1.1 18) 0 0 200)) 19 (va_cpy ((kbA x1 18 (va_cpy (x1.1 28) (x1.1 18) 0 0 200)).1 29) ((kbA x1 18 (va_cpy (x1.1 28) (x1.1 18) 0 0 200)).1 19) 0 0 8)) 20 (va_cpy ((kbA (kbA x1 18 (va_cpy (x1.1 28) (x1.1 18) 0 0 200)) 19 (va_cpy ((kbA x1 18 (va_cpy (x1.1 28) (x1.1 18) 0 0 200)).1 29) ((kbA x1 18 (va_cpy (x1.1 28) (x1.1 18) 0 0 200)).1 19) 0 0 8)).1 30) ((kbA (kbA x1 18 (va_cpy (x1.1 28) (x1.1 18) 0 0 200)) 19 (va_cpy ((kbA x1 18 (va_cpy (x1.1 28) (x1.1 18) 0 0 200)).1 29) ((kbA x1 18 (va_cpy (x1.1 28) (x1.1 18) 0 0 200)).1 19) 0 0 8)).1 20) 0 0 8)).1 31) ((kbA (kbA (kbA x1 18 (va_cpy (x1.1 28) (x1.1 18) 0 0 200)) 19 (va_cpy ((kbA x1 18 (va_cpy (x1.1 28) (x1.1 18) 0 0 200)).1 29) ((kbA x1 18 (va_cpy (x1.1 28) (x1.1 18) 0 0 200)).1 19) 0 0 8)) 20 (va_cpy ((kbA (kbA x1 18 (va_cpy (x1.1 28) (x1.1 18) 0 0 200)) 19 (va_cpy ((kbA x1 18 (va_cpy (x1.1 28) (x1.1 18) 0 0 200)).1 29) ((kbA x1 18 (va_cpy (x1.1 28) (x1.1 18) 0 0 200)).1 19) 0 0 8)).1 30) ((kbA (kbA x1 18 (va_cpy (x1.1 28) (x1.1 18) 0 0 200)) 19 (va_cpy ((kbA x1 18 (va_cpy (x1.1 28) (x1.1 18) 0 0 200)).1 29) ((kbA x1 18 (va_cpy (x1.1 28) (x1.1 18) 0 0 200)).1 19) 0 0 8)).1 20) 0 0 8)).1 21) 0 0 3)).1 22 5)).1 22 6)).1 22 7)) (kbG_some h))
def f_ST_copyFrom_22_12 (μ : kbM) : Option (kbM) :=
  (f_WO_copyFrom_23_13 μ).bind fun x1 =>
  some (kbW (kbW (kbW (kbA (kbA (kbA (kbA x1 28 (va_cpy (x1.1 18) (x1.1 28) 0 0 200)) 29 (va_cpy ((kbA x1 28 (va_cpy (x1.1 18) (x1.1 28) 0 0 200)).1 19) ((kbA x1 28 (va_cpy (x1.1 18) (x1.1 28) 0 0 200)).1 29) 0 0 8)) 30 (va_cpy ((kbA (kbA x1 28 (va_cpy (x1.1 18) (x1.1 28) 0 0 200)) 29 (va_cpy ((kbA x1 28 (va_cpy (x1.1 18) (x1.1 28) 0 0 200)).1 19) ((kbA x1 28 (va_cpy (x1.1 18) (x1.1 28) 0 0 200)).1 29) 0 0 8)).1 20) ((kbA (kbA x1 28 (va_cpy (x1.1 18) (x1.1 28) 0 0 200)) 29 (va_cpy ((kbA x1 28 (va_cpy (x1.1 18) (x1.1 28) 0 0 200)).1 19) ((kbA x1 28 (va_cpy (x1.1 18) (x1.1 28) 0 0 200)).1 29) 0 0 8)).1 30) 0 0 8)) 31 (va_cpy ((kbA (kbA (kbA x1 28 (va_cpy (x1.1 18) (x1.1 28) 0 0 200)) 29 (va_cpy ((kbA x1 28 (va_cpy (x1.1 18) (x1.1 28) 0 0 200)).1 19) ((kbA x1 28 (va_cpy (x1.1 18) (x1.1 28) 0 0 200)).1 29) 0 0 8)) 30 (va_cpy ((kbA (kbA x1 28 (va_cpy (x1.1 18) (x1.1 28) 0 0 200)) 29 (va_cpy ((kbA x1 28 (va_cpy (x1.1 18) (x1.1 28) 0 0 200)).1 19) ((kbA x1 28 (va_cpy (x1.1 18) (x1.1 28) 0 0 200)).1 29) 0 0 8)).1 20) ((kbA (kbA x1 28 (va_cpy (x1.1 18) (x1.1 28) 0 0 200)) 29 (va_cpy ((kbA x1 28 (va_cpy (x1.1 18) (x1.1 28) 0 0 200)).1 19) ((kbA x1 28 (va_cpy (x1.1 18) (x1.1 28) 0 0 200)).1 29) 0 0 8)).1 30) 0 0 8)).1 21) ((kbA (kbA (kbA x1 28 (va_cpy (x1.1 18) (x1.1 28) 0 0 200)) 29 (va_cpy ((kbA x1 28 (va_cpy (x1.1 18) (x1.1 28) 0 0 200)).1 19) ((kbA x1 28 (va_cpy (x1.1 18) (x1.1 28) 0 0 200)).1 29) 0 0 8)) 30 (va_cpy ((kbA (kbA x1 28 (va_cpy (x1.1 18) (x1.1 28) 0 0 200)) 29 (va_cpy ((kbA x1 28 (va_cpy (x1.1 18) (x1.1 28) 0 0 200)).1 19) ((kbA x1 28 (va_cpy (x1.1 18) (x1.1 28) 0 0 200)).1 29) 0 0 8)).1 20) ((kbA (kbA x1 28 (va_cpy (x1.1 18) (x1.1 28) 0 0 200)) 29 (va_cpy ((kbA x1 28 (va_cpy (x1.1 18) (x1.1 28) 0 0 200)).1 19) ((kbA x1 28 (va_cpy (x1.1 18) (x1.1 28) 0 0 200)).1 29) 0 0 8)).1 30) 0 0 8)).1 31) 0 0 3)) 22 5 ((kbA (kbA (kbA (kbA x1 28 (va_cpy (x1.1 18) (x1.1 28) 0 0 200)) 29 (va_cpy ((kbA x1 28 (va_cpy (x1.1 18) (x1.1 28) 0 0 200)).1 19) ((kbA x1 28 (va_cpy (x1.1 18) (x1.1 28) 0 0 200)).1 29) 0 0 8)) 30 (va_cpy ((kbA (kbA x1 28 (va_cpy (x1.1 18) (x1.1 28) 0 0 200)) 29 (va_cpy ((kbA x1 28 (va_cpy (x1.1 18) (x1.1 28) 0 0 200)).1 19) ((kbA x1 28 (va_cpy (x1.1 18) (x1.1 28) 0 0 200)).1 29) 0 0 8)).1 20) ((kbA (kbA x1 28 (va_cpy (x1.1 18) (x1.1 28) 0 0 200)) 29 (va_cpy ((kbA x1 28 (va_cpy (x1.1 18) (x1.1 28) 0 0 200)).1 19) ((kbA x1 28 (va_cpy (x1.1 18) (x1.1 28) 0 0 200)).1 29) 0 0 8)).1 30) 0 0 8)) 31 (va_cpy ((kbA (kbA (kbA x1 28 (va_cpy (x1.1 18) (x1.1 28) 0 0 200)) 29 (va_cpy ((kbA x1 28 (va_cpy (x1.1 18) (x1.1 28) 0 0 200)).1 19) ((kbA x1 28 (va_cpy (x1.1 18) (x1.1 28) 0 0 200)).1 29) 0 0 8)) 30 (va_cpy ((kbA (kbA x1 28 (va_cpy (x1.1 18) (x1.1 28) 0 0 200)) 29 (va_cpy ((kbA x1 28 (va_cpy (x1.1 18) (x1.1 28) 0 0 200)).1 19) ((kbA x1 28 (va_cpy (x1.1 18) (x1.1 28) 0 0 200)).1 29) 0 0 8)).1 20) ((kbA (kbA x1 28 (va_cpy (x1.1 18) (x1.1 28) 0 0 200)) 29 (va_cpy ((kbA x1 28 (va_cpy (x1.1 18) (x1.1 28) 0 0 200)).1 19) ((kbA x1 28 (va_cpy (x1.1 18) (x1.1 28) 0 0 200)).1 29) 0 0 8)).1 30) 0 0 8)).1 21) ((kbA (kbA (kbA x1 28 (va_cpy (x1.1 18) (x1.1 28) 0 0 200)) 29 (va_cpy ((kbA x1 28 (va_cpy (x1.1 18) (x1.1 28) 0 0 200)).1 19) ((kbA x1 28 (va_cpy (x1.1 18) (x1.1 28) 0 0 200)).1 29) 0 0 8)) 30 (va_cpy ((kbA (kbA x1 28 (va_cpy (x1.1 18) (x1.1 28) 0 0 200)) 29 (va_cpy ((kbA x1 28 (va_cpy (x1.1 18) (x1.1 28) 0 0 200)).1 19) ((kbA x1 28 (va_cpy (x1.1 18) (x1.1 28) 0 0 200)).1 29) 0 0 8)).1 20) ((kbA (kbA x1 28 (va_cpy (x1.1 18) (x1.1 28) 0 0 200)) 29 (va_cpy ((kbA x1 28 (va_cpy (x1.1 18) (x1.1 28) 0 0 200)).1 19) ((kbA x1 28 (va_cpy (x1.1 18) (x1.1 28) 0 0 200)).1 29) 0 0 8)).1 30) 0 0 8)).1 31) 0 0 3)).1 12 5)) 22 6 ((kbW (kbA (kbA (kbA (kbA x1 28 (va_cpy (x1.1 18) (x1.1 28) 0 0 200)) 29 (va_cpy ((kbA x1 28 (va_cpy (x1.1 18) (x1.1 28) 0 0 200)).1 19) ((kbA x1 28 (va_cpy (x1.1 18) (x1.1 28) 0 0 200)).1 29) 0 0 8)) 30 (va_cpy ((kbA (kbA x1 28 (va_cpy (x1.1 18) (x1.1 28) 0 0 200)) 29 (va_cpy ((kbA x1 28 (va_cpy (x1.1 18) (x1.1 28) 0 0 200)).1 19) ((kbA x1 28 (va_cpy (x1.1 18) (x1.1 28) 0 0 200)).1 29) 0 0 8)).1 20) ((kbA (kbA x1 28 (va_cpy (x1.1 18) (x1.1 28) 0 0 200)) 29 (va_cpy ((kbA x1 28 (va_cpy (x1.1 18) (x1.1 28) 0 0 200)).1 19) ((kbA x1 28 (va_cpy (x1.1 18) (x1.1 28) 0 0 200)).1 29) 0 0 8)).1 30) 0 0 8)) 31 (va_cpy ((kbA (kbA (kbA x1 28 (va_cpy (x1.1 18) (x1.1 28) 0 0 200)) 29 (va_cpy ((kbA x1 28 (va_cpy (x1.1 18) (x1.1 28) 0 0 200)).1 19) ((kbA x1 28 (va_cpy (x1.1 18) (x1.1 28) 0 0 200)).1 29) 0 0 8)) 30 (va_cpy ((kbA (kbA x1 28 (va_cpy (x1.1 18) (x1.1 28) 0 0 200)) 29 (va_cpy ((kbA x1 28 (va_cpy (x1.1 18) (x1.1 28) 0 0 200)).1 19) ((kbA x1 28 (va_cpy (x1.1 18) (x1.1 28) 0 0 200)).1 29) 0 0 8)).1 20) ((kbA (kbA x1 28 (va_cpy (x1.1 18) (x1.1 28) 0 0 200)) 29 (va_cpy ((kbA x1 28 (va_cpy (x1.1 18) (x1.1 28) 0 0 200)).1 19) ((kbA x1 28 (va_cpy (x1.1 18) (x1.1 28) 0 0 200)).1 29) 0 0 8)).1 30) 0 0 8)).1 21) ((kbA (kbA (kbA x1 28 (va_cpy (x1.1 18) (x1.1 28) 0 0 200)) 29 (va_cpy ((kbA x1 28 (va_cpy (x1.1 18) (x1.1 28) 0 0 200)).1 19) ((kbA x1 28 (va_cpy (x1.1 18) (x1.1 28) 0 0 200)).1 29) 0 0 8)) 30 (va_cpy ((kbA (kbA x1 28 (va_cpy (x1.1 18) (x1.1 28) 0 0 200)) 29 (va_cpy ((kbA x1 28 (va_cpy (x1.1 18) (x1.1 28) 0 0 200)).1 19) ((kbA x1 28 (va_cpy (x1.1 18) (x1.1 28) 0 0 200)).1 29) 0 0 8)).1 20) ((kbA (kbA x1 28 (va_cpy (x1.1 18) (x1.1 28) 0 0 200)) 29 (va_cpy ((kbA x1 28 (va_cpy (x1.1 18) (x1.1 28) 0 0 200)).1 19) ((kbA x1 28 (va_cpy (x1.1 18) (x1.1 28) 0 0 200)).1 29) 0 0 8)).1 30) 0 0 8)).1 31) 0 0 3)) 22 5 ((kbA (kbA (kbA (kbA x1 28 (va_cpy (x1.1 18) (x1.1 28) 0 0 200)) 29 (va_cpy ((kbA x1 28 (va_cpy (x1.1 18) (x1.1 28) 0 0 200)).1 19) ((kbA x1 28 (va_cpy (x1.1 18) (x1.1 28) 0 0 200)).1 29) 0 0 8)) 30 (va_cpy ((kbA (kbA x1 28 (va_cpy (x1.1 18) (x1.1 28) 0 0 200)) 29 (va_cpy ((kbA x1 28 (va_cpy (x1.1 18) (x1.1 28) 0 0 200)).1 19) ((kbA x1 28 (va_cpy (x1.1 18) (x1.1 28) 0 0 200)).1 29) 0 0 8)).1 20) ((kbA (kbA x1 28 (va_cpy (x1.1 18) (x1.1 28) 0 0 200)) 29 (va_cpy ((kbA x1 28 (va_cpy (x1.1 18) (x1.1 28) 0 0 200)).1 19) ((kbA x1 28 (va_cpy (x1.1 18) (x1.1 28) 0 0 200)).1 29) 0 0 8)).1 30) 0 0 8)) 31 (va_cpy ((kbA (kbA (kbA x1 28 (va_cpy (x1.1 18) (x1.1 28) 0 0 200)) 29 (va_cpy ((kbA x1 28 (va_cpy (x1.1 18) (x1.1 28) 0 0 200)).1 19) ((kbA x1 28 (va_cpy (x1.1 18) (x1.1 28) 0 0 200)).1 29) 0 0 8)) 30 (va_cpy ((kbA (kbA x1 28 (va_cpy (x1.1 18) (x1.1 28) 0 0 200)) 29 (va_cpy ((kbA x1 28 (va_cpy (x1.1 18) (x1.1 28) 0 0 200)).1 19) ((kbA x1 28 (va_cpy (x1.1 18) (x1.1 28) 0 0 200)).1 29) 0 0 8)).1 20) ((kbA (kbA x1 28 (va_cpy (x1.1 18) (x1.1 28) 0 0 200)) 29 (va_cpy ((kbA x1 28 (va_cpy (x1.1 18) (x1.1 28) 0 0 200)).1 19) ((kbA x1 28 (va_cpy (x1.1 18) (x1.1 28) 0 0 200)).1 29) 0 0 8)).1 30) 0 0 8)).1 21) ((kbA (kbA (kbA x1 28 (va_cpy (x1.1 18) (x1.1 28) 0 0 200)) 29 (va_cpy ((kbA x1 28 (va_cpy (x1.1 18) (x1.1 28) 0 0 200)).1 19) ((kbA x1 28 (va_cpy (x1.1 18) (x1.1 28) 0 0 200)).1 29) 0 0 8)) 30 (va_cpy ((kbA (kbA x1 28 (va_cpy (x1.1 18) (x1.1 28) 0 0 200)) 29 (va_cpy ((kbA x1 28 (va_cpy (x1.1 18) (x1.1 28) 0 0 200)).1 19) ((kbA x1 28 (va_cpy (x1.1 18) (x1.1 28) 0 0 200)).1 29) 0 0 8)).1 20) ((kbA (kbA x1 28 (va_cpy (x1.1 18) (x1.1 28) 0 0 200)) 29 (va_cpy ((kbA x1 28 (va_cpy (x1.1 18) (x1.1 28) 0 0 200)).1 19) ((kbA x1 28 (va_cpy (x1.1 18) (x1.1 28) 0 0 200)).1 29) 0 0 8)).1 30) 0 0 8)).1 31) 0 0 3)).1 12 5)).1 12 6)) 22 7 ((kbW (kbW (kbA (kbA (kbA (kbA x1 28 (va_cpy (x1.1 18) (x1.1 28) 0 0 200)) 29 (va_cpy ((kbA x1 28 (va_cpy (x1.1 18) (x1.1 28) 0 0 200)).1 19) ((kbA x1 28 (va_cpy (x1.1 18) (x1.1 28) 0 0 200)).1 29) 0 0 8)) 30 (va_cpy ((kbA (kbA x1 28 (va_cpy (x1.1 18) (x1.1 28) 0 0 200)) 29 (va_cpy ((kbA x1 28 (va_cpy (x1.1 18) (x1.1 28) 0 0 200)).1 19) ((kbA x1 28 (va_cpy (x1.1 18) (x1.1 28) 0 0 200)).1 29) 0 0 8)).1 20) ((kbA (kbA x1 28 (va_cpy (x1.1 18) (x1.1 28) 0 0 200)) 29 (va_cpy ((kbA x1 28 (va_cpy (x1.1 18) (x1.1 28) 0 0 200)).1 19) ((kbA x1 28 (va_cpy (x1.1 18) (x1.1 28) 0 0 200)).1 29) 0 0 8)).1 30) 0 0 8)) 31 (va_cpy ((kbA (kbA (kbA x1 28 (va_cpy (x1.1 18) (x1.1 28) 0 0 200)) 29 (va_cpy ((kbA x1 28 (va_cpy (x1.1 18) (x1.1 28) 0 0 200)).1 19) ((kbA x1 28 (va_cpy (x1.1 18) (x1.1 28) 0 0 200)).1 29) 0 0 8)) 30 (va_cpy ((kbA (kbA x1 28 (va_cpy (x1.1 18) (x1.1 28) 0 0 200)) 29 (va_cpy ((kbA x1 28 (va_cpy (x1.1 18) (x1.1 28) 0 0 200)).1 19) ((kbA x1 28 (va_cpy (x1.1 18) (x1.1 28) 0 0 200)).1 29) 0 0 8)).1 20) ((kbA (kbA x1 28 (va_cpy (x1.1 18) (x1.1 28) 0 0 200)) 29 (va_cpy ((kbA x1 28 (va_cpy (x1.1 18) (x1.1 28) 0 0 200)).1 19) ((kbA x1 28 (va_cpy (x1.1 18) (x1.1 28) 0 0 200)).1 29) 0 0 8)).1 30) 0 0 8)).1 21) ((kbA (kbA (kbA x1 28 (va_cpy (x1.1 18) (x1.1 28) 0 0 200)) 29 (va_cpy ((kbA x1 28 (va_cpy (x1.1 18) (x1.1 28) 0 0 200)).1 19) ((kbA x1 28 (va_cpy (x1.1 18) (x1.1 28) 0 0 200)).1 29) 0 0 8)) 30 (va_cpy ((kbA (kbA x1 28 (va_cpy (x1.1 18) (x1.1 28) 0 0 200)) 29 (va_cpy ((kbA x1 28 (va_cpy (x1.1 18) (x1.1 28) 0 0 200)).1 19) ((kbA x1 28 (va_cpy (x1.1 18) (x1.1 28) 0 0 200)).1 29) 0 0 8)).1 20) ((kbA (kbA x1 28 (va_cpy (x1.1 18) (x1.1 28) 0 0 200)) 29 (va_cpy ((kbA x1 28 (va_cpy (x1.1 18) (x1.1 28) 0 0 200)).1 19) ((kbA x1 28 (va_cpy (x1.1 18) (x1.1 28) 0 0 200)).1 29) 0 0 8)).1 30) 0 0 8)).1 31) 0 0 3)) 22 5 ((kbA (kbA (kbA (kbA x1 28 (va_cpy (x1.1 18) (x1.1 28) 0 0 200)) 29 (va_cpy ((kbA x1 28 (va_cpy (x1.1 18) (x1.1 28) 0 0 200)).1 19) ((kbA x1 28 (va_cpy (x1.1 18) (x1.1 28) 0 0 200)).1 29) 0 0 8)) 30 (va_cpy ((kbA (kbA x1 28 (va_cpy (x1.1 18) (x1.1 28) 0 0 200)) 29 (va_cpy ((kbA x1 28 (va_cpy (x1.1 18) (x1.1 28) 0 0 200)).1 19) ((kbA x1 28 (va_cpy (x1.1 18) (x1.1 28) 0 0 200)).1 29) 0 0 8)).1 20) ((kbA (kbA x1 28 (va_cpy (x1.1 18) (x1.1 28) 0 0 200)) 29 (va_cpy ((kbA x1 28 (va_cpy (x1.1 18) (x1.1 28) 0 0 200)).1 19) ((kbA x1 28 (va_cpy (x1.1 18) (x1.1 28) 0 0 200)).1 29) 0 0 8)).1 30) 0 0 8)) 31 (va_cpy ((kbA (kbA (kbA x1 28 (va_cpy (x1.1 18) (x1.1 28) 0 0 200)) 29 (va_cpy ((kbA x1 28 (va_cpy (x1.1 18) (x1.1 28) 0 0 200)).1 19) ((kbA x1 28 (va_cpy (x1.1 18) (x1.1 28) 0 0 200)).1 29) 0 0 8)) 30 (va_cpy ((kbA (kbA x1 28 (va_cpy (x1.1 18) (x1.1 28) 0 0 200)) 29 (va_cpy ((kbA x1 28 (va_cpy (x1.1 18) (x1.1 28) 0 0 200)).1 19) ((kbA x1 28 (va_cpy (x1.1 18) (x1.1 28) 0 0 200)).1 29) 0 0 8)).1 20) ((kbA (kbA x1 28 (va_cpy (x1.1 18) (x1.1 28) 0 0 200)) 29 (va_cpy ((kbA x1 28 (va_cpy (x1.1 18) (x1.1 28) 0 0 200)).1 19) ((kbA x1 28 (va_cpy (x1.1 18) (x1.1 28) 0 0 200)).1 29) 0 0 8)).1 30) 0 0 8)).1 21) ((kbA (kbA (kbA x1 28 (va_cpy (x1.1 18) (x1.1 28) 0 0 200)) 29 (va_cpy ((kbA x1 28 (va_cpy (x1.1 18) (x1.1 28) 0 0 200)).1 19) ((kbA x1 28 (va_cpy (x1.1 18) (x1.1 28) 0 0 200)).1 29) 0 0 8)) 30 (va_cpy ((kbA (kbA x1 28 (va_cpy (x1.1 18) (x1.1 28) 0 0 200)) 29 (va_cpy ((kbA x1 28 (va_cpy (x1.1 18) (x1.1 28) 0 0 200)).1 19) ((kbA x1 28 (va_cpy (x1.1 18) (x1.1 28) 0 0 200)).1 29) 0 0 8)).1 20) ((kbA (kbA x1 28 (va_cpy (x1.1 18) (x1.1 28) 0 0 200)) 29 (va_cpy ((kbA x1 28 (va_cpy (x1.1 18) (x1.1 28) 0 0 200)).1 19) ((kbA x1 28 (va_cpy (x1.1 18) (x1.1 28) 0 0 200)).1 29) 0 0 8)).1 30) 0 0 8)).1 31) 0 0 3)).1 12 5)) 22 6 ((kbW (kbA (kbA (kbA (kbA x1 28 (va_cpy (x1.1 18) (x1.1 28) 0 0 200)) 29 (va_cpy ((kbA x1 28 (va_cpy (x1.1 18) (x1.1 28) 0 0 200)).1 19) ((kbA x1 28 (va_cpy (x1.1 18) (x1.1 28) 0 0 200)).1 29) 0 0 8)) 30 (va_cpy ((kbA (kbA x1 28 (va_cpy (x1.1 18) (x1.1 28) 0 0 200)) 29 (va_cpy ((kbA x1 28 (va_cpy (x1.1 18) (x1.1 28) 0 0 200)).1 19) ((kbA x1 28 (va_cpy (x1.1 18) (x1.1 28) 0 0 200)).1 29) 0 0 8)).1 20) ((kbA (kbA x1 28 (va_cpy (x1.1 18) (x1.1 28) 0 0 200)) 29 (va_cpy ((kbA x1 28 (va_cpy (x1.1 18) (x1.1 28) 0 0 200)).1 19) ((kbA x1 28 (va_cpy (x1.1 18) (x1.1 28) 0 0 200)).1 29) 0 0 8)).1 30) 0 0 8)) 31 (va_cpy ((kbA (kbA (kbA x1 28 (va_cpy (x1.1 18) (x1.1 28) 0 0 200)) 29 (va_cpy ((kbA x1 28 (va_cpy (x1.1 18) (x1.1 28) 0 0 200)).1 19) ((kbA x1 28 (va_cpy (x1.1 18) (x1.1 28) 0 0 200)).1 29) 0 0 8)) 30 (va_cpy ((kbA (kbA x1 28 (va_cpy (x1.1 18) (x1.1 28) 0 0 200)) 29 (va_cpy ((kbA x1 28 (va_cpy (x1.1 18) (x1.1 28) 0 0 200)).1 19) ((kbA x1 28 (va_cpy (x1.1 18) (x1.1 28) 0 0 200)).1 29) 0 0 8)).1 20) ((kbA (kbA x1 28 (va_cpy (x1.1 18) (x1.1 28) 0 0 200)) 29 (va_cpy ((kbA x1 28 (va_cpy (x1.1 18) (x1.1 28) 0 0 200)).1 19) ((kbA x1 28 (va_cpy (x1.1 18) (x1.1 28) 0 0 200)).1 29) 0 0 8)).1 30) 0 0 8)).1 21) ((kbA (kbA (kbA x1 28 (va_cpy (x1.1 18) (x1.1 28) 0 0 200)) 29 (va_cpy ((kbA x1 28 (va_cpy (x1.1 18) (x1.1 28) 0 0 200)).1 19) ((kbA x1 28 (va_cpy (x1.1 18) (x1.1 28) 0 0 200)).1 29) 0 0 8)) 30 (va_cpy ((kbA (kbA x1 28 (va_cpy (x1.1 18) (x1.1 28) 0 0 200)) 29 (va_cpy ((kbA x1 28 (va_cpy (x1.1 18) (x1.1 28) 0 0 200)).1 19) ((kbA x1 28 (va_cpy (x1.1 18) (x1.1 28) 0 0 200)).1 29) 0 0 8)).1 20) ((kbA (kbA x1 28 (va_cpy (x1.1 18) (x1.1 28) 0 0 200)) 29 (va_cpy ((kbA x1 28 (va_cpy (x1.1 18) (x1.1 28) 0 0 200)).1 19) ((kbA x1 28 (va_cpy (x1.1 18) (x1.1 28) 0 0 200)).1 29) 0 0 8)).1 30) 0 0 8)).1 31) 0 0 3)) 22 5 ((kbA (kbA (kbA (kbA x1 28 (va_cpy (x1.1 18) (x1.1 28) 0 0 200)) 29 (va_cpy ((kbA x1 28 (va_cpy (x1.1 18) (x1.1 28) 0 0 200)).1 19) ((kbA x1 28 (va_cpy (x1.1 18) (x1.1 28) 0 0 200)).1 29) 0 0 8)) 30 (va_cpy ((kbA (kbA x1 28 (va_cpy (x1.1 18) (x1.1 28) 0 0 200)) 29 (va_cpy ((kbA x1 28 (va_cpy (x1.1 18) (x1.1 28) 0 0 200)).1 19) ((kbA x1 28 (va_cpy (x1.1 18) (x1.1 28) 0 0 200)).1 29) 0 0 8)).1 20) ((kbA (kbA x1 28 (va_cpy (x1.1 18) (x1.1 28) 0 0 200)) 29 (va_cpy ((kbA x1 28 (va_cpy (x1.1 18) (x1.1 28) 0 0 200)).1 19) ((kbA x1 28 (va_cpy (x1.1 18) (x1.1 28) 0 0 200)).1 29) 0 0 8)).1 30) 0 0 8)) 31 (va_cpy ((kbA (kbA (kbA x1 28 (va_cpy (x1.1 18) (x1.1 28) 0 0 200)) 29 (va_cpy ((kbA x1 28 (va_cpy (x1.1 18) (x1.1 28) 0 0 200)).1 19) ((kbA x1 28 (va_cpy (x1.1 18) (x1.1 28) 0 0 200)).1 29) 0 0 8)) 30 (va_cpy ((kbA (kbA x1 28 (va_cpy (x1.1 18) (x1.1 28) 0 0 200)) 29 (va_cpy ((kbA x1 28 (va_cpy (x1.1 18) (x1.1 28) 0 0 200)).1 19) ((kbA x1 28 (va_cpy (x1.1 18) (x1.1 28) 0 0 200)).1 29) 0 0 8)).1 20) ((kbA (kbA x1 28 (va_cpy (x1.1 18) (x1.1 28) 0 0 200)) 29 (va_cpy ((kbA x1 28 (va_cpy (x1.1 18) (x1.1 28) 0 0 200)).1 19) ((kbA x1 28 (va_cpy (x1.1 18) (x1.1 28) 0 0 200)).1 29) 0 0 8)).1 30) 0 0 8)).1 21) ((kbA (kbA (kbA x1 28 (va_cpy (x1.1 18) (x1.1 28) 0 0 200)) 29 (va_cpy ((kbA x1 28 (va_cpy (x1.1 18) (x1.1 28) 0 0 200)).1 19) ((kbA x1 28 (va_cpy (x1.1 18) (x1.1 28) 0 0 200)).1 29) 0 0 8)) 30 (va_cpy ((kbA (kbA x1 28 (va_cpy (x1.1 18) (x1.1 28) 0 0 200)) 29 (va_cpy ((kbA x1 28 (va_cpy (x1.1 18) (x1.1 28) 0 0 200)).1 19) ((kbA x1 28 (va_cpy (x1.1 18) (x1.1 28) 0 0 200)).1 29) 0 0 8)).1 20) ((kbA (kbA x1 28 (va_cpy (x1.1 18) (x1.1 28) 0 0 200)) 29 (va_cpy ((kbA x1 28 (va_cpy (x1.1 18) (x1.1 28) 0 0 200)).1 19) ((kbA x1 28 (va_cpy (x1.1 18) (x1.1 28) 0 0 200)).1 29) 0 0 8)).1 30) 0 0 8)).1 31) 0 0 3)).1 12 5)).1 12 6)).1 12 7))
theorem sp_ST_copyFrom_22_12 {l : Launch} (μ : kbM)  {x : kbM} (h : f_ST_copyFrom_22_12 μ = some x) : kbS l MX9_copyFrom 2 [.ref 22, .ref 12] μ (kbQe none x) := by
  refine kb_enter 0 rfl rfl ?_
  suffices H : ∀ (Q : kbQt) (P : kbM → Prop), (∀ z : kbM, P z → Q none z) → kbG (f_ST_copyFrom_22_12 μ) P → kbR l MX9_copyFrom 2 Q 0 [some (.ref 22), some (.ref 12)] [] μ from H _ (fun z => z = x) (fun z e => by subst e; exact ⟨rfl, rfl⟩) ⟨x, h, rfl⟩
  clear h
  intro Q P hr h
  unfold f_ST_copyFrom_22_12 at h
  refine r_aload_n dX9_copyFrom_0 rfl ?_
  refine r_getR flX9_12 sh22 rfl dX9_copyFrom_1 ?_
  refine r_aload_n dX9_copyFrom_4 rfl ?_
  refine r_getR flX9_12 sh12 rfl dX9_copyFrom_5 ?_
  obtain ⟨x1, hx0, h⟩ := kbG_bind h
  refine r_invV_v cvX9_31 sh23 rfl (sp_WO_copyFrom_23_13 μ hx0) rfl rfl (Nat.le_of_ble_eq_true rfl) (Nat.le_of_ble_eq_true rfl) dX9_copyFrom_8 ?_
  refine r_aload_n dX9_copyFrom_11 rfl ?_
  refine r_getR flX9_18 sh12 rfl dX9_copyFrom_12 ?_
  refine r_iconst 0 dX9_copyFrom_15 (by decide) ?_
  refine r_aload_n dX9_copyFrom_16 rfl ?_
  refine r_getR flX9_18 sh22 rfl dX9_copyFrom_17 ?_
  refine r_iconst 0 dX9_copyFrom_20 (by decide) ?_
  refine r_aload_n dX9_copyFrom_21 rfl ?_
  refine r_getR flX9_18 sh22 rfl dX9_copyFrom_22 ?_
  refine r_alen 200 sh28 (by decide) (by decide) dX9_copyFrom_25 ?_
  have hcp : kbCp 0 0 200 200 200 = true := by decide
  refine q_copy 0 0 200 (by decide) (by decide) (by decide) mlX9_45 sh18 sh28 hcp (Nat.le_of_ble_eq_true rfl) (Nat.le_of_ble_eq_true rfl) dX9_copyFrom_26 ?_
  refine r_aload_n dX9_copyFrom_29 rfl ?_
  refine r_getR flX9_22 sh12 rfl dX9_copyFrom_30 ?_
  refine r_iconst 0 dX9_copyFrom_33 (by decide) ?_
  refine r_aload_n dX9_copyFrom_34 rfl ?_
  refine r_getR flX9_22 sh22 rfl dX9_copyFrom_35 ?_
  refine r_iconst 0 dX9_copyFrom_38 (by decide) ?_
  refine r_bipush 8 dX9_copyFrom_39 (by decide) ?_
  have hcp : kbCp 0 0 8 8 8 = true := by decide
  refine q_copy 0 0 8 (by decide) (by decide) (by decide) mlX9_45 sh19 sh29 hcp (Nat.le_of_ble_eq_true rfl) (Nat.le_of_ble_eq_true rfl) dX9_copyFrom_41 ?_
  refine r_aload_n dX9_copyFrom_44 rfl ?_
  refine r_getR flX9_25 sh12 rfl dX9_copyFrom_45 ?_
  refine r_iconst 0 dX9_copyFrom_48 (by decide) ?_
  refine r_aload_n dX9_copyFrom_49 rfl ?_
  refine r_getR flX9_25 sh22 rfl dX9_copyFrom_50 ?_
  refine r_iconst 0 dX9_copyFrom_53 (by decide) ?_
  refine r_bipush 8 dX9_copyFrom_54 (by decide) ?_
  have hcp : kbCp 0 0 8 8 8 = true := by decide
  refine q_copy 0 0 8 (by decide) (by decide) (by decide) mlX9_45 sh20 sh30 hcp (Nat.le_of_ble_eq_true rfl) (Nat.le_of_ble_eq_true rfl) dX9_copyFrom_56 ?_
  refine r_aload_n dX9_copyFrom_59 rfl ?_
  refine r_getR flX9_28 sh12 rfl dX9_copyFrom_60 ?_
  refine r_iconst 0 dX9_copyFrom_63 (by decide) ?_
  refine r_aload_n dX9_copyFrom_64 rfl ?_
  refine r_getR flX9_28 sh22 rfl dX9_copyFrom_65 ?_
  refine r_iconst 0 dX9_copyFrom_68 (by decide) ?_
  refine r_aload_n dX9_copyFrom_69 rfl ?_
  refine r_getR flX9_28 sh22 rfl dX9_copyFrom_70 ?_
  refine r_alen 3 sh31 (by decide) (by decide) dX9_copyFrom_73 ?_
  have hcp : kbCp 0 0 3 3 3 = true := by decide
  refine q_copy 0 0 3 (by decide) (by decide) (by decide) mlX9_45 sh21 sh31 hcp (Nat.le_of_ble_eq_true rfl) (Nat.le_of_ble_eq_true rfl) dX9_copyFrom_74 ?_
  refine r_aload_n dX9_copyFrom_77 rfl ?_
  refine r_aload_n dX9_copyFrom_78 rfl ?_
  refine r_getI flX9_35 sh12 rfl dX9_copyFrom_79 ?_
  refine r_put flX9_35 sh22 rfl rfl rfl dX9_copyFrom_82 ?_
  refine r_aload_n dX9_copyFrom_85 rfl ?_
  refine r_aload_n dX9_copyFrom_86 rfl ?_
  refine r_getI flX9_39 sh12 rfl dX9_copyFrom_87 ?_
  refine r_put flX9_39 sh22 rfl rfl rfl dX9_copyFrom_90 ?_
  refine r_aload_n dX9_copyFrom_93 rfl ?_
  refine r_aload_n dX9_copyFrom_94 rfl ?_
  refine r_getI flX9_42 sh12 rfl dX9_copyFrom_95 ?_
  refine r_put flX9_42 sh22 rfl rfl rfl dX9_copyFrom_98 ?_
  exact r_vret rfl dX9_copyFrom_101 (hr (kbW (kbW (kbW (kbA (kbA (kbA (kbA x1 28 (va_cpy (x1.1 18) (x1.1 28) 0 0 200)) 29 (va_cpy ((kbA x1 28 (va_cpy (x1.1 18) (x1.1 28) 0 0 200)).1 19) ((kbA x1 28 (va_cpy (x1.1 18) (x1.1 28) 0 0 200)).1 29) 0 0 8)) 30 (va_cpy ((kbA (kbA x1 28 (va_cpy (x1.1 18) (x1.1 28) 0 0 200)) 29 (va_cpy ((kbA x1 28 (va_cpy (x1.1 18) (x1.1 28) 0 0 200)).1 19) ((kbA x1 28 (va_cpy (x1.1 18) (x1.1 28) 0 0 200)).1 29) 0 0 8)).1 20) ((kbA (kbA x1 28 (va_cpy (x1.1 18) (x1.1 28) 0 0 200)) 29 (va_cpy ((kbA x1 28 (va_cpy (x1.1 18) (x1.1 28) 0 0 200)).1 19) ((kbA x1 28 (va_cpy (x1.1 18) (x1.1 28) 0 0 200)).1 29) 0 0 8)).1 30) 0 0 8)) 31 (va_cpy ((kbA (kbA (kbA x1 28 (va_cpy (x1.1 18) (x1.1 28) 0 0 200)) 29 (va_cpy ((kbA x1 28 (va_cpy (x1.1 18) (x1.1 28) 0 0 200)).1 19) ((kbA x1 28 (va_cpy (x1.1 18) (x1.1 28) 0 0 200)).1 29) 0 0 8)) 30 (va_cpy ((kbA (kbA x1 28 (va_cpy (x1.1 18) (x1.1 28) 0 0 200)) 29 (va_cpy ((kbA x1 28 (va_cpy (x1.1 18) (x1.1 28) 0 0 200)).1 19) ((kbA x1 28 (va_cpy (x1.1 18) (x1.1 28) 0 0 200)).1 29) 0 0 8)).1 20) ((kbA (kbA x1 28 (va_cpy (x1.1 18) (x1.1 28) 0 0 200)) 29 (va_cpy ((kbA x1 28 (va_cpy (x1.1 18) (x1.1 28) 0 0 200)).1 19) ((kbA x1 28 (va_cpy (x1.1 18) (x1.1 28) 0 0 200)).1 29) 0 0 8)).1 30) 0 0 8)).1 21) ((kbA (kbA (kbA x1 28 (va_cpy (x1.1 18) (x1.1 28) 0 0 200)) 29 (va_cpy ((kbA x1 28 (va_cpy (x1.1 18) (x1.1 28) 0 0 200)).1 19) ((kbA x1 28 (va_cpy (x1.1 18) (x1.1 28) 0 0 200)).1 29) 0 0 8)) 30 (va_cpy ((kbA (kbA x1 28 (va_cpy (x1.1 18) (x1.1 28) 0 0 200)) 29 (va_cpy ((kbA x1 28 (va_cpy (x1.1 18) (x1.1 28) 0 0 200)).1 19) ((kbA x1 28 (va_cpy (x1.1 18) (x1.1 28) 0 0 200)).1 29) 0 0 8)).1 20) ((kbA (kbA x1 28 (va_cpy (x1.1 18) (x1.1 28) 0 0 200)) 29 (va_cpy ((kbA x1 28 (va_cpy (x1.1 18) (x1.1 28) 0 0 200)).1 19) ((kbA x1 28 (va_cpy (x1.1 18) (x1.1 28) 0 0 200)).1 29) 0 0 8)).1 30) 0 0 8)).1 31) 0 0 3)) 22 5 ((kbA (kbA (kbA (kbA x1 28 (va_cpy (x1.1 18) (x1.1 28) 0 0 200)) 29 (va_cpy ((kbA x1 28 (va_cpy (x1.1 18) (x1.1 28) 0 0 200)).1 19) ((kbA x1 28 (va_cpy (x1.1 18) (x1.1 28) 0 0 200)).1 29) 0 0 8)) 30 (va_cpy ((kbA (kbA x1 28 (va_cpy (x1.1 18) (x1.1 28) 0 0 200)) 29 (va_cpy ((kbA x1 28 (va_cpy (x1.1 18) (x1.1 28) 0 0 200)).1 19) ((kbA x1 28 (va_cpy (x1.1 18) (x1.1 28) 0 0 200)).1 29) 0 0 8)).1 20) ((kbA (kbA x1 28 (va_cpy (x1.1 18) (x1.1 28) 0 0 200)) 29 (va_cpy ((kbA x1 28 (va_cpy (x1.1 18) (x1.1 28) 0 0 200)).1 19) ((kbA x1 28 (va_cpy (x1.1 18) (x1.1 28) 0 0 200)).1 29) 0 0 8)).1 30) 0 0 8)) 31 (va_cpy ((kbA (kbA (kbA x1 28 (va_cpy (x1.1 18) (x1.1 28) 0 0 200)) 29 (va_cpy ((kbA x1 28 (va_cpy (x1.1 18) (x1.1 28) 0 0 200)).1 19) ((kbA x1 28 (va_cpy (x1.1 18) (x1.1 28) 0 0 200)).1 29) 0 0 8)) 30 (va_cpy ((kbA (kbA x1 28 (va_cpy (x1.1 18) (x1.1 28) 0 0 200)) 29 (va_cpy ((kbA x1 28 (va_cpy (x1.1 18) (x1.1 28) 0 0 200)).1 19) ((kbA x1 28 (va_cpy (x1.1 18) (x1.1 28) 0 0 200)).1 29) 0 0 8)).1 20) ((kbA (kbA x1 28 (va_cpy (x1.1 18) (x1.1 28) 0 0 200)) 29 (va_cpy ((kbA x1 28 (va_cpy (x1.1 18) (x1.1 28) 0 0 200)).1 19) ((kbA x1 28 (va_cpy (x1.1 18) (x1.1 28) 0 0 200)).1 29) 0 0 8)).1 30) 0 0 8)).1 21) ((kbA (kbA (kbA x1 28 (va_cpy (x1.1 18) (x1.1 28) 0 0 200)) 29 (va_cpy ((kbA x1 28 (va_cpy (x1.1 18) (x1.1 28) 0 0 200)).1 19) ((kbA x1 28 (va_cpy (x1.1 18) (x1.1 28) 0 0 200)).1 29) 0 0 8)) 30 (va_cpy ((kbA (kbA x1 28 (va_cpy (x1.1 18) (x1.1 28) 0 0 200)) 29 (va_cpy ((kbA x1 28 (va_cpy (x1.1 18) (x1.1 28) 0 0 200)).1 19) ((kbA x1 28 (va_cpy (x1.1 18) (x1.1 28) 0 0 200)).1 29) 0 0 8)).1 20) ((kbA (kbA x1 28 (va_cpy (x1.1 18) (x1.1 28) 0 0 200)) 29 (va_cpy ((kbA x1 28 (va_cpy (x1.1 18) (x1.1 28) 0 0 200)).1 19) ((kbA x1 28 (va_cpy (x1.1 18) (x1.1 28) 0 0 200)).1 29) 0 0 8)).1 30) 0 0 8)).1 31) 0 0 3)).1 12 5)) 22 6 ((kbW (kbA (kbA (kbA (kbA x1 28 (va_cpy (x1.1 18) (x1.1 28) 0 0 200)) 29 (va_cpy ((kbA x1 28 (va_cpy (x1.1 18) (x1.1 28) 0 0 200)).1 19) ((kbA x1 28 (va_cpy (x1.1 18) (x1.1 28) 0 0 200)).1 29) 0 0 8)) 30 (va_cpy ((kbA (kbA x1 28 (va_cpy (x1.1 18) (x1.1 28) 0 0 200)) 29 (va_cpy ((kbA x1 28 (va_cpy (x1.1 18) (x1.1 28) 0 0 200)).1 19) ((kbA x1 28 (va_cpy (x1.1 18) (x1.1 28) 0 0 200)).1 29) 0 0 8)).1 20) ((kbA (kbA x1 28 (va_cpy (x1.1 18) (x1.1 28) 0 0 200)) 29 (va_cpy ((kbA x1 28 (va_cpy (x1.1 18) (x1.1 28) 0 0 200)).1 19) ((kbA x1 28 (va_cpy (x1.1 18) (x1.1 28) 0 0 200)).1 29) 0 0 8)).1 30) 0 0 8)) 31 (va_cpy ((kbA (kbA (kbA x1 28 (va_cpy (x1.1 18) (x1.1 28) 0 0 200)) 29 (va_cpy ((kbA x1 28 (va_cpy (x1.1 18) (x1.1 28) 0 0 200)).1 19) ((kbA x1 28 (va_cpy (x1.1 18) (x1.1 28) 0 0 200)).1 29) 0 0 8)) 30 (va_cpy ((kbA (kbA x1 28 (va_cpy (x1.1 18) (x1.1 28) 0 0 200)) 29 (va_cpy ((kbA x1 28 (va_cpy (x1.1 18) (x1.1 28) 0 0 200)).1 19) ((kbA x1 28 (va_cpy (x1.1 18) (x1.1 28) 0 0 200)).1 29) 0 0 8)).1 20) ((kbA (kbA x1 28 (va_cpy (x1.1 18) (x1.1 28) 0 0 200)) 29 (va_cpy ((kbA x1 28 (va_cpy (x1.1 18) (x1.1 28) 0 0 200)).1 19) ((kbA x1 28 (va_cpy (x1.1 18) (x1.1 28) 0 0 200)).1 29) 0 0 8)).1 30) 0 0 8)).1 21) ((kbA (kbA (kbA x1 28 (va_cpy (x1.1 18) (x1.1 28) 0 0 200)) 29 (va_cpy ((kbA x1 28 (va_cpy (x1.1 18) (x1.1 28) 0 0 200)).1 19) ((kbA x1 28 (va_cpy (x1.1 18) (x1.1 28) 0 0 200)).1 29) 0 0 8)) 30 (va_cpy ((kbA (kbA x1 28 (va_cpy (x1.1 18) (x1.1 28) 0 0 200)) 29 (va_cpy ((kbA x1 28 (va_cpy (x1.1 18) (x1.1 28) 0 0 200)).1 19) ((kbA x1 28 (va_cpy (x1.1 18) (x1.1 28) 0 0 200)).1 29) 0 0 8)).1 20) ((kbA (kbA x1 28 (va_cpy (x1.1 18) (x1.1 28) 0 0 200)) 29 (va_cpy ((kbA x1 28 (va_cpy (x1.1 18) (x1.1 28) 0 0 200)).1 19) ((kbA x1 28 (va_cpy (x1.1 18) (x1.1 28) 0 0 200)).1 29) 0 0 8)).1 30) 0 0 8)).1 31) 0 0 3)) 22 5 ((kbA (kbA (kbA (kbA x1 28 (va_cpy (x1.1 18) (x1.1 28) 0 0 200)) 29 (va_cpy ((kbA x1 28 (va_cpy (x1.1 18) (x1.1 28) 0 0 200)).1 19) ((kbA x1 28 (va_cpy (x1.1 18) (x1.1 28) 0 0 200)).1 29) 0 0 8)) 30 (va_cpy ((kbA (kbA x1 28 (va_cpy (x1.1 18) (x1.1 28) 0 0 200)) 29 (va_cpy ((kbA x1 28 (va_cpy (x1.1 18) (x1.1 28) 0 0 200)).1 19) ((kbA x1 28 (va_cpy (x1.1 18) (x1.1 28) 0 0 200)).1 29) 0 0 8)).1 20) ((kbA (kbA x1 28 (va_cpy (x1.1 18) (x1.1 28) 0 0 200)) 29 (va_cpy ((kbA x1 28 (va_cpy (x1.1 18) (x1.1 28) 0 0 200)).1 19) ((kbA x1 28 (va_cpy (x1.1 18) (x1.1 28) 0 0 200)).1 29) 0 0 8)).1 30) 0 0 8)) 31 (va_cpy ((kbA (kbA (kbA x1 28 (va_cpy (x1.1 18) (x1.1 28) 0 0 200)) 29 (va_cpy ((kbA x1 28 (va_cpy (x1.1 18) (x1.1 28) 0 0 200)).1 19) ((kbA x1 28 (va_cpy (x1.1 18) (x1.1 28) 0 0 200)).1 29) 0 0 8)) 30 (va_cpy ((kbA (kbA x1 28 (va_cpy (x1.1 18) (x1.1 28) 0 0 200)) 29 (va_cpy ((kbA x1 28 (va_cpy (x1.1 18) (x1.1 28) 0 0 200)).1 19) ((kbA x1 28 (va_cpy (x1.1 18) (x1.1 28) 0 0 200)).1 29) 0 0 8)).1 20) ((kbA (kbA x1 28 (va_cpy (x1.1 18) (x1.1 28) 0 0 200)) 29 (va_cpy ((kbA x1 28 (va_cpy (x1.1 18) (x1.1 28) 0 0 200)).1 19) ((kbA x1 28 (va_cpy (x1.1 18) (x1.1 28) 0 0 200)).1 29) 0 0 8)).1 30) 0 0 8)).1 21) ((kbA (kbA (kbA x1 28 (va_cpy (x1.1 18) (x1.1 28) 0 0 200)) 29 (va_cpy ((kbA x1 28 (va_cpy (x1.1 18) (x1.1 28) 0 0 200)).1 19) ((kbA x1 28 (va_cpy (x1.1 18) (x1.1 28) 0 0 200)).1 29) 0 0 8)) 30 (va_cpy ((kbA (kbA x1 28 (va_cpy (x1.1 18) (x1.1 28) 0 0 200)) 29 (va_cpy ((kbA x1 28 (va_cpy (x1.1 18) (x1.1 28) 0 0 200)).1 19) ((kbA x1 28 (va_cpy (x1.1 18) (x1.1 28) 0 0 200)).1 29) 0 0 8)).1 20) ((kbA (kbA x1 28 (va_cpy (x1.1 18) (x1.1 28) 0 0 200)) 29 (va_cpy ((kbA x1 28 (va_cpy (x1.1 18) (x1.1 28) 0 0 200)).1 19) ((kbA x1 28 (va_cpy (x1.1 18) (x1.1 28) 0 0 200)).1 29) 0 0 8)).1 30) 0 0 8)).1 31) 0 0 3)).1 12 5)).1 12 6)) 22 7 ((kbW (kbW (kbA (kbA (kbA (kbA x1 28 (va_cpy (x1.1 18) (x1.1 28) 0 0 200)) 29 (va_cpy ((kbA x1 28 (va_cpy (x1.1 18) (x1.1 28) 0 0 200)).1 19) ((kbA x1 28 (va_cpy (x1.1 18) (x1.1 28) 0 0 200)).1 29) 0 0 8)) 30 (va_cpy ((kbA (kbA x1 28 (va_cpy (x1.1 18) (x1.1 28) 0 0 200)) 29 (va_cpy ((kbA x1 28 (va_cpy (x1.1 18) (x1.1 28) 0 0 200)).1 19) ((kbA x1 28 (va_cpy (x1.1 18) (x1.1 28) 0 0 200)).1 29) 0 0 8)).1 20) ((kbA (kbA x1 28 (va_cpy (x1.1 18) (x1.1 28) 0 0 200)) 29 (va_cpy ((kbA x1 28 (va_cpy (x1.1 18) (x1.1 28) 0 0 200)).1 19) ((kbA x1 28 (va_cpy (x1.1 18) (x1.1 28) 0 0 200)).1 29) 0 0 8)).1 30) 0 0 8)) 31 (va_cpy ((kbA (kbA (kbA x1 28 (va_cpy (x1.1 18) (x1.1 28) 0 0 200)) 29 (va_cpy ((kbA x1 28 (va_cpy (x1.1 18) (x1.1 28) 0 0 200)).1 19) ((kbA x1 28 (va_cpy (x1.1 18) (x1.1 28) 0 0 200)).1 29) 0 0 8)) 30 (va_cpy ((kbA (kbA x1 28 (va_cpy (x1.1 18) (x1.1 28) 0 0 200)) 29 (va_cpy ((kbA x1 28 (va_cpy (x1.1 18) (x1.1 28) 0 0 200)).1 19) ((kbA x1 28 (va_cpy (x1.1 18) (x1.1 28) 0 0 200)).1 29) 0 0 8)).1 20) ((kbA (kbA x1 28 (va_cpy (x1.1 18) (x1.1 28) 0 0 200)) 29 (va_cpy ((kbA x1 28 (va_cpy (x1.1 18) (x1.1 28) 0 0 200)).1 19) ((kbA x1 28 (va_cpy (x1.1 18) (x1.1 28) 0 0 200)).1 29) 0 0 8)).1 30) 0 0 8)).1 21) ((kbA (kbA (kbA x1 28 (va_cpy (x1.1 18) (x1.1 28) 0 0 200)) 29 (va_cpy ((kbA x1 28 (va_cpy (x1.1 18) (x1.1 28) 0 0 200)).1 19) ((kbA x1 28 (va_cpy (x1.1 18) (x1.1 28) 0 0 200)).1 29) 0 0 8)) 30 (va_cpy ((kbA (kbA x1 28 (va_cpy (x1.1 18) (x1.1 28) 0 0 200)) 29 (va_cpy ((kbA x1 28 (va_cpy (x1.1 18) (x1.1 28) 0 0 200)).1 19) ((kbA x1 28 (va_cpy (x1.1 18) (x1.1 28) 0 0 200)).1 29) 0 0 8)).1 20) ((kbA (kbA x1 28 (va_cpy (x1.1 18) (x1.1 28) 0 0 200)) 29 (va_cpy ((kbA x1 28 (va_cpy (x1.1 18) (x1.1 28) 0 0 200)).1 19) ((kbA x1 28 (va_cpy (x1.1 18) (x1.1 28) 0 0 200)).1 29) 0 0 8)).1 30) 0 0 8)).1 31) 0 0 3)) 22 5 ((kbA (kbA (kbA (kbA x1 28 (va_cpy (x1.1 18) (x1.1 28) 0 0 200)) 29 (va_cpy ((kbA x1 28 (va_cpy (x1.1 18) (x1.1 28) 0 0 200)).1 19) ((kbA x1 28 (va_cpy (x1.1 18) (x1.1 28) 0 0 200)).1 29) 0 0 8)) 30 (va_cpy ((kbA (kbA x1 28 (va_cpy (x1.1 18) (x1.1 28) 0 0 200)) 29 (va_cpy ((kbA x1 28 (va_cpy (x1.1 18) (x1.1 28) 0 0 200)).1 19) ((kbA x1 28 (va_cpy (x1.1 18) (x1.1 28) 0 0 200)).1 29) 0 0 8)).1 20) ((kbA (kbA x1 28 (va_cpy (x1.1 18) (x1.1 28) 0 0 200)) 29 (va_cpy ((kbA x1 28 (va_cpy (x1.1 18) (x1.1 28) 0 0 200)).1 19) ((kbA x1 28 (va_cpy (x1.1 18) (x1.1 28) 0 0 200)).1 29) 0 0 8)).1 30) 0 0 8)) 31 (va_cpy ((kbA (kbA (kbA x1 28 (va_cpy (x1.1 18) (x1.1 28) 0 0 200)) 29 (va_cpy ((kbA x1 28 (va_cpy (x1.1 18) (x1.1 28) 0 0 200)).1 19) ((kbA x1 28 (va_cpy (x1.1 18) (x1.1 28) 0 0 200)).1 29) 0 0 8)) 30 (va_cpy ((kbA (kbA x1 28 (va_cpy (x1.1 18) (x1.1 28) 0 0 200)) 29 (va_cpy ((kbA x1 28 (va_cpy (x1.1 18) (x1.1 28) 0 0 200)).1 19) ((kbA x1 28 (va_cpy (x1.1 18) (x1.1 28) 0 0 200)).1 29) 0 0 8)).1 20) ((kbA (kbA x1 28 (va_cpy (x1.1 18) (x1.1 28) 0 0 200)) 29 (va_cpy ((kbA x1 28 (va_cpy (x1.1 18) (x1.1 28) 0 0 200)).1 19) ((kbA x1 28 (va_cpy (x1.1 18) (x1.1 28) 0 0 200)).1 29) 0 0 8)).1 30) 0 0 8)).1 21) ((kbA (kbA (kbA x1 28 (va_cpy (x1.1 18) (x1.1 28) 0 0 200)) 29 (va_cpy ((kbA x1 28 (va_cpy (x1.1 18) (x1.1 28) 0 0 200)).1 19) ((kbA x1 28 (va_cpy (x1.1 18) (x1.1 28) 0 0 200)).1 29) 0 0 8)) 30 (va_cpy ((kbA (kbA x1 28 (va_cpy (x1.1 18) (x1.1 28) 0 0 200)) 29 (va_cpy ((kbA x1 28 (va_cpy (x1.1 18) (x1.1 28) 0 0 200)).1 19) ((kbA x1 28 (va_cpy (x1.1 18) (x1.1 28) 0 0 200)).1 29) 0 0 8)).1 20) ((kbA (kbA x1 28 (va_cpy (x1.1 18) (x1.1 28) 0 0 200)) 29 (va_cpy ((kbA x1 28 (va_cpy (x1.1 18) (x1.1 28) 0 0 200)).1 19) ((kbA x1 28 (va_cpy (x1.1 18) (x1.1 28) 0 0 200)).1 29) 0 0 8)).1 30) 0 0 8)).1 31) 0 0 3)).1 12 5)) 22 6 ((kbW (kbA (kbA (kbA (kbA x1 28 (va_cpy (x1.1 18) (x1.1 28) 0 0 200)) 29 (va_cpy ((kbA x1 28 (va_cpy (x1.1 18) (x1.1 28) 0 0 200)).1 19) ((kbA x1 28 (va_cpy (x1.1 18) (x1.1 28) 0 0 200)).1 29) 0 0 8)) 30 (va_cpy ((kbA (kbA x1 28 (va_cpy (x1.1 18) (x1.1 28) 0 0 200)) 29 (va_cpy ((kbA x1 28 (va_cpy (x1.1 18) (x1.1 28) 0 0 200)).1 19) ((kbA x1 28 (va_cpy (x1.1 18) (x1.1 28) 0 0 200)).1 29) 0 0 8)).1 20) ((kbA (kbA x1 28 (va_cpy (x1.1 18) (x1.1 28) 0 0 200)) 29 (va_cpy ((kbA x1 28 (va_cpy (x1.1 18) (x1.1 28) 0 0 200)).1 19) ((kbA x1 28 (va_cpy (x1.1 18) (x1.1 28) 0 0 200)).1 29) 0 0 8)).1 30) 0 0 8)) 31 (va_cpy ((kbA (kbA (kbA x1 28 (va_cpy (x1.1 18) (x1.1 28) 0 0 200)) 29 (va_cpy ((kbA x1 28 (va_cpy (x1.1 18) (x1.1 28) 0 0 200)).1 19) ((kbA x1 28 (va_cpy (x1.1 18) (x1.1 28) 0 0 200)).1 29) 0 0 8)) 30 (va_cpy ((kbA (kbA x1 28 (va_cpy (x1.1 18) (x1.1 28) 0 0 200)) 29 (va_cpy ((kbA x1 28 (va_cpy (x1.1 18) (x1.1 28) 0 0 200)).1 19) ((kbA x1 28 (va_cpy (x1.1 18) (x1.1 28) 0 0 200)).1 29) 0 0 8)).1 20) ((kbA (kbA x1 28 (va_cpy (x1.1 18) (x1.1 28) 0 0 200)) 29 (va_cpy ((kbA x1 28 (va_cpy (x1.1 18) (x1.1 28) 0 0 200)).1 19) ((kbA x1 28 (va_cpy (x1.1 18) (x1.1 28) 0 0 200)).1 29) 0 0 8)).1 30) 0 0 8)).1 21) ((kbA (kbA (kbA x1 28 (va_cpy (x1.1 18) (x1.1 28) 0 0 200)) 29 (va_cpy ((kbA x1 28 (va_cpy (x1.1 18) (x1.1 28) 0 0 200)).1 19) ((kbA x1 28 (va_cpy (x1.1 18) (x1.1 28) 0 0 200)).1 29) 0 0 8)) 30 (va_cpy ((kbA (kbA x1 28 (va_cpy (x1.1 18) (x1.1 28) 0 0 200)) 29 (va_cpy ((kbA x1 28 (va_cpy (x1.1 18) (x1.1 28) 0 0 200)).1 19) ((kbA x1 28 (va_cpy (x1.1 18) (x1.1 28) 0 0 200)).1 29) 0 0 8)).1 20) ((kbA (kbA x1 28 (va_cpy (x1.1 18) (x1.1 28) 0 0 200)) 29 (va_cpy ((kbA x1 28 (va_cpy (x1.1 18) (x1.1 28) 0 0 200)).1 19) ((kbA x1 28 (va_cpy (x1.1 18) (x1.1 28) 0 0 200)).1 29) 0 0 8)).1 30) 0 0 8)).1 31) 0 0 3)) 22 5 ((kbA (kbA (kbA (kbA x1 28 (va_cpy (x1.1 18) (x1.1 28) 0 0 200)) 29 (va_cpy ((kbA x1 28 (va_cpy (x1.1 18) (x1.1 28) 0 0 200)).1 19) ((kbA x1 28 (va_cpy (x1.1 18) (x1.1 28) 0 0 200)).1 29) 0 0 8)) 30 (va_cpy ((kbA (kbA x1 28 (va_cpy (x1.1 18) (x1.1 28) 0 0 200)) 29 (va_cpy ((kbA x1 28 (va_cpy (x1.1 18) (x1.1 28) 0 0 200)).1 19) ((kbA x1 28 (va_cpy (x1.1 18) (x1.1 28) 0 0 200)).1 29) 0 0 8)).1 20) ((kbA (kbA x1 28 (va_cpy (x1.1 18) (x1.1 28) 0 0 200)) 29 (va_cpy ((kbA x1 28 (va_cpy (x1.1 18) (x1.1 28) 0 0 200)).1 19) ((kbA x1 28 (va_cpy (x1.1 18) (x1.1 28) 0 0 200)).1 29) 0 0 8)).1 30) 0 0 8)) 31 (va_cpy ((kbA (kbA (kbA x1 28 (va_cpy (x1.1 18) (x1.1 28) 0 0 200)) 29 (va_cpy ((kbA x1 28 (va_cpy (x1.1 18) (x1.1 28) 0 0 200)).1 19) ((kbA x1 28 (va_cpy (x1.1 18) (x1.1 28) 0 0 200)).1 29) 0 0 8)) 30 (va_cpy ((kbA (kbA x1 28 (va_cpy (x1.1 18) (x1.1 28) 0 0 200)) 29 (va_cpy ((kbA x1 28 (va_cpy (x1.1 18) (x1.1 28) 0 0 200)).1 19) ((kbA x1 28 (va_cpy (x1.1 18) (x1.1 28) 0 0 200)).1 29) 0 0 8)).1 20) ((kbA (kbA x1 28 (va_cpy (x1.1 18) (x1.1 28) 0 0 200)) 29 (va_cpy ((kbA x1 28 (va_cpy (x1.1 18) (x1.1 28) 0 0 200)).1 19) ((kbA x1 28 (va_cpy (x1.1 18) (x1.1 28) 0 0 200)).1 29) 0 0 8)).1 30) 0 0 8)).1 21) ((kbA (kbA (kbA x1 28 (va_cpy (x1.1 18) (x1.1 28) 0 0 200)) 29 (va_cpy ((kbA x1 28 (va_cpy (x1.1 18) (x1.1 28) 0 0 200)).1 19) ((kbA x1 28 (va_cpy (x1.1 18) (x1.1 28) 0 0 200)).1 29) 0 0 8)) 30 (va_cpy ((kbA (kbA x1 28 (va_cpy (x1.1 18) (x1.1 28) 0 0 200)) 29 (va_cpy ((kbA x1 28 (va_cpy (x1.1 18) (x1.1 28) 0 0 200)).1 19) ((kbA x1 28 (va_cpy (x1.1 18) (x1.1 28) 0 0 200)).1 29) 0 0 8)).1 20) ((kbA (kbA x1 28 (va_cpy (x1.1 18) (x1.1 28) 0 0 200)) 29 (va_cpy ((kbA x1 28 (va_cpy (x1.1 18) (x1.1 28) 0 0 200)).1 19) ((kbA x1 28 (va_cpy (x1.1 18) (x1.1 28) 0 0 200)).1 29) 0 0 8)).1 30) 0 0 8)).1 31) 0 0 3)).1 12 5)).1 12 6)).1 12 7)) (kbG_some h))
def jn_ST_keepAct_12_31 (v1 : Int32) (v2 : Int32) (v3 : Int32) (v4 : Int32) (v5 : Int32) (μ : kbM) : Option (kbM) :=
  kbIf (kbIn ((μ.1 12 5) * 5) 200) <|
  kbIf (kbIn (((μ.1 12 5) * 5) + 1) 200) <|
  kbIf (kbIn (((μ.1 12 5) * 5) + 2) 200) <|
  kbIf (kbIn (((μ.1 12 5) * 5) + 3) 200) <|
  kbIf (kbIn (((μ.1 12 5) * 5) + 4) 200) <|
  some (kbW (kbW (kbW (kbW (kbW (kbW μ 18 (((μ.1 12 5) * 5).toNatClampNeg) v1) 18 ((((μ.1 12 5) * 5) + 1).toNatClampNeg) v2) 18 ((((μ.1 12 5) * 5) + 2).toNatClampNeg) v3) 18 ((((μ.1 12 5) * 5) + 3).toNatClampNeg) v4) 18 ((((μ.1 12 5) * 5) + 4).toNatClampNeg) v5) 12 5 (((kbW (kbW (kbW (kbW (kbW μ 18 (((μ.1 12 5) * 5).toNatClampNeg) v1) 18 ((((μ.1 12 5) * 5) + 1).toNatClampNeg) v2) 18 ((((μ.1 12 5) * 5) + 2).toNatClampNeg) v3) 18 ((((μ.1 12 5) * 5) + 3).toNatClampNeg) v4) 18 ((((μ.1 12 5) * 5) + 4).toNatClampNeg) v5).1 12 5) + 1))
theorem jnR_ST_keepAct_12_31 {l : Launch}   (v1 : Int32) (v2 : Int32) (v3 : Int32) (v4 : Int32) (v5 : Int32) (μ : kbM) {Q : kbQt} {P : kbM → Prop} (hr : ∀ z : kbM, P z → Q none z) (h : kbG (jn_ST_keepAct_12_31 v1 v2 v3 v4 v5 μ) P) : kbR l MX9_keepAct 1 Q 31 [some (.ref 12), some (.int v1), some (.int v2), some (.int v3), some (.int v4), some (.int v5), none] [] μ := by
  unfold jn_ST_keepAct_12_31 at h
  refine r_aload_n dX9_keepAct_31 rfl ?_
  refine r_getI flX9_35 sh12 rfl dX9_keepAct_32 ?_
  refine r_iconst 5 dX9_keepAct_35 (by decide) ?_
  refine r_imul dX9_keepAct_36 ?_
  refine r_istore dX9_keepAct_37 (Nat.le_of_ble_eq_true rfl) rfl ?_
  refine r_aload_n dX9_keepAct_39 rfl ?_
  refine r_getR flX9_18 sh12 rfl dX9_keepAct_40 ?_
  refine r_iload dX9_keepAct_43 rfl ?_
  refine r_iload_n dX9_keepAct_45 rfl ?_
  obtain ⟨hin, h⟩ := kbG_if h
  replace hin := kbIn_of hin
  refine q_iast (((μ.1 12 5) * 5).toNatClampNeg) rfl sh18 hin dX9_keepAct_46 ?_
  refine r_aload_n dX9_keepAct_47 rfl ?_
  refine r_getR flX9_18 sh12 rfl dX9_keepAct_48 ?_
  refine r_iload dX9_keepAct_51 rfl ?_
  refine r_iconst 1 dX9_keepAct_53 (by decide) ?_
  refine r_iadd dX9_keepAct_54 ?_
  refine r_iload_n dX9_keepAct_55 rfl ?_
  obtain ⟨hin, h⟩ := kbG_if h
  replace hin := kbIn_of hin
  refine q_iast ((((μ.1 12 5) * 5) + 1).toNatClampNeg) rfl sh18 hin dX9_keepAct_56 ?_
  refine r_aload_n dX9_keepAct_57 rfl ?_
  refine r_getR flX9_18 sh12 rfl dX9_keepAct_58 ?_
  refine r_iload dX9_keepAct_61 rfl ?_
  refine r_iconst 2 dX9_keepAct_63 (by decide) ?_
  refine r_iadd dX9_keepAct_64 ?_
  refine r_iload_n dX9_keepAct_65 rfl ?_
  obtain ⟨hin, h⟩ := kbG_if h
  replace hin := kbIn_of hin
  refine q_iast ((((μ.1 12 5) * 5) + 2).toNatClampNeg) rfl sh18 hin dX9_keepAct_66 ?_
  refine r_aload_n dX9_keepAct_67 rfl ?_
  refine r_getR flX9_18 sh12 rfl dX9_keepAct_68 ?_
  refine r_iload dX9_keepAct_71 rfl ?_
  refine r_iconst 3 dX9_keepAct_73 (by decide) ?_
  refine r_iadd dX9_keepAct_74 ?_
  refine r_iload dX9_keepAct_75 rfl ?_
  obtain ⟨hin, h⟩ := kbG_if h
  replace hin := kbIn_of hin
  refine q_iast ((((μ.1 12 5) * 5) + 3).toNatClampNeg) rfl sh18 hin dX9_keepAct_77 ?_
  refine r_aload_n dX9_keepAct_78 rfl ?_
  refine r_getR flX9_18 sh12 rfl dX9_keepAct_79 ?_
  refine r_iload dX9_keepAct_82 rfl ?_
  refine r_iconst 4 dX9_keepAct_84 (by decide) ?_
  refine r_iadd dX9_keepAct_85 ?_
  refine r_iload dX9_keepAct_86 rfl ?_
  obtain ⟨hin, h⟩ := kbG_if h
  replace hin := kbIn_of hin
  refine q_iast ((((μ.1 12 5) * 5) + 4).toNatClampNeg) rfl sh18 hin dX9_keepAct_88 ?_
  refine r_aload_n dX9_keepAct_89 rfl ?_
  refine r_dup dX9_keepAct_90 rfl ?_
  refine r_getI flX9_35 sh12 rfl dX9_keepAct_91 ?_
  refine r_iconst 1 dX9_keepAct_94 (by decide) ?_
  refine r_iadd dX9_keepAct_95 ?_
  refine r_put flX9_35 sh12 rfl rfl rfl dX9_keepAct_96 ?_
  exact r_vret rfl dX9_keepAct_99 (hr (kbW (kbW (kbW (kbW (kbW (kbW μ 18 (((μ.1 12 5) * 5).toNatClampNeg) v1) 18 ((((μ.1 12 5) * 5) + 1).toNatClampNeg) v2) 18 ((((μ.1 12 5) * 5) + 2).toNatClampNeg) v3) 18 ((((μ.1 12 5) * 5) + 3).toNatClampNeg) v4) 18 ((((μ.1 12 5) * 5) + 4).toNatClampNeg) v5) 12 5 (((kbW (kbW (kbW (kbW (kbW μ 18 (((μ.1 12 5) * 5).toNatClampNeg) v1) 18 ((((μ.1 12 5) * 5) + 1).toNatClampNeg) v2) 18 ((((μ.1 12 5) * 5) + 2).toNatClampNeg) v3) 18 ((((μ.1 12 5) * 5) + 3).toNatClampNeg) v4) 18 ((((μ.1 12 5) * 5) + 4).toNatClampNeg) v5).1 12 5) + 1)) (kbG_some h))
def f_ST_keepAct_12 (a1 : Int32) (a2 : Int32) (a3 : Int32) (a4 : Int32) (a5 : Int32) (μ : kbM) : Option (kbM) :=
  if (μ.1 12 5) < 40 then
    jn_ST_keepAct_12_31 a1 a2 a3 a4 a5 μ
  else
    jn_ST_keepAct_12_31 a1 a2 a3 a4 a5 (kbW (kbA μ 18 (va_cpy (μ.1 18) (μ.1 18) 5 0 195)) 12 5 39)
theorem sp_ST_keepAct_12 {l : Launch} (a1 : Int32) (a2 : Int32) (a3 : Int32) (a4 : Int32) (a5 : Int32) (μ : kbM)  {x : kbM} (h : f_ST_keepAct_12 a1 a2 a3 a4 a5 μ = some x) : kbS l MX9_keepAct 1 [.ref 12, .int a1, .int a2, .int a3, .int a4, .int a5] μ (kbQe none x) := by
  refine kb_enter 1 rfl rfl ?_
  suffices H : ∀ (Q : kbQt) (P : kbM → Prop), (∀ z : kbM, P z → Q none z) → kbG (f_ST_keepAct_12 a1 a2 a3 a4 a5 μ) P → kbR l MX9_keepAct 1 Q 0 [some (.ref 12), some (.int a1), some (.int a2), some (.int a3), some (.int a4), some (.int a5), none] [] μ from H _ (fun z => z = x) (fun z e => by subst e; exact ⟨rfl, rfl⟩) ⟨x, h, rfl⟩
  clear h
  intro Q P hr h
  unfold f_ST_keepAct_12 at h
  refine r_aload_n dX9_keepAct_0 rfl ?_
  refine r_getI flX9_35 sh12 rfl dX9_keepAct_1 ?_
  refine r_bipush 40 dX9_keepAct_4 (by decide) ?_
  refine r_icmp_lt 31 dX9_keepAct_6 (by decide) (fun hc => ?_) (fun hc => ?_)
  · replace h := kbG_t hc h
    refine r_le [some (.ref 12), some (.int a1), some (.int a2), some (.int a3), some (.int a4), some (.int a5), none] ⟨rfl, ⟨rfl, ⟨rfl, ⟨rfl, ⟨rfl, ⟨rfl, trivial⟩⟩⟩⟩⟩⟩ ?_
    exact jnR_ST_keepAct_12_31 a1 a2 a3 a4 a5 μ (hr := hr) h
  · replace h := kbG_f hc h
    refine r_aload_n dX9_keepAct_9 rfl ?_
    refine r_getR flX9_18 sh12 rfl dX9_keepAct_10 ?_
    refine r_iconst 5 dX9_keepAct_13 (by decide) ?_
    refine r_aload_n dX9_keepAct_14 rfl ?_
    refine r_getR flX9_18 sh12 rfl dX9_keepAct_15 ?_
    refine r_iconst 0 dX9_keepAct_18 (by decide) ?_
    refine r_sipush 195 dX9_keepAct_19 (by decide) ?_
    have hcp : kbCp 5 0 195 200 200 = true := by decide
    refine q_copy 5 0 195 (by decide) (by decide) (by decide) mlX9_45 sh18 sh18 hcp (Nat.le_of_ble_eq_true rfl) (Nat.le_of_ble_eq_true rfl) dX9_keepAct_22 ?_
    refine r_aload_n dX9_keepAct_25 rfl ?_
    refine r_bipush 39 dX9_keepAct_26 (by decide) ?_
    refine r_put flX9_35 sh12 rfl rfl rfl dX9_keepAct_28 ?_
    refine r_le [some (.ref 12), some (.int a1), some (.int a2), some (.int a3), some (.int a4), some (.int a5), none] ⟨rfl, ⟨rfl, ⟨rfl, ⟨rfl, ⟨rfl, ⟨rfl, trivial⟩⟩⟩⟩⟩⟩ ?_
    exact jnR_ST_keepAct_12_31 a1 a2 a3 a4 a5 (kbW (kbA μ 18 (va_cpy (μ.1 18) (μ.1 18) 5 0 195)) 12 5 39) (hr := hr) h
def f_ST_keepWord_12 (a1 : Int32) (a2 : Int32) (μ : kbM) : Option (kbM) :=
  kbIf (kbIn a2 10) <|
  kbIf (kbIn a2 10) <|
  kbIf (kbIn a2 10) <|
  (f_ST_keepAct_12 a1 a2 (μ.1 14 a2.toNatClampNeg) (μ.1 16 a2.toNatClampNeg) (μ.1 17 a2.toNatClampNeg) μ).bind fun x1 =>
  some x1
theorem sp_ST_keepWord_12 {l : Launch} (a1 : Int32) (a2 : Int32) (μ : kbM)  {x : kbM} (h : f_ST_keepWord_12 a1 a2 μ = some x) : kbS l MX9_keepWord 2 [.ref 12, .int a1, .int a2] μ (kbQe none x) := by
  refine kb_enter 0 rfl rfl ?_
  suffices H : ∀ (Q : kbQt) (P : kbM → Prop), (∀ z : kbM, P z → Q none z) → kbG (f_ST_keepWord_12 a1 a2 μ) P → kbR l MX9_keepWord 2 Q 0 [some (.ref 12), some (.int a1), some (.int a2)] [] μ from H _ (fun z => z = x) (fun z e => by subst e; exact ⟨rfl, rfl⟩) ⟨x, h, rfl⟩
  clear h
  intro Q P hr h
  unfold f_ST_keepWord_12 at h
  refine r_aload_n dX9_keepWord_0 rfl ?_
  refine r_iload_n dX9_keepWord_1 rfl ?_
  refine r_iload_n dX9_keepWord_2 rfl ?_
  refine r_aload_n dX9_keepWord_3 rfl ?_
  refine r_getR flX9_12 sh12 rfl dX9_keepWord_4 ?_
  refine r_getR flX9_51 sh13 rfl dX9_keepWord_7 ?_
  refine r_iload_n dX9_keepWord_10 rfl ?_
  obtain ⟨hin, h⟩ := kbG_if h
  replace hin := kbIn_of hin
  refine q_iald a2.toNatClampNeg rfl sh14 hin dX9_keepWord_11 ?_
  refine r_aload_n dX9_keepWord_12 rfl ?_
  refine r_getR flX9_12 sh12 rfl dX9_keepWord_13 ?_
  refine r_getR flX9_54 sh13 rfl dX9_keepWord_16 ?_
  refine r_iload_n dX9_keepWord_19 rfl ?_
  obtain ⟨hin, h⟩ := kbG_if h
  replace hin := kbIn_of hin
  refine q_iald a2.toNatClampNeg rfl sh16 hin dX9_keepWord_20 ?_
  refine r_aload_n dX9_keepWord_21 rfl ?_
  refine r_getR flX9_12 sh12 rfl dX9_keepWord_22 ?_
  refine r_getR flX9_57 sh13 rfl dX9_keepWord_25 ?_
  refine r_iload_n dX9_keepWord_28 rfl ?_
  obtain ⟨hin, h⟩ := kbG_if h
  replace hin := kbIn_of hin
  refine q_iald a2.toNatClampNeg rfl sh17 hin dX9_keepWord_29 ?_
  obtain ⟨x1, hx0, h⟩ := kbG_bind h
  refine r_invV_v cvX9_60 sh12 rfl (sp_ST_keepAct_12 a1 a2 (μ.1 14 a2.toNatClampNeg) (μ.1 16 a2.toNatClampNeg) (μ.1 17 a2.toNatClampNeg) μ hx0) rfl rfl (Nat.le_of_ble_eq_true rfl) (Nat.le_of_ble_eq_true rfl) dX9_keepWord_30 ?_
  exact r_vret rfl dX9_keepWord_33 (hr x1 (kbG_some h))
def jn_ST_isWet_12_16 (w0 : Int32) (μ : kbM) : Option (Int32) :=
  kbIf (decide (w0 = 0 ∨ w0 = 1)) <|
  some w0
theorem jnR_ST_isWet_12_16 {l : Launch}   (w0 : Int32) (μ : kbM) {Q : kbQt} {P : Int32 → Prop} (hr : ∀ z : Int32, P z → Q (some (.int z)) μ) (h : kbG (jn_ST_isWet_12_16 w0 μ) P) : kbR l MX9_isWet 1 Q 16 [none, none] [.int w0] μ := by
  unfold jn_ST_isWet_12_16 at h
  obtain ⟨hz, h⟩ := kbG_if h
  exact r_zret rfl (kb_z01 (of_decide_eq_true hz)) dX9_isWet_16 (hr w0 (kbG_some h))
def f_ST_isWet_12 (a1 : Int32) (μ : kbM) : Option (Int32) :=
  if ((kbShr (μ.1 12 7) a1) &&& 1) = 0 then
    jn_ST_isWet_12_16 0 μ
  else
    jn_ST_isWet_12_16 1 μ
theorem sp_ST_isWet_12 {l : Launch} (a1 : Int32) (μ : kbM)  {x : Int32} (h : f_ST_isWet_12 a1 μ = some x) : kbS l MX9_isWet 1 [.ref 12, .int a1] μ (kbQe (some (.int x)) μ) := by
  refine kb_enter 0 rfl rfl ?_
  suffices H : ∀ (Q : kbQt) (P : Int32 → Prop), (∀ z : Int32, P z → Q (some (.int z)) μ) → kbG (f_ST_isWet_12 a1 μ) P → kbR l MX9_isWet 1 Q 0 [some (.ref 12), some (.int a1)] [] μ from H _ (fun z => z = x) (fun z e => by subst e; exact ⟨rfl, rfl⟩) ⟨x, h, rfl⟩
  clear h
  intro Q P hr h
  unfold f_ST_isWet_12 at h
  refine r_aload_n dX9_isWet_0 rfl ?_
  refine r_getI flX9_42 sh12 rfl dX9_isWet_1 ?_
  refine r_iload_n dX9_isWet_4 rfl ?_
  refine r_shr dX9_isWet_5 ?_
  refine r_iconst 1 dX9_isWet_6 (by decide) ?_
  refine r_iand dX9_isWet_7 ?_
  refine r_if_eq 15 dX9_isWet_8 (by decide) (fun hc => ?_) (fun hc => ?_)
  · replace h := kbG_t hc h
    refine r_iconst 0 dX9_isWet_15 (by decide) ?_
    refine r_le [none, none] trivial ?_
    exact jnR_ST_isWet_12_16 0 μ (hr := hr) h
  · replace h := kbG_f hc h
    refine r_iconst 1 dX9_isWet_11 (by decide) ?_
    refine r_goto 16 dX9_isWet_12 (by decide) ?_
    refine r_le [none, none] trivial ?_
    exact jnR_ST_isWet_12_16 1 μ (hr := hr) h
def f_ST_turnWeather_12 (a1 : Int32) (μ : kbM) : Option (kbM) :=
  some (kbW μ 12 7 ((μ.1 12 7) ^^^ (kbShl 1 a1)))
theorem sp_ST_turnWeather_12 {l : Launch} (a1 : Int32) (μ : kbM)  {x : kbM} (h : f_ST_turnWeather_12 a1 μ = some x) : kbS l MX9_turnWeather 1 [.ref 12, .int a1] μ (kbQe none x) := by
  refine kb_enter 0 rfl rfl ?_
  suffices H : ∀ (Q : kbQt) (P : kbM → Prop), (∀ z : kbM, P z → Q none z) → kbG (f_ST_turnWeather_12 a1 μ) P → kbR l MX9_turnWeather 1 Q 0 [some (.ref 12), some (.int a1)] [] μ from H _ (fun z => z = x) (fun z e => by subst e; exact ⟨rfl, rfl⟩) ⟨x, h, rfl⟩
  clear h
  intro Q P hr h
  unfold f_ST_turnWeather_12 at h
  refine r_aload_n dX9_turnWeather_0 rfl ?_
  refine r_dup dX9_turnWeather_1 rfl ?_
  refine r_getI flX9_42 sh12 rfl dX9_turnWeather_2 ?_
  refine r_iconst 1 dX9_turnWeather_5 (by decide) ?_
  refine r_iload_n dX9_turnWeather_6 rfl ?_
  refine r_shl dX9_turnWeather_7 ?_
  refine r_ixor dX9_turnWeather_8 ?_
  refine r_put flX9_42 sh12 rfl rfl rfl dX9_turnWeather_9 ?_
  exact r_vret rfl dX9_turnWeather_12 (hr (kbW μ 12 7 ((μ.1 12 7) ^^^ (kbShl 1 a1))) (kbG_some h))
def jn_ST_undoLast_12_146 (n : Nat) (μ : kbM) : Option (kbM) :=
  some μ
theorem jnR_ST_undoLast_12_146 {l : Launch} (n : Nat)    (μ : kbM) {Q : kbQt} {P : kbM → Prop} (hr : ∀ z : kbM, P z → Q none z) (h : kbG (jn_ST_undoLast_12_146 n μ) P) : kbR l MX9_undoLast 3 Q 146 [none, none, none] [] μ := by
  unfold jn_ST_undoLast_12_146 at h
  exact r_vret rfl dX9_undoLast_146 (hr μ (kbG_some h))
def f_ST_undoLast_12 (n : Nat) (μ : kbM) : Option (kbM) :=
  if 0 < (μ.1 12 5) then
    kbIf (kbIn ((((kbW μ 12 5 ((μ.1 12 5) - 1)).1 12 5) * 5) + 1) 200) <|
    kbIf (kbIn (((kbW μ 12 5 ((μ.1 12 5) - 1)).1 12 5) * 5) 200) <|
    if ((kbW μ 12 5 ((μ.1 12 5) - 1)).1 18 ((((kbW μ 12 5 ((μ.1 12 5) - 1)).1 12 5) * 5).toNatClampNeg)) = 0 then
      (f_WO_remove_13 n ((kbW μ 12 5 ((μ.1 12 5) - 1)).1 18 (((((kbW μ 12 5 ((μ.1 12 5) - 1)).1 12 5) * 5) + 1).toNatClampNeg)) (kbW μ 12 5 ((μ.1 12 5) - 1))).bind fun x2 =>
      jn_ST_undoLast_12_146 n x2
    else if ((kbW μ 12 5 ((μ.1 12 5) - 1)).1 18 ((((kbW μ 12 5 ((μ.1 12 5) - 1)).1 12 5) * 5).toNatClampNeg)) = 1 then
      kbIf (kbIn ((((kbW μ 12 5 ((μ.1 12 5) - 1)).1 12 5) * 5) + 2) 200) <|
      kbIf (kbIn ((((kbW μ 12 5 ((μ.1 12 5) - 1)).1 12 5) * 5) + 3) 200) <|
      kbIf (kbIn ((((kbW μ 12 5 ((μ.1 12 5) - 1)).1 12 5) * 5) + 4) 200) <|
      (f_WO_insert_13 n ((kbW μ 12 5 ((μ.1 12 5) - 1)).1 18 (((((kbW μ 12 5 ((μ.1 12 5) - 1)).1 12 5) * 5) + 1).toNatClampNeg)) ((kbW μ 12 5 ((μ.1 12 5) - 1)).1 18 (((((kbW μ 12 5 ((μ.1 12 5) - 1)).1 12 5) * 5) + 2).toNatClampNeg)) ((kbW μ 12 5 ((μ.1 12 5) - 1)).1 18 (((((kbW μ 12 5 ((μ.1 12 5) - 1)).1 12 5) * 5) + 3).toNatClampNeg)) ((kbW μ 12 5 ((μ.1 12 5) - 1)).1 18 (((((kbW μ 12 5 ((μ.1 12 5) - 1)).1 12 5) * 5) + 4).toNatClampNeg)) (kbW μ 12 5 ((μ.1 12 5) - 1))).bind fun x3 =>
      jn_ST_undoLast_12_146 n x3
    else if ((kbW μ 12 5 ((μ.1 12 5) - 1)).1 18 ((((kbW μ 12 5 ((μ.1 12 5) - 1)).1 12 5) * 5).toNatClampNeg)) = 2 then
      kbIf (kbIn ((((kbW μ 12 5 ((μ.1 12 5) - 1)).1 12 5) * 5) + 3) 200) <|
      kbIf (kbIn ((((kbW μ 12 5 ((μ.1 12 5) - 1)).1 12 5) * 5) + 4) 200) <|
      (f_WO_change_13 ((kbW μ 12 5 ((μ.1 12 5) - 1)).1 18 (((((kbW μ 12 5 ((μ.1 12 5) - 1)).1 12 5) * 5) + 1).toNatClampNeg)) ((kbW μ 12 5 ((μ.1 12 5) - 1)).1 18 (((((kbW μ 12 5 ((μ.1 12 5) - 1)).1 12 5) * 5) + 3).toNatClampNeg)) ((kbW μ 12 5 ((μ.1 12 5) - 1)).1 18 (((((kbW μ 12 5 ((μ.1 12 5) - 1)).1 12 5) * 5) + 4).toNatClampNeg)) (kbW μ 12 5 ((μ.1 12 5) - 1))).bind fun x4 =>
      jn_ST_undoLast_12_146 n x4
    else
      (f_ST_turnWeather_12 ((kbW μ 12 5 ((μ.1 12 5) - 1)).1 18 (((((kbW μ 12 5 ((μ.1 12 5) - 1)).1 12 5) * 5) + 1).toNatClampNeg)) (kbW μ 12 5 ((μ.1 12 5) - 1))).bind fun x1 =>
      jn_ST_undoLast_12_146 n x1
  else
    some μ
theorem sp_ST_undoLast_12 {l : Launch} (n : Nat) (μ : kbM)  {x : kbM} (h : f_ST_undoLast_12 n μ = some x) : kbS l MX9_undoLast 3 [.ref 12] μ (kbQe none x) := by
  refine kb_enter 2 rfl rfl ?_
  suffices H : ∀ (Q : kbQt) (P : kbM → Prop), (∀ z : kbM, P z → Q none z) → kbG (f_ST_undoLast_12 n μ) P → kbR l MX9_undoLast 3 Q 0 [some (.ref 12), none, none] [] μ from H _ (fun z => z = x) (fun z e => by subst e; exact ⟨rfl, rfl⟩) ⟨x, h, rfl⟩
  clear h
  intro Q P hr h
  unfold f_ST_undoLast_12 at h
  refine r_aload_n dX9_undoLast_0 rfl ?_
  refine r_getI flX9_35 sh12 rfl dX9_undoLast_1 ?_
  refine r_if_gt 8 dX9_undoLast_4 (by decide) (fun hc => ?_) (fun hc => ?_)
  · replace h := kbG_t hc h
    refine r_aload_n dX9_undoLast_8 rfl ?_
    refine r_dup dX9_undoLast_9 rfl ?_
    refine r_getI flX9_35 sh12 rfl dX9_undoLast_10 ?_
    refine r_iconst 1 dX9_undoLast_13 (by decide) ?_
    refine r_isub dX9_undoLast_14 ?_
    refine r_put flX9_35 sh12 rfl rfl rfl dX9_undoLast_15 ?_
    refine r_aload_n dX9_undoLast_18 rfl ?_
    refine r_getI flX9_35 sh12 rfl dX9_undoLast_19 ?_
    refine r_iconst 5 dX9_undoLast_22 (by decide) ?_
    refine r_imul dX9_undoLast_23 ?_
    refine r_istore_n dX9_undoLast_24 (Nat.le_of_ble_eq_true rfl) rfl ?_
    refine r_aload_n dX9_undoLast_25 rfl ?_
    refine r_getR flX9_18 sh12 rfl dX9_undoLast_26 ?_
    refine r_iload_n dX9_undoLast_29 rfl ?_
    refine r_iconst 1 dX9_undoLast_30 (by decide) ?_
    refine r_iadd dX9_undoLast_31 ?_
    obtain ⟨hin, h⟩ := kbG_if h
    replace hin := kbIn_of hin
    refine q_iald (((((kbW μ 12 5 ((μ.1 12 5) - 1)).1 12 5) * 5) + 1).toNatClampNeg) rfl sh18 hin dX9_undoLast_32 ?_
    refine r_istore_n dX9_undoLast_33 (Nat.le_of_ble_eq_true rfl) rfl ?_
    refine r_aload_n dX9_undoLast_34 rfl ?_
    refine r_getR flX9_18 sh12 rfl dX9_undoLast_35 ?_
    refine r_iload_n dX9_undoLast_38 rfl ?_
    obtain ⟨hin, h⟩ := kbG_if h
    replace hin := kbIn_of hin
    refine q_iald ((((kbW μ 12 5 ((μ.1 12 5) - 1)).1 12 5) * 5).toNatClampNeg) rfl sh18 hin dX9_undoLast_39 ?_
    by_cases hc0 : ((kbW μ 12 5 ((μ.1 12 5) - 1)).1 18 ((((kbW μ 12 5 ((μ.1 12 5) - 1)).1 12 5) * 5).toNatClampNeg)) = 0
    · replace h := kbG_t hc0 h
      refine r_tabIn 68 dX9_undoLast_40 (by rw [hc0]; decide) (by rw [hc0]; decide) (by rw [hc0]; rfl) (by decide) ?_
      refine r_aload_n dX9_undoLast_68 rfl ?_
      refine r_getR flX9_12 sh12 rfl dX9_undoLast_69 ?_
      refine r_iload_n dX9_undoLast_72 rfl ?_
      obtain ⟨x2, hx0, h⟩ := kbG_bind h
      refine r_invV_v cvX9_64 sh13 rfl (sp_WO_remove_13 n ((kbW μ 12 5 ((μ.1 12 5) - 1)).1 18 (((((kbW μ 12 5 ((μ.1 12 5) - 1)).1 12 5) * 5) + 1).toNatClampNeg)) (kbW μ 12 5 ((μ.1 12 5) - 1)) hx0) rfl rfl (Nat.le_of_ble_eq_true rfl) (Nat.le_of_ble_eq_true rfl) dX9_undoLast_73 ?_
      refine r_goto 146 dX9_undoLast_76 (by decide) ?_
      refine r_le [none, none, none] trivial ?_
      exact jnR_ST_undoLast_12_146 n  x2 (hr := hr) h
    replace h := kbG_f hc0 h
    by_cases hc1 : ((kbW μ 12 5 ((μ.1 12 5) - 1)).1 18 ((((kbW μ 12 5 ((μ.1 12 5) - 1)).1 12 5) * 5).toNatClampNeg)) = 1
    · replace h := kbG_t hc1 h
      refine r_tabIn 79 dX9_undoLast_40 (by rw [hc1]; decide) (by rw [hc1]; decide) (by rw [hc1]; rfl) (by decide) ?_
      refine r_aload_n dX9_undoLast_79 rfl ?_
      refine r_getR flX9_12 sh12 rfl dX9_undoLast_80 ?_
      refine r_iload_n dX9_undoLast_83 rfl ?_
      refine r_aload_n dX9_undoLast_84 rfl ?_
      refine r_getR flX9_18 sh12 rfl dX9_undoLast_85 ?_
      refine r_iload_n dX9_undoLast_88 rfl ?_
      refine r_iconst 2 dX9_undoLast_89 (by decide) ?_
      refine r_iadd dX9_undoLast_90 ?_
      obtain ⟨hin, h⟩ := kbG_if h
      replace hin := kbIn_of hin
      refine q_iald (((((kbW μ 12 5 ((μ.1 12 5) - 1)).1 12 5) * 5) + 2).toNatClampNeg) rfl sh18 hin dX9_undoLast_91 ?_
      refine r_aload_n dX9_undoLast_92 rfl ?_
      refine r_getR flX9_18 sh12 rfl dX9_undoLast_93 ?_
      refine r_iload_n dX9_undoLast_96 rfl ?_
      refine r_iconst 3 dX9_undoLast_97 (by decide) ?_
      refine r_iadd dX9_undoLast_98 ?_
      obtain ⟨hin, h⟩ := kbG_if h
      replace hin := kbIn_of hin
      refine q_iald (((((kbW μ 12 5 ((μ.1 12 5) - 1)).1 12 5) * 5) + 3).toNatClampNeg) rfl sh18 hin dX9_undoLast_99 ?_
      refine r_aload_n dX9_undoLast_100 rfl ?_
      refine r_getR flX9_18 sh12 rfl dX9_undoLast_101 ?_
      refine r_iload_n dX9_undoLast_104 rfl ?_
      refine r_iconst 4 dX9_undoLast_105 (by decide) ?_
      refine r_iadd dX9_undoLast_106 ?_
      obtain ⟨hin, h⟩ := kbG_if h
      replace hin := kbIn_of hin
      refine q_iald (((((kbW μ 12 5 ((μ.1 12 5) - 1)).1 12 5) * 5) + 4).toNatClampNeg) rfl sh18 hin dX9_undoLast_107 ?_
      obtain ⟨x3, hx0, h⟩ := kbG_bind h
      refine r_invV_v cvX9_68 sh13 rfl (sp_WO_insert_13 n ((kbW μ 12 5 ((μ.1 12 5) - 1)).1 18 (((((kbW μ 12 5 ((μ.1 12 5) - 1)).1 12 5) * 5) + 1).toNatClampNeg)) ((kbW μ 12 5 ((μ.1 12 5) - 1)).1 18 (((((kbW μ 12 5 ((μ.1 12 5) - 1)).1 12 5) * 5) + 2).toNatClampNeg)) ((kbW μ 12 5 ((μ.1 12 5) - 1)).1 18 (((((kbW μ 12 5 ((μ.1 12 5) - 1)).1 12 5) * 5) + 3).toNatClampNeg)) ((kbW μ 12 5 ((μ.1 12 5) - 1)).1 18 (((((kbW μ 12 5 ((μ.1 12 5) - 1)).1 12 5) * 5) + 4).toNatClampNeg)) (kbW μ 12 5 ((μ.1 12 5) - 1)) hx0) rfl rfl (Nat.le_of_ble_eq_true rfl) (Nat.le_of_ble_eq_true rfl) dX9_undoLast_108 ?_
      refine r_goto 146 dX9_undoLast_111 (by decide) ?_
      refine r_le [none, none, none] trivial ?_
      exact jnR_ST_undoLast_12_146 n  x3 (hr := hr) h
    replace h := kbG_f hc1 h
    by_cases hc2 : ((kbW μ 12 5 ((μ.1 12 5) - 1)).1 18 ((((kbW μ 12 5 ((μ.1 12 5) - 1)).1 12 5) * 5).toNatClampNeg)) = 2
    · replace h := kbG_t hc2 h
      refine r_tabIn 114 dX9_undoLast_40 (by rw [hc2]; decide) (by rw [hc2]; decide) (by rw [hc2]; rfl) (by decide) ?_
      refine r_aload_n dX9_undoLast_114 rfl ?_
      refine r_getR flX9_12 sh12 rfl dX9_undoLast_115 ?_
      refine r_iload_n dX9_undoLast_118 rfl ?_
      refine r_aload_n dX9_undoLast_119 rfl ?_
      refine r_getR flX9_18 sh12 rfl dX9_undoLast_120 ?_
      refine r_iload_n dX9_undoLast_123 rfl ?_
      refine r_iconst 3 dX9_undoLast_124 (by decide) ?_
      refine r_iadd dX9_undoLast_125 ?_
      obtain ⟨hin, h⟩ := kbG_if h
      replace hin := kbIn_of hin
      refine q_iald (((((kbW μ 12 5 ((μ.1 12 5) - 1)).1 12 5) * 5) + 3).toNatClampNeg) rfl sh18 hin dX9_undoLast_126 ?_
      refine r_aload_n dX9_undoLast_127 rfl ?_
      refine r_getR flX9_18 sh12 rfl dX9_undoLast_128 ?_
      refine r_iload_n dX9_undoLast_131 rfl ?_
      refine r_iconst 4 dX9_undoLast_132 (by decide) ?_
      refine r_iadd dX9_undoLast_133 ?_
      obtain ⟨hin, h⟩ := kbG_if h
      replace hin := kbIn_of hin
      refine q_iald (((((kbW μ 12 5 ((μ.1 12 5) - 1)).1 12 5) * 5) + 4).toNatClampNeg) rfl sh18 hin dX9_undoLast_134 ?_
      obtain ⟨x4, hx0, h⟩ := kbG_bind h
      refine r_invV_v cvX9_72 sh13 rfl (sp_WO_change_13 ((kbW μ 12 5 ((μ.1 12 5) - 1)).1 18 (((((kbW μ 12 5 ((μ.1 12 5) - 1)).1 12 5) * 5) + 1).toNatClampNeg)) ((kbW μ 12 5 ((μ.1 12 5) - 1)).1 18 (((((kbW μ 12 5 ((μ.1 12 5) - 1)).1 12 5) * 5) + 3).toNatClampNeg)) ((kbW μ 12 5 ((μ.1 12 5) - 1)).1 18 (((((kbW μ 12 5 ((μ.1 12 5) - 1)).1 12 5) * 5) + 4).toNatClampNeg)) (kbW μ 12 5 ((μ.1 12 5) - 1)) hx0) rfl rfl (Nat.le_of_ble_eq_true rfl) (Nat.le_of_ble_eq_true rfl) dX9_undoLast_135 ?_
      refine r_goto 146 dX9_undoLast_138 (by decide) ?_
      refine r_le [none, none, none] trivial ?_
      exact jnR_ST_undoLast_12_146 n  x4 (hr := hr) h
    replace h := kbG_f hc2 h
    have hD : kbR l MX9_undoLast 3 Q 141 [some (.ref 12), some (.int (((kbW μ 12 5 ((μ.1 12 5) - 1)).1 12 5) * 5)), some (.int ((kbW μ 12 5 ((μ.1 12 5) - 1)).1 18 (((((kbW μ 12 5 ((μ.1 12 5) - 1)).1 12 5) * 5) + 1).toNatClampNeg)))] [] (kbW μ 12 5 ((μ.1 12 5) - 1)) := by
      refine r_aload_n dX9_undoLast_141 rfl ?_
      refine r_iload_n dX9_undoLast_142 rfl ?_
      obtain ⟨x1, hx0, h⟩ := kbG_bind h
      refine r_invV_v cvX9_76 sh12 rfl (sp_ST_turnWeather_12 ((kbW μ 12 5 ((μ.1 12 5) - 1)).1 18 (((((kbW μ 12 5 ((μ.1 12 5) - 1)).1 12 5) * 5) + 1).toNatClampNeg)) (kbW μ 12 5 ((μ.1 12 5) - 1)) hx0) rfl rfl (Nat.le_of_ble_eq_true rfl) (Nat.le_of_ble_eq_true rfl) dX9_undoLast_143 ?_
      refine r_le [none, none, none] trivial ?_
      exact jnR_ST_undoLast_12_146 n  x1 (hr := hr) h
    exact r_tabOut 141 dX9_undoLast_40 (kb_out fun q q1 q2 => by
      have hq : q = 0 ∨ q = 1 ∨ q = 2 := by omega
      rcases hq with rfl | rfl | rfl
      · exact hc0
      · exact hc1
      · exact hc2) (by decide) hD
  · replace h := kbG_f hc h
    exact r_vret rfl dX9_undoLast_7 (hr μ (kbG_some h))
