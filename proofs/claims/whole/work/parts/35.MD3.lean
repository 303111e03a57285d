theorem dX12_wordsOf_0 : decode cX12_wordsOf 0 = .ok (.iconst 0, 1) := by decide +kernel
theorem dX12_wordsOf_1 : decode cX12_wordsOf 1 = .ok (.istore_n 2, 1) := by decide +kernel
theorem dX12_wordsOf_2 : decode cX12_wordsOf 2 = .ok (.iconst 0, 1) := by decide +kernel
theorem dX12_wordsOf_3 : decode cX12_wordsOf 3 = .ok (.istore_n 3, 1) := by decide +kernel
theorem dX12_wordsOf_4 : decode cX12_wordsOf 4 = .ok (.iload_n 3, 1) := by decide +kernel
theorem dX12_wordsOf_5 : decode cX12_wordsOf 5 = .ok (.aload_n 0, 1) := by decide +kernel
theorem dX12_wordsOf_6 : decode cX12_wordsOf 6 = .ok (.getfield 162, 3) := by decide +kernel
theorem dX12_wordsOf_9 : decode cX12_wordsOf 9 = .ok (.if_icmp .ge 37, 3) := by decide +kernel
theorem dX12_wordsOf_12 : decode cX12_wordsOf 12 = .ok (.iload_n 2, 1) := by decide +kernel
theorem dX12_wordsOf_13 : decode cX12_wordsOf 13 = .ok (.aload_n 0, 1) := by decide +kernel
theorem dX12_wordsOf_14 : decode cX12_wordsOf 14 = .ok (.getfield 63, 3) := by decide +kernel
theorem dX12_wordsOf_17 : decode cX12_wordsOf 17 = .ok (.iload_n 1, 1) := by decide +kernel
theorem dX12_wordsOf_18 : decode cX12_wordsOf 18 = .ok (.iaload, 1) := by decide +kernel
theorem dX12_wordsOf_19 : decode cX12_wordsOf 19 = .ok (.aload_n 0, 1) := by decide +kernel
theorem dX12_wordsOf_20 : decode cX12_wordsOf 20 = .ok (.getfield 79, 3) := by decide +kernel
theorem dX12_wordsOf_23 : decode cX12_wordsOf 23 = .ok (.iload_n 3, 1) := by decide +kernel
theorem dX12_wordsOf_24 : decode cX12_wordsOf 24 = .ok (.iaload, 1) := by decide +kernel
theorem dX12_wordsOf_25 : decode cX12_wordsOf 25 = .ok (.invokestatic 325, 3) := by decide +kernel
theorem dX12_wordsOf_28 : decode cX12_wordsOf 28 = .ok (.ifCond .eq 9, 3) := by decide +kernel
theorem dX12_wordsOf_31 : decode cX12_wordsOf 31 = .ok (.iconst 1, 1) := by decide +kernel
theorem dX12_wordsOf_32 : decode cX12_wordsOf 32 = .ok (.iload_n 3, 1) := by decide +kernel
theorem dX12_wordsOf_33 : decode cX12_wordsOf 33 = .ok (.ishl, 1) := by decide +kernel
theorem dX12_wordsOf_34 : decode cX12_wordsOf 34 = .ok (.goto 4, 3) := by decide +kernel
theorem dX12_wordsOf_37 : decode cX12_wordsOf 37 = .ok (.iconst 0, 1) := by decide +kernel
theorem dX12_wordsOf_38 : decode cX12_wordsOf 38 = .ok (.ior, 1) := by decide +kernel
theorem dX12_wordsOf_39 : decode cX12_wordsOf 39 = .ok (.istore_n 2, 1) := by decide +kernel
theorem dX12_wordsOf_40 : decode cX12_wordsOf 40 = .ok (.iinc 3 1, 3) := by decide +kernel
theorem dX12_wordsOf_43 : decode cX12_wordsOf 43 = .ok (.goto (-39), 3) := by decide +kernel
theorem dX12_wordsOf_46 : decode cX12_wordsOf 46 = .ok (.iload_n 2, 1) := by decide +kernel
theorem dX12_wordsOf_47 : decode cX12_wordsOf 47 = .ok (.ireturn, 1) := by decide +kernel
theorem dX12_door_0 : decode cX12_door 0 = .ok (.aload_n 0, 1) := by decide +kernel
theorem dX12_door_1 : decode cX12_door 1 = .ok (.iconst 0, 1) := by decide +kernel
theorem dX12_door_2 : decode cX12_door 2 = .ok (.putfield 159, 3) := by decide +kernel
theorem dX12_door_5 : decode cX12_door 5 = .ok (.aload_n 0, 1) := by decide +kernel
theorem dX12_door_6 : decode cX12_door 6 = .ok (.iload_n 1, 1) := by decide +kernel
theorem dX12_door_7 : decode cX12_door 7 = .ok (.invokevirtual 336, 3) := by decide +kernel
theorem dX12_door_10 : decode cX12_door 10 = .ok (.ifCond .eq 15, 3) := by decide +kernel
theorem dX12_door_13 : decode cX12_door 13 = .ok (.iload_n 2, 1) := by decide +kernel
theorem dX12_door_14 : decode cX12_door 14 = .ok (.i2l, 1) := by decide +kernel
theorem dX12_door_15 : decode cX12_door 15 = .ok (.lconst 0, 1) := by decide +kernel
theorem dX12_door_16 : decode cX12_door 16 = .ok (.ldc2_w 334, 3) := by decide +kernel
theorem dX12_door_19 : decode cX12_door 19 = .ok (.invokestatic 165, 3) := by decide +kernel
theorem dX12_door_22 : decode cX12_door 22 = .ok (.ifCond .ne 9, 3) := by decide +kernel
theorem dX12_door_25 : decode cX12_door 25 = .ok (.aload_n 0, 1) := by decide +kernel
theorem dX12_door_26 : decode cX12_door 26 = .ok (.iconst 1, 1) := by decide +kernel
theorem dX12_door_27 : decode cX12_door 27 = .ok (.invokevirtual 292, 3) := by decide +kernel
theorem dX12_door_30 : decode cX12_door 30 = .ok (.ireturn, 1) := by decide +kernel
theorem dX12_door_31 : decode cX12_door 31 = .ok (.iload_n 2, 1) := by decide +kernel
theorem dX12_door_32 : decode cX12_door 32 = .ok (.ifCond .ne 12, 3) := by decide +kernel
theorem dX12_door_35 : decode cX12_door 35 = .ok (.aload_n 0, 1) := by decide +kernel
theorem dX12_door_36 : decode cX12_door 36 = .ok (.getfield 60, 3) := by decide +kernel
theorem dX12_door_39 : decode cX12_door 39 = .ok (.iload_n 1, 1) := by decide +kernel
theorem dX12_door_40 : decode cX12_door 40 = .ok (.iaload, 1) := by decide +kernel
theorem dX12_door_41 : decode cX12_door 41 = .ok (.goto 51, 3) := by decide +kernel
theorem dX12_door_44 : decode cX12_door 44 = .ok (.iload_n 2, 1) := by decide +kernel
theorem dX12_door_45 : decode cX12_door 45 = .ok (.iconst 1, 1) := by decide +kernel
theorem dX12_door_46 : decode cX12_door 46 = .ok (.if_icmp .ne 12, 3) := by decide +kernel
theorem dX12_door_49 : decode cX12_door 49 = .ok (.aload_n 0, 1) := by decide +kernel
theorem dX12_door_50 : decode cX12_door 50 = .ok (.getfield 63, 3) := by decide +kernel
theorem dX12_door_53 : decode cX12_door 53 = .ok (.iload_n 1, 1) := by decide +kernel
theorem dX12_door_54 : decode cX12_door 54 = .ok (.iaload, 1) := by decide +kernel
theorem dX12_door_55 : decode cX12_door 55 = .ok (.goto 37, 3) := by decide +kernel
theorem dX12_door_58 : decode cX12_door 58 = .ok (.iload_n 2, 1) := by decide +kernel
theorem dX12_door_59 : decode cX12_door 59 = .ok (.iconst 2, 1) := by decide +kernel
theorem dX12_door_60 : decode cX12_door 60 = .ok (.if_icmp .ne 14, 3) := by decide +kernel
theorem dX12_door_63 : decode cX12_door 63 = .ok (.aload_n 0, 1) := by decide +kernel
theorem dX12_door_64 : decode cX12_door 64 = .ok (.getfield 305, 3) := by decide +kernel
theorem dX12_door_67 : decode cX12_door 67 = .ok (.iload_n 1, 1) := by decide +kernel
theorem dX12_door_68 : decode cX12_door 68 = .ok (.ishr, 1) := by decide +kernel
theorem dX12_door_69 : decode cX12_door 69 = .ok (.iconst 1, 1) := by decide +kernel
theorem dX12_door_70 : decode cX12_door 70 = .ok (.iand, 1) := by decide +kernel
theorem dX12_door_71 : decode cX12_door 71 = .ok (.goto 21, 3) := by decide +kernel
theorem dX12_door_74 : decode cX12_door 74 = .ok (.iload_n 2, 1) := by decide +kernel
theorem dX12_door_75 : decode cX12_door 75 = .ok (.iconst 3, 1) := by decide +kernel
theorem dX12_door_76 : decode cX12_door 76 = .ok (.if_icmp .ne 11, 3) := by decide +kernel
theorem dX12_door_79 : decode cX12_door 79 = .ok (.aload_n 0, 1) := by decide +kernel
theorem dX12_door_80 : decode cX12_door 80 = .ok (.iload_n 1, 1) := by decide +kernel
theorem dX12_door_81 : decode cX12_door 81 = .ok (.invokevirtual 339, 3) := by decide +kernel
theorem dX12_door_84 : decode cX12_door 84 = .ok (.goto 8, 3) := by decide +kernel
theorem dX12_door_87 : decode cX12_door 87 = .ok (.aload_n 0, 1) := by decide +kernel
theorem dX12_door_88 : decode cX12_door 88 = .ok (.iload_n 1, 1) := by decide +kernel
theorem dX12_door_89 : decode cX12_door 89 = .ok (.invokevirtual 342, 3) := by decide +kernel
theorem dX12_door_92 : decode cX12_door 92 = .ok (.ireturn, 1) := by decide +kernel
theorem dX12_isRow_0 : decode cX12_isRow 0 = .ok (.iload_n 0, 1) := by decide +kernel
theorem dX12_isRow_1 : decode cX12_isRow 1 = .ok (.ifCond .lt 9, 3) := by decide +kernel
theorem dX12_isRow_4 : decode cX12_isRow 4 = .ok (.iload_n 0, 1) := by decide +kernel
theorem dX12_isRow_5 : decode cX12_isRow 5 = .ok (.ldc 169, 2) := by decide +kernel
theorem dX12_isRow_7 : decode cX12_isRow 7 = .ok (.if_icmp .le 5, 3) := by decide +kernel
theorem dX12_isRow_10 : decode cX12_isRow 10 = .ok (.iconst 0, 1) := by decide +kernel
theorem dX12_isRow_11 : decode cX12_isRow 11 = .ok (.ireturn, 1) := by decide +kernel
theorem dX12_isRow_12 : decode cX12_isRow 12 = .ok (.iload_n 0, 1) := by decide +kernel
theorem dX12_isRow_13 : decode cX12_isRow 13 = .ok (.istore_n 1, 1) := by decide +kernel
theorem dX12_isRow_14 : decode cX12_isRow 14 = .ok (.iload_n 1, 1) := by decide +kernel
theorem dX12_isRow_15 : decode cX12_isRow 15 = .ok (.ifCond .le 18, 3) := by decide +kernel
theorem dX12_isRow_18 : decode cX12_isRow 18 = .ok (.iload_n 1, 1) := by decide +kernel
theorem dX12_isRow_19 : decode cX12_isRow 19 = .ok (.iconst 5, 1) := by decide +kernel
theorem dX12_isRow_20 : decode cX12_isRow 20 = .ok (.irem, 1) := by decide +kernel
theorem dX12_isRow_21 : decode cX12_isRow 21 = .ok (.ifCond .ne 5, 3) := by decide +kernel
theorem dX12_isRow_24 : decode cX12_isRow 24 = .ok (.iconst 0, 1) := by decide +kernel
theorem dX12_isRow_25 : decode cX12_isRow 25 = .ok (.ireturn, 1) := by decide +kernel
theorem dX12_isRow_26 : decode cX12_isRow 26 = .ok (.iload_n 1, 1) := by decide +kernel
theorem dX12_isRow_27 : decode cX12_isRow 27 = .ok (.iconst 5, 1) := by decide +kernel
theorem dX12_isRow_28 : decode cX12_isRow 28 = .ok (.idiv, 1) := by decide +kernel
theorem dX12_isRow_29 : decode cX12_isRow 29 = .ok (.istore_n 1, 1) := by decide +kernel
theorem dX12_isRow_30 : decode cX12_isRow 30 = .ok (.goto (-16), 3) := by decide +kernel
theorem dX12_isRow_33 : decode cX12_isRow 33 = .ok (.iconst 1, 1) := by decide +kernel
theorem dX12_isRow_34 : decode cX12_isRow 34 = .ok (.ireturn, 1) := by decide +kernel
theorem dX12_hears_0 : decode cX12_hears 0 = .ok (.aload_n 0, 1) := by decide +kernel
theorem dX12_hears_1 : decode cX12_hears 1 = .ok (.iconst 0, 1) := by decide +kernel
theorem dX12_hears_2 : decode cX12_hears 2 = .ok (.putfield 159, 3) := by decide +kernel
theorem dX12_hears_5 : decode cX12_hears 5 = .ok (.aload_n 0, 1) := by decide +kernel
theorem dX12_hears_6 : decode cX12_hears 6 = .ok (.iload_n 1, 1) := by decide +kernel
theorem dX12_hears_7 : decode cX12_hears 7 = .ok (.invokevirtual 336, 3) := by decide +kernel
theorem dX12_hears_10 : decode cX12_hears 10 = .ok (.ifCond .ne 9, 3) := by decide +kernel
theorem dX12_hears_13 : decode cX12_hears 13 = .ok (.aload_n 0, 1) := by decide +kernel
theorem dX12_hears_14 : decode cX12_hears 14 = .ok (.iconst 1, 1) := by decide +kernel
theorem dX12_hears_15 : decode cX12_hears 15 = .ok (.invokevirtual 292, 3) := by decide +kernel
theorem dX12_hears_18 : decode cX12_hears 18 = .ok (.ireturn, 1) := by decide +kernel
theorem dX12_hears_19 : decode cX12_hears 19 = .ok (.iload_n 2, 1) := by decide +kernel
theorem dX12_hears_20 : decode cX12_hears 20 = .ok (.invokestatic 345, 3) := by decide +kernel
theorem dX12_hears_23 : decode cX12_hears 23 = .ok (.ifCond .eq 12, 3) := by decide +kernel
theorem dX12_hears_26 : decode cX12_hears 26 = .ok (.aload_n 0, 1) := by decide +kernel
theorem dX12_hears_27 : decode cX12_hears 27 = .ok (.iload_n 1, 1) := by decide +kernel
theorem dX12_hears_28 : decode cX12_hears 28 = .ok (.iload_n 2, 1) := by decide +kernel
theorem dX12_hears_29 : decode cX12_hears 29 = .ok (.invokevirtual 328, 3) := by decide +kernel
theorem dX12_hears_32 : decode cX12_hears 32 = .ok (.goto 8, 3) := by decide +kernel
theorem dX12_hears_35 : decode cX12_hears 35 = .ok (.aload_n 0, 1) := by decide +kernel
theorem dX12_hears_36 : decode cX12_hears 36 = .ok (.iconst 2, 1) := by decide +kernel
theorem dX12_hears_37 : decode cX12_hears 37 = .ok (.invokevirtual 292, 3) := by decide +kernel
theorem dX12_hears_40 : decode cX12_hears 40 = .ok (.ireturn, 1) := by decide +kernel
theorem dX12_tellSounds_0 : decode cX12_tellSounds 0 = .ok (.aload_n 0, 1) := by decide +kernel
theorem dX12_tellSounds_1 : decode cX12_tellSounds 1 = .ok (.iload_n 1, 1) := by decide +kernel
theorem dX12_tellSounds_2 : decode cX12_tellSounds 2 = .ok (.invokestatic 322, 3) := by decide +kernel
theorem dX12_tellSounds_5 : decode cX12_tellSounds 5 = .ok (.putfield 355, 3) := by decide +kernel
theorem dX12_tellSounds_8 : decode cX12_tellSounds 8 = .ok (.iload_n 1, 1) := by decide +kernel
theorem dX12_tellSounds_9 : decode cX12_tellSounds 9 = .ok (.istore_n 2, 1) := by decide +kernel
theorem dX12_tellSounds_10 : decode cX12_tellSounds 10 = .ok (.aload_n 0, 1) := by decide +kernel
theorem dX12_tellSounds_11 : decode cX12_tellSounds 11 = .ok (.getfield 355, 3) := by decide +kernel
theorem dX12_tellSounds_14 : decode cX12_tellSounds 14 = .ok (.iconst 1, 1) := by decide +kernel
theorem dX12_tellSounds_15 : decode cX12_tellSounds 15 = .ok (.isub, 1) := by decide +kernel
theorem dX12_tellSounds_16 : decode cX12_tellSounds 16 = .ok (.istore_n 3, 1) := by decide +kernel
theorem dX12_tellSounds_17 : decode cX12_tellSounds 17 = .ok (.iload_n 3, 1) := by decide +kernel
theorem dX12_tellSounds_18 : decode cX12_tellSounds 18 = .ok (.ifCond .lt 22, 3) := by decide +kernel
theorem dX12_tellSounds_21 : decode cX12_tellSounds 21 = .ok (.aload_n 0, 1) := by decide +kernel
theorem dX12_tellSounds_22 : decode cX12_tellSounds 22 = .ok (.getfield 97, 3) := by decide +kernel
theorem dX12_tellSounds_25 : decode cX12_tellSounds 25 = .ok (.iload_n 3, 1) := by decide +kernel
theorem dX12_tellSounds_26 : decode cX12_tellSounds 26 = .ok (.iload_n 2, 1) := by decide +kernel
theorem dX12_tellSounds_27 : decode cX12_tellSounds 27 = .ok (.iconst 5, 1) := by decide +kernel
theorem dX12_tellSounds_28 : decode cX12_tellSounds 28 = .ok (.irem, 1) := by decide +kernel
theorem dX12_tellSounds_29 : decode cX12_tellSounds 29 = .ok (.iastore, 1) := by decide +kernel
theorem dX12_tellSounds_30 : decode cX12_tellSounds 30 = .ok (.iload_n 2, 1) := by decide +kernel
theorem dX12_tellSounds_31 : decode cX12_tellSounds 31 = .ok (.iconst 5, 1) := by decide +kernel
theorem dX12_tellSounds_32 : decode cX12_tellSounds 32 = .ok (.idiv, 1) := by decide +kernel
theorem dX12_tellSounds_33 : decode cX12_tellSounds 33 = .ok (.istore_n 2, 1) := by decide +kernel
theorem dX12_tellSounds_34 : decode cX12_tellSounds 34 = .ok (.iinc 3 (-1), 3) := by decide +kernel
theorem dX12_tellSounds_37 : decode cX12_tellSounds 37 = .ok (.goto (-20), 3) := by decide +kernel
theorem dX12_tellSounds_40 : decode cX12_tellSounds 40 = .ok (.iconst 0, 1) := by decide +kernel
theorem dX12_tellSounds_41 : decode cX12_tellSounds 41 = .ok (.istore_n 3, 1) := by decide +kernel
theorem dX12_tellSounds_42 : decode cX12_tellSounds 42 = .ok (.iload_n 3, 1) := by decide +kernel
theorem dX12_tellSounds_43 : decode cX12_tellSounds 43 = .ok (.aload_n 0, 1) := by decide +kernel
theorem dX12_tellSounds_44 : decode cX12_tellSounds 44 = .ok (.getfield 162, 3) := by decide +kernel
theorem dX12_tellSounds_47 : decode cX12_tellSounds 47 = .ok (.if_icmp .ge 75, 3) := by decide +kernel
theorem dX12_tellSounds_50 : decode cX12_tellSounds 50 = .ok (.aload_n 0, 1) := by decide +kernel
theorem dX12_tellSounds_51 : decode cX12_tellSounds 51 = .ok (.getfield 106, 3) := by decide +kernel
theorem dX12_tellSounds_54 : decode cX12_tellSounds 54 = .ok (.iload_n 3, 1) := by decide +kernel
theorem dX12_tellSounds_55 : decode cX12_tellSounds 55 = .ok (.aload_n 0, 1) := by decide +kernel
theorem dX12_tellSounds_56 : decode cX12_tellSounds 56 = .ok (.getfield 79, 3) := by decide +kernel
theorem dX12_tellSounds_59 : decode cX12_tellSounds 59 = .ok (.iload_n 3, 1) := by decide +kernel
theorem dX12_tellSounds_60 : decode cX12_tellSounds 60 = .ok (.iaload, 1) := by decide +kernel
theorem dX12_tellSounds_61 : decode cX12_tellSounds 61 = .ok (.invokestatic 322, 3) := by decide +kernel
theorem dX12_tellSounds_64 : decode cX12_tellSounds 64 = .ok (.iastore, 1) := by decide +kernel
theorem dX12_tellSounds_65 : decode cX12_tellSounds 65 = .ok (.aload_n 0, 1) := by decide +kernel
theorem dX12_tellSounds_66 : decode cX12_tellSounds 66 = .ok (.getfield 79, 3) := by decide +kernel
theorem dX12_tellSounds_69 : decode cX12_tellSounds 69 = .ok (.iload_n 3, 1) := by decide +kernel
theorem dX12_tellSounds_70 : decode cX12_tellSounds 70 = .ok (.iaload, 1) := by decide +kernel
theorem dX12_tellSounds_71 : decode cX12_tellSounds 71 = .ok (.istore 4, 2) := by decide +kernel
theorem dX12_tellSounds_73 : decode cX12_tellSounds 73 = .ok (.aload_n 0, 1) := by decide +kernel
theorem dX12_tellSounds_74 : decode cX12_tellSounds 74 = .ok (.getfield 106, 3) := by decide +kernel
theorem dX12_tellSounds_77 : decode cX12_tellSounds 77 = .ok (.iload_n 3, 1) := by decide +kernel
theorem dX12_tellSounds_78 : decode cX12_tellSounds 78 = .ok (.iaload, 1) := by decide +kernel
theorem dX12_tellSounds_79 : decode cX12_tellSounds 79 = .ok (.iconst 1, 1) := by decide +kernel
theorem dX12_tellSounds_80 : decode cX12_tellSounds 80 = .ok (.isub, 1) := by decide +kernel
theorem dX12_tellSounds_81 : decode cX12_tellSounds 81 = .ok (.istore 5, 2) := by decide +kernel
theorem dX12_tellSounds_83 : decode cX12_tellSounds 83 = .ok (.iload 5, 2) := by decide +kernel
theorem dX12_tellSounds_85 : decode cX12_tellSounds 85 = .ok (.ifCond .lt 31, 3) := by decide +kernel
theorem dX12_tellSounds_88 : decode cX12_tellSounds 88 = .ok (.aload_n 0, 1) := by decide +kernel
theorem dX12_tellSounds_89 : decode cX12_tellSounds 89 = .ok (.getfield 103, 3) := by decide +kernel
theorem dX12_tellSounds_92 : decode cX12_tellSounds 92 = .ok (.bipush 6, 2) := by decide +kernel
theorem dX12_tellSounds_94 : decode cX12_tellSounds 94 = .ok (.iload_n 3, 1) := by decide +kernel
theorem dX12_tellSounds_95 : decode cX12_tellSounds 95 = .ok (.imul, 1) := by decide +kernel
theorem dX12_tellSounds_96 : decode cX12_tellSounds 96 = .ok (.iload 5, 2) := by decide +kernel
theorem dX12_tellSounds_98 : decode cX12_tellSounds 98 = .ok (.iadd, 1) := by decide +kernel
theorem dX12_tellSounds_99 : decode cX12_tellSounds 99 = .ok (.iload 4, 2) := by decide +kernel
theorem dX12_tellSounds_101 : decode cX12_tellSounds 101 = .ok (.iconst 5, 1) := by decide +kernel
theorem dX12_tellSounds_102 : decode cX12_tellSounds 102 = .ok (.irem, 1) := by decide +kernel
theorem dX12_tellSounds_103 : decode cX12_tellSounds 103 = .ok (.iastore, 1) := by decide +kernel
theorem dX12_tellSounds_104 : decode cX12_tellSounds 104 = .ok (.iload 4, 2) := by decide +kernel
theorem dX12_tellSounds_106 : decode cX12_tellSounds 106 = .ok (.iconst 5, 1) := by decide +kernel
theorem dX12_tellSounds_107 : decode cX12_tellSounds 107 = .ok (.idiv, 1) := by decide +kernel
theorem dX12_tellSounds_108 : decode cX12_tellSounds 108 = .ok (.istore 4, 2) := by decide +kernel
theorem dX12_tellSounds_110 : decode cX12_tellSounds 110 = .ok (.iinc 5 (-1), 3) := by decide +kernel
theorem dX12_tellSounds_113 : decode cX12_tellSounds 113 = .ok (.goto (-30), 3) := by decide +kernel
theorem dX12_tellSounds_116 : decode cX12_tellSounds 116 = .ok (.iinc 3 1, 3) := by decide +kernel
theorem dX12_tellSounds_119 : decode cX12_tellSounds 119 = .ok (.goto (-77), 3) := by decide +kernel
theorem dX12_tellSounds_122 : decode cX12_tellSounds 122 = .ok (.return_, 1) := by decide +kernel
theorem dX12_standsAt_0 : decode cX12_standsAt 0 = .ok (.iload_n 2, 1) := by decide +kernel
theorem dX12_standsAt_1 : decode cX12_standsAt 1 = .ok (.aload_n 0, 1) := by decide +kernel
theorem dX12_standsAt_2 : decode cX12_standsAt 2 = .ok (.getfield 106, 3) := by decide +kernel
theorem dX12_standsAt_5 : decode cX12_standsAt 5 = .ok (.iload_n 1, 1) := by decide +kernel
theorem dX12_standsAt_6 : decode cX12_standsAt 6 = .ok (.iaload, 1) := by decide +kernel
theorem dX12_standsAt_7 : decode cX12_standsAt 7 = .ok (.iadd, 1) := by decide +kernel
theorem dX12_standsAt_8 : decode cX12_standsAt 8 = .ok (.aload_n 0, 1) := by decide +kernel
theorem dX12_standsAt_9 : decode cX12_standsAt 9 = .ok (.getfield 355, 3) := by decide +kernel
theorem dX12_standsAt_12 : decode cX12_standsAt 12 = .ok (.if_icmp .le 5, 3) := by decide +kernel
theorem dX12_standsAt_15 : decode cX12_standsAt 15 = .ok (.iconst 0, 1) := by decide +kernel
theorem dX12_standsAt_16 : decode cX12_standsAt 16 = .ok (.ireturn, 1) := by decide +kernel
theorem dX12_standsAt_17 : decode cX12_standsAt 17 = .ok (.iconst 0, 1) := by decide +kernel
theorem dX12_standsAt_18 : decode cX12_standsAt 18 = .ok (.istore_n 3, 1) := by decide +kernel
theorem dX12_standsAt_19 : decode cX12_standsAt 19 = .ok (.iload_n 3, 1) := by decide +kernel
theorem dX12_standsAt_20 : decode cX12_standsAt 20 = .ok (.aload_n 0, 1) := by decide +kernel
theorem dX12_standsAt_21 : decode cX12_standsAt 21 = .ok (.getfield 106, 3) := by decide +kernel
theorem dX12_standsAt_24 : decode cX12_standsAt 24 = .ok (.iload_n 1, 1) := by decide +kernel
theorem dX12_standsAt_25 : decode cX12_standsAt 25 = .ok (.iaload, 1) := by decide +kernel
theorem dX12_standsAt_26 : decode cX12_standsAt 26 = .ok (.if_icmp .ge 33, 3) := by decide +kernel
theorem dX12_standsAt_29 : decode cX12_standsAt 29 = .ok (.aload_n 0, 1) := by decide +kernel
theorem dX12_standsAt_30 : decode cX12_standsAt 30 = .ok (.getfield 97, 3) := by decide +kernel
theorem dX12_standsAt_33 : decode cX12_standsAt 33 = .ok (.iload_n 2, 1) := by decide +kernel
theorem dX12_standsAt_34 : decode cX12_standsAt 34 = .ok (.iload_n 3, 1) := by decide +kernel
theorem dX12_standsAt_35 : decode cX12_standsAt 35 = .ok (.iadd, 1) := by decide +kernel
theorem dX12_standsAt_36 : decode cX12_standsAt 36 = .ok (.iaload, 1) := by decide +kernel
theorem dX12_standsAt_37 : decode cX12_standsAt 37 = .ok (.aload_n 0, 1) := by decide +kernel
theorem dX12_standsAt_38 : decode cX12_standsAt 38 = .ok (.getfield 103, 3) := by decide +kernel
theorem dX12_standsAt_41 : decode cX12_standsAt 41 = .ok (.bipush 6, 2) := by decide +kernel
theorem dX12_standsAt_43 : decode cX12_standsAt 43 = .ok (.iload_n 1, 1) := by decide +kernel
theorem dX12_standsAt_44 : decode cX12_standsAt 44 = .ok (.imul, 1) := by decide +kernel
theorem dX12_standsAt_45 : decode cX12_standsAt 45 = .ok (.iload_n 3, 1) := by decide +kernel
theorem dX12_standsAt_46 : decode cX12_standsAt 46 = .ok (.iadd, 1) := by decide +kernel
theorem dX12_standsAt_47 : decode cX12_standsAt 47 = .ok (.iaload, 1) := by decide +kernel
theorem dX12_standsAt_48 : decode cX12_standsAt 48 = .ok (.if_icmp .eq 5, 3) := by decide +kernel
theorem dX12_standsAt_51 : decode cX12_standsAt 51 = .ok (.iconst 0, 1) := by decide +kernel
theorem dX12_standsAt_52 : decode cX12_standsAt 52 = .ok (.ireturn, 1) := by decide +kernel
theorem dX12_standsAt_53 : decode cX12_standsAt 53 = .ok (.iinc 3 1, 3) := by decide +kernel
theorem dX12_standsAt_56 : decode cX12_standsAt 56 = .ok (.goto (-37), 3) := by decide +kernel
theorem dX12_standsAt_59 : decode cX12_standsAt 59 = .ok (.iconst 1, 1) := by decide +kernel
theorem dX12_standsAt_60 : decode cX12_standsAt 60 = .ok (.ireturn, 1) := by decide +kernel
theorem dX12_reckon_0 : decode cX12_reckon 0 = .ok (.iload_n 0, 1) := by decide +kernel
theorem dX12_reckon_1 : decode cX12_reckon 1 = .ok (.tableswitch 103 (-26) (-20) #[89, 78, 67, 55, 51, 47, 43], 43) := by decide +kernel
theorem dX12_reckon_44 : decode cX12_reckon 44 = .ok (.iload_n 1, 1) := by decide +kernel
theorem dX12_reckon_45 : decode cX12_reckon 45 = .ok (.iload_n 2, 1) := by decide +kernel
theorem dX12_reckon_46 : decode cX12_reckon 46 = .ok (.iadd, 1) := by decide +kernel
theorem dX12_reckon_47 : decode cX12_reckon 47 = .ok (.ireturn, 1) := by decide +kernel
theorem dX12_reckon_48 : decode cX12_reckon 48 = .ok (.iload_n 1, 1) := by decide +kernel
theorem dX12_reckon_49 : decode cX12_reckon 49 = .ok (.iload_n 2, 1) := by decide +kernel
theorem dX12_reckon_50 : decode cX12_reckon 50 = .ok (.isub, 1) := by decide +kernel
theorem dX12_reckon_51 : decode cX12_reckon 51 = .ok (.ireturn, 1) := by decide +kernel
theorem dX12_reckon_52 : decode cX12_reckon 52 = .ok (.iload_n 1, 1) := by decide +kernel
theorem dX12_reckon_53 : decode cX12_reckon 53 = .ok (.iload_n 2, 1) := by decide +kernel
theorem dX12_reckon_54 : decode cX12_reckon 54 = .ok (.imul, 1) := by decide +kernel
theorem dX12_reckon_55 : decode cX12_reckon 55 = .ok (.ireturn, 1) := by decide +kernel
theorem dX12_reckon_56 : decode cX12_reckon 56 = .ok (.iload_n 2, 1) := by decide +kernel
theorem dX12_reckon_57 : decode cX12_reckon 57 = .ok (.ifCond .ne 7, 3) := by decide +kernel
theorem dX12_reckon_60 : decode cX12_reckon 60 = .ok (.iconst 0, 1) := by decide +kernel
theorem dX12_reckon_61 : decode cX12_reckon 61 = .ok (.goto 6, 3) := by decide +kernel
theorem dX12_reckon_64 : decode cX12_reckon 64 = .ok (.iload_n 1, 1) := by decide +kernel
theorem dX12_reckon_65 : decode cX12_reckon 65 = .ok (.iload_n 2, 1) := by decide +kernel
theorem dX12_reckon_66 : decode cX12_reckon 66 = .ok (.idiv, 1) := by decide +kernel
theorem dX12_reckon_67 : decode cX12_reckon 67 = .ok (.ireturn, 1) := by decide +kernel
theorem dX12_reckon_68 : decode cX12_reckon 68 = .ok (.iload_n 1, 1) := by decide +kernel
theorem dX12_reckon_69 : decode cX12_reckon 69 = .ok (.iload_n 2, 1) := by decide +kernel
theorem dX12_reckon_70 : decode cX12_reckon 70 = .ok (.if_icmp .ge 7, 3) := by decide +kernel
theorem dX12_reckon_73 : decode cX12_reckon 73 = .ok (.iconst 1, 1) := by decide +kernel
theorem dX12_reckon_74 : decode cX12_reckon 74 = .ok (.goto 4, 3) := by decide +kernel
theorem dX12_reckon_77 : decode cX12_reckon 77 = .ok (.iconst 0, 1) := by decide +kernel
theorem dX12_reckon_78 : decode cX12_reckon 78 = .ok (.ireturn, 1) := by decide +kernel
theorem dX12_reckon_79 : decode cX12_reckon 79 = .ok (.iload_n 1, 1) := by decide +kernel
theorem dX12_reckon_80 : decode cX12_reckon 80 = .ok (.iload_n 2, 1) := by decide +kernel
theorem dX12_reckon_81 : decode cX12_reckon 81 = .ok (.if_icmp .ne 7, 3) := by decide +kernel
theorem dX12_reckon_84 : decode cX12_reckon 84 = .ok (.iconst 1, 1) := by decide +kernel
theorem dX12_reckon_85 : decode cX12_reckon 85 = .ok (.goto 4, 3) := by decide +kernel
theorem dX12_reckon_88 : decode cX12_reckon 88 = .ok (.iconst 0, 1) := by decide +kernel
theorem dX12_reckon_89 : decode cX12_reckon 89 = .ok (.ireturn, 1) := by decide +kernel
theorem dX12_reckon_90 : decode cX12_reckon 90 = .ok (.iload_n 1, 1) := by decide +kernel
theorem dX12_reckon_91 : decode cX12_reckon 91 = .ok (.ifCond .eq 11, 3) := by decide +kernel
theorem dX12_reckon_94 : decode cX12_reckon 94 = .ok (.iload_n 2, 1) := by decide +kernel
theorem dX12_reckon_95 : decode cX12_reckon 95 = .ok (.ifCond .eq 7, 3) := by decide +kernel
theorem dX12_reckon_98 : decode cX12_reckon 98 = .ok (.iconst 1, 1) := by decide +kernel
theorem dX12_reckon_99 : decode cX12_reckon 99 = .ok (.goto 4, 3) := by decide +kernel
theorem dX12_reckon_102 : decode cX12_reckon 102 = .ok (.iconst 0, 1) := by decide +kernel
theorem dX12_reckon_103 : decode cX12_reckon 103 = .ok (.ireturn, 1) := by decide +kernel
theorem dX12_reckon_104 : decode cX12_reckon 104 = .ok (.iload_n 1, 1) := by decide +kernel
theorem dX12_reckon_105 : decode cX12_reckon 105 = .ok (.ifCond .ne 7, 3) := by decide +kernel
theorem dX12_reckon_108 : decode cX12_reckon 108 = .ok (.iload_n 2, 1) := by decide +kernel
theorem dX12_reckon_109 : decode cX12_reckon 109 = .ok (.ifCond .eq 7, 3) := by decide +kernel
theorem dX12_reckon_112 : decode cX12_reckon 112 = .ok (.iconst 1, 1) := by decide +kernel
theorem dX12_reckon_113 : decode cX12_reckon 113 = .ok (.goto 4, 3) := by decide +kernel
theorem dX12_reckon_116 : decode cX12_reckon 116 = .ok (.iconst 0, 1) := by decide +kernel
theorem dX12_reckon_117 : decode cX12_reckon 117 = .ok (.ireturn, 1) := by decide +kernel
theorem dX12_valueNow_0 : decode cX12_valueNow 0 = .ok (.iconst 0, 1) := by decide +kernel
theorem dX12_valueNow_1 : decode cX12_valueNow 1 = .ok (.istore_n 1, 1) := by decide +kernel
theorem dX12_valueNow_2 : decode cX12_valueNow 2 = .ok (.iconst 0, 1) := by decide +kernel
theorem dX12_valueNow_3 : decode cX12_valueNow 3 = .ok (.istore_n 2, 1) := by decide +kernel
theorem dX12_valueNow_4 : decode cX12_valueNow 4 = .ok (.iload_n 2, 1) := by decide +kernel
theorem dX12_valueNow_5 : decode cX12_valueNow 5 = .ok (.aload_n 0, 1) := by decide +kernel
theorem dX12_valueNow_6 : decode cX12_valueNow 6 = .ok (.getfield 47, 3) := by decide +kernel
theorem dX12_valueNow_9 : decode cX12_valueNow 9 = .ok (.iconst 2, 1) := by decide +kernel
theorem dX12_valueNow_10 : decode cX12_valueNow 10 = .ok (.iaload, 1) := by decide +kernel
theorem dX12_valueNow_11 : decode cX12_valueNow 11 = .ok (.if_icmp .ge 112, 3) := by decide +kernel
theorem dX12_valueNow_14 : decode cX12_valueNow 14 = .ok (.aload_n 0, 1) := by decide +kernel
theorem dX12_valueNow_15 : decode cX12_valueNow 15 = .ok (.getfield 66, 3) := by decide +kernel
theorem dX12_valueNow_18 : decode cX12_valueNow 18 = .ok (.iload_n 2, 1) := by decide +kernel
theorem dX12_valueNow_19 : decode cX12_valueNow 19 = .ok (.iaload, 1) := by decide +kernel
theorem dX12_valueNow_20 : decode cX12_valueNow 20 = .ok (.istore_n 3, 1) := by decide +kernel
theorem dX12_valueNow_21 : decode cX12_valueNow 21 = .ok (.iload_n 3, 1) := by decide +kernel
theorem dX12_valueNow_22 : decode cX12_valueNow 22 = .ok (.bipush (-20), 2) := by decide +kernel
theorem dX12_valueNow_24 : decode cX12_valueNow 24 = .ok (.if_icmp .le 31, 3) := by decide +kernel
theorem dX12_valueNow_27 : decode cX12_valueNow 27 = .ok (.aload_n 0, 1) := by decide +kernel
theorem dX12_valueNow_28 : decode cX12_valueNow 28 = .ok (.getfield 94, 3) := by decide +kernel
theorem dX12_valueNow_31 : decode cX12_valueNow 31 = .ok (.iload_n 1, 1) := by decide +kernel
theorem dX12_valueNow_32 : decode cX12_valueNow 32 = .ok (.iload_n 3, 1) := by decide +kernel
theorem dX12_valueNow_33 : decode cX12_valueNow 33 = .ok (.ifCond .lt 7, 3) := by decide +kernel
theorem dX12_valueNow_36 : decode cX12_valueNow 36 = .ok (.iload_n 3, 1) := by decide +kernel
theorem dX12_valueNow_37 : decode cX12_valueNow 37 = .ok (.goto 11, 3) := by decide +kernel
theorem dX12_valueNow_40 : decode cX12_valueNow 40 = .ok (.aload_n 0, 1) := by decide +kernel
theorem dX12_valueNow_41 : decode cX12_valueNow 41 = .ok (.getfield 91, 3) := by decide +kernel
theorem dX12_valueNow_44 : decode cX12_valueNow 44 = .ok (.iconst (-1), 1) := by decide +kernel
theorem dX12_valueNow_45 : decode cX12_valueNow 45 = .ok (.iload_n 3, 1) := by decide +kernel
theorem dX12_valueNow_46 : decode cX12_valueNow 46 = .ok (.isub, 1) := by decide +kernel
theorem dX12_valueNow_47 : decode cX12_valueNow 47 = .ok (.iaload, 1) := by decide +kernel
theorem dX12_valueNow_48 : decode cX12_valueNow 48 = .ok (.iastore, 1) := by decide +kernel
theorem dX12_valueNow_49 : decode cX12_valueNow 49 = .ok (.iinc 1 1, 3) := by decide +kernel
theorem dX12_valueNow_52 : decode cX12_valueNow 52 = .ok (.goto 65, 3) := by decide +kernel
theorem dX12_valueNow_55 : decode cX12_valueNow 55 = .ok (.iload_n 3, 1) := by decide +kernel
theorem dX12_valueNow_56 : decode cX12_valueNow 56 = .ok (.bipush (-28), 2) := by decide +kernel
theorem dX12_valueNow_58 : decode cX12_valueNow 58 = .ok (.if_icmp .ne 30, 3) := by decide +kernel
theorem dX12_valueNow_61 : decode cX12_valueNow 61 = .ok (.aload_n 0, 1) := by decide +kernel
theorem dX12_valueNow_62 : decode cX12_valueNow 62 = .ok (.getfield 94, 3) := by decide +kernel
theorem dX12_valueNow_65 : decode cX12_valueNow 65 = .ok (.iload_n 1, 1) := by decide +kernel
theorem dX12_valueNow_66 : decode cX12_valueNow 66 = .ok (.iconst 1, 1) := by decide +kernel
theorem dX12_valueNow_67 : decode cX12_valueNow 67 = .ok (.isub, 1) := by decide +kernel
theorem dX12_valueNow_68 : decode cX12_valueNow 68 = .ok (.aload_n 0, 1) := by decide +kernel
theorem dX12_valueNow_69 : decode cX12_valueNow 69 = .ok (.getfield 94, 3) := by decide +kernel
theorem dX12_valueNow_72 : decode cX12_valueNow 72 = .ok (.iload_n 1, 1) := by decide +kernel
theorem dX12_valueNow_73 : decode cX12_valueNow 73 = .ok (.iconst 1, 1) := by decide +kernel
theorem dX12_valueNow_74 : decode cX12_valueNow 74 = .ok (.isub, 1) := by decide +kernel
theorem dX12_valueNow_75 : decode cX12_valueNow 75 = .ok (.iaload, 1) := by decide +kernel
theorem dX12_valueNow_76 : decode cX12_valueNow 76 = .ok (.ifCond .eq 7, 3) := by decide +kernel
theorem dX12_valueNow_79 : decode cX12_valueNow 79 = .ok (.iconst 0, 1) := by decide +kernel
theorem dX12_valueNow_80 : decode cX12_valueNow 80 = .ok (.goto 4, 3) := by decide +kernel
theorem dX12_valueNow_83 : decode cX12_valueNow 83 = .ok (.iconst 1, 1) := by decide +kernel
theorem dX12_valueNow_84 : decode cX12_valueNow 84 = .ok (.iastore, 1) := by decide +kernel
theorem dX12_valueNow_85 : decode cX12_valueNow 85 = .ok (.goto 32, 3) := by decide +kernel
theorem dX12_valueNow_88 : decode cX12_valueNow 88 = .ok (.iinc 1 (-1), 3) := by decide +kernel
theorem dX12_valueNow_91 : decode cX12_valueNow 91 = .ok (.aload_n 0, 1) := by decide +kernel
theorem dX12_valueNow_92 : decode cX12_valueNow 92 = .ok (.getfield 94, 3) := by decide +kernel
theorem dX12_valueNow_95 : decode cX12_valueNow 95 = .ok (.iload_n 1, 1) := by decide +kernel
theorem dX12_valueNow_96 : decode cX12_valueNow 96 = .ok (.iconst 1, 1) := by decide +kernel
theorem dX12_valueNow_97 : decode cX12_valueNow 97 = .ok (.isub, 1) := by decide +kernel
theorem dX12_valueNow_98 : decode cX12_valueNow 98 = .ok (.iload_n 3, 1) := by decide +kernel
theorem dX12_valueNow_99 : decode cX12_valueNow 99 = .ok (.aload_n 0, 1) := by decide +kernel
theorem dX12_valueNow_100 : decode cX12_valueNow 100 = .ok (.getfield 94, 3) := by decide +kernel
theorem dX12_valueNow_103 : decode cX12_valueNow 103 = .ok (.iload_n 1, 1) := by decide +kernel
theorem dX12_valueNow_104 : decode cX12_valueNow 104 = .ok (.iconst 1, 1) := by decide +kernel
theorem dX12_valueNow_105 : decode cX12_valueNow 105 = .ok (.isub, 1) := by decide +kernel
theorem dX12_valueNow_106 : decode cX12_valueNow 106 = .ok (.iaload, 1) := by decide +kernel
theorem dX12_valueNow_107 : decode cX12_valueNow 107 = .ok (.aload_n 0, 1) := by decide +kernel
theorem dX12_valueNow_108 : decode cX12_valueNow 108 = .ok (.getfield 94, 3) := by decide +kernel
theorem dX12_valueNow_111 : decode cX12_valueNow 111 = .ok (.iload_n 1, 1) := by decide +kernel
theorem dX12_valueNow_112 : decode cX12_valueNow 112 = .ok (.iaload, 1) := by decide +kernel
theorem dX12_valueNow_113 : decode cX12_valueNow 113 = .ok (.invokestatic 348, 3) := by decide +kernel
theorem dX12_valueNow_116 : decode cX12_valueNow 116 = .ok (.iastore, 1) := by decide +kernel
theorem dX12_valueNow_117 : decode cX12_valueNow 117 = .ok (.iinc 2 1, 3) := by decide +kernel
theorem dX12_valueNow_120 : decode cX12_valueNow 120 = .ok (.goto (-116), 3) := by decide +kernel
theorem dX12_valueNow_123 : decode cX12_valueNow 123 = .ok (.aload_n 0, 1) := by decide +kernel
theorem dX12_valueNow_124 : decode cX12_valueNow 124 = .ok (.getfield 94, 3) := by decide +kernel
theorem dX12_valueNow_127 : decode cX12_valueNow 127 = .ok (.iconst 0, 1) := by decide +kernel
theorem dX12_valueNow_128 : decode cX12_valueNow 128 = .ok (.iaload, 1) := by decide +kernel
theorem dX12_valueNow_129 : decode cX12_valueNow 129 = .ok (.ireturn, 1) := by decide +kernel
theorem dX12_joins_0 : decode cX12_joins 0 = .ok (.iload_n 1, 1) := by decide +kernel
theorem dX12_joins_1 : decode cX12_joins 1 = .ok (.iconst (-1), 1) := by decide +kernel
theorem dX12_joins_2 : decode cX12_joins 2 = .ok (.if_icmp .eq 12, 3) := by decide +kernel
theorem dX12_joins_5 : decode cX12_joins 5 = .ok (.aload_n 0, 1) := by decide +kernel
theorem dX12_joins_6 : decode cX12_joins 6 = .ok (.getfield 47, 3) := by decide +kernel
theorem dX12_joins_9 : decode cX12_joins 9 = .ok (.iconst 2, 1) := by decide +kernel
theorem dX12_joins_10 : decode cX12_joins 10 = .ok (.iaload, 1) := by decide +kernel
theorem dX12_joins_11 : decode cX12_joins 11 = .ok (.ifCond .ne 5, 3) := by decide +kernel
theorem dX12_joins_14 : decode cX12_joins 14 = .ok (.iconst 1, 1) := by decide +kernel
theorem dX12_joins_15 : decode cX12_joins 15 = .ok (.ireturn, 1) := by decide +kernel
theorem dX12_joins_16 : decode cX12_joins 16 = .ok (.aload_n 0, 1) := by decide +kernel
theorem dX12_joins_17 : decode cX12_joins 17 = .ok (.getfield 91, 3) := by decide +kernel
theorem dX12_joins_20 : decode cX12_joins 20 = .ok (.iconst 0, 1) := by decide +kernel
theorem dX12_joins_21 : decode cX12_joins 21 = .ok (.aload_n 0, 1) := by decide +kernel
theorem dX12_joins_22 : decode cX12_joins 22 = .ok (.getfield 82, 3) := by decide +kernel
theorem dX12_joins_25 : decode cX12_joins 25 = .ok (.iload_n 1, 1) := by decide +kernel
theorem dX12_joins_26 : decode cX12_joins 26 = .ok (.iaload, 1) := by decide +kernel
theorem dX12_joins_27 : decode cX12_joins 27 = .ok (.iastore, 1) := by decide +kernel
theorem dX12_joins_28 : decode cX12_joins 28 = .ok (.aload_n 0, 1) := by decide +kernel
theorem dX12_joins_29 : decode cX12_joins 29 = .ok (.getfield 91, 3) := by decide +kernel
theorem dX12_joins_32 : decode cX12_joins 32 = .ok (.iconst 1, 1) := by decide +kernel
theorem dX12_joins_33 : decode cX12_joins 33 = .ok (.aload_n 0, 1) := by decide +kernel
theorem dX12_joins_34 : decode cX12_joins 34 = .ok (.getfield 82, 3) := by decide +kernel
theorem dX12_joins_37 : decode cX12_joins 37 = .ok (.iload_n 2, 1) := by decide +kernel
theorem dX12_joins_38 : decode cX12_joins 38 = .ok (.iaload, 1) := by decide +kernel
theorem dX12_joins_39 : decode cX12_joins 39 = .ok (.iastore, 1) := by decide +kernel
theorem dX12_joins_40 : decode cX12_joins 40 = .ok (.aload_n 0, 1) := by decide +kernel
theorem dX12_joins_41 : decode cX12_joins 41 = .ok (.getfield 91, 3) := by decide +kernel
theorem dX12_joins_44 : decode cX12_joins 44 = .ok (.iconst 2, 1) := by decide +kernel
theorem dX12_joins_45 : decode cX12_joins 45 = .ok (.aload_n 0, 1) := by decide +kernel
theorem dX12_joins_46 : decode cX12_joins 46 = .ok (.getfield 85, 3) := by decide +kernel
theorem dX12_joins_49 : decode cX12_joins 49 = .ok (.iload_n 1, 1) := by decide +kernel
theorem dX12_joins_50 : decode cX12_joins 50 = .ok (.iaload, 1) := by decide +kernel
theorem dX12_joins_51 : decode cX12_joins 51 = .ok (.iastore, 1) := by decide +kernel
theorem dX12_joins_52 : decode cX12_joins 52 = .ok (.aload_n 0, 1) := by decide +kernel
theorem dX12_joins_53 : decode cX12_joins 53 = .ok (.getfield 91, 3) := by decide +kernel
theorem dX12_joins_56 : decode cX12_joins 56 = .ok (.iconst 3, 1) := by decide +kernel
theorem dX12_joins_57 : decode cX12_joins 57 = .ok (.aload_n 0, 1) := by decide +kernel
theorem dX12_joins_58 : decode cX12_joins 58 = .ok (.getfield 85, 3) := by decide +kernel
theorem dX12_joins_61 : decode cX12_joins 61 = .ok (.iload_n 2, 1) := by decide +kernel
theorem dX12_joins_62 : decode cX12_joins 62 = .ok (.iaload, 1) := by decide +kernel
theorem dX12_joins_63 : decode cX12_joins 63 = .ok (.iastore, 1) := by decide +kernel
theorem dX12_joins_64 : decode cX12_joins 64 = .ok (.aload_n 0, 1) := by decide +kernel
theorem dX12_joins_65 : decode cX12_joins 65 = .ok (.getfield 91, 3) := by decide +kernel
theorem dX12_joins_68 : decode cX12_joins 68 = .ok (.iconst 4, 1) := by decide +kernel
theorem dX12_joins_69 : decode cX12_joins 69 = .ok (.aload_n 0, 1) := by decide +kernel
theorem dX12_joins_70 : decode cX12_joins 70 = .ok (.getfield 79, 3) := by decide +kernel
theorem dX12_joins_73 : decode cX12_joins 73 = .ok (.iload_n 2, 1) := by decide +kernel
theorem dX12_joins_74 : decode cX12_joins 74 = .ok (.iaload, 1) := by decide +kernel
theorem dX12_joins_75 : decode cX12_joins 75 = .ok (.invokestatic 322, 3) := by decide +kernel
theorem dX12_joins_78 : decode cX12_joins 78 = .ok (.iastore, 1) := by decide +kernel
theorem dX12_joins_79 : decode cX12_joins 79 = .ok (.aload_n 0, 1) := by decide +kernel
theorem dX12_joins_80 : decode cX12_joins 80 = .ok (.getfield 91, 3) := by decide +kernel
theorem dX12_joins_83 : decode cX12_joins 83 = .ok (.iconst 5, 1) := by decide +kernel
theorem dX12_joins_84 : decode cX12_joins 84 = .ok (.iload_n 1, 1) := by decide +kernel
theorem dX12_joins_85 : decode cX12_joins 85 = .ok (.iload_n 2, 1) := by decide +kernel
theorem dX12_joins_86 : decode cX12_joins 86 = .ok (.if_icmp .ne 7, 3) := by decide +kernel
theorem dX12_joins_89 : decode cX12_joins 89 = .ok (.iconst 1, 1) := by decide +kernel
theorem dX12_joins_90 : decode cX12_joins 90 = .ok (.goto 4, 3) := by decide +kernel
theorem dX12_joins_93 : decode cX12_joins 93 = .ok (.iconst 0, 1) := by decide +kernel
theorem dX12_joins_94 : decode cX12_joins 94 = .ok (.iastore, 1) := by decide +kernel
theorem dX12_joins_95 : decode cX12_joins 95 = .ok (.aload_n 0, 1) := by decide +kernel
theorem dX12_joins_96 : decode cX12_joins 96 = .ok (.invokevirtual 352, 3) := by decide +kernel
theorem dX12_joins_99 : decode cX12_joins 99 = .ok (.ifCond .eq 7, 3) := by decide +kernel
theorem dX12_joins_102 : decode cX12_joins 102 = .ok (.iconst 1, 1) := by decide +kernel
theorem dX12_joins_103 : decode cX12_joins 103 = .ok (.goto 4, 3) := by decide +kernel
theorem dX12_joins_106 : decode cX12_joins 106 = .ok (.iconst 0, 1) := by decide +kernel
theorem dX12_joins_107 : decode cX12_joins 107 = .ok (.ireturn, 1) := by decide +kernel
theorem dX12_tellReadings_0 : decode cX12_tellReadings 0 = .ok (.aload_n 0, 1) := by decide +kernel
theorem dX12_tellReadings_1 : decode cX12_tellReadings 1 = .ok (.iload_n 1, 1) := by decide +kernel
theorem dX12_tellReadings_2 : decode cX12_tellReadings 2 = .ok (.invokevirtual 358, 3) := by decide +kernel
theorem dX12_tellReadings_5 : decode cX12_tellReadings 5 = .ok (.aload_n 0, 1) := by decide +kernel
theorem dX12_tellReadings_6 : decode cX12_tellReadings 6 = .ok (.getfield 355, 3) := by decide +kernel
theorem dX12_tellReadings_9 : decode cX12_tellReadings 9 = .ok (.istore_n 2, 1) := by decide +kernel
theorem dX12_tellReadings_10 : decode cX12_tellReadings 10 = .ok (.iload_n 2, 1) := by decide +kernel
theorem dX12_tellReadings_11 : decode cX12_tellReadings 11 = .ok (.ifCond .lt 197, 3) := by decide +kernel
theorem dX12_tellReadings_14 : decode cX12_tellReadings 14 = .ok (.iconst 0, 1) := by decide +kernel
theorem dX12_tellReadings_15 : decode cX12_tellReadings 15 = .ok (.istore_n 3, 1) := by decide +kernel
theorem dX12_tellReadings_16 : decode cX12_tellReadings 16 = .ok (.iload_n 3, 1) := by decide +kernel
theorem dX12_tellReadings_17 : decode cX12_tellReadings 17 = .ok (.bipush 10, 2) := by decide +kernel
theorem dX12_tellReadings_19 : decode cX12_tellReadings 19 = .ok (.if_icmp .gt 183, 3) := by decide +kernel
theorem dX12_tellReadings_22 : decode cX12_tellReadings 22 = .ok (.bipush 11, 2) := by decide +kernel
theorem dX12_tellReadings_24 : decode cX12_tellReadings 24 = .ok (.iload_n 2, 1) := by decide +kernel
theorem dX12_tellReadings_25 : decode cX12_tellReadings 25 = .ok (.imul, 1) := by decide +kernel
theorem dX12_tellReadings_26 : decode cX12_tellReadings 26 = .ok (.iload_n 3, 1) := by decide +kernel
theorem dX12_tellReadings_27 : decode cX12_tellReadings 27 = .ok (.iadd, 1) := by decide +kernel
theorem dX12_tellReadings_28 : decode cX12_tellReadings 28 = .ok (.istore 4, 2) := by decide +kernel
theorem dX12_tellReadings_30 : decode cX12_tellReadings 30 = .ok (.aload_n 0, 1) := by decide +kernel
theorem dX12_tellReadings_31 : decode cX12_tellReadings 31 = .ok (.getfield 109, 3) := by decide +kernel
theorem dX12_tellReadings_34 : decode cX12_tellReadings 34 = .ok (.iload 4, 2) := by decide +kernel
theorem dX12_tellReadings_36 : decode cX12_tellReadings 36 = .ok (.iload_n 2, 1) := by decide +kernel
theorem dX12_tellReadings_37 : decode cX12_tellReadings 37 = .ok (.aload_n 0, 1) := by decide +kernel
theorem dX12_tellReadings_38 : decode cX12_tellReadings 38 = .ok (.getfield 355, 3) := by decide +kernel
theorem dX12_tellReadings_41 : decode cX12_tellReadings 41 = .ok (.if_icmp .ne 7, 3) := by decide +kernel
theorem dX12_tellReadings_44 : decode cX12_tellReadings 44 = .ok (.lconst 1, 1) := by decide +kernel
theorem dX12_tellReadings_45 : decode cX12_tellReadings 45 = .ok (.goto 4, 3) := by decide +kernel
theorem dX12_tellReadings_48 : decode cX12_tellReadings 48 = .ok (.lconst 0, 1) := by decide +kernel
theorem dX12_tellReadings_49 : decode cX12_tellReadings 49 = .ok (.lastore, 1) := by decide +kernel
theorem dX12_tellReadings_50 : decode cX12_tellReadings 50 = .ok (.aload_n 0, 1) := by decide +kernel
theorem dX12_tellReadings_51 : decode cX12_tellReadings 51 = .ok (.getfield 100, 3) := by decide +kernel
theorem dX12_tellReadings_54 : decode cX12_tellReadings 54 = .ok (.iload 4, 2) := by decide +kernel
theorem dX12_tellReadings_56 : decode cX12_tellReadings 56 = .ok (.iload_n 2, 1) := by decide +kernel
theorem dX12_tellReadings_57 : decode cX12_tellReadings 57 = .ok (.aload_n 0, 1) := by decide +kernel
theorem dX12_tellReadings_58 : decode cX12_tellReadings 58 = .ok (.getfield 355, 3) := by decide +kernel
theorem dX12_tellReadings_61 : decode cX12_tellReadings 61 = .ok (.if_icmp .ne 7, 3) := by decide +kernel
theorem dX12_tellReadings_64 : decode cX12_tellReadings 64 = .ok (.iconst 0, 1) := by decide +kernel
theorem dX12_tellReadings_65 : decode cX12_tellReadings 65 = .ok (.goto 5, 3) := by decide +kernel
theorem dX12_tellReadings_68 : decode cX12_tellReadings 68 = .ok (.ldc 199, 2) := by decide +kernel
theorem dX12_tellReadings_70 : decode cX12_tellReadings 70 = .ok (.iastore, 1) := by decide +kernel
theorem dX12_tellReadings_71 : decode cX12_tellReadings 71 = .ok (.iconst 0, 1) := by decide +kernel
theorem dX12_tellReadings_72 : decode cX12_tellReadings 72 = .ok (.istore 5, 2) := by decide +kernel
theorem dX12_tellReadings_74 : decode cX12_tellReadings 74 = .ok (.iload 5, 2) := by decide +kernel
theorem dX12_tellReadings_76 : decode cX12_tellReadings 76 = .ok (.aload_n 0, 1) := by decide +kernel
theorem dX12_tellReadings_77 : decode cX12_tellReadings 77 = .ok (.getfield 162, 3) := by decide +kernel
theorem dX12_tellReadings_80 : decode cX12_tellReadings 80 = .ok (.if_icmp .ge 116, 3) := by decide +kernel
theorem dX12_tellReadings_83 : decode cX12_tellReadings 83 = .ok (.iload_n 3, 1) := by decide +kernel
theorem dX12_tellReadings_84 : decode cX12_tellReadings 84 = .ok (.bipush 10, 2) := by decide +kernel
theorem dX12_tellReadings_86 : decode cX12_tellReadings 86 = .ok (.if_icmp .eq 11, 3) := by decide +kernel
theorem dX12_tellReadings_89 : decode cX12_tellReadings 89 = .ok (.iload_n 3, 1) := by decide +kernel
theorem dX12_tellReadings_90 : decode cX12_tellReadings 90 = .ok (.aload_n 0, 1) := by decide +kernel
theorem dX12_tellReadings_91 : decode cX12_tellReadings 91 = .ok (.getfield 162, 3) := by decide +kernel
theorem dX12_tellReadings_94 : decode cX12_tellReadings 94 = .ok (.if_icmp .ge 102, 3) := by decide +kernel
theorem dX12_tellReadings_97 : decode cX12_tellReadings 97 = .ok (.aload_n 0, 1) := by decide +kernel
theorem dX12_tellReadings_98 : decode cX12_tellReadings 98 = .ok (.iload 5, 2) := by decide +kernel
theorem dX12_tellReadings_100 : decode cX12_tellReadings 100 = .ok (.iload_n 2, 1) := by decide +kernel
theorem dX12_tellReadings_101 : decode cX12_tellReadings 101 = .ok (.invokevirtual 361, 3) := by decide +kernel
theorem dX12_tellReadings_104 : decode cX12_tellReadings 104 = .ok (.ifCond .eq 86, 3) := by decide +kernel
theorem dX12_tellReadings_107 : decode cX12_tellReadings 107 = .ok (.aload_n 0, 1) := by decide +kernel
theorem dX12_tellReadings_108 : decode cX12_tellReadings 108 = .ok (.iload_n 3, 1) := by decide +kernel
theorem dX12_tellReadings_109 : decode cX12_tellReadings 109 = .ok (.bipush 10, 2) := by decide +kernel
theorem dX12_tellReadings_111 : decode cX12_tellReadings 111 = .ok (.if_icmp .ne 7, 3) := by decide +kernel
theorem dX12_tellReadings_114 : decode cX12_tellReadings 114 = .ok (.iconst (-1), 1) := by decide +kernel
theorem dX12_tellReadings_115 : decode cX12_tellReadings 115 = .ok (.goto 4, 3) := by decide +kernel
theorem dX12_tellReadings_118 : decode cX12_tellReadings 118 = .ok (.iload_n 3, 1) := by decide +kernel
theorem dX12_tellReadings_119 : decode cX12_tellReadings 119 = .ok (.iload 5, 2) := by decide +kernel
theorem dX12_tellReadings_121 : decode cX12_tellReadings 121 = .ok (.invokevirtual 364, 3) := by decide +kernel
theorem dX12_tellReadings_124 : decode cX12_tellReadings 124 = .ok (.ifCond .ne 6, 3) := by decide +kernel
theorem dX12_tellReadings_127 : decode cX12_tellReadings 127 = .ok (.goto 63, 3) := by decide +kernel
theorem dX12_tellReadings_130 : decode cX12_tellReadings 130 = .ok (.bipush 11, 2) := by decide +kernel
theorem dX12_tellReadings_132 : decode cX12_tellReadings 132 = .ok (.iload_n 2, 1) := by decide +kernel
theorem dX12_tellReadings_133 : decode cX12_tellReadings 133 = .ok (.aload_n 0, 1) := by decide +kernel
theorem dX12_tellReadings_134 : decode cX12_tellReadings 134 = .ok (.getfield 106, 3) := by decide +kernel
theorem dX12_tellReadings_137 : decode cX12_tellReadings 137 = .ok (.iload 5, 2) := by decide +kernel
theorem dX12_tellReadings_139 : decode cX12_tellReadings 139 = .ok (.iaload, 1) := by decide +kernel
theorem dX12_tellReadings_140 : decode cX12_tellReadings 140 = .ok (.iadd, 1) := by decide +kernel
theorem dX12_tellReadings_141 : decode cX12_tellReadings 141 = .ok (.imul, 1) := by decide +kernel
theorem dX12_tellReadings_142 : decode cX12_tellReadings 142 = .ok (.iload 5, 2) := by decide +kernel
theorem dX12_tellReadings_144 : decode cX12_tellReadings 144 = .ok (.iadd, 1) := by decide +kernel
theorem dX12_tellReadings_145 : decode cX12_tellReadings 145 = .ok (.istore 6, 2) := by decide +kernel
theorem dX12_tellReadings_147 : decode cX12_tellReadings 147 = .ok (.aload_n 0, 1) := by decide +kernel
theorem dX12_tellReadings_148 : decode cX12_tellReadings 148 = .ok (.getfield 109, 3) := by decide +kernel
theorem dX12_tellReadings_151 : decode cX12_tellReadings 151 = .ok (.iload 4, 2) := by decide +kernel
theorem dX12_tellReadings_153 : decode cX12_tellReadings 153 = .ok (.dup2, 1) := by decide +kernel
theorem dX12_tellReadings_154 : decode cX12_tellReadings 154 = .ok (.laload, 1) := by decide +kernel
theorem dX12_tellReadings_155 : decode cX12_tellReadings 155 = .ok (.aload_n 0, 1) := by decide +kernel
theorem dX12_tellReadings_156 : decode cX12_tellReadings 156 = .ok (.getfield 109, 3) := by decide +kernel
theorem dX12_tellReadings_159 : decode cX12_tellReadings 159 = .ok (.iload 6, 2) := by decide +kernel
theorem dX12_tellReadings_161 : decode cX12_tellReadings 161 = .ok (.laload, 1) := by decide +kernel
theorem dX12_tellReadings_162 : decode cX12_tellReadings 162 = .ok (.ladd, 1) := by decide +kernel
theorem dX12_tellReadings_163 : decode cX12_tellReadings 163 = .ok (.lastore, 1) := by decide +kernel
theorem dX12_tellReadings_164 : decode cX12_tellReadings 164 = .ok (.aload_n 0, 1) := by decide +kernel
theorem dX12_tellReadings_165 : decode cX12_tellReadings 165 = .ok (.getfield 100, 3) := by decide +kernel
theorem dX12_tellReadings_168 : decode cX12_tellReadings 168 = .ok (.iload 4, 2) := by decide +kernel
theorem dX12_tellReadings_170 : decode cX12_tellReadings 170 = .ok (.aload_n 0, 1) := by decide +kernel
theorem dX12_tellReadings_171 : decode cX12_tellReadings 171 = .ok (.getfield 100, 3) := by decide +kernel
theorem dX12_tellReadings_174 : decode cX12_tellReadings 174 = .ok (.iload 4, 2) := by decide +kernel
theorem dX12_tellReadings_176 : decode cX12_tellReadings 176 = .ok (.iaload, 1) := by decide +kernel
theorem dX12_tellReadings_177 : decode cX12_tellReadings 177 = .ok (.iconst 1, 1) := by decide +kernel
theorem dX12_tellReadings_178 : decode cX12_tellReadings 178 = .ok (.aload_n 0, 1) := by decide +kernel
theorem dX12_tellReadings_179 : decode cX12_tellReadings 179 = .ok (.getfield 100, 3) := by decide +kernel
theorem dX12_tellReadings_182 : decode cX12_tellReadings 182 = .ok (.iload 6, 2) := by decide +kernel
theorem dX12_tellReadings_184 : decode cX12_tellReadings 184 = .ok (.iaload, 1) := by decide +kernel
theorem dX12_tellReadings_185 : decode cX12_tellReadings 185 = .ok (.iadd, 1) := by decide +kernel
theorem dX12_tellReadings_186 : decode cX12_tellReadings 186 = .ok (.invokestatic 200, 3) := by decide +kernel
theorem dX12_tellReadings_189 : decode cX12_tellReadings 189 = .ok (.iastore, 1) := by decide +kernel
theorem dX12_tellReadings_190 : decode cX12_tellReadings 190 = .ok (.iinc 5 1, 3) := by decide +kernel
theorem dX12_tellReadings_193 : decode cX12_tellReadings 193 = .ok (.goto (-119), 3) := by decide +kernel
theorem dX12_tellReadings_196 : decode cX12_tellReadings 196 = .ok (.iinc 3 1, 3) := by decide +kernel
theorem dX12_tellReadings_199 : decode cX12_tellReadings 199 = .ok (.goto (-183), 3) := by decide +kernel
theorem dX12_tellReadings_202 : decode cX12_tellReadings 202 = .ok (.iinc 2 (-1), 3) := by decide +kernel
theorem dX12_tellReadings_205 : decode cX12_tellReadings 205 = .ok (.goto (-195), 3) := by decide +kernel
theorem dX12_tellReadings_208 : decode cX12_tellReadings 208 = .ok (.return_, 1) := by decide +kernel
theorem dX12_fewest_0 : decode cX12_fewest 0 = .ok (.aload_n 0, 1) := by decide +kernel
theorem dX12_fewest_1 : decode cX12_fewest 1 = .ok (.iload_n 1, 1) := by decide +kernel
theorem dX12_fewest_2 : decode cX12_fewest 2 = .ok (.invokevirtual 366, 3) := by decide +kernel
theorem dX12_fewest_5 : decode cX12_fewest 5 = .ok (.iload_n 1, 1) := by decide +kernel
theorem dX12_fewest_6 : decode cX12_fewest 6 = .ok (.ifCond .eq 15, 3) := by decide +kernel
theorem dX12_fewest_9 : decode cX12_fewest 9 = .ok (.aload_n 0, 1) := by decide +kernel
theorem dX12_fewest_10 : decode cX12_fewest 10 = .ok (.getfield 100, 3) := by decide +kernel
theorem dX12_fewest_13 : decode cX12_fewest 13 = .ok (.bipush 10, 2) := by decide +kernel
theorem dX12_fewest_15 : decode cX12_fewest 15 = .ok (.iaload, 1) := by decide +kernel
theorem dX12_fewest_16 : decode cX12_fewest 16 = .ok (.ldc 199, 2) := by decide +kernel
theorem dX12_fewest_18 : decode cX12_fewest 18 = .ok (.if_icmp .lt 7, 3) := by decide +kernel
theorem dX12_fewest_21 : decode cX12_fewest 21 = .ok (.iconst 0, 1) := by decide +kernel
theorem dX12_fewest_22 : decode cX12_fewest 22 = .ok (.goto 10, 3) := by decide +kernel
theorem dX12_fewest_25 : decode cX12_fewest 25 = .ok (.aload_n 0, 1) := by decide +kernel
theorem dX12_fewest_26 : decode cX12_fewest 26 = .ok (.getfield 100, 3) := by decide +kernel
theorem dX12_fewest_29 : decode cX12_fewest 29 = .ok (.bipush 10, 2) := by decide +kernel
theorem dX12_fewest_31 : decode cX12_fewest 31 = .ok (.iaload, 1) := by decide +kernel
theorem dX12_fewest_32 : decode cX12_fewest 32 = .ok (.ireturn, 1) := by decide +kernel
def jn_MD_wordsOf_38 (n : Nat) (rec : Int32 → Int32 → Option (Int32)) (v1 : Int32) (v3 : Int32) (w0 : Int32) (w1 : Int32) (μ : kbM) : Option (Int32) :=
  rec (w0 ||| w1) (v3 + 1)
theorem jnR_MD_wordsOf_38 {l : Launch} (n : Nat)   (v1 : Int32) (v3 : Int32) (w0 : Int32) (w1 : Int32) (μ : kbM) {Q : kbQt} {P : Int32 → Prop} (hx : ∀ z : Int32, P (z) → kbR l MX12_wordsOf 3 Q 46 [none, none, some (.int z), none] [] μ) {rec : Int32 → Int32 → Option (Int32)} (hrec : ∀ (v2 : Int32) (v3 : Int32), kbG (rec v2 v3) P → kbR l MX12_wordsOf 3 Q 4 [some (.ref 57), some (.int v1), some (.int v2), some (.int v3)] [] μ) (h : kbG (jn_MD_wordsOf_38 n rec v1 v3 w0 w1 μ) P) : kbR l MX12_wordsOf 3 Q 38 [some (.ref 57), some (.int v1), none, some (.int v3)] [.int w1, .int w0] μ := by
  unfold jn_MD_wordsOf_38 at h
  refine r_ior dX12_wordsOf_38 ?_
  refine r_istore_n dX12_wordsOf_39 (Nat.le_of_ble_eq_true rfl) rfl ?_
  refine r_iinc 1 dX12_wordsOf_40 rfl (by decide) (Nat.le_of_ble_eq_true rfl) rfl ?_
  refine r_goto 4 dX12_wordsOf_43 (by decide) ?_
  refine r_le [some (.ref 57), some (.int v1), some (.int (w0 ||| w1)), some (.int (v3 + 1))] ⟨rfl, ⟨rfl, ⟨rfl, ⟨rfl, trivial⟩⟩⟩⟩ ?_
  exact hrec (w0 ||| w1) (v3 + 1) h
def lp_MD_wordsOf_4 (n : Nat) (v1 : Int32) (μ : kbM) : Nat → Int32 → Int32 → Option (Int32)
  | 0, _, _ => none
  | k + 1, v2, v3 =>
    if (μ.1 57 27) ≤ v3 then
      some v2
    else
      kbIf (kbIn v1 12) <|
      kbIf (kbIn v3 10) <|
      (f_MD_can n (μ.1 66 v1.toNatClampNeg) (μ.1 70 v3.toNatClampNeg)).bind fun x1 =>
      if x1 = 0 then
        jn_MD_wordsOf_38 n (lp_MD_wordsOf_4 n v1 μ k) v1 v3 v2 0 μ
      else
        jn_MD_wordsOf_38 n (lp_MD_wordsOf_4 n v1 μ k) v1 v3 v2 (kbShl 1 v3) μ
theorem lpR_MD_wordsOf_4 {l : Launch} (n : Nat) (v1 : Int32) (μ : kbM)  {Q : kbQt} {P : Int32 → Prop} (hx : ∀ z : Int32, P (z) → kbR l MX12_wordsOf 3 Q 46 [none, none, some (.int z), none] [] μ) : ∀ (k : Nat) (v2 : Int32) (v3 : Int32), kbG (lp_MD_wordsOf_4 n v1 μ k v2 v3) P → kbR l MX12_wordsOf 3 Q 4 [some (.ref 57), some (.int v1), some (.int v2), some (.int v3)] [] μ := by
  intro k
  induction k with
  | zero => intro v2 v3 h; exact absurd h kbG_none
  | succ k ih =>
    intro v2 v3 h
    unfold lp_MD_wordsOf_4 at h
    refine r_iload_n dX12_wordsOf_4 rfl ?_
    refine r_aload_n dX12_wordsOf_5 rfl ?_
    refine r_getI flX12_162 sh57 rfl dX12_wordsOf_6 ?_
    refine r_icmp_ge 46 dX12_wordsOf_9 (by decide) (fun hc => ?_) (fun hc => ?_)
    · replace h := kbG_t hc h
      refine r_le [none, none, some (.int v2), none] ⟨rfl, trivial⟩ ?_
      exact hx v2 (kbG_some h)
    · replace h := kbG_f hc h
      refine r_iload_n dX12_wordsOf_12 rfl ?_
      refine r_aload_n dX12_wordsOf_13 rfl ?_
      refine r_getR flX12_63 sh57 rfl dX12_wordsOf_14 ?_
      refine r_iload_n dX12_wordsOf_17 rfl ?_
      obtain ⟨hin, h⟩ := kbG_if h
      replace hin := kbIn_of hin
      refine q_iald v1.toNatClampNeg rfl sh66 hin dX12_wordsOf_18 ?_
      refine r_aload_n dX12_wordsOf_19 rfl ?_
      refine r_getR flX12_79 sh57 rfl dX12_wordsOf_20 ?_
      refine r_iload_n dX12_wordsOf_23 rfl ?_
      obtain ⟨hin, h⟩ := kbG_if h
      replace hin := kbIn_of hin
      refine q_iald v3.toNatClampNeg rfl sh70 hin dX12_wordsOf_24 ?_
      obtain ⟨x1, hx0, h⟩ := kbG_bind h
      refine r_inv_i csX12_325 (sp_MD_can n (μ.1 66 v1.toNatClampNeg) (μ.1 70 v3.toNatClampNeg) μ hx0) rfl rfl (Nat.le_of_ble_eq_true rfl) (Nat.le_of_ble_eq_true rfl) dX12_wordsOf_25 ?_
      refine r_if_eq 37 dX12_wordsOf_28 (by decide) (fun hc => ?_) (fun hc => ?_)
      · replace h := kbG_t hc h
        refine r_iconst 0 dX12_wordsOf_37 (by decide) ?_
        refine r_le [some (.ref 57), some (.int v1), none, some (.int v3)] ⟨rfl, ⟨rfl, ⟨rfl, trivial⟩⟩⟩ ?_
        exact jnR_MD_wordsOf_38 n v1 v3 v2 0 μ (hx := hx) (hrec := ih) h
      · replace h := kbG_f hc h
        refine r_iconst 1 dX12_wordsOf_31 (by decide) ?_
        refine r_iload_n dX12_wordsOf_32 rfl ?_
        refine r_shl dX12_wordsOf_33 ?_
        refine r_goto 38 dX12_wordsOf_34 (by decide) ?_
        refine r_le [some (.ref 57), some (.int v1), none, some (.int v3)] ⟨rfl, ⟨rfl, ⟨rfl, trivial⟩⟩⟩ ?_
        exact jnR_MD_wordsOf_38 n v1 v3 v2 (kbShl 1 v3) μ (hx := hx) (hrec := ih) h
def f_MD_wordsOf (n : Nat) (a1 : Int32) (μ : kbM) : Option (Int32) :=
  (lp_MD_wordsOf_4 n a1 μ n 0 0).bind fun x2 =>
  some x2
theorem sp_MD_wordsOf {l : Launch} (n : Nat) (a1 : Int32) (μ : kbM)  {x : Int32} (h : f_MD_wordsOf n a1 μ = some x) : kbS l MX12_wordsOf 3 [.ref 57, .int a1] μ (kbQe (some (.int x)) μ) := by
  refine kb_enter 2 rfl rfl ?_
  suffices H : ∀ (Q : kbQt) (P : Int32 → Prop), (∀ z : Int32, P z → Q (some (.int z)) μ) → kbG (f_MD_wordsOf n a1 μ) P → kbR l MX12_wordsOf 3 Q 0 [some (.ref 57), some (.int a1), none, none] [] μ from H _ (fun z => z = x) (fun z e => by subst e; exact ⟨rfl, rfl⟩) ⟨x, h, rfl⟩
  clear h
  intro Q P hr h
  unfold f_MD_wordsOf at h
  refine r_iconst 0 dX12_wordsOf_0 (by decide) ?_
  refine r_istore_n dX12_wordsOf_1 (Nat.le_of_ble_eq_true rfl) rfl ?_
  refine r_iconst 0 dX12_wordsOf_2 (by decide) ?_
  refine r_istore_n dX12_wordsOf_3 (Nat.le_of_ble_eq_true rfl) rfl ?_
  refine r_le [some (.ref 57), some (.int a1), some (.int 0), some (.int 0)] ⟨rfl, ⟨rfl, ⟨rfl, ⟨rfl, trivial⟩⟩⟩⟩ ?_
  obtain ⟨x2, hx0, h⟩ := kbG_bind h
  refine lpR_MD_wordsOf_4 n a1 μ (P := fun z => x2 = z) (hx := fun z e => ?_) n _ _ ⟨_, hx0, rfl⟩
  subst e
  refine r_iload_n dX12_wordsOf_46 rfl ?_
  exact r_iret rfl dX12_wordsOf_47 (hr x2 (kbG_some h))
def jn_MD_door_25 (n : Nat) (μ : kbM) : Option (Int32 × kbM) :=
  (f_MD_fail 1 μ).bind fun x2 =>
  some ((x2.1, x2.2))
theorem jnR_MD_door_25 {l : Launch} (n : Nat)    (μ : kbM) {Q : kbQt} {P : Int32 × kbM → Prop} (hr : ∀ z : Int32 × kbM, P z → Q (some (.int z.1)) z.2) (h : kbG (jn_MD_door_25 n μ) P) : kbR l MX12_door 4 Q 25 [some (.ref 57), none, none] [] μ := by
  unfold jn_MD_door_25 at h
  refine r_aload_n dX12_door_25 rfl ?_
  refine r_iconst 1 dX12_door_26 (by decide) ?_
  obtain ⟨x2, hx0, h⟩ := kbG_bind h
  refine r_invV_i cvX12_292 sh57 rfl (sp_MD_fail 1 μ hx0) rfl rfl (Nat.le_of_ble_eq_true rfl) (Nat.le_of_ble_eq_true rfl) dX12_door_27 ?_
  exact r_iret rfl dX12_door_30 (hr ((x2.1, x2.2)) (kbG_some h))
def jn_MD_door_92 (n : Nat) (w0 : Int32) (μ : kbM) : Option (Int32 × kbM) :=
  some ((w0, μ))
theorem jnR_MD_door_92 {l : Launch} (n : Nat)   (w0 : Int32) (μ : kbM) {Q : kbQt} {P : Int32 × kbM → Prop} (hr : ∀ z : Int32 × kbM, P z → Q (some (.int z.1)) z.2) (h : kbG (jn_MD_door_92 n w0 μ) P) : kbR l MX12_door 4 Q 92 [none, none, none] [.int w0] μ := by
  unfold jn_MD_door_92 at h
  exact r_iret rfl dX12_door_92 (hr ((w0, μ)) (kbG_some h))
def f_MD_door (n : Nat) (a1 : Int32) (a2 : Int32) (μ : kbM) : Option (Int32 × kbM) :=
  (f_MD_isDoor a1 (kbW μ 57 3 0)).bind fun x1 =>
  if x1 = 0 then
    jn_MD_door_25 n (kbW μ 57 3 0)
  else
    (f_MD_isIn a2.toInt64 0 4).bind fun x3 =>
    if x3 = 0 then
      jn_MD_door_25 n (kbW μ 57 3 0)
    else
      if a2 = 0 then
        kbIf (kbIn a1 12) <|
        jn_MD_door_92 n ((kbW μ 57 3 0).1 65 a1.toNatClampNeg) (kbW μ 57 3 0)
      else
        if a2 = 1 then
          kbIf (kbIn a1 12) <|
          jn_MD_door_92 n ((kbW μ 57 3 0).1 66 a1.toNatClampNeg) (kbW μ 57 3 0)
        else
          if a2 = 2 then
            jn_MD_door_92 n ((kbShr ((kbW μ 57 3 0).1 57 28) a1) &&& 1) (kbW μ 57 3 0)
          else
            if a2 = 3 then
              (f_MD_wordsOf n a1 (kbW μ 57 3 0)).bind fun x5 =>
              jn_MD_door_92 n x5 (kbW μ 57 3 0)
            else
              (f_MD_confounded n a1 (kbW μ 57 3 0)).bind fun x4 =>
              jn_MD_door_92 n x4 (kbW μ 57 3 0)
theorem sp_MD_door {l : Launch} (n : Nat) (a1 : Int32) (a2 : Int32) (μ : kbM)  {x : Int32 × kbM} (h : f_MD_door n a1 a2 μ = some x) : kbS l MX12_door 4 [.ref 57, .int a1, .int a2] μ (kbQe (some (.int x.1)) x.2) := by
  refine kb_enter 0 rfl rfl ?_
  suffices H : ∀ (Q : kbQt) (P : Int32 × kbM → Prop), (∀ z : Int32 × kbM, P z → Q (some (.int z.1)) z.2) → kbG (f_MD_door n a1 a2 μ) P → kbR l MX12_door 4 Q 0 [some (.ref 57), some (.int a1), some (.int a2)] [] μ from H _ (fun z => z = x) (fun z e => by subst e; exact ⟨rfl, rfl⟩) ⟨x, h, rfl⟩
  clear h
  intro Q P hr h
  unfold f_MD_door at h
  refine r_aload_n dX12_door_0 rfl ?_
  refine r_iconst 0 dX12_door_1 (by decide) ?_
  refine r_put flX12_159 sh57 rfl rfl rfl dX12_door_2 ?_
  refine r_aload_n dX12_door_5 rfl ?_
  refine r_iload_n dX12_door_6 rfl ?_
  obtain ⟨x1, hx0, h⟩ := kbG_bind h
  refine r_invV_i cvX12_336 sh57 rfl (sp_MD_isDoor a1 (kbW μ 57 3 0) hx0) rfl rfl (Nat.le_of_ble_eq_true rfl) (Nat.le_of_ble_eq_true rfl) dX12_door_7 ?_
  refine r_if_eq 25 dX12_door_10 (by decide) (fun hc => ?_) (fun hc => ?_)
  · replace h := kbG_t hc h
    refine r_le [some (.ref 57), none, none] ⟨rfl, trivial⟩ ?_
    exact jnR_MD_door_25 n  (kbW μ 57 3 0) (hr := hr) h
  · replace h := kbG_f hc h
    refine r_iload_n dX12_door_13 rfl ?_
    refine r_i2l dX12_door_14 ?_
    refine r_lconst 0 dX12_door_15 (by decide) ?_
    refine r_ldc2 4 liX12_334 dX12_door_16 ?_
    obtain ⟨x3, hx0, h⟩ := kbG_bind h
    refine r_inv_i csX12_165 (sp_MD_isIn a2.toInt64 0 4 (kbW μ 57 3 0) hx0) rfl rfl (Nat.le_of_ble_eq_true rfl) (Nat.le_of_ble_eq_true rfl) dX12_door_19 ?_
    refine r_if_ne 31 dX12_door_22 (by decide) (fun hc => ?_) (fun hc => ?_)
    · replace h := kbG_f hc h
      refine r_iload_n dX12_door_31 rfl ?_
      refine r_if_ne 44 dX12_door_32 (by decide) (fun hc => ?_) (fun hc => ?_)
      · replace h := kbG_f hc h
        refine r_iload_n dX12_door_44 rfl ?_
        refine r_iconst 1 dX12_door_45 (by decide) ?_
        refine r_icmp_ne 58 dX12_door_46 (by decide) (fun hc => ?_) (fun hc => ?_)
        · replace h := kbG_f hc h
          refine r_iload_n dX12_door_58 rfl ?_
          refine r_iconst 2 dX12_door_59 (by decide) ?_
          refine r_icmp_ne 74 dX12_door_60 (by decide) (fun hc => ?_) (fun hc => ?_)
          · replace h := kbG_f hc h
            refine r_iload_n dX12_door_74 rfl ?_
            refine r_iconst 3 dX12_door_75 (by decide) ?_
            refine r_icmp_ne 87 dX12_door_76 (by decide) (fun hc => ?_) (fun hc => ?_)
            · replace h := kbG_f hc h
              refine r_aload_n dX12_door_87 rfl ?_
              refine r_iload_n dX12_door_88 rfl ?_
              obtain ⟨x4, hx0, h⟩ := kbG_bind h
              refine r_invV_i cvX12_342 sh57 rfl (sp_MD_confounded n a1 (kbW μ 57 3 0) hx0) rfl rfl (Nat.le_of_ble_eq_true rfl) (Nat.le_of_ble_eq_true rfl) dX12_door_89 ?_
              refine r_le [none, none, none] trivial ?_
              exact jnR_MD_door_92 n x4 (kbW μ 57 3 0) (hr := hr) h
            · replace h := kbG_t hc h
              refine r_aload_n dX12_door_79 rfl ?_
              refine r_iload_n dX12_door_80 rfl ?_
              obtain ⟨x5, hx0, h⟩ := kbG_bind h
              refine r_invV_i cvX12_339 sh57 rfl (sp_MD_wordsOf n a1 (kbW μ 57 3 0) hx0) rfl rfl (Nat.le_of_ble_eq_true rfl) (Nat.le_of_ble_eq_true rfl) dX12_door_81 ?_
              refine r_goto 92 dX12_door_84 (by decide) ?_
              refine r_le [none, none, none] trivial ?_
              exact jnR_MD_door_92 n x5 (kbW μ 57 3 0) (hr := hr) h
          · replace h := kbG_t hc h
            refine r_aload_n dX12_door_63 rfl ?_
            refine r_getI flX12_305 sh57 rfl dX12_door_64 ?_
            refine r_iload_n dX12_door_67 rfl ?_
            refine r_shr dX12_door_68 ?_
            refine r_iconst 1 dX12_door_69 (by decide) ?_
            refine r_iand dX12_door_70 ?_
            refine r_goto 92 dX12_door_71 (by decide) ?_
            refine r_le [none, none, none] trivial ?_
            exact jnR_MD_door_92 n ((kbShr ((kbW μ 57 3 0).1 57 28) a1) &&& 1) (kbW μ 57 3 0) (hr := hr) h
        · replace h := kbG_t hc h
          refine r_aload_n dX12_door_49 rfl ?_
          refine r_getR flX12_63 sh57 rfl dX12_door_50 ?_
          refine r_iload_n dX12_door_53 rfl ?_
          obtain ⟨hin, h⟩ := kbG_if h
          replace hin := kbIn_of hin
          refine q_iald a1.toNatClampNeg rfl sh66 hin dX12_door_54 ?_
          refine r_goto 92 dX12_door_55 (by decide) ?_
          refine r_le [none, none, none] trivial ?_
          exact jnR_MD_door_92 n ((kbW μ 57 3 0).1 66 a1.toNatClampNeg) (kbW μ 57 3 0) (hr := hr) h
      · replace h := kbG_t hc h
        refine r_aload_n dX12_door_35 rfl ?_
        refine r_getR flX12_60 sh57 rfl dX12_door_36 ?_
        refine r_iload_n dX12_door_39 rfl ?_
        obtain ⟨hin, h⟩ := kbG_if h
        replace hin := kbIn_of hin
        refine q_iald a1.toNatClampNeg rfl sh65 hin dX12_door_40 ?_
        refine r_goto 92 dX12_door_41 (by decide) ?_
        refine r_le [none, none, none] trivial ?_
        exact jnR_MD_door_92 n ((kbW μ 57 3 0).1 65 a1.toNatClampNeg) (kbW μ 57 3 0) (hr := hr) h
    · replace h := kbG_t hc h
      refine r_le [some (.ref 57), none, none] ⟨rfl, trivial⟩ ?_
      exact jnR_MD_door_25 n  (kbW μ 57 3 0) (hr := hr) h
def jn_MD_isRow_10 (n : Nat) : Option (Int32) :=
  some 0
theorem jnR_MD_isRow_10 {l : Launch} (n : Nat)    (μ : kbM) {Q : kbQt} {P : Int32 → Prop} (hr : ∀ z : Int32, P z → Q (some (.int z)) μ) (h : kbG (jn_MD_isRow_10 n) P) : kbR l MX12_isRow 1 Q 10 [none, none] [] μ := by
  unfold jn_MD_isRow_10 at h
  refine r_iconst 0 dX12_isRow_10 (by decide) ?_
  exact r_zret rfl rfl dX12_isRow_11 (hr 0 (kbG_some h))
def lp_MD_isRow_14 (n : Nat) : Nat → Int32 → Option ((Int32) ⊕ (Unit))
  | 0, _ => none
  | k + 1, v1 =>
    if v1 ≤ 0 then
      some (.inr (()))
    else
      if (kbRem v1 5) = 0 then
        some (.inl 0)
      else
        lp_MD_isRow_14 n k (v1 / 5)
theorem lpR_MD_isRow_14 {l : Launch} (n : Nat)  (μ : kbM)  {Q : kbQt} {P : (Int32) ⊕ (Unit) → Prop} (hr : ∀ z : Int32, P (.inl z) → Q (some (.int z)) μ) (hx : ∀ z : Unit, P (.inr z) → kbR l MX12_isRow 1 Q 33 [none, none] [] μ) : ∀ (k : Nat) (v1 : Int32), kbG (lp_MD_isRow_14 n k v1) P → kbR l MX12_isRow 1 Q 14 [none, some (.int v1)] [] μ := by
  intro k
  induction k with
  | zero => intro v1 h; exact absurd h kbG_none
  | succ k ih =>
    intro v1 h
    unfold lp_MD_isRow_14 at h
    refine r_iload_n dX12_isRow_14 rfl ?_
    refine r_if_le 33 dX12_isRow_15 (by decide) (fun hc => ?_) (fun hc => ?_)
    · replace h := kbG_t hc h
      refine r_le [none, none] trivial ?_
      exact hx (()) (kbG_some h)
    · replace h := kbG_f hc h
      refine r_iload_n dX12_isRow_18 rfl ?_
      refine r_iconst 5 dX12_isRow_19 (by decide) ?_
      refine r_rem dX12_isRow_20 (by decide) ?_
      refine r_if_ne 26 dX12_isRow_21 (by decide) (fun hc => ?_) (fun hc => ?_)
      · replace h := kbG_f hc h
        refine r_iload_n dX12_isRow_26 rfl ?_
        refine r_iconst 5 dX12_isRow_27 (by decide) ?_
        refine r_idiv dX12_isRow_28 (by decide) ?_
        refine r_istore_n dX12_isRow_29 (Nat.le_of_ble_eq_true rfl) rfl ?_
        refine r_goto 14 dX12_isRow_30 (by decide) ?_
        refine r_le [none, some (.int (v1 / 5))] ⟨rfl, trivial⟩ ?_
        exact ih (v1 / 5) h
      · replace h := kbG_t hc h
        refine r_iconst 0 dX12_isRow_24 (by decide) ?_
        exact r_zret rfl rfl dX12_isRow_25 (hr 0 (kbG_some h))
def f_MD_isRow (n : Nat) (a0 : Int32) : Option (Int32) :=
  if a0 < 0 then
    jn_MD_isRow_10 n
  else
    if a0 ≤ 244140624 then
      kbOr (lp_MD_isRow_14 n n a0) (fun r2 => some r2) fun x1 =>
      some 1
    else
      jn_MD_isRow_10 n
theorem sp_MD_isRow {l : Launch} (n : Nat) (a0 : Int32) (μ : kbM)  {x : Int32} (h : f_MD_isRow n a0 = some x) : kbS l MX12_isRow 1 [.int a0] μ (kbQe (some (.int x)) μ) := by
  refine kb_enter 1 rfl rfl ?_
  suffices H : ∀ (Q : kbQt) (P : Int32 → Prop), (∀ z : Int32, P z → Q (some (.int z)) μ) → kbG (f_MD_isRow n a0) P → kbR l MX12_isRow 1 Q 0 [some (.int a0), none] [] μ from H _ (fun z => z = x) (fun z e => by subst e; exact ⟨rfl, rfl⟩) ⟨x, h, rfl⟩
  clear h
  intro Q P hr h
  unfold f_MD_isRow at h
  refine r_iload_n dX12_isRow_0 rfl ?_
  refine r_if_lt 10 dX12_isRow_1 (by decide) (fun hc => ?_) (fun hc => ?_)
  · replace h := kbG_t hc h
    refine r_le [none, none] trivial ?_
    exact jnR_MD_isRow_10 n  μ (hr := hr) h
  · replace h := kbG_f hc h
    refine r_iload_n dX12_isRow_4 rfl ?_
    refine r_ldc 244140624 liX12_169 dX12_isRow_5 ?_
    refine r_icmp_le 12 dX12_isRow_7 (by decide) (fun hc => ?_) (fun hc => ?_)
    · replace h := kbG_t hc h
      refine r_iload_n dX12_isRow_12 rfl ?_
      refine r_istore_n dX12_isRow_13 (Nat.le_of_ble_eq_true rfl) rfl ?_
      refine r_le [none, some (.int a0)] ⟨rfl, trivial⟩ ?_
      rcases kbG_or h with ⟨r2, hx0, h⟩ | ⟨x1, hx0, h⟩
      · exact lpR_MD_isRow_14 n μ (P := fun z => .inl r2 = z) (hr := fun z e => by cases e; exact hr _ (kbG_some h)) (hx := fun z e => by cases e) n _ ⟨_, hx0, rfl⟩
      · refine lpR_MD_isRow_14 n μ (P := fun z => .inr x1 = z) (hr := fun z e => by cases e) (hx := fun z e => ?_) n _ ⟨_, hx0, rfl⟩
        cases e
        refine r_iconst 1 dX12_isRow_33 (by decide) ?_
        exact r_zret rfl rfl dX12_isRow_34 (hr 1 (kbG_some h))
    · replace h := kbG_f hc h
      refine r_le [none, none] trivial ?_
      exact jnR_MD_isRow_10 n  μ (hr := hr) h
def jn_MD_hears_40 (n : Nat) (w0 : Int32) (μ : kbM) : Option (Int32 × kbM) :=
  some ((w0, μ))
theorem jnR_MD_hears_40 {l : Launch} (n : Nat)   (w0 : Int32) (μ : kbM) {Q : kbQt} {P : Int32 × kbM → Prop} (hr : ∀ z : Int32 × kbM, P z → Q (some (.int z.1)) z.2) (h : kbG (jn_MD_hears_40 n w0 μ) P) : kbR l MX12_hears 3 Q 40 [none, none, none] [.int w0] μ := by
  unfold jn_MD_hears_40 at h
  exact r_iret rfl dX12_hears_40 (hr ((w0, μ)) (kbG_some h))
def f_MD_hears (n : Nat) (a1 : Int32) (a2 : Int32) (μ : kbM) : Option (Int32 × kbM) :=
  (f_MD_isDoor a1 (kbW μ 57 3 0)).bind fun x1 =>
  if x1 = 0 then
    (f_MD_fail 1 (kbW μ 57 3 0)).bind fun x5 =>
    some ((x5.1, x5.2))
  else
    (f_MD_isRow n a2).bind fun x2 =>
    if x2 = 0 then
      (f_MD_fail 2 (kbW μ 57 3 0)).bind fun x3 =>
      jn_MD_hears_40 n x3.1 x3.2
    else
      (f_MD_heardAt n a1 a2 (kbW μ 57 3 0)).bind fun x4 =>
      jn_MD_hears_40 n x4 (kbW μ 57 3 0)
theorem sp_MD_hears {l : Launch} (n : Nat) (a1 : Int32) (a2 : Int32) (μ : kbM)  {x : Int32 × kbM} (h : f_MD_hears n a1 a2 μ = some x) : kbS l MX12_hears 3 [.ref 57, .int a1, .int a2] μ (kbQe (some (.int x.1)) x.2) := by
  refine kb_enter 0 rfl rfl ?_
  suffices H : ∀ (Q : kbQt) (P : Int32 × kbM → Prop), (∀ z : Int32 × kbM, P z → Q (some (.int z.1)) z.2) → kbG (f_MD_hears n a1 a2 μ) P → kbR l MX12_hears 3 Q 0 [some (.ref 57), some (.int a1), some (.int a2)] [] μ from H _ (fun z => z = x) (fun z e => by subst e; exact ⟨rfl, rfl⟩) ⟨x, h, rfl⟩
  clear h
  intro Q P hr h
  unfold f_MD_hears at h
  refine r_aload_n dX12_hears_0 rfl ?_
  refine r_iconst 0 dX12_hears_1 (by decide) ?_
  refine r_put flX12_159 sh57 rfl rfl rfl dX12_hears_2 ?_
  refine r_aload_n dX12_hears_5 rfl ?_
  refine r_iload_n dX12_hears_6 rfl ?_
  obtain ⟨x1, hx0, h⟩ := kbG_bind h
  refine r_invV_i cvX12_336 sh57 rfl (sp_MD_isDoor a1 (kbW μ 57 3 0) hx0) rfl rfl (Nat.le_of_ble_eq_true rfl) (Nat.le_of_ble_eq_true rfl) dX12_hears_7 ?_
  refine r_if_ne 19 dX12_hears_10 (by decide) (fun hc => ?_) (fun hc => ?_)
  · replace h := kbG_f hc h
    refine r_iload_n dX12_hears_19 rfl ?_
    obtain ⟨x2, hx0, h⟩ := kbG_bind h
    refine r_inv_i csX12_345 (sp_MD_isRow n a2 (kbW μ 57 3 0) hx0) rfl rfl (Nat.le_of_ble_eq_true rfl) (Nat.le_of_ble_eq_true rfl) dX12_hears_20 ?_
    refine r_if_eq 35 dX12_hears_23 (by decide) (fun hc => ?_) (fun hc => ?_)
    · replace h := kbG_t hc h
      refine r_aload_n dX12_hears_35 rfl ?_
      refine r_iconst 2 dX12_hears_36 (by decide) ?_
      obtain ⟨x3, hx0, h⟩ := kbG_bind h
      refine r_invV_i cvX12_292 sh57 rfl (sp_MD_fail 2 (kbW μ 57 3 0) hx0) rfl rfl (Nat.le_of_ble_eq_true rfl) (Nat.le_of_ble_eq_true rfl) dX12_hears_37 ?_
      refine r_le [none, none, none] trivial ?_
      exact jnR_MD_hears_40 n x3.1 x3.2 (hr := hr) h
    · replace h := kbG_f hc h
      refine r_aload_n dX12_hears_26 rfl ?_
      refine r_iload_n dX12_hears_27 rfl ?_
      refine r_iload_n dX12_hears_28 rfl ?_
      obtain ⟨x4, hx0, h⟩ := kbG_bind h
      refine r_invV_i cvX12_328 sh57 rfl (sp_MD_heardAt n a1 a2 (kbW μ 57 3 0) hx0) rfl rfl (Nat.le_of_ble_eq_true rfl) (Nat.le_of_ble_eq_true rfl) dX12_hears_29 ?_
      refine r_goto 40 dX12_hears_32 (by decide) ?_
      refine r_le [none, none, none] trivial ?_
      exact jnR_MD_hears_40 n x4 (kbW μ 57 3 0) (hr := hr) h
  · replace h := kbG_t hc h
    refine r_aload_n dX12_hears_13 rfl ?_
    refine r_iconst 1 dX12_hears_14 (by decide) ?_
    obtain ⟨x5, hx0, h⟩ := kbG_bind h
    refine r_invV_i cvX12_292 sh57 rfl (sp_MD_fail 1 (kbW μ 57 3 0) hx0) rfl rfl (Nat.le_of_ble_eq_true rfl) (Nat.le_of_ble_eq_true rfl) dX12_hears_15 ?_
    exact r_iret rfl dX12_hears_18 (hr ((x5.1, x5.2)) (kbG_some h))
def lp_MD_tellSounds_17 (n : Nat) : Nat → Int32 → Int32 → kbM → Option (kbM)
  | 0, _, _, _ => none
  | k + 1, v2, v3, μ =>
    if v3 < 0 then
      some μ
    else
      kbIf (kbIn v3 12) <|
      lp_MD_tellSounds_17 n k (v2 / 5) (v3 + (-1)) (kbW μ 76 v3.toNatClampNeg (kbRem v2 5))
theorem lpR_MD_tellSounds_17 {l : Launch} (n : Nat)   {Q : kbQt} {P : kbM → Prop} (hx : ∀ z : kbM, P (z) → kbR l MX12_tellSounds 2 Q 40 [some (.ref 57), none, none, none, none, none] [] z) : ∀ (k : Nat) (v2 : Int32) (v3 : Int32) (μ : kbM), kbG (lp_MD_tellSounds_17 n k v2 v3 μ) P → kbR l MX12_tellSounds 2 Q 17 [some (.ref 57), none, some (.int v2), some (.int v3), none, none] [] μ := by
  intro k
  induction k with
  | zero => intro v2 v3 μ h; exact absurd h kbG_none
  | succ k ih =>
    intro v2 v3 μ h
    unfold lp_MD_tellSounds_17 at h
    refine r_iload_n dX12_tellSounds_17 rfl ?_
    refine r_if_lt 40 dX12_tellSounds_18 (by decide) (fun hc => ?_) (fun hc => ?_)
    · replace h := kbG_t hc h
      refine r_le [some (.ref 57), none, none, none, none, none] ⟨rfl, trivial⟩ ?_
      exact hx μ (kbG_some h)
    · replace h := kbG_f hc h
      refine r_aload_n dX12_tellSounds_21 rfl ?_
      refine r_getR flX12_97 sh57 rfl dX12_tellSounds_22 ?_
      refine r_iload_n dX12_tellSounds_25 rfl ?_
      refine r_iload_n dX12_tellSounds_26 rfl ?_
      refine r_iconst 5 dX12_tellSounds_27 (by decide) ?_
      refine r_rem dX12_tellSounds_28 (by decide) ?_
      obtain ⟨hin, h⟩ := kbG_if h
      replace hin := kbIn_of hin
      refine q_iast v3.toNatClampNeg rfl sh76 hin dX12_tellSounds_29 ?_
      refine r_iload_n dX12_tellSounds_30 rfl ?_
      refine r_iconst 5 dX12_tellSounds_31 (by decide) ?_
      refine r_idiv dX12_tellSounds_32 (by decide) ?_
      refine r_istore_n dX12_tellSounds_33 (Nat.le_of_ble_eq_true rfl) rfl ?_
      refine r_iinc (-1) dX12_tellSounds_34 rfl (by decide) (Nat.le_of_ble_eq_true rfl) rfl ?_
      refine r_goto 17 dX12_tellSounds_37 (by decide) ?_
      refine r_le [some (.ref 57), none, some (.int (v2 / 5)), some (.int (v3 + (-1))), none, none] ⟨rfl, ⟨rfl, ⟨rfl, trivial⟩⟩⟩ ?_
      exact ih (v2 / 5) (v3 + (-1)) (kbW μ 76 v3.toNatClampNeg (kbRem v2 5)) h
def lp_MD_tellSounds_83 (n : Nat) (v3 : Int32) : Nat → Int32 → Int32 → kbM → Option (kbM)
  | 0, _, _, _ => none
  | k + 1, v4, v5, μ =>
    if v5 < 0 then
      some μ
    else
      kbIf (kbIn ((6 * v3) + v5) 60) <|
      lp_MD_tellSounds_83 n v3 k (v4 / 5) (v5 + (-1)) (kbW μ 78 (((6 * v3) + v5).toNatClampNeg) (kbRem v4 5))
theorem lpR_MD_tellSounds_83 {l : Launch} (n : Nat) (v3 : Int32)  {Q : kbQt} {P : kbM → Prop} (hx : ∀ z : kbM, P (z) → kbR l MX12_tellSounds 2 Q 116 [some (.ref 57), none, none, some (.int v3), none, none] [] z) : ∀ (k : Nat) (v4 : Int32) (v5 : Int32) (μ : kbM), kbG (lp_MD_tellSounds_83 n v3 k v4 v5 μ) P → kbR l MX12_tellSounds 2 Q 83 [some (.ref 57), none, none, some (.int v3), some (.int v4), some (.int v5)] [] μ := by
  intro k
  induction k with
  | zero => intro v4 v5 μ h; exact absurd h kbG_none
  | succ k ih =>
    intro v4 v5 μ h
    unfold lp_MD_tellSounds_83 at h
    refine r_iload dX12_tellSounds_83 rfl ?_
    refine r_if_lt 116 dX12_tellSounds_85 (by decide) (fun hc => ?_) (fun hc => ?_)
    · replace h := kbG_t hc h
      refine r_le [some (.ref 57), none, none, some (.int v3), none, none] ⟨rfl, ⟨rfl, trivial⟩⟩ ?_
      exact hx μ (kbG_some h)
    · replace h := kbG_f hc h
      refine r_aload_n dX12_tellSounds_88 rfl ?_
      refine r_getR flX12_103 sh57 rfl dX12_tellSounds_89 ?_
      refine r_bipush 6 dX12_tellSounds_92 (by decide) ?_
      refine r_iload_n dX12_tellSounds_94 rfl ?_
      refine r_imul dX12_tellSounds_95 ?_
      refine r_iload dX12_tellSounds_96 rfl ?_
      refine r_iadd dX12_tellSounds_98 ?_
      refine r_iload dX12_tellSounds_99 rfl ?_
      refine r_iconst 5 dX12_tellSounds_101 (by decide) ?_
      refine r_rem dX12_tellSounds_102 (by decide) ?_
      obtain ⟨hin, h⟩ := kbG_if h
      replace hin := kbIn_of hin
      refine q_iast (((6 * v3) + v5).toNatClampNeg) rfl sh78 hin dX12_tellSounds_103 ?_
      refine r_iload dX12_tellSounds_104 rfl ?_
      refine r_iconst 5 dX12_tellSounds_106 (by decide) ?_
      refine r_idiv dX12_tellSounds_107 (by decide) ?_
      refine r_istore dX12_tellSounds_108 (Nat.le_of_ble_eq_true rfl) rfl ?_
      refine r_iinc (-1) dX12_tellSounds_110 rfl (by decide) (Nat.le_of_ble_eq_true rfl) rfl ?_
      refine r_goto 83 dX12_tellSounds_113 (by decide) ?_
      refine r_le [some (.ref 57), none, none, some (.int v3), some (.int (v4 / 5)), some (.int (v5 + (-1)))] ⟨rfl, ⟨rfl, ⟨rfl, ⟨rfl, trivial⟩⟩⟩⟩ ?_
      exact ih (v4 / 5) (v5 + (-1)) (kbW μ 78 (((6 * v3) + v5).toNatClampNeg) (kbRem v4 5)) h
def lp_MD_tellSounds_42 (n : Nat) : Nat → Int32 → kbM → Option (kbM)
  | 0, _, _ => none
  | k + 1, v3, μ =>
    if (μ.1 57 27) ≤ v3 then
      some μ
    else
      kbIf (kbIn v3 10) <|
      (f_MD_sizeOf n (μ.1 70 v3.toNatClampNeg)).bind fun x3 =>
      kbIf (kbIn v3 10) <|
      kbIf (kbIn v3 10) <|
      kbIf (kbIn v3 10) <|
      (lp_MD_tellSounds_83 n v3 n ((kbW μ 79 v3.toNatClampNeg x3).1 70 v3.toNatClampNeg) (((kbW μ 79 v3.toNatClampNeg x3).1 79 v3.toNatClampNeg) - 1) (kbW μ 79 v3.toNatClampNeg x3)).bind fun x4 =>
      lp_MD_tellSounds_42 n k (v3 + 1) x4
theorem lpR_MD_tellSounds_42 {l : Launch} (n : Nat)   {Q : kbQt} {P : kbM → Prop} (hx : ∀ z : kbM, P (z) → kbR l MX12_tellSounds 2 Q 122 [none, none, none, none, none, none] [] z) : ∀ (k : Nat) (v3 : Int32) (μ : kbM), kbG (lp_MD_tellSounds_42 n k v3 μ) P → kbR l MX12_tellSounds 2 Q 42 [some (.ref 57), none, none, some (.int v3), none, none] [] μ := by
  intro k
  induction k with
  | zero => intro v3 μ h; exact absurd h kbG_none
  | succ k ih =>
    intro v3 μ h
    unfold lp_MD_tellSounds_42 at h
    refine r_iload_n dX12_tellSounds_42 rfl ?_
    refine r_aload_n dX12_tellSounds_43 rfl ?_
    refine r_getI flX12_162 sh57 rfl dX12_tellSounds_44 ?_
    refine r_icmp_ge 122 dX12_tellSounds_47 (by decide) (fun hc => ?_) (fun hc => ?_)
    · replace h := kbG_t hc h
      refine r_le [none, none, none, none, none, none] trivial ?_
      exact hx μ (kbG_some h)
    · replace h := kbG_f hc h
      refine r_aload_n dX12_tellSounds_50 rfl ?_
      refine r_getR flX12_106 sh57 rfl dX12_tellSounds_51 ?_
      refine r_iload_n dX12_tellSounds_54 rfl ?_
      refine r_aload_n dX12_tellSounds_55 rfl ?_
      refine r_getR flX12_79 sh57 rfl dX12_tellSounds_56 ?_
      refine r_iload_n dX12_tellSounds_59 rfl ?_
      obtain ⟨hin, h⟩ := kbG_if h
      replace hin := kbIn_of hin
      refine q_iald v3.toNatClampNeg rfl sh70 hin dX12_tellSounds_60 ?_
      obtain ⟨x3, hx0, h⟩ := kbG_bind h
      refine r_inv_i csX12_322 (sp_MD_sizeOf n (μ.1 70 v3.toNatClampNeg) μ hx0) rfl rfl (Nat.le_of_ble_eq_true rfl) (Nat.le_of_ble_eq_true rfl) dX12_tellSounds_61 ?_
      obtain ⟨hin, h⟩ := kbG_if h
      replace hin := kbIn_of hin
      refine q_iast v3.toNatClampNeg rfl sh79 hin dX12_tellSounds_64 ?_
      refine r_aload_n dX12_tellSounds_65 rfl ?_
      refine r_getR flX12_79 sh57 rfl dX12_tellSounds_66 ?_
      refine r_iload_n dX12_tellSounds_69 rfl ?_
      obtain ⟨hin, h⟩ := kbG_if h
      replace hin := kbIn_of hin
      refine q_iald v3.toNatClampNeg rfl sh70 hin dX12_tellSounds_70 ?_
      refine r_istore dX12_tellSounds_71 (Nat.le_of_ble_eq_true rfl) rfl ?_
      refine r_aload_n dX12_tellSounds_73 rfl ?_
      refine r_getR flX12_106 sh57 rfl dX12_tellSounds_74 ?_
      refine r_iload_n dX12_tellSounds_77 rfl ?_
      obtain ⟨hin, h⟩ := kbG_if h
      replace hin := kbIn_of hin
      refine q_iald v3.toNatClampNeg rfl sh79 hin dX12_tellSounds_78 ?_
      refine r_iconst 1 dX12_tellSounds_79 (by decide) ?_
      refine r_isub dX12_tellSounds_80 ?_
      refine r_istore dX12_tellSounds_81 (Nat.le_of_ble_eq_true rfl) rfl ?_
      refine r_le [some (.ref 57), none, none, some (.int v3), some (.int ((kbW μ 79 v3.toNatClampNeg x3).1 70 v3.toNatClampNeg)), some (.int (((kbW μ 79 v3.toNatClampNeg x3).1 79 v3.toNatClampNeg) - 1))] ⟨rfl, ⟨rfl, ⟨rfl, ⟨rfl, trivial⟩⟩⟩⟩ ?_
      obtain ⟨x4, hx0, h⟩ := kbG_bind h
      refine lpR_MD_tellSounds_83 n v3 (P := fun z => x4 = z) (hx := fun z e => ?_) n _ _ _ ⟨_, hx0, rfl⟩
      subst e
      refine r_iinc 1 dX12_tellSounds_116 rfl (by decide) (Nat.le_of_ble_eq_true rfl) rfl ?_
      refine r_goto 42 dX12_tellSounds_119 (by decide) ?_
      refine r_le [some (.ref 57), none, none, some (.int (v3 + 1)), none, none] ⟨rfl, ⟨rfl, trivial⟩⟩ ?_
      exact ih (v3 + 1) x4 h
def f_MD_tellSounds (n : Nat) (a1 : Int32) (μ : kbM) : Option (kbM) :=
  (f_MD_sizeOf n a1).bind fun x1 =>
  (lp_MD_tellSounds_17 n n a1 (((kbW μ 57 38 x1).1 57 38) - 1) (kbW μ 57 38 x1)).bind fun x2 =>
  (lp_MD_tellSounds_42 n n 0 x2).bind fun x5 =>
  some x5
theorem sp_MD_tellSounds {l : Launch} (n : Nat) (a1 : Int32) (μ : kbM)  {x : kbM} (h : f_MD_tellSounds n a1 μ = some x) : kbS l MX12_tellSounds 2 [.ref 57, .int a1] μ (kbQe none x) := by
  refine kb_enter 4 rfl rfl ?_
  suffices H : ∀ (Q : kbQt) (P : kbM → Prop), (∀ z : kbM, P z → Q none z) → kbG (f_MD_tellSounds n a1 μ) P → kbR l MX12_tellSounds 2 Q 0 [some (.ref 57), some (.int a1), none, none, none, none] [] μ from H _ (fun z => z = x) (fun z e => by subst e; exact ⟨rfl, rfl⟩) ⟨x, h, rfl⟩
  clear h
  intro Q P hr h
  unfold f_MD_tellSounds at h
  refine r_aload_n dX12_tellSounds_0 rfl ?_
  refine r_iload_n dX12_tellSounds_1 rfl ?_
  obtain ⟨x1, hx0, h⟩ := kbG_bind h
  refine r_inv_i csX12_322 (sp_MD_sizeOf n a1 μ hx0) rfl rfl (Nat.le_of_ble_eq_true rfl) (Nat.le_of_ble_eq_true rfl) dX12_tellSounds_2 ?_
  refine r_put flX12_355 sh57 rfl rfl rfl dX12_tellSounds_5 ?_
  refine r_iload_n dX12_tellSounds_8 rfl ?_
  refine r_istore_n dX12_tellSounds_9 (Nat.le_of_ble_eq_true rfl) rfl ?_
  refine r_aload_n dX12_tellSounds_10 rfl ?_
  refine r_getI flX12_355 sh57 rfl dX12_tellSounds_11 ?_
  refine r_iconst 1 dX12_tellSounds_14 (by decide) ?_
  refine r_isub dX12_tellSounds_15 ?_
  refine r_istore_n dX12_tellSounds_16 (Nat.le_of_ble_eq_true rfl) rfl ?_
  refine r_le [some (.ref 57), none, some (.int a1), some (.int (((kbW μ 57 38 x1).1 57 38) - 1)), none, none] ⟨rfl, ⟨rfl, ⟨rfl, trivial⟩⟩⟩ ?_
  obtain ⟨x2, hx0, h⟩ := kbG_bind h
  refine lpR_MD_tellSounds_17 n (P := fun z => x2 = z) (hx := fun z e => ?_) n _ _ _ ⟨_, hx0, rfl⟩
  subst e
  refine r_iconst 0 dX12_tellSounds_40 (by decide) ?_
  refine r_istore_n dX12_tellSounds_41 (Nat.le_of_ble_eq_true rfl) rfl ?_
  refine r_le [some (.ref 57), none, none, some (.int 0), none, none] ⟨rfl, ⟨rfl, trivial⟩⟩ ?_
  obtain ⟨x5, hx0, h⟩ := kbG_bind h
  refine lpR_MD_tellSounds_42 n (P := fun z => x5 = z) (hx := fun z e => ?_) n _ _ ⟨_, hx0, rfl⟩
  subst e
  exact r_vret rfl dX12_tellSounds_122 (hr x5 (kbG_some h))
def lp_MD_standsAt_19 (n : Nat) (v1 : Int32) (v2 : Int32) (μ : kbM) : Nat → Int32 → Option ((Int32) ⊕ (Unit))
  | 0, _ => none
  | k + 1, v3 =>
    kbIf (kbIn v1 10) <|
    if (μ.1 79 v1.toNatClampNeg) ≤ v3 then
      some (.inr (()))
    else
      kbIf (kbIn (v2 + v3) 12) <|
      kbIf (kbIn ((6 * v1) + v3) 60) <|
      if (μ.1 76 ((v2 + v3).toNatClampNeg)) = (μ.1 78 (((6 * v1) + v3).toNatClampNeg)) then
        lp_MD_standsAt_19 n v1 v2 μ k (v3 + 1)
      else
        some (.inl 0)
theorem lpR_MD_standsAt_19 {l : Launch} (n : Nat) (v1 : Int32) (v2 : Int32) (μ : kbM)  {Q : kbQt} {P : (Int32) ⊕ (Unit) → Prop} (hr : ∀ z : Int32, P (.inl z) → Q (some (.int z)) μ) (hx : ∀ z : Unit, P (.inr z) → kbR l MX12_standsAt 1 Q 59 [none, none, none, none] [] μ) : ∀ (k : Nat) (v3 : Int32), kbG (lp_MD_standsAt_19 n v1 v2 μ k v3) P → kbR l MX12_standsAt 1 Q 19 [some (.ref 57), some (.int v1), some (.int v2), some (.int v3)] [] μ := by
  intro k
  induction k with
  | zero => intro v3 h; exact absurd h kbG_none
  | succ k ih =>
    intro v3 h
    unfold lp_MD_standsAt_19 at h
    refine r_iload_n dX12_standsAt_19 rfl ?_
    refine r_aload_n dX12_standsAt_20 rfl ?_
    refine r_getR flX12_106 sh57 rfl dX12_standsAt_21 ?_
    refine r_iload_n dX12_standsAt_24 rfl ?_
    obtain ⟨hin, h⟩ := kbG_if h
    replace hin := kbIn_of hin
    refine q_iald v1.toNatClampNeg rfl sh79 hin dX12_standsAt_25 ?_
    refine r_icmp_ge 59 dX12_standsAt_26 (by decide) (fun hc => ?_) (fun hc => ?_)
    · replace h := kbG_t hc h
      refine r_le [none, none, none, none] trivial ?_
      exact hx (()) (kbG_some h)
    · replace h := kbG_f hc h
      refine r_aload_n dX12_standsAt_29 rfl ?_
      refine r_getR flX12_97 sh57 rfl dX12_standsAt_30 ?_
      refine r_iload_n dX12_standsAt_33 rfl ?_
      refine r_iload_n dX12_standsAt_34 rfl ?_
      refine r_iadd dX12_standsAt_35 ?_
      obtain ⟨hin, h⟩ := kbG_if h
      replace hin := kbIn_of hin
      refine q_iald ((v2 + v3).toNatClampNeg) rfl sh76 hin dX12_standsAt_36 ?_
      refine r_aload_n dX12_standsAt_37 rfl ?_
      refine r_getR flX12_103 sh57 rfl dX12_standsAt_38 ?_
      refine r_bipush 6 dX12_standsAt_41 (by decide) ?_
      refine r_iload_n dX12_standsAt_43 rfl ?_
      refine r_imul dX12_standsAt_44 ?_
      refine r_iload_n dX12_standsAt_45 rfl ?_
      refine r_iadd dX12_standsAt_46 ?_
      obtain ⟨hin, h⟩ := kbG_if h
      replace hin := kbIn_of hin
      refine q_iald (((6 * v1) + v3).toNatClampNeg) rfl sh78 hin dX12_standsAt_47 ?_
      refine r_icmp_eq 53 dX12_standsAt_48 (by decide) (fun hc => ?_) (fun hc => ?_)
      · replace h := kbG_t hc h
        refine r_iinc 1 dX12_standsAt_53 rfl (by decide) (Nat.le_of_ble_eq_true rfl) rfl ?_
        refine r_goto 19 dX12_standsAt_56 (by decide) ?_
        refine r_le [some (.ref 57), some (.int v1), some (.int v2), some (.int (v3 + 1))] ⟨rfl, ⟨rfl, ⟨rfl, ⟨rfl, trivial⟩⟩⟩⟩ ?_
        exact ih (v3 + 1) h
      · replace h := kbG_f hc h
        refine r_iconst 0 dX12_standsAt_51 (by decide) ?_
        exact r_zret rfl rfl dX12_standsAt_52 (hr 0 (kbG_some h))
def f_MD_standsAt (n : Nat) (a1 : Int32) (a2 : Int32) (μ : kbM) : Option (Int32) :=
  kbIf (kbIn a1 10) <|
  if (a2 + (μ.1 79 a1.toNatClampNeg)) ≤ (μ.1 57 38) then
    kbOr (lp_MD_standsAt_19 n a1 a2 μ n 0) (fun r2 => some r2) fun x1 =>
    some 1
  else
    some 0
theorem sp_MD_standsAt {l : Launch} (n : Nat) (a1 : Int32) (a2 : Int32) (μ : kbM)  {x : Int32} (h : f_MD_standsAt n a1 a2 μ = some x) : kbS l MX12_standsAt 1 [.ref 57, .int a1, .int a2] μ (kbQe (some (.int x)) μ) := by
  refine kb_enter 1 rfl rfl ?_
  suffices H : ∀ (Q : kbQt) (P : Int32 → Prop), (∀ z : Int32, P z → Q (some (.int z)) μ) → kbG (f_MD_standsAt n a1 a2 μ) P → kbR l MX12_standsAt 1 Q 0 [some (.ref 57), some (.int a1), some (.int a2), none] [] μ from H _ (fun z => z = x) (fun z e => by subst e; exact ⟨rfl, rfl⟩) ⟨x, h, rfl⟩
  clear h
  intro Q P hr h
  unfold f_MD_standsAt at h
  refine r_iload_n dX12_standsAt_0 rfl ?_
  refine r_aload_n dX12_standsAt_1 rfl ?_
  refine r_getR flX12_106 sh57 rfl dX12_standsAt_2 ?_
  refine r_iload_n dX12_standsAt_5 rfl ?_
  obtain ⟨hin, h⟩ := kbG_if h
  replace hin := kbIn_of hin
  refine q_iald a1.toNatClampNeg rfl sh79 hin dX12_standsAt_6 ?_
  refine r_iadd dX12_standsAt_7 ?_
  refine r_aload_n dX12_standsAt_8 rfl ?_
  refine r_getI flX12_355 sh57 rfl dX12_standsAt_9 ?_
  refine r_icmp_le 17 dX12_standsAt_12 (by decide) (fun hc => ?_) (fun hc => ?_)
  · replace h := kbG_t hc h
    refine r_iconst 0 dX12_standsAt_17 (by decide) ?_
    refine r_istore_n dX12_standsAt_18 (Nat.le_of_ble_eq_true rfl) rfl ?_
    refine r_le [some (.ref 57), some (.int a1), some (.int a2), some (.int 0)] ⟨rfl, ⟨rfl, ⟨rfl, ⟨rfl, trivial⟩⟩⟩⟩ ?_
    rcases kbG_or h with ⟨r2, hx0, h⟩ | ⟨x1, hx0, h⟩
    · exact lpR_MD_standsAt_19 n a1 a2 μ (P := fun z => .inl r2 = z) (hr := fun z e => by cases e; exact hr _ (kbG_some h)) (hx := fun z e => by cases e) n _ ⟨_, hx0, rfl⟩
    · refine lpR_MD_standsAt_19 n a1 a2 μ (P := fun z => .inr x1 = z) (hr := fun z e => by cases e) (hx := fun z e => ?_) n _ ⟨_, hx0, rfl⟩
      cases e
      refine r_iconst 1 dX12_standsAt_59 (by decide) ?_
      exact r_zret rfl rfl dX12_standsAt_60 (hr 1 (kbG_some h))
  · replace h := kbG_f hc h
    refine r_iconst 0 dX12_standsAt_15 (by decide) ?_
    exact r_zret rfl rfl dX12_standsAt_16 (hr 0 (kbG_some h))
def jn_MD_reckon_117 (w0 : Int32) : Option (Int32) :=
  some w0
theorem jnR_MD_reckon_117 {l : Launch}   (w0 : Int32) (μ : kbM) {Q : kbQt} {P : Int32 → Prop} (hr : ∀ z : Int32, P z → Q (some (.int z)) μ) (h : kbG (jn_MD_reckon_117 w0) P) : kbR l MX12_reckon 1 Q 117 [none, none, none] [.int w0] μ := by
  unfold jn_MD_reckon_117 at h
  exact r_iret rfl dX12_reckon_117 (hr w0 (kbG_some h))
def jn_MD_reckon_112  : Option (Int32) :=
  jn_MD_reckon_117 1
theorem jnR_MD_reckon_112 {l : Launch}    (μ : kbM) {Q : kbQt} {P : Int32 → Prop} (hr : ∀ z : Int32, P z → Q (some (.int z)) μ) (h : kbG (jn_MD_reckon_112 ) P) : kbR l MX12_reckon 1 Q 112 [none, none, none] [] μ := by
  unfold jn_MD_reckon_112 at h
  refine r_iconst 1 dX12_reckon_112 (by decide) ?_
  refine r_goto 117 dX12_reckon_113 (by decide) ?_
  refine r_le [none, none, none] trivial ?_
  exact jnR_MD_reckon_117 1 μ (hr := hr) h
def jn_MD_reckon_103 (w0 : Int32) : Option (Int32) :=
  some w0
theorem jnR_MD_reckon_103 {l : Launch}   (w0 : Int32) (μ : kbM) {Q : kbQt} {P : Int32 → Prop} (hr : ∀ z : Int32, P z → Q (some (.int z)) μ) (h : kbG (jn_MD_reckon_103 w0) P) : kbR l MX12_reckon 1 Q 103 [none, none, none] [.int w0] μ := by
  unfold jn_MD_reckon_103 at h
  exact r_iret rfl dX12_reckon_103 (hr w0 (kbG_some h))
def jn_MD_reckon_102  : Option (Int32) :=
  jn_MD_reckon_103 0
theorem jnR_MD_reckon_102 {l : Launch}    (μ : kbM) {Q : kbQt} {P : Int32 → Prop} (hr : ∀ z : Int32, P z → Q (some (.int z)) μ) (h : kbG (jn_MD_reckon_102 ) P) : kbR l MX12_reckon 1 Q 102 [none, none, none] [] μ := by
  unfold jn_MD_reckon_102 at h
  refine r_iconst 0 dX12_reckon_102 (by decide) ?_
  refine r_le [none, none, none] trivial ?_
  exact jnR_MD_reckon_103 0 μ (hr := hr) h
def jn_MD_reckon_89 (w0 : Int32) : Option (Int32) :=
  some w0
theorem jnR_MD_reckon_89 {l : Launch}   (w0 : Int32) (μ : kbM) {Q : kbQt} {P : Int32 → Prop} (hr : ∀ z : Int32, P z → Q (some (.int z)) μ) (h : kbG (jn_MD_reckon_89 w0) P) : kbR l MX12_reckon 1 Q 89 [none, none, none] [.int w0] μ := by
  unfold jn_MD_reckon_89 at h
  exact r_iret rfl dX12_reckon_89 (hr w0 (kbG_some h))
def jn_MD_reckon_78 (w0 : Int32) : Option (Int32) :=
  some w0
theorem jnR_MD_reckon_78 {l : Launch}   (w0 : Int32) (μ : kbM) {Q : kbQt} {P : Int32 → Prop} (hr : ∀ z : Int32, P z → Q (some (.int z)) μ) (h : kbG (jn_MD_reckon_78 w0) P) : kbR l MX12_reckon 1 Q 78 [none, none, none] [.int w0] μ := by
  unfold jn_MD_reckon_78 at h
  exact r_iret rfl dX12_reckon_78 (hr w0 (kbG_some h))
def jn_MD_reckon_67 (w0 : Int32) : Option (Int32) :=
  some w0
theorem jnR_MD_reckon_67 {l : Launch}   (w0 : Int32) (μ : kbM) {Q : kbQt} {P : Int32 → Prop} (hr : ∀ z : Int32, P z → Q (some (.int z)) μ) (h : kbG (jn_MD_reckon_67 w0) P) : kbR l MX12_reckon 1 Q 67 [none, none, none] [.int w0] μ := by
  unfold jn_MD_reckon_67 at h
  exact r_iret rfl dX12_reckon_67 (hr w0 (kbG_some h))
def f_MD_reckon (a0 : Int32) (a1 : Int32) (a2 : Int32) : Option (Int32) :=
  if a0 = (-26) then
    if a1 = 0 then
      jn_MD_reckon_102 
    else
      if a2 = 0 then
        jn_MD_reckon_102 
      else
        jn_MD_reckon_103 1
  else if a0 = (-25) then
    if a1 = a2 then
      jn_MD_reckon_89 1
    else
      jn_MD_reckon_89 0
  else if a0 = (-24) then
    if a2 ≤ a1 then
      jn_MD_reckon_78 0
    else
      jn_MD_reckon_78 1
  else if a0 = (-23) then
    if a2 = 0 then
      jn_MD_reckon_67 0
    else
      kbIf (decide (¬ a2 = 0)) <|
      jn_MD_reckon_67 (a1 / a2)
  else if a0 = (-22) then
    some (a1 * a2)
  else if a0 = (-21) then
    some (a1 - a2)
  else if a0 = (-20) then
    some (a1 + a2)
  else
    if a1 = 0 then
      if a2 = 0 then
        jn_MD_reckon_117 0
      else
        jn_MD_reckon_112 
    else
      jn_MD_reckon_112 
theorem sp_MD_reckon {l : Launch} (a0 : Int32) (a1 : Int32) (a2 : Int32) (μ : kbM)  {x : Int32} (h : f_MD_reckon a0 a1 a2 = some x) : kbS l MX12_reckon 1 [.int a0, .int a1, .int a2] μ (kbQe (some (.int x)) μ) := by
  refine kb_enter 0 rfl rfl ?_
  suffices H : ∀ (Q : kbQt) (P : Int32 → Prop), (∀ z : Int32, P z → Q (some (.int z)) μ) → kbG (f_MD_reckon a0 a1 a2) P → kbR l MX12_reckon 1 Q 0 [some (.int a0), some (.int a1), some (.int a2)] [] μ from H _ (fun z => z = x) (fun z e => by subst e; exact ⟨rfl, rfl⟩) ⟨x, h, rfl⟩
  clear h
  intro Q P hr h
  unfold f_MD_reckon at h
  refine r_iload_n dX12_reckon_0 rfl ?_
  by_cases hc0 : a0 = (-26)
  · replace h := kbG_t hc0 h
    refine r_tabIn 90 dX12_reckon_1 (by rw [hc0]; decide) (by rw [hc0]; decide) (by rw [hc0]; rfl) (by decide) ?_
    refine r_iload_n dX12_reckon_90 rfl ?_
    refine r_if_eq 102 dX12_reckon_91 (by decide) (fun hc => ?_) (fun hc => ?_)
    · replace h := kbG_t hc h
      refine r_le [none, none, none] trivial ?_
      exact jnR_MD_reckon_102  μ (hr := hr) h
    · replace h := kbG_f hc h
      refine r_iload_n dX12_reckon_94 rfl ?_
      refine r_if_eq 102 dX12_reckon_95 (by decide) (fun hc => ?_) (fun hc => ?_)
      · replace h := kbG_t hc h
        refine r_le [none, none, none] trivial ?_
        exact jnR_MD_reckon_102  μ (hr := hr) h
      · replace h := kbG_f hc h
        refine r_iconst 1 dX12_reckon_98 (by decide) ?_
        refine r_goto 103 dX12_reckon_99 (by decide) ?_
        refine r_le [none, none, none] trivial ?_
        exact jnR_MD_reckon_103 1 μ (hr := hr) h
  replace h := kbG_f hc0 h
  by_cases hc1 : a0 = (-25)
  · replace h := kbG_t hc1 h
    refine r_tabIn 79 dX12_reckon_1 (by rw [hc1]; decide) (by rw [hc1]; decide) (by rw [hc1]; rfl) (by decide) ?_
    refine r_iload_n dX12_reckon_79 rfl ?_
    refine r_iload_n dX12_reckon_80 rfl ?_
    refine r_icmp_ne 88 dX12_reckon_81 (by decide) (fun hc => ?_) (fun hc => ?_)
    · replace h := kbG_f hc h
      refine r_iconst 0 dX12_reckon_88 (by decide) ?_
      refine r_le [none, none, none] trivial ?_
      exact jnR_MD_reckon_89 0 μ (hr := hr) h
    · replace h := kbG_t hc h
      refine r_iconst 1 dX12_reckon_84 (by decide) ?_
      refine r_goto 89 dX12_reckon_85 (by decide) ?_
      refine r_le [none, none, none] trivial ?_
      exact jnR_MD_reckon_89 1 μ (hr := hr) h
  replace h := kbG_f hc1 h
  by_cases hc2 : a0 = (-24)
  · replace h := kbG_t hc2 h
    refine r_tabIn 68 dX12_reckon_1 (by rw [hc2]; decide) (by rw [hc2]; decide) (by rw [hc2]; rfl) (by decide) ?_
    refine r_iload_n dX12_reckon_68 rfl ?_
    refine r_iload_n dX12_reckon_69 rfl ?_
    refine r_icmp_ge 77 dX12_reckon_70 (by decide) (fun hc => ?_) (fun hc => ?_)
    · replace h := kbG_t hc h
      refine r_iconst 0 dX12_reckon_77 (by decide) ?_
      refine r_le [none, none, none] trivial ?_
      exact jnR_MD_reckon_78 0 μ (hr := hr) h
    · replace h := kbG_f hc h
      refine r_iconst 1 dX12_reckon_73 (by decide) ?_
      refine r_goto 78 dX12_reckon_74 (by decide) ?_
      refine r_le [none, none, none] trivial ?_
      exact jnR_MD_reckon_78 1 μ (hr := hr) h
  replace h := kbG_f hc2 h
  by_cases hc3 : a0 = (-23)
  · replace h := kbG_t hc3 h
    refine r_tabIn 56 dX12_reckon_1 (by rw [hc3]; decide) (by rw [hc3]; decide) (by rw [hc3]; rfl) (by decide) ?_
    refine r_iload_n dX12_reckon_56 rfl ?_
    refine r_if_ne 64 dX12_reckon_57 (by decide) (fun hc => ?_) (fun hc => ?_)
    · replace h := kbG_f hc h
      refine r_iload_n dX12_reckon_64 rfl ?_
      refine r_iload_n dX12_reckon_65 rfl ?_
      obtain ⟨hz, h⟩ := kbG_if h
      refine r_idiv dX12_reckon_66 (of_decide_eq_true hz) ?_
      refine r_le [none, none, none] trivial ?_
      exact jnR_MD_reckon_67 (a1 / a2) μ (hr := hr) h
    · replace h := kbG_t hc h
      refine r_iconst 0 dX12_reckon_60 (by decide) ?_
      refine r_goto 67 dX12_reckon_61 (by decide) ?_
      refine r_le [none, none, none] trivial ?_
      exact jnR_MD_reckon_67 0 μ (hr := hr) h
  replace h := kbG_f hc3 h
  by_cases hc4 : a0 = (-22)
  · replace h := kbG_t hc4 h
    refine r_tabIn 52 dX12_reckon_1 (by rw [hc4]; decide) (by rw [hc4]; decide) (by rw [hc4]; rfl) (by decide) ?_
    refine r_iload_n dX12_reckon_52 rfl ?_
    refine r_iload_n dX12_reckon_53 rfl ?_
    refine r_imul dX12_reckon_54 ?_
    exact r_iret rfl dX12_reckon_55 (hr (a1 * a2) (kbG_some h))
  replace h := kbG_f hc4 h
  by_cases hc5 : a0 = (-21)
  · replace h := kbG_t hc5 h
    refine r_tabIn 48 dX12_reckon_1 (by rw [hc5]; decide) (by rw [hc5]; decide) (by rw [hc5]; rfl) (by decide) ?_
    refine r_iload_n dX12_reckon_48 rfl ?_
    refine r_iload_n dX12_reckon_49 rfl ?_
    refine r_isub dX12_reckon_50 ?_
    exact r_iret rfl dX12_reckon_51 (hr (a1 - a2) (kbG_some h))
  replace h := kbG_f hc5 h
  by_cases hc6 : a0 = (-20)
  · replace h := kbG_t hc6 h
    refine r_tabIn 44 dX12_reckon_1 (by rw [hc6]; decide) (by rw [hc6]; decide) (by rw [hc6]; rfl) (by decide) ?_
    refine r_iload_n dX12_reckon_44 rfl ?_
    refine r_iload_n dX12_reckon_45 rfl ?_
    refine r_iadd dX12_reckon_46 ?_
    exact r_iret rfl dX12_reckon_47 (hr (a1 + a2) (kbG_some h))
  replace h := kbG_f hc6 h
  have hD : kbR l MX12_reckon 1 Q 104 [some (.int a0), some (.int a1), some (.int a2)] [] μ := by
    refine r_iload_n dX12_reckon_104 rfl ?_
    refine r_if_ne 112 dX12_reckon_105 (by decide) (fun hc => ?_) (fun hc => ?_)
    · replace h := kbG_f hc h
      refine r_le [none, none, none] trivial ?_
      exact jnR_MD_reckon_112  μ (hr := hr) h
    · replace h := kbG_t hc h
      refine r_iload_n dX12_reckon_108 rfl ?_
      refine r_if_eq 116 dX12_reckon_109 (by decide) (fun hc => ?_) (fun hc => ?_)
      · replace h := kbG_t hc h
        refine r_iconst 0 dX12_reckon_116 (by decide) ?_
        refine r_le [none, none, none] trivial ?_
        exact jnR_MD_reckon_117 0 μ (hr := hr) h
      · replace h := kbG_f hc h
        refine r_le [none, none, none] trivial ?_
        exact jnR_MD_reckon_112  μ (hr := hr) h
  exact r_tabOut 104 dX12_reckon_1 (kb_out fun q q1 q2 => by
    have hq : q = (-26) ∨ q = (-25) ∨ q = (-24) ∨ q = (-23) ∨ q = (-22) ∨ q = (-21) ∨ q = (-20) := by omega
    rcases hq with rfl | rfl | rfl | rfl | rfl | rfl | rfl
    · exact hc0
    · exact hc1
    · exact hc2
    · exact hc3
    · exact hc4
    · exact hc5
    · exact hc6) (by decide) hD
def jn_MD_valueNow_117 (n : Nat) (rec : Int32 → Int32 → kbM → Option (kbM)) (v1 : Int32) (v2 : Int32) (μ : kbM) : Option (kbM) :=
  rec v1 (v2 + 1) μ
theorem jnR_MD_valueNow_117 {l : Launch} (n : Nat)   (v1 : Int32) (v2 : Int32) (μ : kbM) {Q : kbQt} {P : kbM → Prop} (hx : ∀ z : kbM, P (z) → kbR l MX12_valueNow 2 Q 123 [some (.ref 57), none, none, none] [] z) {rec : Int32 → Int32 → kbM → Option (kbM)} (hrec : ∀ (v1 : Int32) (v2 : Int32) (μ : kbM), kbG (rec v1 v2 μ) P → kbR l MX12_valueNow 2 Q 4 [some (.ref 57), some (.int v1), some (.int v2), none] [] μ) (h : kbG (jn_MD_valueNow_117 n rec v1 v2 μ) P) : kbR l MX12_valueNow 2 Q 117 [some (.ref 57), some (.int v1), some (.int v2), none] [] μ := by
  unfold jn_MD_valueNow_117 at h
  refine r_iinc 1 dX12_valueNow_117 rfl (by decide) (Nat.le_of_ble_eq_true rfl) rfl ?_
  refine r_goto 4 dX12_valueNow_120 (by decide) ?_
  refine r_le [some (.ref 57), some (.int v1), some (.int (v2 + 1)), none] ⟨rfl, ⟨rfl, ⟨rfl, trivial⟩⟩⟩ ?_
  exact hrec v1 (v2 + 1) μ h
def jn_MD_valueNow_84 (n : Nat) (rec : Int32 → Int32 → kbM → Option (kbM)) (v1 : Int32) (v2 : Int32) (w1 : Int32) (w2 : Int32) (μ : kbM) : Option (kbM) :=
  kbIf (kbIn w1 64) <|
  jn_MD_valueNow_117 n rec v1 v2 (kbW μ 75 w1.toNatClampNeg w2)
theorem jnR_MD_valueNow_84 {l : Launch} (n : Nat)   (v1 : Int32) (v2 : Int32) (w1 : Int32) (w2 : Int32) (μ : kbM) {Q : kbQt} {P : kbM → Prop} (hx : ∀ z : kbM, P (z) → kbR l MX12_valueNow 2 Q 123 [some (.ref 57), none, none, none] [] z) {rec : Int32 → Int32 → kbM → Option (kbM)} (hrec : ∀ (v1 : Int32) (v2 : Int32) (μ : kbM), kbG (rec v1 v2 μ) P → kbR l MX12_valueNow 2 Q 4 [some (.ref 57), some (.int v1), some (.int v2), none] [] μ) (h : kbG (jn_MD_valueNow_84 n rec v1 v2 w1 w2 μ) P) : kbR l MX12_valueNow 2 Q 84 [some (.ref 57), some (.int v1), some (.int v2), none] [.int w2, .int w1, .ref 75] μ := by
  unfold jn_MD_valueNow_84 at h
  obtain ⟨hin, h⟩ := kbG_if h
  replace hin := kbIn_of hin
  refine q_iast w1.toNatClampNeg rfl sh75 hin dX12_valueNow_84 ?_
  refine r_goto 117 dX12_valueNow_85 (by decide) ?_
  refine r_le [some (.ref 57), some (.int v1), some (.int v2), none] ⟨rfl, ⟨rfl, ⟨rfl, trivial⟩⟩⟩ ?_
  exact jnR_MD_valueNow_117 n v1 v2 (kbW μ 75 w1.toNatClampNeg w2) (hx := hx) (hrec := hrec) h
def jn_MD_valueNow_48 (n : Nat) (rec : Int32 → Int32 → kbM → Option (kbM)) (v1 : Int32) (v2 : Int32) (w1 : Int32) (w2 : Int32) (μ : kbM) : Option (kbM) :=
  kbIf (kbIn w1 64) <|
  jn_MD_valueNow_117 n rec (v1 + 1) v2 (kbW μ 75 w1.toNatClampNeg w2)
theorem jnR_MD_valueNow_48 {l : Launch} (n : Nat)   (v1 : Int32) (v2 : Int32) (w1 : Int32) (w2 : Int32) (μ : kbM) {Q : kbQt} {P : kbM → Prop} (hx : ∀ z : kbM, P (z) → kbR l MX12_valueNow 2 Q 123 [some (.ref 57), none, none, none] [] z) {rec : Int32 → Int32 → kbM → Option (kbM)} (hrec : ∀ (v1 : Int32) (v2 : Int32) (μ : kbM), kbG (rec v1 v2 μ) P → kbR l MX12_valueNow 2 Q 4 [some (.ref 57), some (.int v1), some (.int v2), none] [] μ) (h : kbG (jn_MD_valueNow_48 n rec v1 v2 w1 w2 μ) P) : kbR l MX12_valueNow 2 Q 48 [some (.ref 57), some (.int v1), some (.int v2), none] [.int w2, .int w1, .ref 75] μ := by
  unfold jn_MD_valueNow_48 at h
  obtain ⟨hin, h⟩ := kbG_if h
  replace hin := kbIn_of hin
  refine q_iast w1.toNatClampNeg rfl sh75 hin dX12_valueNow_48 ?_
  refine r_iinc 1 dX12_valueNow_49 rfl (by decide) (Nat.le_of_ble_eq_true rfl) rfl ?_
  refine r_goto 117 dX12_valueNow_52 (by decide) ?_
  refine r_le [some (.ref 57), some (.int (v1 + 1)), some (.int v2), none] ⟨rfl, ⟨rfl, ⟨rfl, trivial⟩⟩⟩ ?_
  exact jnR_MD_valueNow_117 n (v1 + 1) v2 (kbW μ 75 w1.toNatClampNeg w2) (hx := hx) (hrec := hrec) h
def lp_MD_valueNow_4 (n : Nat) : Nat → Int32 → Int32 → kbM → Option (kbM)
  | 0, _, _, _ => none
  | k + 1, v1, v2, μ =>
    if (μ.1 61 2) ≤ v2 then
      some μ
    else
      kbIf (kbIn v2 1200) <|
      if (μ.1 67 v2.toNatClampNeg) ≤ (-20) then
        if (μ.1 67 v2.toNatClampNeg) = (-28) then
          kbIf (kbIn (v1 - 1) 64) <|
          if (μ.1 75 ((v1 - 1).toNatClampNeg)) = 0 then
            jn_MD_valueNow_84 n (lp_MD_valueNow_4 n k) v1 v2 (v1 - 1) 1 μ
          else
            jn_MD_valueNow_84 n (lp_MD_valueNow_4 n k) v1 v2 (v1 - 1) 0 μ
        else
          kbIf (kbIn ((v1 + (-1)) - 1) 64) <|
          kbIf (kbIn (v1 + (-1)) 64) <|
          (f_MD_reckon (μ.1 67 v2.toNatClampNeg) (μ.1 75 (((v1 + (-1)) - 1).toNatClampNeg)) (μ.1 75 ((v1 + (-1)).toNatClampNeg))).bind fun x1 =>
          kbIf (kbIn ((v1 + (-1)) - 1) 64) <|
          jn_MD_valueNow_117 n (lp_MD_valueNow_4 n k) (v1 + (-1)) v2 (kbW μ 75 (((v1 + (-1)) - 1).toNatClampNeg) x1)
      else
        if (μ.1 67 v2.toNatClampNeg) < 0 then
          kbIf (kbIn ((-1) - (μ.1 67 v2.toNatClampNeg)) 6) <|
          jn_MD_valueNow_48 n (lp_MD_valueNow_4 n k) v1 v2 v1 (μ.1 74 (((-1) - (μ.1 67 v2.toNatClampNeg)).toNatClampNeg)) μ
        else
          jn_MD_valueNow_48 n (lp_MD_valueNow_4 n k) v1 v2 v1 (μ.1 67 v2.toNatClampNeg) μ
theorem lpR_MD_valueNow_4 {l : Launch} (n : Nat)   {Q : kbQt} {P : kbM → Prop} (hx : ∀ z : kbM, P (z) → kbR l MX12_valueNow 2 Q 123 [some (.ref 57), none, none, none] [] z) : ∀ (k : Nat) (v1 : Int32) (v2 : Int32) (μ : kbM), kbG (lp_MD_valueNow_4 n k v1 v2 μ) P → kbR l MX12_valueNow 2 Q 4 [some (.ref 57), some (.int v1), some (.int v2), none] [] μ := by
  intro k
  induction k with
  | zero => intro v1 v2 μ h; exact absurd h kbG_none
  | succ k ih =>
    intro v1 v2 μ h
    unfold lp_MD_valueNow_4 at h
    refine r_iload_n dX12_valueNow_4 rfl ?_
    refine r_aload_n dX12_valueNow_5 rfl ?_
    refine r_getR flX12_47 sh57 rfl dX12_valueNow_6 ?_
    refine r_iconst 2 dX12_valueNow_9 (by decide) ?_
    have hin : vp_in 2 6 := kbIn_of (by decide)
    refine q_iald 2 (by decide) sh61 hin dX12_valueNow_10 ?_
    refine r_icmp_ge 123 dX12_valueNow_11 (by decide) (fun hc => ?_) (fun hc => ?_)
    · replace h := kbG_t hc h
      refine r_le [some (.ref 57), none, none, none] ⟨rfl, trivial⟩ ?_
      exact hx μ (kbG_some h)
    · replace h := kbG_f hc h
      refine r_aload_n dX12_valueNow_14 rfl ?_
      refine r_getR flX12_66 sh57 rfl dX12_valueNow_15 ?_
      refine r_iload_n dX12_valueNow_18 rfl ?_
      obtain ⟨hin, h⟩ := kbG_if h
      replace hin := kbIn_of hin
      refine q_iald v2.toNatClampNeg rfl sh67 hin dX12_valueNow_19 ?_
      refine r_istore_n dX12_valueNow_20 (Nat.le_of_ble_eq_true rfl) rfl ?_
      refine r_iload_n dX12_valueNow_21 rfl ?_
      refine r_bipush (-20) dX12_valueNow_22 (by decide) ?_
      refine r_icmp_le 55 dX12_valueNow_24 (by decide) (fun hc => ?_) (fun hc => ?_)
      · replace h := kbG_t hc h
        refine r_iload_n dX12_valueNow_55 rfl ?_
        refine r_bipush (-28) dX12_valueNow_56 (by decide) ?_
        refine r_icmp_ne 88 dX12_valueNow_58 (by decide) (fun hc => ?_) (fun hc => ?_)
        · replace h := kbG_f hc h
          refine r_iinc (-1) dX12_valueNow_88 rfl (by decide) (Nat.le_of_ble_eq_true rfl) rfl ?_
          refine r_aload_n dX12_valueNow_91 rfl ?_
          refine r_getR flX12_94 sh57 rfl dX12_valueNow_92 ?_
          refine r_iload_n dX12_valueNow_95 rfl ?_
          refine r_iconst 1 dX12_valueNow_96 (by decide) ?_
          refine r_isub dX12_valueNow_97 ?_
          refine r_iload_n dX12_valueNow_98 rfl ?_
          refine r_aload_n dX12_valueNow_99 rfl ?_
          refine r_getR flX12_94 sh57 rfl dX12_valueNow_100 ?_
          refine r_iload_n dX12_valueNow_103 rfl ?_
          refine r_iconst 1 dX12_valueNow_104 (by decide) ?_
          refine r_isub dX12_valueNow_105 ?_
          obtain ⟨hin, h⟩ := kbG_if h
          replace hin := kbIn_of hin
          refine q_iald (((v1 + (-1)) - 1).toNatClampNeg) rfl sh75 hin dX12_valueNow_106 ?_
          refine r_aload_n dX12_valueNow_107 rfl ?_
          refine r_getR flX12_94 sh57 rfl dX12_valueNow_108 ?_
          refine r_iload_n dX12_valueNow_111 rfl ?_
          obtain ⟨hin, h⟩ := kbG_if h
          replace hin := kbIn_of hin
          refine q_iald ((v1 + (-1)).toNatClampNeg) rfl sh75 hin dX12_valueNow_112 ?_
          obtain ⟨x1, hx0, h⟩ := kbG_bind h
          refine r_inv_i csX12_348 (sp_MD_reckon (μ.1 67 v2.toNatClampNeg) (μ.1 75 (((v1 + (-1)) - 1).toNatClampNeg)) (μ.1 75 ((v1 + (-1)).toNatClampNeg)) μ hx0) rfl rfl (Nat.le_of_ble_eq_true rfl) (Nat.le_of_ble_eq_true rfl) dX12_valueNow_113 ?_
          obtain ⟨hin, h⟩ := kbG_if h
          replace hin := kbIn_of hin
          refine q_iast (((v1 + (-1)) - 1).toNatClampNeg) rfl sh75 hin dX12_valueNow_116 ?_
          refine r_le [some (.ref 57), some (.int (v1 + (-1))), some (.int v2), none] ⟨rfl, ⟨rfl, ⟨rfl, trivial⟩⟩⟩ ?_
          exact jnR_MD_valueNow_117 n (v1 + (-1)) v2 (kbW μ 75 (((v1 + (-1)) - 1).toNatClampNeg) x1) (hx := hx) (hrec := ih) h
        · replace h := kbG_t hc h
          refine r_aload_n dX12_valueNow_61 rfl ?_
          refine r_getR flX12_94 sh57 rfl dX12_valueNow_62 ?_
          refine r_iload_n dX12_valueNow_65 rfl ?_
          refine r_iconst 1 dX12_valueNow_66 (by decide) ?_
          refine r_isub dX12_valueNow_67 ?_
          refine r_aload_n dX12_valueNow_68 rfl ?_
          refine r_getR flX12_94 sh57 rfl dX12_valueNow_69 ?_
          refine r_iload_n dX12_valueNow_72 rfl ?_
          refine r_iconst 1 dX12_valueNow_73 (by decide) ?_
          refine r_isub dX12_valueNow_74 ?_
          obtain ⟨hin, h⟩ := kbG_if h
          replace hin := kbIn_of hin
          refine q_iald ((v1 - 1).toNatClampNeg) rfl sh75 hin dX12_valueNow_75 ?_
          refine r_if_eq 83 dX12_valueNow_76 (by decide) (fun hc => ?_) (fun hc => ?_)
          · replace h := kbG_t hc h
            refine r_iconst 1 dX12_valueNow_83 (by decide) ?_
            refine r_le [some (.ref 57), some (.int v1), some (.int v2), none] ⟨rfl, ⟨rfl, ⟨rfl, trivial⟩⟩⟩ ?_
            exact jnR_MD_valueNow_84 n v1 v2 (v1 - 1) 1 μ (hx := hx) (hrec := ih) h
          · replace h := kbG_f hc h
            refine r_iconst 0 dX12_valueNow_79 (by decide) ?_
            refine r_goto 84 dX12_valueNow_80 (by decide) ?_
            refine r_le [some (.ref 57), some (.int v1), some (.int v2), none] ⟨rfl, ⟨rfl, ⟨rfl, trivial⟩⟩⟩ ?_
            exact jnR_MD_valueNow_84 n v1 v2 (v1 - 1) 0 μ (hx := hx) (hrec := ih) h
      · replace h := kbG_f hc h
        refine r_aload_n dX12_valueNow_27 rfl ?_
        refine r_getR flX12_94 sh57 rfl dX12_valueNow_28 ?_
        refine r_iload_n dX12_valueNow_31 rfl ?_
        refine r_iload_n dX12_valueNow_32 rfl ?_
        refine r_if_lt 40 dX12_valueNow_33 (by decide) (fun hc => ?_) (fun hc => ?_)
        · replace h := kbG_t hc h
          refine r_aload_n dX12_valueNow_40 rfl ?_
          refine r_getR flX12_91 sh57 rfl dX12_valueNow_41 ?_
          refine r_iconst (-1) dX12_valueNow_44 (by decide) ?_
          refine r_iload_n dX12_valueNow_45 rfl ?_
          refine r_isub dX12_valueNow_46 ?_
          obtain ⟨hin, h⟩ := kbG_if h
          replace hin := kbIn_of hin
          refine q_iald (((-1) - (μ.1 67 v2.toNatClampNeg)).toNatClampNeg) rfl sh74 hin dX12_valueNow_47 ?_
          refine r_le [some (.ref 57), some (.int v1), some (.int v2), none] ⟨rfl, ⟨rfl, ⟨rfl, trivial⟩⟩⟩ ?_
          exact jnR_MD_valueNow_48 n v1 v2 v1 (μ.1 74 (((-1) - (μ.1 67 v2.toNatClampNeg)).toNatClampNeg)) μ (hx := hx) (hrec := ih) h
        · replace h := kbG_f hc h
          refine r_iload_n dX12_valueNow_36 rfl ?_
          refine r_goto 48 dX12_valueNow_37 (by decide) ?_
          refine r_le [some (.ref 57), some (.int v1), some (.int v2), none] ⟨rfl, ⟨rfl, ⟨rfl, trivial⟩⟩⟩ ?_
          exact jnR_MD_valueNow_48 n v1 v2 v1 (μ.1 67 v2.toNatClampNeg) μ (hx := hx) (hrec := ih) h
def f_MD_valueNow (n : Nat) (μ : kbM) : Option (Int32 × kbM) :=
  (lp_MD_valueNow_4 n n 0 0 μ).bind fun x2 =>
  some ((x2.1 75 0, x2))
theorem sp_MD_valueNow {l : Launch} (n : Nat) (μ : kbM)  {x : Int32 × kbM} (h : f_MD_valueNow n μ = some x) : kbS l MX12_valueNow 2 [.ref 57] μ (kbQe (some (.int x.1)) x.2) := by
  refine kb_enter 3 rfl rfl ?_
  suffices H : ∀ (Q : kbQt) (P : Int32 × kbM → Prop), (∀ z : Int32 × kbM, P z → Q (some (.int z.1)) z.2) → kbG (f_MD_valueNow n μ) P → kbR l MX12_valueNow 2 Q 0 [some (.ref 57), none, none, none] [] μ from H _ (fun z => z = x) (fun z e => by subst e; exact ⟨rfl, rfl⟩) ⟨x, h, rfl⟩
  clear h
  intro Q P hr h
  unfold f_MD_valueNow at h
  refine r_iconst 0 dX12_valueNow_0 (by decide) ?_
  refine r_istore_n dX12_valueNow_1 (Nat.le_of_ble_eq_true rfl) rfl ?_
  refine r_iconst 0 dX12_valueNow_2 (by decide) ?_
  refine r_istore_n dX12_valueNow_3 (Nat.le_of_ble_eq_true rfl) rfl ?_
  refine r_le [some (.ref 57), some (.int 0), some (.int 0), none] ⟨rfl, ⟨rfl, ⟨rfl, trivial⟩⟩⟩ ?_
  obtain ⟨x2, hx0, h⟩ := kbG_bind h
  refine lpR_MD_valueNow_4 n (P := fun z => x2 = z) (hx := fun z e => ?_) n _ _ _ ⟨_, hx0, rfl⟩
  subst e
  refine r_aload_n dX12_valueNow_123 rfl ?_
  refine r_getR flX12_94 sh57 rfl dX12_valueNow_124 ?_
  refine r_iconst 0 dX12_valueNow_127 (by decide) ?_
  have hin : vp_in 0 64 := kbIn_of (by decide)
  refine q_iald 0 (by decide) sh75 hin dX12_valueNow_128 ?_
  exact r_iret rfl dX12_valueNow_129 (hr ((x2.1 75 0, x2)) (kbG_some h))
def jn_MD_joins_14 (n : Nat) (μ : kbM) : Option (Int32 × kbM) :=
  some ((1, μ))
theorem jnR_MD_joins_14 {l : Launch} (n : Nat)    (μ : kbM) {Q : kbQt} {P : Int32 × kbM → Prop} (hr : ∀ z : Int32 × kbM, P z → Q (some (.int z.1)) z.2) (h : kbG (jn_MD_joins_14 n μ) P) : kbR l MX12_joins 3 Q 14 [none, none, none] [] μ := by
  unfold jn_MD_joins_14 at h
  refine r_iconst 1 dX12_joins_14 (by decide) ?_
  exact r_zret rfl rfl dX12_joins_15 (hr ((1, μ)) (kbG_some h))
def jn_MD_joins_107 (n : Nat) (w0 : Int32) (μ : kbM) : Option (Int32 × kbM) :=
  kbIf (decide (w0 = 0 ∨ w0 = 1)) <|
  some ((w0, μ))
theorem jnR_MD_joins_107 {l : Launch} (n : Nat)   (w0 : Int32) (μ : kbM) {Q : kbQt} {P : Int32 × kbM → Prop} (hr : ∀ z : Int32 × kbM, P z → Q (some (.int z.1)) z.2) (h : kbG (jn_MD_joins_107 n w0 μ) P) : kbR l MX12_joins 3 Q 107 [none, none, none] [.int w0] μ := by
  unfold jn_MD_joins_107 at h
  obtain ⟨hz, h⟩ := kbG_if h
  exact r_zret rfl (kb_z01 (of_decide_eq_true hz)) dX12_joins_107 (hr ((w0, μ)) (kbG_some h))
def jn_MD_joins_94 (n : Nat) (w1 : Int32) (w2 : Int32) (μ : kbM) : Option (Int32 × kbM) :=
  kbIf (kbIn w1 6) <|
  (f_MD_valueNow n (kbW μ 74 w1.toNatClampNeg w2)).bind fun x2 =>
  if x2.1 = 0 then
    jn_MD_joins_107 n 0 x2.2
  else
    jn_MD_joins_107 n 1 x2.2
theorem jnR_MD_joins_94 {l : Launch} (n : Nat)   (w1 : Int32) (w2 : Int32) (μ : kbM) {Q : kbQt} {P : Int32 × kbM → Prop} (hr : ∀ z : Int32 × kbM, P z → Q (some (.int z.1)) z.2) (h : kbG (jn_MD_joins_94 n w1 w2 μ) P) : kbR l MX12_joins 3 Q 94 [some (.ref 57), none, none] [.int w2, .int w1, .ref 74] μ := by
  unfold jn_MD_joins_94 at h
  obtain ⟨hin, h⟩ := kbG_if h
  replace hin := kbIn_of hin
  refine q_iast w1.toNatClampNeg rfl sh74 hin dX12_joins_94 ?_
  refine r_aload_n dX12_joins_95 rfl ?_
  obtain ⟨x2, hx0, h⟩ := kbG_bind h
  refine r_invV_i cvX12_352 sh57 rfl (sp_MD_valueNow n (kbW μ 74 w1.toNatClampNeg w2) hx0) rfl rfl (Nat.le_of_ble_eq_true rfl) (Nat.le_of_ble_eq_true rfl) dX12_joins_96 ?_
  refine r_if_eq 106 dX12_joins_99 (by decide) (fun hc => ?_) (fun hc => ?_)
  · replace h := kbG_t hc h
    refine r_iconst 0 dX12_joins_106 (by decide) ?_
    refine r_le [none, none, none] trivial ?_
    exact jnR_MD_joins_107 n 0 x2.2 (hr := hr) h
  · replace h := kbG_f hc h
    refine r_iconst 1 dX12_joins_102 (by decide) ?_
    refine r_goto 107 dX12_joins_103 (by decide) ?_
    refine r_le [none, none, none] trivial ?_
    exact jnR_MD_joins_107 n 1 x2.2 (hr := hr) h
def f_MD_joins (n : Nat) (a1 : Int32) (a2 : Int32) (μ : kbM) : Option (Int32 × kbM) :=
  if a1 = (-1) then
    jn_MD_joins_14 n μ
  else
    if (μ.1 61 2) = 0 then
      jn_MD_joins_14 n μ
    else
      kbIf (kbIn a1 10) <|
      kbIf (kbIn a2 10) <|
      kbIf (kbIn a1 10) <|
      kbIf (kbIn a2 10) <|
      kbIf (kbIn a2 10) <|
      (f_MD_sizeOf n ((kbW (kbW (kbW (kbW μ 74 0 (μ.1 71 a1.toNatClampNeg)) 74 1 ((kbW μ 74 0 (μ.1 71 a1.toNatClampNeg)).1 71 a2.toNatClampNeg)) 74 2 ((kbW (kbW μ 74 0 (μ.1 71 a1.toNatClampNeg)) 74 1 ((kbW μ 74 0 (μ.1 71 a1.toNatClampNeg)).1 71 a2.toNatClampNeg)).1 72 a1.toNatClampNeg)) 74 3 ((kbW (kbW (kbW μ 74 0 (μ.1 71 a1.toNatClampNeg)) 74 1 ((kbW μ 74 0 (μ.1 71 a1.toNatClampNeg)).1 71 a2.toNatClampNeg)) 74 2 ((kbW (kbW μ 74 0 (μ.1 71 a1.toNatClampNeg)) 74 1 ((kbW μ 74 0 (μ.1 71 a1.toNatClampNeg)).1 71 a2.toNatClampNeg)).1 72 a1.toNatClampNeg)).1 72 a2.toNatClampNeg)).1 70 a2.toNatClampNeg)).bind fun x1 =>
      if a1 = a2 then
        jn_MD_joins_94 n 5 1 (kbW (kbW (kbW (kbW (kbW μ 74 0 (μ.1 71 a1.toNatClampNeg)) 74 1 ((kbW μ 74 0 (μ.1 71 a1.toNatClampNeg)).1 71 a2.toNatClampNeg)) 74 2 ((kbW (kbW μ 74 0 (μ.1 71 a1.toNatClampNeg)) 74 1 ((kbW μ 74 0 (μ.1 71 a1.toNatClampNeg)).1 71 a2.toNatClampNeg)).1 72 a1.toNatClampNeg)) 74 3 ((kbW (kbW (kbW μ 74 0 (μ.1 71 a1.toNatClampNeg)) 74 1 ((kbW μ 74 0 (μ.1 71 a1.toNatClampNeg)).1 71 a2.toNatClampNeg)) 74 2 ((kbW (kbW μ 74 0 (μ.1 71 a1.toNatClampNeg)) 74 1 ((kbW μ 74 0 (μ.1 71 a1.toNatClampNeg)).1 71 a2.toNatClampNeg)).1 72 a1.toNatClampNeg)).1 72 a2.toNatClampNeg)) 74 4 x1)
      else
        jn_MD_joins_94 n 5 0 (kbW (kbW (kbW (kbW (kbW μ 74 0 (μ.1 71 a1.toNatClampNeg)) 74 1 ((kbW μ 74 0 (μ.1 71 a1.toNatClampNeg)).1 71 a2.toNatClampNeg)) 74 2 ((kbW (kbW μ 74 0 (μ.1 71 a1.toNatClampNeg)) 74 1 ((kbW μ 74 0 (μ.1 71 a1.toNatClampNeg)).1 71 a2.toNatClampNeg)).1 72 a1.toNatClampNeg)) 74 3 ((kbW (kbW (kbW μ 74 0 (μ.1 71 a1.toNatClampNeg)) 74 1 ((kbW μ 74 0 (μ.1 71 a1.toNatClampNeg)).1 71 a2.toNatClampNeg)) 74 2 ((kbW (kbW μ 74 0 (μ.1 71 a1.toNatClampNeg)) 74 1 ((kbW μ 74 0 (μ.1 71 a1.toNatClampNeg)).1 71 a2.toNatClampNeg)).1 72 a1.toNatClampNeg)).1 72 a2.toNatClampNeg)) 74 4 x1)
theorem sp_MD_joins {l : Launch} (n : Nat) (a1 : Int32) (a2 : Int32) (μ : kbM)  {x : Int32 × kbM} (h : f_MD_joins n a1 a2 μ = some x) : kbS l MX12_joins 3 [.ref 57, .int a1, .int a2] μ (kbQe (some (.int x.1)) x.2) := by
  refine kb_enter 0 rfl rfl ?_
  suffices H : ∀ (Q : kbQt) (P : Int32 × kbM → Prop), (∀ z : Int32 × kbM, P z → Q (some (.int z.1)) z.2) → kbG (f_MD_joins n a1 a2 μ) P → kbR l MX12_joins 3 Q 0 [some (.ref 57), some (.int a1), some (.int a2)] [] μ from H _ (fun z => z = x) (fun z e => by subst e; exact ⟨rfl, rfl⟩) ⟨x, h, rfl⟩
  clear h
  intro Q P hr h
  unfold f_MD_joins at h
  refine r_iload_n dX12_joins_0 rfl ?_
  refine r_iconst (-1) dX12_joins_1 (by decide) ?_
  refine r_icmp_eq 14 dX12_joins_2 (by decide) (fun hc => ?_) (fun hc => ?_)
  · replace h := kbG_t hc h
    refine r_le [none, none, none] trivial ?_
    exact jnR_MD_joins_14 n  μ (hr := hr) h
  · replace h := kbG_f hc h
    refine r_aload_n dX12_joins_5 rfl ?_
    refine r_getR flX12_47 sh57 rfl dX12_joins_6 ?_
    refine r_iconst 2 dX12_joins_9 (by decide) ?_
    have hin : vp_in 2 6 := kbIn_of (by decide)
    refine q_iald 2 (by decide) sh61 hin dX12_joins_10 ?_
    refine r_if_ne 16 dX12_joins_11 (by decide) (fun hc => ?_) (fun hc => ?_)
    · replace h := kbG_f hc h
      refine r_aload_n dX12_joins_16 rfl ?_
      refine r_getR flX12_91 sh57 rfl dX12_joins_17 ?_
      refine r_iconst 0 dX12_joins_20 (by decide) ?_
      refine r_aload_n dX12_joins_21 rfl ?_
      refine r_getR flX12_82 sh57 rfl dX12_joins_22 ?_
      refine r_iload_n dX12_joins_25 rfl ?_
      obtain ⟨hin, h⟩ := kbG_if h
      replace hin := kbIn_of hin
      refine q_iald a1.toNatClampNeg rfl sh71 hin dX12_joins_26 ?_
      have hin : vp_in 0 6 := kbIn_of (by decide)
      refine q_iast 0 (by decide) sh74 hin dX12_joins_27 ?_
      refine r_aload_n dX12_joins_28 rfl ?_
      refine r_getR flX12_91 sh57 rfl dX12_joins_29 ?_
      refine r_iconst 1 dX12_joins_32 (by decide) ?_
      refine r_aload_n dX12_joins_33 rfl ?_
      refine r_getR flX12_82 sh57 rfl dX12_joins_34 ?_
      refine r_iload_n dX12_joins_37 rfl ?_
      obtain ⟨hin, h⟩ := kbG_if h
      replace hin := kbIn_of hin
      refine q_iald a2.toNatClampNeg rfl sh71 hin dX12_joins_38 ?_
      have hin : vp_in 1 6 := kbIn_of (by decide)
      refine q_iast 1 (by decide) sh74 hin dX12_joins_39 ?_
      refine r_aload_n dX12_joins_40 rfl ?_
      refine r_getR flX12_91 sh57 rfl dX12_joins_41 ?_
      refine r_iconst 2 dX12_joins_44 (by decide) ?_
      refine r_aload_n dX12_joins_45 rfl ?_
      refine r_getR flX12_85 sh57 rfl dX12_joins_46 ?_
      refine r_iload_n dX12_joins_49 rfl ?_
      obtain ⟨hin, h⟩ := kbG_if h
      replace hin := kbIn_of hin
      refine q_iald a1.toNatClampNeg rfl sh72 hin dX12_joins_50 ?_
      have hin : vp_in 2 6 := kbIn_of (by decide)
      refine q_iast 2 (by decide) sh74 hin dX12_joins_51 ?_
      refine r_aload_n dX12_joins_52 rfl ?_
      refine r_getR flX12_91 sh57 rfl dX12_joins_53 ?_
      refine r_iconst 3 dX12_joins_56 (by decide) ?_
      refine r_aload_n dX12_joins_57 rfl ?_
      refine r_getR flX12_85 sh57 rfl dX12_joins_58 ?_
      refine r_iload_n dX12_joins_61 rfl ?_
      obtain ⟨hin, h⟩ := kbG_if h
      replace hin := kbIn_of hin
      refine q_iald a2.toNatClampNeg rfl sh72 hin dX12_joins_62 ?_
      have hin : vp_in 3 6 := kbIn_of (by decide)
      refine q_iast 3 (by decide) sh74 hin dX12_joins_63 ?_
      refine r_aload_n dX12_joins_64 rfl ?_
      refine r_getR flX12_91 sh57 rfl dX12_joins_65 ?_
      refine r_iconst 4 dX12_joins_68 (by decide) ?_
      refine r_aload_n dX12_joins_69 rfl ?_
      refine r_getR flX12_79 sh57 rfl dX12_joins_70 ?_
      refine r_iload_n dX12_joins_73 rfl ?_
      obtain ⟨hin, h⟩ := kbG_if h
      replace hin := kbIn_of hin
      refine q_iald a2.toNatClampNeg rfl sh70 hin dX12_joins_74 ?_
      obtain ⟨x1, hx0, h⟩ := kbG_bind h
      refine r_inv_i csX12_322 (sp_MD_sizeOf n ((kbW (kbW (kbW (kbW μ 74 0 (μ.1 71 a1.toNatClampNeg)) 74 1 ((kbW μ 74 0 (μ.1 71 a1.toNatClampNeg)).1 71 a2.toNatClampNeg)) 74 2 ((kbW (kbW μ 74 0 (μ.1 71 a1.toNatClampNeg)) 74 1 ((kbW μ 74 0 (μ.1 71 a1.toNatClampNeg)).1 71 a2.toNatClampNeg)).1 72 a1.toNatClampNeg)) 74 3 ((kbW (kbW (kbW μ 74 0 (μ.1 71 a1.toNatClampNeg)) 74 1 ((kbW μ 74 0 (μ.1 71 a1.toNatClampNeg)).1 71 a2.toNatClampNeg)) 74 2 ((kbW (kbW μ 74 0 (μ.1 71 a1.toNatClampNeg)) 74 1 ((kbW μ 74 0 (μ.1 71 a1.toNatClampNeg)).1 71 a2.toNatClampNeg)).1 72 a1.toNatClampNeg)).1 72 a2.toNatClampNeg)).1 70 a2.toNatClampNeg) (kbW (kbW (kbW (kbW μ 74 0 (μ.1 71 a1.toNatClampNeg)) 74 1 ((kbW μ 74 0 (μ.1 71 a1.toNatClampNeg)).1 71 a2.toNatClampNeg)) 74 2 ((kbW (kbW μ 74 0 (μ.1 71 a1.toNatClampNeg)) 74 1 ((kbW μ 74 0 (μ.1 71 a1.toNatClampNeg)).1 71 a2.toNatClampNeg)).1 72 a1.toNatClampNeg)) 74 3 ((kbW (kbW (kbW μ 74 0 (μ.1 71 a1.toNatClampNeg)) 74 1 ((kbW μ 74 0 (μ.1 71 a1.toNatClampNeg)).1 71 a2.toNatClampNeg)) 74 2 ((kbW (kbW μ 74 0 (μ.1 71 a1.toNatClampNeg)) 74 1 ((kbW μ 74 0 (μ.1 71 a1.toNatClampNeg)).1 71 a2.toNatClampNeg)).1 72 a1.toNatClampNeg)).1 72 a2.toNatClampNeg)) hx0) rfl rfl (Nat.le_of_ble_eq_true rfl) (Nat.le_of_ble_eq_true rfl) dX12_joins_75 ?_
      have hin : vp_in 4 6 := kbIn_of (by decide)
      refine q_iast 4 (by decide) sh74 hin dX12_joins_78 ?_
      refine r_aload_n dX12_joins_79 rfl ?_
      refine r_getR flX12_91 sh57 rfl dX12_joins_80 ?_
      refine r_iconst 5 dX12_joins_83 (by decide) ?_
      refine r_iload_n dX12_joins_84 rfl ?_
      refine r_iload_n dX12_joins_85 rfl ?_
      refine r_icmp_ne 93 dX12_joins_86 (by decide) (fun hc => ?_) (fun hc => ?_)
      · replace h := kbG_f hc h
        refine r_iconst 0 dX12_joins_93 (by decide) ?_
        refine r_le [some (.ref 57), none, none] ⟨rfl, trivial⟩ ?_
        exact jnR_MD_joins_94 n 5 0 (kbW (kbW (kbW (kbW (kbW μ 74 0 (μ.1 71 a1.toNatClampNeg)) 74 1 ((kbW μ 74 0 (μ.1 71 a1.toNatClampNeg)).1 71 a2.toNatClampNeg)) 74 2 ((kbW (kbW μ 74 0 (μ.1 71 a1.toNatClampNeg)) 74 1 ((kbW μ 74 0 (μ.1 71 a1.toNatClampNeg)).1 71 a2.toNatClampNeg)).1 72 a1.toNatClampNeg)) 74 3 ((kbW (kbW (kbW μ 74 0 (μ.1 71 a1.toNatClampNeg)) 74 1 ((kbW μ 74 0 (μ.1 71 a1.toNatClampNeg)).1 71 a2.toNatClampNeg)) 74 2 ((kbW (kbW μ 74 0 (μ.1 71 a1.toNatClampNeg)) 74 1 ((kbW μ 74 0 (μ.1 71 a1.toNatClampNeg)).1 71 a2.toNatClampNeg)).1 72 a1.toNatClampNeg)).1 72 a2.toNatClampNeg)) 74 4 x1) (hr := hr) h
      · replace h := kbG_t hc h
        refine r_iconst 1 dX12_joins_89 (by decide) ?_
        refine r_goto 94 dX12_joins_90 (by decide) ?_
        refine r_le [some (.ref 57), none, none] ⟨rfl, trivial⟩ ?_
        exact jnR_MD_joins_94 n 5 1 (kbW (kbW (kbW (kbW (kbW μ 74 0 (μ.1 71 a1.toNatClampNeg)) 74 1 ((kbW μ 74 0 (μ.1 71 a1.toNatClampNeg)).1 71 a2.toNatClampNeg)) 74 2 ((kbW (kbW μ 74 0 (μ.1 71 a1.toNatClampNeg)) 74 1 ((kbW μ 74 0 (μ.1 71 a1.toNatClampNeg)).1 71 a2.toNatClampNeg)).1 72 a1.toNatClampNeg)) 74 3 ((kbW (kbW (kbW μ 74 0 (μ.1 71 a1.toNatClampNeg)) 74 1 ((kbW μ 74 0 (μ.1 71 a1.toNatClampNeg)).1 71 a2.toNatClampNeg)) 74 2 ((kbW (kbW μ 74 0 (μ.1 71 a1.toNatClampNeg)) 74 1 ((kbW μ 74 0 (μ.1 71 a1.toNatClampNeg)).1 71 a2.toNatClampNeg)).1 72 a1.toNatClampNeg)).1 72 a2.toNatClampNeg)) 74 4 x1) (hr := hr) h
    · replace h := kbG_t hc h
      refine r_le [none, none, none] trivial ?_
      exact jnR_MD_joins_14 n  μ (hr := hr) h
def jn_MD_tellReadings_190 (n : Nat) (rec : Int32 → kbM → Option (kbM)) (v2 : Int32) (v3 : Int32) (v4 : Int32) (v5 : Int32) (μ : kbM) : Option (kbM) :=
  rec (v5 + 1) μ
theorem jnR_MD_tellReadings_190 {l : Launch} (n : Nat)   (v2 : Int32) (v3 : Int32) (v4 : Int32) (v5 : Int32) (μ : kbM) {Q : kbQt} {P : kbM → Prop} (hx : ∀ z : kbM, P (z) → kbR l MX12_tellReadings 4 Q 196 [some (.ref 57), none, some (.int v2), some (.int v3), none, none, none] [] z) {rec : Int32 → kbM → Option (kbM)} (hrec : ∀ (v5 : Int32) (μ : kbM), kbG (rec v5 μ) P → kbR l MX12_tellReadings 4 Q 74 [some (.ref 57), none, some (.int v2), some (.int v3), some (.int v4), some (.int v5), none] [] μ) (h : kbG (jn_MD_tellReadings_190 n rec v2 v3 v4 v5 μ) P) : kbR l MX12_tellReadings 4 Q 190 [some (.ref 57), none, some (.int v2), some (.int v3), some (.int v4), some (.int v5), none] [] μ := by
  unfold jn_MD_tellReadings_190 at h
  refine r_iinc 1 dX12_tellReadings_190 rfl (by decide) (Nat.le_of_ble_eq_true rfl) rfl ?_
  refine r_goto 74 dX12_tellReadings_193 (by decide) ?_
  refine r_le [some (.ref 57), none, some (.int v2), some (.int v3), some (.int v4), some (.int (v5 + 1)), none] ⟨rfl, ⟨rfl, ⟨rfl, ⟨rfl, ⟨rfl, trivial⟩⟩⟩⟩⟩ ?_
  exact hrec (v5 + 1) μ h
def jn_MD_tellReadings_119 (n : Nat) (rec : Int32 → kbM → Option (kbM)) (v2 : Int32) (v3 : Int32) (v4 : Int32) (v5 : Int32) (w1 : Int32) (μ : kbM) : Option (kbM) :=
  (f_MD_joins n w1 v5 μ).bind fun x3 =>
  if x3.1 = 0 then
    jn_MD_tellReadings_190 n rec v2 v3 v4 v5 x3.2
  else
    kbIf (kbIn v5 10) <|
    kbIf (kbIn v4 143) <|
    kbIf (kbIn ((11 * (v2 + (x3.2.1 79 v5.toNatClampNeg))) + v5) 143) <|
    kbIf (kbIn v4 143) <|
    kbIf (kbIn v4 143) <|
    kbIf (kbIn ((11 * (v2 + (x3.2.1 79 v5.toNatClampNeg))) + v5) 143) <|
    kbIf (kbIn v4 143) <|
    jn_MD_tellReadings_190 n rec v2 v3 v4 v5 (kbW (kbX x3.2 80 v4.toNatClampNeg ((x3.2.2 80 v4.toNatClampNeg) + (x3.2.2 80 (((11 * (v2 + (x3.2.1 79 v5.toNatClampNeg))) + v5).toNatClampNeg)))) 77 v4.toNatClampNeg (kbMin ((kbX x3.2 80 v4.toNatClampNeg ((x3.2.2 80 v4.toNatClampNeg) + (x3.2.2 80 (((11 * (v2 + (x3.2.1 79 v5.toNatClampNeg))) + v5).toNatClampNeg)))).1 77 v4.toNatClampNeg) (1 + ((kbX x3.2 80 v4.toNatClampNeg ((x3.2.2 80 v4.toNatClampNeg) + (x3.2.2 80 (((11 * (v2 + (x3.2.1 79 v5.toNatClampNeg))) + v5).toNatClampNeg)))).1 77 (((11 * (v2 + (x3.2.1 79 v5.toNatClampNeg))) + v5).toNatClampNeg)))))
theorem jnR_MD_tellReadings_119 {l : Launch} (n : Nat)   (v2 : Int32) (v3 : Int32) (v4 : Int32) (v5 : Int32) (w1 : Int32) (μ : kbM) {Q : kbQt} {P : kbM → Prop} (hx : ∀ z : kbM, P (z) → kbR l MX12_tellReadings 4 Q 196 [some (.ref 57), none, some (.int v2), some (.int v3), none, none, none] [] z) {rec : Int32 → kbM → Option (kbM)} (hrec : ∀ (v5 : Int32) (μ : kbM), kbG (rec v5 μ) P → kbR l MX12_tellReadings 4 Q 74 [some (.ref 57), none, some (.int v2), some (.int v3), some (.int v4), some (.int v5), none] [] μ) (h : kbG (jn_MD_tellReadings_119 n rec v2 v3 v4 v5 w1 μ) P) : kbR l MX12_tellReadings 4 Q 119 [some (.ref 57), none, some (.int v2), some (.int v3), some (.int v4), some (.int v5), none] [.int w1, .ref 57] μ := by
  unfold jn_MD_tellReadings_119 at h
  refine r_iload dX12_tellReadings_119 rfl ?_
  obtain ⟨x3, hx0, h⟩ := kbG_bind h
  refine r_invV_i cvX12_364 sh57 rfl (sp_MD_joins n w1 v5 μ hx0) rfl rfl (Nat.le_of_ble_eq_true rfl) (Nat.le_of_ble_eq_true rfl) dX12_tellReadings_121 ?_
  refine r_if_ne 130 dX12_tellReadings_124 (by decide) (fun hc => ?_) (fun hc => ?_)
  · replace h := kbG_f hc h
    refine r_bipush 11 dX12_tellReadings_130 (by decide) ?_
    refine r_iload_n dX12_tellReadings_132 rfl ?_
    refine r_aload_n dX12_tellReadings_133 rfl ?_
    refine r_getR flX12_106 sh57 rfl dX12_tellReadings_134 ?_
    refine r_iload dX12_tellReadings_137 rfl ?_
    obtain ⟨hin, h⟩ := kbG_if h
    replace hin := kbIn_of hin
    refine q_iald v5.toNatClampNeg rfl sh79 hin dX12_tellReadings_139 ?_
    refine r_iadd dX12_tellReadings_140 ?_
    refine r_imul dX12_tellReadings_141 ?_
    refine r_iload dX12_tellReadings_142 rfl ?_
    refine r_iadd dX12_tellReadings_144 ?_
    refine r_istore dX12_tellReadings_145 (Nat.le_of_ble_eq_true rfl) rfl ?_
    refine r_aload_n dX12_tellReadings_147 rfl ?_
    refine r_getR flX12_109 sh57 rfl dX12_tellReadings_148 ?_
    refine r_iload dX12_tellReadings_151 rfl ?_
    refine r_dup2 dX12_tellReadings_153 rfl rfl ?_
    obtain ⟨hin, h⟩ := kbG_if h
    replace hin := kbIn_of hin
    refine q_lald v4.toNatClampNeg rfl sh80 hin dX12_tellReadings_154 ?_
    refine r_aload_n dX12_tellReadings_155 rfl ?_
    refine r_getR flX12_109 sh57 rfl dX12_tellReadings_156 ?_
    refine r_iload dX12_tellReadings_159 rfl ?_
    obtain ⟨hin, h⟩ := kbG_if h
    replace hin := kbIn_of hin
    refine q_lald (((11 * (v2 + (x3.2.1 79 v5.toNatClampNeg))) + v5).toNatClampNeg) rfl sh80 hin dX12_tellReadings_161 ?_
    refine r_ladd dX12_tellReadings_162 ?_
    obtain ⟨hin, h⟩ := kbG_if h
    replace hin := kbIn_of hin
    refine q_last v4.toNatClampNeg rfl sh80 hin dX12_tellReadings_163 ?_
    refine r_aload_n dX12_tellReadings_164 rfl ?_
    refine r_getR flX12_100 sh57 rfl dX12_tellReadings_165 ?_
    refine r_iload dX12_tellReadings_168 rfl ?_
    refine r_aload_n dX12_tellReadings_170 rfl ?_
    refine r_getR flX12_100 sh57 rfl dX12_tellReadings_171 ?_
    refine r_iload dX12_tellReadings_174 rfl ?_
    obtain ⟨hin, h⟩ := kbG_if h
    replace hin := kbIn_of hin
    refine q_iald v4.toNatClampNeg rfl sh77 hin dX12_tellReadings_176 ?_
    refine r_iconst 1 dX12_tellReadings_177 (by decide) ?_
    refine r_aload_n dX12_tellReadings_178 rfl ?_
    refine r_getR flX12_100 sh57 rfl dX12_tellReadings_179 ?_
    refine r_iload dX12_tellReadings_182 rfl ?_
    obtain ⟨hin, h⟩ := kbG_if h
    replace hin := kbIn_of hin
    refine q_iald (((11 * (v2 + (x3.2.1 79 v5.toNatClampNeg))) + v5).toNatClampNeg) rfl sh77 hin dX12_tellReadings_184 ?_
    refine r_iadd dX12_tellReadings_185 ?_
    refine r_min mlX12_200 (Nat.le_of_ble_eq_true rfl) (Nat.le_of_ble_eq_true rfl) dX12_tellReadings_186 ?_
    obtain ⟨hin, h⟩ := kbG_if h
    replace hin := kbIn_of hin
    refine q_iast v4.toNatClampNeg rfl sh77 hin dX12_tellReadings_189 ?_
    refine r_le [some (.ref 57), none, some (.int v2), some (.int v3), some (.int v4), some (.int v5), none] ⟨rfl, ⟨rfl, ⟨rfl, ⟨rfl, ⟨rfl, trivial⟩⟩⟩⟩⟩ ?_
    exact jnR_MD_tellReadings_190 n v2 v3 v4 v5 (kbW (kbX x3.2 80 v4.toNatClampNeg ((x3.2.2 80 v4.toNatClampNeg) + (x3.2.2 80 (((11 * (v2 + (x3.2.1 79 v5.toNatClampNeg))) + v5).toNatClampNeg)))) 77 v4.toNatClampNeg (kbMin ((kbX x3.2 80 v4.toNatClampNeg ((x3.2.2 80 v4.toNatClampNeg) + (x3.2.2 80 (((11 * (v2 + (x3.2.1 79 v5.toNatClampNeg))) + v5).toNatClampNeg)))).1 77 v4.toNatClampNeg) (1 + ((kbX x3.2 80 v4.toNatClampNeg ((x3.2.2 80 v4.toNatClampNeg) + (x3.2.2 80 (((11 * (v2 + (x3.2.1 79 v5.toNatClampNeg))) + v5).toNatClampNeg)))).1 77 (((11 * (v2 + (x3.2.1 79 v5.toNatClampNeg))) + v5).toNatClampNeg))))) (hx := hx) (hrec := hrec) h
  · replace h := kbG_t hc h
    refine r_goto 190 dX12_tellReadings_127 (by decide) ?_
    refine r_le [some (.ref 57), none, some (.int v2), some (.int v3), some (.int v4), some (.int v5), none] ⟨rfl, ⟨rfl, ⟨rfl, ⟨rfl, ⟨rfl, trivial⟩⟩⟩⟩⟩ ?_
    exact jnR_MD_tellReadings_190 n v2 v3 v4 v5 x3.2 (hx := hx) (hrec := hrec) h
def jn_MD_tellReadings_97 (n : Nat) (rec : Int32 → kbM → Option (kbM)) (v2 : Int32) (v3 : Int32) (v4 : Int32) (v5 : Int32) (μ : kbM) : Option (kbM) :=
  (f_MD_standsAt n v5 v2 μ).bind fun x2 =>
  if x2 = 0 then
    jn_MD_tellReadings_190 n rec v2 v3 v4 v5 μ
  else
    if v3 = 10 then
      jn_MD_tellReadings_119 n rec v2 v3 v4 v5 (-1) μ
    else
      jn_MD_tellReadings_119 n rec v2 v3 v4 v5 v3 μ
theorem jnR_MD_tellReadings_97 {l : Launch} (n : Nat)   (v2 : Int32) (v3 : Int32) (v4 : Int32) (v5 : Int32) (μ : kbM) {Q : kbQt} {P : kbM → Prop} (hx : ∀ z : kbM, P (z) → kbR l MX12_tellReadings 4 Q 196 [some (.ref 57), none, some (.int v2), some (.int v3), none, none, none] [] z) {rec : Int32 → kbM → Option (kbM)} (hrec : ∀ (v5 : Int32) (μ : kbM), kbG (rec v5 μ) P → kbR l MX12_tellReadings 4 Q 74 [some (.ref 57), none, some (.int v2), some (.int v3), some (.int v4), some (.int v5), none] [] μ) (h : kbG (jn_MD_tellReadings_97 n rec v2 v3 v4 v5 μ) P) : kbR l MX12_tellReadings 4 Q 97 [some (.ref 57), none, some (.int v2), some (.int v3), some (.int v4), some (.int v5), none] [] μ := by
  unfold jn_MD_tellReadings_97 at h
  refine r_aload_n dX12_tellReadings_97 rfl ?_
  refine r_iload dX12_tellReadings_98 rfl ?_
  refine r_iload_n dX12_tellReadings_100 rfl ?_
  obtain ⟨x2, hx0, h⟩ := kbG_bind h
  refine r_invV_i cvX12_361 sh57 rfl (sp_MD_standsAt n v5 v2 μ hx0) rfl rfl (Nat.le_of_ble_eq_true rfl) (Nat.le_of_ble_eq_true rfl) dX12_tellReadings_101 ?_
  refine r_if_eq 190 dX12_tellReadings_104 (by decide) (fun hc => ?_) (fun hc => ?_)
  · replace h := kbG_t hc h
    refine r_le [some (.ref 57), none, some (.int v2), some (.int v3), some (.int v4), some (.int v5), none] ⟨rfl, ⟨rfl, ⟨rfl, ⟨rfl, ⟨rfl, trivial⟩⟩⟩⟩⟩ ?_
    exact jnR_MD_tellReadings_190 n v2 v3 v4 v5 μ (hx := hx) (hrec := hrec) h
  · replace h := kbG_f hc h
    refine r_aload_n dX12_tellReadings_107 rfl ?_
    refine r_iload_n dX12_tellReadings_108 rfl ?_
    refine r_bipush 10 dX12_tellReadings_109 (by decide) ?_
    refine r_icmp_ne 118 dX12_tellReadings_111 (by decide) (fun hc => ?_) (fun hc => ?_)
    · replace h := kbG_f hc h
      refine r_iload_n dX12_tellReadings_118 rfl ?_
      refine r_le [some (.ref 57), none, some (.int v2), some (.int v3), some (.int v4), some (.int v5), none] ⟨rfl, ⟨rfl, ⟨rfl, ⟨rfl, ⟨rfl, trivial⟩⟩⟩⟩⟩ ?_
      exact jnR_MD_tellReadings_119 n v2 v3 v4 v5 v3 μ (hx := hx) (hrec := hrec) h
    · replace h := kbG_t hc h
      refine r_iconst (-1) dX12_tellReadings_114 (by decide) ?_
      refine r_goto 119 dX12_tellReadings_115 (by decide) ?_
      refine r_le [some (.ref 57), none, some (.int v2), some (.int v3), some (.int v4), some (.int v5), none] ⟨rfl, ⟨rfl, ⟨rfl, ⟨rfl, ⟨rfl, trivial⟩⟩⟩⟩⟩ ?_
      exact jnR_MD_tellReadings_119 n v2 v3 v4 v5 (-1) μ (hx := hx) (hrec := hrec) h
def lp_MD_tellReadings_74 (n : Nat) (v2 : Int32) (v3 : Int32) (v4 : Int32) : Nat → Int32 → kbM → Option (kbM)
  | 0, _, _ => none
  | k + 1, v5, μ =>
    if (μ.1 57 27) ≤ v5 then
      some μ
    else
      if v3 = 10 then
        jn_MD_tellReadings_97 n (lp_MD_tellReadings_74 n v2 v3 v4 k) v2 v3 v4 v5 μ
      else
        if (μ.1 57 27) ≤ v3 then
          some μ
        else
          jn_MD_tellReadings_97 n (lp_MD_tellReadings_74 n v2 v3 v4 k) v2 v3 v4 v5 μ
theorem lpR_MD_tellReadings_74 {l : Launch} (n : Nat) (v2 : Int32) (v3 : Int32) (v4 : Int32)  {Q : kbQt} {P : kbM → Prop} (hx : ∀ z : kbM, P (z) → kbR l MX12_tellReadings 4 Q 196 [some (.ref 57), none, some (.int v2), some (.int v3), none, none, none] [] z) : ∀ (k : Nat) (v5 : Int32) (μ : kbM), kbG (lp_MD_tellReadings_74 n v2 v3 v4 k v5 μ) P → kbR l MX12_tellReadings 4 Q 74 [some (.ref 57), none, some (.int v2), some (.int v3), some (.int v4), some (.int v5), none] [] μ := by
  intro k
  induction k with
  | zero => intro v5 μ h; exact absurd h kbG_none
  | succ k ih =>
    intro v5 μ h
    unfold lp_MD_tellReadings_74 at h
    refine r_iload dX12_tellReadings_74 rfl ?_
    refine r_aload_n dX12_tellReadings_76 rfl ?_
    refine r_getI flX12_162 sh57 rfl dX12_tellReadings_77 ?_
    refine r_icmp_ge 196 dX12_tellReadings_80 (by decide) (fun hc => ?_) (fun hc => ?_)
    · replace h := kbG_t hc h
      refine r_le [some (.ref 57), none, some (.int v2), some (.int v3), none, none, none] ⟨rfl, ⟨rfl, ⟨rfl, trivial⟩⟩⟩ ?_
      exact hx μ (kbG_some h)
    · replace h := kbG_f hc h
      refine r_iload_n dX12_tellReadings_83 rfl ?_
      refine r_bipush 10 dX12_tellReadings_84 (by decide) ?_
      refine r_icmp_eq 97 dX12_tellReadings_86 (by decide) (fun hc => ?_) (fun hc => ?_)
      · replace h := kbG_t hc h
        refine r_le [some (.ref 57), none, some (.int v2), some (.int v3), some (.int v4), some (.int v5), none] ⟨rfl, ⟨rfl, ⟨rfl, ⟨rfl, ⟨rfl, trivial⟩⟩⟩⟩⟩ ?_
        exact jnR_MD_tellReadings_97 n v2 v3 v4 v5 μ (hx := hx) (hrec := ih) h
      · replace h := kbG_f hc h
        refine r_iload_n dX12_tellReadings_89 rfl ?_
        refine r_aload_n dX12_tellReadings_90 rfl ?_
        refine r_getI flX12_162 sh57 rfl dX12_tellReadings_91 ?_
        refine r_icmp_ge 196 dX12_tellReadings_94 (by decide) (fun hc => ?_) (fun hc => ?_)
        · replace h := kbG_t hc h
          refine r_le [some (.ref 57), none, some (.int v2), some (.int v3), none, none, none] ⟨rfl, ⟨rfl, ⟨rfl, trivial⟩⟩⟩ ?_
          exact hx μ (kbG_some h)
        · replace h := kbG_f hc h
          refine r_le [some (.ref 57), none, some (.int v2), some (.int v3), some (.int v4), some (.int v5), none] ⟨rfl, ⟨rfl, ⟨rfl, ⟨rfl, ⟨rfl, trivial⟩⟩⟩⟩⟩ ?_
          exact jnR_MD_tellReadings_97 n v2 v3 v4 v5 μ (hx := hx) (hrec := ih) h
def jn_MD_tellReadings_196 (n : Nat) (rec : Int32 → kbM → Option (kbM)) (v2 : Int32) (v3 : Int32) (μ : kbM) : Option (kbM) :=
  rec (v3 + 1) μ
theorem jnR_MD_tellReadings_196 {l : Launch} (n : Nat)   (v2 : Int32) (v3 : Int32) (μ : kbM) {Q : kbQt} {P : kbM → Prop} (hx : ∀ z : kbM, P (z) → kbR l MX12_tellReadings 4 Q 202 [some (.ref 57), none, some (.int v2), none, none, none, none] [] z) {rec : Int32 → kbM → Option (kbM)} (hrec : ∀ (v3 : Int32) (μ : kbM), kbG (rec v3 μ) P → kbR l MX12_tellReadings 4 Q 16 [some (.ref 57), none, some (.int v2), some (.int v3), none, none, none] [] μ) (h : kbG (jn_MD_tellReadings_196 n rec v2 v3 μ) P) : kbR l MX12_tellReadings 4 Q 196 [some (.ref 57), none, some (.int v2), some (.int v3), none, none, none] [] μ := by
  unfold jn_MD_tellReadings_196 at h
  refine r_iinc 1 dX12_tellReadings_196 rfl (by decide) (Nat.le_of_ble_eq_true rfl) rfl ?_
  refine r_goto 16 dX12_tellReadings_199 (by decide) ?_
  refine r_le [some (.ref 57), none, some (.int v2), some (.int (v3 + 1)), none, none, none] ⟨rfl, ⟨rfl, ⟨rfl, trivial⟩⟩⟩ ?_
  exact hrec (v3 + 1) μ h
def jn_MD_tellReadings_70 (n : Nat) (rec : Int32 → kbM → Option (kbM)) (v2 : Int32) (v3 : Int32) (v4 : Int32) (w1 : Int32) (w2 : Int32) (μ : kbM) : Option (kbM) :=
  kbIf (kbIn w1 143) <|
  (lp_MD_tellReadings_74 n v2 v3 v4 n 0 (kbW μ 77 w1.toNatClampNeg w2)).bind fun x4 =>
  jn_MD_tellReadings_196 n rec v2 v3 x4
theorem jnR_MD_tellReadings_70 {l : Launch} (n : Nat)   (v2 : Int32) (v3 : Int32) (v4 : Int32) (w1 : Int32) (w2 : Int32) (μ : kbM) {Q : kbQt} {P : kbM → Prop} (hx : ∀ z : kbM, P (z) → kbR l MX12_tellReadings 4 Q 202 [some (.ref 57), none, some (.int v2), none, none, none, none] [] z) {rec : Int32 → kbM → Option (kbM)} (hrec : ∀ (v3 : Int32) (μ : kbM), kbG (rec v3 μ) P → kbR l MX12_tellReadings 4 Q 16 [some (.ref 57), none, some (.int v2), some (.int v3), none, none, none] [] μ) (h : kbG (jn_MD_tellReadings_70 n rec v2 v3 v4 w1 w2 μ) P) : kbR l MX12_tellReadings 4 Q 70 [some (.ref 57), none, some (.int v2), some (.int v3), some (.int v4), none, none] [.int w2, .int w1, .ref 77] μ := by
  unfold jn_MD_tellReadings_70 at h
  obtain ⟨hin, h⟩ := kbG_if h
  replace hin := kbIn_of hin
  refine q_iast w1.toNatClampNeg rfl sh77 hin dX12_tellReadings_70 ?_
  refine r_iconst 0 dX12_tellReadings_71 (by decide) ?_
  refine r_istore dX12_tellReadings_72 (Nat.le_of_ble_eq_true rfl) rfl ?_
  refine r_le [some (.ref 57), none, some (.int v2), some (.int v3), some (.int v4), some (.int 0), none] ⟨rfl, ⟨rfl, ⟨rfl, ⟨rfl, ⟨rfl, trivial⟩⟩⟩⟩⟩ ?_
  obtain ⟨x4, hx0, h⟩ := kbG_bind h
  refine lpR_MD_tellReadings_74 n v2 v3 v4 (P := fun z => x4 = z) (hx := fun z e => ?_) n _ _ ⟨_, hx0, rfl⟩
  subst e
  refine r_le [some (.ref 57), none, some (.int v2), some (.int v3), none, none, none] ⟨rfl, ⟨rfl, ⟨rfl, trivial⟩⟩⟩ ?_
  exact jnR_MD_tellReadings_196 n v2 v3 x4 (hx := hx) (hrec := hrec) h
def jn_MD_tellReadings_49 (n : Nat) (rec : Int32 → kbM → Option (kbM)) (v2 : Int32) (v3 : Int32) (v4 : Int32) (w1 : Int32) (w2 : Int64) (μ : kbM) : Option (kbM) :=
  kbIf (kbIn w1 143) <|
  if v2 = ((kbX μ 80 w1.toNatClampNeg w2).1 57 38) then
    jn_MD_tellReadings_70 n rec v2 v3 v4 v4 0 (kbX μ 80 w1.toNatClampNeg w2)
  else
    jn_MD_tellReadings_70 n rec v2 v3 v4 v4 100000 (kbX μ 80 w1.toNatClampNeg w2)
theorem jnR_MD_tellReadings_49 {l : Launch} (n : Nat)   (v2 : Int32) (v3 : Int32) (v4 : Int32) (w1 : Int32) (w2 : Int64) (μ : kbM) {Q : kbQt} {P : kbM → Prop} (hx : ∀ z : kbM, P (z) → kbR l MX12_tellReadings 4 Q 202 [some (.ref 57), none, some (.int v2), none, none, none, none] [] z) {rec : Int32 → kbM → Option (kbM)} (hrec : ∀ (v3 : Int32) (μ : kbM), kbG (rec v3 μ) P → kbR l MX12_tellReadings 4 Q 16 [some (.ref 57), none, some (.int v2), some (.int v3), none, none, none] [] μ) (h : kbG (jn_MD_tellReadings_49 n rec v2 v3 v4 w1 w2 μ) P) : kbR l MX12_tellReadings 4 Q 49 [some (.ref 57), none, some (.int v2), some (.int v3), some (.int v4), none, none] [.long w2, .int w1, .ref 80] μ := by
  unfold jn_MD_tellReadings_49 at h
  obtain ⟨hin, h⟩ := kbG_if h
  replace hin := kbIn_of hin
  refine q_last w1.toNatClampNeg rfl sh80 hin dX12_tellReadings_49 ?_
  refine r_aload_n dX12_tellReadings_50 rfl ?_
  refine r_getR flX12_100 sh57 rfl dX12_tellReadings_51 ?_
  refine r_iload dX12_tellReadings_54 rfl ?_
  refine r_iload_n dX12_tellReadings_56 rfl ?_
  refine r_aload_n dX12_tellReadings_57 rfl ?_
  refine r_getI flX12_355 sh57 rfl dX12_tellReadings_58 ?_
  refine r_icmp_ne 68 dX12_tellReadings_61 (by decide) (fun hc => ?_) (fun hc => ?_)
  · replace h := kbG_f hc h
    refine r_ldc 100000 liX12_199 dX12_tellReadings_68 ?_
    refine r_le [some (.ref 57), none, some (.int v2), some (.int v3), some (.int v4), none, none] ⟨rfl, ⟨rfl, ⟨rfl, ⟨rfl, trivial⟩⟩⟩⟩ ?_
    exact jnR_MD_tellReadings_70 n v2 v3 v4 v4 100000 (kbX μ 80 w1.toNatClampNeg w2) (hx := hx) (hrec := hrec) h
  · replace h := kbG_t hc h
    refine r_iconst 0 dX12_tellReadings_64 (by decide) ?_
    refine r_goto 70 dX12_tellReadings_65 (by decide) ?_
    refine r_le [some (.ref 57), none, some (.int v2), some (.int v3), some (.int v4), none, none] ⟨rfl, ⟨rfl, ⟨rfl, ⟨rfl, trivial⟩⟩⟩⟩ ?_
    exact jnR_MD_tellReadings_70 n v2 v3 v4 v4 0 (kbX μ 80 w1.toNatClampNeg w2) (hx := hx) (hrec := hrec) h
def lp_MD_tellReadings_16 (n : Nat) (v2 : Int32) : Nat → Int32 → kbM → Option (kbM)
  | 0, _, _ => none
  | k + 1, v3, μ =>
    if 10 < v3 then
      some μ
    else
      if v2 = (μ.1 57 38) then
        jn_MD_tellReadings_49 n (lp_MD_tellReadings_16 n v2 k) v2 v3 ((11 * v2) + v3) ((11 * v2) + v3) 1 μ
      else
        jn_MD_tellReadings_49 n (lp_MD_tellReadings_16 n v2 k) v2 v3 ((11 * v2) + v3) ((11 * v2) + v3) 0 μ
theorem lpR_MD_tellReadings_16 {l : Launch} (n : Nat) (v2 : Int32)  {Q : kbQt} {P : kbM → Prop} (hx : ∀ z : kbM, P (z) → kbR l MX12_tellReadings 4 Q 202 [some (.ref 57), none, some (.int v2), none, none, none, none] [] z) : ∀ (k : Nat) (v3 : Int32) (μ : kbM), kbG (lp_MD_tellReadings_16 n v2 k v3 μ) P → kbR l MX12_tellReadings 4 Q 16 [some (.ref 57), none, some (.int v2), some (.int v3), none, none, none] [] μ := by
  intro k
  induction k with
  | zero => intro v3 μ h; exact absurd h kbG_none
  | succ k ih =>
    intro v3 μ h
    unfold lp_MD_tellReadings_16 at h
    refine r_iload_n dX12_tellReadings_16 rfl ?_
    refine r_bipush 10 dX12_tellReadings_17 (by decide) ?_
    refine r_icmp_gt 202 dX12_tellReadings_19 (by decide) (fun hc => ?_) (fun hc => ?_)
    · replace h := kbG_t hc h
      refine r_le [some (.ref 57), none, some (.int v2), none, none, none, none] ⟨rfl, ⟨rfl, trivial⟩⟩ ?_
      exact hx μ (kbG_some h)
    · replace h := kbG_f hc h
      refine r_bipush 11 dX12_tellReadings_22 (by decide) ?_
      refine r_iload_n dX12_tellReadings_24 rfl ?_
      refine r_imul dX12_tellReadings_25 ?_
      refine r_iload_n dX12_tellReadings_26 rfl ?_
      refine r_iadd dX12_tellReadings_27 ?_
      refine r_istore dX12_tellReadings_28 (Nat.le_of_ble_eq_true rfl) rfl ?_
      refine r_aload_n dX12_tellReadings_30 rfl ?_
      refine r_getR flX12_109 sh57 rfl dX12_tellReadings_31 ?_
      refine r_iload dX12_tellReadings_34 rfl ?_
      refine r_iload_n dX12_tellReadings_36 rfl ?_
      refine r_aload_n dX12_tellReadings_37 rfl ?_
      refine r_getI flX12_355 sh57 rfl dX12_tellReadings_38 ?_
      refine r_icmp_ne 48 dX12_tellReadings_41 (by decide) (fun hc => ?_) (fun hc => ?_)
      · replace h := kbG_f hc h
        refine r_lconst 0 dX12_tellReadings_48 (by decide) ?_
        refine r_le [some (.ref 57), none, some (.int v2), some (.int v3), some (.int ((11 * v2) + v3)), none, none] ⟨rfl, ⟨rfl, ⟨rfl, ⟨rfl, trivial⟩⟩⟩⟩ ?_
        exact jnR_MD_tellReadings_49 n v2 v3 ((11 * v2) + v3) ((11 * v2) + v3) 0 μ (hx := hx) (hrec := ih) h
      · replace h := kbG_t hc h
        refine r_lconst 1 dX12_tellReadings_44 (by decide) ?_
        refine r_goto 49 dX12_tellReadings_45 (by decide) ?_
        refine r_le [some (.ref 57), none, some (.int v2), some (.int v3), some (.int ((11 * v2) + v3)), none, none] ⟨rfl, ⟨rfl, ⟨rfl, ⟨rfl, trivial⟩⟩⟩⟩ ?_
        exact jnR_MD_tellReadings_49 n v2 v3 ((11 * v2) + v3) ((11 * v2) + v3) 1 μ (hx := hx) (hrec := ih) h
def lp_MD_tellReadings_10 (n : Nat) : Nat → Int32 → kbM → Option (kbM)
  | 0, _, _ => none
  | k + 1, v2, μ =>
    if v2 < 0 then
      some μ
    else
      (lp_MD_tellReadings_16 n v2 n 0 μ).bind fun x5 =>
      lp_MD_tellReadings_10 n k (v2 + (-1)) x5
theorem lpR_MD_tellReadings_10 {l : Launch} (n : Nat)   {Q : kbQt} {P : kbM → Prop} (hx : ∀ z : kbM, P (z) → kbR l MX12_tellReadings 4 Q 208 [none, none, none, none, none, none, none] [] z) : ∀ (k : Nat) (v2 : Int32) (μ : kbM), kbG (lp_MD_tellReadings_10 n k v2 μ) P → kbR l MX12_tellReadings 4 Q 10 [some (.ref 57), none, some (.int v2), none, none, none, none] [] μ := by
  intro k
  induction k with
  | zero => intro v2 μ h; exact absurd h kbG_none
  | succ k ih =>
    intro v2 μ h
    unfold lp_MD_tellReadings_10 at h
    refine r_iload_n dX12_tellReadings_10 rfl ?_
    refine r_if_lt 208 dX12_tellReadings_11 (by decide) (fun hc => ?_) (fun hc => ?_)
    · replace h := kbG_t hc h
      refine r_le [none, none, none, none, none, none, none] trivial ?_
      exact hx μ (kbG_some h)
    · replace h := kbG_f hc h
      refine r_iconst 0 dX12_tellReadings_14 (by decide) ?_
      refine r_istore_n dX12_tellReadings_15 (Nat.le_of_ble_eq_true rfl) rfl ?_
      refine r_le [some (.ref 57), none, some (.int v2), some (.int 0), none, none, none] ⟨rfl, ⟨rfl, ⟨rfl, trivial⟩⟩⟩ ?_
      obtain ⟨x5, hx0, h⟩ := kbG_bind h
      refine lpR_MD_tellReadings_16 n v2 (P := fun z => x5 = z) (hx := fun z e => ?_) n _ _ ⟨_, hx0, rfl⟩
      subst e
      refine r_iinc (-1) dX12_tellReadings_202 rfl (by decide) (Nat.le_of_ble_eq_true rfl) rfl ?_
      refine r_goto 10 dX12_tellReadings_205 (by decide) ?_
      refine r_le [some (.ref 57), none, some (.int (v2 + (-1))), none, none, none, none] ⟨rfl, ⟨rfl, trivial⟩⟩ ?_
      exact ih (v2 + (-1)) x5 h
def f_MD_tellReadings (n : Nat) (a1 : Int32) (μ : kbM) : Option (kbM) :=
  (f_MD_tellSounds n a1 μ).bind fun x1 =>
  (lp_MD_tellReadings_10 n n (x1.1 57 38) x1).bind fun x6 =>
  some x6
theorem sp_MD_tellReadings {l : Launch} (n : Nat) (a1 : Int32) (μ : kbM)  {x : kbM} (h : f_MD_tellReadings n a1 μ = some x) : kbS l MX12_tellReadings 4 [.ref 57, .int a1] μ (kbQe none x) := by
  refine kb_enter 5 rfl rfl ?_
  suffices H : ∀ (Q : kbQt) (P : kbM → Prop), (∀ z : kbM, P z → Q none z) → kbG (f_MD_tellReadings n a1 μ) P → kbR l MX12_tellReadings 4 Q 0 [some (.ref 57), some (.int a1), none, none, none, none, none] [] μ from H _ (fun z => z = x) (fun z e => by subst e; exact ⟨rfl, rfl⟩) ⟨x, h, rfl⟩
  clear h
  intro Q P hr h
  unfold f_MD_tellReadings at h
  refine r_aload_n dX12_tellReadings_0 rfl ?_
  refine r_iload_n dX12_tellReadings_1 rfl ?_
  obtain ⟨x1, hx0, h⟩ := kbG_bind h
  refine r_invV_v cvX12_358 sh57 rfl (sp_MD_tellSounds n a1 μ hx0) rfl rfl (Nat.le_of_ble_eq_true rfl) (Nat.le_of_ble_eq_true rfl) dX12_tellReadings_2 ?_
  refine r_aload_n dX12_tellReadings_5 rfl ?_
  refine r_getI flX12_355 sh57 rfl dX12_tellReadings_6 ?_
  refine r_istore_n dX12_tellReadings_9 (Nat.le_of_ble_eq_true rfl) rfl ?_
  refine r_le [some (.ref 57), none, some (.int (x1.1 57 38)), none, none, none, none] ⟨rfl, ⟨rfl, trivial⟩⟩ ?_
  obtain ⟨x6, hx0, h⟩ := kbG_bind h
  refine lpR_MD_tellReadings_10 n (P := fun z => x6 = z) (hx := fun z e => ?_) n _ _ ⟨_, hx0, rfl⟩
  subst e
  exact r_vret rfl dX12_tellReadings_208 (hr x6 (kbG_some h))
def jn_MD_fewest_32 (n : Nat) (w0 : Int32) (μ : kbM) : Option (Int32 × kbM) :=
  some ((w0, μ))
theorem jnR_MD_fewest_32 {l : Launch} (n : Nat)   (w0 : Int32) (μ : kbM) {Q : kbQt} {P : Int32 × kbM → Prop} (hr : ∀ z : Int32 × kbM, P z → Q (some (.int z.1)) z.2) (h : kbG (jn_MD_fewest_32 n w0 μ) P) : kbR l MX12_fewest 5 Q 32 [none, none] [.int w0] μ := by
  unfold jn_MD_fewest_32 at h
  exact r_iret rfl dX12_fewest_32 (hr ((w0, μ)) (kbG_some h))
def jn_MD_fewest_21 (n : Nat) (μ : kbM) : Option (Int32 × kbM) :=
  jn_MD_fewest_32 n 0 μ
theorem jnR_MD_fewest_21 {l : Launch} (n : Nat)    (μ : kbM) {Q : kbQt} {P : Int32 × kbM → Prop} (hr : ∀ z : Int32 × kbM, P z → Q (some (.int z.1)) z.2) (h : kbG (jn_MD_fewest_21 n μ) P) : kbR l MX12_fewest 5 Q 21 [none, none] [] μ := by
  unfold jn_MD_fewest_21 at h
  refine r_iconst 0 dX12_fewest_21 (by decide) ?_
  refine r_goto 32 dX12_fewest_22 (by decide) ?_
  refine r_le [none, none] trivial ?_
  exact jnR_MD_fewest_32 n 0 μ (hr := hr) h
def f_MD_fewest (n : Nat) (a1 : Int32) (μ : kbM) : Option (Int32 × kbM) :=
  (f_MD_tellReadings n a1 μ).bind fun x1 =>
  if a1 = 0 then
    jn_MD_fewest_21 n x1
  else
    if (x1.1 77 10) < 100000 then
      jn_MD_fewest_32 n (x1.1 77 10) x1
    else
      jn_MD_fewest_21 n x1
theorem sp_MD_fewest {l : Launch} (n : Nat) (a1 : Int32) (μ : kbM)  {x : Int32 × kbM} (h : f_MD_fewest n a1 μ = some x) : kbS l MX12_fewest 5 [.ref 57, .int a1] μ (kbQe (some (.int x.1)) x.2) := by
  refine kb_enter 0 rfl rfl ?_
  suffices H : ∀ (Q : kbQt) (P : Int32 × kbM → Prop), (∀ z : Int32 × kbM, P z → Q (some (.int z.1)) z.2) → kbG (f_MD_fewest n a1 μ) P → kbR l MX12_fewest 5 Q 0 [some (.ref 57), some (.int a1)] [] μ from H _ (fun z => z = x) (fun z e => by subst e; exact ⟨rfl, rfl⟩) ⟨x, h, rfl⟩
  clear h
  intro Q P hr h
  unfold f_MD_fewest at h
  refine r_aload_n dX12_fewest_0 rfl ?_
  refine r_iload_n dX12_fewest_1 rfl ?_
  obtain ⟨x1, hx0, h⟩ := kbG_bind h
  refine r_invV_v cvX12_366 sh57 rfl (sp_MD_tellReadings n a1 μ hx0) rfl rfl (Nat.le_of_ble_eq_true rfl) (Nat.le_of_ble_eq_true rfl) dX12_fewest_2 ?_
  refine r_iload_n dX12_fewest_5 rfl ?_
  refine r_if_eq 21 dX12_fewest_6 (by decide) (fun hc => ?_) (fun hc => ?_)
  · replace h := kbG_t hc h
    refine r_le [none, none] trivial ?_
    exact jnR_MD_fewest_21 n  x1 (hr := hr) h
  · replace h := kbG_f hc h
    refine r_aload_n dX12_fewest_9 rfl ?_
    refine r_getR flX12_100 sh57 rfl dX12_fewest_10 ?_
    refine r_bipush 10 dX12_fewest_13 (by decide) ?_
    have hin : vp_in 10 143 := kbIn_of (by decide)
    refine q_iald 10 (by decide) sh77 hin dX12_fewest_15 ?_
    refine r_ldc 100000 liX12_199 dX12_fewest_16 ?_
    refine r_icmp_lt 25 dX12_fewest_18 (by decide) (fun hc => ?_) (fun hc => ?_)
    · replace h := kbG_t hc h
      refine r_aload_n dX12_fewest_25 rfl ?_
      refine r_getR flX12_100 sh57 rfl dX12_fewest_26 ?_
      refine r_bipush 10 dX12_fewest_29 (by decide) ?_
      have hin : vp_in 10 143 := kbIn_of (by decide)
      refine q_iald 10 (by decide) sh77 hin dX12_fewest_31 ?_
      refine r_le [none, none] trivial ?_
      exact jnR_MD_fewest_32 n (x1.1 77 10) x1 (hr := hr) h
    · replace h := kbG_f hc h
      refine r_le [none, none] trivial ?_
      exact jnR_MD_fewest_21 n  x1 (hr := hr) h
