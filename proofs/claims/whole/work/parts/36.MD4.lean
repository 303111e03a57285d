theorem dX12_read_0 : decode cX12_read 0 = .ok (.aload_n 0, 1) := by decide +kernel
theorem dX12_read_1 : decode cX12_read 1 = .ok (.iconst 0, 1) := by decide +kernel
theorem dX12_read_2 : decode cX12_read 2 = .ok (.putfield 159, 3) := by decide +kernel
theorem dX12_read_5 : decode cX12_read 5 = .ok (.iload_n 2, 1) := by decide +kernel
theorem dX12_read_6 : decode cX12_read 6 = .ok (.ifCond .lt 8, 3) := by decide +kernel
theorem dX12_read_9 : decode cX12_read 9 = .ok (.iload_n 2, 1) := by decide +kernel
theorem dX12_read_10 : decode cX12_read 10 = .ok (.iconst 1, 1) := by decide +kernel
theorem dX12_read_11 : decode cX12_read 11 = .ok (.if_icmp .le 10, 3) := by decide +kernel
theorem dX12_read_14 : decode cX12_read 14 = .ok (.aload_n 0, 1) := by decide +kernel
theorem dX12_read_15 : decode cX12_read 15 = .ok (.iconst 1, 1) := by decide +kernel
theorem dX12_read_16 : decode cX12_read 16 = .ok (.invokevirtual 292, 3) := by decide +kernel
theorem dX12_read_19 : decode cX12_read 19 = .ok (.i2l, 1) := by decide +kernel
theorem dX12_read_20 : decode cX12_read 20 = .ok (.lreturn, 1) := by decide +kernel
theorem dX12_read_21 : decode cX12_read 21 = .ok (.iload_n 1, 1) := by decide +kernel
theorem dX12_read_22 : decode cX12_read 22 = .ok (.invokestatic 345, 3) := by decide +kernel
theorem dX12_read_25 : decode cX12_read 25 = .ok (.ifCond .ne 10, 3) := by decide +kernel
theorem dX12_read_28 : decode cX12_read 28 = .ok (.aload_n 0, 1) := by decide +kernel
theorem dX12_read_29 : decode cX12_read 29 = .ok (.iconst 2, 1) := by decide +kernel
theorem dX12_read_30 : decode cX12_read 30 = .ok (.invokevirtual 292, 3) := by decide +kernel
theorem dX12_read_33 : decode cX12_read 33 = .ok (.i2l, 1) := by decide +kernel
theorem dX12_read_34 : decode cX12_read 34 = .ok (.lreturn, 1) := by decide +kernel
theorem dX12_read_35 : decode cX12_read 35 = .ok (.aload_n 0, 1) := by decide +kernel
theorem dX12_read_36 : decode cX12_read 36 = .ok (.iload_n 1, 1) := by decide +kernel
theorem dX12_read_37 : decode cX12_read 37 = .ok (.invokevirtual 369, 3) := by decide +kernel
theorem dX12_read_40 : decode cX12_read 40 = .ok (.istore_n 3, 1) := by decide +kernel
theorem dX12_read_41 : decode cX12_read 41 = .ok (.iload_n 3, 1) := by decide +kernel
theorem dX12_read_42 : decode cX12_read 42 = .ok (.ifCond .ne 7, 3) := by decide +kernel
theorem dX12_read_45 : decode cX12_read 45 = .ok (.lconst 0, 1) := by decide +kernel
theorem dX12_read_46 : decode cX12_read 46 = .ok (.goto 19, 3) := by decide +kernel
theorem dX12_read_49 : decode cX12_read 49 = .ok (.iload_n 2, 1) := by decide +kernel
theorem dX12_read_50 : decode cX12_read 50 = .ok (.ifCond .ne 13, 3) := by decide +kernel
theorem dX12_read_53 : decode cX12_read 53 = .ok (.aload_n 0, 1) := by decide +kernel
theorem dX12_read_54 : decode cX12_read 54 = .ok (.getfield 109, 3) := by decide +kernel
theorem dX12_read_57 : decode cX12_read 57 = .ok (.bipush 10, 2) := by decide +kernel
theorem dX12_read_59 : decode cX12_read 59 = .ok (.laload, 1) := by decide +kernel
theorem dX12_read_60 : decode cX12_read 60 = .ok (.goto 5, 3) := by decide +kernel
theorem dX12_read_63 : decode cX12_read 63 = .ok (.iload_n 3, 1) := by decide +kernel
theorem dX12_read_64 : decode cX12_read 64 = .ok (.i2l, 1) := by decide +kernel
theorem dX12_read_65 : decode cX12_read 65 = .ok (.lreturn, 1) := by decide +kernel
theorem dX12_reading_0 : decode cX12_reading 0 = .ok (.aload_n 0, 1) := by decide +kernel
theorem dX12_reading_1 : decode cX12_reading 1 = .ok (.iconst 0, 1) := by decide +kernel
theorem dX12_reading_2 : decode cX12_reading 2 = .ok (.putfield 159, 3) := by decide +kernel
theorem dX12_reading_5 : decode cX12_reading 5 = .ok (.iload_n 1, 1) := by decide +kernel
theorem dX12_reading_6 : decode cX12_reading 6 = .ok (.invokestatic 345, 3) := by decide +kernel
theorem dX12_reading_9 : decode cX12_reading 9 = .ok (.ifCond .ne 9, 3) := by decide +kernel
theorem dX12_reading_12 : decode cX12_reading 12 = .ok (.aload_n 0, 1) := by decide +kernel
theorem dX12_reading_13 : decode cX12_reading 13 = .ok (.iconst 1, 1) := by decide +kernel
theorem dX12_reading_14 : decode cX12_reading 14 = .ok (.invokevirtual 292, 3) := by decide +kernel
theorem dX12_reading_17 : decode cX12_reading 17 = .ok (.ireturn, 1) := by decide +kernel
theorem dX12_reading_18 : decode cX12_reading 18 = .ok (.aload_n 0, 1) := by decide +kernel
theorem dX12_reading_19 : decode cX12_reading 19 = .ok (.iload_n 1, 1) := by decide +kernel
theorem dX12_reading_20 : decode cX12_reading 20 = .ok (.invokevirtual 369, 3) := by decide +kernel
theorem dX12_reading_23 : decode cX12_reading 23 = .ok (.istore_n 3, 1) := by decide +kernel
theorem dX12_reading_24 : decode cX12_reading 24 = .ok (.iload_n 2, 1) := by decide +kernel
theorem dX12_reading_25 : decode cX12_reading 25 = .ok (.i2l, 1) := by decide +kernel
theorem dX12_reading_26 : decode cX12_reading 26 = .ok (.lconst 0, 1) := by decide +kernel
theorem dX12_reading_27 : decode cX12_reading 27 = .ok (.iload_n 3, 1) := by decide +kernel
theorem dX12_reading_28 : decode cX12_reading 28 = .ok (.iconst 1, 1) := by decide +kernel
theorem dX12_reading_29 : decode cX12_reading 29 = .ok (.isub, 1) := by decide +kernel
theorem dX12_reading_30 : decode cX12_reading 30 = .ok (.i2l, 1) := by decide +kernel
theorem dX12_reading_31 : decode cX12_reading 31 = .ok (.invokestatic 165, 3) := by decide +kernel
theorem dX12_reading_34 : decode cX12_reading 34 = .ok (.ifCond .ne 9, 3) := by decide +kernel
theorem dX12_reading_37 : decode cX12_reading 37 = .ok (.aload_n 0, 1) := by decide +kernel
theorem dX12_reading_38 : decode cX12_reading 38 = .ok (.iconst 2, 1) := by decide +kernel
theorem dX12_reading_39 : decode cX12_reading 39 = .ok (.invokevirtual 292, 3) := by decide +kernel
theorem dX12_reading_42 : decode cX12_reading 42 = .ok (.ireturn, 1) := by decide +kernel
theorem dX12_reading_43 : decode cX12_reading 43 = .ok (.iconst 0, 1) := by decide +kernel
theorem dX12_reading_44 : decode cX12_reading 44 = .ok (.istore 4, 2) := by decide +kernel
theorem dX12_reading_46 : decode cX12_reading 46 = .ok (.iconst (-1), 1) := by decide +kernel
theorem dX12_reading_47 : decode cX12_reading 47 = .ok (.istore 5, 2) := by decide +kernel
theorem dX12_reading_49 : decode cX12_reading 49 = .ok (.iconst 0, 1) := by decide +kernel
theorem dX12_reading_50 : decode cX12_reading 50 = .ok (.istore 6, 2) := by decide +kernel
theorem dX12_reading_52 : decode cX12_reading 52 = .ok (.iload 6, 2) := by decide +kernel
theorem dX12_reading_54 : decode cX12_reading 54 = .ok (.iload_n 2, 1) := by decide +kernel
theorem dX12_reading_55 : decode cX12_reading 55 = .ok (.if_icmp .gt 108, 3) := by decide +kernel
theorem dX12_reading_58 : decode cX12_reading 58 = .ok (.iconst (-1), 1) := by decide +kernel
theorem dX12_reading_59 : decode cX12_reading 59 = .ok (.istore 7, 2) := by decide +kernel
theorem dX12_reading_61 : decode cX12_reading 61 = .ok (.iconst 0, 1) := by decide +kernel
theorem dX12_reading_62 : decode cX12_reading 62 = .ok (.istore 8, 2) := by decide +kernel
theorem dX12_reading_64 : decode cX12_reading 64 = .ok (.iload 8, 2) := by decide +kernel
theorem dX12_reading_66 : decode cX12_reading 66 = .ok (.aload_n 0, 1) := by decide +kernel
theorem dX12_reading_67 : decode cX12_reading 67 = .ok (.getfield 162, 3) := by decide +kernel
theorem dX12_reading_70 : decode cX12_reading 70 = .ok (.if_icmp .ge 71, 3) := by decide +kernel
theorem dX12_reading_73 : decode cX12_reading 73 = .ok (.iload 7, 2) := by decide +kernel
theorem dX12_reading_75 : decode cX12_reading 75 = .ok (.iconst (-1), 1) := by decide +kernel
theorem dX12_reading_76 : decode cX12_reading 76 = .ok (.if_icmp .ne 65, 3) := by decide +kernel
theorem dX12_reading_79 : decode cX12_reading 79 = .ok (.aload_n 0, 1) := by decide +kernel
theorem dX12_reading_80 : decode cX12_reading 80 = .ok (.iload 8, 2) := by decide +kernel
theorem dX12_reading_82 : decode cX12_reading 82 = .ok (.iload 4, 2) := by decide +kernel
theorem dX12_reading_84 : decode cX12_reading 84 = .ok (.invokevirtual 361, 3) := by decide +kernel
theorem dX12_reading_87 : decode cX12_reading 87 = .ok (.ifCond .eq 48, 3) := by decide +kernel
theorem dX12_reading_90 : decode cX12_reading 90 = .ok (.aload_n 0, 1) := by decide +kernel
theorem dX12_reading_91 : decode cX12_reading 91 = .ok (.iload 5, 2) := by decide +kernel
theorem dX12_reading_93 : decode cX12_reading 93 = .ok (.iload 8, 2) := by decide +kernel
theorem dX12_reading_95 : decode cX12_reading 95 = .ok (.invokevirtual 364, 3) := by decide +kernel
theorem dX12_reading_98 : decode cX12_reading 98 = .ok (.ifCond .eq 37, 3) := by decide +kernel
theorem dX12_reading_101 : decode cX12_reading 101 = .ok (.aload_n 0, 1) := by decide +kernel
theorem dX12_reading_102 : decode cX12_reading 102 = .ok (.getfield 100, 3) := by decide +kernel
theorem dX12_reading_105 : decode cX12_reading 105 = .ok (.bipush 11, 2) := by decide +kernel
theorem dX12_reading_107 : decode cX12_reading 107 = .ok (.iload 4, 2) := by decide +kernel
theorem dX12_reading_109 : decode cX12_reading 109 = .ok (.aload_n 0, 1) := by decide +kernel
theorem dX12_reading_110 : decode cX12_reading 110 = .ok (.getfield 106, 3) := by decide +kernel
theorem dX12_reading_113 : decode cX12_reading 113 = .ok (.iload 8, 2) := by decide +kernel
theorem dX12_reading_115 : decode cX12_reading 115 = .ok (.iaload, 1) := by decide +kernel
theorem dX12_reading_116 : decode cX12_reading 116 = .ok (.iadd, 1) := by decide +kernel
theorem dX12_reading_117 : decode cX12_reading 117 = .ok (.imul, 1) := by decide +kernel
theorem dX12_reading_118 : decode cX12_reading 118 = .ok (.iload 8, 2) := by decide +kernel
theorem dX12_reading_120 : decode cX12_reading 120 = .ok (.iadd, 1) := by decide +kernel
theorem dX12_reading_121 : decode cX12_reading 121 = .ok (.iaload, 1) := by decide +kernel
theorem dX12_reading_122 : decode cX12_reading 122 = .ok (.iload_n 3, 1) := by decide +kernel
theorem dX12_reading_123 : decode cX12_reading 123 = .ok (.iload 6, 2) := by decide +kernel
theorem dX12_reading_125 : decode cX12_reading 125 = .ok (.isub, 1) := by decide +kernel
theorem dX12_reading_126 : decode cX12_reading 126 = .ok (.iconst 1, 1) := by decide +kernel
theorem dX12_reading_127 : decode cX12_reading 127 = .ok (.isub, 1) := by decide +kernel
theorem dX12_reading_128 : decode cX12_reading 128 = .ok (.if_icmp .ne 7, 3) := by decide +kernel
theorem dX12_reading_131 : decode cX12_reading 131 = .ok (.iload 8, 2) := by decide +kernel
theorem dX12_reading_133 : decode cX12_reading 133 = .ok (.istore 7, 2) := by decide +kernel
theorem dX12_reading_135 : decode cX12_reading 135 = .ok (.iinc 8 1, 3) := by decide +kernel
theorem dX12_reading_138 : decode cX12_reading 138 = .ok (.goto (-74), 3) := by decide +kernel
theorem dX12_reading_141 : decode cX12_reading 141 = .ok (.iload 4, 2) := by decide +kernel
theorem dX12_reading_143 : decode cX12_reading 143 = .ok (.aload_n 0, 1) := by decide +kernel
theorem dX12_reading_144 : decode cX12_reading 144 = .ok (.getfield 106, 3) := by decide +kernel
theorem dX12_reading_147 : decode cX12_reading 147 = .ok (.iload 7, 2) := by decide +kernel
theorem dX12_reading_149 : decode cX12_reading 149 = .ok (.iaload, 1) := by decide +kernel
theorem dX12_reading_150 : decode cX12_reading 150 = .ok (.iadd, 1) := by decide +kernel
theorem dX12_reading_151 : decode cX12_reading 151 = .ok (.istore 4, 2) := by decide +kernel
theorem dX12_reading_153 : decode cX12_reading 153 = .ok (.iload 7, 2) := by decide +kernel
theorem dX12_reading_155 : decode cX12_reading 155 = .ok (.istore 5, 2) := by decide +kernel
theorem dX12_reading_157 : decode cX12_reading 157 = .ok (.iinc 6 1, 3) := by decide +kernel
theorem dX12_reading_160 : decode cX12_reading 160 = .ok (.goto (-108), 3) := by decide +kernel
theorem dX12_reading_163 : decode cX12_reading 163 = .ok (.iload 5, 2) := by decide +kernel
theorem dX12_reading_165 : decode cX12_reading 165 = .ok (.ireturn, 1) := by decide +kernel
theorem dX12_tellRow_0 : decode cX12_tellRow 0 = .ok (.iload_n 0, 1) := by decide +kernel
theorem dX12_tellRow_1 : decode cX12_tellRow 1 = .ok (.invokestatic 322, 3) := by decide +kernel
theorem dX12_tellRow_4 : decode cX12_tellRow 4 = .ok (.istore_n 2, 1) := by decide +kernel
theorem dX12_tellRow_5 : decode cX12_tellRow 5 = .ok (.iload_n 0, 1) := by decide +kernel
theorem dX12_tellRow_6 : decode cX12_tellRow 6 = .ok (.istore_n 3, 1) := by decide +kernel
theorem dX12_tellRow_7 : decode cX12_tellRow 7 = .ok (.iload_n 2, 1) := by decide +kernel
theorem dX12_tellRow_8 : decode cX12_tellRow 8 = .ok (.iconst 1, 1) := by decide +kernel
theorem dX12_tellRow_9 : decode cX12_tellRow 9 = .ok (.isub, 1) := by decide +kernel
theorem dX12_tellRow_10 : decode cX12_tellRow 10 = .ok (.istore 4, 2) := by decide +kernel
theorem dX12_tellRow_12 : decode cX12_tellRow 12 = .ok (.iload 4, 2) := by decide +kernel
theorem dX12_tellRow_14 : decode cX12_tellRow 14 = .ok (.ifCond .lt 20, 3) := by decide +kernel
theorem dX12_tellRow_17 : decode cX12_tellRow 17 = .ok (.aload_n 1, 1) := by decide +kernel
theorem dX12_tellRow_18 : decode cX12_tellRow 18 = .ok (.iload 4, 2) := by decide +kernel
theorem dX12_tellRow_20 : decode cX12_tellRow 20 = .ok (.iload_n 3, 1) := by decide +kernel
theorem dX12_tellRow_21 : decode cX12_tellRow 21 = .ok (.iconst 5, 1) := by decide +kernel
theorem dX12_tellRow_22 : decode cX12_tellRow 22 = .ok (.irem, 1) := by decide +kernel
theorem dX12_tellRow_23 : decode cX12_tellRow 23 = .ok (.iastore, 1) := by decide +kernel
theorem dX12_tellRow_24 : decode cX12_tellRow 24 = .ok (.iload_n 3, 1) := by decide +kernel
theorem dX12_tellRow_25 : decode cX12_tellRow 25 = .ok (.iconst 5, 1) := by decide +kernel
theorem dX12_tellRow_26 : decode cX12_tellRow 26 = .ok (.idiv, 1) := by decide +kernel
theorem dX12_tellRow_27 : decode cX12_tellRow 27 = .ok (.istore_n 3, 1) := by decide +kernel
theorem dX12_tellRow_28 : decode cX12_tellRow 28 = .ok (.iinc 4 (-1), 3) := by decide +kernel
theorem dX12_tellRow_31 : decode cX12_tellRow 31 = .ok (.goto (-19), 3) := by decide +kernel
theorem dX12_tellRow_34 : decode cX12_tellRow 34 = .ok (.iload_n 2, 1) := by decide +kernel
theorem dX12_tellRow_35 : decode cX12_tellRow 35 = .ok (.ireturn, 1) := by decide +kernel
theorem dX12_apartBy_0 : decode cX12_apartBy 0 = .ok (.iload_n 1, 1) := by decide +kernel
theorem dX12_apartBy_1 : decode cX12_apartBy 1 = .ok (.aload_n 0, 1) := by decide +kernel
theorem dX12_apartBy_2 : decode cX12_apartBy 2 = .ok (.getfield 116, 3) := by decide +kernel
theorem dX12_apartBy_5 : decode cX12_apartBy 5 = .ok (.invokestatic 372, 3) := by decide +kernel
theorem dX12_apartBy_8 : decode cX12_apartBy 8 = .ok (.istore_n 3, 1) := by decide +kernel
theorem dX12_apartBy_9 : decode cX12_apartBy 9 = .ok (.iload_n 2, 1) := by decide +kernel
theorem dX12_apartBy_10 : decode cX12_apartBy 10 = .ok (.aload_n 0, 1) := by decide +kernel
theorem dX12_apartBy_11 : decode cX12_apartBy 11 = .ok (.getfield 118, 3) := by decide +kernel
theorem dX12_apartBy_14 : decode cX12_apartBy 14 = .ok (.invokestatic 372, 3) := by decide +kernel
theorem dX12_apartBy_17 : decode cX12_apartBy 17 = .ok (.istore 4, 2) := by decide +kernel
theorem dX12_apartBy_19 : decode cX12_apartBy 19 = .ok (.iconst 0, 1) := by decide +kernel
theorem dX12_apartBy_20 : decode cX12_apartBy 20 = .ok (.istore 5, 2) := by decide +kernel
theorem dX12_apartBy_22 : decode cX12_apartBy 22 = .ok (.iload 5, 2) := by decide +kernel
theorem dX12_apartBy_24 : decode cX12_apartBy 24 = .ok (.iload_n 3, 1) := by decide +kernel
theorem dX12_apartBy_25 : decode cX12_apartBy 25 = .ok (.if_icmp .gt 162, 3) := by decide +kernel
theorem dX12_apartBy_28 : decode cX12_apartBy 28 = .ok (.iconst 0, 1) := by decide +kernel
theorem dX12_apartBy_29 : decode cX12_apartBy 29 = .ok (.istore 6, 2) := by decide +kernel
theorem dX12_apartBy_31 : decode cX12_apartBy 31 = .ok (.iload 6, 2) := by decide +kernel
theorem dX12_apartBy_33 : decode cX12_apartBy 33 = .ok (.iload 4, 2) := by decide +kernel
theorem dX12_apartBy_35 : decode cX12_apartBy 35 = .ok (.if_icmp .gt 146, 3) := by decide +kernel
theorem dX12_apartBy_38 : decode cX12_apartBy 38 = .ok (.iload 5, 2) := by decide +kernel
theorem dX12_apartBy_40 : decode cX12_apartBy 40 = .ok (.ifCond .ne 8, 3) := by decide +kernel
theorem dX12_apartBy_43 : decode cX12_apartBy 43 = .ok (.iload 6, 2) := by decide +kernel
theorem dX12_apartBy_45 : decode cX12_apartBy 45 = .ok (.goto 15, 3) := by decide +kernel
theorem dX12_apartBy_48 : decode cX12_apartBy 48 = .ok (.iload 6, 2) := by decide +kernel
theorem dX12_apartBy_50 : decode cX12_apartBy 50 = .ok (.ifCond .ne 8, 3) := by decide +kernel
theorem dX12_apartBy_53 : decode cX12_apartBy 53 = .ok (.iload 5, 2) := by decide +kernel
theorem dX12_apartBy_55 : decode cX12_apartBy 55 = .ok (.goto 5, 3) := by decide +kernel
theorem dX12_apartBy_58 : decode cX12_apartBy 58 = .ok (.ldc 199, 2) := by decide +kernel
theorem dX12_apartBy_60 : decode cX12_apartBy 60 = .ok (.istore 7, 2) := by decide +kernel
theorem dX12_apartBy_62 : decode cX12_apartBy 62 = .ok (.iload 5, 2) := by decide +kernel
theorem dX12_apartBy_64 : decode cX12_apartBy 64 = .ok (.ifCond .le 96, 3) := by decide +kernel
theorem dX12_apartBy_67 : decode cX12_apartBy 67 = .ok (.iload 6, 2) := by decide +kernel
theorem dX12_apartBy_69 : decode cX12_apartBy 69 = .ok (.ifCond .le 91, 3) := by decide +kernel
theorem dX12_apartBy_72 : decode cX12_apartBy 72 = .ok (.aload_n 0, 1) := by decide +kernel
theorem dX12_apartBy_73 : decode cX12_apartBy 73 = .ok (.getfield 113, 3) := by decide +kernel
theorem dX12_apartBy_76 : decode cX12_apartBy 76 = .ok (.bipush 13, 2) := by decide +kernel
theorem dX12_apartBy_78 : decode cX12_apartBy 78 = .ok (.iload 5, 2) := by decide +kernel
theorem dX12_apartBy_80 : decode cX12_apartBy 80 = .ok (.iconst 1, 1) := by decide +kernel
theorem dX12_apartBy_81 : decode cX12_apartBy 81 = .ok (.isub, 1) := by decide +kernel
theorem dX12_apartBy_82 : decode cX12_apartBy 82 = .ok (.imul, 1) := by decide +kernel
theorem dX12_apartBy_83 : decode cX12_apartBy 83 = .ok (.iload 6, 2) := by decide +kernel
theorem dX12_apartBy_85 : decode cX12_apartBy 85 = .ok (.iadd, 1) := by decide +kernel
theorem dX12_apartBy_86 : decode cX12_apartBy 86 = .ok (.iaload, 1) := by decide +kernel
theorem dX12_apartBy_87 : decode cX12_apartBy 87 = .ok (.aload_n 0, 1) := by decide +kernel
theorem dX12_apartBy_88 : decode cX12_apartBy 88 = .ok (.getfield 113, 3) := by decide +kernel
theorem dX12_apartBy_91 : decode cX12_apartBy 91 = .ok (.bipush 13, 2) := by decide +kernel
theorem dX12_apartBy_93 : decode cX12_apartBy 93 = .ok (.iload 5, 2) := by decide +kernel
theorem dX12_apartBy_95 : decode cX12_apartBy 95 = .ok (.imul, 1) := by decide +kernel
theorem dX12_apartBy_96 : decode cX12_apartBy 96 = .ok (.iload 6, 2) := by decide +kernel
theorem dX12_apartBy_98 : decode cX12_apartBy 98 = .ok (.iadd, 1) := by decide +kernel
theorem dX12_apartBy_99 : decode cX12_apartBy 99 = .ok (.iconst 1, 1) := by decide +kernel
theorem dX12_apartBy_100 : decode cX12_apartBy 100 = .ok (.isub, 1) := by decide +kernel
theorem dX12_apartBy_101 : decode cX12_apartBy 101 = .ok (.iaload, 1) := by decide +kernel
theorem dX12_apartBy_102 : decode cX12_apartBy 102 = .ok (.invokestatic 200, 3) := by decide +kernel
theorem dX12_apartBy_105 : decode cX12_apartBy 105 = .ok (.iconst 1, 1) := by decide +kernel
theorem dX12_apartBy_106 : decode cX12_apartBy 106 = .ok (.iadd, 1) := by decide +kernel
theorem dX12_apartBy_107 : decode cX12_apartBy 107 = .ok (.istore 7, 2) := by decide +kernel
theorem dX12_apartBy_109 : decode cX12_apartBy 109 = .ok (.iload 7, 2) := by decide +kernel
theorem dX12_apartBy_111 : decode cX12_apartBy 111 = .ok (.aload_n 0, 1) := by decide +kernel
theorem dX12_apartBy_112 : decode cX12_apartBy 112 = .ok (.getfield 113, 3) := by decide +kernel
theorem dX12_apartBy_115 : decode cX12_apartBy 115 = .ok (.bipush 13, 2) := by decide +kernel
theorem dX12_apartBy_117 : decode cX12_apartBy 117 = .ok (.iload 5, 2) := by decide +kernel
theorem dX12_apartBy_119 : decode cX12_apartBy 119 = .ok (.iconst 1, 1) := by decide +kernel
theorem dX12_apartBy_120 : decode cX12_apartBy 120 = .ok (.isub, 1) := by decide +kernel
theorem dX12_apartBy_121 : decode cX12_apartBy 121 = .ok (.imul, 1) := by decide +kernel
theorem dX12_apartBy_122 : decode cX12_apartBy 122 = .ok (.iload 6, 2) := by decide +kernel
theorem dX12_apartBy_124 : decode cX12_apartBy 124 = .ok (.iadd, 1) := by decide +kernel
theorem dX12_apartBy_125 : decode cX12_apartBy 125 = .ok (.iconst 1, 1) := by decide +kernel
theorem dX12_apartBy_126 : decode cX12_apartBy 126 = .ok (.isub, 1) := by decide +kernel
theorem dX12_apartBy_127 : decode cX12_apartBy 127 = .ok (.iaload, 1) := by decide +kernel
theorem dX12_apartBy_128 : decode cX12_apartBy 128 = .ok (.aload_n 0, 1) := by decide +kernel
theorem dX12_apartBy_129 : decode cX12_apartBy 129 = .ok (.getfield 116, 3) := by decide +kernel
theorem dX12_apartBy_132 : decode cX12_apartBy 132 = .ok (.iload 5, 2) := by decide +kernel
theorem dX12_apartBy_134 : decode cX12_apartBy 134 = .ok (.iconst 1, 1) := by decide +kernel
theorem dX12_apartBy_135 : decode cX12_apartBy 135 = .ok (.isub, 1) := by decide +kernel
theorem dX12_apartBy_136 : decode cX12_apartBy 136 = .ok (.iaload, 1) := by decide +kernel
theorem dX12_apartBy_137 : decode cX12_apartBy 137 = .ok (.aload_n 0, 1) := by decide +kernel
theorem dX12_apartBy_138 : decode cX12_apartBy 138 = .ok (.getfield 118, 3) := by decide +kernel
theorem dX12_apartBy_141 : decode cX12_apartBy 141 = .ok (.iload 6, 2) := by decide +kernel
theorem dX12_apartBy_143 : decode cX12_apartBy 143 = .ok (.iconst 1, 1) := by decide +kernel
theorem dX12_apartBy_144 : decode cX12_apartBy 144 = .ok (.isub, 1) := by decide +kernel
theorem dX12_apartBy_145 : decode cX12_apartBy 145 = .ok (.iaload, 1) := by decide +kernel
theorem dX12_apartBy_146 : decode cX12_apartBy 146 = .ok (.if_icmp .ne 7, 3) := by decide +kernel
theorem dX12_apartBy_149 : decode cX12_apartBy 149 = .ok (.iconst 0, 1) := by decide +kernel
theorem dX12_apartBy_150 : decode cX12_apartBy 150 = .ok (.goto 4, 3) := by decide +kernel
theorem dX12_apartBy_153 : decode cX12_apartBy 153 = .ok (.iconst 1, 1) := by decide +kernel
theorem dX12_apartBy_154 : decode cX12_apartBy 154 = .ok (.iadd, 1) := by decide +kernel
theorem dX12_apartBy_155 : decode cX12_apartBy 155 = .ok (.invokestatic 200, 3) := by decide +kernel
theorem dX12_apartBy_158 : decode cX12_apartBy 158 = .ok (.istore 7, 2) := by decide +kernel
theorem dX12_apartBy_160 : decode cX12_apartBy 160 = .ok (.aload_n 0, 1) := by decide +kernel
theorem dX12_apartBy_161 : decode cX12_apartBy 161 = .ok (.getfield 113, 3) := by decide +kernel
theorem dX12_apartBy_164 : decode cX12_apartBy 164 = .ok (.bipush 13, 2) := by decide +kernel
theorem dX12_apartBy_166 : decode cX12_apartBy 166 = .ok (.iload 5, 2) := by decide +kernel
theorem dX12_apartBy_168 : decode cX12_apartBy 168 = .ok (.imul, 1) := by decide +kernel
theorem dX12_apartBy_169 : decode cX12_apartBy 169 = .ok (.iload 6, 2) := by decide +kernel
theorem dX12_apartBy_171 : decode cX12_apartBy 171 = .ok (.iadd, 1) := by decide +kernel
theorem dX12_apartBy_172 : decode cX12_apartBy 172 = .ok (.iload 7, 2) := by decide +kernel
theorem dX12_apartBy_174 : decode cX12_apartBy 174 = .ok (.iastore, 1) := by decide +kernel
theorem dX12_apartBy_175 : decode cX12_apartBy 175 = .ok (.iinc 6 1, 3) := by decide +kernel
theorem dX12_apartBy_178 : decode cX12_apartBy 178 = .ok (.goto (-147), 3) := by decide +kernel
theorem dX12_apartBy_181 : decode cX12_apartBy 181 = .ok (.iinc 5 1, 3) := by decide +kernel
theorem dX12_apartBy_184 : decode cX12_apartBy 184 = .ok (.goto (-162), 3) := by decide +kernel
theorem dX12_apartBy_187 : decode cX12_apartBy 187 = .ok (.aload_n 0, 1) := by decide +kernel
theorem dX12_apartBy_188 : decode cX12_apartBy 188 = .ok (.getfield 113, 3) := by decide +kernel
theorem dX12_apartBy_191 : decode cX12_apartBy 191 = .ok (.bipush 13, 2) := by decide +kernel
theorem dX12_apartBy_193 : decode cX12_apartBy 193 = .ok (.iload_n 3, 1) := by decide +kernel
theorem dX12_apartBy_194 : decode cX12_apartBy 194 = .ok (.imul, 1) := by decide +kernel
theorem dX12_apartBy_195 : decode cX12_apartBy 195 = .ok (.iload 4, 2) := by decide +kernel
theorem dX12_apartBy_197 : decode cX12_apartBy 197 = .ok (.iadd, 1) := by decide +kernel
theorem dX12_apartBy_198 : decode cX12_apartBy 198 = .ok (.iaload, 1) := by decide +kernel
theorem dX12_apartBy_199 : decode cX12_apartBy 199 = .ok (.ireturn, 1) := by decide +kernel
theorem dX12_apart_0 : decode cX12_apart 0 = .ok (.aload_n 0, 1) := by decide +kernel
theorem dX12_apart_1 : decode cX12_apart 1 = .ok (.iconst 0, 1) := by decide +kernel
theorem dX12_apart_2 : decode cX12_apart 2 = .ok (.putfield 159, 3) := by decide +kernel
theorem dX12_apart_5 : decode cX12_apart 5 = .ok (.iload_n 1, 1) := by decide +kernel
theorem dX12_apart_6 : decode cX12_apart 6 = .ok (.invokestatic 345, 3) := by decide +kernel
theorem dX12_apart_9 : decode cX12_apart 9 = .ok (.ifCond .eq 19, 3) := by decide +kernel
theorem dX12_apart_12 : decode cX12_apart 12 = .ok (.iload_n 2, 1) := by decide +kernel
theorem dX12_apart_13 : decode cX12_apart 13 = .ok (.invokestatic 345, 3) := by decide +kernel
theorem dX12_apart_16 : decode cX12_apart 16 = .ok (.ifCond .eq 12, 3) := by decide +kernel
theorem dX12_apart_19 : decode cX12_apart 19 = .ok (.aload_n 0, 1) := by decide +kernel
theorem dX12_apart_20 : decode cX12_apart 20 = .ok (.iload_n 1, 1) := by decide +kernel
theorem dX12_apart_21 : decode cX12_apart 21 = .ok (.iload_n 2, 1) := by decide +kernel
theorem dX12_apart_22 : decode cX12_apart 22 = .ok (.invokevirtual 376, 3) := by decide +kernel
theorem dX12_apart_25 : decode cX12_apart 25 = .ok (.goto 8, 3) := by decide +kernel
theorem dX12_apart_28 : decode cX12_apart 28 = .ok (.aload_n 0, 1) := by decide +kernel
theorem dX12_apart_29 : decode cX12_apart 29 = .ok (.iconst 1, 1) := by decide +kernel
theorem dX12_apart_30 : decode cX12_apart 30 = .ok (.invokevirtual 292, 3) := by decide +kernel
theorem dX12_apart_33 : decode cX12_apart 33 = .ok (.ireturn, 1) := by decide +kernel
theorem dX12_nearestTo_0 : decode cX12_nearestTo 0 = .ok (.iconst (-1), 1) := by decide +kernel
theorem dX12_nearestTo_1 : decode cX12_nearestTo 1 = .ok (.istore_n 2, 1) := by decide +kernel
theorem dX12_nearestTo_2 : decode cX12_nearestTo 2 = .ok (.ldc 199, 2) := by decide +kernel
theorem dX12_nearestTo_4 : decode cX12_nearestTo 4 = .ok (.istore_n 3, 1) := by decide +kernel
theorem dX12_nearestTo_5 : decode cX12_nearestTo 5 = .ok (.iconst 0, 1) := by decide +kernel
theorem dX12_nearestTo_6 : decode cX12_nearestTo 6 = .ok (.istore 4, 2) := by decide +kernel
theorem dX12_nearestTo_8 : decode cX12_nearestTo 8 = .ok (.iload 4, 2) := by decide +kernel
theorem dX12_nearestTo_10 : decode cX12_nearestTo 10 = .ok (.aload_n 0, 1) := by decide +kernel
theorem dX12_nearestTo_11 : decode cX12_nearestTo 11 = .ok (.getfield 162, 3) := by decide +kernel
theorem dX12_nearestTo_14 : decode cX12_nearestTo 14 = .ok (.if_icmp .ge 38, 3) := by decide +kernel
theorem dX12_nearestTo_17 : decode cX12_nearestTo 17 = .ok (.aload_n 0, 1) := by decide +kernel
theorem dX12_nearestTo_18 : decode cX12_nearestTo 18 = .ok (.iload_n 1, 1) := by decide +kernel
theorem dX12_nearestTo_19 : decode cX12_nearestTo 19 = .ok (.aload_n 0, 1) := by decide +kernel
theorem dX12_nearestTo_20 : decode cX12_nearestTo 20 = .ok (.getfield 79, 3) := by decide +kernel
theorem dX12_nearestTo_23 : decode cX12_nearestTo 23 = .ok (.iload 4, 2) := by decide +kernel
theorem dX12_nearestTo_25 : decode cX12_nearestTo 25 = .ok (.iaload, 1) := by decide +kernel
theorem dX12_nearestTo_26 : decode cX12_nearestTo 26 = .ok (.invokevirtual 376, 3) := by decide +kernel
theorem dX12_nearestTo_29 : decode cX12_nearestTo 29 = .ok (.istore 5, 2) := by decide +kernel
theorem dX12_nearestTo_31 : decode cX12_nearestTo 31 = .ok (.iload 5, 2) := by decide +kernel
theorem dX12_nearestTo_33 : decode cX12_nearestTo 33 = .ok (.iload_n 3, 1) := by decide +kernel
theorem dX12_nearestTo_34 : decode cX12_nearestTo 34 = .ok (.if_icmp .lt 6, 3) := by decide +kernel
theorem dX12_nearestTo_37 : decode cX12_nearestTo 37 = .ok (.goto 9, 3) := by decide +kernel
theorem dX12_nearestTo_40 : decode cX12_nearestTo 40 = .ok (.iload 4, 2) := by decide +kernel
theorem dX12_nearestTo_42 : decode cX12_nearestTo 42 = .ok (.istore_n 2, 1) := by decide +kernel
theorem dX12_nearestTo_43 : decode cX12_nearestTo 43 = .ok (.iload 5, 2) := by decide +kernel
theorem dX12_nearestTo_45 : decode cX12_nearestTo 45 = .ok (.istore_n 3, 1) := by decide +kernel
theorem dX12_nearestTo_46 : decode cX12_nearestTo 46 = .ok (.iinc 4 1, 3) := by decide +kernel
theorem dX12_nearestTo_49 : decode cX12_nearestTo 49 = .ok (.goto (-41), 3) := by decide +kernel
theorem dX12_nearestTo_52 : decode cX12_nearestTo 52 = .ok (.iload_n 2, 1) := by decide +kernel
theorem dX12_nearestTo_53 : decode cX12_nearestTo 53 = .ok (.ireturn, 1) := by decide +kernel
theorem dX12_nearest_0 : decode cX12_nearest 0 = .ok (.aload_n 0, 1) := by decide +kernel
theorem dX12_nearest_1 : decode cX12_nearest 1 = .ok (.iconst 0, 1) := by decide +kernel
theorem dX12_nearest_2 : decode cX12_nearest 2 = .ok (.putfield 159, 3) := by decide +kernel
theorem dX12_nearest_5 : decode cX12_nearest 5 = .ok (.iload_n 2, 1) := by decide +kernel
theorem dX12_nearest_6 : decode cX12_nearest 6 = .ok (.ifCond .lt 8, 3) := by decide +kernel
theorem dX12_nearest_9 : decode cX12_nearest 9 = .ok (.iload_n 2, 1) := by decide +kernel
theorem dX12_nearest_10 : decode cX12_nearest 10 = .ok (.iconst 1, 1) := by decide +kernel
theorem dX12_nearest_11 : decode cX12_nearest 11 = .ok (.if_icmp .le 9, 3) := by decide +kernel
theorem dX12_nearest_14 : decode cX12_nearest 14 = .ok (.aload_n 0, 1) := by decide +kernel
theorem dX12_nearest_15 : decode cX12_nearest 15 = .ok (.iconst 1, 1) := by decide +kernel
theorem dX12_nearest_16 : decode cX12_nearest 16 = .ok (.invokevirtual 292, 3) := by decide +kernel
theorem dX12_nearest_19 : decode cX12_nearest 19 = .ok (.ireturn, 1) := by decide +kernel
theorem dX12_nearest_20 : decode cX12_nearest 20 = .ok (.iload_n 1, 1) := by decide +kernel
theorem dX12_nearest_21 : decode cX12_nearest 21 = .ok (.invokestatic 345, 3) := by decide +kernel
theorem dX12_nearest_24 : decode cX12_nearest 24 = .ok (.ifCond .ne 9, 3) := by decide +kernel
theorem dX12_nearest_27 : decode cX12_nearest 27 = .ok (.aload_n 0, 1) := by decide +kernel
theorem dX12_nearest_28 : decode cX12_nearest 28 = .ok (.iconst 2, 1) := by decide +kernel
theorem dX12_nearest_29 : decode cX12_nearest 29 = .ok (.invokevirtual 292, 3) := by decide +kernel
theorem dX12_nearest_32 : decode cX12_nearest 32 = .ok (.ireturn, 1) := by decide +kernel
theorem dX12_nearest_33 : decode cX12_nearest 33 = .ok (.aload_n 0, 1) := by decide +kernel
theorem dX12_nearest_34 : decode cX12_nearest 34 = .ok (.iload_n 1, 1) := by decide +kernel
theorem dX12_nearest_35 : decode cX12_nearest 35 = .ok (.invokevirtual 379, 3) := by decide +kernel
theorem dX12_nearest_38 : decode cX12_nearest 38 = .ok (.istore_n 3, 1) := by decide +kernel
theorem dX12_nearest_39 : decode cX12_nearest 39 = .ok (.iload_n 2, 1) := by decide +kernel
theorem dX12_nearest_40 : decode cX12_nearest 40 = .ok (.ifCond .eq 8, 3) := by decide +kernel
theorem dX12_nearest_43 : decode cX12_nearest 43 = .ok (.iload_n 3, 1) := by decide +kernel
theorem dX12_nearest_44 : decode cX12_nearest 44 = .ok (.iconst (-1), 1) := by decide +kernel
theorem dX12_nearest_45 : decode cX12_nearest 45 = .ok (.if_icmp .ne 7, 3) := by decide +kernel
theorem dX12_nearest_48 : decode cX12_nearest 48 = .ok (.iload_n 3, 1) := by decide +kernel
theorem dX12_nearest_49 : decode cX12_nearest 49 = .ok (.goto 14, 3) := by decide +kernel
theorem dX12_nearest_52 : decode cX12_nearest 52 = .ok (.aload_n 0, 1) := by decide +kernel
theorem dX12_nearest_53 : decode cX12_nearest 53 = .ok (.iload_n 1, 1) := by decide +kernel
theorem dX12_nearest_54 : decode cX12_nearest 54 = .ok (.aload_n 0, 1) := by decide +kernel
theorem dX12_nearest_55 : decode cX12_nearest 55 = .ok (.getfield 79, 3) := by decide +kernel
theorem dX12_nearest_58 : decode cX12_nearest 58 = .ok (.iload_n 3, 1) := by decide +kernel
theorem dX12_nearest_59 : decode cX12_nearest 59 = .ok (.iaload, 1) := by decide +kernel
theorem dX12_nearest_60 : decode cX12_nearest 60 = .ok (.invokevirtual 376, 3) := by decide +kernel
theorem dX12_nearest_63 : decode cX12_nearest 63 = .ok (.ireturn, 1) := by decide +kernel
theorem dX12_refuse_0 : decode cX12_refuse 0 = .ok (.aload_n 0, 1) := by decide +kernel
theorem dX12_refuse_1 : decode cX12_refuse 1 = .ok (.getfield 69, 3) := by decide +kernel
theorem dX12_refuse_4 : decode cX12_refuse 4 = .ok (.iload_n 1, 1) := by decide +kernel
theorem dX12_refuse_5 : decode cX12_refuse 5 = .ok (.dup2, 1) := by decide +kernel
theorem dX12_refuse_6 : decode cX12_refuse 6 = .ok (.iaload, 1) := by decide +kernel
theorem dX12_refuse_7 : decode cX12_refuse 7 = .ok (.iconst 1, 1) := by decide +kernel
theorem dX12_refuse_8 : decode cX12_refuse 8 = .ok (.iadd, 1) := by decide +kernel
theorem dX12_refuse_9 : decode cX12_refuse 9 = .ok (.iastore, 1) := by decide +kernel
theorem dX12_refuse_10 : decode cX12_refuse 10 = .ok (.iconst (-1), 1) := by decide +kernel
theorem dX12_refuse_11 : decode cX12_refuse 11 = .ok (.ireturn, 1) := by decide +kernel
theorem dX12_wordBy_0 : decode cX12_wordBy 0 = .ok (.iconst 0, 1) := by decide +kernel
theorem dX12_wordBy_1 : decode cX12_wordBy 1 = .ok (.istore_n 2, 1) := by decide +kernel
theorem dX12_wordBy_2 : decode cX12_wordBy 2 = .ok (.iload_n 2, 1) := by decide +kernel
theorem dX12_wordBy_3 : decode cX12_wordBy 3 = .ok (.aload_n 0, 1) := by decide +kernel
theorem dX12_wordBy_4 : decode cX12_wordBy 4 = .ok (.getfield 162, 3) := by decide +kernel
theorem dX12_wordBy_7 : decode cX12_wordBy 7 = .ok (.if_icmp .ge 21, 3) := by decide +kernel
theorem dX12_wordBy_10 : decode cX12_wordBy 10 = .ok (.aload_n 0, 1) := by decide +kernel
theorem dX12_wordBy_11 : decode cX12_wordBy 11 = .ok (.getfield 79, 3) := by decide +kernel
theorem dX12_wordBy_14 : decode cX12_wordBy 14 = .ok (.iload_n 2, 1) := by decide +kernel
theorem dX12_wordBy_15 : decode cX12_wordBy 15 = .ok (.iaload, 1) := by decide +kernel
theorem dX12_wordBy_16 : decode cX12_wordBy 16 = .ok (.iload_n 1, 1) := by decide +kernel
theorem dX12_wordBy_17 : decode cX12_wordBy 17 = .ok (.if_icmp .ne 5, 3) := by decide +kernel
theorem dX12_wordBy_20 : decode cX12_wordBy 20 = .ok (.iload_n 2, 1) := by decide +kernel
theorem dX12_wordBy_21 : decode cX12_wordBy 21 = .ok (.ireturn, 1) := by decide +kernel
theorem dX12_wordBy_22 : decode cX12_wordBy 22 = .ok (.iinc 2 1, 3) := by decide +kernel
theorem dX12_wordBy_25 : decode cX12_wordBy 25 = .ok (.goto (-23), 3) := by decide +kernel
theorem dX12_wordBy_28 : decode cX12_wordBy 28 = .ok (.iconst (-1), 1) := by decide +kernel
theorem dX12_wordBy_29 : decode cX12_wordBy 29 = .ok (.ireturn, 1) := by decide +kernel
theorem dX12_pack_0 : decode cX12_pack 0 = .ok (.aload_n 1, 1) := by decide +kernel
theorem dX12_pack_1 : decode cX12_pack 1 = .ok (.iload_n 2, 1) := by decide +kernel
theorem dX12_pack_2 : decode cX12_pack 2 = .ok (.aload_n 0, 1) := by decide +kernel
theorem dX12_pack_3 : decode cX12_pack 3 = .ok (.getfield 162, 3) := by decide +kernel
theorem dX12_pack_6 : decode cX12_pack 6 = .ok (.iastore, 1) := by decide +kernel
theorem dX12_pack_7 : decode cX12_pack 7 = .ok (.aload_n 1, 1) := by decide +kernel
theorem dX12_pack_8 : decode cX12_pack 8 = .ok (.iload_n 2, 1) := by decide +kernel
theorem dX12_pack_9 : decode cX12_pack 9 = .ok (.iconst 1, 1) := by decide +kernel
theorem dX12_pack_10 : decode cX12_pack 10 = .ok (.iadd, 1) := by decide +kernel
theorem dX12_pack_11 : decode cX12_pack 11 = .ok (.aload_n 0, 1) := by decide +kernel
theorem dX12_pack_12 : decode cX12_pack 12 = .ok (.getfield 305, 3) := by decide +kernel
theorem dX12_pack_15 : decode cX12_pack 15 = .ok (.iastore, 1) := by decide +kernel
theorem dX12_pack_16 : decode cX12_pack 16 = .ok (.iconst 0, 1) := by decide +kernel
theorem dX12_pack_17 : decode cX12_pack 17 = .ok (.istore_n 3, 1) := by decide +kernel
theorem dX12_pack_18 : decode cX12_pack 18 = .ok (.iload_n 3, 1) := by decide +kernel
theorem dX12_pack_19 : decode cX12_pack 19 = .ok (.bipush 10, 2) := by decide +kernel
theorem dX12_pack_21 : decode cX12_pack 21 = .ok (.if_icmp .ge 54, 3) := by decide +kernel
theorem dX12_pack_24 : decode cX12_pack 24 = .ok (.aload_n 1, 1) := by decide +kernel
theorem dX12_pack_25 : decode cX12_pack 25 = .ok (.iload_n 2, 1) := by decide +kernel
theorem dX12_pack_26 : decode cX12_pack 26 = .ok (.iconst 2, 1) := by decide +kernel
theorem dX12_pack_27 : decode cX12_pack 27 = .ok (.iadd, 1) := by decide +kernel
theorem dX12_pack_28 : decode cX12_pack 28 = .ok (.iload_n 3, 1) := by decide +kernel
theorem dX12_pack_29 : decode cX12_pack 29 = .ok (.iadd, 1) := by decide +kernel
theorem dX12_pack_30 : decode cX12_pack 30 = .ok (.aload_n 0, 1) := by decide +kernel
theorem dX12_pack_31 : decode cX12_pack 31 = .ok (.getfield 79, 3) := by decide +kernel
theorem dX12_pack_34 : decode cX12_pack 34 = .ok (.iload_n 3, 1) := by decide +kernel
theorem dX12_pack_35 : decode cX12_pack 35 = .ok (.iaload, 1) := by decide +kernel
theorem dX12_pack_36 : decode cX12_pack 36 = .ok (.iastore, 1) := by decide +kernel
theorem dX12_pack_37 : decode cX12_pack 37 = .ok (.aload_n 1, 1) := by decide +kernel
theorem dX12_pack_38 : decode cX12_pack 38 = .ok (.iload_n 2, 1) := by decide +kernel
theorem dX12_pack_39 : decode cX12_pack 39 = .ok (.iconst 2, 1) := by decide +kernel
theorem dX12_pack_40 : decode cX12_pack 40 = .ok (.iadd, 1) := by decide +kernel
theorem dX12_pack_41 : decode cX12_pack 41 = .ok (.bipush 10, 2) := by decide +kernel
theorem dX12_pack_43 : decode cX12_pack 43 = .ok (.iadd, 1) := by decide +kernel
theorem dX12_pack_44 : decode cX12_pack 44 = .ok (.iload_n 3, 1) := by decide +kernel
theorem dX12_pack_45 : decode cX12_pack 45 = .ok (.iadd, 1) := by decide +kernel
theorem dX12_pack_46 : decode cX12_pack 46 = .ok (.aload_n 0, 1) := by decide +kernel
theorem dX12_pack_47 : decode cX12_pack 47 = .ok (.getfield 82, 3) := by decide +kernel
theorem dX12_pack_50 : decode cX12_pack 50 = .ok (.iload_n 3, 1) := by decide +kernel
theorem dX12_pack_51 : decode cX12_pack 51 = .ok (.iaload, 1) := by decide +kernel
theorem dX12_pack_52 : decode cX12_pack 52 = .ok (.iastore, 1) := by decide +kernel
theorem dX12_pack_53 : decode cX12_pack 53 = .ok (.aload_n 1, 1) := by decide +kernel
theorem dX12_pack_54 : decode cX12_pack 54 = .ok (.iload_n 2, 1) := by decide +kernel
theorem dX12_pack_55 : decode cX12_pack 55 = .ok (.iconst 2, 1) := by decide +kernel
theorem dX12_pack_56 : decode cX12_pack 56 = .ok (.iadd, 1) := by decide +kernel
theorem dX12_pack_57 : decode cX12_pack 57 = .ok (.bipush 20, 2) := by decide +kernel
theorem dX12_pack_59 : decode cX12_pack 59 = .ok (.iadd, 1) := by decide +kernel
theorem dX12_pack_60 : decode cX12_pack 60 = .ok (.iload_n 3, 1) := by decide +kernel
theorem dX12_pack_61 : decode cX12_pack 61 = .ok (.iadd, 1) := by decide +kernel
theorem dX12_pack_62 : decode cX12_pack 62 = .ok (.aload_n 0, 1) := by decide +kernel
theorem dX12_pack_63 : decode cX12_pack 63 = .ok (.getfield 85, 3) := by decide +kernel
theorem dX12_pack_66 : decode cX12_pack 66 = .ok (.iload_n 3, 1) := by decide +kernel
theorem dX12_pack_67 : decode cX12_pack 67 = .ok (.iaload, 1) := by decide +kernel
theorem dX12_pack_68 : decode cX12_pack 68 = .ok (.iastore, 1) := by decide +kernel
theorem dX12_pack_69 : decode cX12_pack 69 = .ok (.iinc 3 1, 3) := by decide +kernel
theorem dX12_pack_72 : decode cX12_pack 72 = .ok (.goto (-54), 3) := by decide +kernel
theorem dX12_pack_75 : decode cX12_pack 75 = .ok (.return_, 1) := by decide +kernel
theorem dX12_keep_0 : decode cX12_keep 0 = .ok (.aload_n 0, 1) := by decide +kernel
theorem dX12_keep_1 : decode cX12_keep 1 = .ok (.getfield 308, 3) := by decide +kernel
theorem dX12_keep_4 : decode cX12_keep 4 = .ok (.bipush 40, 2) := by decide +kernel
theorem dX12_keep_6 : decode cX12_keep 6 = .ok (.if_icmp .ne 46, 3) := by decide +kernel
theorem dX12_keep_9 : decode cX12_keep 9 = .ok (.bipush 32, 2) := by decide +kernel
theorem dX12_keep_11 : decode cX12_keep 11 = .ok (.istore_n 1, 1) := by decide +kernel
theorem dX12_keep_12 : decode cX12_keep 12 = .ok (.iload_n 1, 1) := by decide +kernel
theorem dX12_keep_13 : decode cX12_keep 13 = .ok (.aload_n 0, 1) := by decide +kernel
theorem dX12_keep_14 : decode cX12_keep 14 = .ok (.getfield 88, 3) := by decide +kernel
theorem dX12_keep_17 : decode cX12_keep 17 = .ok (.arraylength, 1) := by decide +kernel
theorem dX12_keep_18 : decode cX12_keep 18 = .ok (.if_icmp .ge 24, 3) := by decide +kernel
theorem dX12_keep_21 : decode cX12_keep 21 = .ok (.aload_n 0, 1) := by decide +kernel
theorem dX12_keep_22 : decode cX12_keep 22 = .ok (.getfield 88, 3) := by decide +kernel
theorem dX12_keep_25 : decode cX12_keep 25 = .ok (.iload_n 1, 1) := by decide +kernel
theorem dX12_keep_26 : decode cX12_keep 26 = .ok (.bipush 32, 2) := by decide +kernel
theorem dX12_keep_28 : decode cX12_keep 28 = .ok (.isub, 1) := by decide +kernel
theorem dX12_keep_29 : decode cX12_keep 29 = .ok (.aload_n 0, 1) := by decide +kernel
theorem dX12_keep_30 : decode cX12_keep 30 = .ok (.getfield 88, 3) := by decide +kernel
theorem dX12_keep_33 : decode cX12_keep 33 = .ok (.iload_n 1, 1) := by decide +kernel
theorem dX12_keep_34 : decode cX12_keep 34 = .ok (.iaload, 1) := by decide +kernel
theorem dX12_keep_35 : decode cX12_keep 35 = .ok (.iastore, 1) := by decide +kernel
theorem dX12_keep_36 : decode cX12_keep 36 = .ok (.iinc 1 1, 3) := by decide +kernel
theorem dX12_keep_39 : decode cX12_keep 39 = .ok (.goto (-27), 3) := by decide +kernel
theorem dX12_keep_42 : decode cX12_keep 42 = .ok (.aload_n 0, 1) := by decide +kernel
theorem dX12_keep_43 : decode cX12_keep 43 = .ok (.dup, 1) := by decide +kernel
theorem dX12_keep_44 : decode cX12_keep 44 = .ok (.getfield 308, 3) := by decide +kernel
theorem dX12_keep_47 : decode cX12_keep 47 = .ok (.iconst 1, 1) := by decide +kernel
theorem dX12_keep_48 : decode cX12_keep 48 = .ok (.isub, 1) := by decide +kernel
theorem dX12_keep_49 : decode cX12_keep 49 = .ok (.putfield 308, 3) := by decide +kernel
theorem dX12_keep_52 : decode cX12_keep 52 = .ok (.aload_n 0, 1) := by decide +kernel
theorem dX12_keep_53 : decode cX12_keep 53 = .ok (.aload_n 0, 1) := by decide +kernel
theorem dX12_keep_54 : decode cX12_keep 54 = .ok (.getfield 88, 3) := by decide +kernel
theorem dX12_keep_57 : decode cX12_keep 57 = .ok (.bipush 32, 2) := by decide +kernel
theorem dX12_keep_59 : decode cX12_keep 59 = .ok (.aload_n 0, 1) := by decide +kernel
theorem dX12_keep_60 : decode cX12_keep 60 = .ok (.getfield 308, 3) := by decide +kernel
theorem dX12_keep_63 : decode cX12_keep 63 = .ok (.imul, 1) := by decide +kernel
theorem dX12_keep_64 : decode cX12_keep 64 = .ok (.invokevirtual 382, 3) := by decide +kernel
theorem dX12_keep_67 : decode cX12_keep 67 = .ok (.aload_n 0, 1) := by decide +kernel
theorem dX12_keep_68 : decode cX12_keep 68 = .ok (.dup, 1) := by decide +kernel
theorem dX12_keep_69 : decode cX12_keep 69 = .ok (.getfield 308, 3) := by decide +kernel
theorem dX12_keep_72 : decode cX12_keep 72 = .ok (.iconst 1, 1) := by decide +kernel
theorem dX12_keep_73 : decode cX12_keep 73 = .ok (.iadd, 1) := by decide +kernel
theorem dX12_keep_74 : decode cX12_keep 74 = .ok (.putfield 308, 3) := by decide +kernel
theorem dX12_keep_77 : decode cX12_keep 77 = .ok (.return_, 1) := by decide +kernel
theorem dX12_take_0 : decode cX12_take 0 = .ok (.aload_n 0, 1) := by decide +kernel
theorem dX12_take_1 : decode cX12_take 1 = .ok (.iconst 0, 1) := by decide +kernel
theorem dX12_take_2 : decode cX12_take 2 = .ok (.putfield 159, 3) := by decide +kernel
theorem dX12_take_5 : decode cX12_take 5 = .ok (.aload_n 0, 1) := by decide +kernel
theorem dX12_take_6 : decode cX12_take 6 = .ok (.getfield 162, 3) := by decide +kernel
theorem dX12_take_9 : decode cX12_take 9 = .ok (.bipush 10, 2) := by decide +kernel
theorem dX12_take_11 : decode cX12_take 11 = .ok (.if_icmp .eq 56, 3) := by decide +kernel
theorem dX12_take_14 : decode cX12_take 14 = .ok (.iload_n 1, 1) := by decide +kernel
theorem dX12_take_15 : decode cX12_take 15 = .ok (.invokestatic 345, 3) := by decide +kernel
theorem dX12_take_18 : decode cX12_take 18 = .ok (.ifCond .eq 49, 3) := by decide +kernel
theorem dX12_take_21 : decode cX12_take 21 = .ok (.iload_n 1, 1) := by decide +kernel
theorem dX12_take_22 : decode cX12_take 22 = .ok (.ifCond .eq 45, 3) := by decide +kernel
theorem dX12_take_25 : decode cX12_take 25 = .ok (.iload_n 1, 1) := by decide +kernel
theorem dX12_take_26 : decode cX12_take 26 = .ok (.invokestatic 322, 3) := by decide +kernel
theorem dX12_take_29 : decode cX12_take 29 = .ok (.bipush 6, 2) := by decide +kernel
theorem dX12_take_31 : decode cX12_take 31 = .ok (.if_icmp .gt 36, 3) := by decide +kernel
theorem dX12_take_34 : decode cX12_take 34 = .ok (.aload_n 0, 1) := by decide +kernel
theorem dX12_take_35 : decode cX12_take 35 = .ok (.iload_n 1, 1) := by decide +kernel
theorem dX12_take_36 : decode cX12_take 36 = .ok (.invokevirtual 386, 3) := by decide +kernel
theorem dX12_take_39 : decode cX12_take 39 = .ok (.iconst (-1), 1) := by decide +kernel
theorem dX12_take_40 : decode cX12_take 40 = .ok (.if_icmp .ne 27, 3) := by decide +kernel
theorem dX12_take_43 : decode cX12_take 43 = .ok (.iload_n 2, 1) := by decide +kernel
theorem dX12_take_44 : decode cX12_take 44 = .ok (.i2l, 1) := by decide +kernel
theorem dX12_take_45 : decode cX12_take 45 = .ok (.lconst 0, 1) := by decide +kernel
theorem dX12_take_46 : decode cX12_take 46 = .ok (.ldc2_w 389, 3) := by decide +kernel
theorem dX12_take_49 : decode cX12_take 49 = .ok (.invokestatic 165, 3) := by decide +kernel
theorem dX12_take_52 : decode cX12_take 52 = .ok (.ifCond .eq 15, 3) := by decide +kernel
theorem dX12_take_55 : decode cX12_take 55 = .ok (.iload_n 3, 1) := by decide +kernel
theorem dX12_take_56 : decode cX12_take 56 = .ok (.i2l, 1) := by decide +kernel
theorem dX12_take_57 : decode cX12_take 57 = .ok (.lconst 0, 1) := by decide +kernel
theorem dX12_take_58 : decode cX12_take 58 = .ok (.ldc2_w 391, 3) := by decide +kernel
theorem dX12_take_61 : decode cX12_take 61 = .ok (.invokestatic 165, 3) := by decide +kernel
theorem dX12_take_64 : decode cX12_take 64 = .ok (.ifCond .ne 9, 3) := by decide +kernel
theorem dX12_take_67 : decode cX12_take 67 = .ok (.aload_n 0, 1) := by decide +kernel
theorem dX12_take_68 : decode cX12_take 68 = .ok (.iconst 1, 1) := by decide +kernel
theorem dX12_take_69 : decode cX12_take 69 = .ok (.invokevirtual 393, 3) := by decide +kernel
theorem dX12_take_72 : decode cX12_take 72 = .ok (.ireturn, 1) := by decide +kernel
theorem dX12_take_73 : decode cX12_take 73 = .ok (.aload_n 0, 1) := by decide +kernel
theorem dX12_take_74 : decode cX12_take 74 = .ok (.invokevirtual 396, 3) := by decide +kernel
theorem dX12_take_77 : decode cX12_take 77 = .ok (.aload_n 0, 1) := by decide +kernel
theorem dX12_take_78 : decode cX12_take 78 = .ok (.getfield 79, 3) := by decide +kernel
theorem dX12_take_81 : decode cX12_take 81 = .ok (.aload_n 0, 1) := by decide +kernel
theorem dX12_take_82 : decode cX12_take 82 = .ok (.getfield 162, 3) := by decide +kernel
theorem dX12_take_85 : decode cX12_take 85 = .ok (.iload_n 1, 1) := by decide +kernel
theorem dX12_take_86 : decode cX12_take 86 = .ok (.iastore, 1) := by decide +kernel
theorem dX12_take_87 : decode cX12_take 87 = .ok (.aload_n 0, 1) := by decide +kernel
theorem dX12_take_88 : decode cX12_take 88 = .ok (.getfield 82, 3) := by decide +kernel
theorem dX12_take_91 : decode cX12_take 91 = .ok (.aload_n 0, 1) := by decide +kernel
theorem dX12_take_92 : decode cX12_take 92 = .ok (.getfield 162, 3) := by decide +kernel
theorem dX12_take_95 : decode cX12_take 95 = .ok (.iload_n 2, 1) := by decide +kernel
theorem dX12_take_96 : decode cX12_take 96 = .ok (.iastore, 1) := by decide +kernel
theorem dX12_take_97 : decode cX12_take 97 = .ok (.aload_n 0, 1) := by decide +kernel
theorem dX12_take_98 : decode cX12_take 98 = .ok (.getfield 85, 3) := by decide +kernel
theorem dX12_take_101 : decode cX12_take 101 = .ok (.aload_n 0, 1) := by decide +kernel
theorem dX12_take_102 : decode cX12_take 102 = .ok (.getfield 162, 3) := by decide +kernel
theorem dX12_take_105 : decode cX12_take 105 = .ok (.iload_n 3, 1) := by decide +kernel
theorem dX12_take_106 : decode cX12_take 106 = .ok (.iastore, 1) := by decide +kernel
theorem dX12_take_107 : decode cX12_take 107 = .ok (.aload_n 0, 1) := by decide +kernel
theorem dX12_take_108 : decode cX12_take 108 = .ok (.dup, 1) := by decide +kernel
theorem dX12_take_109 : decode cX12_take 109 = .ok (.getfield 162, 3) := by decide +kernel
theorem dX12_take_112 : decode cX12_take 112 = .ok (.iconst 1, 1) := by decide +kernel
theorem dX12_take_113 : decode cX12_take 113 = .ok (.iadd, 1) := by decide +kernel
theorem dX12_take_114 : decode cX12_take 114 = .ok (.putfield 162, 3) := by decide +kernel
theorem dX12_take_117 : decode cX12_take 117 = .ok (.aload_n 0, 1) := by decide +kernel
theorem dX12_take_118 : decode cX12_take 118 = .ok (.getfield 162, 3) := by decide +kernel
theorem dX12_take_121 : decode cX12_take 121 = .ok (.iconst 1, 1) := by decide +kernel
theorem dX12_take_122 : decode cX12_take 122 = .ok (.isub, 1) := by decide +kernel
theorem dX12_take_123 : decode cX12_take 123 = .ok (.ireturn, 1) := by decide +kernel
theorem dX12_die_0 : decode cX12_die 0 = .ok (.aload_n 0, 1) := by decide +kernel
theorem dX12_die_1 : decode cX12_die 1 = .ok (.iconst 0, 1) := by decide +kernel
theorem dX12_die_2 : decode cX12_die 2 = .ok (.putfield 159, 3) := by decide +kernel
theorem dX12_die_5 : decode cX12_die 5 = .ok (.aload_n 0, 1) := by decide +kernel
theorem dX12_die_6 : decode cX12_die 6 = .ok (.iload_n 1, 1) := by decide +kernel
theorem dX12_die_7 : decode cX12_die 7 = .ok (.invokevirtual 331, 3) := by decide +kernel
theorem dX12_die_10 : decode cX12_die 10 = .ok (.ifCond .ne 9, 3) := by decide +kernel
theorem dX12_die_13 : decode cX12_die 13 = .ok (.aload_n 0, 1) := by decide +kernel
theorem dX12_die_14 : decode cX12_die 14 = .ok (.iconst 1, 1) := by decide +kernel
theorem dX12_die_15 : decode cX12_die 15 = .ok (.invokevirtual 292, 3) := by decide +kernel
theorem dX12_die_18 : decode cX12_die 18 = .ok (.ireturn, 1) := by decide +kernel
theorem dX12_die_19 : decode cX12_die 19 = .ok (.aload_n 0, 1) := by decide +kernel
theorem dX12_die_20 : decode cX12_die 20 = .ok (.invokevirtual 396, 3) := by decide +kernel
theorem dX12_die_23 : decode cX12_die 23 = .ok (.aload_n 0, 1) := by decide +kernel
theorem dX12_die_24 : decode cX12_die 24 = .ok (.getfield 79, 3) := by decide +kernel
theorem dX12_die_27 : decode cX12_die 27 = .ok (.iload_n 1, 1) := by decide +kernel
theorem dX12_die_28 : decode cX12_die 28 = .ok (.iaload, 1) := by decide +kernel
theorem dX12_die_29 : decode cX12_die 29 = .ok (.istore_n 2, 1) := by decide +kernel
theorem dX12_die_30 : decode cX12_die 30 = .ok (.aload_n 0, 1) := by decide +kernel
theorem dX12_die_31 : decode cX12_die 31 = .ok (.dup, 1) := by decide +kernel
theorem dX12_die_32 : decode cX12_die 32 = .ok (.getfield 162, 3) := by decide +kernel
theorem dX12_die_35 : decode cX12_die 35 = .ok (.iconst 1, 1) := by decide +kernel
theorem dX12_die_36 : decode cX12_die 36 = .ok (.isub, 1) := by decide +kernel
theorem dX12_die_37 : decode cX12_die 37 = .ok (.putfield 162, 3) := by decide +kernel
theorem dX12_die_40 : decode cX12_die 40 = .ok (.iload_n 1, 1) := by decide +kernel
theorem dX12_die_41 : decode cX12_die 41 = .ok (.istore_n 3, 1) := by decide +kernel
theorem dX12_die_42 : decode cX12_die 42 = .ok (.iload_n 3, 1) := by decide +kernel
theorem dX12_die_43 : decode cX12_die 43 = .ok (.aload_n 0, 1) := by decide +kernel
theorem dX12_die_44 : decode cX12_die 44 = .ok (.getfield 162, 3) := by decide +kernel
theorem dX12_die_47 : decode cX12_die 47 = .ok (.if_icmp .ge 51, 3) := by decide +kernel
theorem dX12_die_50 : decode cX12_die 50 = .ok (.aload_n 0, 1) := by decide +kernel
theorem dX12_die_51 : decode cX12_die 51 = .ok (.getfield 79, 3) := by decide +kernel
theorem dX12_die_54 : decode cX12_die 54 = .ok (.iload_n 3, 1) := by decide +kernel
theorem dX12_die_55 : decode cX12_die 55 = .ok (.aload_n 0, 1) := by decide +kernel
theorem dX12_die_56 : decode cX12_die 56 = .ok (.getfield 79, 3) := by decide +kernel
theorem dX12_die_59 : decode cX12_die 59 = .ok (.iload_n 3, 1) := by decide +kernel
theorem dX12_die_60 : decode cX12_die 60 = .ok (.iconst 1, 1) := by decide +kernel
theorem dX12_die_61 : decode cX12_die 61 = .ok (.iadd, 1) := by decide +kernel
theorem dX12_die_62 : decode cX12_die 62 = .ok (.iaload, 1) := by decide +kernel
theorem dX12_die_63 : decode cX12_die 63 = .ok (.iastore, 1) := by decide +kernel
theorem dX12_die_64 : decode cX12_die 64 = .ok (.aload_n 0, 1) := by decide +kernel
theorem dX12_die_65 : decode cX12_die 65 = .ok (.getfield 82, 3) := by decide +kernel
theorem dX12_die_68 : decode cX12_die 68 = .ok (.iload_n 3, 1) := by decide +kernel
theorem dX12_die_69 : decode cX12_die 69 = .ok (.aload_n 0, 1) := by decide +kernel
theorem dX12_die_70 : decode cX12_die 70 = .ok (.getfield 82, 3) := by decide +kernel
theorem dX12_die_73 : decode cX12_die 73 = .ok (.iload_n 3, 1) := by decide +kernel
theorem dX12_die_74 : decode cX12_die 74 = .ok (.iconst 1, 1) := by decide +kernel
theorem dX12_die_75 : decode cX12_die 75 = .ok (.iadd, 1) := by decide +kernel
theorem dX12_die_76 : decode cX12_die 76 = .ok (.iaload, 1) := by decide +kernel
theorem dX12_die_77 : decode cX12_die 77 = .ok (.iastore, 1) := by decide +kernel
theorem dX12_die_78 : decode cX12_die 78 = .ok (.aload_n 0, 1) := by decide +kernel
theorem dX12_die_79 : decode cX12_die 79 = .ok (.getfield 85, 3) := by decide +kernel
theorem dX12_die_82 : decode cX12_die 82 = .ok (.iload_n 3, 1) := by decide +kernel
theorem dX12_die_83 : decode cX12_die 83 = .ok (.aload_n 0, 1) := by decide +kernel
theorem dX12_die_84 : decode cX12_die 84 = .ok (.getfield 85, 3) := by decide +kernel
theorem dX12_die_87 : decode cX12_die 87 = .ok (.iload_n 3, 1) := by decide +kernel
theorem dX12_die_88 : decode cX12_die 88 = .ok (.iconst 1, 1) := by decide +kernel
theorem dX12_die_89 : decode cX12_die 89 = .ok (.iadd, 1) := by decide +kernel
theorem dX12_die_90 : decode cX12_die 90 = .ok (.iaload, 1) := by decide +kernel
theorem dX12_die_91 : decode cX12_die 91 = .ok (.iastore, 1) := by decide +kernel
theorem dX12_die_92 : decode cX12_die 92 = .ok (.iinc 3 1, 3) := by decide +kernel
theorem dX12_die_95 : decode cX12_die 95 = .ok (.goto (-53), 3) := by decide +kernel
theorem dX12_die_98 : decode cX12_die 98 = .ok (.iload_n 2, 1) := by decide +kernel
theorem dX12_die_99 : decode cX12_die 99 = .ok (.ireturn, 1) := by decide +kernel
def jn_MD_read_14 (n : Nat) (μ : kbM) : Option (Int64 × kbM) :=
  (f_MD_fail 1 μ).bind fun x1 =>
  some ((x1.1.toInt64, x1.2))
theorem jnR_MD_read_14 {l : Launch} (n : Nat)    (μ : kbM) {Q : kbQt} {P : Int64 × kbM → Prop} (hr : ∀ z : Int64 × kbM, P z → Q (some (.long z.1)) z.2) (h : kbG (jn_MD_read_14 n μ) P) : kbR l MX12_read 6 Q 14 [some (.ref 57), none, none, none] [] μ := by
  unfold jn_MD_read_14 at h
  refine r_aload_n dX12_read_14 rfl ?_
  refine r_iconst 1 dX12_read_15 (by decide) ?_
  obtain ⟨x1, hx0, h⟩ := kbG_bind h
  refine r_invV_i cvX12_292 sh57 rfl (sp_MD_fail 1 μ hx0) rfl rfl (Nat.le_of_ble_eq_true rfl) (Nat.le_of_ble_eq_true rfl) dX12_read_16 ?_
  refine r_i2l dX12_read_19 ?_
  exact r_lret rfl dX12_read_20 (hr ((x1.1.toInt64, x1.2)) (kbG_some h))
def jn_MD_read_65 (n : Nat) (w0 : Int64) (μ : kbM) : Option (Int64 × kbM) :=
  some ((w0, μ))
theorem jnR_MD_read_65 {l : Launch} (n : Nat)   (w0 : Int64) (μ : kbM) {Q : kbQt} {P : Int64 × kbM → Prop} (hr : ∀ z : Int64 × kbM, P z → Q (some (.long z.1)) z.2) (h : kbG (jn_MD_read_65 n w0 μ) P) : kbR l MX12_read 6 Q 65 [none, none, none, none] [.long w0] μ := by
  unfold jn_MD_read_65 at h
  exact r_lret rfl dX12_read_65 (hr ((w0, μ)) (kbG_some h))
def f_MD_read (n : Nat) (a1 : Int32) (a2 : Int32) (μ : kbM) : Option (Int64 × kbM) :=
  if a2 < 0 then
    jn_MD_read_14 n (kbW μ 57 3 0)
  else
    if a2 ≤ 1 then
      (f_MD_isRow n a1).bind fun x2 =>
      if x2 = 0 then
        (f_MD_fail 2 (kbW μ 57 3 0)).bind fun x4 =>
        some ((x4.1.toInt64, x4.2))
      else
        (f_MD_fewest n a1 (kbW μ 57 3 0)).bind fun x3 =>
        if x3.1 = 0 then
          jn_MD_read_65 n 0 x3.2
        else
          if a2 = 0 then
            jn_MD_read_65 n (x3.2.2 80 10) x3.2
          else
            jn_MD_read_65 n x3.1.toInt64 x3.2
    else
      jn_MD_read_14 n (kbW μ 57 3 0)
theorem sp_MD_read {l : Launch} (n : Nat) (a1 : Int32) (a2 : Int32) (μ : kbM)  {x : Int64 × kbM} (h : f_MD_read n a1 a2 μ = some x) : kbS l MX12_read 6 [.ref 57, .int a1, .int a2] μ (kbQe (some (.long x.1)) x.2) := by
  refine kb_enter 1 rfl rfl ?_
  suffices H : ∀ (Q : kbQt) (P : Int64 × kbM → Prop), (∀ z : Int64 × kbM, P z → Q (some (.long z.1)) z.2) → kbG (f_MD_read n a1 a2 μ) P → kbR l MX12_read 6 Q 0 [some (.ref 57), some (.int a1), some (.int a2), none] [] μ from H _ (fun z => z = x) (fun z e => by subst e; exact ⟨rfl, rfl⟩) ⟨x, h, rfl⟩
  clear h
  intro Q P hr h
  unfold f_MD_read at h
  refine r_aload_n dX12_read_0 rfl ?_
  refine r_iconst 0 dX12_read_1 (by decide) ?_
  refine r_put flX12_159 sh57 rfl rfl rfl dX12_read_2 ?_
  refine r_iload_n dX12_read_5 rfl ?_
  refine r_if_lt 14 dX12_read_6 (by decide) (fun hc => ?_) (fun hc => ?_)
  · replace h := kbG_t hc h
    refine r_le [some (.ref 57), none, none, none] ⟨rfl, trivial⟩ ?_
    exact jnR_MD_read_14 n  (kbW μ 57 3 0) (hr := hr) h
  · replace h := kbG_f hc h
    refine r_iload_n dX12_read_9 rfl ?_
    refine r_iconst 1 dX12_read_10 (by decide) ?_
    refine r_icmp_le 21 dX12_read_11 (by decide) (fun hc => ?_) (fun hc => ?_)
    · replace h := kbG_t hc h
      refine r_iload_n dX12_read_21 rfl ?_
      obtain ⟨x2, hx0, h⟩ := kbG_bind h
      refine r_inv_i csX12_345 (sp_MD_isRow n a1 (kbW μ 57 3 0) hx0) rfl rfl (Nat.le_of_ble_eq_true rfl) (Nat.le_of_ble_eq_true rfl) dX12_read_22 ?_
      refine r_if_ne 35 dX12_read_25 (by decide) (fun hc => ?_) (fun hc => ?_)
      · replace h := kbG_f hc h
        refine r_aload_n dX12_read_35 rfl ?_
        refine r_iload_n dX12_read_36 rfl ?_
        obtain ⟨x3, hx0, h⟩ := kbG_bind h
        refine r_invV_i cvX12_369 sh57 rfl (sp_MD_fewest n a1 (kbW μ 57 3 0) hx0) rfl rfl (Nat.le_of_ble_eq_true rfl) (Nat.le_of_ble_eq_true rfl) dX12_read_37 ?_
        refine r_istore_n dX12_read_40 (Nat.le_of_ble_eq_true rfl) rfl ?_
        refine r_iload_n dX12_read_41 rfl ?_
        refine r_if_ne 49 dX12_read_42 (by decide) (fun hc => ?_) (fun hc => ?_)
        · replace h := kbG_f hc h
          refine r_iload_n dX12_read_49 rfl ?_
          refine r_if_ne 63 dX12_read_50 (by decide) (fun hc => ?_) (fun hc => ?_)
          · replace h := kbG_f hc h
            refine r_iload_n dX12_read_63 rfl ?_
            refine r_i2l dX12_read_64 ?_
            refine r_le [none, none, none, none] trivial ?_
            exact jnR_MD_read_65 n x3.1.toInt64 x3.2 (hr := hr) h
          · replace h := kbG_t hc h
            refine r_aload_n dX12_read_53 rfl ?_
            refine r_getR flX12_109 sh57 rfl dX12_read_54 ?_
            refine r_bipush 10 dX12_read_57 (by decide) ?_
            have hin : vp_in 10 143 := kbIn_of (by decide)
            refine q_lald 10 (by decide) sh80 hin dX12_read_59 ?_
            refine r_goto 65 dX12_read_60 (by decide) ?_
            refine r_le [none, none, none, none] trivial ?_
            exact jnR_MD_read_65 n (x3.2.2 80 10) x3.2 (hr := hr) h
        · replace h := kbG_t hc h
          refine r_lconst 0 dX12_read_45 (by decide) ?_
          refine r_goto 65 dX12_read_46 (by decide) ?_
          refine r_le [none, none, none, none] trivial ?_
          exact jnR_MD_read_65 n 0 x3.2 (hr := hr) h
      · replace h := kbG_t hc h
        refine r_aload_n dX12_read_28 rfl ?_
        refine r_iconst 2 dX12_read_29 (by decide) ?_
        obtain ⟨x4, hx0, h⟩ := kbG_bind h
        refine r_invV_i cvX12_292 sh57 rfl (sp_MD_fail 2 (kbW μ 57 3 0) hx0) rfl rfl (Nat.le_of_ble_eq_true rfl) (Nat.le_of_ble_eq_true rfl) dX12_read_30 ?_
        refine r_i2l dX12_read_33 ?_
        exact r_lret rfl dX12_read_34 (hr ((x4.1.toInt64, x4.2)) (kbG_some h))
    · replace h := kbG_f hc h
      refine r_le [some (.ref 57), none, none, none] ⟨rfl, trivial⟩ ?_
      exact jnR_MD_read_14 n  (kbW μ 57 3 0) (hr := hr) h
def jn_MD_reading_135 (n : Nat) (rec : Int32 → Int32 → kbM → Option (Int32 × kbM)) (v2 : Int32) (v3 : Int32) (v4 : Int32) (v5 : Int32) (v6 : Int32) (v7 : Int32) (v8 : Int32) (μ : kbM) : Option (Int32 × kbM) :=
  rec v7 (v8 + 1) μ
theorem jnR_MD_reading_135 {l : Launch} (n : Nat)   (v2 : Int32) (v3 : Int32) (v4 : Int32) (v5 : Int32) (v6 : Int32) (v7 : Int32) (v8 : Int32) (μ : kbM) {Q : kbQt} {P : Int32 × kbM → Prop} (hx : ∀ z : Int32 × kbM, P (z) → kbR l MX12_reading 6 Q 141 [some (.ref 57), none, some (.int v2), some (.int v3), some (.int v4), none, some (.int v6), some (.int z.1), none] [] z.2) {rec : Int32 → Int32 → kbM → Option (Int32 × kbM)} (hrec : ∀ (v7 : Int32) (v8 : Int32) (μ : kbM), kbG (rec v7 v8 μ) P → kbR l MX12_reading 6 Q 64 [some (.ref 57), none, some (.int v2), some (.int v3), some (.int v4), some (.int v5), some (.int v6), some (.int v7), some (.int v8)] [] μ) (h : kbG (jn_MD_reading_135 n rec v2 v3 v4 v5 v6 v7 v8 μ) P) : kbR l MX12_reading 6 Q 135 [some (.ref 57), none, some (.int v2), some (.int v3), some (.int v4), some (.int v5), some (.int v6), some (.int v7), some (.int v8)] [] μ := by
  unfold jn_MD_reading_135 at h
  refine r_iinc 1 dX12_reading_135 rfl (by decide) (Nat.le_of_ble_eq_true rfl) rfl ?_
  refine r_goto 64 dX12_reading_138 (by decide) ?_
  refine r_le [some (.ref 57), none, some (.int v2), some (.int v3), some (.int v4), some (.int v5), some (.int v6), some (.int v7), some (.int (v8 + 1))] ⟨rfl, ⟨rfl, ⟨rfl, ⟨rfl, ⟨rfl, ⟨rfl, ⟨rfl, ⟨rfl, trivial⟩⟩⟩⟩⟩⟩⟩⟩ ?_
  exact hrec v7 (v8 + 1) μ h
def lp_MD_reading_64 (n : Nat) (v2 : Int32) (v3 : Int32) (v4 : Int32) (v5 : Int32) (v6 : Int32) : Nat → Int32 → Int32 → kbM → Option (Int32 × kbM)
  | 0, _, _, _ => none
  | k + 1, v7, v8, μ =>
    if (μ.1 57 27) ≤ v8 then
      some ((v7, μ))
    else
      if v7 = (-1) then
        (f_MD_standsAt n v8 v4 μ).bind fun x4 =>
        if x4 = 0 then
          jn_MD_reading_135 n (lp_MD_reading_64 n v2 v3 v4 v5 v6 k) v2 v3 v4 v5 v6 v7 v8 μ
        else
          (f_MD_joins n v5 v8 μ).bind fun x5 =>
          if x5.1 = 0 then
            jn_MD_reading_135 n (lp_MD_reading_64 n v2 v3 v4 v5 v6 k) v2 v3 v4 v5 v6 v7 v8 x5.2
          else
            kbIf (kbIn v8 10) <|
            kbIf (kbIn ((11 * (v4 + (x5.2.1 79 v8.toNatClampNeg))) + v8) 143) <|
            if (x5.2.1 77 (((11 * (v4 + (x5.2.1 79 v8.toNatClampNeg))) + v8).toNatClampNeg)) = ((v3 - v6) - 1) then
              jn_MD_reading_135 n (lp_MD_reading_64 n v2 v3 v4 v5 v6 k) v2 v3 v4 v5 v6 v8 v8 x5.2
            else
              jn_MD_reading_135 n (lp_MD_reading_64 n v2 v3 v4 v5 v6 k) v2 v3 v4 v5 v6 v7 v8 x5.2
      else
        some ((v7, μ))
theorem lpR_MD_reading_64 {l : Launch} (n : Nat) (v2 : Int32) (v3 : Int32) (v4 : Int32) (v5 : Int32) (v6 : Int32)  {Q : kbQt} {P : Int32 × kbM → Prop} (hx : ∀ z : Int32 × kbM, P (z) → kbR l MX12_reading 6 Q 141 [some (.ref 57), none, some (.int v2), some (.int v3), some (.int v4), none, some (.int v6), some (.int z.1), none] [] z.2) : ∀ (k : Nat) (v7 : Int32) (v8 : Int32) (μ : kbM), kbG (lp_MD_reading_64 n v2 v3 v4 v5 v6 k v7 v8 μ) P → kbR l MX12_reading 6 Q 64 [some (.ref 57), none, some (.int v2), some (.int v3), some (.int v4), some (.int v5), some (.int v6), some (.int v7), some (.int v8)] [] μ := by
  intro k
  induction k with
  | zero => intro v7 v8 μ h; exact absurd h kbG_none
  | succ k ih =>
    intro v7 v8 μ h
    unfold lp_MD_reading_64 at h
    refine r_iload dX12_reading_64 rfl ?_
    refine r_aload_n dX12_reading_66 rfl ?_
    refine r_getI flX12_162 sh57 rfl dX12_reading_67 ?_
    refine r_icmp_ge 141 dX12_reading_70 (by decide) (fun hc => ?_) (fun hc => ?_)
    · replace h := kbG_t hc h
      refine r_le [some (.ref 57), none, some (.int v2), some (.int v3), some (.int v4), none, some (.int v6), some (.int v7), none] ⟨rfl, ⟨rfl, ⟨rfl, ⟨rfl, ⟨rfl, ⟨rfl, trivial⟩⟩⟩⟩⟩⟩ ?_
      exact hx ((v7, μ)) (kbG_some h)
    · replace h := kbG_f hc h
      refine r_iload dX12_reading_73 rfl ?_
      refine r_iconst (-1) dX12_reading_75 (by decide) ?_
      refine r_icmp_ne 141 dX12_reading_76 (by decide) (fun hc => ?_) (fun hc => ?_)
      · replace h := kbG_f hc h
        refine r_le [some (.ref 57), none, some (.int v2), some (.int v3), some (.int v4), none, some (.int v6), some (.int v7), none] ⟨rfl, ⟨rfl, ⟨rfl, ⟨rfl, ⟨rfl, ⟨rfl, trivial⟩⟩⟩⟩⟩⟩ ?_
        exact hx ((v7, μ)) (kbG_some h)
      · replace h := kbG_t hc h
        refine r_aload_n dX12_reading_79 rfl ?_
        refine r_iload dX12_reading_80 rfl ?_
        refine r_iload dX12_reading_82 rfl ?_
        obtain ⟨x4, hx0, h⟩ := kbG_bind h
        refine r_invV_i cvX12_361 sh57 rfl (sp_MD_standsAt n v8 v4 μ hx0) rfl rfl (Nat.le_of_ble_eq_true rfl) (Nat.le_of_ble_eq_true rfl) dX12_reading_84 ?_
        refine r_if_eq 135 dX12_reading_87 (by decide) (fun hc => ?_) (fun hc => ?_)
        · replace h := kbG_t hc h
          refine r_le [some (.ref 57), none, some (.int v2), some (.int v3), some (.int v4), some (.int v5), some (.int v6), some (.int v7), some (.int v8)] ⟨rfl, ⟨rfl, ⟨rfl, ⟨rfl, ⟨rfl, ⟨rfl, ⟨rfl, ⟨rfl, trivial⟩⟩⟩⟩⟩⟩⟩⟩ ?_
          exact jnR_MD_reading_135 n v2 v3 v4 v5 v6 v7 v8 μ (hx := hx) (hrec := ih) h
        · replace h := kbG_f hc h
          refine r_aload_n dX12_reading_90 rfl ?_
          refine r_iload dX12_reading_91 rfl ?_
          refine r_iload dX12_reading_93 rfl ?_
          obtain ⟨x5, hx0, h⟩ := kbG_bind h
          refine r_invV_i cvX12_364 sh57 rfl (sp_MD_joins n v5 v8 μ hx0) rfl rfl (Nat.le_of_ble_eq_true rfl) (Nat.le_of_ble_eq_true rfl) dX12_reading_95 ?_
          refine r_if_eq 135 dX12_reading_98 (by decide) (fun hc => ?_) (fun hc => ?_)
          · replace h := kbG_t hc h
            refine r_le [some (.ref 57), none, some (.int v2), some (.int v3), some (.int v4), some (.int v5), some (.int v6), some (.int v7), some (.int v8)] ⟨rfl, ⟨rfl, ⟨rfl, ⟨rfl, ⟨rfl, ⟨rfl, ⟨rfl, ⟨rfl, trivial⟩⟩⟩⟩⟩⟩⟩⟩ ?_
            exact jnR_MD_reading_135 n v2 v3 v4 v5 v6 v7 v8 x5.2 (hx := hx) (hrec := ih) h
          · replace h := kbG_f hc h
            refine r_aload_n dX12_reading_101 rfl ?_
            refine r_getR flX12_100 sh57 rfl dX12_reading_102 ?_
            refine r_bipush 11 dX12_reading_105 (by decide) ?_
            refine r_iload dX12_reading_107 rfl ?_
            refine r_aload_n dX12_reading_109 rfl ?_
            refine r_getR flX12_106 sh57 rfl dX12_reading_110 ?_
            refine r_iload dX12_reading_113 rfl ?_
            obtain ⟨hin, h⟩ := kbG_if h
            replace hin := kbIn_of hin
            refine q_iald v8.toNatClampNeg rfl sh79 hin dX12_reading_115 ?_
            refine r_iadd dX12_reading_116 ?_
            refine r_imul dX12_reading_117 ?_
            refine r_iload dX12_reading_118 rfl ?_
            refine r_iadd dX12_reading_120 ?_
            obtain ⟨hin, h⟩ := kbG_if h
            replace hin := kbIn_of hin
            refine q_iald (((11 * (v4 + (x5.2.1 79 v8.toNatClampNeg))) + v8).toNatClampNeg) rfl sh77 hin dX12_reading_121 ?_
            refine r_iload_n dX12_reading_122 rfl ?_
            refine r_iload dX12_reading_123 rfl ?_
            refine r_isub dX12_reading_125 ?_
            refine r_iconst 1 dX12_reading_126 (by decide) ?_
            refine r_isub dX12_reading_127 ?_
            refine r_icmp_ne 135 dX12_reading_128 (by decide) (fun hc => ?_) (fun hc => ?_)
            · replace h := kbG_f hc h
              refine r_le [some (.ref 57), none, some (.int v2), some (.int v3), some (.int v4), some (.int v5), some (.int v6), some (.int v7), some (.int v8)] ⟨rfl, ⟨rfl, ⟨rfl, ⟨rfl, ⟨rfl, ⟨rfl, ⟨rfl, ⟨rfl, trivial⟩⟩⟩⟩⟩⟩⟩⟩ ?_
              exact jnR_MD_reading_135 n v2 v3 v4 v5 v6 v7 v8 x5.2 (hx := hx) (hrec := ih) h
            · replace h := kbG_t hc h
              refine r_iload dX12_reading_131 rfl ?_
              refine r_istore dX12_reading_133 (Nat.le_of_ble_eq_true rfl) rfl ?_
              refine r_le [some (.ref 57), none, some (.int v2), some (.int v3), some (.int v4), some (.int v5), some (.int v6), some (.int v8), some (.int v8)] ⟨rfl, ⟨rfl, ⟨rfl, ⟨rfl, ⟨rfl, ⟨rfl, ⟨rfl, ⟨rfl, trivial⟩⟩⟩⟩⟩⟩⟩⟩ ?_
              exact jnR_MD_reading_135 n v2 v3 v4 v5 v6 v8 v8 x5.2 (hx := hx) (hrec := ih) h
def jn_MD_reading_141 (n : Nat) (rec : Int32 → Int32 → Int32 → kbM → Option (Int32 × kbM)) (v2 : Int32) (v3 : Int32) (v4 : Int32) (v6 : Int32) (v7 : Int32) (μ : kbM) : Option (Int32 × kbM) :=
  kbIf (kbIn v7 10) <|
  rec (v4 + (μ.1 79 v7.toNatClampNeg)) v7 (v6 + 1) μ
theorem jnR_MD_reading_141 {l : Launch} (n : Nat)   (v2 : Int32) (v3 : Int32) (v4 : Int32) (v6 : Int32) (v7 : Int32) (μ : kbM) {Q : kbQt} {P : Int32 × kbM → Prop} (hx : ∀ z : Int32 × kbM, P (z) → kbR l MX12_reading 6 Q 163 [none, none, none, none, none, some (.int z.1), none, none, none] [] z.2) {rec : Int32 → Int32 → Int32 → kbM → Option (Int32 × kbM)} (hrec : ∀ (v4 : Int32) (v5 : Int32) (v6 : Int32) (μ : kbM), kbG (rec v4 v5 v6 μ) P → kbR l MX12_reading 6 Q 52 [some (.ref 57), none, some (.int v2), some (.int v3), some (.int v4), some (.int v5), some (.int v6), none, none] [] μ) (h : kbG (jn_MD_reading_141 n rec v2 v3 v4 v6 v7 μ) P) : kbR l MX12_reading 6 Q 141 [some (.ref 57), none, some (.int v2), some (.int v3), some (.int v4), none, some (.int v6), some (.int v7), none] [] μ := by
  unfold jn_MD_reading_141 at h
  refine r_iload dX12_reading_141 rfl ?_
  refine r_aload_n dX12_reading_143 rfl ?_
  refine r_getR flX12_106 sh57 rfl dX12_reading_144 ?_
  refine r_iload dX12_reading_147 rfl ?_
  obtain ⟨hin, h⟩ := kbG_if h
  replace hin := kbIn_of hin
  refine q_iald v7.toNatClampNeg rfl sh79 hin dX12_reading_149 ?_
  refine r_iadd dX12_reading_150 ?_
  refine r_istore dX12_reading_151 (Nat.le_of_ble_eq_true rfl) rfl ?_
  refine r_iload dX12_reading_153 rfl ?_
  refine r_istore dX12_reading_155 (Nat.le_of_ble_eq_true rfl) rfl ?_
  refine r_iinc 1 dX12_reading_157 rfl (by decide) (Nat.le_of_ble_eq_true rfl) rfl ?_
  refine r_goto 52 dX12_reading_160 (by decide) ?_
  refine r_le [some (.ref 57), none, some (.int v2), some (.int v3), some (.int (v4 + (μ.1 79 v7.toNatClampNeg))), some (.int v7), some (.int (v6 + 1)), none, none] ⟨rfl, ⟨rfl, ⟨rfl, ⟨rfl, ⟨rfl, ⟨rfl, trivial⟩⟩⟩⟩⟩⟩ ?_
  exact hrec (v4 + (μ.1 79 v7.toNatClampNeg)) v7 (v6 + 1) μ h
def lp_MD_reading_52 (n : Nat) (v2 : Int32) (v3 : Int32) : Nat → Int32 → Int32 → Int32 → kbM → Option (Int32 × kbM)
  | 0, _, _, _, _ => none
  | k + 1, v4, v5, v6, μ =>
    if v2 < v6 then
      some ((v5, μ))
    else
      (lp_MD_reading_64 n v2 v3 v4 v5 v6 n (-1) 0 μ).bind fun x6 =>
      jn_MD_reading_141 n (lp_MD_reading_52 n v2 v3 k) v2 v3 v4 v6 x6.1 x6.2
theorem lpR_MD_reading_52 {l : Launch} (n : Nat) (v2 : Int32) (v3 : Int32)  {Q : kbQt} {P : Int32 × kbM → Prop} (hx : ∀ z : Int32 × kbM, P (z) → kbR l MX12_reading 6 Q 163 [none, none, none, none, none, some (.int z.1), none, none, none] [] z.2) : ∀ (k : Nat) (v4 : Int32) (v5 : Int32) (v6 : Int32) (μ : kbM), kbG (lp_MD_reading_52 n v2 v3 k v4 v5 v6 μ) P → kbR l MX12_reading 6 Q 52 [some (.ref 57), none, some (.int v2), some (.int v3), some (.int v4), some (.int v5), some (.int v6), none, none] [] μ := by
  intro k
  induction k with
  | zero => intro v4 v5 v6 μ h; exact absurd h kbG_none
  | succ k ih =>
    intro v4 v5 v6 μ h
    unfold lp_MD_reading_52 at h
    refine r_iload dX12_reading_52 rfl ?_
    refine r_iload_n dX12_reading_54 rfl ?_
    refine r_icmp_gt 163 dX12_reading_55 (by decide) (fun hc => ?_) (fun hc => ?_)
    · replace h := kbG_t hc h
      refine r_le [none, none, none, none, none, some (.int v5), none, none, none] ⟨rfl, trivial⟩ ?_
      exact hx ((v5, μ)) (kbG_some h)
    · replace h := kbG_f hc h
      refine r_iconst (-1) dX12_reading_58 (by decide) ?_
      refine r_istore dX12_reading_59 (Nat.le_of_ble_eq_true rfl) rfl ?_
      refine r_iconst 0 dX12_reading_61 (by decide) ?_
      refine r_istore dX12_reading_62 (Nat.le_of_ble_eq_true rfl) rfl ?_
      refine r_le [some (.ref 57), none, some (.int v2), some (.int v3), some (.int v4), some (.int v5), some (.int v6), some (.int (-1)), some (.int 0)] ⟨rfl, ⟨rfl, ⟨rfl, ⟨rfl, ⟨rfl, ⟨rfl, ⟨rfl, ⟨rfl, trivial⟩⟩⟩⟩⟩⟩⟩⟩ ?_
      obtain ⟨x6, hx0, h⟩ := kbG_bind h
      refine lpR_MD_reading_64 n v2 v3 v4 v5 v6 (P := fun z => x6 = z) (hx := fun z e => ?_) n _ _ _ ⟨_, hx0, rfl⟩
      subst e
      refine r_le [some (.ref 57), none, some (.int v2), some (.int v3), some (.int v4), none, some (.int v6), some (.int x6.1), none] ⟨rfl, ⟨rfl, ⟨rfl, ⟨rfl, ⟨rfl, ⟨rfl, trivial⟩⟩⟩⟩⟩⟩ ?_
      exact jnR_MD_reading_141 n v2 v3 v4 v6 x6.1 x6.2 (hx := hx) (hrec := ih) h
def f_MD_reading (n : Nat) (a1 : Int32) (a2 : Int32) (μ : kbM) : Option (Int32 × kbM) :=
  (f_MD_isRow n a1).bind fun x1 =>
  if x1 = 0 then
    (f_MD_fail 1 (kbW μ 57 3 0)).bind fun x9 =>
    some ((x9.1, x9.2))
  else
    (f_MD_fewest n a1 (kbW μ 57 3 0)).bind fun x2 =>
    (f_MD_isIn a2.toInt64 0 ((x2.1 - 1).toInt64)).bind fun x3 =>
    if x3 = 0 then
      (f_MD_fail 2 x2.2).bind fun x8 =>
      some ((x8.1, x8.2))
    else
      (lp_MD_reading_52 n a2 x2.1 n 0 (-1) 0 x2.2).bind fun x7 =>
      some ((x7.1, x7.2))
theorem sp_MD_reading {l : Launch} (n : Nat) (a1 : Int32) (a2 : Int32) (μ : kbM)  {x : Int32 × kbM} (h : f_MD_reading n a1 a2 μ = some x) : kbS l MX12_reading 6 [.ref 57, .int a1, .int a2] μ (kbQe (some (.int x.1)) x.2) := by
  refine kb_enter 6 rfl rfl ?_
  suffices H : ∀ (Q : kbQt) (P : Int32 × kbM → Prop), (∀ z : Int32 × kbM, P z → Q (some (.int z.1)) z.2) → kbG (f_MD_reading n a1 a2 μ) P → kbR l MX12_reading 6 Q 0 [some (.ref 57), some (.int a1), some (.int a2), none, none, none, none, none, none] [] μ from H _ (fun z => z = x) (fun z e => by subst e; exact ⟨rfl, rfl⟩) ⟨x, h, rfl⟩
  clear h
  intro Q P hr h
  unfold f_MD_reading at h
  refine r_aload_n dX12_reading_0 rfl ?_
  refine r_iconst 0 dX12_reading_1 (by decide) ?_
  refine r_put flX12_159 sh57 rfl rfl rfl dX12_reading_2 ?_
  refine r_iload_n dX12_reading_5 rfl ?_
  obtain ⟨x1, hx0, h⟩ := kbG_bind h
  refine r_inv_i csX12_345 (sp_MD_isRow n a1 (kbW μ 57 3 0) hx0) rfl rfl (Nat.le_of_ble_eq_true rfl) (Nat.le_of_ble_eq_true rfl) dX12_reading_6 ?_
  refine r_if_ne 18 dX12_reading_9 (by decide) (fun hc => ?_) (fun hc => ?_)
  · replace h := kbG_f hc h
    refine r_aload_n dX12_reading_18 rfl ?_
    refine r_iload_n dX12_reading_19 rfl ?_
    obtain ⟨x2, hx0, h⟩ := kbG_bind h
    refine r_invV_i cvX12_369 sh57 rfl (sp_MD_fewest n a1 (kbW μ 57 3 0) hx0) rfl rfl (Nat.le_of_ble_eq_true rfl) (Nat.le_of_ble_eq_true rfl) dX12_reading_20 ?_
    refine r_istore_n dX12_reading_23 (Nat.le_of_ble_eq_true rfl) rfl ?_
    refine r_iload_n dX12_reading_24 rfl ?_
    refine r_i2l dX12_reading_25 ?_
    refine r_lconst 0 dX12_reading_26 (by decide) ?_
    refine r_iload_n dX12_reading_27 rfl ?_
    refine r_iconst 1 dX12_reading_28 (by decide) ?_
    refine r_isub dX12_reading_29 ?_
    refine r_i2l dX12_reading_30 ?_
    obtain ⟨x3, hx0, h⟩ := kbG_bind h
    refine r_inv_i csX12_165 (sp_MD_isIn a2.toInt64 0 ((x2.1 - 1).toInt64) x2.2 hx0) rfl rfl (Nat.le_of_ble_eq_true rfl) (Nat.le_of_ble_eq_true rfl) dX12_reading_31 ?_
    refine r_if_ne 43 dX12_reading_34 (by decide) (fun hc => ?_) (fun hc => ?_)
    · replace h := kbG_f hc h
      refine r_iconst 0 dX12_reading_43 (by decide) ?_
      refine r_istore dX12_reading_44 (Nat.le_of_ble_eq_true rfl) rfl ?_
      refine r_iconst (-1) dX12_reading_46 (by decide) ?_
      refine r_istore dX12_reading_47 (Nat.le_of_ble_eq_true rfl) rfl ?_
      refine r_iconst 0 dX12_reading_49 (by decide) ?_
      refine r_istore dX12_reading_50 (Nat.le_of_ble_eq_true rfl) rfl ?_
      refine r_le [some (.ref 57), none, some (.int a2), some (.int x2.1), some (.int 0), some (.int (-1)), some (.int 0), none, none] ⟨rfl, ⟨rfl, ⟨rfl, ⟨rfl, ⟨rfl, ⟨rfl, trivial⟩⟩⟩⟩⟩⟩ ?_
      obtain ⟨x7, hx0, h⟩ := kbG_bind h
      refine lpR_MD_reading_52 n a2 x2.1 (P := fun z => x7 = z) (hx := fun z e => ?_) n _ _ _ _ ⟨_, hx0, rfl⟩
      subst e
      refine r_iload dX12_reading_163 rfl ?_
      exact r_iret rfl dX12_reading_165 (hr ((x7.1, x7.2)) (kbG_some h))
    · replace h := kbG_t hc h
      refine r_aload_n dX12_reading_37 rfl ?_
      refine r_iconst 2 dX12_reading_38 (by decide) ?_
      obtain ⟨x8, hx0, h⟩ := kbG_bind h
      refine r_invV_i cvX12_292 sh57 rfl (sp_MD_fail 2 x2.2 hx0) rfl rfl (Nat.le_of_ble_eq_true rfl) (Nat.le_of_ble_eq_true rfl) dX12_reading_39 ?_
      exact r_iret rfl dX12_reading_42 (hr ((x8.1, x8.2)) (kbG_some h))
  · replace h := kbG_t hc h
    refine r_aload_n dX12_reading_12 rfl ?_
    refine r_iconst 1 dX12_reading_13 (by decide) ?_
    obtain ⟨x9, hx0, h⟩ := kbG_bind h
    refine r_invV_i cvX12_292 sh57 rfl (sp_MD_fail 1 (kbW μ 57 3 0) hx0) rfl rfl (Nat.le_of_ble_eq_true rfl) (Nat.le_of_ble_eq_true rfl) dX12_reading_14 ?_
    exact r_iret rfl dX12_reading_17 (hr ((x9.1, x9.2)) (kbG_some h))
def lp_MD_tellRow_82_12 (n : Nat) (v2 : Int32) : Nat → Int32 → Int32 → kbM → Option (kbM)
  | 0, _, _, _ => none
  | k + 1, v3, v4, μ =>
    if v4 < 0 then
      some μ
    else
      kbIf (kbIn v4 12) <|
      lp_MD_tellRow_82_12 n v2 k (v3 / 5) (v4 + (-1)) (kbW μ 82 v4.toNatClampNeg (kbRem v3 5))
theorem lpR_MD_tellRow_82_12 {l : Launch} (n : Nat) (v2 : Int32)  {Q : kbQt} {P : kbM → Prop} (hx : ∀ z : kbM, P (z) → kbR l MX12_tellRow 2 Q 34 [none, none, some (.int v2), none, none] [] z) : ∀ (k : Nat) (v3 : Int32) (v4 : Int32) (μ : kbM), kbG (lp_MD_tellRow_82_12 n v2 k v3 v4 μ) P → kbR l MX12_tellRow 2 Q 12 [none, some (.ref 82), some (.int v2), some (.int v3), some (.int v4)] [] μ := by
  intro k
  induction k with
  | zero => intro v3 v4 μ h; exact absurd h kbG_none
  | succ k ih =>
    intro v3 v4 μ h
    unfold lp_MD_tellRow_82_12 at h
    refine r_iload dX12_tellRow_12 rfl ?_
    refine r_if_lt 34 dX12_tellRow_14 (by decide) (fun hc => ?_) (fun hc => ?_)
    · replace h := kbG_t hc h
      refine r_le [none, none, some (.int v2), none, none] ⟨rfl, trivial⟩ ?_
      exact hx μ (kbG_some h)
    · replace h := kbG_f hc h
      refine r_aload_n dX12_tellRow_17 rfl ?_
      refine r_iload dX12_tellRow_18 rfl ?_
      refine r_iload_n dX12_tellRow_20 rfl ?_
      refine r_iconst 5 dX12_tellRow_21 (by decide) ?_
      refine r_rem dX12_tellRow_22 (by decide) ?_
      obtain ⟨hin, h⟩ := kbG_if h
      replace hin := kbIn_of hin
      refine q_iast v4.toNatClampNeg rfl sh82 hin dX12_tellRow_23 ?_
      refine r_iload_n dX12_tellRow_24 rfl ?_
      refine r_iconst 5 dX12_tellRow_25 (by decide) ?_
      refine r_idiv dX12_tellRow_26 (by decide) ?_
      refine r_istore_n dX12_tellRow_27 (Nat.le_of_ble_eq_true rfl) rfl ?_
      refine r_iinc (-1) dX12_tellRow_28 rfl (by decide) (Nat.le_of_ble_eq_true rfl) rfl ?_
      refine r_goto 12 dX12_tellRow_31 (by decide) ?_
      refine r_le [none, some (.ref 82), some (.int v2), some (.int (v3 / 5)), some (.int (v4 + (-1)))] ⟨rfl, ⟨rfl, ⟨rfl, ⟨rfl, trivial⟩⟩⟩⟩ ?_
      exact ih (v3 / 5) (v4 + (-1)) (kbW μ 82 v4.toNatClampNeg (kbRem v3 5)) h
def f_MD_tellRow_82 (n : Nat) (a0 : Int32) (μ : kbM) : Option (Int32 × kbM) :=
  (f_MD_sizeOf n a0).bind fun x1 =>
  (lp_MD_tellRow_82_12 n x1 n a0 (x1 - 1) μ).bind fun x2 =>
  some ((x1, x2))
theorem sp_MD_tellRow_82 {l : Launch} (n : Nat) (a0 : Int32) (μ : kbM)  {x : Int32 × kbM} (h : f_MD_tellRow_82 n a0 μ = some x) : kbS l MX12_tellRow 2 [.int a0, .ref 82] μ (kbQe (some (.int x.1)) x.2) := by
  refine kb_enter 3 rfl rfl ?_
  suffices H : ∀ (Q : kbQt) (P : Int32 × kbM → Prop), (∀ z : Int32 × kbM, P z → Q (some (.int z.1)) z.2) → kbG (f_MD_tellRow_82 n a0 μ) P → kbR l MX12_tellRow 2 Q 0 [some (.int a0), some (.ref 82), none, none, none] [] μ from H _ (fun z => z = x) (fun z e => by subst e; exact ⟨rfl, rfl⟩) ⟨x, h, rfl⟩
  clear h
  intro Q P hr h
  unfold f_MD_tellRow_82 at h
  refine r_iload_n dX12_tellRow_0 rfl ?_
  obtain ⟨x1, hx0, h⟩ := kbG_bind h
  refine r_inv_i csX12_322 (sp_MD_sizeOf n a0 μ hx0) rfl rfl (Nat.le_of_ble_eq_true rfl) (Nat.le_of_ble_eq_true rfl) dX12_tellRow_1 ?_
  refine r_istore_n dX12_tellRow_4 (Nat.le_of_ble_eq_true rfl) rfl ?_
  refine r_iload_n dX12_tellRow_5 rfl ?_
  refine r_istore_n dX12_tellRow_6 (Nat.le_of_ble_eq_true rfl) rfl ?_
  refine r_iload_n dX12_tellRow_7 rfl ?_
  refine r_iconst 1 dX12_tellRow_8 (by decide) ?_
  refine r_isub dX12_tellRow_9 ?_
  refine r_istore dX12_tellRow_10 (Nat.le_of_ble_eq_true rfl) rfl ?_
  refine r_le [none, some (.ref 82), some (.int x1), some (.int a0), some (.int (x1 - 1))] ⟨rfl, ⟨rfl, ⟨rfl, ⟨rfl, trivial⟩⟩⟩⟩ ?_
  obtain ⟨x2, hx0, h⟩ := kbG_bind h
  refine lpR_MD_tellRow_82_12 n x1 (P := fun z => x2 = z) (hx := fun z e => ?_) n _ _ _ ⟨_, hx0, rfl⟩
  subst e
  refine r_iload_n dX12_tellRow_34 rfl ?_
  exact r_iret rfl dX12_tellRow_35 (hr ((x1, x2)) (kbG_some h))
def lp_MD_tellRow_83_12 (n : Nat) (v2 : Int32) : Nat → Int32 → Int32 → kbM → Option (kbM)
  | 0, _, _, _ => none
  | k + 1, v3, v4, μ =>
    if v4 < 0 then
      some μ
    else
      kbIf (kbIn v4 12) <|
      lp_MD_tellRow_83_12 n v2 k (v3 / 5) (v4 + (-1)) (kbW μ 83 v4.toNatClampNeg (kbRem v3 5))
theorem lpR_MD_tellRow_83_12 {l : Launch} (n : Nat) (v2 : Int32)  {Q : kbQt} {P : kbM → Prop} (hx : ∀ z : kbM, P (z) → kbR l MX12_tellRow 2 Q 34 [none, none, some (.int v2), none, none] [] z) : ∀ (k : Nat) (v3 : Int32) (v4 : Int32) (μ : kbM), kbG (lp_MD_tellRow_83_12 n v2 k v3 v4 μ) P → kbR l MX12_tellRow 2 Q 12 [none, some (.ref 83), some (.int v2), some (.int v3), some (.int v4)] [] μ := by
  intro k
  induction k with
  | zero => intro v3 v4 μ h; exact absurd h kbG_none
  | succ k ih =>
    intro v3 v4 μ h
    unfold lp_MD_tellRow_83_12 at h
    refine r_iload dX12_tellRow_12 rfl ?_
    refine r_if_lt 34 dX12_tellRow_14 (by decide) (fun hc => ?_) (fun hc => ?_)
    · replace h := kbG_t hc h
      refine r_le [none, none, some (.int v2), none, none] ⟨rfl, trivial⟩ ?_
      exact hx μ (kbG_some h)
    · replace h := kbG_f hc h
      refine r_aload_n dX12_tellRow_17 rfl ?_
      refine r_iload dX12_tellRow_18 rfl ?_
      refine r_iload_n dX12_tellRow_20 rfl ?_
      refine r_iconst 5 dX12_tellRow_21 (by decide) ?_
      refine r_rem dX12_tellRow_22 (by decide) ?_
      obtain ⟨hin, h⟩ := kbG_if h
      replace hin := kbIn_of hin
      refine q_iast v4.toNatClampNeg rfl sh83 hin dX12_tellRow_23 ?_
      refine r_iload_n dX12_tellRow_24 rfl ?_
      refine r_iconst 5 dX12_tellRow_25 (by decide) ?_
      refine r_idiv dX12_tellRow_26 (by decide) ?_
      refine r_istore_n dX12_tellRow_27 (Nat.le_of_ble_eq_true rfl) rfl ?_
      refine r_iinc (-1) dX12_tellRow_28 rfl (by decide) (Nat.le_of_ble_eq_true rfl) rfl ?_
      refine r_goto 12 dX12_tellRow_31 (by decide) ?_
      refine r_le [none, some (.ref 83), some (.int v2), some (.int (v3 / 5)), some (.int (v4 + (-1)))] ⟨rfl, ⟨rfl, ⟨rfl, ⟨rfl, trivial⟩⟩⟩⟩ ?_
      exact ih (v3 / 5) (v4 + (-1)) (kbW μ 83 v4.toNatClampNeg (kbRem v3 5)) h
def f_MD_tellRow_83 (n : Nat) (a0 : Int32) (μ : kbM) : Option (Int32 × kbM) :=
  (f_MD_sizeOf n a0).bind fun x1 =>
  (lp_MD_tellRow_83_12 n x1 n a0 (x1 - 1) μ).bind fun x2 =>
  some ((x1, x2))
theorem sp_MD_tellRow_83 {l : Launch} (n : Nat) (a0 : Int32) (μ : kbM)  {x : Int32 × kbM} (h : f_MD_tellRow_83 n a0 μ = some x) : kbS l MX12_tellRow 2 [.int a0, .ref 83] μ (kbQe (some (.int x.1)) x.2) := by
  refine kb_enter 3 rfl rfl ?_
  suffices H : ∀ (Q : kbQt) (P : Int32 × kbM → Prop), (∀ z : Int32 × kbM, P z → Q (some (.int z.1)) z.2) → kbG (f_MD_tellRow_83 n a0 μ) P → kbR l MX12_tellRow 2 Q 0 [some (.int a0), some (.ref 83), none, none, none] [] μ from H _ (fun z => z = x) (fun z e => by subst e; exact ⟨rfl, rfl⟩) ⟨x, h, rfl⟩
  clear h
  intro Q P hr h
  unfold f_MD_tellRow_83 at h
  refine r_iload_n dX12_tellRow_0 rfl ?_
  obtain ⟨x1, hx0, h⟩ := kbG_bind h
  refine r_inv_i csX12_322 (sp_MD_sizeOf n a0 μ hx0) rfl rfl (Nat.le_of_ble_eq_true rfl) (Nat.le_of_ble_eq_true rfl) dX12_tellRow_1 ?_
  refine r_istore_n dX12_tellRow_4 (Nat.le_of_ble_eq_true rfl) rfl ?_
  refine r_iload_n dX12_tellRow_5 rfl ?_
  refine r_istore_n dX12_tellRow_6 (Nat.le_of_ble_eq_true rfl) rfl ?_
  refine r_iload_n dX12_tellRow_7 rfl ?_
  refine r_iconst 1 dX12_tellRow_8 (by decide) ?_
  refine r_isub dX12_tellRow_9 ?_
  refine r_istore dX12_tellRow_10 (Nat.le_of_ble_eq_true rfl) rfl ?_
  refine r_le [none, some (.ref 83), some (.int x1), some (.int a0), some (.int (x1 - 1))] ⟨rfl, ⟨rfl, ⟨rfl, ⟨rfl, trivial⟩⟩⟩⟩ ?_
  obtain ⟨x2, hx0, h⟩ := kbG_bind h
  refine lpR_MD_tellRow_83_12 n x1 (P := fun z => x2 = z) (hx := fun z e => ?_) n _ _ _ ⟨_, hx0, rfl⟩
  subst e
  refine r_iload_n dX12_tellRow_34 rfl ?_
  exact r_iret rfl dX12_tellRow_35 (hr ((x1, x2)) (kbG_some h))
def jn_MD_apartBy_160 (n : Nat) (rec : Int32 → kbM → Option (kbM)) (v3 : Int32) (v4 : Int32) (v5 : Int32) (v6 : Int32) (v7 : Int32) (μ : kbM) : Option (kbM) :=
  kbIf (kbIn ((13 * v5) + v6) 169) <|
  rec (v6 + 1) (kbW μ 81 (((13 * v5) + v6).toNatClampNeg) v7)
theorem jnR_MD_apartBy_160 {l : Launch} (n : Nat)   (v3 : Int32) (v4 : Int32) (v5 : Int32) (v6 : Int32) (v7 : Int32) (μ : kbM) {Q : kbQt} {P : kbM → Prop} (hx : ∀ z : kbM, P (z) → kbR l MX12_apartBy 3 Q 181 [some (.ref 57), none, none, some (.int v3), some (.int v4), some (.int v5), none, none] [] z) {rec : Int32 → kbM → Option (kbM)} (hrec : ∀ (v6 : Int32) (μ : kbM), kbG (rec v6 μ) P → kbR l MX12_apartBy 3 Q 31 [some (.ref 57), none, none, some (.int v3), some (.int v4), some (.int v5), some (.int v6), none] [] μ) (h : kbG (jn_MD_apartBy_160 n rec v3 v4 v5 v6 v7 μ) P) : kbR l MX12_apartBy 3 Q 160 [some (.ref 57), none, none, some (.int v3), some (.int v4), some (.int v5), some (.int v6), some (.int v7)] [] μ := by
  unfold jn_MD_apartBy_160 at h
  refine r_aload_n dX12_apartBy_160 rfl ?_
  refine r_getR flX12_113 sh57 rfl dX12_apartBy_161 ?_
  refine r_bipush 13 dX12_apartBy_164 (by decide) ?_
  refine r_iload dX12_apartBy_166 rfl ?_
  refine r_imul dX12_apartBy_168 ?_
  refine r_iload dX12_apartBy_169 rfl ?_
  refine r_iadd dX12_apartBy_171 ?_
  refine r_iload dX12_apartBy_172 rfl ?_
  obtain ⟨hin, h⟩ := kbG_if h
  replace hin := kbIn_of hin
  refine q_iast (((13 * v5) + v6).toNatClampNeg) rfl sh81 hin dX12_apartBy_174 ?_
  refine r_iinc 1 dX12_apartBy_175 rfl (by decide) (Nat.le_of_ble_eq_true rfl) rfl ?_
  refine r_goto 31 dX12_apartBy_178 (by decide) ?_
  refine r_le [some (.ref 57), none, none, some (.int v3), some (.int v4), some (.int v5), some (.int (v6 + 1)), none] ⟨rfl, ⟨rfl, ⟨rfl, ⟨rfl, ⟨rfl, trivial⟩⟩⟩⟩⟩ ?_
  exact hrec (v6 + 1) (kbW μ 81 (((13 * v5) + v6).toNatClampNeg) v7) h
def jn_MD_apartBy_154 (n : Nat) (rec : Int32 → kbM → Option (kbM)) (v3 : Int32) (v4 : Int32) (v5 : Int32) (v6 : Int32) (w0 : Int32) (w1 : Int32) (w2 : Int32) (μ : kbM) : Option (kbM) :=
  jn_MD_apartBy_160 n rec v3 v4 v5 v6 (kbMin w0 (w1 + w2)) μ
theorem jnR_MD_apartBy_154 {l : Launch} (n : Nat)   (v3 : Int32) (v4 : Int32) (v5 : Int32) (v6 : Int32) (w0 : Int32) (w1 : Int32) (w2 : Int32) (μ : kbM) {Q : kbQt} {P : kbM → Prop} (hx : ∀ z : kbM, P (z) → kbR l MX12_apartBy 3 Q 181 [some (.ref 57), none, none, some (.int v3), some (.int v4), some (.int v5), none, none] [] z) {rec : Int32 → kbM → Option (kbM)} (hrec : ∀ (v6 : Int32) (μ : kbM), kbG (rec v6 μ) P → kbR l MX12_apartBy 3 Q 31 [some (.ref 57), none, none, some (.int v3), some (.int v4), some (.int v5), some (.int v6), none] [] μ) (h : kbG (jn_MD_apartBy_154 n rec v3 v4 v5 v6 w0 w1 w2 μ) P) : kbR l MX12_apartBy 3 Q 154 [some (.ref 57), none, none, some (.int v3), some (.int v4), some (.int v5), some (.int v6), none] [.int w2, .int w1, .int w0] μ := by
  unfold jn_MD_apartBy_154 at h
  refine r_iadd dX12_apartBy_154 ?_
  refine r_min mlX12_200 (Nat.le_of_ble_eq_true rfl) (Nat.le_of_ble_eq_true rfl) dX12_apartBy_155 ?_
  refine r_istore dX12_apartBy_158 (Nat.le_of_ble_eq_true rfl) rfl ?_
  refine r_le [some (.ref 57), none, none, some (.int v3), some (.int v4), some (.int v5), some (.int v6), some (.int (kbMin w0 (w1 + w2)))] ⟨rfl, ⟨rfl, ⟨rfl, ⟨rfl, ⟨rfl, ⟨rfl, trivial⟩⟩⟩⟩⟩⟩ ?_
  exact jnR_MD_apartBy_160 n v3 v4 v5 v6 (kbMin w0 (w1 + w2)) μ (hx := hx) (hrec := hrec) h
def jn_MD_apartBy_60 (n : Nat) (rec : Int32 → kbM → Option (kbM)) (v3 : Int32) (v4 : Int32) (v5 : Int32) (v6 : Int32) (w0 : Int32) (μ : kbM) : Option (kbM) :=
  if v5 ≤ 0 then
    jn_MD_apartBy_160 n rec v3 v4 v5 v6 w0 μ
  else
    if v6 ≤ 0 then
      jn_MD_apartBy_160 n rec v3 v4 v5 v6 w0 μ
    else
      kbIf (kbIn ((13 * (v5 - 1)) + v6) 169) <|
      kbIf (kbIn (((13 * v5) + v6) - 1) 169) <|
      kbIf (kbIn (((13 * (v5 - 1)) + v6) - 1) 169) <|
      kbIf (kbIn (v5 - 1) 12) <|
      kbIf (kbIn (v6 - 1) 12) <|
      if (μ.1 82 ((v5 - 1).toNatClampNeg)) = (μ.1 83 ((v6 - 1).toNatClampNeg)) then
        jn_MD_apartBy_154 n rec v3 v4 v5 v6 ((kbMin (μ.1 81 (((13 * (v5 - 1)) + v6).toNatClampNeg)) (μ.1 81 ((((13 * v5) + v6) - 1).toNatClampNeg))) + 1) (μ.1 81 ((((13 * (v5 - 1)) + v6) - 1).toNatClampNeg)) 0 μ
      else
        jn_MD_apartBy_154 n rec v3 v4 v5 v6 ((kbMin (μ.1 81 (((13 * (v5 - 1)) + v6).toNatClampNeg)) (μ.1 81 ((((13 * v5) + v6) - 1).toNatClampNeg))) + 1) (μ.1 81 ((((13 * (v5 - 1)) + v6) - 1).toNatClampNeg)) 1 μ
theorem jnR_MD_apartBy_60 {l : Launch} (n : Nat)   (v3 : Int32) (v4 : Int32) (v5 : Int32) (v6 : Int32) (w0 : Int32) (μ : kbM) {Q : kbQt} {P : kbM → Prop} (hx : ∀ z : kbM, P (z) → kbR l MX12_apartBy 3 Q 181 [some (.ref 57), none, none, some (.int v3), some (.int v4), some (.int v5), none, none] [] z) {rec : Int32 → kbM → Option (kbM)} (hrec : ∀ (v6 : Int32) (μ : kbM), kbG (rec v6 μ) P → kbR l MX12_apartBy 3 Q 31 [some (.ref 57), none, none, some (.int v3), some (.int v4), some (.int v5), some (.int v6), none] [] μ) (h : kbG (jn_MD_apartBy_60 n rec v3 v4 v5 v6 w0 μ) P) : kbR l MX12_apartBy 3 Q 60 [some (.ref 57), none, none, some (.int v3), some (.int v4), some (.int v5), some (.int v6), none] [.int w0] μ := by
  unfold jn_MD_apartBy_60 at h
  refine r_istore dX12_apartBy_60 (Nat.le_of_ble_eq_true rfl) rfl ?_
  refine r_iload dX12_apartBy_62 rfl ?_
  refine r_if_le 160 dX12_apartBy_64 (by decide) (fun hc => ?_) (fun hc => ?_)
  · replace h := kbG_t hc h
    refine r_le [some (.ref 57), none, none, some (.int v3), some (.int v4), some (.int v5), some (.int v6), some (.int w0)] ⟨rfl, ⟨rfl, ⟨rfl, ⟨rfl, ⟨rfl, ⟨rfl, trivial⟩⟩⟩⟩⟩⟩ ?_
    exact jnR_MD_apartBy_160 n v3 v4 v5 v6 w0 μ (hx := hx) (hrec := hrec) h
  · replace h := kbG_f hc h
    refine r_iload dX12_apartBy_67 rfl ?_
    refine r_if_le 160 dX12_apartBy_69 (by decide) (fun hc => ?_) (fun hc => ?_)
    · replace h := kbG_t hc h
      refine r_le [some (.ref 57), none, none, some (.int v3), some (.int v4), some (.int v5), some (.int v6), some (.int w0)] ⟨rfl, ⟨rfl, ⟨rfl, ⟨rfl, ⟨rfl, ⟨rfl, trivial⟩⟩⟩⟩⟩⟩ ?_
      exact jnR_MD_apartBy_160 n v3 v4 v5 v6 w0 μ (hx := hx) (hrec := hrec) h
    · replace h := kbG_f hc h
      refine r_aload_n dX12_apartBy_72 rfl ?_
      refine r_getR flX12_113 sh57 rfl dX12_apartBy_73 ?_
      refine r_bipush 13 dX12_apartBy_76 (by decide) ?_
      refine r_iload dX12_apartBy_78 rfl ?_
      refine r_iconst 1 dX12_apartBy_80 (by decide) ?_
      refine r_isub dX12_apartBy_81 ?_
      refine r_imul dX12_apartBy_82 ?_
      refine r_iload dX12_apartBy_83 rfl ?_
      refine r_iadd dX12_apartBy_85 ?_
      obtain ⟨hin, h⟩ := kbG_if h
      replace hin := kbIn_of hin
      refine q_iald (((13 * (v5 - 1)) + v6).toNatClampNeg) rfl sh81 hin dX12_apartBy_86 ?_
      refine r_aload_n dX12_apartBy_87 rfl ?_
      refine r_getR flX12_113 sh57 rfl dX12_apartBy_88 ?_
      refine r_bipush 13 dX12_apartBy_91 (by decide) ?_
      refine r_iload dX12_apartBy_93 rfl ?_
      refine r_imul dX12_apartBy_95 ?_
      refine r_iload dX12_apartBy_96 rfl ?_
      refine r_iadd dX12_apartBy_98 ?_
      refine r_iconst 1 dX12_apartBy_99 (by decide) ?_
      refine r_isub dX12_apartBy_100 ?_
      obtain ⟨hin, h⟩ := kbG_if h
      replace hin := kbIn_of hin
      refine q_iald ((((13 * v5) + v6) - 1).toNatClampNeg) rfl sh81 hin dX12_apartBy_101 ?_
      refine r_min mlX12_200 (Nat.le_of_ble_eq_true rfl) (Nat.le_of_ble_eq_true rfl) dX12_apartBy_102 ?_
      refine r_iconst 1 dX12_apartBy_105 (by decide) ?_
      refine r_iadd dX12_apartBy_106 ?_
      refine r_istore dX12_apartBy_107 (Nat.le_of_ble_eq_true rfl) rfl ?_
      refine r_iload dX12_apartBy_109 rfl ?_
      refine r_aload_n dX12_apartBy_111 rfl ?_
      refine r_getR flX12_113 sh57 rfl dX12_apartBy_112 ?_
      refine r_bipush 13 dX12_apartBy_115 (by decide) ?_
      refine r_iload dX12_apartBy_117 rfl ?_
      refine r_iconst 1 dX12_apartBy_119 (by decide) ?_
      refine r_isub dX12_apartBy_120 ?_
      refine r_imul dX12_apartBy_121 ?_
      refine r_iload dX12_apartBy_122 rfl ?_
      refine r_iadd dX12_apartBy_124 ?_
      refine r_iconst 1 dX12_apartBy_125 (by decide) ?_
      refine r_isub dX12_apartBy_126 ?_
      obtain ⟨hin, h⟩ := kbG_if h
      replace hin := kbIn_of hin
      refine q_iald ((((13 * (v5 - 1)) + v6) - 1).toNatClampNeg) rfl sh81 hin dX12_apartBy_127 ?_
      refine r_aload_n dX12_apartBy_128 rfl ?_
      refine r_getR flX12_116 sh57 rfl dX12_apartBy_129 ?_
      refine r_iload dX12_apartBy_132 rfl ?_
      refine r_iconst 1 dX12_apartBy_134 (by decide) ?_
      refine r_isub dX12_apartBy_135 ?_
      obtain ⟨hin, h⟩ := kbG_if h
      replace hin := kbIn_of hin
      refine q_iald ((v5 - 1).toNatClampNeg) rfl sh82 hin dX12_apartBy_136 ?_
      refine r_aload_n dX12_apartBy_137 rfl ?_
      refine r_getR flX12_118 sh57 rfl dX12_apartBy_138 ?_
      refine r_iload dX12_apartBy_141 rfl ?_
      refine r_iconst 1 dX12_apartBy_143 (by decide) ?_
      refine r_isub dX12_apartBy_144 ?_
      obtain ⟨hin, h⟩ := kbG_if h
      replace hin := kbIn_of hin
      refine q_iald ((v6 - 1).toNatClampNeg) rfl sh83 hin dX12_apartBy_145 ?_
      refine r_icmp_ne 153 dX12_apartBy_146 (by decide) (fun hc => ?_) (fun hc => ?_)
      · replace h := kbG_f hc h
        refine r_iconst 1 dX12_apartBy_153 (by decide) ?_
        refine r_le [some (.ref 57), none, none, some (.int v3), some (.int v4), some (.int v5), some (.int v6), none] ⟨rfl, ⟨rfl, ⟨rfl, ⟨rfl, ⟨rfl, trivial⟩⟩⟩⟩⟩ ?_
        exact jnR_MD_apartBy_154 n v3 v4 v5 v6 ((kbMin (μ.1 81 (((13 * (v5 - 1)) + v6).toNatClampNeg)) (μ.1 81 ((((13 * v5) + v6) - 1).toNatClampNeg))) + 1) (μ.1 81 ((((13 * (v5 - 1)) + v6) - 1).toNatClampNeg)) 1 μ (hx := hx) (hrec := hrec) h
      · replace h := kbG_t hc h
        refine r_iconst 0 dX12_apartBy_149 (by decide) ?_
        refine r_goto 154 dX12_apartBy_150 (by decide) ?_
        refine r_le [some (.ref 57), none, none, some (.int v3), some (.int v4), some (.int v5), some (.int v6), none] ⟨rfl, ⟨rfl, ⟨rfl, ⟨rfl, ⟨rfl, trivial⟩⟩⟩⟩⟩ ?_
        exact jnR_MD_apartBy_154 n v3 v4 v5 v6 ((kbMin (μ.1 81 (((13 * (v5 - 1)) + v6).toNatClampNeg)) (μ.1 81 ((((13 * v5) + v6) - 1).toNatClampNeg))) + 1) (μ.1 81 ((((13 * (v5 - 1)) + v6) - 1).toNatClampNeg)) 0 μ (hx := hx) (hrec := hrec) h
def lp_MD_apartBy_31 (n : Nat) (v3 : Int32) (v4 : Int32) (v5 : Int32) : Nat → Int32 → kbM → Option (kbM)
  | 0, _, _ => none
  | k + 1, v6, μ =>
    if v4 < v6 then
      some μ
    else
      if v5 = 0 then
        jn_MD_apartBy_60 n (lp_MD_apartBy_31 n v3 v4 v5 k) v3 v4 v5 v6 v6 μ
      else
        if v6 = 0 then
          jn_MD_apartBy_60 n (lp_MD_apartBy_31 n v3 v4 v5 k) v3 v4 v5 v6 v5 μ
        else
          jn_MD_apartBy_60 n (lp_MD_apartBy_31 n v3 v4 v5 k) v3 v4 v5 v6 100000 μ
theorem lpR_MD_apartBy_31 {l : Launch} (n : Nat) (v3 : Int32) (v4 : Int32) (v5 : Int32)  {Q : kbQt} {P : kbM → Prop} (hx : ∀ z : kbM, P (z) → kbR l MX12_apartBy 3 Q 181 [some (.ref 57), none, none, some (.int v3), some (.int v4), some (.int v5), none, none] [] z) : ∀ (k : Nat) (v6 : Int32) (μ : kbM), kbG (lp_MD_apartBy_31 n v3 v4 v5 k v6 μ) P → kbR l MX12_apartBy 3 Q 31 [some (.ref 57), none, none, some (.int v3), some (.int v4), some (.int v5), some (.int v6), none] [] μ := by
  intro k
  induction k with
  | zero => intro v6 μ h; exact absurd h kbG_none
  | succ k ih =>
    intro v6 μ h
    unfold lp_MD_apartBy_31 at h
    refine r_iload dX12_apartBy_31 rfl ?_
    refine r_iload dX12_apartBy_33 rfl ?_
    refine r_icmp_gt 181 dX12_apartBy_35 (by decide) (fun hc => ?_) (fun hc => ?_)
    · replace h := kbG_t hc h
      refine r_le [some (.ref 57), none, none, some (.int v3), some (.int v4), some (.int v5), none, none] ⟨rfl, ⟨rfl, ⟨rfl, ⟨rfl, trivial⟩⟩⟩⟩ ?_
      exact hx μ (kbG_some h)
    · replace h := kbG_f hc h
      refine r_iload dX12_apartBy_38 rfl ?_
      refine r_if_ne 48 dX12_apartBy_40 (by decide) (fun hc => ?_) (fun hc => ?_)
      · replace h := kbG_f hc h
        refine r_iload dX12_apartBy_48 rfl ?_
        refine r_if_ne 58 dX12_apartBy_50 (by decide) (fun hc => ?_) (fun hc => ?_)
        · replace h := kbG_f hc h
          refine r_ldc 100000 liX12_199 dX12_apartBy_58 ?_
          refine r_le [some (.ref 57), none, none, some (.int v3), some (.int v4), some (.int v5), some (.int v6), none] ⟨rfl, ⟨rfl, ⟨rfl, ⟨rfl, ⟨rfl, trivial⟩⟩⟩⟩⟩ ?_
          exact jnR_MD_apartBy_60 n v3 v4 v5 v6 100000 μ (hx := hx) (hrec := ih) h
        · replace h := kbG_t hc h
          refine r_iload dX12_apartBy_53 rfl ?_
          refine r_goto 60 dX12_apartBy_55 (by decide) ?_
          refine r_le [some (.ref 57), none, none, some (.int v3), some (.int v4), some (.int v5), some (.int v6), none] ⟨rfl, ⟨rfl, ⟨rfl, ⟨rfl, ⟨rfl, trivial⟩⟩⟩⟩⟩ ?_
          exact jnR_MD_apartBy_60 n v3 v4 v5 v6 v5 μ (hx := hx) (hrec := ih) h
      · replace h := kbG_t hc h
        refine r_iload dX12_apartBy_43 rfl ?_
        refine r_goto 60 dX12_apartBy_45 (by decide) ?_
        refine r_le [some (.ref 57), none, none, some (.int v3), some (.int v4), some (.int v5), some (.int v6), none] ⟨rfl, ⟨rfl, ⟨rfl, ⟨rfl, ⟨rfl, trivial⟩⟩⟩⟩⟩ ?_
        exact jnR_MD_apartBy_60 n v3 v4 v5 v6 v6 μ (hx := hx) (hrec := ih) h
def lp_MD_apartBy_22 (n : Nat) (v3 : Int32) (v4 : Int32) : Nat → Int32 → kbM → Option (kbM)
  | 0, _, _ => none
  | k + 1, v5, μ =>
    if v3 < v5 then
      some μ
    else
      (lp_MD_apartBy_31 n v3 v4 v5 n 0 μ).bind fun x3 =>
      lp_MD_apartBy_22 n v3 v4 k (v5 + 1) x3
theorem lpR_MD_apartBy_22 {l : Launch} (n : Nat) (v3 : Int32) (v4 : Int32)  {Q : kbQt} {P : kbM → Prop} (hx : ∀ z : kbM, P (z) → kbR l MX12_apartBy 3 Q 187 [some (.ref 57), none, none, some (.int v3), some (.int v4), none, none, none] [] z) : ∀ (k : Nat) (v5 : Int32) (μ : kbM), kbG (lp_MD_apartBy_22 n v3 v4 k v5 μ) P → kbR l MX12_apartBy 3 Q 22 [some (.ref 57), none, none, some (.int v3), some (.int v4), some (.int v5), none, none] [] μ := by
  intro k
  induction k with
  | zero => intro v5 μ h; exact absurd h kbG_none
  | succ k ih =>
    intro v5 μ h
    unfold lp_MD_apartBy_22 at h
    refine r_iload dX12_apartBy_22 rfl ?_
    refine r_iload_n dX12_apartBy_24 rfl ?_
    refine r_icmp_gt 187 dX12_apartBy_25 (by decide) (fun hc => ?_) (fun hc => ?_)
    · replace h := kbG_t hc h
      refine r_le [some (.ref 57), none, none, some (.int v3), some (.int v4), none, none, none] ⟨rfl, ⟨rfl, ⟨rfl, trivial⟩⟩⟩ ?_
      exact hx μ (kbG_some h)
    · replace h := kbG_f hc h
      refine r_iconst 0 dX12_apartBy_28 (by decide) ?_
      refine r_istore dX12_apartBy_29 (Nat.le_of_ble_eq_true rfl) rfl ?_
      refine r_le [some (.ref 57), none, none, some (.int v3), some (.int v4), some (.int v5), some (.int 0), none] ⟨rfl, ⟨rfl, ⟨rfl, ⟨rfl, ⟨rfl, trivial⟩⟩⟩⟩⟩ ?_
      obtain ⟨x3, hx0, h⟩ := kbG_bind h
      refine lpR_MD_apartBy_31 n v3 v4 v5 (P := fun z => x3 = z) (hx := fun z e => ?_) n _ _ ⟨_, hx0, rfl⟩
      subst e
      refine r_iinc 1 dX12_apartBy_181 rfl (by decide) (Nat.le_of_ble_eq_true rfl) rfl ?_
      refine r_goto 22 dX12_apartBy_184 (by decide) ?_
      refine r_le [some (.ref 57), none, none, some (.int v3), some (.int v4), some (.int (v5 + 1)), none, none] ⟨rfl, ⟨rfl, ⟨rfl, ⟨rfl, trivial⟩⟩⟩⟩ ?_
      exact ih (v5 + 1) x3 h
def f_MD_apartBy (n : Nat) (a1 : Int32) (a2 : Int32) (μ : kbM) : Option (Int32 × kbM) :=
  (f_MD_tellRow_82 n a1 μ).bind fun x1 =>
  (f_MD_tellRow_83 n a2 x1.2).bind fun x2 =>
  (lp_MD_apartBy_22 n x1.1 x2.1 n 0 x2.2).bind fun x4 =>
  kbIf (kbIn ((13 * x1.1) + x2.1) 169) <|
  some ((x4.1 81 (((13 * x1.1) + x2.1).toNatClampNeg), x4))
theorem sp_MD_apartBy {l : Launch} (n : Nat) (a1 : Int32) (a2 : Int32) (μ : kbM)  {x : Int32 × kbM} (h : f_MD_apartBy n a1 a2 μ = some x) : kbS l MX12_apartBy 3 [.ref 57, .int a1, .int a2] μ (kbQe (some (.int x.1)) x.2) := by
  refine kb_enter 5 rfl rfl ?_
  suffices H : ∀ (Q : kbQt) (P : Int32 × kbM → Prop), (∀ z : Int32 × kbM, P z → Q (some (.int z.1)) z.2) → kbG (f_MD_apartBy n a1 a2 μ) P → kbR l MX12_apartBy 3 Q 0 [some (.ref 57), some (.int a1), some (.int a2), none, none, none, none, none] [] μ from H _ (fun z => z = x) (fun z e => by subst e; exact ⟨rfl, rfl⟩) ⟨x, h, rfl⟩
  clear h
  intro Q P hr h
  unfold f_MD_apartBy at h
  refine r_iload_n dX12_apartBy_0 rfl ?_
  refine r_aload_n dX12_apartBy_1 rfl ?_
  refine r_getR flX12_116 sh57 rfl dX12_apartBy_2 ?_
  obtain ⟨x1, hx0, h⟩ := kbG_bind h
  refine r_inv_i csX12_372 (sp_MD_tellRow_82 n a1 μ hx0) rfl rfl (Nat.le_of_ble_eq_true rfl) (Nat.le_of_ble_eq_true rfl) dX12_apartBy_5 ?_
  refine r_istore_n dX12_apartBy_8 (Nat.le_of_ble_eq_true rfl) rfl ?_
  refine r_iload_n dX12_apartBy_9 rfl ?_
  refine r_aload_n dX12_apartBy_10 rfl ?_
  refine r_getR flX12_118 sh57 rfl dX12_apartBy_11 ?_
  obtain ⟨x2, hx0, h⟩ := kbG_bind h
  refine r_inv_i csX12_372 (sp_MD_tellRow_83 n a2 x1.2 hx0) rfl rfl (Nat.le_of_ble_eq_true rfl) (Nat.le_of_ble_eq_true rfl) dX12_apartBy_14 ?_
  refine r_istore dX12_apartBy_17 (Nat.le_of_ble_eq_true rfl) rfl ?_
  refine r_iconst 0 dX12_apartBy_19 (by decide) ?_
  refine r_istore dX12_apartBy_20 (Nat.le_of_ble_eq_true rfl) rfl ?_
  refine r_le [some (.ref 57), none, none, some (.int x1.1), some (.int x2.1), some (.int 0), none, none] ⟨rfl, ⟨rfl, ⟨rfl, ⟨rfl, trivial⟩⟩⟩⟩ ?_
  obtain ⟨x4, hx0, h⟩ := kbG_bind h
  refine lpR_MD_apartBy_22 n x1.1 x2.1 (P := fun z => x4 = z) (hx := fun z e => ?_) n _ _ ⟨_, hx0, rfl⟩
  subst e
  refine r_aload_n dX12_apartBy_187 rfl ?_
  refine r_getR flX12_113 sh57 rfl dX12_apartBy_188 ?_
  refine r_bipush 13 dX12_apartBy_191 (by decide) ?_
  refine r_iload_n dX12_apartBy_193 rfl ?_
  refine r_imul dX12_apartBy_194 ?_
  refine r_iload dX12_apartBy_195 rfl ?_
  refine r_iadd dX12_apartBy_197 ?_
  obtain ⟨hin, h⟩ := kbG_if h
  replace hin := kbIn_of hin
  refine q_iald (((13 * x1.1) + x2.1).toNatClampNeg) rfl sh81 hin dX12_apartBy_198 ?_
  exact r_iret rfl dX12_apartBy_199 (hr ((x4.1 81 (((13 * x1.1) + x2.1).toNatClampNeg), x4)) (kbG_some h))
def jn_MD_apart_33 (n : Nat) (w0 : Int32) (μ : kbM) : Option (Int32 × kbM) :=
  some ((w0, μ))
theorem jnR_MD_apart_33 {l : Launch} (n : Nat)   (w0 : Int32) (μ : kbM) {Q : kbQt} {P : Int32 × kbM → Prop} (hr : ∀ z : Int32 × kbM, P z → Q (some (.int z.1)) z.2) (h : kbG (jn_MD_apart_33 n w0 μ) P) : kbR l MX12_apart 4 Q 33 [none, none, none] [.int w0] μ := by
  unfold jn_MD_apart_33 at h
  exact r_iret rfl dX12_apart_33 (hr ((w0, μ)) (kbG_some h))
def jn_MD_apart_28 (n : Nat) (μ : kbM) : Option (Int32 × kbM) :=
  (f_MD_fail 1 μ).bind fun x2 =>
  jn_MD_apart_33 n x2.1 x2.2
theorem jnR_MD_apart_28 {l : Launch} (n : Nat)    (μ : kbM) {Q : kbQt} {P : Int32 × kbM → Prop} (hr : ∀ z : Int32 × kbM, P z → Q (some (.int z.1)) z.2) (h : kbG (jn_MD_apart_28 n μ) P) : kbR l MX12_apart 4 Q 28 [some (.ref 57), none, none] [] μ := by
  unfold jn_MD_apart_28 at h
  refine r_aload_n dX12_apart_28 rfl ?_
  refine r_iconst 1 dX12_apart_29 (by decide) ?_
  obtain ⟨x2, hx0, h⟩ := kbG_bind h
  refine r_invV_i cvX12_292 sh57 rfl (sp_MD_fail 1 μ hx0) rfl rfl (Nat.le_of_ble_eq_true rfl) (Nat.le_of_ble_eq_true rfl) dX12_apart_30 ?_
  refine r_le [none, none, none] trivial ?_
  exact jnR_MD_apart_33 n x2.1 x2.2 (hr := hr) h
def f_MD_apart (n : Nat) (a1 : Int32) (a2 : Int32) (μ : kbM) : Option (Int32 × kbM) :=
  (f_MD_isRow n a1).bind fun x1 =>
  if x1 = 0 then
    jn_MD_apart_28 n (kbW μ 57 3 0)
  else
    (f_MD_isRow n a2).bind fun x3 =>
    if x3 = 0 then
      jn_MD_apart_28 n (kbW μ 57 3 0)
    else
      (f_MD_apartBy n a1 a2 (kbW μ 57 3 0)).bind fun x4 =>
      jn_MD_apart_33 n x4.1 x4.2
theorem sp_MD_apart {l : Launch} (n : Nat) (a1 : Int32) (a2 : Int32) (μ : kbM)  {x : Int32 × kbM} (h : f_MD_apart n a1 a2 μ = some x) : kbS l MX12_apart 4 [.ref 57, .int a1, .int a2] μ (kbQe (some (.int x.1)) x.2) := by
  refine kb_enter 0 rfl rfl ?_
  suffices H : ∀ (Q : kbQt) (P : Int32 × kbM → Prop), (∀ z : Int32 × kbM, P z → Q (some (.int z.1)) z.2) → kbG (f_MD_apart n a1 a2 μ) P → kbR l MX12_apart 4 Q 0 [some (.ref 57), some (.int a1), some (.int a2)] [] μ from H _ (fun z => z = x) (fun z e => by subst e; exact ⟨rfl, rfl⟩) ⟨x, h, rfl⟩
  clear h
  intro Q P hr h
  unfold f_MD_apart at h
  refine r_aload_n dX12_apart_0 rfl ?_
  refine r_iconst 0 dX12_apart_1 (by decide) ?_
  refine r_put flX12_159 sh57 rfl rfl rfl dX12_apart_2 ?_
  refine r_iload_n dX12_apart_5 rfl ?_
  obtain ⟨x1, hx0, h⟩ := kbG_bind h
  refine r_inv_i csX12_345 (sp_MD_isRow n a1 (kbW μ 57 3 0) hx0) rfl rfl (Nat.le_of_ble_eq_true rfl) (Nat.le_of_ble_eq_true rfl) dX12_apart_6 ?_
  refine r_if_eq 28 dX12_apart_9 (by decide) (fun hc => ?_) (fun hc => ?_)
  · replace h := kbG_t hc h
    refine r_le [some (.ref 57), none, none] ⟨rfl, trivial⟩ ?_
    exact jnR_MD_apart_28 n  (kbW μ 57 3 0) (hr := hr) h
  · replace h := kbG_f hc h
    refine r_iload_n dX12_apart_12 rfl ?_
    obtain ⟨x3, hx0, h⟩ := kbG_bind h
    refine r_inv_i csX12_345 (sp_MD_isRow n a2 (kbW μ 57 3 0) hx0) rfl rfl (Nat.le_of_ble_eq_true rfl) (Nat.le_of_ble_eq_true rfl) dX12_apart_13 ?_
    refine r_if_eq 28 dX12_apart_16 (by decide) (fun hc => ?_) (fun hc => ?_)
    · replace h := kbG_t hc h
      refine r_le [some (.ref 57), none, none] ⟨rfl, trivial⟩ ?_
      exact jnR_MD_apart_28 n  (kbW μ 57 3 0) (hr := hr) h
    · replace h := kbG_f hc h
      refine r_aload_n dX12_apart_19 rfl ?_
      refine r_iload_n dX12_apart_20 rfl ?_
      refine r_iload_n dX12_apart_21 rfl ?_
      obtain ⟨x4, hx0, h⟩ := kbG_bind h
      refine r_invV_i cvX12_376 sh57 rfl (sp_MD_apartBy n a1 a2 (kbW μ 57 3 0) hx0) rfl rfl (Nat.le_of_ble_eq_true rfl) (Nat.le_of_ble_eq_true rfl) dX12_apart_22 ?_
      refine r_goto 33 dX12_apart_25 (by decide) ?_
      refine r_le [none, none, none] trivial ?_
      exact jnR_MD_apart_33 n x4.1 x4.2 (hr := hr) h
def jn_MD_nearestTo_46 (n : Nat) (rec : Int32 → Int32 → Int32 → kbM → Option (Int32 × kbM)) (v1 : Int32) (v2 : Int32) (v3 : Int32) (v4 : Int32) (μ : kbM) : Option (Int32 × kbM) :=
  rec v2 v3 (v4 + 1) μ
theorem jnR_MD_nearestTo_46 {l : Launch} (n : Nat)   (v1 : Int32) (v2 : Int32) (v3 : Int32) (v4 : Int32) (μ : kbM) {Q : kbQt} {P : Int32 × kbM → Prop} (hx : ∀ z : Int32 × kbM, P (z) → kbR l MX12_nearestTo 4 Q 52 [none, none, some (.int z.1), none, none, none] [] z.2) {rec : Int32 → Int32 → Int32 → kbM → Option (Int32 × kbM)} (hrec : ∀ (v2 : Int32) (v3 : Int32) (v4 : Int32) (μ : kbM), kbG (rec v2 v3 v4 μ) P → kbR l MX12_nearestTo 4 Q 8 [some (.ref 57), some (.int v1), some (.int v2), some (.int v3), some (.int v4), none] [] μ) (h : kbG (jn_MD_nearestTo_46 n rec v1 v2 v3 v4 μ) P) : kbR l MX12_nearestTo 4 Q 46 [some (.ref 57), some (.int v1), some (.int v2), some (.int v3), some (.int v4), none] [] μ := by
  unfold jn_MD_nearestTo_46 at h
  refine r_iinc 1 dX12_nearestTo_46 rfl (by decide) (Nat.le_of_ble_eq_true rfl) rfl ?_
  refine r_goto 8 dX12_nearestTo_49 (by decide) ?_
  refine r_le [some (.ref 57), some (.int v1), some (.int v2), some (.int v3), some (.int (v4 + 1)), none] ⟨rfl, ⟨rfl, ⟨rfl, ⟨rfl, ⟨rfl, trivial⟩⟩⟩⟩⟩ ?_
  exact hrec v2 v3 (v4 + 1) μ h
def lp_MD_nearestTo_8 (n : Nat) (v1 : Int32) : Nat → Int32 → Int32 → Int32 → kbM → Option (Int32 × kbM)
  | 0, _, _, _, _ => none
  | k + 1, v2, v3, v4, μ =>
    if (μ.1 57 27) ≤ v4 then
      some ((v2, μ))
    else
      kbIf (kbIn v4 10) <|
      (f_MD_apartBy n v1 (μ.1 70 v4.toNatClampNeg) μ).bind fun x1 =>
      if x1.1 < v3 then
        jn_MD_nearestTo_46 n (lp_MD_nearestTo_8 n v1 k) v1 v4 x1.1 v4 x1.2
      else
        jn_MD_nearestTo_46 n (lp_MD_nearestTo_8 n v1 k) v1 v2 v3 v4 x1.2
theorem lpR_MD_nearestTo_8 {l : Launch} (n : Nat) (v1 : Int32)  {Q : kbQt} {P : Int32 × kbM → Prop} (hx : ∀ z : Int32 × kbM, P (z) → kbR l MX12_nearestTo 4 Q 52 [none, none, some (.int z.1), none, none, none] [] z.2) : ∀ (k : Nat) (v2 : Int32) (v3 : Int32) (v4 : Int32) (μ : kbM), kbG (lp_MD_nearestTo_8 n v1 k v2 v3 v4 μ) P → kbR l MX12_nearestTo 4 Q 8 [some (.ref 57), some (.int v1), some (.int v2), some (.int v3), some (.int v4), none] [] μ := by
  intro k
  induction k with
  | zero => intro v2 v3 v4 μ h; exact absurd h kbG_none
  | succ k ih =>
    intro v2 v3 v4 μ h
    unfold lp_MD_nearestTo_8 at h
    refine r_iload dX12_nearestTo_8 rfl ?_
    refine r_aload_n dX12_nearestTo_10 rfl ?_
    refine r_getI flX12_162 sh57 rfl dX12_nearestTo_11 ?_
    refine r_icmp_ge 52 dX12_nearestTo_14 (by decide) (fun hc => ?_) (fun hc => ?_)
    · replace h := kbG_t hc h
      refine r_le [none, none, some (.int v2), none, none, none] ⟨rfl, trivial⟩ ?_
      exact hx ((v2, μ)) (kbG_some h)
    · replace h := kbG_f hc h
      refine r_aload_n dX12_nearestTo_17 rfl ?_
      refine r_iload_n dX12_nearestTo_18 rfl ?_
      refine r_aload_n dX12_nearestTo_19 rfl ?_
      refine r_getR flX12_79 sh57 rfl dX12_nearestTo_20 ?_
      refine r_iload dX12_nearestTo_23 rfl ?_
      obtain ⟨hin, h⟩ := kbG_if h
      replace hin := kbIn_of hin
      refine q_iald v4.toNatClampNeg rfl sh70 hin dX12_nearestTo_25 ?_
      obtain ⟨x1, hx0, h⟩ := kbG_bind h
      refine r_invV_i cvX12_376 sh57 rfl (sp_MD_apartBy n v1 (μ.1 70 v4.toNatClampNeg) μ hx0) rfl rfl (Nat.le_of_ble_eq_true rfl) (Nat.le_of_ble_eq_true rfl) dX12_nearestTo_26 ?_
      refine r_istore dX12_nearestTo_29 (Nat.le_of_ble_eq_true rfl) rfl ?_
      refine r_iload dX12_nearestTo_31 rfl ?_
      refine r_iload_n dX12_nearestTo_33 rfl ?_
      refine r_icmp_lt 40 dX12_nearestTo_34 (by decide) (fun hc => ?_) (fun hc => ?_)
      · replace h := kbG_t hc h
        refine r_iload dX12_nearestTo_40 rfl ?_
        refine r_istore_n dX12_nearestTo_42 (Nat.le_of_ble_eq_true rfl) rfl ?_
        refine r_iload dX12_nearestTo_43 rfl ?_
        refine r_istore_n dX12_nearestTo_45 (Nat.le_of_ble_eq_true rfl) rfl ?_
        refine r_le [some (.ref 57), some (.int v1), some (.int v4), some (.int x1.1), some (.int v4), none] ⟨rfl, ⟨rfl, ⟨rfl, ⟨rfl, ⟨rfl, trivial⟩⟩⟩⟩⟩ ?_
        exact jnR_MD_nearestTo_46 n v1 v4 x1.1 v4 x1.2 (hx := hx) (hrec := ih) h
      · replace h := kbG_f hc h
        refine r_goto 46 dX12_nearestTo_37 (by decide) ?_
        refine r_le [some (.ref 57), some (.int v1), some (.int v2), some (.int v3), some (.int v4), none] ⟨rfl, ⟨rfl, ⟨rfl, ⟨rfl, ⟨rfl, trivial⟩⟩⟩⟩⟩ ?_
        exact jnR_MD_nearestTo_46 n v1 v2 v3 v4 x1.2 (hx := hx) (hrec := ih) h
def f_MD_nearestTo (n : Nat) (a1 : Int32) (μ : kbM) : Option (Int32 × kbM) :=
  (lp_MD_nearestTo_8 n a1 n (-1) 100000 0 μ).bind fun x2 =>
  some ((x2.1, x2.2))
theorem sp_MD_nearestTo {l : Launch} (n : Nat) (a1 : Int32) (μ : kbM)  {x : Int32 × kbM} (h : f_MD_nearestTo n a1 μ = some x) : kbS l MX12_nearestTo 4 [.ref 57, .int a1] μ (kbQe (some (.int x.1)) x.2) := by
  refine kb_enter 4 rfl rfl ?_
  suffices H : ∀ (Q : kbQt) (P : Int32 × kbM → Prop), (∀ z : Int32 × kbM, P z → Q (some (.int z.1)) z.2) → kbG (f_MD_nearestTo n a1 μ) P → kbR l MX12_nearestTo 4 Q 0 [some (.ref 57), some (.int a1), none, none, none, none] [] μ from H _ (fun z => z = x) (fun z e => by subst e; exact ⟨rfl, rfl⟩) ⟨x, h, rfl⟩
  clear h
  intro Q P hr h
  unfold f_MD_nearestTo at h
  refine r_iconst (-1) dX12_nearestTo_0 (by decide) ?_
  refine r_istore_n dX12_nearestTo_1 (Nat.le_of_ble_eq_true rfl) rfl ?_
  refine r_ldc 100000 liX12_199 dX12_nearestTo_2 ?_
  refine r_istore_n dX12_nearestTo_4 (Nat.le_of_ble_eq_true rfl) rfl ?_
  refine r_iconst 0 dX12_nearestTo_5 (by decide) ?_
  refine r_istore dX12_nearestTo_6 (Nat.le_of_ble_eq_true rfl) rfl ?_
  refine r_le [some (.ref 57), some (.int a1), some (.int (-1)), some (.int 100000), some (.int 0), none] ⟨rfl, ⟨rfl, ⟨rfl, ⟨rfl, ⟨rfl, trivial⟩⟩⟩⟩⟩ ?_
  obtain ⟨x2, hx0, h⟩ := kbG_bind h
  refine lpR_MD_nearestTo_8 n a1 (P := fun z => x2 = z) (hx := fun z e => ?_) n _ _ _ _ ⟨_, hx0, rfl⟩
  subst e
  refine r_iload_n dX12_nearestTo_52 rfl ?_
  exact r_iret rfl dX12_nearestTo_53 (hr ((x2.1, x2.2)) (kbG_some h))
def jn_MD_nearest_14 (n : Nat) (μ : kbM) : Option (Int32 × kbM) :=
  (f_MD_fail 1 μ).bind fun x1 =>
  some ((x1.1, x1.2))
theorem jnR_MD_nearest_14 {l : Launch} (n : Nat)    (μ : kbM) {Q : kbQt} {P : Int32 × kbM → Prop} (hr : ∀ z : Int32 × kbM, P z → Q (some (.int z.1)) z.2) (h : kbG (jn_MD_nearest_14 n μ) P) : kbR l MX12_nearest 5 Q 14 [some (.ref 57), none, none, none] [] μ := by
  unfold jn_MD_nearest_14 at h
  refine r_aload_n dX12_nearest_14 rfl ?_
  refine r_iconst 1 dX12_nearest_15 (by decide) ?_
  obtain ⟨x1, hx0, h⟩ := kbG_bind h
  refine r_invV_i cvX12_292 sh57 rfl (sp_MD_fail 1 μ hx0) rfl rfl (Nat.le_of_ble_eq_true rfl) (Nat.le_of_ble_eq_true rfl) dX12_nearest_16 ?_
  exact r_iret rfl dX12_nearest_19 (hr ((x1.1, x1.2)) (kbG_some h))
def jn_MD_nearest_63 (n : Nat) (w0 : Int32) (μ : kbM) : Option (Int32 × kbM) :=
  some ((w0, μ))
theorem jnR_MD_nearest_63 {l : Launch} (n : Nat)   (w0 : Int32) (μ : kbM) {Q : kbQt} {P : Int32 × kbM → Prop} (hr : ∀ z : Int32 × kbM, P z → Q (some (.int z.1)) z.2) (h : kbG (jn_MD_nearest_63 n w0 μ) P) : kbR l MX12_nearest 5 Q 63 [none, none, none, none] [.int w0] μ := by
  unfold jn_MD_nearest_63 at h
  exact r_iret rfl dX12_nearest_63 (hr ((w0, μ)) (kbG_some h))
def jn_MD_nearest_48 (n : Nat) (v3 : Int32) (μ : kbM) : Option (Int32 × kbM) :=
  jn_MD_nearest_63 n v3 μ
theorem jnR_MD_nearest_48 {l : Launch} (n : Nat)   (v3 : Int32) (μ : kbM) {Q : kbQt} {P : Int32 × kbM → Prop} (hr : ∀ z : Int32 × kbM, P z → Q (some (.int z.1)) z.2) (h : kbG (jn_MD_nearest_48 n v3 μ) P) : kbR l MX12_nearest 5 Q 48 [none, none, none, some (.int v3)] [] μ := by
  unfold jn_MD_nearest_48 at h
  refine r_iload_n dX12_nearest_48 rfl ?_
  refine r_goto 63 dX12_nearest_49 (by decide) ?_
  refine r_le [none, none, none, none] trivial ?_
  exact jnR_MD_nearest_63 n v3 μ (hr := hr) h
def f_MD_nearest (n : Nat) (a1 : Int32) (a2 : Int32) (μ : kbM) : Option (Int32 × kbM) :=
  if a2 < 0 then
    jn_MD_nearest_14 n (kbW μ 57 3 0)
  else
    if a2 ≤ 1 then
      (f_MD_isRow n a1).bind fun x2 =>
      if x2 = 0 then
        (f_MD_fail 2 (kbW μ 57 3 0)).bind fun x5 =>
        some ((x5.1, x5.2))
      else
        (f_MD_nearestTo n a1 (kbW μ 57 3 0)).bind fun x3 =>
        if a2 = 0 then
          jn_MD_nearest_48 n x3.1 x3.2
        else
          if x3.1 = (-1) then
            jn_MD_nearest_48 n x3.1 x3.2
          else
            kbIf (kbIn x3.1 10) <|
            (f_MD_apartBy n a1 (x3.2.1 70 x3.1.toNatClampNeg) x3.2).bind fun x4 =>
            jn_MD_nearest_63 n x4.1 x4.2
    else
      jn_MD_nearest_14 n (kbW μ 57 3 0)
theorem sp_MD_nearest {l : Launch} (n : Nat) (a1 : Int32) (a2 : Int32) (μ : kbM)  {x : Int32 × kbM} (h : f_MD_nearest n a1 a2 μ = some x) : kbS l MX12_nearest 5 [.ref 57, .int a1, .int a2] μ (kbQe (some (.int x.1)) x.2) := by
  refine kb_enter 1 rfl rfl ?_
  suffices H : ∀ (Q : kbQt) (P : Int32 × kbM → Prop), (∀ z : Int32 × kbM, P z → Q (some (.int z.1)) z.2) → kbG (f_MD_nearest n a1 a2 μ) P → kbR l MX12_nearest 5 Q 0 [some (.ref 57), some (.int a1), some (.int a2), none] [] μ from H _ (fun z => z = x) (fun z e => by subst e; exact ⟨rfl, rfl⟩) ⟨x, h, rfl⟩
  clear h
  intro Q P hr h
  unfold f_MD_nearest at h
  refine r_aload_n dX12_nearest_0 rfl ?_
  refine r_iconst 0 dX12_nearest_1 (by decide) ?_
  refine r_put flX12_159 sh57 rfl rfl rfl dX12_nearest_2 ?_
  refine r_iload_n dX12_nearest_5 rfl ?_
  refine r_if_lt 14 dX12_nearest_6 (by decide) (fun hc => ?_) (fun hc => ?_)
  · replace h := kbG_t hc h
    refine r_le [some (.ref 57), none, none, none] ⟨rfl, trivial⟩ ?_
    exact jnR_MD_nearest_14 n  (kbW μ 57 3 0) (hr := hr) h
  · replace h := kbG_f hc h
    refine r_iload_n dX12_nearest_9 rfl ?_
    refine r_iconst 1 dX12_nearest_10 (by decide) ?_
    refine r_icmp_le 20 dX12_nearest_11 (by decide) (fun hc => ?_) (fun hc => ?_)
    · replace h := kbG_t hc h
      refine r_iload_n dX12_nearest_20 rfl ?_
      obtain ⟨x2, hx0, h⟩ := kbG_bind h
      refine r_inv_i csX12_345 (sp_MD_isRow n a1 (kbW μ 57 3 0) hx0) rfl rfl (Nat.le_of_ble_eq_true rfl) (Nat.le_of_ble_eq_true rfl) dX12_nearest_21 ?_
      refine r_if_ne 33 dX12_nearest_24 (by decide) (fun hc => ?_) (fun hc => ?_)
      · replace h := kbG_f hc h
        refine r_aload_n dX12_nearest_33 rfl ?_
        refine r_iload_n dX12_nearest_34 rfl ?_
        obtain ⟨x3, hx0, h⟩ := kbG_bind h
        refine r_invV_i cvX12_379 sh57 rfl (sp_MD_nearestTo n a1 (kbW μ 57 3 0) hx0) rfl rfl (Nat.le_of_ble_eq_true rfl) (Nat.le_of_ble_eq_true rfl) dX12_nearest_35 ?_
        refine r_istore_n dX12_nearest_38 (Nat.le_of_ble_eq_true rfl) rfl ?_
        refine r_iload_n dX12_nearest_39 rfl ?_
        refine r_if_eq 48 dX12_nearest_40 (by decide) (fun hc => ?_) (fun hc => ?_)
        · replace h := kbG_t hc h
          refine r_le [none, none, none, some (.int x3.1)] ⟨rfl, trivial⟩ ?_
          exact jnR_MD_nearest_48 n x3.1 x3.2 (hr := hr) h
        · replace h := kbG_f hc h
          refine r_iload_n dX12_nearest_43 rfl ?_
          refine r_iconst (-1) dX12_nearest_44 (by decide) ?_
          refine r_icmp_ne 52 dX12_nearest_45 (by decide) (fun hc => ?_) (fun hc => ?_)
          · replace h := kbG_f hc h
            refine r_aload_n dX12_nearest_52 rfl ?_
            refine r_iload_n dX12_nearest_53 rfl ?_
            refine r_aload_n dX12_nearest_54 rfl ?_
            refine r_getR flX12_79 sh57 rfl dX12_nearest_55 ?_
            refine r_iload_n dX12_nearest_58 rfl ?_
            obtain ⟨hin, h⟩ := kbG_if h
            replace hin := kbIn_of hin
            refine q_iald x3.1.toNatClampNeg rfl sh70 hin dX12_nearest_59 ?_
            obtain ⟨x4, hx0, h⟩ := kbG_bind h
            refine r_invV_i cvX12_376 sh57 rfl (sp_MD_apartBy n a1 (x3.2.1 70 x3.1.toNatClampNeg) x3.2 hx0) rfl rfl (Nat.le_of_ble_eq_true rfl) (Nat.le_of_ble_eq_true rfl) dX12_nearest_60 ?_
            refine r_le [none, none, none, none] trivial ?_
            exact jnR_MD_nearest_63 n x4.1 x4.2 (hr := hr) h
          · replace h := kbG_t hc h
            refine r_le [none, none, none, some (.int x3.1)] ⟨rfl, trivial⟩ ?_
            exact jnR_MD_nearest_48 n x3.1 x3.2 (hr := hr) h
      · replace h := kbG_t hc h
        refine r_aload_n dX12_nearest_27 rfl ?_
        refine r_iconst 2 dX12_nearest_28 (by decide) ?_
        obtain ⟨x5, hx0, h⟩ := kbG_bind h
        refine r_invV_i cvX12_292 sh57 rfl (sp_MD_fail 2 (kbW μ 57 3 0) hx0) rfl rfl (Nat.le_of_ble_eq_true rfl) (Nat.le_of_ble_eq_true rfl) dX12_nearest_29 ?_
        exact r_iret rfl dX12_nearest_32 (hr ((x5.1, x5.2)) (kbG_some h))
    · replace h := kbG_f hc h
      refine r_le [some (.ref 57), none, none, none] ⟨rfl, trivial⟩ ?_
      exact jnR_MD_nearest_14 n  (kbW μ 57 3 0) (hr := hr) h
def f_MD_refuse (a1 : Int32) (μ : kbM) : Option (Int32 × kbM) :=
  kbIf (kbIn a1 3) <|
  kbIf (kbIn a1 3) <|
  some (((-1), kbW μ 68 a1.toNatClampNeg ((μ.1 68 a1.toNatClampNeg) + 1)))
theorem sp_MD_refuse {l : Launch} (a1 : Int32) (μ : kbM)  {x : Int32 × kbM} (h : f_MD_refuse a1 μ = some x) : kbS l MX12_refuse 1 [.ref 57, .int a1] μ (kbQe (some (.int x.1)) x.2) := by
  refine kb_enter 0 rfl rfl ?_
  suffices H : ∀ (Q : kbQt) (P : Int32 × kbM → Prop), (∀ z : Int32 × kbM, P z → Q (some (.int z.1)) z.2) → kbG (f_MD_refuse a1 μ) P → kbR l MX12_refuse 1 Q 0 [some (.ref 57), some (.int a1)] [] μ from H _ (fun z => z = x) (fun z e => by subst e; exact ⟨rfl, rfl⟩) ⟨x, h, rfl⟩
  clear h
  intro Q P hr h
  unfold f_MD_refuse at h
  refine r_aload_n dX12_refuse_0 rfl ?_
  refine r_getR flX12_69 sh57 rfl dX12_refuse_1 ?_
  refine r_iload_n dX12_refuse_4 rfl ?_
  refine r_dup2 dX12_refuse_5 rfl rfl ?_
  obtain ⟨hin, h⟩ := kbG_if h
  replace hin := kbIn_of hin
  refine q_iald a1.toNatClampNeg rfl sh68 hin dX12_refuse_6 ?_
  refine r_iconst 1 dX12_refuse_7 (by decide) ?_
  refine r_iadd dX12_refuse_8 ?_
  obtain ⟨hin, h⟩ := kbG_if h
  replace hin := kbIn_of hin
  refine q_iast a1.toNatClampNeg rfl sh68 hin dX12_refuse_9 ?_
  refine r_iconst (-1) dX12_refuse_10 (by decide) ?_
  exact r_iret rfl dX12_refuse_11 (hr (((-1), kbW μ 68 a1.toNatClampNeg ((μ.1 68 a1.toNatClampNeg) + 1))) (kbG_some h))
def lp_MD_wordBy_2 (n : Nat) (v1 : Int32) (μ : kbM) : Nat → Int32 → Option ((Int32) ⊕ (Unit))
  | 0, _ => none
  | k + 1, v2 =>
    if (μ.1 57 27) ≤ v2 then
      some (.inr (()))
    else
      kbIf (kbIn v2 10) <|
      if (μ.1 70 v2.toNatClampNeg) = v1 then
        some (.inl v2)
      else
        lp_MD_wordBy_2 n v1 μ k (v2 + 1)
theorem lpR_MD_wordBy_2 {l : Launch} (n : Nat) (v1 : Int32) (μ : kbM)  {Q : kbQt} {P : (Int32) ⊕ (Unit) → Prop} (hr : ∀ z : Int32, P (.inl z) → Q (some (.int z)) μ) (hx : ∀ z : Unit, P (.inr z) → kbR l MX12_wordBy 1 Q 28 [none, none, none] [] μ) : ∀ (k : Nat) (v2 : Int32), kbG (lp_MD_wordBy_2 n v1 μ k v2) P → kbR l MX12_wordBy 1 Q 2 [some (.ref 57), some (.int v1), some (.int v2)] [] μ := by
  intro k
  induction k with
  | zero => intro v2 h; exact absurd h kbG_none
  | succ k ih =>
    intro v2 h
    unfold lp_MD_wordBy_2 at h
    refine r_iload_n dX12_wordBy_2 rfl ?_
    refine r_aload_n dX12_wordBy_3 rfl ?_
    refine r_getI flX12_162 sh57 rfl dX12_wordBy_4 ?_
    refine r_icmp_ge 28 dX12_wordBy_7 (by decide) (fun hc => ?_) (fun hc => ?_)
    · replace h := kbG_t hc h
      refine r_le [none, none, none] trivial ?_
      exact hx (()) (kbG_some h)
    · replace h := kbG_f hc h
      refine r_aload_n dX12_wordBy_10 rfl ?_
      refine r_getR flX12_79 sh57 rfl dX12_wordBy_11 ?_
      refine r_iload_n dX12_wordBy_14 rfl ?_
      obtain ⟨hin, h⟩ := kbG_if h
      replace hin := kbIn_of hin
      refine q_iald v2.toNatClampNeg rfl sh70 hin dX12_wordBy_15 ?_
      refine r_iload_n dX12_wordBy_16 rfl ?_
      refine r_icmp_ne 22 dX12_wordBy_17 (by decide) (fun hc => ?_) (fun hc => ?_)
      · replace h := kbG_f hc h
        refine r_iinc 1 dX12_wordBy_22 rfl (by decide) (Nat.le_of_ble_eq_true rfl) rfl ?_
        refine r_goto 2 dX12_wordBy_25 (by decide) ?_
        refine r_le [some (.ref 57), some (.int v1), some (.int (v2 + 1))] ⟨rfl, ⟨rfl, ⟨rfl, trivial⟩⟩⟩ ?_
        exact ih (v2 + 1) h
      · replace h := kbG_t hc h
        refine r_iload_n dX12_wordBy_20 rfl ?_
        exact r_iret rfl dX12_wordBy_21 (hr v2 (kbG_some h))
def f_MD_wordBy (n : Nat) (a1 : Int32) (μ : kbM) : Option (Int32) :=
  kbOr (lp_MD_wordBy_2 n a1 μ n 0) (fun r2 => some r2) fun x1 =>
  some (-1)
theorem sp_MD_wordBy {l : Launch} (n : Nat) (a1 : Int32) (μ : kbM)  {x : Int32} (h : f_MD_wordBy n a1 μ = some x) : kbS l MX12_wordBy 1 [.ref 57, .int a1] μ (kbQe (some (.int x)) μ) := by
  refine kb_enter 1 rfl rfl ?_
  suffices H : ∀ (Q : kbQt) (P : Int32 → Prop), (∀ z : Int32, P z → Q (some (.int z)) μ) → kbG (f_MD_wordBy n a1 μ) P → kbR l MX12_wordBy 1 Q 0 [some (.ref 57), some (.int a1), none] [] μ from H _ (fun z => z = x) (fun z e => by subst e; exact ⟨rfl, rfl⟩) ⟨x, h, rfl⟩
  clear h
  intro Q P hr h
  unfold f_MD_wordBy at h
  refine r_iconst 0 dX12_wordBy_0 (by decide) ?_
  refine r_istore_n dX12_wordBy_1 (Nat.le_of_ble_eq_true rfl) rfl ?_
  refine r_le [some (.ref 57), some (.int a1), some (.int 0)] ⟨rfl, ⟨rfl, ⟨rfl, trivial⟩⟩⟩ ?_
  rcases kbG_or h with ⟨r2, hx0, h⟩ | ⟨x1, hx0, h⟩
  · exact lpR_MD_wordBy_2 n a1 μ (P := fun z => .inl r2 = z) (hr := fun z e => by cases e; exact hr _ (kbG_some h)) (hx := fun z e => by cases e) n _ ⟨_, hx0, rfl⟩
  · refine lpR_MD_wordBy_2 n a1 μ (P := fun z => .inr x1 = z) (hr := fun z e => by cases e) (hx := fun z e => ?_) n _ ⟨_, hx0, rfl⟩
    cases e
    refine r_iconst (-1) dX12_wordBy_28 (by decide) ?_
    exact r_iret rfl dX12_wordBy_29 (hr (-1) (kbG_some h))
def lp_MD_pack_73_18 (n : Nat) (v2 : Int32) : Nat → Int32 → kbM → Option (kbM)
  | 0, _, _ => none
  | k + 1, v3, μ =>
    if 10 ≤ v3 then
      some μ
    else
      kbIf (kbIn v3 10) <|
      kbIf (kbIn ((v2 + 2) + v3) 1280) <|
      kbIf (kbIn v3 10) <|
      kbIf (kbIn (((v2 + 2) + 10) + v3) 1280) <|
      kbIf (kbIn v3 10) <|
      kbIf (kbIn (((v2 + 2) + 20) + v3) 1280) <|
      lp_MD_pack_73_18 n v2 k (v3 + 1) (kbW (kbW (kbW μ 73 (((v2 + 2) + v3).toNatClampNeg) (μ.1 70 v3.toNatClampNeg)) 73 ((((v2 + 2) + 10) + v3).toNatClampNeg) ((kbW μ 73 (((v2 + 2) + v3).toNatClampNeg) (μ.1 70 v3.toNatClampNeg)).1 71 v3.toNatClampNeg)) 73 ((((v2 + 2) + 20) + v3).toNatClampNeg) ((kbW (kbW μ 73 (((v2 + 2) + v3).toNatClampNeg) (μ.1 70 v3.toNatClampNeg)) 73 ((((v2 + 2) + 10) + v3).toNatClampNeg) ((kbW μ 73 (((v2 + 2) + v3).toNatClampNeg) (μ.1 70 v3.toNatClampNeg)).1 71 v3.toNatClampNeg)).1 72 v3.toNatClampNeg))
theorem lpR_MD_pack_73_18 {l : Launch} (n : Nat) (v2 : Int32)  {Q : kbQt} {P : kbM → Prop} (hx : ∀ z : kbM, P (z) → kbR l MX12_pack 1 Q 75 [none, none, none, none] [] z) : ∀ (k : Nat) (v3 : Int32) (μ : kbM), kbG (lp_MD_pack_73_18 n v2 k v3 μ) P → kbR l MX12_pack 1 Q 18 [some (.ref 57), some (.ref 73), some (.int v2), some (.int v3)] [] μ := by
  intro k
  induction k with
  | zero => intro v3 μ h; exact absurd h kbG_none
  | succ k ih =>
    intro v3 μ h
    unfold lp_MD_pack_73_18 at h
    refine r_iload_n dX12_pack_18 rfl ?_
    refine r_bipush 10 dX12_pack_19 (by decide) ?_
    refine r_icmp_ge 75 dX12_pack_21 (by decide) (fun hc => ?_) (fun hc => ?_)
    · replace h := kbG_t hc h
      refine r_le [none, none, none, none] trivial ?_
      exact hx μ (kbG_some h)
    · replace h := kbG_f hc h
      refine r_aload_n dX12_pack_24 rfl ?_
      refine r_iload_n dX12_pack_25 rfl ?_
      refine r_iconst 2 dX12_pack_26 (by decide) ?_
      refine r_iadd dX12_pack_27 ?_
      refine r_iload_n dX12_pack_28 rfl ?_
      refine r_iadd dX12_pack_29 ?_
      refine r_aload_n dX12_pack_30 rfl ?_
      refine r_getR flX12_79 sh57 rfl dX12_pack_31 ?_
      refine r_iload_n dX12_pack_34 rfl ?_
      obtain ⟨hin, h⟩ := kbG_if h
      replace hin := kbIn_of hin
      refine q_iald v3.toNatClampNeg rfl sh70 hin dX12_pack_35 ?_
      obtain ⟨hin, h⟩ := kbG_if h
      replace hin := kbIn_of hin
      refine q_iast (((v2 + 2) + v3).toNatClampNeg) rfl sh73 hin dX12_pack_36 ?_
      refine r_aload_n dX12_pack_37 rfl ?_
      refine r_iload_n dX12_pack_38 rfl ?_
      refine r_iconst 2 dX12_pack_39 (by decide) ?_
      refine r_iadd dX12_pack_40 ?_
      refine r_bipush 10 dX12_pack_41 (by decide) ?_
      refine r_iadd dX12_pack_43 ?_
      refine r_iload_n dX12_pack_44 rfl ?_
      refine r_iadd dX12_pack_45 ?_
      refine r_aload_n dX12_pack_46 rfl ?_
      refine r_getR flX12_82 sh57 rfl dX12_pack_47 ?_
      refine r_iload_n dX12_pack_50 rfl ?_
      obtain ⟨hin, h⟩ := kbG_if h
      replace hin := kbIn_of hin
      refine q_iald v3.toNatClampNeg rfl sh71 hin dX12_pack_51 ?_
      obtain ⟨hin, h⟩ := kbG_if h
      replace hin := kbIn_of hin
      refine q_iast ((((v2 + 2) + 10) + v3).toNatClampNeg) rfl sh73 hin dX12_pack_52 ?_
      refine r_aload_n dX12_pack_53 rfl ?_
      refine r_iload_n dX12_pack_54 rfl ?_
      refine r_iconst 2 dX12_pack_55 (by decide) ?_
      refine r_iadd dX12_pack_56 ?_
      refine r_bipush 20 dX12_pack_57 (by decide) ?_
      refine r_iadd dX12_pack_59 ?_
      refine r_iload_n dX12_pack_60 rfl ?_
      refine r_iadd dX12_pack_61 ?_
      refine r_aload_n dX12_pack_62 rfl ?_
      refine r_getR flX12_85 sh57 rfl dX12_pack_63 ?_
      refine r_iload_n dX12_pack_66 rfl ?_
      obtain ⟨hin, h⟩ := kbG_if h
      replace hin := kbIn_of hin
      refine q_iald v3.toNatClampNeg rfl sh72 hin dX12_pack_67 ?_
      obtain ⟨hin, h⟩ := kbG_if h
      replace hin := kbIn_of hin
      refine q_iast ((((v2 + 2) + 20) + v3).toNatClampNeg) rfl sh73 hin dX12_pack_68 ?_
      refine r_iinc 1 dX12_pack_69 rfl (by decide) (Nat.le_of_ble_eq_true rfl) rfl ?_
      refine r_goto 18 dX12_pack_72 (by decide) ?_
      refine r_le [some (.ref 57), some (.ref 73), some (.int v2), some (.int (v3 + 1))] ⟨rfl, ⟨rfl, ⟨rfl, ⟨rfl, trivial⟩⟩⟩⟩ ?_
      exact ih (v3 + 1) (kbW (kbW (kbW μ 73 (((v2 + 2) + v3).toNatClampNeg) (μ.1 70 v3.toNatClampNeg)) 73 ((((v2 + 2) + 10) + v3).toNatClampNeg) ((kbW μ 73 (((v2 + 2) + v3).toNatClampNeg) (μ.1 70 v3.toNatClampNeg)).1 71 v3.toNatClampNeg)) 73 ((((v2 + 2) + 20) + v3).toNatClampNeg) ((kbW (kbW μ 73 (((v2 + 2) + v3).toNatClampNeg) (μ.1 70 v3.toNatClampNeg)) 73 ((((v2 + 2) + 10) + v3).toNatClampNeg) ((kbW μ 73 (((v2 + 2) + v3).toNatClampNeg) (μ.1 70 v3.toNatClampNeg)).1 71 v3.toNatClampNeg)).1 72 v3.toNatClampNeg)) h
def f_MD_pack_73 (n : Nat) (a2 : Int32) (μ : kbM) : Option (kbM) :=
  kbIf (kbIn a2 1280) <|
  kbIf (kbIn (a2 + 1) 1280) <|
  (lp_MD_pack_73_18 n a2 n 0 (kbW (kbW μ 73 a2.toNatClampNeg (μ.1 57 27)) 73 ((a2 + 1).toNatClampNeg) ((kbW μ 73 a2.toNatClampNeg (μ.1 57 27)).1 57 28))).bind fun x1 =>
  some x1
theorem sp_MD_pack_73 {l : Launch} (n : Nat) (a2 : Int32) (μ : kbM)  {x : kbM} (h : f_MD_pack_73 n a2 μ = some x) : kbS l MX12_pack 1 [.ref 57, .ref 73, .int a2] μ (kbQe none x) := by
  refine kb_enter 1 rfl rfl ?_
  suffices H : ∀ (Q : kbQt) (P : kbM → Prop), (∀ z : kbM, P z → Q none z) → kbG (f_MD_pack_73 n a2 μ) P → kbR l MX12_pack 1 Q 0 [some (.ref 57), some (.ref 73), some (.int a2), none] [] μ from H _ (fun z => z = x) (fun z e => by subst e; exact ⟨rfl, rfl⟩) ⟨x, h, rfl⟩
  clear h
  intro Q P hr h
  unfold f_MD_pack_73 at h
  refine r_aload_n dX12_pack_0 rfl ?_
  refine r_iload_n dX12_pack_1 rfl ?_
  refine r_aload_n dX12_pack_2 rfl ?_
  refine r_getI flX12_162 sh57 rfl dX12_pack_3 ?_
  obtain ⟨hin, h⟩ := kbG_if h
  replace hin := kbIn_of hin
  refine q_iast a2.toNatClampNeg rfl sh73 hin dX12_pack_6 ?_
  refine r_aload_n dX12_pack_7 rfl ?_
  refine r_iload_n dX12_pack_8 rfl ?_
  refine r_iconst 1 dX12_pack_9 (by decide) ?_
  refine r_iadd dX12_pack_10 ?_
  refine r_aload_n dX12_pack_11 rfl ?_
  refine r_getI flX12_305 sh57 rfl dX12_pack_12 ?_
  obtain ⟨hin, h⟩ := kbG_if h
  replace hin := kbIn_of hin
  refine q_iast ((a2 + 1).toNatClampNeg) rfl sh73 hin dX12_pack_15 ?_
  refine r_iconst 0 dX12_pack_16 (by decide) ?_
  refine r_istore_n dX12_pack_17 (Nat.le_of_ble_eq_true rfl) rfl ?_
  refine r_le [some (.ref 57), some (.ref 73), some (.int a2), some (.int 0)] ⟨rfl, ⟨rfl, ⟨rfl, ⟨rfl, trivial⟩⟩⟩⟩ ?_
  obtain ⟨x1, hx0, h⟩ := kbG_bind h
  refine lpR_MD_pack_73_18 n a2 (P := fun z => x1 = z) (hx := fun z e => ?_) n _ _ ⟨_, hx0, rfl⟩
  subst e
  exact r_vret rfl dX12_pack_75 (hr x1 (kbG_some h))
def jn_MD_keep_52 (n : Nat) (μ : kbM) : Option (kbM) :=
  (f_MD_pack_73 n (32 * (μ.1 57 29)) μ).bind fun x1 =>
  some (kbW x1 57 29 ((x1.1 57 29) + 1))
theorem jnR_MD_keep_52 {l : Launch} (n : Nat)    (μ : kbM) {Q : kbQt} {P : kbM → Prop} (hr : ∀ z : kbM, P z → Q none z) (h : kbG (jn_MD_keep_52 n μ) P) : kbR l MX12_keep 2 Q 52 [some (.ref 57), none] [] μ := by
  unfold jn_MD_keep_52 at h
  refine r_aload_n dX12_keep_52 rfl ?_
  refine r_aload_n dX12_keep_53 rfl ?_
  refine r_getR flX12_88 sh57 rfl dX12_keep_54 ?_
  refine r_bipush 32 dX12_keep_57 (by decide) ?_
  refine r_aload_n dX12_keep_59 rfl ?_
  refine r_getI flX12_308 sh57 rfl dX12_keep_60 ?_
  refine r_imul dX12_keep_63 ?_
  obtain ⟨x1, hx0, h⟩ := kbG_bind h
  refine r_invV_v cvX12_382 sh57 rfl (sp_MD_pack_73 n (32 * (μ.1 57 29)) μ hx0) rfl rfl (Nat.le_of_ble_eq_true rfl) (Nat.le_of_ble_eq_true rfl) dX12_keep_64 ?_
  refine r_aload_n dX12_keep_67 rfl ?_
  refine r_dup dX12_keep_68 rfl ?_
  refine r_getI flX12_308 sh57 rfl dX12_keep_69 ?_
  refine r_iconst 1 dX12_keep_72 (by decide) ?_
  refine r_iadd dX12_keep_73 ?_
  refine r_put flX12_308 sh57 rfl rfl rfl dX12_keep_74 ?_
  exact r_vret rfl dX12_keep_77 (hr (kbW x1 57 29 ((x1.1 57 29) + 1)) (kbG_some h))
def lp_MD_keep_12 (n : Nat) : Nat → Int32 → kbM → Option (kbM)
  | 0, _, _ => none
  | k + 1, v1, μ =>
    if 1280 ≤ v1 then
      some μ
    else
      kbIf (kbIn v1 1280) <|
      kbIf (kbIn (v1 - 32) 1280) <|
      lp_MD_keep_12 n k (v1 + 1) (kbW μ 73 ((v1 - 32).toNatClampNeg) (μ.1 73 v1.toNatClampNeg))
theorem lpR_MD_keep_12 {l : Launch} (n : Nat)   {Q : kbQt} {P : kbM → Prop} (hx : ∀ z : kbM, P (z) → kbR l MX12_keep 2 Q 42 [some (.ref 57), none] [] z) : ∀ (k : Nat) (v1 : Int32) (μ : kbM), kbG (lp_MD_keep_12 n k v1 μ) P → kbR l MX12_keep 2 Q 12 [some (.ref 57), some (.int v1)] [] μ := by
  intro k
  induction k with
  | zero => intro v1 μ h; exact absurd h kbG_none
  | succ k ih =>
    intro v1 μ h
    unfold lp_MD_keep_12 at h
    refine r_iload_n dX12_keep_12 rfl ?_
    refine r_aload_n dX12_keep_13 rfl ?_
    refine r_getR flX12_88 sh57 rfl dX12_keep_14 ?_
    refine r_alen 1280 sh73 (by decide) (by decide) dX12_keep_17 ?_
    refine r_icmp_ge 42 dX12_keep_18 (by decide) (fun hc => ?_) (fun hc => ?_)
    · replace h := kbG_t hc h
      refine r_le [some (.ref 57), none] ⟨rfl, trivial⟩ ?_
      exact hx μ (kbG_some h)
    · replace h := kbG_f hc h
      refine r_aload_n dX12_keep_21 rfl ?_
      refine r_getR flX12_88 sh57 rfl dX12_keep_22 ?_
      refine r_iload_n dX12_keep_25 rfl ?_
      refine r_bipush 32 dX12_keep_26 (by decide) ?_
      refine r_isub dX12_keep_28 ?_
      refine r_aload_n dX12_keep_29 rfl ?_
      refine r_getR flX12_88 sh57 rfl dX12_keep_30 ?_
      refine r_iload_n dX12_keep_33 rfl ?_
      obtain ⟨hin, h⟩ := kbG_if h
      replace hin := kbIn_of hin
      refine q_iald v1.toNatClampNeg rfl sh73 hin dX12_keep_34 ?_
      obtain ⟨hin, h⟩ := kbG_if h
      replace hin := kbIn_of hin
      refine q_iast ((v1 - 32).toNatClampNeg) rfl sh73 hin dX12_keep_35 ?_
      refine r_iinc 1 dX12_keep_36 rfl (by decide) (Nat.le_of_ble_eq_true rfl) rfl ?_
      refine r_goto 12 dX12_keep_39 (by decide) ?_
      refine r_le [some (.ref 57), some (.int (v1 + 1))] ⟨rfl, ⟨rfl, trivial⟩⟩ ?_
      exact ih (v1 + 1) (kbW μ 73 ((v1 - 32).toNatClampNeg) (μ.1 73 v1.toNatClampNeg)) h
def f_MD_keep (n : Nat) (μ : kbM) : Option (kbM) :=
  if (μ.1 57 29) = 40 then
    (lp_MD_keep_12 n n 32 μ).bind fun x2 =>
    jn_MD_keep_52 n (kbW x2 57 29 ((x2.1 57 29) - 1))
  else
    jn_MD_keep_52 n μ
theorem sp_MD_keep {l : Launch} (n : Nat) (μ : kbM)  {x : kbM} (h : f_MD_keep n μ = some x) : kbS l MX12_keep 2 [.ref 57] μ (kbQe none x) := by
  refine kb_enter 1 rfl rfl ?_
  suffices H : ∀ (Q : kbQt) (P : kbM → Prop), (∀ z : kbM, P z → Q none z) → kbG (f_MD_keep n μ) P → kbR l MX12_keep 2 Q 0 [some (.ref 57), none] [] μ from H _ (fun z => z = x) (fun z e => by subst e; exact ⟨rfl, rfl⟩) ⟨x, h, rfl⟩
  clear h
  intro Q P hr h
  unfold f_MD_keep at h
  refine r_aload_n dX12_keep_0 rfl ?_
  refine r_getI flX12_308 sh57 rfl dX12_keep_1 ?_
  refine r_bipush 40 dX12_keep_4 (by decide) ?_
  refine r_icmp_ne 52 dX12_keep_6 (by decide) (fun hc => ?_) (fun hc => ?_)
  · replace h := kbG_f hc h
    refine r_le [some (.ref 57), none] ⟨rfl, trivial⟩ ?_
    exact jnR_MD_keep_52 n  μ (hr := hr) h
  · replace h := kbG_t hc h
    refine r_bipush 32 dX12_keep_9 (by decide) ?_
    refine r_istore_n dX12_keep_11 (Nat.le_of_ble_eq_true rfl) rfl ?_
    refine r_le [some (.ref 57), some (.int 32)] ⟨rfl, ⟨rfl, trivial⟩⟩ ?_
    obtain ⟨x2, hx0, h⟩ := kbG_bind h
    refine lpR_MD_keep_12 n (P := fun z => x2 = z) (hx := fun z e => ?_) n _ _ ⟨_, hx0, rfl⟩
    subst e
    refine r_aload_n dX12_keep_42 rfl ?_
    refine r_dup dX12_keep_43 rfl ?_
    refine r_getI flX12_308 sh57 rfl dX12_keep_44 ?_
    refine r_iconst 1 dX12_keep_47 (by decide) ?_
    refine r_isub dX12_keep_48 ?_
    refine r_put flX12_308 sh57 rfl rfl rfl dX12_keep_49 ?_
    refine r_le [some (.ref 57), none] ⟨rfl, trivial⟩ ?_
    exact jnR_MD_keep_52 n  (kbW x2 57 29 ((x2.1 57 29) - 1)) (hr := hr) h
def jn_MD_take_67 (n : Nat) (μ : kbM) : Option (Int32 × kbM) :=
  (f_MD_refuse 1 μ).bind fun x1 =>
  some ((x1.1, x1.2))
theorem jnR_MD_take_67 {l : Launch} (n : Nat)    (μ : kbM) {Q : kbQt} {P : Int32 × kbM → Prop} (hr : ∀ z : Int32 × kbM, P z → Q (some (.int z.1)) z.2) (h : kbG (jn_MD_take_67 n μ) P) : kbR l MX12_take 3 Q 67 [some (.ref 57), none, none, none] [] μ := by
  unfold jn_MD_take_67 at h
  refine r_aload_n dX12_take_67 rfl ?_
  refine r_iconst 1 dX12_take_68 (by decide) ?_
  obtain ⟨x1, hx0, h⟩ := kbG_bind h
  refine r_invV_i cvX12_393 sh57 rfl (sp_MD_refuse 1 μ hx0) rfl rfl (Nat.le_of_ble_eq_true rfl) (Nat.le_of_ble_eq_true rfl) dX12_take_69 ?_
  exact r_iret rfl dX12_take_72 (hr ((x1.1, x1.2)) (kbG_some h))
def f_MD_take (n : Nat) (a1 : Int32) (a2 : Int32) (a3 : Int32) (μ : kbM) : Option (Int32 × kbM) :=
  if ((kbW μ 57 3 0).1 57 27) = 10 then
    jn_MD_take_67 n (kbW μ 57 3 0)
  else
    (f_MD_isRow n a1).bind fun x2 =>
    if x2 = 0 then
      jn_MD_take_67 n (kbW μ 57 3 0)
    else
      if a1 = 0 then
        jn_MD_take_67 n (kbW μ 57 3 0)
      else
        (f_MD_sizeOf n a1).bind fun x3 =>
        if 6 < x3 then
          jn_MD_take_67 n (kbW μ 57 3 0)
        else
          (f_MD_wordBy n a1 (kbW μ 57 3 0)).bind fun x4 =>
          if x4 = (-1) then
            (f_MD_isIn a2.toInt64 0 2).bind fun x5 =>
            if x5 = 0 then
              jn_MD_take_67 n (kbW μ 57 3 0)
            else
              (f_MD_isIn a3.toInt64 0 99).bind fun x6 =>
              if x6 = 0 then
                jn_MD_take_67 n (kbW μ 57 3 0)
              else
                (f_MD_keep n (kbW μ 57 3 0)).bind fun x7 =>
                kbIf (kbIn (x7.1 57 27) 10) <|
                kbIf (kbIn ((kbW x7 70 ((x7.1 57 27).toNatClampNeg) a1).1 57 27) 10) <|
                kbIf (kbIn ((kbW (kbW x7 70 ((x7.1 57 27).toNatClampNeg) a1) 71 (((kbW x7 70 ((x7.1 57 27).toNatClampNeg) a1).1 57 27).toNatClampNeg) a2).1 57 27) 10) <|
                some ((((kbW (kbW (kbW (kbW x7 70 ((x7.1 57 27).toNatClampNeg) a1) 71 (((kbW x7 70 ((x7.1 57 27).toNatClampNeg) a1).1 57 27).toNatClampNeg) a2) 72 (((kbW (kbW x7 70 ((x7.1 57 27).toNatClampNeg) a1) 71 (((kbW x7 70 ((x7.1 57 27).toNatClampNeg) a1).1 57 27).toNatClampNeg) a2).1 57 27).toNatClampNeg) a3) 57 27 (((kbW (kbW (kbW x7 70 ((x7.1 57 27).toNatClampNeg) a1) 71 (((kbW x7 70 ((x7.1 57 27).toNatClampNeg) a1).1 57 27).toNatClampNeg) a2) 72 (((kbW (kbW x7 70 ((x7.1 57 27).toNatClampNeg) a1) 71 (((kbW x7 70 ((x7.1 57 27).toNatClampNeg) a1).1 57 27).toNatClampNeg) a2).1 57 27).toNatClampNeg) a3).1 57 27) + 1)).1 57 27) - 1, kbW (kbW (kbW (kbW x7 70 ((x7.1 57 27).toNatClampNeg) a1) 71 (((kbW x7 70 ((x7.1 57 27).toNatClampNeg) a1).1 57 27).toNatClampNeg) a2) 72 (((kbW (kbW x7 70 ((x7.1 57 27).toNatClampNeg) a1) 71 (((kbW x7 70 ((x7.1 57 27).toNatClampNeg) a1).1 57 27).toNatClampNeg) a2).1 57 27).toNatClampNeg) a3) 57 27 (((kbW (kbW (kbW x7 70 ((x7.1 57 27).toNatClampNeg) a1) 71 (((kbW x7 70 ((x7.1 57 27).toNatClampNeg) a1).1 57 27).toNatClampNeg) a2) 72 (((kbW (kbW x7 70 ((x7.1 57 27).toNatClampNeg) a1) 71 (((kbW x7 70 ((x7.1 57 27).toNatClampNeg) a1).1 57 27).toNatClampNeg) a2).1 57 27).toNatClampNeg) a3).1 57 27) + 1)))
          else
            jn_MD_take_67 n (kbW μ 57 3 0)
theorem sp_MD_take {l : Launch} (n : Nat) (a1 : Int32) (a2 : Int32) (a3 : Int32) (μ : kbM)  {x : Int32 × kbM} (h : f_MD_take n a1 a2 a3 μ = some x) : kbS l MX12_take 3 [.ref 57, .int a1, .int a2, .int a3] μ (kbQe (some (.int x.1)) x.2) := by
  refine kb_enter 0 rfl rfl ?_
  suffices H : ∀ (Q : kbQt) (P : Int32 × kbM → Prop), (∀ z : Int32 × kbM, P z → Q (some (.int z.1)) z.2) → kbG (f_MD_take n a1 a2 a3 μ) P → kbR l MX12_take 3 Q 0 [some (.ref 57), some (.int a1), some (.int a2), some (.int a3)] [] μ from H _ (fun z => z = x) (fun z e => by subst e; exact ⟨rfl, rfl⟩) ⟨x, h, rfl⟩
  clear h
  intro Q P hr h
  unfold f_MD_take at h
  refine r_aload_n dX12_take_0 rfl ?_
  refine r_iconst 0 dX12_take_1 (by decide) ?_
  refine r_put flX12_159 sh57 rfl rfl rfl dX12_take_2 ?_
  refine r_aload_n dX12_take_5 rfl ?_
  refine r_getI flX12_162 sh57 rfl dX12_take_6 ?_
  refine r_bipush 10 dX12_take_9 (by decide) ?_
  refine r_icmp_eq 67 dX12_take_11 (by decide) (fun hc => ?_) (fun hc => ?_)
  · replace h := kbG_t hc h
    refine r_le [some (.ref 57), none, none, none] ⟨rfl, trivial⟩ ?_
    exact jnR_MD_take_67 n  (kbW μ 57 3 0) (hr := hr) h
  · replace h := kbG_f hc h
    refine r_iload_n dX12_take_14 rfl ?_
    obtain ⟨x2, hx0, h⟩ := kbG_bind h
    refine r_inv_i csX12_345 (sp_MD_isRow n a1 (kbW μ 57 3 0) hx0) rfl rfl (Nat.le_of_ble_eq_true rfl) (Nat.le_of_ble_eq_true rfl) dX12_take_15 ?_
    refine r_if_eq 67 dX12_take_18 (by decide) (fun hc => ?_) (fun hc => ?_)
    · replace h := kbG_t hc h
      refine r_le [some (.ref 57), none, none, none] ⟨rfl, trivial⟩ ?_
      exact jnR_MD_take_67 n  (kbW μ 57 3 0) (hr := hr) h
    · replace h := kbG_f hc h
      refine r_iload_n dX12_take_21 rfl ?_
      refine r_if_eq 67 dX12_take_22 (by decide) (fun hc => ?_) (fun hc => ?_)
      · replace h := kbG_t hc h
        refine r_le [some (.ref 57), none, none, none] ⟨rfl, trivial⟩ ?_
        exact jnR_MD_take_67 n  (kbW μ 57 3 0) (hr := hr) h
      · replace h := kbG_f hc h
        refine r_iload_n dX12_take_25 rfl ?_
        obtain ⟨x3, hx0, h⟩ := kbG_bind h
        refine r_inv_i csX12_322 (sp_MD_sizeOf n a1 (kbW μ 57 3 0) hx0) rfl rfl (Nat.le_of_ble_eq_true rfl) (Nat.le_of_ble_eq_true rfl) dX12_take_26 ?_
        refine r_bipush 6 dX12_take_29 (by decide) ?_
        refine r_icmp_gt 67 dX12_take_31 (by decide) (fun hc => ?_) (fun hc => ?_)
        · replace h := kbG_t hc h
          refine r_le [some (.ref 57), none, none, none] ⟨rfl, trivial⟩ ?_
          exact jnR_MD_take_67 n  (kbW μ 57 3 0) (hr := hr) h
        · replace h := kbG_f hc h
          refine r_aload_n dX12_take_34 rfl ?_
          refine r_iload_n dX12_take_35 rfl ?_
          obtain ⟨x4, hx0, h⟩ := kbG_bind h
          refine r_invV_i cvX12_386 sh57 rfl (sp_MD_wordBy n a1 (kbW μ 57 3 0) hx0) rfl rfl (Nat.le_of_ble_eq_true rfl) (Nat.le_of_ble_eq_true rfl) dX12_take_36 ?_
          refine r_iconst (-1) dX12_take_39 (by decide) ?_
          refine r_icmp_ne 67 dX12_take_40 (by decide) (fun hc => ?_) (fun hc => ?_)
          · replace h := kbG_f hc h
            refine r_le [some (.ref 57), none, none, none] ⟨rfl, trivial⟩ ?_
            exact jnR_MD_take_67 n  (kbW μ 57 3 0) (hr := hr) h
          · replace h := kbG_t hc h
            refine r_iload_n dX12_take_43 rfl ?_
            refine r_i2l dX12_take_44 ?_
            refine r_lconst 0 dX12_take_45 (by decide) ?_
            refine r_ldc2 2 liX12_389 dX12_take_46 ?_
            obtain ⟨x5, hx0, h⟩ := kbG_bind h
            refine r_inv_i csX12_165 (sp_MD_isIn a2.toInt64 0 2 (kbW μ 57 3 0) hx0) rfl rfl (Nat.le_of_ble_eq_true rfl) (Nat.le_of_ble_eq_true rfl) dX12_take_49 ?_
            refine r_if_eq 67 dX12_take_52 (by decide) (fun hc => ?_) (fun hc => ?_)
            · replace h := kbG_t hc h
              refine r_le [some (.ref 57), none, none, none] ⟨rfl, trivial⟩ ?_
              exact jnR_MD_take_67 n  (kbW μ 57 3 0) (hr := hr) h
            · replace h := kbG_f hc h
              refine r_iload_n dX12_take_55 rfl ?_
              refine r_i2l dX12_take_56 ?_
              refine r_lconst 0 dX12_take_57 (by decide) ?_
              refine r_ldc2 99 liX12_391 dX12_take_58 ?_
              obtain ⟨x6, hx0, h⟩ := kbG_bind h
              refine r_inv_i csX12_165 (sp_MD_isIn a3.toInt64 0 99 (kbW μ 57 3 0) hx0) rfl rfl (Nat.le_of_ble_eq_true rfl) (Nat.le_of_ble_eq_true rfl) dX12_take_61 ?_
              refine r_if_ne 73 dX12_take_64 (by decide) (fun hc => ?_) (fun hc => ?_)
              · replace h := kbG_f hc h
                refine r_aload_n dX12_take_73 rfl ?_
                obtain ⟨x7, hx0, h⟩ := kbG_bind h
                refine r_invV_v cvX12_396 sh57 rfl (sp_MD_keep n (kbW μ 57 3 0) hx0) rfl rfl (Nat.le_of_ble_eq_true rfl) (Nat.le_of_ble_eq_true rfl) dX12_take_74 ?_
                refine r_aload_n dX12_take_77 rfl ?_
                refine r_getR flX12_79 sh57 rfl dX12_take_78 ?_
                refine r_aload_n dX12_take_81 rfl ?_
                refine r_getI flX12_162 sh57 rfl dX12_take_82 ?_
                refine r_iload_n dX12_take_85 rfl ?_
                obtain ⟨hin, h⟩ := kbG_if h
                replace hin := kbIn_of hin
                refine q_iast ((x7.1 57 27).toNatClampNeg) rfl sh70 hin dX12_take_86 ?_
                refine r_aload_n dX12_take_87 rfl ?_
                refine r_getR flX12_82 sh57 rfl dX12_take_88 ?_
                refine r_aload_n dX12_take_91 rfl ?_
                refine r_getI flX12_162 sh57 rfl dX12_take_92 ?_
                refine r_iload_n dX12_take_95 rfl ?_
                obtain ⟨hin, h⟩ := kbG_if h
                replace hin := kbIn_of hin
                refine q_iast (((kbW x7 70 ((x7.1 57 27).toNatClampNeg) a1).1 57 27).toNatClampNeg) rfl sh71 hin dX12_take_96 ?_
                refine r_aload_n dX12_take_97 rfl ?_
                refine r_getR flX12_85 sh57 rfl dX12_take_98 ?_
                refine r_aload_n dX12_take_101 rfl ?_
                refine r_getI flX12_162 sh57 rfl dX12_take_102 ?_
                refine r_iload_n dX12_take_105 rfl ?_
                obtain ⟨hin, h⟩ := kbG_if h
                replace hin := kbIn_of hin
                refine q_iast (((kbW (kbW x7 70 ((x7.1 57 27).toNatClampNeg) a1) 71 (((kbW x7 70 ((x7.1 57 27).toNatClampNeg) a1).1 57 27).toNatClampNeg) a2).1 57 27).toNatClampNeg) rfl sh72 hin dX12_take_106 ?_
                refine r_aload_n dX12_take_107 rfl ?_
                refine r_dup dX12_take_108 rfl ?_
                refine r_getI flX12_162 sh57 rfl dX12_take_109 ?_
                refine r_iconst 1 dX12_take_112 (by decide) ?_
                refine r_iadd dX12_take_113 ?_
                refine r_put flX12_162 sh57 rfl rfl rfl dX12_take_114 ?_
                refine r_aload_n dX12_take_117 rfl ?_
                refine r_getI flX12_162 sh57 rfl dX12_take_118 ?_
                refine r_iconst 1 dX12_take_121 (by decide) ?_
                refine r_isub dX12_take_122 ?_
                exact r_iret rfl dX12_take_123 (hr ((((kbW (kbW (kbW (kbW x7 70 ((x7.1 57 27).toNatClampNeg) a1) 71 (((kbW x7 70 ((x7.1 57 27).toNatClampNeg) a1).1 57 27).toNatClampNeg) a2) 72 (((kbW (kbW x7 70 ((x7.1 57 27).toNatClampNeg) a1) 71 (((kbW x7 70 ((x7.1 57 27).toNatClampNeg) a1).1 57 27).toNatClampNeg) a2).1 57 27).toNatClampNeg) a3) 57 27 (((kbW (kbW (kbW x7 70 ((x7.1 57 27).toNatClampNeg) a1) 71 (((kbW x7 70 ((x7.1 57 27).toNatClampNeg) a1).1 57 27).toNatClampNeg) a2) 72 (((kbW (kbW x7 70 ((x7.1 57 27).toNatClampNeg) a1) 71 (((kbW x7 70 ((x7.1 57 27).toNatClampNeg) a1).1 57 27).toNatClampNeg) a2).1 57 27).toNatClampNeg) a3).1 57 27) + 1)).1 57 27) - 1, kbW (kbW (kbW (kbW x7 70 ((x7.1 57 27).toNatClampNeg) a1) 71 (((kbW x7 70 ((x7.1 57 27).toNatClampNeg) a1).1 57 27).toNatClampNeg) a2) 72 (((kbW (kbW x7 70 ((x7.1 57 27).toNatClampNeg) a1) 71 (((kbW x7 70 ((x7.1 57 27).toNatClampNeg) a1).1 57 27).toNatClampNeg) a2).1 57 27).toNatClampNeg) a3) 57 27 (((kbW (kbW (kbW x7 70 ((x7.1 57 27).toNatClampNeg) a1) 71 (((kbW x7 70 ((x7.1 57 27).toNatClampNeg) a1).1 57 27).toNatClampNeg) a2) 72 (((kbW (kbW x7 70 ((x7.1 57 27).toNatClampNeg) a1) 71 (((kbW x7 70 ((x7.1 57 27).toNatClampNeg) a1).1 57 27).toNatClampNeg) a2).1 57 27).toNatClampNeg) a3).1 57 27) + 1))) (kbG_some h))
              · replace h := kbG_t hc h
                refine r_le [some (.ref 57), none, none, none] ⟨rfl, trivial⟩ ?_
                exact jnR_MD_take_67 n  (kbW μ 57 3 0) (hr := hr) h
def lp_MD_die_42 (n : Nat) (v2 : Int32) : Nat → Int32 → kbM → Option (kbM)
  | 0, _, _ => none
  | k + 1, v3, μ =>
    if (μ.1 57 27) ≤ v3 then
      some μ
    else
      kbIf (kbIn (v3 + 1) 10) <|
      kbIf (kbIn v3 10) <|
      kbIf (kbIn (v3 + 1) 10) <|
      kbIf (kbIn v3 10) <|
      kbIf (kbIn (v3 + 1) 10) <|
      kbIf (kbIn v3 10) <|
      lp_MD_die_42 n v2 k (v3 + 1) (kbW (kbW (kbW μ 70 v3.toNatClampNeg (μ.1 70 ((v3 + 1).toNatClampNeg))) 71 v3.toNatClampNeg ((kbW μ 70 v3.toNatClampNeg (μ.1 70 ((v3 + 1).toNatClampNeg))).1 71 ((v3 + 1).toNatClampNeg))) 72 v3.toNatClampNeg ((kbW (kbW μ 70 v3.toNatClampNeg (μ.1 70 ((v3 + 1).toNatClampNeg))) 71 v3.toNatClampNeg ((kbW μ 70 v3.toNatClampNeg (μ.1 70 ((v3 + 1).toNatClampNeg))).1 71 ((v3 + 1).toNatClampNeg))).1 72 ((v3 + 1).toNatClampNeg)))
theorem lpR_MD_die_42 {l : Launch} (n : Nat) (v2 : Int32)  {Q : kbQt} {P : kbM → Prop} (hx : ∀ z : kbM, P (z) → kbR l MX12_die 3 Q 98 [none, none, some (.int v2), none] [] z) : ∀ (k : Nat) (v3 : Int32) (μ : kbM), kbG (lp_MD_die_42 n v2 k v3 μ) P → kbR l MX12_die 3 Q 42 [some (.ref 57), none, some (.int v2), some (.int v3)] [] μ := by
  intro k
  induction k with
  | zero => intro v3 μ h; exact absurd h kbG_none
  | succ k ih =>
    intro v3 μ h
    unfold lp_MD_die_42 at h
    refine r_iload_n dX12_die_42 rfl ?_
    refine r_aload_n dX12_die_43 rfl ?_
    refine r_getI flX12_162 sh57 rfl dX12_die_44 ?_
    refine r_icmp_ge 98 dX12_die_47 (by decide) (fun hc => ?_) (fun hc => ?_)
    · replace h := kbG_t hc h
      refine r_le [none, none, some (.int v2), none] ⟨rfl, trivial⟩ ?_
      exact hx μ (kbG_some h)
    · replace h := kbG_f hc h
      refine r_aload_n dX12_die_50 rfl ?_
      refine r_getR flX12_79 sh57 rfl dX12_die_51 ?_
      refine r_iload_n dX12_die_54 rfl ?_
      refine r_aload_n dX12_die_55 rfl ?_
      refine r_getR flX12_79 sh57 rfl dX12_die_56 ?_
      refine r_iload_n dX12_die_59 rfl ?_
      refine r_iconst 1 dX12_die_60 (by decide) ?_
      refine r_iadd dX12_die_61 ?_
      obtain ⟨hin, h⟩ := kbG_if h
      replace hin := kbIn_of hin
      refine q_iald ((v3 + 1).toNatClampNeg) rfl sh70 hin dX12_die_62 ?_
      obtain ⟨hin, h⟩ := kbG_if h
      replace hin := kbIn_of hin
      refine q_iast v3.toNatClampNeg rfl sh70 hin dX12_die_63 ?_
      refine r_aload_n dX12_die_64 rfl ?_
      refine r_getR flX12_82 sh57 rfl dX12_die_65 ?_
      refine r_iload_n dX12_die_68 rfl ?_
      refine r_aload_n dX12_die_69 rfl ?_
      refine r_getR flX12_82 sh57 rfl dX12_die_70 ?_
      refine r_iload_n dX12_die_73 rfl ?_
      refine r_iconst 1 dX12_die_74 (by decide) ?_
      refine r_iadd dX12_die_75 ?_
      obtain ⟨hin, h⟩ := kbG_if h
      replace hin := kbIn_of hin
      refine q_iald ((v3 + 1).toNatClampNeg) rfl sh71 hin dX12_die_76 ?_
      obtain ⟨hin, h⟩ := kbG_if h
      replace hin := kbIn_of hin
      refine q_iast v3.toNatClampNeg rfl sh71 hin dX12_die_77 ?_
      refine r_aload_n dX12_die_78 rfl ?_
      refine r_getR flX12_85 sh57 rfl dX12_die_79 ?_
      refine r_iload_n dX12_die_82 rfl ?_
      refine r_aload_n dX12_die_83 rfl ?_
      refine r_getR flX12_85 sh57 rfl dX12_die_84 ?_
      refine r_iload_n dX12_die_87 rfl ?_
      refine r_iconst 1 dX12_die_88 (by decide) ?_
      refine r_iadd dX12_die_89 ?_
      obtain ⟨hin, h⟩ := kbG_if h
      replace hin := kbIn_of hin
      refine q_iald ((v3 + 1).toNatClampNeg) rfl sh72 hin dX12_die_90 ?_
      obtain ⟨hin, h⟩ := kbG_if h
      replace hin := kbIn_of hin
      refine q_iast v3.toNatClampNeg rfl sh72 hin dX12_die_91 ?_
      refine r_iinc 1 dX12_die_92 rfl (by decide) (Nat.le_of_ble_eq_true rfl) rfl ?_
      refine r_goto 42 dX12_die_95 (by decide) ?_
      refine r_le [some (.ref 57), none, some (.int v2), some (.int (v3 + 1))] ⟨rfl, ⟨rfl, ⟨rfl, trivial⟩⟩⟩ ?_
      exact ih (v3 + 1) (kbW (kbW (kbW μ 70 v3.toNatClampNeg (μ.1 70 ((v3 + 1).toNatClampNeg))) 71 v3.toNatClampNeg ((kbW μ 70 v3.toNatClampNeg (μ.1 70 ((v3 + 1).toNatClampNeg))).1 71 ((v3 + 1).toNatClampNeg))) 72 v3.toNatClampNeg ((kbW (kbW μ 70 v3.toNatClampNeg (μ.1 70 ((v3 + 1).toNatClampNeg))) 71 v3.toNatClampNeg ((kbW μ 70 v3.toNatClampNeg (μ.1 70 ((v3 + 1).toNatClampNeg))).1 71 ((v3 + 1).toNatClampNeg))).1 72 ((v3 + 1).toNatClampNeg))) h
def f_MD_die (n : Nat) (a1 : Int32) (μ : kbM) : Option (Int32 × kbM) :=
  (f_MD_isWord a1 (kbW μ 57 3 0)).bind fun x1 =>
  if x1 = 0 then
    (f_MD_fail 1 (kbW μ 57 3 0)).bind fun x4 =>
    some ((x4.1, x4.2))
  else
    (f_MD_keep n (kbW μ 57 3 0)).bind fun x2 =>
    kbIf (kbIn a1 10) <|
    (lp_MD_die_42 n (x2.1 70 a1.toNatClampNeg) n a1 (kbW x2 57 27 ((x2.1 57 27) - 1))).bind fun x3 =>
    some ((x2.1 70 a1.toNatClampNeg, x3))
theorem sp_MD_die {l : Launch} (n : Nat) (a1 : Int32) (μ : kbM)  {x : Int32 × kbM} (h : f_MD_die n a1 μ = some x) : kbS l MX12_die 3 [.ref 57, .int a1] μ (kbQe (some (.int x.1)) x.2) := by
  refine kb_enter 2 rfl rfl ?_
  suffices H : ∀ (Q : kbQt) (P : Int32 × kbM → Prop), (∀ z : Int32 × kbM, P z → Q (some (.int z.1)) z.2) → kbG (f_MD_die n a1 μ) P → kbR l MX12_die 3 Q 0 [some (.ref 57), some (.int a1), none, none] [] μ from H _ (fun z => z = x) (fun z e => by subst e; exact ⟨rfl, rfl⟩) ⟨x, h, rfl⟩
  clear h
  intro Q P hr h
  unfold f_MD_die at h
  refine r_aload_n dX12_die_0 rfl ?_
  refine r_iconst 0 dX12_die_1 (by decide) ?_
  refine r_put flX12_159 sh57 rfl rfl rfl dX12_die_2 ?_
  refine r_aload_n dX12_die_5 rfl ?_
  refine r_iload_n dX12_die_6 rfl ?_
  obtain ⟨x1, hx0, h⟩ := kbG_bind h
  refine r_invV_i cvX12_331 sh57 rfl (sp_MD_isWord a1 (kbW μ 57 3 0) hx0) rfl rfl (Nat.le_of_ble_eq_true rfl) (Nat.le_of_ble_eq_true rfl) dX12_die_7 ?_
  refine r_if_ne 19 dX12_die_10 (by decide) (fun hc => ?_) (fun hc => ?_)
  · replace h := kbG_f hc h
    refine r_aload_n dX12_die_19 rfl ?_
    obtain ⟨x2, hx0, h⟩ := kbG_bind h
    refine r_invV_v cvX12_396 sh57 rfl (sp_MD_keep n (kbW μ 57 3 0) hx0) rfl rfl (Nat.le_of_ble_eq_true rfl) (Nat.le_of_ble_eq_true rfl) dX12_die_20 ?_
    refine r_aload_n dX12_die_23 rfl ?_
    refine r_getR flX12_79 sh57 rfl dX12_die_24 ?_
    refine r_iload_n dX12_die_27 rfl ?_
    obtain ⟨hin, h⟩ := kbG_if h
    replace hin := kbIn_of hin
    refine q_iald a1.toNatClampNeg rfl sh70 hin dX12_die_28 ?_
    refine r_istore_n dX12_die_29 (Nat.le_of_ble_eq_true rfl) rfl ?_
    refine r_aload_n dX12_die_30 rfl ?_
    refine r_dup dX12_die_31 rfl ?_
    refine r_getI flX12_162 sh57 rfl dX12_die_32 ?_
    refine r_iconst 1 dX12_die_35 (by decide) ?_
    refine r_isub dX12_die_36 ?_
    refine r_put flX12_162 sh57 rfl rfl rfl dX12_die_37 ?_
    refine r_iload_n dX12_die_40 rfl ?_
    refine r_istore_n dX12_die_41 (Nat.le_of_ble_eq_true rfl) rfl ?_
    refine r_le [some (.ref 57), none, some (.int (x2.1 70 a1.toNatClampNeg)), some (.int a1)] ⟨rfl, ⟨rfl, ⟨rfl, trivial⟩⟩⟩ ?_
    obtain ⟨x3, hx0, h⟩ := kbG_bind h
    refine lpR_MD_die_42 n (x2.1 70 a1.toNatClampNeg) (P := fun z => x3 = z) (hx := fun z e => ?_) n _ _ ⟨_, hx0, rfl⟩
    subst e
    refine r_iload_n dX12_die_98 rfl ?_
    exact r_iret rfl dX12_die_99 (hr ((x2.1 70 a1.toNatClampNeg, x3)) (kbG_some h))
  · replace h := kbG_t hc h
    refine r_aload_n dX12_die_13 rfl ?_
    refine r_iconst 1 dX12_die_14 (by decide) ?_
    obtain ⟨x4, hx0, h⟩ := kbG_bind h
    refine r_invV_i cvX12_292 sh57 rfl (sp_MD_fail 1 (kbW μ 57 3 0) hx0) rfl rfl (Nat.le_of_ble_eq_true rfl) (Nat.le_of_ble_eq_true rfl) dX12_die_15 ?_
    exact r_iret rfl dX12_die_18 (hr ((x4.1, x4.2)) (kbG_some h))
