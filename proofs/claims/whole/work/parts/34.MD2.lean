theorem dX12_takeOver_0 : decode cX12_takeOver 0 = .ok (.aload_n 0, 1) := by decide +kernel
theorem dX12_takeOver_1 : decode cX12_takeOver 1 = .ok (.getfield 47, 3) := by decide +kernel
theorem dX12_takeOver_4 : decode cX12_takeOver 4 = .ok (.invokestatic 301, 3) := by decide +kernel
theorem dX12_takeOver_7 : decode cX12_takeOver 7 = .ok (.aload_n 0, 1) := by decide +kernel
theorem dX12_takeOver_8 : decode cX12_takeOver 8 = .ok (.getfield 51, 3) := by decide +kernel
theorem dX12_takeOver_11 : decode cX12_takeOver 11 = .ok (.invokestatic 301, 3) := by decide +kernel
theorem dX12_takeOver_14 : decode cX12_takeOver 14 = .ok (.aload_n 0, 1) := by decide +kernel
theorem dX12_takeOver_15 : decode cX12_takeOver 15 = .ok (.getfield 54, 3) := by decide +kernel
theorem dX12_takeOver_18 : decode cX12_takeOver 18 = .ok (.invokestatic 301, 3) := by decide +kernel
theorem dX12_takeOver_21 : decode cX12_takeOver 21 = .ok (.aload_n 0, 1) := by decide +kernel
theorem dX12_takeOver_22 : decode cX12_takeOver 22 = .ok (.getfield 57, 3) := by decide +kernel
theorem dX12_takeOver_25 : decode cX12_takeOver 25 = .ok (.invokestatic 301, 3) := by decide +kernel
theorem dX12_takeOver_28 : decode cX12_takeOver 28 = .ok (.aload_n 0, 1) := by decide +kernel
theorem dX12_takeOver_29 : decode cX12_takeOver 29 = .ok (.getfield 60, 3) := by decide +kernel
theorem dX12_takeOver_32 : decode cX12_takeOver 32 = .ok (.invokestatic 301, 3) := by decide +kernel
theorem dX12_takeOver_35 : decode cX12_takeOver 35 = .ok (.aload_n 0, 1) := by decide +kernel
theorem dX12_takeOver_36 : decode cX12_takeOver 36 = .ok (.getfield 63, 3) := by decide +kernel
theorem dX12_takeOver_39 : decode cX12_takeOver 39 = .ok (.invokestatic 301, 3) := by decide +kernel
theorem dX12_takeOver_42 : decode cX12_takeOver 42 = .ok (.aload_n 0, 1) := by decide +kernel
theorem dX12_takeOver_43 : decode cX12_takeOver 43 = .ok (.getfield 66, 3) := by decide +kernel
theorem dX12_takeOver_46 : decode cX12_takeOver 46 = .ok (.invokestatic 301, 3) := by decide +kernel
theorem dX12_takeOver_49 : decode cX12_takeOver 49 = .ok (.aload_n 0, 1) := by decide +kernel
theorem dX12_takeOver_50 : decode cX12_takeOver 50 = .ok (.aload_n 0, 1) := by decide +kernel
theorem dX12_takeOver_51 : decode cX12_takeOver 51 = .ok (.getfield 47, 3) := by decide +kernel
theorem dX12_takeOver_54 : decode cX12_takeOver 54 = .ok (.iconst 0, 1) := by decide +kernel
theorem dX12_takeOver_55 : decode cX12_takeOver 55 = .ok (.iaload, 1) := by decide +kernel
theorem dX12_takeOver_56 : decode cX12_takeOver 56 = .ok (.putfield 162, 3) := by decide +kernel
theorem dX12_takeOver_59 : decode cX12_takeOver 59 = .ok (.aload_n 0, 1) := by decide +kernel
theorem dX12_takeOver_60 : decode cX12_takeOver 60 = .ok (.iconst 0, 1) := by decide +kernel
theorem dX12_takeOver_61 : decode cX12_takeOver 61 = .ok (.putfield 305, 3) := by decide +kernel
theorem dX12_takeOver_64 : decode cX12_takeOver 64 = .ok (.iconst 0, 1) := by decide +kernel
theorem dX12_takeOver_65 : decode cX12_takeOver 65 = .ok (.istore_n 1, 1) := by decide +kernel
theorem dX12_takeOver_66 : decode cX12_takeOver 66 = .ok (.iload_n 1, 1) := by decide +kernel
theorem dX12_takeOver_67 : decode cX12_takeOver 67 = .ok (.bipush 10, 2) := by decide +kernel
theorem dX12_takeOver_69 : decode cX12_takeOver 69 = .ok (.if_icmp .ge 81, 3) := by decide +kernel
theorem dX12_takeOver_72 : decode cX12_takeOver 72 = .ok (.aload_n 0, 1) := by decide +kernel
theorem dX12_takeOver_73 : decode cX12_takeOver 73 = .ok (.getfield 79, 3) := by decide +kernel
theorem dX12_takeOver_76 : decode cX12_takeOver 76 = .ok (.iload_n 1, 1) := by decide +kernel
theorem dX12_takeOver_77 : decode cX12_takeOver 77 = .ok (.iload_n 1, 1) := by decide +kernel
theorem dX12_takeOver_78 : decode cX12_takeOver 78 = .ok (.aload_n 0, 1) := by decide +kernel
theorem dX12_takeOver_79 : decode cX12_takeOver 79 = .ok (.getfield 162, 3) := by decide +kernel
theorem dX12_takeOver_82 : decode cX12_takeOver 82 = .ok (.if_icmp .ge 12, 3) := by decide +kernel
theorem dX12_takeOver_85 : decode cX12_takeOver 85 = .ok (.aload_n 0, 1) := by decide +kernel
theorem dX12_takeOver_86 : decode cX12_takeOver 86 = .ok (.getfield 51, 3) := by decide +kernel
theorem dX12_takeOver_89 : decode cX12_takeOver 89 = .ok (.iload_n 1, 1) := by decide +kernel
theorem dX12_takeOver_90 : decode cX12_takeOver 90 = .ok (.iaload, 1) := by decide +kernel
theorem dX12_takeOver_91 : decode cX12_takeOver 91 = .ok (.goto 4, 3) := by decide +kernel
theorem dX12_takeOver_94 : decode cX12_takeOver 94 = .ok (.iconst 0, 1) := by decide +kernel
theorem dX12_takeOver_95 : decode cX12_takeOver 95 = .ok (.iastore, 1) := by decide +kernel
theorem dX12_takeOver_96 : decode cX12_takeOver 96 = .ok (.aload_n 0, 1) := by decide +kernel
theorem dX12_takeOver_97 : decode cX12_takeOver 97 = .ok (.getfield 82, 3) := by decide +kernel
theorem dX12_takeOver_100 : decode cX12_takeOver 100 = .ok (.iload_n 1, 1) := by decide +kernel
theorem dX12_takeOver_101 : decode cX12_takeOver 101 = .ok (.iload_n 1, 1) := by decide +kernel
theorem dX12_takeOver_102 : decode cX12_takeOver 102 = .ok (.aload_n 0, 1) := by decide +kernel
theorem dX12_takeOver_103 : decode cX12_takeOver 103 = .ok (.getfield 162, 3) := by decide +kernel
theorem dX12_takeOver_106 : decode cX12_takeOver 106 = .ok (.if_icmp .ge 12, 3) := by decide +kernel
theorem dX12_takeOver_109 : decode cX12_takeOver 109 = .ok (.aload_n 0, 1) := by decide +kernel
theorem dX12_takeOver_110 : decode cX12_takeOver 110 = .ok (.getfield 54, 3) := by decide +kernel
theorem dX12_takeOver_113 : decode cX12_takeOver 113 = .ok (.iload_n 1, 1) := by decide +kernel
theorem dX12_takeOver_114 : decode cX12_takeOver 114 = .ok (.iaload, 1) := by decide +kernel
theorem dX12_takeOver_115 : decode cX12_takeOver 115 = .ok (.goto 4, 3) := by decide +kernel
theorem dX12_takeOver_118 : decode cX12_takeOver 118 = .ok (.iconst 0, 1) := by decide +kernel
theorem dX12_takeOver_119 : decode cX12_takeOver 119 = .ok (.iastore, 1) := by decide +kernel
theorem dX12_takeOver_120 : decode cX12_takeOver 120 = .ok (.aload_n 0, 1) := by decide +kernel
theorem dX12_takeOver_121 : decode cX12_takeOver 121 = .ok (.getfield 85, 3) := by decide +kernel
theorem dX12_takeOver_124 : decode cX12_takeOver 124 = .ok (.iload_n 1, 1) := by decide +kernel
theorem dX12_takeOver_125 : decode cX12_takeOver 125 = .ok (.iload_n 1, 1) := by decide +kernel
theorem dX12_takeOver_126 : decode cX12_takeOver 126 = .ok (.aload_n 0, 1) := by decide +kernel
theorem dX12_takeOver_127 : decode cX12_takeOver 127 = .ok (.getfield 162, 3) := by decide +kernel
theorem dX12_takeOver_130 : decode cX12_takeOver 130 = .ok (.if_icmp .ge 12, 3) := by decide +kernel
theorem dX12_takeOver_133 : decode cX12_takeOver 133 = .ok (.aload_n 0, 1) := by decide +kernel
theorem dX12_takeOver_134 : decode cX12_takeOver 134 = .ok (.getfield 57, 3) := by decide +kernel
theorem dX12_takeOver_137 : decode cX12_takeOver 137 = .ok (.iload_n 1, 1) := by decide +kernel
theorem dX12_takeOver_138 : decode cX12_takeOver 138 = .ok (.iaload, 1) := by decide +kernel
theorem dX12_takeOver_139 : decode cX12_takeOver 139 = .ok (.goto 4, 3) := by decide +kernel
theorem dX12_takeOver_142 : decode cX12_takeOver 142 = .ok (.iconst 0, 1) := by decide +kernel
theorem dX12_takeOver_143 : decode cX12_takeOver 143 = .ok (.iastore, 1) := by decide +kernel
theorem dX12_takeOver_144 : decode cX12_takeOver 144 = .ok (.iinc 1 1, 3) := by decide +kernel
theorem dX12_takeOver_147 : decode cX12_takeOver 147 = .ok (.goto (-81), 3) := by decide +kernel
theorem dX12_takeOver_150 : decode cX12_takeOver 150 = .ok (.aload_n 0, 1) := by decide +kernel
theorem dX12_takeOver_151 : decode cX12_takeOver 151 = .ok (.iconst 0, 1) := by decide +kernel
theorem dX12_takeOver_152 : decode cX12_takeOver 152 = .ok (.putfield 308, 3) := by decide +kernel
theorem dX12_takeOver_155 : decode cX12_takeOver 155 = .ok (.aload_n 0, 1) := by decide +kernel
theorem dX12_takeOver_156 : decode cX12_takeOver 156 = .ok (.iconst 0, 1) := by decide +kernel
theorem dX12_takeOver_157 : decode cX12_takeOver 157 = .ok (.putfield 311, 3) := by decide +kernel
theorem dX12_takeOver_160 : decode cX12_takeOver 160 = .ok (.aload_n 0, 1) := by decide +kernel
theorem dX12_takeOver_161 : decode cX12_takeOver 161 = .ok (.iconst 0, 1) := by decide +kernel
theorem dX12_takeOver_162 : decode cX12_takeOver 162 = .ok (.putfield 314, 3) := by decide +kernel
theorem dX12_takeOver_165 : decode cX12_takeOver 165 = .ok (.return_, 1) := by decide +kernel
theorem dX12_book_0 : decode cX12_book 0 = .ok (.aload_n 0, 1) := by decide +kernel
theorem dX12_book_1 : decode cX12_book 1 = .ok (.iconst 0, 1) := by decide +kernel
theorem dX12_book_2 : decode cX12_book 2 = .ok (.putfield 159, 3) := by decide +kernel
theorem dX12_book_5 : decode cX12_book 5 = .ok (.iload_n 1, 1) := by decide +kernel
theorem dX12_book_6 : decode cX12_book 6 = .ok (.ifCond .lt 11, 3) := by decide +kernel
theorem dX12_book_9 : decode cX12_book 9 = .ok (.iload_n 1, 1) := by decide +kernel
theorem dX12_book_10 : decode cX12_book 10 = .ok (.aload_n 0, 1) := by decide +kernel
theorem dX12_book_11 : decode cX12_book 11 = .ok (.getfield 170, 3) := by decide +kernel
theorem dX12_book_14 : decode cX12_book 14 = .ok (.if_icmp .le 9, 3) := by decide +kernel
theorem dX12_book_17 : decode cX12_book 17 = .ok (.aload_n 0, 1) := by decide +kernel
theorem dX12_book_18 : decode cX12_book 18 = .ok (.iconst 1, 1) := by decide +kernel
theorem dX12_book_19 : decode cX12_book 19 = .ok (.invokevirtual 292, 3) := by decide +kernel
theorem dX12_book_22 : decode cX12_book 22 = .ok (.ireturn, 1) := by decide +kernel
theorem dX12_book_23 : decode cX12_book 23 = .ok (.aload_n 0, 1) := by decide +kernel
theorem dX12_book_24 : decode cX12_book 24 = .ok (.iconst 0, 1) := by decide +kernel
theorem dX12_book_25 : decode cX12_book 25 = .ok (.putfield 170, 3) := by decide +kernel
theorem dX12_book_28 : decode cX12_book 28 = .ok (.aload_n 0, 1) := by decide +kernel
theorem dX12_book_29 : decode cX12_book 29 = .ok (.iload_n 1, 1) := by decide +kernel
theorem dX12_book_30 : decode cX12_book 30 = .ok (.putfield 173, 3) := by decide +kernel
theorem dX12_book_33 : decode cX12_book 33 = .ok (.aload_n 0, 1) := by decide +kernel
theorem dX12_book_34 : decode cX12_book 34 = .ok (.iconst 0, 1) := by decide +kernel
theorem dX12_book_35 : decode cX12_book 35 = .ok (.putfield 176, 3) := by decide +kernel
theorem dX12_book_38 : decode cX12_book 38 = .ok (.aload_n 0, 1) := by decide +kernel
theorem dX12_book_39 : decode cX12_book 39 = .ok (.iconst 0, 1) := by decide +kernel
theorem dX12_book_40 : decode cX12_book 40 = .ok (.putfield 212, 3) := by decide +kernel
theorem dX12_book_43 : decode cX12_book 43 = .ok (.aload_n 0, 1) := by decide +kernel
theorem dX12_book_44 : decode cX12_book 44 = .ok (.iconst (-1), 1) := by decide +kernel
theorem dX12_book_45 : decode cX12_book 45 = .ok (.putfield 75, 3) := by decide +kernel
theorem dX12_book_48 : decode cX12_book 48 = .ok (.iconst 0, 1) := by decide +kernel
theorem dX12_book_49 : decode cX12_book 49 = .ok (.istore_n 2, 1) := by decide +kernel
theorem dX12_book_50 : decode cX12_book 50 = .ok (.iload_n 2, 1) := by decide +kernel
theorem dX12_book_51 : decode cX12_book 51 = .ok (.iconst 3, 1) := by decide +kernel
theorem dX12_book_52 : decode cX12_book 52 = .ok (.if_icmp .ge 18, 3) := by decide +kernel
theorem dX12_book_55 : decode cX12_book 55 = .ok (.aload_n 0, 1) := by decide +kernel
theorem dX12_book_56 : decode cX12_book 56 = .ok (.getfield 47, 3) := by decide +kernel
theorem dX12_book_59 : decode cX12_book 59 = .ok (.iconst 3, 1) := by decide +kernel
theorem dX12_book_60 : decode cX12_book 60 = .ok (.iload_n 2, 1) := by decide +kernel
theorem dX12_book_61 : decode cX12_book 61 = .ok (.iadd, 1) := by decide +kernel
theorem dX12_book_62 : decode cX12_book 62 = .ok (.iconst 0, 1) := by decide +kernel
theorem dX12_book_63 : decode cX12_book 63 = .ok (.iastore, 1) := by decide +kernel
theorem dX12_book_64 : decode cX12_book 64 = .ok (.iinc 2 1, 3) := by decide +kernel
theorem dX12_book_67 : decode cX12_book 67 = .ok (.goto (-17), 3) := by decide +kernel
theorem dX12_book_70 : decode cX12_book 70 = .ok (.aload_n 0, 1) := by decide +kernel
theorem dX12_book_71 : decode cX12_book 71 = .ok (.invokevirtual 237, 3) := by decide +kernel
theorem dX12_book_74 : decode cX12_book 74 = .ok (.iconst 0, 1) := by decide +kernel
theorem dX12_book_75 : decode cX12_book 75 = .ok (.istore_n 2, 1) := by decide +kernel
theorem dX12_book_76 : decode cX12_book 76 = .ok (.aload_n 0, 1) := by decide +kernel
theorem dX12_book_77 : decode cX12_book 77 = .ok (.getfield 212, 3) := by decide +kernel
theorem dX12_book_80 : decode cX12_book 80 = .ok (.ifCond .ne 19, 3) := by decide +kernel
theorem dX12_book_83 : decode cX12_book 83 = .ok (.aload_n 0, 1) := by decide +kernel
theorem dX12_book_84 : decode cX12_book 84 = .ok (.getfield 186, 3) := by decide +kernel
theorem dX12_book_87 : decode cX12_book 87 = .ok (.ifCond .eq 12, 3) := by decide +kernel
theorem dX12_book_90 : decode cX12_book 90 = .ok (.aload_n 0, 1) := by decide +kernel
theorem dX12_book_91 : decode cX12_book 91 = .ok (.iload_n 2, 1) := by decide +kernel
theorem dX12_book_92 : decode cX12_book 92 = .ok (.invokevirtual 295, 3) := by decide +kernel
theorem dX12_book_95 : decode cX12_book 95 = .ok (.istore_n 2, 1) := by decide +kernel
theorem dX12_book_96 : decode cX12_book 96 = .ok (.goto (-20), 3) := by decide +kernel
theorem dX12_book_99 : decode cX12_book 99 = .ok (.aload_n 0, 1) := by decide +kernel
theorem dX12_book_100 : decode cX12_book 100 = .ok (.getfield 212, 3) := by decide +kernel
theorem dX12_book_103 : decode cX12_book 103 = .ok (.ifCond .eq 26, 3) := by decide +kernel
theorem dX12_book_106 : decode cX12_book 106 = .ok (.aload_n 0, 1) := by decide +kernel
theorem dX12_book_107 : decode cX12_book 107 = .ok (.aload_n 0, 1) := by decide +kernel
theorem dX12_book_108 : decode cX12_book 108 = .ok (.getfield 215, 3) := by decide +kernel
theorem dX12_book_111 : decode cX12_book 111 = .ok (.putfield 75, 3) := by decide +kernel
theorem dX12_book_114 : decode cX12_book 114 = .ok (.aload_n 0, 1) := by decide +kernel
theorem dX12_book_115 : decode cX12_book 115 = .ok (.getfield 69, 3) := by decide +kernel
theorem dX12_book_118 : decode cX12_book 118 = .ok (.iconst 0, 1) := by decide +kernel
theorem dX12_book_119 : decode cX12_book 119 = .ok (.dup2, 1) := by decide +kernel
theorem dX12_book_120 : decode cX12_book 120 = .ok (.iaload, 1) := by decide +kernel
theorem dX12_book_121 : decode cX12_book 121 = .ok (.iconst 1, 1) := by decide +kernel
theorem dX12_book_122 : decode cX12_book 122 = .ok (.iadd, 1) := by decide +kernel
theorem dX12_book_123 : decode cX12_book 123 = .ok (.iastore, 1) := by decide +kernel
theorem dX12_book_124 : decode cX12_book 124 = .ok (.aload_n 0, 1) := by decide +kernel
theorem dX12_book_125 : decode cX12_book 125 = .ok (.getfield 212, 3) := by decide +kernel
theorem dX12_book_128 : decode cX12_book 128 = .ok (.ireturn, 1) := by decide +kernel
theorem dX12_book_129 : decode cX12_book 129 = .ok (.aload_n 0, 1) := by decide +kernel
theorem dX12_book_130 : decode cX12_book 130 = .ok (.invokevirtual 298, 3) := by decide +kernel
theorem dX12_book_133 : decode cX12_book 133 = .ok (.iconst 0, 1) := by decide +kernel
theorem dX12_book_134 : decode cX12_book 134 = .ok (.ireturn, 1) := by decide +kernel
theorem dX12_fault_0 : decode cX12_fault 0 = .ok (.aload_n 0, 1) := by decide +kernel
theorem dX12_fault_1 : decode cX12_fault 1 = .ok (.iconst 0, 1) := by decide +kernel
theorem dX12_fault_2 : decode cX12_fault 2 = .ok (.putfield 159, 3) := by decide +kernel
theorem dX12_fault_5 : decode cX12_fault 5 = .ok (.aload_n 0, 1) := by decide +kernel
theorem dX12_fault_6 : decode cX12_fault 6 = .ok (.getfield 75, 3) := by decide +kernel
theorem dX12_fault_9 : decode cX12_fault 9 = .ok (.ireturn, 1) := by decide +kernel
theorem dX12_sizeOf_0 : decode cX12_sizeOf 0 = .ok (.iconst 0, 1) := by decide +kernel
theorem dX12_sizeOf_1 : decode cX12_sizeOf 1 = .ok (.istore_n 1, 1) := by decide +kernel
theorem dX12_sizeOf_2 : decode cX12_sizeOf 2 = .ok (.iload_n 0, 1) := by decide +kernel
theorem dX12_sizeOf_3 : decode cX12_sizeOf 3 = .ok (.istore_n 2, 1) := by decide +kernel
theorem dX12_sizeOf_4 : decode cX12_sizeOf 4 = .ok (.iload_n 2, 1) := by decide +kernel
theorem dX12_sizeOf_5 : decode cX12_sizeOf 5 = .ok (.ifCond .le 13, 3) := by decide +kernel
theorem dX12_sizeOf_8 : decode cX12_sizeOf 8 = .ok (.iinc 1 1, 3) := by decide +kernel
theorem dX12_sizeOf_11 : decode cX12_sizeOf 11 = .ok (.iload_n 2, 1) := by decide +kernel
theorem dX12_sizeOf_12 : decode cX12_sizeOf 12 = .ok (.iconst 5, 1) := by decide +kernel
theorem dX12_sizeOf_13 : decode cX12_sizeOf 13 = .ok (.idiv, 1) := by decide +kernel
theorem dX12_sizeOf_14 : decode cX12_sizeOf 14 = .ok (.istore_n 2, 1) := by decide +kernel
theorem dX12_sizeOf_15 : decode cX12_sizeOf 15 = .ok (.goto (-11), 3) := by decide +kernel
theorem dX12_sizeOf_18 : decode cX12_sizeOf 18 = .ok (.iload_n 1, 1) := by decide +kernel
theorem dX12_sizeOf_19 : decode cX12_sizeOf 19 = .ok (.ireturn, 1) := by decide +kernel
theorem dX12_count_0 : decode cX12_count 0 = .ok (.aload_n 0, 1) := by decide +kernel
theorem dX12_count_1 : decode cX12_count 1 = .ok (.iconst 0, 1) := by decide +kernel
theorem dX12_count_2 : decode cX12_count 2 = .ok (.putfield 159, 3) := by decide +kernel
theorem dX12_count_5 : decode cX12_count 5 = .ok (.iconst 0, 1) := by decide +kernel
theorem dX12_count_6 : decode cX12_count 6 = .ok (.istore_n 2, 1) := by decide +kernel
theorem dX12_count_7 : decode cX12_count 7 = .ok (.iload_n 1, 1) := by decide +kernel
theorem dX12_count_8 : decode cX12_count 8 = .ok (.tableswitch 159 0 10 #[60, 65, 72, 77, 104, 134, 139, 144, 149, 149, 149], 60) := by decide +kernel
theorem dX12_count_68 : decode cX12_count 68 = .ok (.aload_n 0, 1) := by decide +kernel
theorem dX12_count_69 : decode cX12_count 69 = .ok (.getfield 162, 3) := by decide +kernel
theorem dX12_count_72 : decode cX12_count 72 = .ok (.ireturn, 1) := by decide +kernel
theorem dX12_count_73 : decode cX12_count 73 = .ok (.aload_n 0, 1) := by decide +kernel
theorem dX12_count_74 : decode cX12_count 74 = .ok (.getfield 47, 3) := by decide +kernel
theorem dX12_count_77 : decode cX12_count 77 = .ok (.iconst 1, 1) := by decide +kernel
theorem dX12_count_78 : decode cX12_count 78 = .ok (.iaload, 1) := by decide +kernel
theorem dX12_count_79 : decode cX12_count 79 = .ok (.ireturn, 1) := by decide +kernel
theorem dX12_count_80 : decode cX12_count 80 = .ok (.aload_n 0, 1) := by decide +kernel
theorem dX12_count_81 : decode cX12_count 81 = .ok (.getfield 305, 3) := by decide +kernel
theorem dX12_count_84 : decode cX12_count 84 = .ok (.ireturn, 1) := by decide +kernel
theorem dX12_count_85 : decode cX12_count 85 = .ok (.iconst 0, 1) := by decide +kernel
theorem dX12_count_86 : decode cX12_count 86 = .ok (.istore_n 3, 1) := by decide +kernel
theorem dX12_count_87 : decode cX12_count 87 = .ok (.iload_n 3, 1) := by decide +kernel
theorem dX12_count_88 : decode cX12_count 88 = .ok (.aload_n 0, 1) := by decide +kernel
theorem dX12_count_89 : decode cX12_count 89 = .ok (.getfield 162, 3) := by decide +kernel
theorem dX12_count_92 : decode cX12_count 92 = .ok (.if_icmp .ge 18, 3) := by decide +kernel
theorem dX12_count_95 : decode cX12_count 95 = .ok (.iload_n 2, 1) := by decide +kernel
theorem dX12_count_96 : decode cX12_count 96 = .ok (.aload_n 0, 1) := by decide +kernel
theorem dX12_count_97 : decode cX12_count 97 = .ok (.getfield 85, 3) := by decide +kernel
theorem dX12_count_100 : decode cX12_count 100 = .ok (.iload_n 3, 1) := by decide +kernel
theorem dX12_count_101 : decode cX12_count 101 = .ok (.iaload, 1) := by decide +kernel
theorem dX12_count_102 : decode cX12_count 102 = .ok (.iadd, 1) := by decide +kernel
theorem dX12_count_103 : decode cX12_count 103 = .ok (.istore_n 2, 1) := by decide +kernel
theorem dX12_count_104 : decode cX12_count 104 = .ok (.iinc 3 1, 3) := by decide +kernel
theorem dX12_count_107 : decode cX12_count 107 = .ok (.goto (-20), 3) := by decide +kernel
theorem dX12_count_110 : decode cX12_count 110 = .ok (.iload_n 2, 1) := by decide +kernel
theorem dX12_count_111 : decode cX12_count 111 = .ok (.ireturn, 1) := by decide +kernel
theorem dX12_count_112 : decode cX12_count 112 = .ok (.iconst 0, 1) := by decide +kernel
theorem dX12_count_113 : decode cX12_count 113 = .ok (.istore_n 3, 1) := by decide +kernel
theorem dX12_count_114 : decode cX12_count 114 = .ok (.iload_n 3, 1) := by decide +kernel
theorem dX12_count_115 : decode cX12_count 115 = .ok (.aload_n 0, 1) := by decide +kernel
theorem dX12_count_116 : decode cX12_count 116 = .ok (.getfield 162, 3) := by decide +kernel
theorem dX12_count_119 : decode cX12_count 119 = .ok (.if_icmp .ge 21, 3) := by decide +kernel
theorem dX12_count_122 : decode cX12_count 122 = .ok (.iload_n 2, 1) := by decide +kernel
theorem dX12_count_123 : decode cX12_count 123 = .ok (.aload_n 0, 1) := by decide +kernel
theorem dX12_count_124 : decode cX12_count 124 = .ok (.getfield 79, 3) := by decide +kernel
theorem dX12_count_127 : decode cX12_count 127 = .ok (.iload_n 3, 1) := by decide +kernel
theorem dX12_count_128 : decode cX12_count 128 = .ok (.iaload, 1) := by decide +kernel
theorem dX12_count_129 : decode cX12_count 129 = .ok (.invokestatic 322, 3) := by decide +kernel
theorem dX12_count_132 : decode cX12_count 132 = .ok (.iadd, 1) := by decide +kernel
theorem dX12_count_133 : decode cX12_count 133 = .ok (.istore_n 2, 1) := by decide +kernel
theorem dX12_count_134 : decode cX12_count 134 = .ok (.iinc 3 1, 3) := by decide +kernel
theorem dX12_count_137 : decode cX12_count 137 = .ok (.goto (-23), 3) := by decide +kernel
theorem dX12_count_140 : decode cX12_count 140 = .ok (.iload_n 2, 1) := by decide +kernel
theorem dX12_count_141 : decode cX12_count 141 = .ok (.ireturn, 1) := by decide +kernel
theorem dX12_count_142 : decode cX12_count 142 = .ok (.aload_n 0, 1) := by decide +kernel
theorem dX12_count_143 : decode cX12_count 143 = .ok (.getfield 308, 3) := by decide +kernel
theorem dX12_count_146 : decode cX12_count 146 = .ok (.ireturn, 1) := by decide +kernel
theorem dX12_count_147 : decode cX12_count 147 = .ok (.aload_n 0, 1) := by decide +kernel
theorem dX12_count_148 : decode cX12_count 148 = .ok (.getfield 311, 3) := by decide +kernel
theorem dX12_count_151 : decode cX12_count 151 = .ok (.ireturn, 1) := by decide +kernel
theorem dX12_count_152 : decode cX12_count 152 = .ok (.aload_n 0, 1) := by decide +kernel
theorem dX12_count_153 : decode cX12_count 153 = .ok (.getfield 170, 3) := by decide +kernel
theorem dX12_count_156 : decode cX12_count 156 = .ok (.ireturn, 1) := by decide +kernel
theorem dX12_count_157 : decode cX12_count 157 = .ok (.aload_n 0, 1) := by decide +kernel
theorem dX12_count_158 : decode cX12_count 158 = .ok (.getfield 69, 3) := by decide +kernel
theorem dX12_count_161 : decode cX12_count 161 = .ok (.iload_n 1, 1) := by decide +kernel
theorem dX12_count_162 : decode cX12_count 162 = .ok (.bipush 8, 2) := by decide +kernel
theorem dX12_count_164 : decode cX12_count 164 = .ok (.isub, 1) := by decide +kernel
theorem dX12_count_165 : decode cX12_count 165 = .ok (.iaload, 1) := by decide +kernel
theorem dX12_count_166 : decode cX12_count 166 = .ok (.ireturn, 1) := by decide +kernel
theorem dX12_count_167 : decode cX12_count 167 = .ok (.aload_n 0, 1) := by decide +kernel
theorem dX12_count_168 : decode cX12_count 168 = .ok (.iconst 1, 1) := by decide +kernel
theorem dX12_count_169 : decode cX12_count 169 = .ok (.invokevirtual 292, 3) := by decide +kernel
theorem dX12_count_172 : decode cX12_count 172 = .ok (.ireturn, 1) := by decide +kernel
theorem dX12_isIn_0 : decode cX12_isIn 0 = .ok (.lload_n 0, 1) := by decide +kernel
theorem dX12_isIn_1 : decode cX12_isIn 1 = .ok (.lload_n 2, 1) := by decide +kernel
theorem dX12_isIn_2 : decode cX12_isIn 2 = .ok (.lcmp, 1) := by decide +kernel
theorem dX12_isIn_3 : decode cX12_isIn 3 = .ok (.ifCond .lt 14, 3) := by decide +kernel
theorem dX12_isIn_6 : decode cX12_isIn 6 = .ok (.lload_n 0, 1) := by decide +kernel
theorem dX12_isIn_7 : decode cX12_isIn 7 = .ok (.lload 4, 2) := by decide +kernel
theorem dX12_isIn_9 : decode cX12_isIn 9 = .ok (.lcmp, 1) := by decide +kernel
theorem dX12_isIn_10 : decode cX12_isIn 10 = .ok (.ifCond .gt 7, 3) := by decide +kernel
theorem dX12_isIn_13 : decode cX12_isIn 13 = .ok (.iconst 1, 1) := by decide +kernel
theorem dX12_isIn_14 : decode cX12_isIn 14 = .ok (.goto 4, 3) := by decide +kernel
theorem dX12_isIn_17 : decode cX12_isIn 17 = .ok (.iconst 0, 1) := by decide +kernel
theorem dX12_isIn_18 : decode cX12_isIn 18 = .ok (.ireturn, 1) := by decide +kernel
theorem dX12_isWord_0 : decode cX12_isWord 0 = .ok (.iload_n 1, 1) := by decide +kernel
theorem dX12_isWord_1 : decode cX12_isWord 1 = .ok (.i2l, 1) := by decide +kernel
theorem dX12_isWord_2 : decode cX12_isWord 2 = .ok (.lconst 0, 1) := by decide +kernel
theorem dX12_isWord_3 : decode cX12_isWord 3 = .ok (.aload_n 0, 1) := by decide +kernel
theorem dX12_isWord_4 : decode cX12_isWord 4 = .ok (.getfield 162, 3) := by decide +kernel
theorem dX12_isWord_7 : decode cX12_isWord 7 = .ok (.iconst 1, 1) := by decide +kernel
theorem dX12_isWord_8 : decode cX12_isWord 8 = .ok (.isub, 1) := by decide +kernel
theorem dX12_isWord_9 : decode cX12_isWord 9 = .ok (.i2l, 1) := by decide +kernel
theorem dX12_isWord_10 : decode cX12_isWord 10 = .ok (.invokestatic 165, 3) := by decide +kernel
theorem dX12_isWord_13 : decode cX12_isWord 13 = .ok (.ireturn, 1) := by decide +kernel
theorem dX12_isOf_0 : decode cX12_isOf 0 = .ok (.iload_n 0, 1) := by decide +kernel
theorem dX12_isOf_1 : decode cX12_isOf 1 = .ok (.iload_n 1, 1) := by decide +kernel
theorem dX12_isOf_2 : decode cX12_isOf 2 = .ok (.ishr, 1) := by decide +kernel
theorem dX12_isOf_3 : decode cX12_isOf 3 = .ok (.iconst 1, 1) := by decide +kernel
theorem dX12_isOf_4 : decode cX12_isOf 4 = .ok (.iand, 1) := by decide +kernel
theorem dX12_isOf_5 : decode cX12_isOf 5 = .ok (.iconst 1, 1) := by decide +kernel
theorem dX12_isOf_6 : decode cX12_isOf 6 = .ok (.if_icmp .ne 7, 3) := by decide +kernel
theorem dX12_isOf_9 : decode cX12_isOf 9 = .ok (.iconst 1, 1) := by decide +kernel
theorem dX12_isOf_10 : decode cX12_isOf 10 = .ok (.goto 4, 3) := by decide +kernel
theorem dX12_isOf_13 : decode cX12_isOf 13 = .ok (.iconst 0, 1) := by decide +kernel
theorem dX12_isOf_14 : decode cX12_isOf 14 = .ok (.ireturn, 1) := by decide +kernel
theorem dX12_can_0 : decode cX12_can 0 = .ok (.iload_n 1, 1) := by decide +kernel
theorem dX12_can_1 : decode cX12_can 1 = .ok (.istore_n 2, 1) := by decide +kernel
theorem dX12_can_2 : decode cX12_can 2 = .ok (.iload_n 2, 1) := by decide +kernel
theorem dX12_can_3 : decode cX12_can 3 = .ok (.ifCond .le 24, 3) := by decide +kernel
theorem dX12_can_6 : decode cX12_can 6 = .ok (.iload_n 0, 1) := by decide +kernel
theorem dX12_can_7 : decode cX12_can 7 = .ok (.iload_n 2, 1) := by decide +kernel
theorem dX12_can_8 : decode cX12_can 8 = .ok (.iconst 5, 1) := by decide +kernel
theorem dX12_can_9 : decode cX12_can 9 = .ok (.irem, 1) := by decide +kernel
theorem dX12_can_10 : decode cX12_can 10 = .ok (.iconst 1, 1) := by decide +kernel
theorem dX12_can_11 : decode cX12_can 11 = .ok (.isub, 1) := by decide +kernel
theorem dX12_can_12 : decode cX12_can 12 = .ok (.invokestatic 318, 3) := by decide +kernel
theorem dX12_can_15 : decode cX12_can 15 = .ok (.ifCond .ne 5, 3) := by decide +kernel
theorem dX12_can_18 : decode cX12_can 18 = .ok (.iconst 0, 1) := by decide +kernel
theorem dX12_can_19 : decode cX12_can 19 = .ok (.ireturn, 1) := by decide +kernel
theorem dX12_can_20 : decode cX12_can 20 = .ok (.iload_n 2, 1) := by decide +kernel
theorem dX12_can_21 : decode cX12_can 21 = .ok (.iconst 5, 1) := by decide +kernel
theorem dX12_can_22 : decode cX12_can 22 = .ok (.idiv, 1) := by decide +kernel
theorem dX12_can_23 : decode cX12_can 23 = .ok (.istore_n 2, 1) := by decide +kernel
theorem dX12_can_24 : decode cX12_can 24 = .ok (.goto (-22), 3) := by decide +kernel
theorem dX12_can_27 : decode cX12_can 27 = .ok (.iconst 1, 1) := by decide +kernel
theorem dX12_can_28 : decode cX12_can 28 = .ok (.ireturn, 1) := by decide +kernel
theorem dX12_word_0 : decode cX12_word 0 = .ok (.aload_n 0, 1) := by decide +kernel
theorem dX12_word_1 : decode cX12_word 1 = .ok (.iconst 0, 1) := by decide +kernel
theorem dX12_word_2 : decode cX12_word 2 = .ok (.putfield 159, 3) := by decide +kernel
theorem dX12_word_5 : decode cX12_word 5 = .ok (.aload_n 0, 1) := by decide +kernel
theorem dX12_word_6 : decode cX12_word 6 = .ok (.iload_n 1, 1) := by decide +kernel
theorem dX12_word_7 : decode cX12_word 7 = .ok (.invokevirtual 331, 3) := by decide +kernel
theorem dX12_word_10 : decode cX12_word 10 = .ok (.ifCond .eq 15, 3) := by decide +kernel
theorem dX12_word_13 : decode cX12_word 13 = .ok (.iload_n 2, 1) := by decide +kernel
theorem dX12_word_14 : decode cX12_word 14 = .ok (.i2l, 1) := by decide +kernel
theorem dX12_word_15 : decode cX12_word 15 = .ok (.lconst 0, 1) := by decide +kernel
theorem dX12_word_16 : decode cX12_word 16 = .ok (.ldc2_w 334, 3) := by decide +kernel
theorem dX12_word_19 : decode cX12_word 19 = .ok (.invokestatic 165, 3) := by decide +kernel
theorem dX12_word_22 : decode cX12_word 22 = .ok (.ifCond .ne 9, 3) := by decide +kernel
theorem dX12_word_25 : decode cX12_word 25 = .ok (.aload_n 0, 1) := by decide +kernel
theorem dX12_word_26 : decode cX12_word 26 = .ok (.iconst 1, 1) := by decide +kernel
theorem dX12_word_27 : decode cX12_word 27 = .ok (.invokevirtual 292, 3) := by decide +kernel
theorem dX12_word_30 : decode cX12_word 30 = .ok (.ireturn, 1) := by decide +kernel
theorem dX12_word_31 : decode cX12_word 31 = .ok (.iconst 0, 1) := by decide +kernel
theorem dX12_word_32 : decode cX12_word 32 = .ok (.istore_n 3, 1) := by decide +kernel
theorem dX12_word_33 : decode cX12_word 33 = .ok (.iconst 0, 1) := by decide +kernel
theorem dX12_word_34 : decode cX12_word 34 = .ok (.istore 4, 2) := by decide +kernel
theorem dX12_word_36 : decode cX12_word 36 = .ok (.iload 4, 2) := by decide +kernel
theorem dX12_word_38 : decode cX12_word 38 = .ok (.aload_n 0, 1) := by decide +kernel
theorem dX12_word_39 : decode cX12_word 39 = .ok (.getfield 47, 3) := by decide +kernel
theorem dX12_word_42 : decode cX12_word 42 = .ok (.iconst 1, 1) := by decide +kernel
theorem dX12_word_43 : decode cX12_word 43 = .ok (.iaload, 1) := by decide +kernel
theorem dX12_word_44 : decode cX12_word 44 = .ok (.if_icmp .ge 39, 3) := by decide +kernel
theorem dX12_word_47 : decode cX12_word 47 = .ok (.iload_n 3, 1) := by decide +kernel
theorem dX12_word_48 : decode cX12_word 48 = .ok (.aload_n 0, 1) := by decide +kernel
theorem dX12_word_49 : decode cX12_word 49 = .ok (.getfield 63, 3) := by decide +kernel
theorem dX12_word_52 : decode cX12_word 52 = .ok (.iload 4, 2) := by decide +kernel
theorem dX12_word_54 : decode cX12_word 54 = .ok (.iaload, 1) := by decide +kernel
theorem dX12_word_55 : decode cX12_word 55 = .ok (.aload_n 0, 1) := by decide +kernel
theorem dX12_word_56 : decode cX12_word 56 = .ok (.getfield 79, 3) := by decide +kernel
theorem dX12_word_59 : decode cX12_word 59 = .ok (.iload_n 1, 1) := by decide +kernel
theorem dX12_word_60 : decode cX12_word 60 = .ok (.iaload, 1) := by decide +kernel
theorem dX12_word_61 : decode cX12_word 61 = .ok (.invokestatic 325, 3) := by decide +kernel
theorem dX12_word_64 : decode cX12_word 64 = .ok (.ifCond .eq 10, 3) := by decide +kernel
theorem dX12_word_67 : decode cX12_word 67 = .ok (.iconst 1, 1) := by decide +kernel
theorem dX12_word_68 : decode cX12_word 68 = .ok (.iload 4, 2) := by decide +kernel
theorem dX12_word_70 : decode cX12_word 70 = .ok (.ishl, 1) := by decide +kernel
theorem dX12_word_71 : decode cX12_word 71 = .ok (.goto 4, 3) := by decide +kernel
theorem dX12_word_74 : decode cX12_word 74 = .ok (.iconst 0, 1) := by decide +kernel
theorem dX12_word_75 : decode cX12_word 75 = .ok (.ior, 1) := by decide +kernel
theorem dX12_word_76 : decode cX12_word 76 = .ok (.istore_n 3, 1) := by decide +kernel
theorem dX12_word_77 : decode cX12_word 77 = .ok (.iinc 4 1, 3) := by decide +kernel
theorem dX12_word_80 : decode cX12_word 80 = .ok (.goto (-44), 3) := by decide +kernel
theorem dX12_word_83 : decode cX12_word 83 = .ok (.iload_n 2, 1) := by decide +kernel
theorem dX12_word_84 : decode cX12_word 84 = .ok (.ifCond .ne 12, 3) := by decide +kernel
theorem dX12_word_87 : decode cX12_word 87 = .ok (.aload_n 0, 1) := by decide +kernel
theorem dX12_word_88 : decode cX12_word 88 = .ok (.getfield 79, 3) := by decide +kernel
theorem dX12_word_91 : decode cX12_word 91 = .ok (.iload_n 1, 1) := by decide +kernel
theorem dX12_word_92 : decode cX12_word 92 = .ok (.iaload, 1) := by decide +kernel
theorem dX12_word_93 : decode cX12_word 93 = .ok (.goto 49, 3) := by decide +kernel
theorem dX12_word_96 : decode cX12_word 96 = .ok (.iload_n 2, 1) := by decide +kernel
theorem dX12_word_97 : decode cX12_word 97 = .ok (.iconst 1, 1) := by decide +kernel
theorem dX12_word_98 : decode cX12_word 98 = .ok (.if_icmp .ne 15, 3) := by decide +kernel
theorem dX12_word_101 : decode cX12_word 101 = .ok (.aload_n 0, 1) := by decide +kernel
theorem dX12_word_102 : decode cX12_word 102 = .ok (.getfield 79, 3) := by decide +kernel
theorem dX12_word_105 : decode cX12_word 105 = .ok (.iload_n 1, 1) := by decide +kernel
theorem dX12_word_106 : decode cX12_word 106 = .ok (.iaload, 1) := by decide +kernel
theorem dX12_word_107 : decode cX12_word 107 = .ok (.invokestatic 322, 3) := by decide +kernel
theorem dX12_word_110 : decode cX12_word 110 = .ok (.goto 32, 3) := by decide +kernel
theorem dX12_word_113 : decode cX12_word 113 = .ok (.iload_n 2, 1) := by decide +kernel
theorem dX12_word_114 : decode cX12_word 114 = .ok (.iconst 2, 1) := by decide +kernel
theorem dX12_word_115 : decode cX12_word 115 = .ok (.if_icmp .ne 12, 3) := by decide +kernel
theorem dX12_word_118 : decode cX12_word 118 = .ok (.aload_n 0, 1) := by decide +kernel
theorem dX12_word_119 : decode cX12_word 119 = .ok (.getfield 82, 3) := by decide +kernel
theorem dX12_word_122 : decode cX12_word 122 = .ok (.iload_n 1, 1) := by decide +kernel
theorem dX12_word_123 : decode cX12_word 123 = .ok (.iaload, 1) := by decide +kernel
theorem dX12_word_124 : decode cX12_word 124 = .ok (.goto 18, 3) := by decide +kernel
theorem dX12_word_127 : decode cX12_word 127 = .ok (.iload_n 2, 1) := by decide +kernel
theorem dX12_word_128 : decode cX12_word 128 = .ok (.iconst 3, 1) := by decide +kernel
theorem dX12_word_129 : decode cX12_word 129 = .ok (.if_icmp .ne 12, 3) := by decide +kernel
theorem dX12_word_132 : decode cX12_word 132 = .ok (.aload_n 0, 1) := by decide +kernel
theorem dX12_word_133 : decode cX12_word 133 = .ok (.getfield 85, 3) := by decide +kernel
theorem dX12_word_136 : decode cX12_word 136 = .ok (.iload_n 1, 1) := by decide +kernel
theorem dX12_word_137 : decode cX12_word 137 = .ok (.iaload, 1) := by decide +kernel
theorem dX12_word_138 : decode cX12_word 138 = .ok (.goto 4, 3) := by decide +kernel
theorem dX12_word_141 : decode cX12_word 141 = .ok (.iload_n 3, 1) := by decide +kernel
theorem dX12_word_142 : decode cX12_word 142 = .ok (.ireturn, 1) := by decide +kernel
theorem dX12_isDoor_0 : decode cX12_isDoor 0 = .ok (.iload_n 1, 1) := by decide +kernel
theorem dX12_isDoor_1 : decode cX12_isDoor 1 = .ok (.i2l, 1) := by decide +kernel
theorem dX12_isDoor_2 : decode cX12_isDoor 2 = .ok (.lconst 0, 1) := by decide +kernel
theorem dX12_isDoor_3 : decode cX12_isDoor 3 = .ok (.aload_n 0, 1) := by decide +kernel
theorem dX12_isDoor_4 : decode cX12_isDoor 4 = .ok (.getfield 47, 3) := by decide +kernel
theorem dX12_isDoor_7 : decode cX12_isDoor 7 = .ok (.iconst 1, 1) := by decide +kernel
theorem dX12_isDoor_8 : decode cX12_isDoor 8 = .ok (.iaload, 1) := by decide +kernel
theorem dX12_isDoor_9 : decode cX12_isDoor 9 = .ok (.iconst 1, 1) := by decide +kernel
theorem dX12_isDoor_10 : decode cX12_isDoor 10 = .ok (.isub, 1) := by decide +kernel
theorem dX12_isDoor_11 : decode cX12_isDoor 11 = .ok (.i2l, 1) := by decide +kernel
theorem dX12_isDoor_12 : decode cX12_isDoor 12 = .ok (.invokestatic 165, 3) := by decide +kernel
theorem dX12_isDoor_15 : decode cX12_isDoor 15 = .ok (.ireturn, 1) := by decide +kernel
theorem dX12_heardAt_0 : decode cX12_heardAt 0 = .ok (.aload_n 0, 1) := by decide +kernel
theorem dX12_heardAt_1 : decode cX12_heardAt 1 = .ok (.getfield 60, 3) := by decide +kernel
theorem dX12_heardAt_4 : decode cX12_heardAt 4 = .ok (.iload_n 1, 1) := by decide +kernel
theorem dX12_heardAt_5 : decode cX12_heardAt 5 = .ok (.iaload, 1) := by decide +kernel
theorem dX12_heardAt_6 : decode cX12_heardAt 6 = .ok (.iconst 1, 1) := by decide +kernel
theorem dX12_heardAt_7 : decode cX12_heardAt 7 = .ok (.if_icmp .ne 9, 3) := by decide +kernel
theorem dX12_heardAt_10 : decode cX12_heardAt 10 = .ok (.iload_n 2, 1) := by decide +kernel
theorem dX12_heardAt_11 : decode cX12_heardAt 11 = .ok (.iconst 5, 1) := by decide +kernel
theorem dX12_heardAt_12 : decode cX12_heardAt 12 = .ok (.idiv, 1) := by decide +kernel
theorem dX12_heardAt_13 : decode cX12_heardAt 13 = .ok (.goto 4, 3) := by decide +kernel
theorem dX12_heardAt_16 : decode cX12_heardAt 16 = .ok (.iload_n 2, 1) := by decide +kernel
theorem dX12_heardAt_17 : decode cX12_heardAt 17 = .ok (.istore_n 3, 1) := by decide +kernel
theorem dX12_heardAt_18 : decode cX12_heardAt 18 = .ok (.iconst 0, 1) := by decide +kernel
theorem dX12_heardAt_19 : decode cX12_heardAt 19 = .ok (.istore 4, 2) := by decide +kernel
theorem dX12_heardAt_21 : decode cX12_heardAt 21 = .ok (.iconst 1, 1) := by decide +kernel
theorem dX12_heardAt_22 : decode cX12_heardAt 22 = .ok (.istore 5, 2) := by decide +kernel
theorem dX12_heardAt_24 : decode cX12_heardAt 24 = .ok (.iload_n 3, 1) := by decide +kernel
theorem dX12_heardAt_25 : decode cX12_heardAt 25 = .ok (.ifCond .le 70, 3) := by decide +kernel
theorem dX12_heardAt_28 : decode cX12_heardAt 28 = .ok (.iload_n 3, 1) := by decide +kernel
theorem dX12_heardAt_29 : decode cX12_heardAt 29 = .ok (.iconst 5, 1) := by decide +kernel
theorem dX12_heardAt_30 : decode cX12_heardAt 30 = .ok (.irem, 1) := by decide +kernel
theorem dX12_heardAt_31 : decode cX12_heardAt 31 = .ok (.istore 6, 2) := by decide +kernel
theorem dX12_heardAt_33 : decode cX12_heardAt 33 = .ok (.aload_n 0, 1) := by decide +kernel
theorem dX12_heardAt_34 : decode cX12_heardAt 34 = .ok (.getfield 60, 3) := by decide +kernel
theorem dX12_heardAt_37 : decode cX12_heardAt 37 = .ok (.iload_n 1, 1) := by decide +kernel
theorem dX12_heardAt_38 : decode cX12_heardAt 38 = .ok (.iaload, 1) := by decide +kernel
theorem dX12_heardAt_39 : decode cX12_heardAt 39 = .ok (.iconst 2, 1) := by decide +kernel
theorem dX12_heardAt_40 : decode cX12_heardAt 40 = .ok (.if_icmp .ne 12, 3) := by decide +kernel
theorem dX12_heardAt_43 : decode cX12_heardAt 43 = .ok (.iload 6, 2) := by decide +kernel
theorem dX12_heardAt_45 : decode cX12_heardAt 45 = .ok (.iconst 2, 1) := by decide +kernel
theorem dX12_heardAt_46 : decode cX12_heardAt 46 = .ok (.if_icmp .ne 6, 3) := by decide +kernel
theorem dX12_heardAt_49 : decode cX12_heardAt 49 = .ok (.goto 39, 3) := by decide +kernel
theorem dX12_heardAt_52 : decode cX12_heardAt 52 = .ok (.iload 4, 2) := by decide +kernel
theorem dX12_heardAt_54 : decode cX12_heardAt 54 = .ok (.iload 5, 2) := by decide +kernel
theorem dX12_heardAt_56 : decode cX12_heardAt 56 = .ok (.aload_n 0, 1) := by decide +kernel
theorem dX12_heardAt_57 : decode cX12_heardAt 57 = .ok (.getfield 60, 3) := by decide +kernel
theorem dX12_heardAt_60 : decode cX12_heardAt 60 = .ok (.iload_n 1, 1) := by decide +kernel
theorem dX12_heardAt_61 : decode cX12_heardAt 61 = .ok (.iaload, 1) := by decide +kernel
theorem dX12_heardAt_62 : decode cX12_heardAt 62 = .ok (.iconst 3, 1) := by decide +kernel
theorem dX12_heardAt_63 : decode cX12_heardAt 63 = .ok (.if_icmp .ne 13, 3) := by decide +kernel
theorem dX12_heardAt_66 : decode cX12_heardAt 66 = .ok (.iload 6, 2) := by decide +kernel
theorem dX12_heardAt_68 : decode cX12_heardAt 68 = .ok (.iconst 3, 1) := by decide +kernel
theorem dX12_heardAt_69 : decode cX12_heardAt 69 = .ok (.if_icmp .ne 7, 3) := by decide +kernel
theorem dX12_heardAt_72 : decode cX12_heardAt 72 = .ok (.iconst 1, 1) := by decide +kernel
theorem dX12_heardAt_73 : decode cX12_heardAt 73 = .ok (.goto 5, 3) := by decide +kernel
theorem dX12_heardAt_76 : decode cX12_heardAt 76 = .ok (.iload 6, 2) := by decide +kernel
theorem dX12_heardAt_78 : decode cX12_heardAt 78 = .ok (.imul, 1) := by decide +kernel
theorem dX12_heardAt_79 : decode cX12_heardAt 79 = .ok (.iadd, 1) := by decide +kernel
theorem dX12_heardAt_80 : decode cX12_heardAt 80 = .ok (.istore 4, 2) := by decide +kernel
theorem dX12_heardAt_82 : decode cX12_heardAt 82 = .ok (.iload 5, 2) := by decide +kernel
theorem dX12_heardAt_84 : decode cX12_heardAt 84 = .ok (.iconst 5, 1) := by decide +kernel
theorem dX12_heardAt_85 : decode cX12_heardAt 85 = .ok (.imul, 1) := by decide +kernel
theorem dX12_heardAt_86 : decode cX12_heardAt 86 = .ok (.istore 5, 2) := by decide +kernel
theorem dX12_heardAt_88 : decode cX12_heardAt 88 = .ok (.iload_n 3, 1) := by decide +kernel
theorem dX12_heardAt_89 : decode cX12_heardAt 89 = .ok (.iconst 5, 1) := by decide +kernel
theorem dX12_heardAt_90 : decode cX12_heardAt 90 = .ok (.idiv, 1) := by decide +kernel
theorem dX12_heardAt_91 : decode cX12_heardAt 91 = .ok (.istore_n 3, 1) := by decide +kernel
theorem dX12_heardAt_92 : decode cX12_heardAt 92 = .ok (.goto (-68), 3) := by decide +kernel
theorem dX12_heardAt_95 : decode cX12_heardAt 95 = .ok (.aload_n 0, 1) := by decide +kernel
theorem dX12_heardAt_96 : decode cX12_heardAt 96 = .ok (.getfield 305, 3) := by decide +kernel
theorem dX12_heardAt_99 : decode cX12_heardAt 99 = .ok (.iload_n 1, 1) := by decide +kernel
theorem dX12_heardAt_100 : decode cX12_heardAt 100 = .ok (.invokestatic 318, 3) := by decide +kernel
theorem dX12_heardAt_103 : decode cX12_heardAt 103 = .ok (.ifCond .eq 22, 3) := by decide +kernel
theorem dX12_heardAt_106 : decode cX12_heardAt 106 = .ok (.iload 4, 2) := by decide +kernel
theorem dX12_heardAt_108 : decode cX12_heardAt 108 = .ok (.invokestatic 322, 3) := by decide +kernel
theorem dX12_heardAt_111 : decode cX12_heardAt 111 = .ok (.bipush 12, 2) := by decide +kernel
theorem dX12_heardAt_113 : decode cX12_heardAt 113 = .ok (.if_icmp .ge 12, 3) := by decide +kernel
theorem dX12_heardAt_116 : decode cX12_heardAt 116 = .ok (.iconst 5, 1) := by decide +kernel
theorem dX12_heardAt_117 : decode cX12_heardAt 117 = .ok (.iload 4, 2) := by decide +kernel
theorem dX12_heardAt_119 : decode cX12_heardAt 119 = .ok (.imul, 1) := by decide +kernel
theorem dX12_heardAt_120 : decode cX12_heardAt 120 = .ok (.iconst 1, 1) := by decide +kernel
theorem dX12_heardAt_121 : decode cX12_heardAt 121 = .ok (.iadd, 1) := by decide +kernel
theorem dX12_heardAt_122 : decode cX12_heardAt 122 = .ok (.goto 5, 3) := by decide +kernel
theorem dX12_heardAt_125 : decode cX12_heardAt 125 = .ok (.iload 4, 2) := by decide +kernel
theorem dX12_heardAt_127 : decode cX12_heardAt 127 = .ok (.ireturn, 1) := by decide +kernel
theorem dX12_confounded_0 : decode cX12_confounded 0 = .ok (.iconst 0, 1) := by decide +kernel
theorem dX12_confounded_1 : decode cX12_confounded 1 = .ok (.istore_n 2, 1) := by decide +kernel
theorem dX12_confounded_2 : decode cX12_confounded 2 = .ok (.iconst 0, 1) := by decide +kernel
theorem dX12_confounded_3 : decode cX12_confounded 3 = .ok (.istore_n 3, 1) := by decide +kernel
theorem dX12_confounded_4 : decode cX12_confounded 4 = .ok (.iload_n 3, 1) := by decide +kernel
theorem dX12_confounded_5 : decode cX12_confounded 5 = .ok (.aload_n 0, 1) := by decide +kernel
theorem dX12_confounded_6 : decode cX12_confounded 6 = .ok (.getfield 162, 3) := by decide +kernel
theorem dX12_confounded_9 : decode cX12_confounded 9 = .ok (.if_icmp .ge 63, 3) := by decide +kernel
theorem dX12_confounded_12 : decode cX12_confounded 12 = .ok (.iload_n 3, 1) := by decide +kernel
theorem dX12_confounded_13 : decode cX12_confounded 13 = .ok (.iconst 1, 1) := by decide +kernel
theorem dX12_confounded_14 : decode cX12_confounded 14 = .ok (.iadd, 1) := by decide +kernel
theorem dX12_confounded_15 : decode cX12_confounded 15 = .ok (.istore 4, 2) := by decide +kernel
theorem dX12_confounded_17 : decode cX12_confounded 17 = .ok (.iload 4, 2) := by decide +kernel
theorem dX12_confounded_19 : decode cX12_confounded 19 = .ok (.aload_n 0, 1) := by decide +kernel
theorem dX12_confounded_20 : decode cX12_confounded 20 = .ok (.getfield 162, 3) := by decide +kernel
theorem dX12_confounded_23 : decode cX12_confounded 23 = .ok (.if_icmp .ge 43, 3) := by decide +kernel
theorem dX12_confounded_26 : decode cX12_confounded 26 = .ok (.iload_n 2, 1) := by decide +kernel
theorem dX12_confounded_27 : decode cX12_confounded 27 = .ok (.aload_n 0, 1) := by decide +kernel
theorem dX12_confounded_28 : decode cX12_confounded 28 = .ok (.iload_n 1, 1) := by decide +kernel
theorem dX12_confounded_29 : decode cX12_confounded 29 = .ok (.aload_n 0, 1) := by decide +kernel
theorem dX12_confounded_30 : decode cX12_confounded 30 = .ok (.getfield 79, 3) := by decide +kernel
theorem dX12_confounded_33 : decode cX12_confounded 33 = .ok (.iload_n 3, 1) := by decide +kernel
theorem dX12_confounded_34 : decode cX12_confounded 34 = .ok (.iaload, 1) := by decide +kernel
theorem dX12_confounded_35 : decode cX12_confounded 35 = .ok (.invokevirtual 328, 3) := by decide +kernel
theorem dX12_confounded_38 : decode cX12_confounded 38 = .ok (.aload_n 0, 1) := by decide +kernel
theorem dX12_confounded_39 : decode cX12_confounded 39 = .ok (.iload_n 1, 1) := by decide +kernel
theorem dX12_confounded_40 : decode cX12_confounded 40 = .ok (.aload_n 0, 1) := by decide +kernel
theorem dX12_confounded_41 : decode cX12_confounded 41 = .ok (.getfield 79, 3) := by decide +kernel
theorem dX12_confounded_44 : decode cX12_confounded 44 = .ok (.iload 4, 2) := by decide +kernel
theorem dX12_confounded_46 : decode cX12_confounded 46 = .ok (.iaload, 1) := by decide +kernel
theorem dX12_confounded_47 : decode cX12_confounded 47 = .ok (.invokevirtual 328, 3) := by decide +kernel
theorem dX12_confounded_50 : decode cX12_confounded 50 = .ok (.if_icmp .ne 7, 3) := by decide +kernel
theorem dX12_confounded_53 : decode cX12_confounded 53 = .ok (.iconst 1, 1) := by decide +kernel
theorem dX12_confounded_54 : decode cX12_confounded 54 = .ok (.goto 4, 3) := by decide +kernel
theorem dX12_confounded_57 : decode cX12_confounded 57 = .ok (.iconst 0, 1) := by decide +kernel
theorem dX12_confounded_58 : decode cX12_confounded 58 = .ok (.iadd, 1) := by decide +kernel
theorem dX12_confounded_59 : decode cX12_confounded 59 = .ok (.istore_n 2, 1) := by decide +kernel
theorem dX12_confounded_60 : decode cX12_confounded 60 = .ok (.iinc 4 1, 3) := by decide +kernel
theorem dX12_confounded_63 : decode cX12_confounded 63 = .ok (.goto (-46), 3) := by decide +kernel
theorem dX12_confounded_66 : decode cX12_confounded 66 = .ok (.iinc 3 1, 3) := by decide +kernel
theorem dX12_confounded_69 : decode cX12_confounded 69 = .ok (.goto (-65), 3) := by decide +kernel
theorem dX12_confounded_72 : decode cX12_confounded 72 = .ok (.iload_n 2, 1) := by decide +kernel
theorem dX12_confounded_73 : decode cX12_confounded 73 = .ok (.ireturn, 1) := by decide +kernel
def lp_MD_takeHalf_65_2 (n : Nat) : Nat → Int32 → kbM → Option (kbM)
  | 0, _, _ => none
  | k + 1, v1, μ =>
    if (12 / 2) ≤ v1 then
      some μ
    else
      kbIf (kbIn ((12 / 2) + v1) 12) <|
      kbIf (kbIn v1 12) <|
      lp_MD_takeHalf_65_2 n k (v1 + 1) (kbW μ 65 v1.toNatClampNeg (μ.1 65 (((12 / 2) + v1).toNatClampNeg)))
theorem lpR_MD_takeHalf_65_2 {l : Launch} (n : Nat)   {Q : kbQt} {P : kbM → Prop} (hx : ∀ z : kbM, P (z) → kbR l MX12_takeHalf 1 Q 27 [none, none] [] z) : ∀ (k : Nat) (v1 : Int32) (μ : kbM), kbG (lp_MD_takeHalf_65_2 n k v1 μ) P → kbR l MX12_takeHalf 1 Q 2 [some (.ref 65), some (.int v1)] [] μ := by
  intro k
  induction k with
  | zero => intro v1 μ h; exact absurd h kbG_none
  | succ k ih =>
    intro v1 μ h
    unfold lp_MD_takeHalf_65_2 at h
    refine r_iload_n dX12_takeHalf_2 rfl ?_
    refine r_aload_n dX12_takeHalf_3 rfl ?_
    refine r_alen 12 sh65 (by decide) (by decide) dX12_takeHalf_4 ?_
    refine r_iconst 2 dX12_takeHalf_5 (by decide) ?_
    refine r_idiv dX12_takeHalf_6 (by decide) ?_
    refine r_icmp_ge 27 dX12_takeHalf_7 (by decide) (fun hc => ?_) (fun hc => ?_)
    · replace h := kbG_t hc h
      refine r_le [none, none] trivial ?_
      exact hx μ (kbG_some h)
    · replace h := kbG_f hc h
      refine r_aload_n dX12_takeHalf_10 rfl ?_
      refine r_iload_n dX12_takeHalf_11 rfl ?_
      refine r_aload_n dX12_takeHalf_12 rfl ?_
      refine r_aload_n dX12_takeHalf_13 rfl ?_
      refine r_alen 12 sh65 (by decide) (by decide) dX12_takeHalf_14 ?_
      refine r_iconst 2 dX12_takeHalf_15 (by decide) ?_
      refine r_idiv dX12_takeHalf_16 (by decide) ?_
      refine r_iload_n dX12_takeHalf_17 rfl ?_
      refine r_iadd dX12_takeHalf_18 ?_
      obtain ⟨hin, h⟩ := kbG_if h
      replace hin := kbIn_of hin
      refine q_iald (((12 / 2) + v1).toNatClampNeg) rfl sh65 hin dX12_takeHalf_19 ?_
      obtain ⟨hin, h⟩ := kbG_if h
      replace hin := kbIn_of hin
      refine q_iast v1.toNatClampNeg rfl sh65 hin dX12_takeHalf_20 ?_
      refine r_iinc 1 dX12_takeHalf_21 rfl (by decide) (Nat.le_of_ble_eq_true rfl) rfl ?_
      refine r_goto 2 dX12_takeHalf_24 (by decide) ?_
      refine r_le [some (.ref 65), some (.int (v1 + 1))] ⟨rfl, ⟨rfl, trivial⟩⟩ ?_
      exact ih (v1 + 1) (kbW μ 65 v1.toNatClampNeg (μ.1 65 (((12 / 2) + v1).toNatClampNeg))) h
def f_MD_takeHalf_65 (n : Nat) (μ : kbM) : Option (kbM) :=
  (lp_MD_takeHalf_65_2 n n 0 μ).bind fun x1 =>
  some x1
theorem sp_MD_takeHalf_65 {l : Launch} (n : Nat) (μ : kbM)  {x : kbM} (h : f_MD_takeHalf_65 n μ = some x) : kbS l MX12_takeHalf 1 [.ref 65] μ (kbQe none x) := by
  refine kb_enter 1 rfl rfl ?_
  suffices H : ∀ (Q : kbQt) (P : kbM → Prop), (∀ z : kbM, P z → Q none z) → kbG (f_MD_takeHalf_65 n μ) P → kbR l MX12_takeHalf 1 Q 0 [some (.ref 65), none] [] μ from H _ (fun z => z = x) (fun z e => by subst e; exact ⟨rfl, rfl⟩) ⟨x, h, rfl⟩
  clear h
  intro Q P hr h
  unfold f_MD_takeHalf_65 at h
  refine r_iconst 0 dX12_takeHalf_0 (by decide) ?_
  refine r_istore_n dX12_takeHalf_1 (Nat.le_of_ble_eq_true rfl) rfl ?_
  refine r_le [some (.ref 65), some (.int 0)] ⟨rfl, ⟨rfl, trivial⟩⟩ ?_
  obtain ⟨x1, hx0, h⟩ := kbG_bind h
  refine lpR_MD_takeHalf_65_2 n (P := fun z => x1 = z) (hx := fun z e => ?_) n _ _ ⟨_, hx0, rfl⟩
  subst e
  exact r_vret rfl dX12_takeHalf_27 (hr x1 (kbG_some h))
def lp_MD_takeHalf_66_2 (n : Nat) : Nat → Int32 → kbM → Option (kbM)
  | 0, _, _ => none
  | k + 1, v1, μ =>
    if (12 / 2) ≤ v1 then
      some μ
    else
      kbIf (kbIn ((12 / 2) + v1) 12) <|
      kbIf (kbIn v1 12) <|
      lp_MD_takeHalf_66_2 n k (v1 + 1) (kbW μ 66 v1.toNatClampNeg (μ.1 66 (((12 / 2) + v1).toNatClampNeg)))
theorem lpR_MD_takeHalf_66_2 {l : Launch} (n : Nat)   {Q : kbQt} {P : kbM → Prop} (hx : ∀ z : kbM, P (z) → kbR l MX12_takeHalf 1 Q 27 [none, none] [] z) : ∀ (k : Nat) (v1 : Int32) (μ : kbM), kbG (lp_MD_takeHalf_66_2 n k v1 μ) P → kbR l MX12_takeHalf 1 Q 2 [some (.ref 66), some (.int v1)] [] μ := by
  intro k
  induction k with
  | zero => intro v1 μ h; exact absurd h kbG_none
  | succ k ih =>
    intro v1 μ h
    unfold lp_MD_takeHalf_66_2 at h
    refine r_iload_n dX12_takeHalf_2 rfl ?_
    refine r_aload_n dX12_takeHalf_3 rfl ?_
    refine r_alen 12 sh66 (by decide) (by decide) dX12_takeHalf_4 ?_
    refine r_iconst 2 dX12_takeHalf_5 (by decide) ?_
    refine r_idiv dX12_takeHalf_6 (by decide) ?_
    refine r_icmp_ge 27 dX12_takeHalf_7 (by decide) (fun hc => ?_) (fun hc => ?_)
    · replace h := kbG_t hc h
      refine r_le [none, none] trivial ?_
      exact hx μ (kbG_some h)
    · replace h := kbG_f hc h
      refine r_aload_n dX12_takeHalf_10 rfl ?_
      refine r_iload_n dX12_takeHalf_11 rfl ?_
      refine r_aload_n dX12_takeHalf_12 rfl ?_
      refine r_aload_n dX12_takeHalf_13 rfl ?_
      refine r_alen 12 sh66 (by decide) (by decide) dX12_takeHalf_14 ?_
      refine r_iconst 2 dX12_takeHalf_15 (by decide) ?_
      refine r_idiv dX12_takeHalf_16 (by decide) ?_
      refine r_iload_n dX12_takeHalf_17 rfl ?_
      refine r_iadd dX12_takeHalf_18 ?_
      obtain ⟨hin, h⟩ := kbG_if h
      replace hin := kbIn_of hin
      refine q_iald (((12 / 2) + v1).toNatClampNeg) rfl sh66 hin dX12_takeHalf_19 ?_
      obtain ⟨hin, h⟩ := kbG_if h
      replace hin := kbIn_of hin
      refine q_iast v1.toNatClampNeg rfl sh66 hin dX12_takeHalf_20 ?_
      refine r_iinc 1 dX12_takeHalf_21 rfl (by decide) (Nat.le_of_ble_eq_true rfl) rfl ?_
      refine r_goto 2 dX12_takeHalf_24 (by decide) ?_
      refine r_le [some (.ref 66), some (.int (v1 + 1))] ⟨rfl, ⟨rfl, trivial⟩⟩ ?_
      exact ih (v1 + 1) (kbW μ 66 v1.toNatClampNeg (μ.1 66 (((12 / 2) + v1).toNatClampNeg))) h
def f_MD_takeHalf_66 (n : Nat) (μ : kbM) : Option (kbM) :=
  (lp_MD_takeHalf_66_2 n n 0 μ).bind fun x1 =>
  some x1
theorem sp_MD_takeHalf_66 {l : Launch} (n : Nat) (μ : kbM)  {x : kbM} (h : f_MD_takeHalf_66 n μ = some x) : kbS l MX12_takeHalf 1 [.ref 66] μ (kbQe none x) := by
  refine kb_enter 1 rfl rfl ?_
  suffices H : ∀ (Q : kbQt) (P : kbM → Prop), (∀ z : kbM, P z → Q none z) → kbG (f_MD_takeHalf_66 n μ) P → kbR l MX12_takeHalf 1 Q 0 [some (.ref 66), none] [] μ from H _ (fun z => z = x) (fun z e => by subst e; exact ⟨rfl, rfl⟩) ⟨x, h, rfl⟩
  clear h
  intro Q P hr h
  unfold f_MD_takeHalf_66 at h
  refine r_iconst 0 dX12_takeHalf_0 (by decide) ?_
  refine r_istore_n dX12_takeHalf_1 (Nat.le_of_ble_eq_true rfl) rfl ?_
  refine r_le [some (.ref 66), some (.int 0)] ⟨rfl, ⟨rfl, trivial⟩⟩ ?_
  obtain ⟨x1, hx0, h⟩ := kbG_bind h
  refine lpR_MD_takeHalf_66_2 n (P := fun z => x1 = z) (hx := fun z e => ?_) n _ _ ⟨_, hx0, rfl⟩
  subst e
  exact r_vret rfl dX12_takeHalf_27 (hr x1 (kbG_some h))
def lp_MD_takeHalf_67_2 (n : Nat) : Nat → Int32 → kbM → Option (kbM)
  | 0, _, _ => none
  | k + 1, v1, μ =>
    if (1200 / 2) ≤ v1 then
      some μ
    else
      kbIf (kbIn ((1200 / 2) + v1) 1200) <|
      kbIf (kbIn v1 1200) <|
      lp_MD_takeHalf_67_2 n k (v1 + 1) (kbW μ 67 v1.toNatClampNeg (μ.1 67 (((1200 / 2) + v1).toNatClampNeg)))
theorem lpR_MD_takeHalf_67_2 {l : Launch} (n : Nat)   {Q : kbQt} {P : kbM → Prop} (hx : ∀ z : kbM, P (z) → kbR l MX12_takeHalf 1 Q 27 [none, none] [] z) : ∀ (k : Nat) (v1 : Int32) (μ : kbM), kbG (lp_MD_takeHalf_67_2 n k v1 μ) P → kbR l MX12_takeHalf 1 Q 2 [some (.ref 67), some (.int v1)] [] μ := by
  intro k
  induction k with
  | zero => intro v1 μ h; exact absurd h kbG_none
  | succ k ih =>
    intro v1 μ h
    unfold lp_MD_takeHalf_67_2 at h
    refine r_iload_n dX12_takeHalf_2 rfl ?_
    refine r_aload_n dX12_takeHalf_3 rfl ?_
    refine r_alen 1200 sh67 (by decide) (by decide) dX12_takeHalf_4 ?_
    refine r_iconst 2 dX12_takeHalf_5 (by decide) ?_
    refine r_idiv dX12_takeHalf_6 (by decide) ?_
    refine r_icmp_ge 27 dX12_takeHalf_7 (by decide) (fun hc => ?_) (fun hc => ?_)
    · replace h := kbG_t hc h
      refine r_le [none, none] trivial ?_
      exact hx μ (kbG_some h)
    · replace h := kbG_f hc h
      refine r_aload_n dX12_takeHalf_10 rfl ?_
      refine r_iload_n dX12_takeHalf_11 rfl ?_
      refine r_aload_n dX12_takeHalf_12 rfl ?_
      refine r_aload_n dX12_takeHalf_13 rfl ?_
      refine r_alen 1200 sh67 (by decide) (by decide) dX12_takeHalf_14 ?_
      refine r_iconst 2 dX12_takeHalf_15 (by decide) ?_
      refine r_idiv dX12_takeHalf_16 (by decide) ?_
      refine r_iload_n dX12_takeHalf_17 rfl ?_
      refine r_iadd dX12_takeHalf_18 ?_
      obtain ⟨hin, h⟩ := kbG_if h
      replace hin := kbIn_of hin
      refine q_iald (((1200 / 2) + v1).toNatClampNeg) rfl sh67 hin dX12_takeHalf_19 ?_
      obtain ⟨hin, h⟩ := kbG_if h
      replace hin := kbIn_of hin
      refine q_iast v1.toNatClampNeg rfl sh67 hin dX12_takeHalf_20 ?_
      refine r_iinc 1 dX12_takeHalf_21 rfl (by decide) (Nat.le_of_ble_eq_true rfl) rfl ?_
      refine r_goto 2 dX12_takeHalf_24 (by decide) ?_
      refine r_le [some (.ref 67), some (.int (v1 + 1))] ⟨rfl, ⟨rfl, trivial⟩⟩ ?_
      exact ih (v1 + 1) (kbW μ 67 v1.toNatClampNeg (μ.1 67 (((1200 / 2) + v1).toNatClampNeg))) h
def f_MD_takeHalf_67 (n : Nat) (μ : kbM) : Option (kbM) :=
  (lp_MD_takeHalf_67_2 n n 0 μ).bind fun x1 =>
  some x1
theorem sp_MD_takeHalf_67 {l : Launch} (n : Nat) (μ : kbM)  {x : kbM} (h : f_MD_takeHalf_67 n μ = some x) : kbS l MX12_takeHalf 1 [.ref 67] μ (kbQe none x) := by
  refine kb_enter 1 rfl rfl ?_
  suffices H : ∀ (Q : kbQt) (P : kbM → Prop), (∀ z : kbM, P z → Q none z) → kbG (f_MD_takeHalf_67 n μ) P → kbR l MX12_takeHalf 1 Q 0 [some (.ref 67), none] [] μ from H _ (fun z => z = x) (fun z e => by subst e; exact ⟨rfl, rfl⟩) ⟨x, h, rfl⟩
  clear h
  intro Q P hr h
  unfold f_MD_takeHalf_67 at h
  refine r_iconst 0 dX12_takeHalf_0 (by decide) ?_
  refine r_istore_n dX12_takeHalf_1 (Nat.le_of_ble_eq_true rfl) rfl ?_
  refine r_le [some (.ref 67), some (.int 0)] ⟨rfl, ⟨rfl, trivial⟩⟩ ?_
  obtain ⟨x1, hx0, h⟩ := kbG_bind h
  refine lpR_MD_takeHalf_67_2 n (P := fun z => x1 = z) (hx := fun z e => ?_) n _ _ ⟨_, hx0, rfl⟩
  subst e
  exact r_vret rfl dX12_takeHalf_27 (hr x1 (kbG_some h))
def jn_MD_takeOver_143 (n : Nat) (rec : Int32 → kbM → Option (kbM)) (v1 : Int32) (w1 : Int32) (w2 : Int32) (μ : kbM) : Option (kbM) :=
  kbIf (kbIn w1 10) <|
  rec (v1 + 1) (kbW μ 72 w1.toNatClampNeg w2)
theorem jnR_MD_takeOver_143 {l : Launch} (n : Nat)   (v1 : Int32) (w1 : Int32) (w2 : Int32) (μ : kbM) {Q : kbQt} {P : kbM → Prop} (hx : ∀ z : kbM, P (z) → kbR l MX12_takeOver 2 Q 150 [some (.ref 57), none] [] z) {rec : Int32 → kbM → Option (kbM)} (hrec : ∀ (v1 : Int32) (μ : kbM), kbG (rec v1 μ) P → kbR l MX12_takeOver 2 Q 66 [some (.ref 57), some (.int v1)] [] μ) (h : kbG (jn_MD_takeOver_143 n rec v1 w1 w2 μ) P) : kbR l MX12_takeOver 2 Q 143 [some (.ref 57), some (.int v1)] [.int w2, .int w1, .ref 72] μ := by
  unfold jn_MD_takeOver_143 at h
  obtain ⟨hin, h⟩ := kbG_if h
  replace hin := kbIn_of hin
  refine q_iast w1.toNatClampNeg rfl sh72 hin dX12_takeOver_143 ?_
  refine r_iinc 1 dX12_takeOver_144 rfl (by decide) (Nat.le_of_ble_eq_true rfl) rfl ?_
  refine r_goto 66 dX12_takeOver_147 (by decide) ?_
  refine r_le [some (.ref 57), some (.int (v1 + 1))] ⟨rfl, ⟨rfl, trivial⟩⟩ ?_
  exact hrec (v1 + 1) (kbW μ 72 w1.toNatClampNeg w2) h
def jn_MD_takeOver_119 (n : Nat) (rec : Int32 → kbM → Option (kbM)) (v1 : Int32) (w1 : Int32) (w2 : Int32) (μ : kbM) : Option (kbM) :=
  kbIf (kbIn w1 10) <|
  if ((kbW μ 71 w1.toNatClampNeg w2).1 57 27) ≤ v1 then
    jn_MD_takeOver_143 n rec v1 v1 0 (kbW μ 71 w1.toNatClampNeg w2)
  else
    kbIf (kbIn v1 20) <|
    jn_MD_takeOver_143 n rec v1 v1 ((kbW μ 71 w1.toNatClampNeg w2).1 64 v1.toNatClampNeg) (kbW μ 71 w1.toNatClampNeg w2)
theorem jnR_MD_takeOver_119 {l : Launch} (n : Nat)   (v1 : Int32) (w1 : Int32) (w2 : Int32) (μ : kbM) {Q : kbQt} {P : kbM → Prop} (hx : ∀ z : kbM, P (z) → kbR l MX12_takeOver 2 Q 150 [some (.ref 57), none] [] z) {rec : Int32 → kbM → Option (kbM)} (hrec : ∀ (v1 : Int32) (μ : kbM), kbG (rec v1 μ) P → kbR l MX12_takeOver 2 Q 66 [some (.ref 57), some (.int v1)] [] μ) (h : kbG (jn_MD_takeOver_119 n rec v1 w1 w2 μ) P) : kbR l MX12_takeOver 2 Q 119 [some (.ref 57), some (.int v1)] [.int w2, .int w1, .ref 71] μ := by
  unfold jn_MD_takeOver_119 at h
  obtain ⟨hin, h⟩ := kbG_if h
  replace hin := kbIn_of hin
  refine q_iast w1.toNatClampNeg rfl sh71 hin dX12_takeOver_119 ?_
  refine r_aload_n dX12_takeOver_120 rfl ?_
  refine r_getR flX12_85 sh57 rfl dX12_takeOver_121 ?_
  refine r_iload_n dX12_takeOver_124 rfl ?_
  refine r_iload_n dX12_takeOver_125 rfl ?_
  refine r_aload_n dX12_takeOver_126 rfl ?_
  refine r_getI flX12_162 sh57 rfl dX12_takeOver_127 ?_
  refine r_icmp_ge 142 dX12_takeOver_130 (by decide) (fun hc => ?_) (fun hc => ?_)
  · replace h := kbG_t hc h
    refine r_iconst 0 dX12_takeOver_142 (by decide) ?_
    refine r_le [some (.ref 57), some (.int v1)] ⟨rfl, ⟨rfl, trivial⟩⟩ ?_
    exact jnR_MD_takeOver_143 n v1 v1 0 (kbW μ 71 w1.toNatClampNeg w2) (hx := hx) (hrec := hrec) h
  · replace h := kbG_f hc h
    refine r_aload_n dX12_takeOver_133 rfl ?_
    refine r_getR flX12_57 sh57 rfl dX12_takeOver_134 ?_
    refine r_iload_n dX12_takeOver_137 rfl ?_
    obtain ⟨hin, h⟩ := kbG_if h
    replace hin := kbIn_of hin
    refine q_iald v1.toNatClampNeg rfl sh64 hin dX12_takeOver_138 ?_
    refine r_goto 143 dX12_takeOver_139 (by decide) ?_
    refine r_le [some (.ref 57), some (.int v1)] ⟨rfl, ⟨rfl, trivial⟩⟩ ?_
    exact jnR_MD_takeOver_143 n v1 v1 ((kbW μ 71 w1.toNatClampNeg w2).1 64 v1.toNatClampNeg) (kbW μ 71 w1.toNatClampNeg w2) (hx := hx) (hrec := hrec) h
def jn_MD_takeOver_95 (n : Nat) (rec : Int32 → kbM → Option (kbM)) (v1 : Int32) (w1 : Int32) (w2 : Int32) (μ : kbM) : Option (kbM) :=
  kbIf (kbIn w1 10) <|
  if ((kbW μ 70 w1.toNatClampNeg w2).1 57 27) ≤ v1 then
    jn_MD_takeOver_119 n rec v1 v1 0 (kbW μ 70 w1.toNatClampNeg w2)
  else
    kbIf (kbIn v1 20) <|
    jn_MD_takeOver_119 n rec v1 v1 ((kbW μ 70 w1.toNatClampNeg w2).1 63 v1.toNatClampNeg) (kbW μ 70 w1.toNatClampNeg w2)
theorem jnR_MD_takeOver_95 {l : Launch} (n : Nat)   (v1 : Int32) (w1 : Int32) (w2 : Int32) (μ : kbM) {Q : kbQt} {P : kbM → Prop} (hx : ∀ z : kbM, P (z) → kbR l MX12_takeOver 2 Q 150 [some (.ref 57), none] [] z) {rec : Int32 → kbM → Option (kbM)} (hrec : ∀ (v1 : Int32) (μ : kbM), kbG (rec v1 μ) P → kbR l MX12_takeOver 2 Q 66 [some (.ref 57), some (.int v1)] [] μ) (h : kbG (jn_MD_takeOver_95 n rec v1 w1 w2 μ) P) : kbR l MX12_takeOver 2 Q 95 [some (.ref 57), some (.int v1)] [.int w2, .int w1, .ref 70] μ := by
  unfold jn_MD_takeOver_95 at h
  obtain ⟨hin, h⟩ := kbG_if h
  replace hin := kbIn_of hin
  refine q_iast w1.toNatClampNeg rfl sh70 hin dX12_takeOver_95 ?_
  refine r_aload_n dX12_takeOver_96 rfl ?_
  refine r_getR flX12_82 sh57 rfl dX12_takeOver_97 ?_
  refine r_iload_n dX12_takeOver_100 rfl ?_
  refine r_iload_n dX12_takeOver_101 rfl ?_
  refine r_aload_n dX12_takeOver_102 rfl ?_
  refine r_getI flX12_162 sh57 rfl dX12_takeOver_103 ?_
  refine r_icmp_ge 118 dX12_takeOver_106 (by decide) (fun hc => ?_) (fun hc => ?_)
  · replace h := kbG_t hc h
    refine r_iconst 0 dX12_takeOver_118 (by decide) ?_
    refine r_le [some (.ref 57), some (.int v1)] ⟨rfl, ⟨rfl, trivial⟩⟩ ?_
    exact jnR_MD_takeOver_119 n v1 v1 0 (kbW μ 70 w1.toNatClampNeg w2) (hx := hx) (hrec := hrec) h
  · replace h := kbG_f hc h
    refine r_aload_n dX12_takeOver_109 rfl ?_
    refine r_getR flX12_54 sh57 rfl dX12_takeOver_110 ?_
    refine r_iload_n dX12_takeOver_113 rfl ?_
    obtain ⟨hin, h⟩ := kbG_if h
    replace hin := kbIn_of hin
    refine q_iald v1.toNatClampNeg rfl sh63 hin dX12_takeOver_114 ?_
    refine r_goto 119 dX12_takeOver_115 (by decide) ?_
    refine r_le [some (.ref 57), some (.int v1)] ⟨rfl, ⟨rfl, trivial⟩⟩ ?_
    exact jnR_MD_takeOver_119 n v1 v1 ((kbW μ 70 w1.toNatClampNeg w2).1 63 v1.toNatClampNeg) (kbW μ 70 w1.toNatClampNeg w2) (hx := hx) (hrec := hrec) h
def lp_MD_takeOver_66 (n : Nat) : Nat → Int32 → kbM → Option (kbM)
  | 0, _, _ => none
  | k + 1, v1, μ =>
    if 10 ≤ v1 then
      some μ
    else
      if (μ.1 57 27) ≤ v1 then
        jn_MD_takeOver_95 n (lp_MD_takeOver_66 n k) v1 v1 0 μ
      else
        kbIf (kbIn v1 20) <|
        jn_MD_takeOver_95 n (lp_MD_takeOver_66 n k) v1 v1 (μ.1 62 v1.toNatClampNeg) μ
theorem lpR_MD_takeOver_66 {l : Launch} (n : Nat)   {Q : kbQt} {P : kbM → Prop} (hx : ∀ z : kbM, P (z) → kbR l MX12_takeOver 2 Q 150 [some (.ref 57), none] [] z) : ∀ (k : Nat) (v1 : Int32) (μ : kbM), kbG (lp_MD_takeOver_66 n k v1 μ) P → kbR l MX12_takeOver 2 Q 66 [some (.ref 57), some (.int v1)] [] μ := by
  intro k
  induction k with
  | zero => intro v1 μ h; exact absurd h kbG_none
  | succ k ih =>
    intro v1 μ h
    unfold lp_MD_takeOver_66 at h
    refine r_iload_n dX12_takeOver_66 rfl ?_
    refine r_bipush 10 dX12_takeOver_67 (by decide) ?_
    refine r_icmp_ge 150 dX12_takeOver_69 (by decide) (fun hc => ?_) (fun hc => ?_)
    · replace h := kbG_t hc h
      refine r_le [some (.ref 57), none] ⟨rfl, trivial⟩ ?_
      exact hx μ (kbG_some h)
    · replace h := kbG_f hc h
      refine r_aload_n dX12_takeOver_72 rfl ?_
      refine r_getR flX12_79 sh57 rfl dX12_takeOver_73 ?_
      refine r_iload_n dX12_takeOver_76 rfl ?_
      refine r_iload_n dX12_takeOver_77 rfl ?_
      refine r_aload_n dX12_takeOver_78 rfl ?_
      refine r_getI flX12_162 sh57 rfl dX12_takeOver_79 ?_
      refine r_icmp_ge 94 dX12_takeOver_82 (by decide) (fun hc => ?_) (fun hc => ?_)
      · replace h := kbG_t hc h
        refine r_iconst 0 dX12_takeOver_94 (by decide) ?_
        refine r_le [some (.ref 57), some (.int v1)] ⟨rfl, ⟨rfl, trivial⟩⟩ ?_
        exact jnR_MD_takeOver_95 n v1 v1 0 μ (hx := hx) (hrec := ih) h
      · replace h := kbG_f hc h
        refine r_aload_n dX12_takeOver_85 rfl ?_
        refine r_getR flX12_51 sh57 rfl dX12_takeOver_86 ?_
        refine r_iload_n dX12_takeOver_89 rfl ?_
        obtain ⟨hin, h⟩ := kbG_if h
        replace hin := kbIn_of hin
        refine q_iald v1.toNatClampNeg rfl sh62 hin dX12_takeOver_90 ?_
        refine r_goto 95 dX12_takeOver_91 (by decide) ?_
        refine r_le [some (.ref 57), some (.int v1)] ⟨rfl, ⟨rfl, trivial⟩⟩ ?_
        exact jnR_MD_takeOver_95 n v1 v1 (μ.1 62 v1.toNatClampNeg) μ (hx := hx) (hrec := ih) h
def f_MD_takeOver (n : Nat) (μ : kbM) : Option (kbM) :=
  (f_MD_takeHalf_61 n μ).bind fun x1 =>
  (f_MD_takeHalf_62 n x1).bind fun x2 =>
  (f_MD_takeHalf_63 n x2).bind fun x3 =>
  (f_MD_takeHalf_64 n x3).bind fun x4 =>
  (f_MD_takeHalf_65 n x4).bind fun x5 =>
  (f_MD_takeHalf_66 n x5).bind fun x6 =>
  (f_MD_takeHalf_67 n x6).bind fun x7 =>
  (lp_MD_takeOver_66 n n 0 (kbW (kbW x7 57 27 (x7.1 61 0)) 57 28 0)).bind fun x8 =>
  some (kbW (kbW (kbW x8 57 29 0) 57 30 0) 57 52 0)
theorem sp_MD_takeOver {l : Launch} (n : Nat) (μ : kbM)  {x : kbM} (h : f_MD_takeOver n μ = some x) : kbS l MX12_takeOver 2 [.ref 57] μ (kbQe none x) := by
  refine kb_enter 1 rfl rfl ?_
  suffices H : ∀ (Q : kbQt) (P : kbM → Prop), (∀ z : kbM, P z → Q none z) → kbG (f_MD_takeOver n μ) P → kbR l MX12_takeOver 2 Q 0 [some (.ref 57), none] [] μ from H _ (fun z => z = x) (fun z e => by subst e; exact ⟨rfl, rfl⟩) ⟨x, h, rfl⟩
  clear h
  intro Q P hr h
  unfold f_MD_takeOver at h
  refine r_aload_n dX12_takeOver_0 rfl ?_
  refine r_getR flX12_47 sh57 rfl dX12_takeOver_1 ?_
  obtain ⟨x1, hx0, h⟩ := kbG_bind h
  refine r_inv_v csX12_301 (sp_MD_takeHalf_61 n μ hx0) rfl rfl (Nat.le_of_ble_eq_true rfl) (Nat.le_of_ble_eq_true rfl) dX12_takeOver_4 ?_
  refine r_aload_n dX12_takeOver_7 rfl ?_
  refine r_getR flX12_51 sh57 rfl dX12_takeOver_8 ?_
  obtain ⟨x2, hx0, h⟩ := kbG_bind h
  refine r_inv_v csX12_301 (sp_MD_takeHalf_62 n x1 hx0) rfl rfl (Nat.le_of_ble_eq_true rfl) (Nat.le_of_ble_eq_true rfl) dX12_takeOver_11 ?_
  refine r_aload_n dX12_takeOver_14 rfl ?_
  refine r_getR flX12_54 sh57 rfl dX12_takeOver_15 ?_
  obtain ⟨x3, hx0, h⟩ := kbG_bind h
  refine r_inv_v csX12_301 (sp_MD_takeHalf_63 n x2 hx0) rfl rfl (Nat.le_of_ble_eq_true rfl) (Nat.le_of_ble_eq_true rfl) dX12_takeOver_18 ?_
  refine r_aload_n dX12_takeOver_21 rfl ?_
  refine r_getR flX12_57 sh57 rfl dX12_takeOver_22 ?_
  obtain ⟨x4, hx0, h⟩ := kbG_bind h
  refine r_inv_v csX12_301 (sp_MD_takeHalf_64 n x3 hx0) rfl rfl (Nat.le_of_ble_eq_true rfl) (Nat.le_of_ble_eq_true rfl) dX12_takeOver_25 ?_
  refine r_aload_n dX12_takeOver_28 rfl ?_
  refine r_getR flX12_60 sh57 rfl dX12_takeOver_29 ?_
  obtain ⟨x5, hx0, h⟩ := kbG_bind h
  refine r_inv_v csX12_301 (sp_MD_takeHalf_65 n x4 hx0) rfl rfl (Nat.le_of_ble_eq_true rfl) (Nat.le_of_ble_eq_true rfl) dX12_takeOver_32 ?_
  refine r_aload_n dX12_takeOver_35 rfl ?_
  refine r_getR flX12_63 sh57 rfl dX12_takeOver_36 ?_
  obtain ⟨x6, hx0, h⟩ := kbG_bind h
  refine r_inv_v csX12_301 (sp_MD_takeHalf_66 n x5 hx0) rfl rfl (Nat.le_of_ble_eq_true rfl) (Nat.le_of_ble_eq_true rfl) dX12_takeOver_39 ?_
  refine r_aload_n dX12_takeOver_42 rfl ?_
  refine r_getR flX12_66 sh57 rfl dX12_takeOver_43 ?_
  obtain ⟨x7, hx0, h⟩ := kbG_bind h
  refine r_inv_v csX12_301 (sp_MD_takeHalf_67 n x6 hx0) rfl rfl (Nat.le_of_ble_eq_true rfl) (Nat.le_of_ble_eq_true rfl) dX12_takeOver_46 ?_
  refine r_aload_n dX12_takeOver_49 rfl ?_
  refine r_aload_n dX12_takeOver_50 rfl ?_
  refine r_getR flX12_47 sh57 rfl dX12_takeOver_51 ?_
  refine r_iconst 0 dX12_takeOver_54 (by decide) ?_
  have hin : vp_in 0 6 := kbIn_of (by decide)
  refine q_iald 0 (by decide) sh61 hin dX12_takeOver_55 ?_
  refine r_put flX12_162 sh57 rfl rfl rfl dX12_takeOver_56 ?_
  refine r_aload_n dX12_takeOver_59 rfl ?_
  refine r_iconst 0 dX12_takeOver_60 (by decide) ?_
  refine r_put flX12_305 sh57 rfl rfl rfl dX12_takeOver_61 ?_
  refine r_iconst 0 dX12_takeOver_64 (by decide) ?_
  refine r_istore_n dX12_takeOver_65 (Nat.le_of_ble_eq_true rfl) rfl ?_
  refine r_le [some (.ref 57), some (.int 0)] ⟨rfl, ⟨rfl, trivial⟩⟩ ?_
  obtain ⟨x8, hx0, h⟩ := kbG_bind h
  refine lpR_MD_takeOver_66 n (P := fun z => x8 = z) (hx := fun z e => ?_) n _ _ ⟨_, hx0, rfl⟩
  subst e
  refine r_aload_n dX12_takeOver_150 rfl ?_
  refine r_iconst 0 dX12_takeOver_151 (by decide) ?_
  refine r_put flX12_308 sh57 rfl rfl rfl dX12_takeOver_152 ?_
  refine r_aload_n dX12_takeOver_155 rfl ?_
  refine r_iconst 0 dX12_takeOver_156 (by decide) ?_
  refine r_put flX12_311 sh57 rfl rfl rfl dX12_takeOver_157 ?_
  refine r_aload_n dX12_takeOver_160 rfl ?_
  refine r_iconst 0 dX12_takeOver_161 (by decide) ?_
  refine r_put flX12_314 sh57 rfl rfl rfl dX12_takeOver_162 ?_
  exact r_vret rfl dX12_takeOver_165 (hr (kbW (kbW (kbW x8 57 29 0) 57 30 0) 57 52 0) (kbG_some h))
def jn_MD_book_17 (n : Nat) (μ : kbM) : Option (Int32 × kbM) :=
  (f_MD_fail 1 μ).bind fun x1 =>
  some ((x1.1, x1.2))
theorem jnR_MD_book_17 {l : Launch} (n : Nat)    (μ : kbM) {Q : kbQt} {P : Int32 × kbM → Prop} (hr : ∀ z : Int32 × kbM, P z → Q (some (.int z.1)) z.2) (h : kbG (jn_MD_book_17 n μ) P) : kbR l MX12_book 98 Q 17 [some (.ref 57), none, none] [] μ := by
  unfold jn_MD_book_17 at h
  refine r_aload_n dX12_book_17 rfl ?_
  refine r_iconst 1 dX12_book_18 (by decide) ?_
  obtain ⟨x1, hx0, h⟩ := kbG_bind h
  refine r_invV_i cvX12_292 sh57 rfl (sp_MD_fail 1 μ hx0) rfl rfl (Nat.le_of_ble_eq_true rfl) (Nat.le_of_ble_eq_true rfl) dX12_book_19 ?_
  exact r_iret rfl dX12_book_22 (hr ((x1.1, x1.2)) (kbG_some h))
def lp_MD_book_50 (n : Nat) : Nat → Int32 → kbM → Option (kbM)
  | 0, _, _ => none
  | k + 1, v2, μ =>
    if 3 ≤ v2 then
      some μ
    else
      kbIf (kbIn (3 + v2) 6) <|
      lp_MD_book_50 n k (v2 + 1) (kbW μ 61 ((3 + v2).toNatClampNeg) 0)
theorem lpR_MD_book_50 {l : Launch} (n : Nat)   {Q : kbQt} {P : kbM → Prop} (hx : ∀ z : kbM, P (z) → kbR l MX12_book 98 Q 70 [some (.ref 57), none, none] [] z) : ∀ (k : Nat) (v2 : Int32) (μ : kbM), kbG (lp_MD_book_50 n k v2 μ) P → kbR l MX12_book 98 Q 50 [some (.ref 57), none, some (.int v2)] [] μ := by
  intro k
  induction k with
  | zero => intro v2 μ h; exact absurd h kbG_none
  | succ k ih =>
    intro v2 μ h
    unfold lp_MD_book_50 at h
    refine r_iload_n dX12_book_50 rfl ?_
    refine r_iconst 3 dX12_book_51 (by decide) ?_
    refine r_icmp_ge 70 dX12_book_52 (by decide) (fun hc => ?_) (fun hc => ?_)
    · replace h := kbG_t hc h
      refine r_le [some (.ref 57), none, none] ⟨rfl, trivial⟩ ?_
      exact hx μ (kbG_some h)
    · replace h := kbG_f hc h
      refine r_aload_n dX12_book_55 rfl ?_
      refine r_getR flX12_47 sh57 rfl dX12_book_56 ?_
      refine r_iconst 3 dX12_book_59 (by decide) ?_
      refine r_iload_n dX12_book_60 rfl ?_
      refine r_iadd dX12_book_61 ?_
      refine r_iconst 0 dX12_book_62 (by decide) ?_
      obtain ⟨hin, h⟩ := kbG_if h
      replace hin := kbIn_of hin
      refine q_iast ((3 + v2).toNatClampNeg) rfl sh61 hin dX12_book_63 ?_
      refine r_iinc 1 dX12_book_64 rfl (by decide) (Nat.le_of_ble_eq_true rfl) rfl ?_
      refine r_goto 50 dX12_book_67 (by decide) ?_
      refine r_le [some (.ref 57), none, some (.int (v2 + 1))] ⟨rfl, ⟨rfl, trivial⟩⟩ ?_
      exact ih (v2 + 1) (kbW μ 61 ((3 + v2).toNatClampNeg) 0) h
def lp_MD_book_76 (n : Nat) : Nat → Int32 → kbM → Option (kbM)
  | 0, _, _ => none
  | k + 1, v2, μ =>
    if (μ.1 57 20) = 0 then
      if (μ.1 57 16) = 0 then
        some μ
      else
        (f_MD_readLine n v2 μ).bind fun x4 =>
        lp_MD_book_76 n k x4.1 x4.2
    else
      some μ
theorem lpR_MD_book_76 {l : Launch} (n : Nat)   {Q : kbQt} {P : kbM → Prop} (hx : ∀ z : kbM, P (z) → kbR l MX12_book 98 Q 99 [some (.ref 57), none, none] [] z) : ∀ (k : Nat) (v2 : Int32) (μ : kbM), kbG (lp_MD_book_76 n k v2 μ) P → kbR l MX12_book 98 Q 76 [some (.ref 57), none, some (.int v2)] [] μ := by
  intro k
  induction k with
  | zero => intro v2 μ h; exact absurd h kbG_none
  | succ k ih =>
    intro v2 μ h
    unfold lp_MD_book_76 at h
    refine r_aload_n dX12_book_76 rfl ?_
    refine r_getI flX12_212 sh57 rfl dX12_book_77 ?_
    refine r_if_ne 99 dX12_book_80 (by decide) (fun hc => ?_) (fun hc => ?_)
    · replace h := kbG_f hc h
      refine r_le [some (.ref 57), none, none] ⟨rfl, trivial⟩ ?_
      exact hx μ (kbG_some h)
    · replace h := kbG_t hc h
      refine r_aload_n dX12_book_83 rfl ?_
      refine r_getI flX12_186 sh57 rfl dX12_book_84 ?_
      refine r_if_eq 99 dX12_book_87 (by decide) (fun hc => ?_) (fun hc => ?_)
      · replace h := kbG_t hc h
        refine r_le [some (.ref 57), none, none] ⟨rfl, trivial⟩ ?_
        exact hx μ (kbG_some h)
      · replace h := kbG_f hc h
        refine r_aload_n dX12_book_90 rfl ?_
        refine r_iload_n dX12_book_91 rfl ?_
        obtain ⟨x4, hx0, h⟩ := kbG_bind h
        refine r_invV_i cvX12_295 sh57 rfl (sp_MD_readLine n v2 μ hx0) rfl rfl (Nat.le_of_ble_eq_true rfl) (Nat.le_of_ble_eq_true rfl) dX12_book_92 ?_
        refine r_istore_n dX12_book_95 (Nat.le_of_ble_eq_true rfl) rfl ?_
        refine r_goto 76 dX12_book_96 (by decide) ?_
        refine r_le [some (.ref 57), none, some (.int x4.1)] ⟨rfl, ⟨rfl, trivial⟩⟩ ?_
        exact ih x4.1 x4.2 h
def jn_MD_book_99 (n : Nat) (μ : kbM) : Option (Int32 × kbM) :=
  if (μ.1 57 20) = 0 then
    (f_MD_takeOver n μ).bind fun x6 =>
    some ((0, x6))
  else
    some (((kbW (kbW μ 57 22 (μ.1 57 21)) 68 0 (((kbW μ 57 22 (μ.1 57 21)).1 68 0) + 1)).1 57 20, kbW (kbW μ 57 22 (μ.1 57 21)) 68 0 (((kbW μ 57 22 (μ.1 57 21)).1 68 0) + 1)))
theorem jnR_MD_book_99 {l : Launch} (n : Nat)    (μ : kbM) {Q : kbQt} {P : Int32 × kbM → Prop} (hr : ∀ z : Int32 × kbM, P z → Q (some (.int z.1)) z.2) (h : kbG (jn_MD_book_99 n μ) P) : kbR l MX12_book 98 Q 99 [some (.ref 57), none, none] [] μ := by
  unfold jn_MD_book_99 at h
  refine r_aload_n dX12_book_99 rfl ?_
  refine r_getI flX12_212 sh57 rfl dX12_book_100 ?_
  refine r_if_eq 129 dX12_book_103 (by decide) (fun hc => ?_) (fun hc => ?_)
  · replace h := kbG_t hc h
    refine r_aload_n dX12_book_129 rfl ?_
    obtain ⟨x6, hx0, h⟩ := kbG_bind h
    refine r_invV_v cvX12_298 sh57 rfl (sp_MD_takeOver n μ hx0) rfl rfl (Nat.le_of_ble_eq_true rfl) (Nat.le_of_ble_eq_true rfl) dX12_book_130 ?_
    refine r_iconst 0 dX12_book_133 (by decide) ?_
    exact r_iret rfl dX12_book_134 (hr ((0, x6)) (kbG_some h))
  · replace h := kbG_f hc h
    refine r_aload_n dX12_book_106 rfl ?_
    refine r_aload_n dX12_book_107 rfl ?_
    refine r_getI flX12_215 sh57 rfl dX12_book_108 ?_
    refine r_put flX12_75 sh57 rfl rfl rfl dX12_book_111 ?_
    refine r_aload_n dX12_book_114 rfl ?_
    refine r_getR flX12_69 sh57 rfl dX12_book_115 ?_
    refine r_iconst 0 dX12_book_118 (by decide) ?_
    refine r_dup2 dX12_book_119 rfl rfl ?_
    have hin : vp_in 0 3 := kbIn_of (by decide)
    refine q_iald 0 (by decide) sh68 hin dX12_book_120 ?_
    refine r_iconst 1 dX12_book_121 (by decide) ?_
    refine r_iadd dX12_book_122 ?_
    have hin : vp_in 0 3 := kbIn_of (by decide)
    refine q_iast 0 (by decide) sh68 hin dX12_book_123 ?_
    refine r_aload_n dX12_book_124 rfl ?_
    refine r_getI flX12_212 sh57 rfl dX12_book_125 ?_
    exact r_iret rfl dX12_book_128 (hr (((kbW (kbW μ 57 22 (μ.1 57 21)) 68 0 (((kbW μ 57 22 (μ.1 57 21)).1 68 0) + 1)).1 57 20, kbW (kbW μ 57 22 (μ.1 57 21)) 68 0 (((kbW μ 57 22 (μ.1 57 21)).1 68 0) + 1))) (kbG_some h))
def f_MD_book (n : Nat) (a1 : Int32) (μ : kbM) : Option (Int32 × kbM) :=
  if a1 < 0 then
    jn_MD_book_17 n (kbW μ 57 3 0)
  else
    if a1 ≤ ((kbW μ 57 3 0).1 57 13) then
      (lp_MD_book_50 n n 0 (kbW (kbW (kbW (kbW (kbW (kbW μ 57 3 0) 57 13 0) 57 15 a1) 57 14 0) 57 20 0) 57 22 (-1))).bind fun x2 =>
      (f_MD_stepOn n x2).bind fun x3 =>
      (lp_MD_book_76 n n 0 x3).bind fun x5 =>
      jn_MD_book_99 n x5
    else
      jn_MD_book_17 n (kbW μ 57 3 0)
theorem sp_MD_book {l : Launch} (n : Nat) (a1 : Int32) (μ : kbM)  {x : Int32 × kbM} (h : f_MD_book n a1 μ = some x) : kbS l MX12_book 98 [.ref 57, .int a1] μ (kbQe (some (.int x.1)) x.2) := by
  refine kb_enter 1 rfl rfl ?_
  suffices H : ∀ (Q : kbQt) (P : Int32 × kbM → Prop), (∀ z : Int32 × kbM, P z → Q (some (.int z.1)) z.2) → kbG (f_MD_book n a1 μ) P → kbR l MX12_book 98 Q 0 [some (.ref 57), some (.int a1), none] [] μ from H _ (fun z => z = x) (fun z e => by subst e; exact ⟨rfl, rfl⟩) ⟨x, h, rfl⟩
  clear h
  intro Q P hr h
  unfold f_MD_book at h
  refine r_aload_n dX12_book_0 rfl ?_
  refine r_iconst 0 dX12_book_1 (by decide) ?_
  refine r_put flX12_159 sh57 rfl rfl rfl dX12_book_2 ?_
  refine r_iload_n dX12_book_5 rfl ?_
  refine r_if_lt 17 dX12_book_6 (by decide) (fun hc => ?_) (fun hc => ?_)
  · replace h := kbG_t hc h
    refine r_le [some (.ref 57), none, none] ⟨rfl, trivial⟩ ?_
    exact jnR_MD_book_17 n  (kbW μ 57 3 0) (hr := hr) h
  · replace h := kbG_f hc h
    refine r_iload_n dX12_book_9 rfl ?_
    refine r_aload_n dX12_book_10 rfl ?_
    refine r_getI flX12_170 sh57 rfl dX12_book_11 ?_
    refine r_icmp_le 23 dX12_book_14 (by decide) (fun hc => ?_) (fun hc => ?_)
    · replace h := kbG_t hc h
      refine r_aload_n dX12_book_23 rfl ?_
      refine r_iconst 0 dX12_book_24 (by decide) ?_
      refine r_put flX12_170 sh57 rfl rfl rfl dX12_book_25 ?_
      refine r_aload_n dX12_book_28 rfl ?_
      refine r_iload_n dX12_book_29 rfl ?_
      refine r_put flX12_173 sh57 rfl rfl rfl dX12_book_30 ?_
      refine r_aload_n dX12_book_33 rfl ?_
      refine r_iconst 0 dX12_book_34 (by decide) ?_
      refine r_put flX12_176 sh57 rfl rfl rfl dX12_book_35 ?_
      refine r_aload_n dX12_book_38 rfl ?_
      refine r_iconst 0 dX12_book_39 (by decide) ?_
      refine r_put flX12_212 sh57 rfl rfl rfl dX12_book_40 ?_
      refine r_aload_n dX12_book_43 rfl ?_
      refine r_iconst (-1) dX12_book_44 (by decide) ?_
      refine r_put flX12_75 sh57 rfl rfl rfl dX12_book_45 ?_
      refine r_iconst 0 dX12_book_48 (by decide) ?_
      refine r_istore_n dX12_book_49 (Nat.le_of_ble_eq_true rfl) rfl ?_
      refine r_le [some (.ref 57), none, some (.int 0)] ⟨rfl, ⟨rfl, trivial⟩⟩ ?_
      obtain ⟨x2, hx0, h⟩ := kbG_bind h
      refine lpR_MD_book_50 n (P := fun z => x2 = z) (hx := fun z e => ?_) n _ _ ⟨_, hx0, rfl⟩
      subst e
      refine r_aload_n dX12_book_70 rfl ?_
      obtain ⟨x3, hx0, h⟩ := kbG_bind h
      refine r_invV_v cvX12_237 sh57 rfl (sp_MD_stepOn n x2 hx0) rfl rfl (Nat.le_of_ble_eq_true rfl) (Nat.le_of_ble_eq_true rfl) dX12_book_71 ?_
      refine r_iconst 0 dX12_book_74 (by decide) ?_
      refine r_istore_n dX12_book_75 (Nat.le_of_ble_eq_true rfl) rfl ?_
      refine r_le [some (.ref 57), none, some (.int 0)] ⟨rfl, ⟨rfl, trivial⟩⟩ ?_
      obtain ⟨x5, hx0, h⟩ := kbG_bind h
      refine lpR_MD_book_76 n (P := fun z => x5 = z) (hx := fun z e => ?_) n _ _ ⟨_, hx0, rfl⟩
      subst e
      refine r_le [some (.ref 57), none, none] ⟨rfl, trivial⟩ ?_
      exact jnR_MD_book_99 n  x5 (hr := hr) h
    · replace h := kbG_f hc h
      refine r_le [some (.ref 57), none, none] ⟨rfl, trivial⟩ ?_
      exact jnR_MD_book_17 n  (kbW μ 57 3 0) (hr := hr) h
def f_MD_fault (μ : kbM) : Option (Int32 × kbM) :=
  some (((kbW μ 57 3 0).1 57 22, kbW μ 57 3 0))
theorem sp_MD_fault {l : Launch} (μ : kbM)  {x : Int32 × kbM} (h : f_MD_fault μ = some x) : kbS l MX12_fault 1 [.ref 57] μ (kbQe (some (.int x.1)) x.2) := by
  refine kb_enter 0 rfl rfl ?_
  suffices H : ∀ (Q : kbQt) (P : Int32 × kbM → Prop), (∀ z : Int32 × kbM, P z → Q (some (.int z.1)) z.2) → kbG (f_MD_fault μ) P → kbR l MX12_fault 1 Q 0 [some (.ref 57)] [] μ from H _ (fun z => z = x) (fun z e => by subst e; exact ⟨rfl, rfl⟩) ⟨x, h, rfl⟩
  clear h
  intro Q P hr h
  unfold f_MD_fault at h
  refine r_aload_n dX12_fault_0 rfl ?_
  refine r_iconst 0 dX12_fault_1 (by decide) ?_
  refine r_put flX12_159 sh57 rfl rfl rfl dX12_fault_2 ?_
  refine r_aload_n dX12_fault_5 rfl ?_
  refine r_getI flX12_75 sh57 rfl dX12_fault_6 ?_
  exact r_iret rfl dX12_fault_9 (hr (((kbW μ 57 3 0).1 57 22, kbW μ 57 3 0)) (kbG_some h))
def lp_MD_sizeOf_4 (n : Nat) : Nat → Int32 → Int32 → Option (Int32)
  | 0, _, _ => none
  | k + 1, v1, v2 =>
    if v2 ≤ 0 then
      some v1
    else
      lp_MD_sizeOf_4 n k (v1 + 1) (v2 / 5)
theorem lpR_MD_sizeOf_4 {l : Launch} (n : Nat)  (μ : kbM)  {Q : kbQt} {P : Int32 → Prop} (hx : ∀ z : Int32, P (z) → kbR l MX12_sizeOf 1 Q 18 [none, some (.int z), none] [] μ) : ∀ (k : Nat) (v1 : Int32) (v2 : Int32), kbG (lp_MD_sizeOf_4 n k v1 v2) P → kbR l MX12_sizeOf 1 Q 4 [none, some (.int v1), some (.int v2)] [] μ := by
  intro k
  induction k with
  | zero => intro v1 v2 h; exact absurd h kbG_none
  | succ k ih =>
    intro v1 v2 h
    unfold lp_MD_sizeOf_4 at h
    refine r_iload_n dX12_sizeOf_4 rfl ?_
    refine r_if_le 18 dX12_sizeOf_5 (by decide) (fun hc => ?_) (fun hc => ?_)
    · replace h := kbG_t hc h
      refine r_le [none, some (.int v1), none] ⟨rfl, trivial⟩ ?_
      exact hx v1 (kbG_some h)
    · replace h := kbG_f hc h
      refine r_iinc 1 dX12_sizeOf_8 rfl (by decide) (Nat.le_of_ble_eq_true rfl) rfl ?_
      refine r_iload_n dX12_sizeOf_11 rfl ?_
      refine r_iconst 5 dX12_sizeOf_12 (by decide) ?_
      refine r_idiv dX12_sizeOf_13 (by decide) ?_
      refine r_istore_n dX12_sizeOf_14 (Nat.le_of_ble_eq_true rfl) rfl ?_
      refine r_goto 4 dX12_sizeOf_15 (by decide) ?_
      refine r_le [none, some (.int (v1 + 1)), some (.int (v2 / 5))] ⟨rfl, ⟨rfl, trivial⟩⟩ ?_
      exact ih (v1 + 1) (v2 / 5) h
def f_MD_sizeOf (n : Nat) (a0 : Int32) : Option (Int32) :=
  (lp_MD_sizeOf_4 n n 0 a0).bind fun x1 =>
  some x1
theorem sp_MD_sizeOf {l : Launch} (n : Nat) (a0 : Int32) (μ : kbM)  {x : Int32} (h : f_MD_sizeOf n a0 = some x) : kbS l MX12_sizeOf 1 [.int a0] μ (kbQe (some (.int x)) μ) := by
  refine kb_enter 2 rfl rfl ?_
  suffices H : ∀ (Q : kbQt) (P : Int32 → Prop), (∀ z : Int32, P z → Q (some (.int z)) μ) → kbG (f_MD_sizeOf n a0) P → kbR l MX12_sizeOf 1 Q 0 [some (.int a0), none, none] [] μ from H _ (fun z => z = x) (fun z e => by subst e; exact ⟨rfl, rfl⟩) ⟨x, h, rfl⟩
  clear h
  intro Q P hr h
  unfold f_MD_sizeOf at h
  refine r_iconst 0 dX12_sizeOf_0 (by decide) ?_
  refine r_istore_n dX12_sizeOf_1 (Nat.le_of_ble_eq_true rfl) rfl ?_
  refine r_iload_n dX12_sizeOf_2 rfl ?_
  refine r_istore_n dX12_sizeOf_3 (Nat.le_of_ble_eq_true rfl) rfl ?_
  refine r_le [none, some (.int 0), some (.int a0)] ⟨rfl, ⟨rfl, trivial⟩⟩ ?_
  obtain ⟨x1, hx0, h⟩ := kbG_bind h
  refine lpR_MD_sizeOf_4 n μ (P := fun z => x1 = z) (hx := fun z e => ?_) n _ _ ⟨_, hx0, rfl⟩
  subst e
  refine r_iload_n dX12_sizeOf_18 rfl ?_
  exact r_iret rfl dX12_sizeOf_19 (hr x1 (kbG_some h))
def lp_MD_count_87 (n : Nat) (μ : kbM) : Nat → Int32 → Int32 → Option (Int32)
  | 0, _, _ => none
  | k + 1, v2, v3 =>
    if (μ.1 57 27) ≤ v3 then
      some v2
    else
      kbIf (kbIn v3 10) <|
      lp_MD_count_87 n μ k (v2 + (μ.1 72 v3.toNatClampNeg)) (v3 + 1)
theorem lpR_MD_count_87 {l : Launch} (n : Nat) (μ : kbM)  {Q : kbQt} {P : Int32 → Prop} (hx : ∀ z : Int32, P (z) → kbR l MX12_count 2 Q 110 [none, none, some (.int z), none] [] μ) : ∀ (k : Nat) (v2 : Int32) (v3 : Int32), kbG (lp_MD_count_87 n μ k v2 v3) P → kbR l MX12_count 2 Q 87 [some (.ref 57), none, some (.int v2), some (.int v3)] [] μ := by
  intro k
  induction k with
  | zero => intro v2 v3 h; exact absurd h kbG_none
  | succ k ih =>
    intro v2 v3 h
    unfold lp_MD_count_87 at h
    refine r_iload_n dX12_count_87 rfl ?_
    refine r_aload_n dX12_count_88 rfl ?_
    refine r_getI flX12_162 sh57 rfl dX12_count_89 ?_
    refine r_icmp_ge 110 dX12_count_92 (by decide) (fun hc => ?_) (fun hc => ?_)
    · replace h := kbG_t hc h
      refine r_le [none, none, some (.int v2), none] ⟨rfl, trivial⟩ ?_
      exact hx v2 (kbG_some h)
    · replace h := kbG_f hc h
      refine r_iload_n dX12_count_95 rfl ?_
      refine r_aload_n dX12_count_96 rfl ?_
      refine r_getR flX12_85 sh57 rfl dX12_count_97 ?_
      refine r_iload_n dX12_count_100 rfl ?_
      obtain ⟨hin, h⟩ := kbG_if h
      replace hin := kbIn_of hin
      refine q_iald v3.toNatClampNeg rfl sh72 hin dX12_count_101 ?_
      refine r_iadd dX12_count_102 ?_
      refine r_istore_n dX12_count_103 (Nat.le_of_ble_eq_true rfl) rfl ?_
      refine r_iinc 1 dX12_count_104 rfl (by decide) (Nat.le_of_ble_eq_true rfl) rfl ?_
      refine r_goto 87 dX12_count_107 (by decide) ?_
      refine r_le [some (.ref 57), none, some (.int (v2 + (μ.1 72 v3.toNatClampNeg))), some (.int (v3 + 1))] ⟨rfl, ⟨rfl, ⟨rfl, trivial⟩⟩⟩ ?_
      exact ih (v2 + (μ.1 72 v3.toNatClampNeg)) (v3 + 1) h
def lp_MD_count_114 (n : Nat) (μ : kbM) : Nat → Int32 → Int32 → Option (Int32)
  | 0, _, _ => none
  | k + 1, v2, v3 =>
    if (μ.1 57 27) ≤ v3 then
      some v2
    else
      kbIf (kbIn v3 10) <|
      (f_MD_sizeOf n (μ.1 70 v3.toNatClampNeg)).bind fun x3 =>
      lp_MD_count_114 n μ k (v2 + x3) (v3 + 1)
theorem lpR_MD_count_114 {l : Launch} (n : Nat) (μ : kbM)  {Q : kbQt} {P : Int32 → Prop} (hx : ∀ z : Int32, P (z) → kbR l MX12_count 2 Q 140 [none, none, some (.int z), none] [] μ) : ∀ (k : Nat) (v2 : Int32) (v3 : Int32), kbG (lp_MD_count_114 n μ k v2 v3) P → kbR l MX12_count 2 Q 114 [some (.ref 57), none, some (.int v2), some (.int v3)] [] μ := by
  intro k
  induction k with
  | zero => intro v2 v3 h; exact absurd h kbG_none
  | succ k ih =>
    intro v2 v3 h
    unfold lp_MD_count_114 at h
    refine r_iload_n dX12_count_114 rfl ?_
    refine r_aload_n dX12_count_115 rfl ?_
    refine r_getI flX12_162 sh57 rfl dX12_count_116 ?_
    refine r_icmp_ge 140 dX12_count_119 (by decide) (fun hc => ?_) (fun hc => ?_)
    · replace h := kbG_t hc h
      refine r_le [none, none, some (.int v2), none] ⟨rfl, trivial⟩ ?_
      exact hx v2 (kbG_some h)
    · replace h := kbG_f hc h
      refine r_iload_n dX12_count_122 rfl ?_
      refine r_aload_n dX12_count_123 rfl ?_
      refine r_getR flX12_79 sh57 rfl dX12_count_124 ?_
      refine r_iload_n dX12_count_127 rfl ?_
      obtain ⟨hin, h⟩ := kbG_if h
      replace hin := kbIn_of hin
      refine q_iald v3.toNatClampNeg rfl sh70 hin dX12_count_128 ?_
      obtain ⟨x3, hx0, h⟩ := kbG_bind h
      refine r_inv_i csX12_322 (sp_MD_sizeOf n (μ.1 70 v3.toNatClampNeg) μ hx0) rfl rfl (Nat.le_of_ble_eq_true rfl) (Nat.le_of_ble_eq_true rfl) dX12_count_129 ?_
      refine r_iadd dX12_count_132 ?_
      refine r_istore_n dX12_count_133 (Nat.le_of_ble_eq_true rfl) rfl ?_
      refine r_iinc 1 dX12_count_134 rfl (by decide) (Nat.le_of_ble_eq_true rfl) rfl ?_
      refine r_goto 114 dX12_count_137 (by decide) ?_
      refine r_le [some (.ref 57), none, some (.int (v2 + x3)), some (.int (v3 + 1))] ⟨rfl, ⟨rfl, ⟨rfl, trivial⟩⟩⟩ ?_
      exact ih (v2 + x3) (v3 + 1) h
def f_MD_count (n : Nat) (a1 : Int32) (μ : kbM) : Option (Int32 × kbM) :=
  if a1 = 0 then
    some (((kbW μ 57 3 0).1 57 27, kbW μ 57 3 0))
  else if a1 = 1 then
    some (((kbW μ 57 3 0).1 61 1, kbW μ 57 3 0))
  else if a1 = 2 then
    some (((kbW μ 57 3 0).1 57 28, kbW μ 57 3 0))
  else if a1 = 3 then
    (lp_MD_count_87 n (kbW μ 57 3 0) n 0 0).bind fun x2 =>
    some ((x2, kbW μ 57 3 0))
  else if a1 = 4 then
    (lp_MD_count_114 n (kbW μ 57 3 0) n 0 0).bind fun x4 =>
    some ((x4, kbW μ 57 3 0))
  else if a1 = 5 then
    some (((kbW μ 57 3 0).1 57 29, kbW μ 57 3 0))
  else if a1 = 6 then
    some (((kbW μ 57 3 0).1 57 30, kbW μ 57 3 0))
  else if a1 = 7 then
    some (((kbW μ 57 3 0).1 57 13, kbW μ 57 3 0))
  else if a1 = 8 then
    kbIf (kbIn (a1 - 8) 3) <|
    some (((kbW μ 57 3 0).1 68 ((a1 - 8).toNatClampNeg), kbW μ 57 3 0))
  else if a1 = 9 then
    kbIf (kbIn (a1 - 8) 3) <|
    some (((kbW μ 57 3 0).1 68 ((a1 - 8).toNatClampNeg), kbW μ 57 3 0))
  else if a1 = 10 then
    kbIf (kbIn (a1 - 8) 3) <|
    some (((kbW μ 57 3 0).1 68 ((a1 - 8).toNatClampNeg), kbW μ 57 3 0))
  else
    (f_MD_fail 1 (kbW μ 57 3 0)).bind fun x1 =>
    some ((x1.1, x1.2))
theorem sp_MD_count {l : Launch} (n : Nat) (a1 : Int32) (μ : kbM)  {x : Int32 × kbM} (h : f_MD_count n a1 μ = some x) : kbS l MX12_count 2 [.ref 57, .int a1] μ (kbQe (some (.int x.1)) x.2) := by
  refine kb_enter 2 rfl rfl ?_
  suffices H : ∀ (Q : kbQt) (P : Int32 × kbM → Prop), (∀ z : Int32 × kbM, P z → Q (some (.int z.1)) z.2) → kbG (f_MD_count n a1 μ) P → kbR l MX12_count 2 Q 0 [some (.ref 57), some (.int a1), none, none] [] μ from H _ (fun z => z = x) (fun z e => by subst e; exact ⟨rfl, rfl⟩) ⟨x, h, rfl⟩
  clear h
  intro Q P hr h
  unfold f_MD_count at h
  refine r_aload_n dX12_count_0 rfl ?_
  refine r_iconst 0 dX12_count_1 (by decide) ?_
  refine r_put flX12_159 sh57 rfl rfl rfl dX12_count_2 ?_
  refine r_iconst 0 dX12_count_5 (by decide) ?_
  refine r_istore_n dX12_count_6 (Nat.le_of_ble_eq_true rfl) rfl ?_
  refine r_iload_n dX12_count_7 rfl ?_
  by_cases hc0 : a1 = 0
  · replace h := kbG_t hc0 h
    refine r_tabIn 68 dX12_count_8 (by rw [hc0]; decide) (by rw [hc0]; decide) (by rw [hc0]; rfl) (by decide) ?_
    refine r_aload_n dX12_count_68 rfl ?_
    refine r_getI flX12_162 sh57 rfl dX12_count_69 ?_
    exact r_iret rfl dX12_count_72 (hr (((kbW μ 57 3 0).1 57 27, kbW μ 57 3 0)) (kbG_some h))
  replace h := kbG_f hc0 h
  by_cases hc1 : a1 = 1
  · replace h := kbG_t hc1 h
    refine r_tabIn 73 dX12_count_8 (by rw [hc1]; decide) (by rw [hc1]; decide) (by rw [hc1]; rfl) (by decide) ?_
    refine r_aload_n dX12_count_73 rfl ?_
    refine r_getR flX12_47 sh57 rfl dX12_count_74 ?_
    refine r_iconst 1 dX12_count_77 (by decide) ?_
    have hin : vp_in 1 6 := kbIn_of (by decide)
    refine q_iald 1 (by decide) sh61 hin dX12_count_78 ?_
    exact r_iret rfl dX12_count_79 (hr (((kbW μ 57 3 0).1 61 1, kbW μ 57 3 0)) (kbG_some h))
  replace h := kbG_f hc1 h
  by_cases hc2 : a1 = 2
  · replace h := kbG_t hc2 h
    refine r_tabIn 80 dX12_count_8 (by rw [hc2]; decide) (by rw [hc2]; decide) (by rw [hc2]; rfl) (by decide) ?_
    refine r_aload_n dX12_count_80 rfl ?_
    refine r_getI flX12_305 sh57 rfl dX12_count_81 ?_
    exact r_iret rfl dX12_count_84 (hr (((kbW μ 57 3 0).1 57 28, kbW μ 57 3 0)) (kbG_some h))
  replace h := kbG_f hc2 h
  by_cases hc3 : a1 = 3
  · replace h := kbG_t hc3 h
    refine r_tabIn 85 dX12_count_8 (by rw [hc3]; decide) (by rw [hc3]; decide) (by rw [hc3]; rfl) (by decide) ?_
    refine r_iconst 0 dX12_count_85 (by decide) ?_
    refine r_istore_n dX12_count_86 (Nat.le_of_ble_eq_true rfl) rfl ?_
    refine r_le [some (.ref 57), none, some (.int 0), some (.int 0)] ⟨rfl, ⟨rfl, ⟨rfl, trivial⟩⟩⟩ ?_
    obtain ⟨x2, hx0, h⟩ := kbG_bind h
    refine lpR_MD_count_87 n (kbW μ 57 3 0) (P := fun z => x2 = z) (hx := fun z e => ?_) n _ _ ⟨_, hx0, rfl⟩
    subst e
    refine r_iload_n dX12_count_110 rfl ?_
    exact r_iret rfl dX12_count_111 (hr ((x2, kbW μ 57 3 0)) (kbG_some h))
  replace h := kbG_f hc3 h
  by_cases hc4 : a1 = 4
  · replace h := kbG_t hc4 h
    refine r_tabIn 112 dX12_count_8 (by rw [hc4]; decide) (by rw [hc4]; decide) (by rw [hc4]; rfl) (by decide) ?_
    refine r_iconst 0 dX12_count_112 (by decide) ?_
    refine r_istore_n dX12_count_113 (Nat.le_of_ble_eq_true rfl) rfl ?_
    refine r_le [some (.ref 57), none, some (.int 0), some (.int 0)] ⟨rfl, ⟨rfl, ⟨rfl, trivial⟩⟩⟩ ?_
    obtain ⟨x4, hx0, h⟩ := kbG_bind h
    refine lpR_MD_count_114 n (kbW μ 57 3 0) (P := fun z => x4 = z) (hx := fun z e => ?_) n _ _ ⟨_, hx0, rfl⟩
    subst e
    refine r_iload_n dX12_count_140 rfl ?_
    exact r_iret rfl dX12_count_141 (hr ((x4, kbW μ 57 3 0)) (kbG_some h))
  replace h := kbG_f hc4 h
  by_cases hc5 : a1 = 5
  · replace h := kbG_t hc5 h
    refine r_tabIn 142 dX12_count_8 (by rw [hc5]; decide) (by rw [hc5]; decide) (by rw [hc5]; rfl) (by decide) ?_
    refine r_aload_n dX12_count_142 rfl ?_
    refine r_getI flX12_308 sh57 rfl dX12_count_143 ?_
    exact r_iret rfl dX12_count_146 (hr (((kbW μ 57 3 0).1 57 29, kbW μ 57 3 0)) (kbG_some h))
  replace h := kbG_f hc5 h
  by_cases hc6 : a1 = 6
  · replace h := kbG_t hc6 h
    refine r_tabIn 147 dX12_count_8 (by rw [hc6]; decide) (by rw [hc6]; decide) (by rw [hc6]; rfl) (by decide) ?_
    refine r_aload_n dX12_count_147 rfl ?_
    refine r_getI flX12_311 sh57 rfl dX12_count_148 ?_
    exact r_iret rfl dX12_count_151 (hr (((kbW μ 57 3 0).1 57 30, kbW μ 57 3 0)) (kbG_some h))
  replace h := kbG_f hc6 h
  by_cases hc7 : a1 = 7
  · replace h := kbG_t hc7 h
    refine r_tabIn 152 dX12_count_8 (by rw [hc7]; decide) (by rw [hc7]; decide) (by rw [hc7]; rfl) (by decide) ?_
    refine r_aload_n dX12_count_152 rfl ?_
    refine r_getI flX12_170 sh57 rfl dX12_count_153 ?_
    exact r_iret rfl dX12_count_156 (hr (((kbW μ 57 3 0).1 57 13, kbW μ 57 3 0)) (kbG_some h))
  replace h := kbG_f hc7 h
  by_cases hc8 : a1 = 8
  · replace h := kbG_t hc8 h
    refine r_tabIn 157 dX12_count_8 (by rw [hc8]; decide) (by rw [hc8]; decide) (by rw [hc8]; rfl) (by decide) ?_
    refine r_aload_n dX12_count_157 rfl ?_
    refine r_getR flX12_69 sh57 rfl dX12_count_158 ?_
    refine r_iload_n dX12_count_161 rfl ?_
    refine r_bipush 8 dX12_count_162 (by decide) ?_
    refine r_isub dX12_count_164 ?_
    obtain ⟨hin, h⟩ := kbG_if h
    replace hin := kbIn_of hin
    refine q_iald ((a1 - 8).toNatClampNeg) rfl sh68 hin dX12_count_165 ?_
    exact r_iret rfl dX12_count_166 (hr (((kbW μ 57 3 0).1 68 ((a1 - 8).toNatClampNeg), kbW μ 57 3 0)) (kbG_some h))
  replace h := kbG_f hc8 h
  by_cases hc9 : a1 = 9
  · replace h := kbG_t hc9 h
    refine r_tabIn 157 dX12_count_8 (by rw [hc9]; decide) (by rw [hc9]; decide) (by rw [hc9]; rfl) (by decide) ?_
    refine r_aload_n dX12_count_157 rfl ?_
    refine r_getR flX12_69 sh57 rfl dX12_count_158 ?_
    refine r_iload_n dX12_count_161 rfl ?_
    refine r_bipush 8 dX12_count_162 (by decide) ?_
    refine r_isub dX12_count_164 ?_
    obtain ⟨hin, h⟩ := kbG_if h
    replace hin := kbIn_of hin
    refine q_iald ((a1 - 8).toNatClampNeg) rfl sh68 hin dX12_count_165 ?_
    exact r_iret rfl dX12_count_166 (hr (((kbW μ 57 3 0).1 68 ((a1 - 8).toNatClampNeg), kbW μ 57 3 0)) (kbG_some h))
  replace h := kbG_f hc9 h
  by_cases hc10 : a1 = 10
  · replace h := kbG_t hc10 h
    refine r_tabIn 157 dX12_count_8 (by rw [hc10]; decide) (by rw [hc10]; decide) (by rw [hc10]; rfl) (by decide) ?_
    refine r_aload_n dX12_count_157 rfl ?_
    refine r_getR flX12_69 sh57 rfl dX12_count_158 ?_
    refine r_iload_n dX12_count_161 rfl ?_
    refine r_bipush 8 dX12_count_162 (by decide) ?_
    refine r_isub dX12_count_164 ?_
    obtain ⟨hin, h⟩ := kbG_if h
    replace hin := kbIn_of hin
    refine q_iald ((a1 - 8).toNatClampNeg) rfl sh68 hin dX12_count_165 ?_
    exact r_iret rfl dX12_count_166 (hr (((kbW μ 57 3 0).1 68 ((a1 - 8).toNatClampNeg), kbW μ 57 3 0)) (kbG_some h))
  replace h := kbG_f hc10 h
  have hD : kbR l MX12_count 2 Q 167 [some (.ref 57), some (.int a1), some (.int 0), none] [] (kbW μ 57 3 0) := by
    refine r_aload_n dX12_count_167 rfl ?_
    refine r_iconst 1 dX12_count_168 (by decide) ?_
    obtain ⟨x1, hx0, h⟩ := kbG_bind h
    refine r_invV_i cvX12_292 sh57 rfl (sp_MD_fail 1 (kbW μ 57 3 0) hx0) rfl rfl (Nat.le_of_ble_eq_true rfl) (Nat.le_of_ble_eq_true rfl) dX12_count_169 ?_
    exact r_iret rfl dX12_count_172 (hr ((x1.1, x1.2)) (kbG_some h))
  exact r_tabOut 167 dX12_count_8 (kb_out fun q q1 q2 => by
    have hq : q = 0 ∨ q = 1 ∨ q = 2 ∨ q = 3 ∨ q = 4 ∨ q = 5 ∨ q = 6 ∨ q = 7 ∨ q = 8 ∨ q = 9 ∨ q = 10 := by omega
    rcases hq with rfl | rfl | rfl | rfl | rfl | rfl | rfl | rfl | rfl | rfl | rfl
    · exact hc0
    · exact hc1
    · exact hc2
    · exact hc3
    · exact hc4
    · exact hc5
    · exact hc6
    · exact hc7
    · exact hc8
    · exact hc9
    · exact hc10) (by decide) hD
def jn_MD_isIn_18 (w0 : Int32) : Option (Int32) :=
  kbIf (decide (w0 = 0 ∨ w0 = 1)) <|
  some w0
theorem jnR_MD_isIn_18 {l : Launch}   (w0 : Int32) (μ : kbM) {Q : kbQt} {P : Int32 → Prop} (hr : ∀ z : Int32, P z → Q (some (.int z)) μ) (h : kbG (jn_MD_isIn_18 w0) P) : kbR l MX12_isIn 1 Q 18 [none, none, none, none, none, none] [.int w0] μ := by
  unfold jn_MD_isIn_18 at h
  obtain ⟨hz, h⟩ := kbG_if h
  exact r_zret rfl (kb_z01 (of_decide_eq_true hz)) dX12_isIn_18 (hr w0 (kbG_some h))
def jn_MD_isIn_17  : Option (Int32) :=
  jn_MD_isIn_18 0
theorem jnR_MD_isIn_17 {l : Launch}    (μ : kbM) {Q : kbQt} {P : Int32 → Prop} (hr : ∀ z : Int32, P z → Q (some (.int z)) μ) (h : kbG (jn_MD_isIn_17 ) P) : kbR l MX12_isIn 1 Q 17 [none, none, none, none, none, none] [] μ := by
  unfold jn_MD_isIn_17 at h
  refine r_iconst 0 dX12_isIn_17 (by decide) ?_
  refine r_le [none, none, none, none, none, none] trivial ?_
  exact jnR_MD_isIn_18 0 μ (hr := hr) h
def f_MD_isIn (a0 : Int64) (a2 : Int64) (a4 : Int64) : Option (Int32) :=
  if (lg_cmp a0 a2) < 0 then
    jn_MD_isIn_17 
  else
    if 0 < (lg_cmp a0 a4) then
      jn_MD_isIn_17 
    else
      jn_MD_isIn_18 1
theorem sp_MD_isIn {l : Launch} (a0 : Int64) (a2 : Int64) (a4 : Int64) (μ : kbM)  {x : Int32} (h : f_MD_isIn a0 a2 a4 = some x) : kbS l MX12_isIn 1 [.long a0, .long a2, .long a4] μ (kbQe (some (.int x)) μ) := by
  refine kb_enter 0 rfl rfl ?_
  suffices H : ∀ (Q : kbQt) (P : Int32 → Prop), (∀ z : Int32, P z → Q (some (.int z)) μ) → kbG (f_MD_isIn a0 a2 a4) P → kbR l MX12_isIn 1 Q 0 [some (.long a0), none, some (.long a2), none, some (.long a4), none] [] μ from H _ (fun z => z = x) (fun z e => by subst e; exact ⟨rfl, rfl⟩) ⟨x, h, rfl⟩
  clear h
  intro Q P hr h
  unfold f_MD_isIn at h
  refine r_lload_n dX12_isIn_0 rfl ?_
  refine r_lload_n dX12_isIn_1 rfl ?_
  refine r_lcmp dX12_isIn_2 ?_
  refine r_if_lt 17 dX12_isIn_3 (by decide) (fun hc => ?_) (fun hc => ?_)
  · replace h := kbG_t hc h
    refine r_le [none, none, none, none, none, none] trivial ?_
    exact jnR_MD_isIn_17  μ (hr := hr) h
  · replace h := kbG_f hc h
    refine r_lload_n dX12_isIn_6 rfl ?_
    refine r_lload dX12_isIn_7 rfl ?_
    refine r_lcmp dX12_isIn_9 ?_
    refine r_if_gt 17 dX12_isIn_10 (by decide) (fun hc => ?_) (fun hc => ?_)
    · replace h := kbG_t hc h
      refine r_le [none, none, none, none, none, none] trivial ?_
      exact jnR_MD_isIn_17  μ (hr := hr) h
    · replace h := kbG_f hc h
      refine r_iconst 1 dX12_isIn_13 (by decide) ?_
      refine r_goto 18 dX12_isIn_14 (by decide) ?_
      refine r_le [none, none, none, none, none, none] trivial ?_
      exact jnR_MD_isIn_18 1 μ (hr := hr) h
def f_MD_isWord (a1 : Int32) (μ : kbM) : Option (Int32) :=
  (f_MD_isIn a1.toInt64 0 (((μ.1 57 27) - 1).toInt64)).bind fun x1 =>
  kbIf (decide (x1 = 0 ∨ x1 = 1)) <|
  some x1
theorem sp_MD_isWord {l : Launch} (a1 : Int32) (μ : kbM)  {x : Int32} (h : f_MD_isWord a1 μ = some x) : kbS l MX12_isWord 2 [.ref 57, .int a1] μ (kbQe (some (.int x)) μ) := by
  refine kb_enter 0 rfl rfl ?_
  suffices H : ∀ (Q : kbQt) (P : Int32 → Prop), (∀ z : Int32, P z → Q (some (.int z)) μ) → kbG (f_MD_isWord a1 μ) P → kbR l MX12_isWord 2 Q 0 [some (.ref 57), some (.int a1)] [] μ from H _ (fun z => z = x) (fun z e => by subst e; exact ⟨rfl, rfl⟩) ⟨x, h, rfl⟩
  clear h
  intro Q P hr h
  unfold f_MD_isWord at h
  refine r_iload_n dX12_isWord_0 rfl ?_
  refine r_i2l dX12_isWord_1 ?_
  refine r_lconst 0 dX12_isWord_2 (by decide) ?_
  refine r_aload_n dX12_isWord_3 rfl ?_
  refine r_getI flX12_162 sh57 rfl dX12_isWord_4 ?_
  refine r_iconst 1 dX12_isWord_7 (by decide) ?_
  refine r_isub dX12_isWord_8 ?_
  refine r_i2l dX12_isWord_9 ?_
  obtain ⟨x1, hx0, h⟩ := kbG_bind h
  refine r_inv_i csX12_165 (sp_MD_isIn a1.toInt64 0 (((μ.1 57 27) - 1).toInt64) μ hx0) rfl rfl (Nat.le_of_ble_eq_true rfl) (Nat.le_of_ble_eq_true rfl) dX12_isWord_10 ?_
  obtain ⟨hz, h⟩ := kbG_if h
  exact r_zret rfl (kb_z01 (of_decide_eq_true hz)) dX12_isWord_13 (hr x1 (kbG_some h))
def jn_MD_isOf_14 (w0 : Int32) : Option (Int32) :=
  kbIf (decide (w0 = 0 ∨ w0 = 1)) <|
  some w0
theorem jnR_MD_isOf_14 {l : Launch}   (w0 : Int32) (μ : kbM) {Q : kbQt} {P : Int32 → Prop} (hr : ∀ z : Int32, P z → Q (some (.int z)) μ) (h : kbG (jn_MD_isOf_14 w0) P) : kbR l MX12_isOf 1 Q 14 [none, none] [.int w0] μ := by
  unfold jn_MD_isOf_14 at h
  obtain ⟨hz, h⟩ := kbG_if h
  exact r_zret rfl (kb_z01 (of_decide_eq_true hz)) dX12_isOf_14 (hr w0 (kbG_some h))
def f_MD_isOf (a0 : Int32) (a1 : Int32) : Option (Int32) :=
  if ((kbShr a0 a1) &&& 1) = 1 then
    jn_MD_isOf_14 1
  else
    jn_MD_isOf_14 0
theorem sp_MD_isOf {l : Launch} (a0 : Int32) (a1 : Int32) (μ : kbM)  {x : Int32} (h : f_MD_isOf a0 a1 = some x) : kbS l MX12_isOf 1 [.int a0, .int a1] μ (kbQe (some (.int x)) μ) := by
  refine kb_enter 0 rfl rfl ?_
  suffices H : ∀ (Q : kbQt) (P : Int32 → Prop), (∀ z : Int32, P z → Q (some (.int z)) μ) → kbG (f_MD_isOf a0 a1) P → kbR l MX12_isOf 1 Q 0 [some (.int a0), some (.int a1)] [] μ from H _ (fun z => z = x) (fun z e => by subst e; exact ⟨rfl, rfl⟩) ⟨x, h, rfl⟩
  clear h
  intro Q P hr h
  unfold f_MD_isOf at h
  refine r_iload_n dX12_isOf_0 rfl ?_
  refine r_iload_n dX12_isOf_1 rfl ?_
  refine r_shr dX12_isOf_2 ?_
  refine r_iconst 1 dX12_isOf_3 (by decide) ?_
  refine r_iand dX12_isOf_4 ?_
  refine r_iconst 1 dX12_isOf_5 (by decide) ?_
  refine r_icmp_ne 13 dX12_isOf_6 (by decide) (fun hc => ?_) (fun hc => ?_)
  · replace h := kbG_f hc h
    refine r_iconst 0 dX12_isOf_13 (by decide) ?_
    refine r_le [none, none] trivial ?_
    exact jnR_MD_isOf_14 0 μ (hr := hr) h
  · replace h := kbG_t hc h
    refine r_iconst 1 dX12_isOf_9 (by decide) ?_
    refine r_goto 14 dX12_isOf_10 (by decide) ?_
    refine r_le [none, none] trivial ?_
    exact jnR_MD_isOf_14 1 μ (hr := hr) h
def lp_MD_can_2 (n : Nat) (v0 : Int32) : Nat → Int32 → Option ((Int32) ⊕ (Unit))
  | 0, _ => none
  | k + 1, v2 =>
    if v2 ≤ 0 then
      some (.inr (()))
    else
      (f_MD_isOf v0 ((kbRem v2 5) - 1)).bind fun x1 =>
      if x1 = 0 then
        some (.inl 0)
      else
        lp_MD_can_2 n v0 k (v2 / 5)
theorem lpR_MD_can_2 {l : Launch} (n : Nat) (v0 : Int32) (μ : kbM)  {Q : kbQt} {P : (Int32) ⊕ (Unit) → Prop} (hr : ∀ z : Int32, P (.inl z) → Q (some (.int z)) μ) (hx : ∀ z : Unit, P (.inr z) → kbR l MX12_can 2 Q 27 [none, none, none] [] μ) : ∀ (k : Nat) (v2 : Int32), kbG (lp_MD_can_2 n v0 k v2) P → kbR l MX12_can 2 Q 2 [some (.int v0), none, some (.int v2)] [] μ := by
  intro k
  induction k with
  | zero => intro v2 h; exact absurd h kbG_none
  | succ k ih =>
    intro v2 h
    unfold lp_MD_can_2 at h
    refine r_iload_n dX12_can_2 rfl ?_
    refine r_if_le 27 dX12_can_3 (by decide) (fun hc => ?_) (fun hc => ?_)
    · replace h := kbG_t hc h
      refine r_le [none, none, none] trivial ?_
      exact hx (()) (kbG_some h)
    · replace h := kbG_f hc h
      refine r_iload_n dX12_can_6 rfl ?_
      refine r_iload_n dX12_can_7 rfl ?_
      refine r_iconst 5 dX12_can_8 (by decide) ?_
      refine r_rem dX12_can_9 (by decide) ?_
      refine r_iconst 1 dX12_can_10 (by decide) ?_
      refine r_isub dX12_can_11 ?_
      obtain ⟨x1, hx0, h⟩ := kbG_bind h
      refine r_inv_i csX12_318 (sp_MD_isOf v0 ((kbRem v2 5) - 1) μ hx0) rfl rfl (Nat.le_of_ble_eq_true rfl) (Nat.le_of_ble_eq_true rfl) dX12_can_12 ?_
      refine r_if_ne 20 dX12_can_15 (by decide) (fun hc => ?_) (fun hc => ?_)
      · replace h := kbG_f hc h
        refine r_iload_n dX12_can_20 rfl ?_
        refine r_iconst 5 dX12_can_21 (by decide) ?_
        refine r_idiv dX12_can_22 (by decide) ?_
        refine r_istore_n dX12_can_23 (Nat.le_of_ble_eq_true rfl) rfl ?_
        refine r_goto 2 dX12_can_24 (by decide) ?_
        refine r_le [some (.int v0), none, some (.int (v2 / 5))] ⟨rfl, ⟨rfl, trivial⟩⟩ ?_
        exact ih (v2 / 5) h
      · replace h := kbG_t hc h
        refine r_iconst 0 dX12_can_18 (by decide) ?_
        exact r_zret rfl rfl dX12_can_19 (hr 0 (kbG_some h))
def f_MD_can (n : Nat) (a0 : Int32) (a1 : Int32) : Option (Int32) :=
  kbOr (lp_MD_can_2 n a0 n a1) (fun r3 => some r3) fun x2 =>
  some 1
theorem sp_MD_can {l : Launch} (n : Nat) (a0 : Int32) (a1 : Int32) (μ : kbM)  {x : Int32} (h : f_MD_can n a0 a1 = some x) : kbS l MX12_can 2 [.int a0, .int a1] μ (kbQe (some (.int x)) μ) := by
  refine kb_enter 1 rfl rfl ?_
  suffices H : ∀ (Q : kbQt) (P : Int32 → Prop), (∀ z : Int32, P z → Q (some (.int z)) μ) → kbG (f_MD_can n a0 a1) P → kbR l MX12_can 2 Q 0 [some (.int a0), some (.int a1), none] [] μ from H _ (fun z => z = x) (fun z e => by subst e; exact ⟨rfl, rfl⟩) ⟨x, h, rfl⟩
  clear h
  intro Q P hr h
  unfold f_MD_can at h
  refine r_iload_n dX12_can_0 rfl ?_
  refine r_istore_n dX12_can_1 (Nat.le_of_ble_eq_true rfl) rfl ?_
  refine r_le [some (.int a0), none, some (.int a1)] ⟨rfl, ⟨rfl, trivial⟩⟩ ?_
  rcases kbG_or h with ⟨r3, hx0, h⟩ | ⟨x2, hx0, h⟩
  · exact lpR_MD_can_2 n a0 μ (P := fun z => .inl r3 = z) (hr := fun z e => by cases e; exact hr _ (kbG_some h)) (hx := fun z e => by cases e) n _ ⟨_, hx0, rfl⟩
  · refine lpR_MD_can_2 n a0 μ (P := fun z => .inr x2 = z) (hr := fun z e => by cases e) (hx := fun z e => ?_) n _ ⟨_, hx0, rfl⟩
    cases e
    refine r_iconst 1 dX12_can_27 (by decide) ?_
    exact r_zret rfl rfl dX12_can_28 (hr 1 (kbG_some h))
def jn_MD_word_25 (n : Nat) (μ : kbM) : Option (Int32 × kbM) :=
  (f_MD_fail 1 μ).bind fun x2 =>
  some ((x2.1, x2.2))
theorem jnR_MD_word_25 {l : Launch} (n : Nat)    (μ : kbM) {Q : kbQt} {P : Int32 × kbM → Prop} (hr : ∀ z : Int32 × kbM, P z → Q (some (.int z.1)) z.2) (h : kbG (jn_MD_word_25 n μ) P) : kbR l MX12_word 3 Q 25 [some (.ref 57), none, none, none, none] [] μ := by
  unfold jn_MD_word_25 at h
  refine r_aload_n dX12_word_25 rfl ?_
  refine r_iconst 1 dX12_word_26 (by decide) ?_
  obtain ⟨x2, hx0, h⟩ := kbG_bind h
  refine r_invV_i cvX12_292 sh57 rfl (sp_MD_fail 1 μ hx0) rfl rfl (Nat.le_of_ble_eq_true rfl) (Nat.le_of_ble_eq_true rfl) dX12_word_27 ?_
  exact r_iret rfl dX12_word_30 (hr ((x2.1, x2.2)) (kbG_some h))
def jn_MD_word_75 (n : Nat) (rec : Int32 → Int32 → Option (Int32)) (v1 : Int32) (v2 : Int32) (v4 : Int32) (w0 : Int32) (w1 : Int32) (μ : kbM) : Option (Int32) :=
  rec (w0 ||| w1) (v4 + 1)
theorem jnR_MD_word_75 {l : Launch} (n : Nat)   (v1 : Int32) (v2 : Int32) (v4 : Int32) (w0 : Int32) (w1 : Int32) (μ : kbM) {Q : kbQt} {P : Int32 → Prop} (hx : ∀ z : Int32, P (z) → kbR l MX12_word 3 Q 83 [some (.ref 57), some (.int v1), some (.int v2), some (.int z), none] [] μ) {rec : Int32 → Int32 → Option (Int32)} (hrec : ∀ (v3 : Int32) (v4 : Int32), kbG (rec v3 v4) P → kbR l MX12_word 3 Q 36 [some (.ref 57), some (.int v1), some (.int v2), some (.int v3), some (.int v4)] [] μ) (h : kbG (jn_MD_word_75 n rec v1 v2 v4 w0 w1 μ) P) : kbR l MX12_word 3 Q 75 [some (.ref 57), some (.int v1), some (.int v2), none, some (.int v4)] [.int w1, .int w0] μ := by
  unfold jn_MD_word_75 at h
  refine r_ior dX12_word_75 ?_
  refine r_istore_n dX12_word_76 (Nat.le_of_ble_eq_true rfl) rfl ?_
  refine r_iinc 1 dX12_word_77 rfl (by decide) (Nat.le_of_ble_eq_true rfl) rfl ?_
  refine r_goto 36 dX12_word_80 (by decide) ?_
  refine r_le [some (.ref 57), some (.int v1), some (.int v2), some (.int (w0 ||| w1)), some (.int (v4 + 1))] ⟨rfl, ⟨rfl, ⟨rfl, ⟨rfl, ⟨rfl, trivial⟩⟩⟩⟩⟩ ?_
  exact hrec (w0 ||| w1) (v4 + 1) h
def lp_MD_word_36 (n : Nat) (v1 : Int32) (v2 : Int32) (μ : kbM) : Nat → Int32 → Int32 → Option (Int32)
  | 0, _, _ => none
  | k + 1, v3, v4 =>
    if (μ.1 61 1) ≤ v4 then
      some v3
    else
      kbIf (kbIn v4 12) <|
      kbIf (kbIn v1 10) <|
      (f_MD_can n (μ.1 66 v4.toNatClampNeg) (μ.1 70 v1.toNatClampNeg)).bind fun x4 =>
      if x4 = 0 then
        jn_MD_word_75 n (lp_MD_word_36 n v1 v2 μ k) v1 v2 v4 v3 0 μ
      else
        jn_MD_word_75 n (lp_MD_word_36 n v1 v2 μ k) v1 v2 v4 v3 (kbShl 1 v4) μ
theorem lpR_MD_word_36 {l : Launch} (n : Nat) (v1 : Int32) (v2 : Int32) (μ : kbM)  {Q : kbQt} {P : Int32 → Prop} (hx : ∀ z : Int32, P (z) → kbR l MX12_word 3 Q 83 [some (.ref 57), some (.int v1), some (.int v2), some (.int z), none] [] μ) : ∀ (k : Nat) (v3 : Int32) (v4 : Int32), kbG (lp_MD_word_36 n v1 v2 μ k v3 v4) P → kbR l MX12_word 3 Q 36 [some (.ref 57), some (.int v1), some (.int v2), some (.int v3), some (.int v4)] [] μ := by
  intro k
  induction k with
  | zero => intro v3 v4 h; exact absurd h kbG_none
  | succ k ih =>
    intro v3 v4 h
    unfold lp_MD_word_36 at h
    refine r_iload dX12_word_36 rfl ?_
    refine r_aload_n dX12_word_38 rfl ?_
    refine r_getR flX12_47 sh57 rfl dX12_word_39 ?_
    refine r_iconst 1 dX12_word_42 (by decide) ?_
    have hin : vp_in 1 6 := kbIn_of (by decide)
    refine q_iald 1 (by decide) sh61 hin dX12_word_43 ?_
    refine r_icmp_ge 83 dX12_word_44 (by decide) (fun hc => ?_) (fun hc => ?_)
    · replace h := kbG_t hc h
      refine r_le [some (.ref 57), some (.int v1), some (.int v2), some (.int v3), none] ⟨rfl, ⟨rfl, ⟨rfl, ⟨rfl, trivial⟩⟩⟩⟩ ?_
      exact hx v3 (kbG_some h)
    · replace h := kbG_f hc h
      refine r_iload_n dX12_word_47 rfl ?_
      refine r_aload_n dX12_word_48 rfl ?_
      refine r_getR flX12_63 sh57 rfl dX12_word_49 ?_
      refine r_iload dX12_word_52 rfl ?_
      obtain ⟨hin, h⟩ := kbG_if h
      replace hin := kbIn_of hin
      refine q_iald v4.toNatClampNeg rfl sh66 hin dX12_word_54 ?_
      refine r_aload_n dX12_word_55 rfl ?_
      refine r_getR flX12_79 sh57 rfl dX12_word_56 ?_
      refine r_iload_n dX12_word_59 rfl ?_
      obtain ⟨hin, h⟩ := kbG_if h
      replace hin := kbIn_of hin
      refine q_iald v1.toNatClampNeg rfl sh70 hin dX12_word_60 ?_
      obtain ⟨x4, hx0, h⟩ := kbG_bind h
      refine r_inv_i csX12_325 (sp_MD_can n (μ.1 66 v4.toNatClampNeg) (μ.1 70 v1.toNatClampNeg) μ hx0) rfl rfl (Nat.le_of_ble_eq_true rfl) (Nat.le_of_ble_eq_true rfl) dX12_word_61 ?_
      refine r_if_eq 74 dX12_word_64 (by decide) (fun hc => ?_) (fun hc => ?_)
      · replace h := kbG_t hc h
        refine r_iconst 0 dX12_word_74 (by decide) ?_
        refine r_le [some (.ref 57), some (.int v1), some (.int v2), none, some (.int v4)] ⟨rfl, ⟨rfl, ⟨rfl, ⟨rfl, trivial⟩⟩⟩⟩ ?_
        exact jnR_MD_word_75 n v1 v2 v4 v3 0 μ (hx := hx) (hrec := ih) h
      · replace h := kbG_f hc h
        refine r_iconst 1 dX12_word_67 (by decide) ?_
        refine r_iload dX12_word_68 rfl ?_
        refine r_shl dX12_word_70 ?_
        refine r_goto 75 dX12_word_71 (by decide) ?_
        refine r_le [some (.ref 57), some (.int v1), some (.int v2), none, some (.int v4)] ⟨rfl, ⟨rfl, ⟨rfl, ⟨rfl, trivial⟩⟩⟩⟩ ?_
        exact jnR_MD_word_75 n v1 v2 v4 v3 (kbShl 1 v4) μ (hx := hx) (hrec := ih) h
def jn_MD_word_142 (n : Nat) (w0 : Int32) (μ : kbM) : Option (Int32 × kbM) :=
  some ((w0, μ))
theorem jnR_MD_word_142 {l : Launch} (n : Nat)   (w0 : Int32) (μ : kbM) {Q : kbQt} {P : Int32 × kbM → Prop} (hr : ∀ z : Int32 × kbM, P z → Q (some (.int z.1)) z.2) (h : kbG (jn_MD_word_142 n w0 μ) P) : kbR l MX12_word 3 Q 142 [none, none, none, none, none] [.int w0] μ := by
  unfold jn_MD_word_142 at h
  exact r_iret rfl dX12_word_142 (hr ((w0, μ)) (kbG_some h))
def f_MD_word (n : Nat) (a1 : Int32) (a2 : Int32) (μ : kbM) : Option (Int32 × kbM) :=
  (f_MD_isWord a1 (kbW μ 57 3 0)).bind fun x1 =>
  if x1 = 0 then
    jn_MD_word_25 n (kbW μ 57 3 0)
  else
    (f_MD_isIn a2.toInt64 0 4).bind fun x3 =>
    if x3 = 0 then
      jn_MD_word_25 n (kbW μ 57 3 0)
    else
      (lp_MD_word_36 n a1 a2 (kbW μ 57 3 0) n 0 0).bind fun x5 =>
      if a2 = 0 then
        kbIf (kbIn a1 10) <|
        jn_MD_word_142 n ((kbW μ 57 3 0).1 70 a1.toNatClampNeg) (kbW μ 57 3 0)
      else
        if a2 = 1 then
          kbIf (kbIn a1 10) <|
          (f_MD_sizeOf n ((kbW μ 57 3 0).1 70 a1.toNatClampNeg)).bind fun x6 =>
          jn_MD_word_142 n x6 (kbW μ 57 3 0)
        else
          if a2 = 2 then
            kbIf (kbIn a1 10) <|
            jn_MD_word_142 n ((kbW μ 57 3 0).1 71 a1.toNatClampNeg) (kbW μ 57 3 0)
          else
            if a2 = 3 then
              kbIf (kbIn a1 10) <|
              jn_MD_word_142 n ((kbW μ 57 3 0).1 72 a1.toNatClampNeg) (kbW μ 57 3 0)
            else
              jn_MD_word_142 n x5 (kbW μ 57 3 0)
theorem sp_MD_word {l : Launch} (n : Nat) (a1 : Int32) (a2 : Int32) (μ : kbM)  {x : Int32 × kbM} (h : f_MD_word n a1 a2 μ = some x) : kbS l MX12_word 3 [.ref 57, .int a1, .int a2] μ (kbQe (some (.int x.1)) x.2) := by
  refine kb_enter 2 rfl rfl ?_
  suffices H : ∀ (Q : kbQt) (P : Int32 × kbM → Prop), (∀ z : Int32 × kbM, P z → Q (some (.int z.1)) z.2) → kbG (f_MD_word n a1 a2 μ) P → kbR l MX12_word 3 Q 0 [some (.ref 57), some (.int a1), some (.int a2), none, none] [] μ from H _ (fun z => z = x) (fun z e => by subst e; exact ⟨rfl, rfl⟩) ⟨x, h, rfl⟩
  clear h
  intro Q P hr h
  unfold f_MD_word at h
  refine r_aload_n dX12_word_0 rfl ?_
  refine r_iconst 0 dX12_word_1 (by decide) ?_
  refine r_put flX12_159 sh57 rfl rfl rfl dX12_word_2 ?_
  refine r_aload_n dX12_word_5 rfl ?_
  refine r_iload_n dX12_word_6 rfl ?_
  obtain ⟨x1, hx0, h⟩ := kbG_bind h
  refine r_invV_i cvX12_331 sh57 rfl (sp_MD_isWord a1 (kbW μ 57 3 0) hx0) rfl rfl (Nat.le_of_ble_eq_true rfl) (Nat.le_of_ble_eq_true rfl) dX12_word_7 ?_
  refine r_if_eq 25 dX12_word_10 (by decide) (fun hc => ?_) (fun hc => ?_)
  · replace h := kbG_t hc h
    refine r_le [some (.ref 57), none, none, none, none] ⟨rfl, trivial⟩ ?_
    exact jnR_MD_word_25 n  (kbW μ 57 3 0) (hr := hr) h
  · replace h := kbG_f hc h
    refine r_iload_n dX12_word_13 rfl ?_
    refine r_i2l dX12_word_14 ?_
    refine r_lconst 0 dX12_word_15 (by decide) ?_
    refine r_ldc2 4 liX12_334 dX12_word_16 ?_
    obtain ⟨x3, hx0, h⟩ := kbG_bind h
    refine r_inv_i csX12_165 (sp_MD_isIn a2.toInt64 0 4 (kbW μ 57 3 0) hx0) rfl rfl (Nat.le_of_ble_eq_true rfl) (Nat.le_of_ble_eq_true rfl) dX12_word_19 ?_
    refine r_if_ne 31 dX12_word_22 (by decide) (fun hc => ?_) (fun hc => ?_)
    · replace h := kbG_f hc h
      refine r_iconst 0 dX12_word_31 (by decide) ?_
      refine r_istore_n dX12_word_32 (Nat.le_of_ble_eq_true rfl) rfl ?_
      refine r_iconst 0 dX12_word_33 (by decide) ?_
      refine r_istore dX12_word_34 (Nat.le_of_ble_eq_true rfl) rfl ?_
      refine r_le [some (.ref 57), some (.int a1), some (.int a2), some (.int 0), some (.int 0)] ⟨rfl, ⟨rfl, ⟨rfl, ⟨rfl, ⟨rfl, trivial⟩⟩⟩⟩⟩ ?_
      obtain ⟨x5, hx0, h⟩ := kbG_bind h
      refine lpR_MD_word_36 n a1 a2 (kbW μ 57 3 0) (P := fun z => x5 = z) (hx := fun z e => ?_) n _ _ ⟨_, hx0, rfl⟩
      subst e
      refine r_iload_n dX12_word_83 rfl ?_
      refine r_if_ne 96 dX12_word_84 (by decide) (fun hc => ?_) (fun hc => ?_)
      · replace h := kbG_f hc h
        refine r_iload_n dX12_word_96 rfl ?_
        refine r_iconst 1 dX12_word_97 (by decide) ?_
        refine r_icmp_ne 113 dX12_word_98 (by decide) (fun hc => ?_) (fun hc => ?_)
        · replace h := kbG_f hc h
          refine r_iload_n dX12_word_113 rfl ?_
          refine r_iconst 2 dX12_word_114 (by decide) ?_
          refine r_icmp_ne 127 dX12_word_115 (by decide) (fun hc => ?_) (fun hc => ?_)
          · replace h := kbG_f hc h
            refine r_iload_n dX12_word_127 rfl ?_
            refine r_iconst 3 dX12_word_128 (by decide) ?_
            refine r_icmp_ne 141 dX12_word_129 (by decide) (fun hc => ?_) (fun hc => ?_)
            · replace h := kbG_f hc h
              refine r_iload_n dX12_word_141 rfl ?_
              refine r_le [none, none, none, none, none] trivial ?_
              exact jnR_MD_word_142 n x5 (kbW μ 57 3 0) (hr := hr) h
            · replace h := kbG_t hc h
              refine r_aload_n dX12_word_132 rfl ?_
              refine r_getR flX12_85 sh57 rfl dX12_word_133 ?_
              refine r_iload_n dX12_word_136 rfl ?_
              obtain ⟨hin, h⟩ := kbG_if h
              replace hin := kbIn_of hin
              refine q_iald a1.toNatClampNeg rfl sh72 hin dX12_word_137 ?_
              refine r_goto 142 dX12_word_138 (by decide) ?_
              refine r_le [none, none, none, none, none] trivial ?_
              exact jnR_MD_word_142 n ((kbW μ 57 3 0).1 72 a1.toNatClampNeg) (kbW μ 57 3 0) (hr := hr) h
          · replace h := kbG_t hc h
            refine r_aload_n dX12_word_118 rfl ?_
            refine r_getR flX12_82 sh57 rfl dX12_word_119 ?_
            refine r_iload_n dX12_word_122 rfl ?_
            obtain ⟨hin, h⟩ := kbG_if h
            replace hin := kbIn_of hin
            refine q_iald a1.toNatClampNeg rfl sh71 hin dX12_word_123 ?_
            refine r_goto 142 dX12_word_124 (by decide) ?_
            refine r_le [none, none, none, none, none] trivial ?_
            exact jnR_MD_word_142 n ((kbW μ 57 3 0).1 71 a1.toNatClampNeg) (kbW μ 57 3 0) (hr := hr) h
        · replace h := kbG_t hc h
          refine r_aload_n dX12_word_101 rfl ?_
          refine r_getR flX12_79 sh57 rfl dX12_word_102 ?_
          refine r_iload_n dX12_word_105 rfl ?_
          obtain ⟨hin, h⟩ := kbG_if h
          replace hin := kbIn_of hin
          refine q_iald a1.toNatClampNeg rfl sh70 hin dX12_word_106 ?_
          obtain ⟨x6, hx0, h⟩ := kbG_bind h
          refine r_inv_i csX12_322 (sp_MD_sizeOf n ((kbW μ 57 3 0).1 70 a1.toNatClampNeg) (kbW μ 57 3 0) hx0) rfl rfl (Nat.le_of_ble_eq_true rfl) (Nat.le_of_ble_eq_true rfl) dX12_word_107 ?_
          refine r_goto 142 dX12_word_110 (by decide) ?_
          refine r_le [none, none, none, none, none] trivial ?_
          exact jnR_MD_word_142 n x6 (kbW μ 57 3 0) (hr := hr) h
      · replace h := kbG_t hc h
        refine r_aload_n dX12_word_87 rfl ?_
        refine r_getR flX12_79 sh57 rfl dX12_word_88 ?_
        refine r_iload_n dX12_word_91 rfl ?_
        obtain ⟨hin, h⟩ := kbG_if h
        replace hin := kbIn_of hin
        refine q_iald a1.toNatClampNeg rfl sh70 hin dX12_word_92 ?_
        refine r_goto 142 dX12_word_93 (by decide) ?_
        refine r_le [none, none, none, none, none] trivial ?_
        exact jnR_MD_word_142 n ((kbW μ 57 3 0).1 70 a1.toNatClampNeg) (kbW μ 57 3 0) (hr := hr) h
    · replace h := kbG_t hc h
      refine r_le [some (.ref 57), none, none, none, none] ⟨rfl, trivial⟩ ?_
      exact jnR_MD_word_25 n  (kbW μ 57 3 0) (hr := hr) h
def f_MD_isDoor (a1 : Int32) (μ : kbM) : Option (Int32) :=
  (f_MD_isIn a1.toInt64 0 (((μ.1 61 1) - 1).toInt64)).bind fun x1 =>
  kbIf (decide (x1 = 0 ∨ x1 = 1)) <|
  some x1
theorem sp_MD_isDoor {l : Launch} (a1 : Int32) (μ : kbM)  {x : Int32} (h : f_MD_isDoor a1 μ = some x) : kbS l MX12_isDoor 2 [.ref 57, .int a1] μ (kbQe (some (.int x)) μ) := by
  refine kb_enter 0 rfl rfl ?_
  suffices H : ∀ (Q : kbQt) (P : Int32 → Prop), (∀ z : Int32, P z → Q (some (.int z)) μ) → kbG (f_MD_isDoor a1 μ) P → kbR l MX12_isDoor 2 Q 0 [some (.ref 57), some (.int a1)] [] μ from H _ (fun z => z = x) (fun z e => by subst e; exact ⟨rfl, rfl⟩) ⟨x, h, rfl⟩
  clear h
  intro Q P hr h
  unfold f_MD_isDoor at h
  refine r_iload_n dX12_isDoor_0 rfl ?_
  refine r_i2l dX12_isDoor_1 ?_
  refine r_lconst 0 dX12_isDoor_2 (by decide) ?_
  refine r_aload_n dX12_isDoor_3 rfl ?_
  refine r_getR flX12_47 sh57 rfl dX12_isDoor_4 ?_
  refine r_iconst 1 dX12_isDoor_7 (by decide) ?_
  have hin : vp_in 1 6 := kbIn_of (by decide)
  refine q_iald 1 (by decide) sh61 hin dX12_isDoor_8 ?_
  refine r_iconst 1 dX12_isDoor_9 (by decide) ?_
  refine r_isub dX12_isDoor_10 ?_
  refine r_i2l dX12_isDoor_11 ?_
  obtain ⟨x1, hx0, h⟩ := kbG_bind h
  refine r_inv_i csX12_165 (sp_MD_isIn a1.toInt64 0 (((μ.1 61 1) - 1).toInt64) μ hx0) rfl rfl (Nat.le_of_ble_eq_true rfl) (Nat.le_of_ble_eq_true rfl) dX12_isDoor_12 ?_
  obtain ⟨hz, h⟩ := kbG_if h
  exact r_zret rfl (kb_z01 (of_decide_eq_true hz)) dX12_isDoor_15 (hr x1 (kbG_some h))
def jn_MD_heardAt_88 (n : Nat) (rec : Int32 → Int32 → Int32 → Option (Int32)) (v1 : Int32) (v3 : Int32) (v4 : Int32) (v5 : Int32) (μ : kbM) : Option (Int32) :=
  rec (v3 / 5) v4 v5
theorem jnR_MD_heardAt_88 {l : Launch} (n : Nat)   (v1 : Int32) (v3 : Int32) (v4 : Int32) (v5 : Int32) (μ : kbM) {Q : kbQt} {P : Int32 → Prop} (hx : ∀ z : Int32, P (z) → kbR l MX12_heardAt 2 Q 95 [some (.ref 57), some (.int v1), none, none, some (.int z), none, none] [] μ) {rec : Int32 → Int32 → Int32 → Option (Int32)} (hrec : ∀ (v3 : Int32) (v4 : Int32) (v5 : Int32), kbG (rec v3 v4 v5) P → kbR l MX12_heardAt 2 Q 24 [some (.ref 57), some (.int v1), none, some (.int v3), some (.int v4), some (.int v5), none] [] μ) (h : kbG (jn_MD_heardAt_88 n rec v1 v3 v4 v5 μ) P) : kbR l MX12_heardAt 2 Q 88 [some (.ref 57), some (.int v1), none, some (.int v3), some (.int v4), some (.int v5), none] [] μ := by
  unfold jn_MD_heardAt_88 at h
  refine r_iload_n dX12_heardAt_88 rfl ?_
  refine r_iconst 5 dX12_heardAt_89 (by decide) ?_
  refine r_idiv dX12_heardAt_90 (by decide) ?_
  refine r_istore_n dX12_heardAt_91 (Nat.le_of_ble_eq_true rfl) rfl ?_
  refine r_goto 24 dX12_heardAt_92 (by decide) ?_
  refine r_le [some (.ref 57), some (.int v1), none, some (.int (v3 / 5)), some (.int v4), some (.int v5), none] ⟨rfl, ⟨rfl, ⟨rfl, ⟨rfl, ⟨rfl, trivial⟩⟩⟩⟩⟩ ?_
  exact hrec (v3 / 5) v4 v5 h
def jn_MD_heardAt_78 (n : Nat) (rec : Int32 → Int32 → Int32 → Option (Int32)) (v1 : Int32) (v3 : Int32) (v5 : Int32) (w0 : Int32) (w1 : Int32) (w2 : Int32) (μ : kbM) : Option (Int32) :=
  jn_MD_heardAt_88 n rec v1 v3 (w0 + (w1 * w2)) (v5 * 5) μ
theorem jnR_MD_heardAt_78 {l : Launch} (n : Nat)   (v1 : Int32) (v3 : Int32) (v5 : Int32) (w0 : Int32) (w1 : Int32) (w2 : Int32) (μ : kbM) {Q : kbQt} {P : Int32 → Prop} (hx : ∀ z : Int32, P (z) → kbR l MX12_heardAt 2 Q 95 [some (.ref 57), some (.int v1), none, none, some (.int z), none, none] [] μ) {rec : Int32 → Int32 → Int32 → Option (Int32)} (hrec : ∀ (v3 : Int32) (v4 : Int32) (v5 : Int32), kbG (rec v3 v4 v5) P → kbR l MX12_heardAt 2 Q 24 [some (.ref 57), some (.int v1), none, some (.int v3), some (.int v4), some (.int v5), none] [] μ) (h : kbG (jn_MD_heardAt_78 n rec v1 v3 v5 w0 w1 w2 μ) P) : kbR l MX12_heardAt 2 Q 78 [some (.ref 57), some (.int v1), none, some (.int v3), none, some (.int v5), none] [.int w2, .int w1, .int w0] μ := by
  unfold jn_MD_heardAt_78 at h
  refine r_imul dX12_heardAt_78 ?_
  refine r_iadd dX12_heardAt_79 ?_
  refine r_istore dX12_heardAt_80 (Nat.le_of_ble_eq_true rfl) rfl ?_
  refine r_iload dX12_heardAt_82 rfl ?_
  refine r_iconst 5 dX12_heardAt_84 (by decide) ?_
  refine r_imul dX12_heardAt_85 ?_
  refine r_istore dX12_heardAt_86 (Nat.le_of_ble_eq_true rfl) rfl ?_
  refine r_le [some (.ref 57), some (.int v1), none, some (.int v3), some (.int (w0 + (w1 * w2))), some (.int (v5 * 5)), none] ⟨rfl, ⟨rfl, ⟨rfl, ⟨rfl, ⟨rfl, trivial⟩⟩⟩⟩⟩ ?_
  exact jnR_MD_heardAt_88 n v1 v3 (w0 + (w1 * w2)) (v5 * 5) μ (hx := hx) (hrec := hrec) h
def jn_MD_heardAt_76 (n : Nat) (rec : Int32 → Int32 → Int32 → Option (Int32)) (v1 : Int32) (v3 : Int32) (v5 : Int32) (v6 : Int32) (w0 : Int32) (w1 : Int32) (μ : kbM) : Option (Int32) :=
  jn_MD_heardAt_78 n rec v1 v3 v5 w0 w1 v6 μ
theorem jnR_MD_heardAt_76 {l : Launch} (n : Nat)   (v1 : Int32) (v3 : Int32) (v5 : Int32) (v6 : Int32) (w0 : Int32) (w1 : Int32) (μ : kbM) {Q : kbQt} {P : Int32 → Prop} (hx : ∀ z : Int32, P (z) → kbR l MX12_heardAt 2 Q 95 [some (.ref 57), some (.int v1), none, none, some (.int z), none, none] [] μ) {rec : Int32 → Int32 → Int32 → Option (Int32)} (hrec : ∀ (v3 : Int32) (v4 : Int32) (v5 : Int32), kbG (rec v3 v4 v5) P → kbR l MX12_heardAt 2 Q 24 [some (.ref 57), some (.int v1), none, some (.int v3), some (.int v4), some (.int v5), none] [] μ) (h : kbG (jn_MD_heardAt_76 n rec v1 v3 v5 v6 w0 w1 μ) P) : kbR l MX12_heardAt 2 Q 76 [some (.ref 57), some (.int v1), none, some (.int v3), none, some (.int v5), some (.int v6)] [.int w1, .int w0] μ := by
  unfold jn_MD_heardAt_76 at h
  refine r_iload dX12_heardAt_76 rfl ?_
  refine r_le [some (.ref 57), some (.int v1), none, some (.int v3), none, some (.int v5), none] ⟨rfl, ⟨rfl, ⟨rfl, ⟨rfl, trivial⟩⟩⟩⟩ ?_
  exact jnR_MD_heardAt_78 n v1 v3 v5 w0 w1 v6 μ (hx := hx) (hrec := hrec) h
def jn_MD_heardAt_52 (n : Nat) (rec : Int32 → Int32 → Int32 → Option (Int32)) (v1 : Int32) (v3 : Int32) (v4 : Int32) (v5 : Int32) (v6 : Int32) (μ : kbM) : Option (Int32) :=
  kbIf (kbIn v1 12) <|
  if (μ.1 65 v1.toNatClampNeg) = 3 then
    if v6 = 3 then
      jn_MD_heardAt_78 n rec v1 v3 v5 v4 v5 1 μ
    else
      jn_MD_heardAt_76 n rec v1 v3 v5 v6 v4 v5 μ
  else
    jn_MD_heardAt_76 n rec v1 v3 v5 v6 v4 v5 μ
theorem jnR_MD_heardAt_52 {l : Launch} (n : Nat)   (v1 : Int32) (v3 : Int32) (v4 : Int32) (v5 : Int32) (v6 : Int32) (μ : kbM) {Q : kbQt} {P : Int32 → Prop} (hx : ∀ z : Int32, P (z) → kbR l MX12_heardAt 2 Q 95 [some (.ref 57), some (.int v1), none, none, some (.int z), none, none] [] μ) {rec : Int32 → Int32 → Int32 → Option (Int32)} (hrec : ∀ (v3 : Int32) (v4 : Int32) (v5 : Int32), kbG (rec v3 v4 v5) P → kbR l MX12_heardAt 2 Q 24 [some (.ref 57), some (.int v1), none, some (.int v3), some (.int v4), some (.int v5), none] [] μ) (h : kbG (jn_MD_heardAt_52 n rec v1 v3 v4 v5 v6 μ) P) : kbR l MX12_heardAt 2 Q 52 [some (.ref 57), some (.int v1), none, some (.int v3), some (.int v4), some (.int v5), some (.int v6)] [] μ := by
  unfold jn_MD_heardAt_52 at h
  refine r_iload dX12_heardAt_52 rfl ?_
  refine r_iload dX12_heardAt_54 rfl ?_
  refine r_aload_n dX12_heardAt_56 rfl ?_
  refine r_getR flX12_60 sh57 rfl dX12_heardAt_57 ?_
  refine r_iload_n dX12_heardAt_60 rfl ?_
  obtain ⟨hin, h⟩ := kbG_if h
  replace hin := kbIn_of hin
  refine q_iald v1.toNatClampNeg rfl sh65 hin dX12_heardAt_61 ?_
  refine r_iconst 3 dX12_heardAt_62 (by decide) ?_
  refine r_icmp_ne 76 dX12_heardAt_63 (by decide) (fun hc => ?_) (fun hc => ?_)
  · replace h := kbG_f hc h
    refine r_le [some (.ref 57), some (.int v1), none, some (.int v3), none, some (.int v5), some (.int v6)] ⟨rfl, ⟨rfl, ⟨rfl, ⟨rfl, ⟨rfl, trivial⟩⟩⟩⟩⟩ ?_
    exact jnR_MD_heardAt_76 n v1 v3 v5 v6 v4 v5 μ (hx := hx) (hrec := hrec) h
  · replace h := kbG_t hc h
    refine r_iload dX12_heardAt_66 rfl ?_
    refine r_iconst 3 dX12_heardAt_68 (by decide) ?_
    refine r_icmp_ne 76 dX12_heardAt_69 (by decide) (fun hc => ?_) (fun hc => ?_)
    · replace h := kbG_f hc h
      refine r_le [some (.ref 57), some (.int v1), none, some (.int v3), none, some (.int v5), some (.int v6)] ⟨rfl, ⟨rfl, ⟨rfl, ⟨rfl, ⟨rfl, trivial⟩⟩⟩⟩⟩ ?_
      exact jnR_MD_heardAt_76 n v1 v3 v5 v6 v4 v5 μ (hx := hx) (hrec := hrec) h
    · replace h := kbG_t hc h
      refine r_iconst 1 dX12_heardAt_72 (by decide) ?_
      refine r_goto 78 dX12_heardAt_73 (by decide) ?_
      refine r_le [some (.ref 57), some (.int v1), none, some (.int v3), none, some (.int v5), none] ⟨rfl, ⟨rfl, ⟨rfl, ⟨rfl, trivial⟩⟩⟩⟩ ?_
      exact jnR_MD_heardAt_78 n v1 v3 v5 v4 v5 1 μ (hx := hx) (hrec := hrec) h
def lp_MD_heardAt_24 (n : Nat) (v1 : Int32) (μ : kbM) : Nat → Int32 → Int32 → Int32 → Option (Int32)
  | 0, _, _, _ => none
  | k + 1, v3, v4, v5 =>
    if v3 ≤ 0 then
      some v4
    else
      kbIf (kbIn v1 12) <|
      if (μ.1 65 v1.toNatClampNeg) = 2 then
        if (kbRem v3 5) = 2 then
          jn_MD_heardAt_88 n (lp_MD_heardAt_24 n v1 μ k) v1 v3 v4 v5 μ
        else
          jn_MD_heardAt_52 n (lp_MD_heardAt_24 n v1 μ k) v1 v3 v4 v5 (kbRem v3 5) μ
      else
        jn_MD_heardAt_52 n (lp_MD_heardAt_24 n v1 μ k) v1 v3 v4 v5 (kbRem v3 5) μ
theorem lpR_MD_heardAt_24 {l : Launch} (n : Nat) (v1 : Int32) (μ : kbM)  {Q : kbQt} {P : Int32 → Prop} (hx : ∀ z : Int32, P (z) → kbR l MX12_heardAt 2 Q 95 [some (.ref 57), some (.int v1), none, none, some (.int z), none, none] [] μ) : ∀ (k : Nat) (v3 : Int32) (v4 : Int32) (v5 : Int32), kbG (lp_MD_heardAt_24 n v1 μ k v3 v4 v5) P → kbR l MX12_heardAt 2 Q 24 [some (.ref 57), some (.int v1), none, some (.int v3), some (.int v4), some (.int v5), none] [] μ := by
  intro k
  induction k with
  | zero => intro v3 v4 v5 h; exact absurd h kbG_none
  | succ k ih =>
    intro v3 v4 v5 h
    unfold lp_MD_heardAt_24 at h
    refine r_iload_n dX12_heardAt_24 rfl ?_
    refine r_if_le 95 dX12_heardAt_25 (by decide) (fun hc => ?_) (fun hc => ?_)
    · replace h := kbG_t hc h
      refine r_le [some (.ref 57), some (.int v1), none, none, some (.int v4), none, none] ⟨rfl, ⟨rfl, ⟨rfl, trivial⟩⟩⟩ ?_
      exact hx v4 (kbG_some h)
    · replace h := kbG_f hc h
      refine r_iload_n dX12_heardAt_28 rfl ?_
      refine r_iconst 5 dX12_heardAt_29 (by decide) ?_
      refine r_rem dX12_heardAt_30 (by decide) ?_
      refine r_istore dX12_heardAt_31 (Nat.le_of_ble_eq_true rfl) rfl ?_
      refine r_aload_n dX12_heardAt_33 rfl ?_
      refine r_getR flX12_60 sh57 rfl dX12_heardAt_34 ?_
      refine r_iload_n dX12_heardAt_37 rfl ?_
      obtain ⟨hin, h⟩ := kbG_if h
      replace hin := kbIn_of hin
      refine q_iald v1.toNatClampNeg rfl sh65 hin dX12_heardAt_38 ?_
      refine r_iconst 2 dX12_heardAt_39 (by decide) ?_
      refine r_icmp_ne 52 dX12_heardAt_40 (by decide) (fun hc => ?_) (fun hc => ?_)
      · replace h := kbG_f hc h
        refine r_le [some (.ref 57), some (.int v1), none, some (.int v3), some (.int v4), some (.int v5), some (.int (kbRem v3 5))] ⟨rfl, ⟨rfl, ⟨rfl, ⟨rfl, ⟨rfl, ⟨rfl, trivial⟩⟩⟩⟩⟩⟩ ?_
        exact jnR_MD_heardAt_52 n v1 v3 v4 v5 (kbRem v3 5) μ (hx := hx) (hrec := ih) h
      · replace h := kbG_t hc h
        refine r_iload dX12_heardAt_43 rfl ?_
        refine r_iconst 2 dX12_heardAt_45 (by decide) ?_
        refine r_icmp_ne 52 dX12_heardAt_46 (by decide) (fun hc => ?_) (fun hc => ?_)
        · replace h := kbG_f hc h
          refine r_le [some (.ref 57), some (.int v1), none, some (.int v3), some (.int v4), some (.int v5), some (.int (kbRem v3 5))] ⟨rfl, ⟨rfl, ⟨rfl, ⟨rfl, ⟨rfl, ⟨rfl, trivial⟩⟩⟩⟩⟩⟩ ?_
          exact jnR_MD_heardAt_52 n v1 v3 v4 v5 (kbRem v3 5) μ (hx := hx) (hrec := ih) h
        · replace h := kbG_t hc h
          refine r_goto 88 dX12_heardAt_49 (by decide) ?_
          refine r_le [some (.ref 57), some (.int v1), none, some (.int v3), some (.int v4), some (.int v5), none] ⟨rfl, ⟨rfl, ⟨rfl, ⟨rfl, ⟨rfl, trivial⟩⟩⟩⟩⟩ ?_
          exact jnR_MD_heardAt_88 n v1 v3 v4 v5 μ (hx := hx) (hrec := ih) h
def jn_MD_heardAt_127 (n : Nat) (w0 : Int32) (μ : kbM) : Option (Int32) :=
  some w0
theorem jnR_MD_heardAt_127 {l : Launch} (n : Nat)   (w0 : Int32) (μ : kbM) {Q : kbQt} {P : Int32 → Prop} (hr : ∀ z : Int32, P z → Q (some (.int z)) μ) (h : kbG (jn_MD_heardAt_127 n w0 μ) P) : kbR l MX12_heardAt 2 Q 127 [none, none, none, none, none, none, none] [.int w0] μ := by
  unfold jn_MD_heardAt_127 at h
  exact r_iret rfl dX12_heardAt_127 (hr w0 (kbG_some h))
def jn_MD_heardAt_125 (n : Nat) (v4 : Int32) (μ : kbM) : Option (Int32) :=
  jn_MD_heardAt_127 n v4 μ
theorem jnR_MD_heardAt_125 {l : Launch} (n : Nat)   (v4 : Int32) (μ : kbM) {Q : kbQt} {P : Int32 → Prop} (hr : ∀ z : Int32, P z → Q (some (.int z)) μ) (h : kbG (jn_MD_heardAt_125 n v4 μ) P) : kbR l MX12_heardAt 2 Q 125 [none, none, none, none, some (.int v4), none, none] [] μ := by
  unfold jn_MD_heardAt_125 at h
  refine r_iload dX12_heardAt_125 rfl ?_
  refine r_le [none, none, none, none, none, none, none] trivial ?_
  exact jnR_MD_heardAt_127 n v4 μ (hr := hr) h
def jn_MD_heardAt_17 (n : Nat) (v1 : Int32) (w0 : Int32) (μ : kbM) : Option (Int32) :=
  (lp_MD_heardAt_24 n v1 μ n w0 0 1).bind fun x1 =>
  (f_MD_isOf (μ.1 57 28) v1).bind fun x2 =>
  if x2 = 0 then
    jn_MD_heardAt_125 n x1 μ
  else
    (f_MD_sizeOf n x1).bind fun x3 =>
    if 12 ≤ x3 then
      jn_MD_heardAt_125 n x1 μ
    else
      jn_MD_heardAt_127 n ((5 * x1) + 1) μ
theorem jnR_MD_heardAt_17 {l : Launch} (n : Nat)   (v1 : Int32) (w0 : Int32) (μ : kbM) {Q : kbQt} {P : Int32 → Prop} (hr : ∀ z : Int32, P z → Q (some (.int z)) μ) (h : kbG (jn_MD_heardAt_17 n v1 w0 μ) P) : kbR l MX12_heardAt 2 Q 17 [some (.ref 57), some (.int v1), none, none, none, none, none] [.int w0] μ := by
  unfold jn_MD_heardAt_17 at h
  refine r_istore_n dX12_heardAt_17 (Nat.le_of_ble_eq_true rfl) rfl ?_
  refine r_iconst 0 dX12_heardAt_18 (by decide) ?_
  refine r_istore dX12_heardAt_19 (Nat.le_of_ble_eq_true rfl) rfl ?_
  refine r_iconst 1 dX12_heardAt_21 (by decide) ?_
  refine r_istore dX12_heardAt_22 (Nat.le_of_ble_eq_true rfl) rfl ?_
  refine r_le [some (.ref 57), some (.int v1), none, some (.int w0), some (.int 0), some (.int 1), none] ⟨rfl, ⟨rfl, ⟨rfl, ⟨rfl, ⟨rfl, trivial⟩⟩⟩⟩⟩ ?_
  obtain ⟨x1, hx0, h⟩ := kbG_bind h
  refine lpR_MD_heardAt_24 n v1 μ (P := fun z => x1 = z) (hx := fun z e => ?_) n _ _ _ ⟨_, hx0, rfl⟩
  subst e
  refine r_aload_n dX12_heardAt_95 rfl ?_
  refine r_getI flX12_305 sh57 rfl dX12_heardAt_96 ?_
  refine r_iload_n dX12_heardAt_99 rfl ?_
  obtain ⟨x2, hx0, h⟩ := kbG_bind h
  refine r_inv_i csX12_318 (sp_MD_isOf (μ.1 57 28) v1 μ hx0) rfl rfl (Nat.le_of_ble_eq_true rfl) (Nat.le_of_ble_eq_true rfl) dX12_heardAt_100 ?_
  refine r_if_eq 125 dX12_heardAt_103 (by decide) (fun hc => ?_) (fun hc => ?_)
  · replace h := kbG_t hc h
    refine r_le [none, none, none, none, some (.int x1), none, none] ⟨rfl, trivial⟩ ?_
    exact jnR_MD_heardAt_125 n x1 μ (hr := hr) h
  · replace h := kbG_f hc h
    refine r_iload dX12_heardAt_106 rfl ?_
    obtain ⟨x3, hx0, h⟩ := kbG_bind h
    refine r_inv_i csX12_322 (sp_MD_sizeOf n x1 μ hx0) rfl rfl (Nat.le_of_ble_eq_true rfl) (Nat.le_of_ble_eq_true rfl) dX12_heardAt_108 ?_
    refine r_bipush 12 dX12_heardAt_111 (by decide) ?_
    refine r_icmp_ge 125 dX12_heardAt_113 (by decide) (fun hc => ?_) (fun hc => ?_)
    · replace h := kbG_t hc h
      refine r_le [none, none, none, none, some (.int x1), none, none] ⟨rfl, trivial⟩ ?_
      exact jnR_MD_heardAt_125 n x1 μ (hr := hr) h
    · replace h := kbG_f hc h
      refine r_iconst 5 dX12_heardAt_116 (by decide) ?_
      refine r_iload dX12_heardAt_117 rfl ?_
      refine r_imul dX12_heardAt_119 ?_
      refine r_iconst 1 dX12_heardAt_120 (by decide) ?_
      refine r_iadd dX12_heardAt_121 ?_
      refine r_goto 127 dX12_heardAt_122 (by decide) ?_
      refine r_le [none, none, none, none, none, none, none] trivial ?_
      exact jnR_MD_heardAt_127 n ((5 * x1) + 1) μ (hr := hr) h
def f_MD_heardAt (n : Nat) (a1 : Int32) (a2 : Int32) (μ : kbM) : Option (Int32) :=
  kbIf (kbIn a1 12) <|
  if (μ.1 65 a1.toNatClampNeg) = 1 then
    jn_MD_heardAt_17 n a1 (a2 / 5) μ
  else
    jn_MD_heardAt_17 n a1 a2 μ
theorem sp_MD_heardAt {l : Launch} (n : Nat) (a1 : Int32) (a2 : Int32) (μ : kbM)  {x : Int32} (h : f_MD_heardAt n a1 a2 μ = some x) : kbS l MX12_heardAt 2 [.ref 57, .int a1, .int a2] μ (kbQe (some (.int x)) μ) := by
  refine kb_enter 4 rfl rfl ?_
  suffices H : ∀ (Q : kbQt) (P : Int32 → Prop), (∀ z : Int32, P z → Q (some (.int z)) μ) → kbG (f_MD_heardAt n a1 a2 μ) P → kbR l MX12_heardAt 2 Q 0 [some (.ref 57), some (.int a1), some (.int a2), none, none, none, none] [] μ from H _ (fun z => z = x) (fun z e => by subst e; exact ⟨rfl, rfl⟩) ⟨x, h, rfl⟩
  clear h
  intro Q P hr h
  unfold f_MD_heardAt at h
  refine r_aload_n dX12_heardAt_0 rfl ?_
  refine r_getR flX12_60 sh57 rfl dX12_heardAt_1 ?_
  refine r_iload_n dX12_heardAt_4 rfl ?_
  obtain ⟨hin, h⟩ := kbG_if h
  replace hin := kbIn_of hin
  refine q_iald a1.toNatClampNeg rfl sh65 hin dX12_heardAt_5 ?_
  refine r_iconst 1 dX12_heardAt_6 (by decide) ?_
  refine r_icmp_ne 16 dX12_heardAt_7 (by decide) (fun hc => ?_) (fun hc => ?_)
  · replace h := kbG_f hc h
    refine r_iload_n dX12_heardAt_16 rfl ?_
    refine r_le [some (.ref 57), some (.int a1), none, none, none, none, none] ⟨rfl, ⟨rfl, trivial⟩⟩ ?_
    exact jnR_MD_heardAt_17 n a1 a2 μ (hr := hr) h
  · replace h := kbG_t hc h
    refine r_iload_n dX12_heardAt_10 rfl ?_
    refine r_iconst 5 dX12_heardAt_11 (by decide) ?_
    refine r_idiv dX12_heardAt_12 (by decide) ?_
    refine r_goto 17 dX12_heardAt_13 (by decide) ?_
    refine r_le [some (.ref 57), some (.int a1), none, none, none, none, none] ⟨rfl, ⟨rfl, trivial⟩⟩ ?_
    exact jnR_MD_heardAt_17 n a1 (a2 / 5) μ (hr := hr) h
def jn_MD_confounded_58 (n : Nat) (rec : Int32 → Int32 → Option (Int32)) (v1 : Int32) (v3 : Int32) (v4 : Int32) (w0 : Int32) (w1 : Int32) (μ : kbM) : Option (Int32) :=
  rec (w0 + w1) (v4 + 1)
theorem jnR_MD_confounded_58 {l : Launch} (n : Nat)   (v1 : Int32) (v3 : Int32) (v4 : Int32) (w0 : Int32) (w1 : Int32) (μ : kbM) {Q : kbQt} {P : Int32 → Prop} (hx : ∀ z : Int32, P (z) → kbR l MX12_confounded 3 Q 66 [some (.ref 57), some (.int v1), some (.int z), some (.int v3), none] [] μ) {rec : Int32 → Int32 → Option (Int32)} (hrec : ∀ (v2 : Int32) (v4 : Int32), kbG (rec v2 v4) P → kbR l MX12_confounded 3 Q 17 [some (.ref 57), some (.int v1), some (.int v2), some (.int v3), some (.int v4)] [] μ) (h : kbG (jn_MD_confounded_58 n rec v1 v3 v4 w0 w1 μ) P) : kbR l MX12_confounded 3 Q 58 [some (.ref 57), some (.int v1), none, some (.int v3), some (.int v4)] [.int w1, .int w0] μ := by
  unfold jn_MD_confounded_58 at h
  refine r_iadd dX12_confounded_58 ?_
  refine r_istore_n dX12_confounded_59 (Nat.le_of_ble_eq_true rfl) rfl ?_
  refine r_iinc 1 dX12_confounded_60 rfl (by decide) (Nat.le_of_ble_eq_true rfl) rfl ?_
  refine r_goto 17 dX12_confounded_63 (by decide) ?_
  refine r_le [some (.ref 57), some (.int v1), some (.int (w0 + w1)), some (.int v3), some (.int (v4 + 1))] ⟨rfl, ⟨rfl, ⟨rfl, ⟨rfl, ⟨rfl, trivial⟩⟩⟩⟩⟩ ?_
  exact hrec (w0 + w1) (v4 + 1) h
def lp_MD_confounded_17 (n : Nat) (v1 : Int32) (v3 : Int32) (μ : kbM) : Nat → Int32 → Int32 → Option (Int32)
  | 0, _, _ => none
  | k + 1, v2, v4 =>
    if (μ.1 57 27) ≤ v4 then
      some v2
    else
      kbIf (kbIn v3 10) <|
      (f_MD_heardAt n v1 (μ.1 70 v3.toNatClampNeg) μ).bind fun x1 =>
      kbIf (kbIn v4 10) <|
      (f_MD_heardAt n v1 (μ.1 70 v4.toNatClampNeg) μ).bind fun x2 =>
      if x1 = x2 then
        jn_MD_confounded_58 n (lp_MD_confounded_17 n v1 v3 μ k) v1 v3 v4 v2 1 μ
      else
        jn_MD_confounded_58 n (lp_MD_confounded_17 n v1 v3 μ k) v1 v3 v4 v2 0 μ
theorem lpR_MD_confounded_17 {l : Launch} (n : Nat) (v1 : Int32) (v3 : Int32) (μ : kbM)  {Q : kbQt} {P : Int32 → Prop} (hx : ∀ z : Int32, P (z) → kbR l MX12_confounded 3 Q 66 [some (.ref 57), some (.int v1), some (.int z), some (.int v3), none] [] μ) : ∀ (k : Nat) (v2 : Int32) (v4 : Int32), kbG (lp_MD_confounded_17 n v1 v3 μ k v2 v4) P → kbR l MX12_confounded 3 Q 17 [some (.ref 57), some (.int v1), some (.int v2), some (.int v3), some (.int v4)] [] μ := by
  intro k
  induction k with
  | zero => intro v2 v4 h; exact absurd h kbG_none
  | succ k ih =>
    intro v2 v4 h
    unfold lp_MD_confounded_17 at h
    refine r_iload dX12_confounded_17 rfl ?_
    refine r_aload_n dX12_confounded_19 rfl ?_
    refine r_getI flX12_162 sh57 rfl dX12_confounded_20 ?_
    refine r_icmp_ge 66 dX12_confounded_23 (by decide) (fun hc => ?_) (fun hc => ?_)
    · replace h := kbG_t hc h
      refine r_le [some (.ref 57), some (.int v1), some (.int v2), some (.int v3), none] ⟨rfl, ⟨rfl, ⟨rfl, ⟨rfl, trivial⟩⟩⟩⟩ ?_
      exact hx v2 (kbG_some h)
    · replace h := kbG_f hc h
      refine r_iload_n dX12_confounded_26 rfl ?_
      refine r_aload_n dX12_confounded_27 rfl ?_
      refine r_iload_n dX12_confounded_28 rfl ?_
      refine r_aload_n dX12_confounded_29 rfl ?_
      refine r_getR flX12_79 sh57 rfl dX12_confounded_30 ?_
      refine r_iload_n dX12_confounded_33 rfl ?_
      obtain ⟨hin, h⟩ := kbG_if h
      replace hin := kbIn_of hin
      refine q_iald v3.toNatClampNeg rfl sh70 hin dX12_confounded_34 ?_
      obtain ⟨x1, hx0, h⟩ := kbG_bind h
      refine r_invV_i cvX12_328 sh57 rfl (sp_MD_heardAt n v1 (μ.1 70 v3.toNatClampNeg) μ hx0) rfl rfl (Nat.le_of_ble_eq_true rfl) (Nat.le_of_ble_eq_true rfl) dX12_confounded_35 ?_
      refine r_aload_n dX12_confounded_38 rfl ?_
      refine r_iload_n dX12_confounded_39 rfl ?_
      refine r_aload_n dX12_confounded_40 rfl ?_
      refine r_getR flX12_79 sh57 rfl dX12_confounded_41 ?_
      refine r_iload dX12_confounded_44 rfl ?_
      obtain ⟨hin, h⟩ := kbG_if h
      replace hin := kbIn_of hin
      refine q_iald v4.toNatClampNeg rfl sh70 hin dX12_confounded_46 ?_
      obtain ⟨x2, hx0, h⟩ := kbG_bind h
      refine r_invV_i cvX12_328 sh57 rfl (sp_MD_heardAt n v1 (μ.1 70 v4.toNatClampNeg) μ hx0) rfl rfl (Nat.le_of_ble_eq_true rfl) (Nat.le_of_ble_eq_true rfl) dX12_confounded_47 ?_
      refine r_icmp_ne 57 dX12_confounded_50 (by decide) (fun hc => ?_) (fun hc => ?_)
      · replace h := kbG_f hc h
        refine r_iconst 0 dX12_confounded_57 (by decide) ?_
        refine r_le [some (.ref 57), some (.int v1), none, some (.int v3), some (.int v4)] ⟨rfl, ⟨rfl, ⟨rfl, ⟨rfl, trivial⟩⟩⟩⟩ ?_
        exact jnR_MD_confounded_58 n v1 v3 v4 v2 0 μ (hx := hx) (hrec := ih) h
      · replace h := kbG_t hc h
        refine r_iconst 1 dX12_confounded_53 (by decide) ?_
        refine r_goto 58 dX12_confounded_54 (by decide) ?_
        refine r_le [some (.ref 57), some (.int v1), none, some (.int v3), some (.int v4)] ⟨rfl, ⟨rfl, ⟨rfl, ⟨rfl, trivial⟩⟩⟩⟩ ?_
        exact jnR_MD_confounded_58 n v1 v3 v4 v2 1 μ (hx := hx) (hrec := ih) h
def lp_MD_confounded_4 (n : Nat) (v1 : Int32) (μ : kbM) : Nat → Int32 → Int32 → Option (Int32)
  | 0, _, _ => none
  | k + 1, v2, v3 =>
    if (μ.1 57 27) ≤ v3 then
      some v2
    else
      (lp_MD_confounded_17 n v1 v3 μ n v2 (v3 + 1)).bind fun x3 =>
      lp_MD_confounded_4 n v1 μ k x3 (v3 + 1)
theorem lpR_MD_confounded_4 {l : Launch} (n : Nat) (v1 : Int32) (μ : kbM)  {Q : kbQt} {P : Int32 → Prop} (hx : ∀ z : Int32, P (z) → kbR l MX12_confounded 3 Q 72 [none, none, some (.int z), none, none] [] μ) : ∀ (k : Nat) (v2 : Int32) (v3 : Int32), kbG (lp_MD_confounded_4 n v1 μ k v2 v3) P → kbR l MX12_confounded 3 Q 4 [some (.ref 57), some (.int v1), some (.int v2), some (.int v3), none] [] μ := by
  intro k
  induction k with
  | zero => intro v2 v3 h; exact absurd h kbG_none
  | succ k ih =>
    intro v2 v3 h
    unfold lp_MD_confounded_4 at h
    refine r_iload_n dX12_confounded_4 rfl ?_
    refine r_aload_n dX12_confounded_5 rfl ?_
    refine r_getI flX12_162 sh57 rfl dX12_confounded_6 ?_
    refine r_icmp_ge 72 dX12_confounded_9 (by decide) (fun hc => ?_) (fun hc => ?_)
    · replace h := kbG_t hc h
      refine r_le [none, none, some (.int v2), none, none] ⟨rfl, trivial⟩ ?_
      exact hx v2 (kbG_some h)
    · replace h := kbG_f hc h
      refine r_iload_n dX12_confounded_12 rfl ?_
      refine r_iconst 1 dX12_confounded_13 (by decide) ?_
      refine r_iadd dX12_confounded_14 ?_
      refine r_istore dX12_confounded_15 (Nat.le_of_ble_eq_true rfl) rfl ?_
      refine r_le [some (.ref 57), some (.int v1), some (.int v2), some (.int v3), some (.int (v3 + 1))] ⟨rfl, ⟨rfl, ⟨rfl, ⟨rfl, ⟨rfl, trivial⟩⟩⟩⟩⟩ ?_
      obtain ⟨x3, hx0, h⟩ := kbG_bind h
      refine lpR_MD_confounded_17 n v1 v3 μ (P := fun z => x3 = z) (hx := fun z e => ?_) n _ _ ⟨_, hx0, rfl⟩
      subst e
      refine r_iinc 1 dX12_confounded_66 rfl (by decide) (Nat.le_of_ble_eq_true rfl) rfl ?_
      refine r_goto 4 dX12_confounded_69 (by decide) ?_
      refine r_le [some (.ref 57), some (.int v1), some (.int x3), some (.int (v3 + 1)), none] ⟨rfl, ⟨rfl, ⟨rfl, ⟨rfl, trivial⟩⟩⟩⟩ ?_
      exact ih x3 (v3 + 1) h
def f_MD_confounded (n : Nat) (a1 : Int32) (μ : kbM) : Option (Int32) :=
  (lp_MD_confounded_4 n a1 μ n 0 0).bind fun x4 =>
  some x4
theorem sp_MD_confounded {l : Launch} (n : Nat) (a1 : Int32) (μ : kbM)  {x : Int32} (h : f_MD_confounded n a1 μ = some x) : kbS l MX12_confounded 3 [.ref 57, .int a1] μ (kbQe (some (.int x)) μ) := by
  refine kb_enter 3 rfl rfl ?_
  suffices H : ∀ (Q : kbQt) (P : Int32 → Prop), (∀ z : Int32, P z → Q (some (.int z)) μ) → kbG (f_MD_confounded n a1 μ) P → kbR l MX12_confounded 3 Q 0 [some (.ref 57), some (.int a1), none, none, none] [] μ from H _ (fun z => z = x) (fun z e => by subst e; exact ⟨rfl, rfl⟩) ⟨x, h, rfl⟩
  clear h
  intro Q P hr h
  unfold f_MD_confounded at h
  refine r_iconst 0 dX12_confounded_0 (by decide) ?_
  refine r_istore_n dX12_confounded_1 (Nat.le_of_ble_eq_true rfl) rfl ?_
  refine r_iconst 0 dX12_confounded_2 (by decide) ?_
  refine r_istore_n dX12_confounded_3 (Nat.le_of_ble_eq_true rfl) rfl ?_
  refine r_le [some (.ref 57), some (.int a1), some (.int 0), some (.int 0), none] ⟨rfl, ⟨rfl, ⟨rfl, ⟨rfl, trivial⟩⟩⟩⟩ ?_
  obtain ⟨x4, hx0, h⟩ := kbG_bind h
  refine lpR_MD_confounded_4 n a1 μ (P := fun z => x4 = z) (hx := fun z e => ?_) n _ _ ⟨_, hx0, rfl⟩
  subst e
  refine r_iload_n dX12_confounded_72 rfl ?_
  exact r_iret rfl dX12_confounded_73 (hr x4 (kbG_some h))
