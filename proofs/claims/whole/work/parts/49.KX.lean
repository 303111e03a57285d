theorem dX11_needWord_0 : decode cX11_needWord 0 = .ok (.iload_n 1, 1) := by decide +kernel
theorem dX11_needWord_1 : decode cX11_needWord 1 = .ok (.ifCond .lt 17, 3) := by decide +kernel
theorem dX11_needWord_4 : decode cX11_needWord 4 = .ok (.iload_n 1, 1) := by decide +kernel
theorem dX11_needWord_5 : decode cX11_needWord 5 = .ok (.aload_n 0, 1) := by decide +kernel
theorem dX11_needWord_6 : decode cX11_needWord 6 = .ok (.getfield 19, 3) := by decide +kernel
theorem dX11_needWord_9 : decode cX11_needWord 9 = .ok (.getfield 35, 3) := by decide +kernel
theorem dX11_needWord_12 : decode cX11_needWord 12 = .ok (.getfield 135, 3) := by decide +kernel
theorem dX11_needWord_15 : decode cX11_needWord 15 = .ok (.if_icmp .lt 14, 3) := by decide +kernel
theorem dX11_needWord_18 : decode cX11_needWord 18 = .ok (.new 157, 3) := by decide +kernel
theorem dX11_needWord_21 : decode cX11_needWord 21 = .ok (.dup, 1) := by decide +kernel
theorem dX11_needWord_22 : decode cX11_needWord 22 = .ok (.ldc_w 358, 3) := by decide +kernel
theorem dX11_needWord_25 : decode cX11_needWord 25 = .ok (.invokespecial 161, 3) := by decide +kernel
theorem dX11_needWord_28 : decode cX11_needWord 28 = .ok (.athrow, 1) := by decide +kernel
theorem dX11_needWord_29 : decode cX11_needWord 29 = .ok (.return_, 1) := by decide +kernel
theorem dX11_needDoor_0 : decode cX11_needDoor 0 = .ok (.iload_n 1, 1) := by decide +kernel
theorem dX11_needDoor_1 : decode cX11_needDoor 1 = .ok (.ifCond .lt 14, 3) := by decide +kernel
theorem dX11_needDoor_4 : decode cX11_needDoor 4 = .ok (.iload_n 1, 1) := by decide +kernel
theorem dX11_needDoor_5 : decode cX11_needDoor 5 = .ok (.aload_n 0, 1) := by decide +kernel
theorem dX11_needDoor_6 : decode cX11_needDoor 6 = .ok (.getfield 29, 3) := by decide +kernel
theorem dX11_needDoor_9 : decode cX11_needDoor 9 = .ok (.getfield 140, 3) := by decide +kernel
theorem dX11_needDoor_12 : decode cX11_needDoor 12 = .ok (.if_icmp .lt 14, 3) := by decide +kernel
theorem dX11_needDoor_15 : decode cX11_needDoor 15 = .ok (.new 157, 3) := by decide +kernel
theorem dX11_needDoor_18 : decode cX11_needDoor 18 = .ok (.dup, 1) := by decide +kernel
theorem dX11_needDoor_19 : decode cX11_needDoor 19 = .ok (.ldc_w 360, 3) := by decide +kernel
theorem dX11_needDoor_22 : decode cX11_needDoor 22 = .ok (.invokespecial 161, 3) := by decide +kernel
theorem dX11_needDoor_25 : decode cX11_needDoor 25 = .ok (.athrow, 1) := by decide +kernel
theorem dX11_needDoor_26 : decode cX11_needDoor 26 = .ok (.return_, 1) := by decide +kernel
theorem dX11_needWhat_0 : decode cX11_needWhat 0 = .ok (.iload_n 0, 1) := by decide +kernel
theorem dX11_needWhat_1 : decode cX11_needWhat 1 = .ok (.ifCond .lt 8, 3) := by decide +kernel
theorem dX11_needWhat_4 : decode cX11_needWhat 4 = .ok (.iload_n 0, 1) := by decide +kernel
theorem dX11_needWhat_5 : decode cX11_needWhat 5 = .ok (.iload_n 1, 1) := by decide +kernel
theorem dX11_needWhat_6 : decode cX11_needWhat 6 = .ok (.if_icmp .lt 14, 3) := by decide +kernel
theorem dX11_needWhat_9 : decode cX11_needWhat 9 = .ok (.new 157, 3) := by decide +kernel
theorem dX11_needWhat_12 : decode cX11_needWhat 12 = .ok (.dup, 1) := by decide +kernel
theorem dX11_needWhat_13 : decode cX11_needWhat 13 = .ok (.ldc_w 362, 3) := by decide +kernel
theorem dX11_needWhat_16 : decode cX11_needWhat 16 = .ok (.invokespecial 161, 3) := by decide +kernel
theorem dX11_needWhat_19 : decode cX11_needWhat 19 = .ok (.athrow, 1) := by decide +kernel
theorem dX11_needWhat_20 : decode cX11_needWhat 20 = .ok (.return_, 1) := by decide +kernel
theorem dX11_needRow_0 : decode cX11_needRow 0 = .ok (.iload_n 0, 1) := by decide +kernel
theorem dX11_needRow_1 : decode cX11_needRow 1 = .ok (.invokestatic 235, 3) := by decide +kernel
theorem dX11_needRow_4 : decode cX11_needRow 4 = .ok (.ifCond .ne 14, 3) := by decide +kernel
theorem dX11_needRow_7 : decode cX11_needRow 7 = .ok (.new 95, 3) := by decide +kernel
theorem dX11_needRow_10 : decode cX11_needRow 10 = .ok (.dup, 1) := by decide +kernel
theorem dX11_needRow_11 : decode cX11_needRow 11 = .ok (.ldc_w 364, 3) := by decide +kernel
theorem dX11_needRow_14 : decode cX11_needRow 14 = .ok (.invokespecial 99, 3) := by decide +kernel
theorem dX11_needRow_17 : decode cX11_needRow 17 = .ok (.athrow, 1) := by decide +kernel
theorem dX11_needRow_18 : decode cX11_needRow 18 = .ok (.return_, 1) := by decide +kernel
theorem dX11_book_0 : decode cX11_book 0 = .ok (.iload_n 1, 1) := by decide +kernel
theorem dX11_book_1 : decode cX11_book 1 = .ok (.ifCond .lt 14, 3) := by decide +kernel
theorem dX11_book_4 : decode cX11_book 4 = .ok (.iload_n 1, 1) := by decide +kernel
theorem dX11_book_5 : decode cX11_book 5 = .ok (.aload_n 0, 1) := by decide +kernel
theorem dX11_book_6 : decode cX11_book 6 = .ok (.getfield 10, 3) := by decide +kernel
theorem dX11_book_9 : decode cX11_book 9 = .ok (.getfield 87, 3) := by decide +kernel
theorem dX11_book_12 : decode cX11_book 12 = .ok (.if_icmp .le 13, 3) := by decide +kernel
theorem dX11_book_15 : decode cX11_book 15 = .ok (.new 95, 3) := by decide +kernel
theorem dX11_book_18 : decode cX11_book 18 = .ok (.dup, 1) := by decide +kernel
theorem dX11_book_19 : decode cX11_book 19 = .ok (.ldc 97, 2) := by decide +kernel
theorem dX11_book_21 : decode cX11_book 21 = .ok (.invokespecial 99, 3) := by decide +kernel
theorem dX11_book_24 : decode cX11_book 24 = .ok (.athrow, 1) := by decide +kernel
theorem dX11_book_25 : decode cX11_book 25 = .ok (.aload_n 0, 1) := by decide +kernel
theorem dX11_book_26 : decode cX11_book 26 = .ok (.getfield 10, 3) := by decide +kernel
theorem dX11_book_29 : decode cX11_book 29 = .ok (.iload_n 1, 1) := by decide +kernel
theorem dX11_book_30 : decode cX11_book 30 = .ok (.invokevirtual 102, 3) := by decide +kernel
theorem dX11_book_33 : decode cX11_book 33 = .ok (.istore_n 2, 1) := by decide +kernel
theorem dX11_book_34 : decode cX11_book 34 = .ok (.iload_n 2, 1) := by decide +kernel
theorem dX11_book_35 : decode cX11_book 35 = .ok (.ifCond .eq 18, 3) := by decide +kernel
theorem dX11_book_38 : decode cX11_book 38 = .ok (.aload_n 0, 1) := by decide +kernel
theorem dX11_book_39 : decode cX11_book 39 = .ok (.getfield 19, 3) := by decide +kernel
theorem dX11_book_42 : decode cX11_book 42 = .ok (.getfield 106, 3) := by decide +kernel
theorem dX11_book_45 : decode cX11_book 45 = .ok (.iconst 0, 1) := by decide +kernel
theorem dX11_book_46 : decode cX11_book 46 = .ok (.dup2, 1) := by decide +kernel
theorem dX11_book_47 : decode cX11_book 47 = .ok (.iaload, 1) := by decide +kernel
theorem dX11_book_48 : decode cX11_book 48 = .ok (.iconst 1, 1) := by decide +kernel
theorem dX11_book_49 : decode cX11_book 49 = .ok (.iadd, 1) := by decide +kernel
theorem dX11_book_50 : decode cX11_book 50 = .ok (.iastore, 1) := by decide +kernel
theorem dX11_book_51 : decode cX11_book 51 = .ok (.iload_n 2, 1) := by decide +kernel
theorem dX11_book_52 : decode cX11_book 52 = .ok (.ireturn, 1) := by decide +kernel
theorem dX11_book_53 : decode cX11_book 53 = .ok (.aload_n 0, 1) := by decide +kernel
theorem dX11_book_54 : decode cX11_book 54 = .ok (.getfield 19, 3) := by decide +kernel
theorem dX11_book_57 : decode cX11_book 57 = .ok (.aload_n 0, 1) := by decide +kernel
theorem dX11_book_58 : decode cX11_book 58 = .ok (.getfield 10, 3) := by decide +kernel
theorem dX11_book_61 : decode cX11_book 61 = .ok (.getfield 110, 3) := by decide +kernel
theorem dX11_book_64 : decode cX11_book 64 = .ok (.invokevirtual 111, 3) := by decide +kernel
theorem dX11_book_67 : decode cX11_book 67 = .ok (.aload_n 0, 1) := by decide +kernel
theorem dX11_book_68 : decode cX11_book 68 = .ok (.getfield 29, 3) := by decide +kernel
theorem dX11_book_71 : decode cX11_book 71 = .ok (.aload_n 0, 1) := by decide +kernel
theorem dX11_book_72 : decode cX11_book 72 = .ok (.getfield 10, 3) := by decide +kernel
theorem dX11_book_75 : decode cX11_book 75 = .ok (.getfield 114, 3) := by decide +kernel
theorem dX11_book_78 : decode cX11_book 78 = .ok (.invokevirtual 115, 3) := by decide +kernel
theorem dX11_book_81 : decode cX11_book 81 = .ok (.aload_n 0, 1) := by decide +kernel
theorem dX11_book_82 : decode cX11_book 82 = .ok (.getfield 42, 3) := by decide +kernel
theorem dX11_book_85 : decode cX11_book 85 = .ok (.aload_n 0, 1) := by decide +kernel
theorem dX11_book_86 : decode cX11_book 86 = .ok (.getfield 10, 3) := by decide +kernel
theorem dX11_book_89 : decode cX11_book 89 = .ok (.getfield 119, 3) := by decide +kernel
theorem dX11_book_92 : decode cX11_book 92 = .ok (.aload_n 0, 1) := by decide +kernel
theorem dX11_book_93 : decode cX11_book 93 = .ok (.getfield 10, 3) := by decide +kernel
theorem dX11_book_96 : decode cX11_book 96 = .ok (.getfield 122, 3) := by decide +kernel
theorem dX11_book_99 : decode cX11_book 99 = .ok (.invokevirtual 124, 3) := by decide +kernel
theorem dX11_book_102 : decode cX11_book 102 = .ok (.aload_n 0, 1) := by decide +kernel
theorem dX11_book_103 : decode cX11_book 103 = .ok (.iconst 0, 1) := by decide +kernel
theorem dX11_book_104 : decode cX11_book 104 = .ok (.putfield 128, 3) := by decide +kernel
theorem dX11_book_107 : decode cX11_book 107 = .ok (.iconst 0, 1) := by decide +kernel
theorem dX11_book_108 : decode cX11_book 108 = .ok (.ireturn, 1) := by decide +kernel
theorem dX11_count_0 : decode cX11_count 0 = .ok (.iload_n 1, 1) := by decide +kernel
theorem dX11_count_1 : decode cX11_count 1 = .ok (.tableswitch 162 0 10 #[59, 70, 78, 86, 97, 108, 116, 124, 132, 142, 152], 59) := by decide +kernel
theorem dX11_count_60 : decode cX11_count 60 = .ok (.aload_n 0, 1) := by decide +kernel
theorem dX11_count_61 : decode cX11_count 61 = .ok (.getfield 19, 3) := by decide +kernel
theorem dX11_count_64 : decode cX11_count 64 = .ok (.getfield 35, 3) := by decide +kernel
theorem dX11_count_67 : decode cX11_count 67 = .ok (.getfield 135, 3) := by decide +kernel
theorem dX11_count_70 : decode cX11_count 70 = .ok (.ireturn, 1) := by decide +kernel
theorem dX11_count_71 : decode cX11_count 71 = .ok (.aload_n 0, 1) := by decide +kernel
theorem dX11_count_72 : decode cX11_count 72 = .ok (.getfield 29, 3) := by decide +kernel
theorem dX11_count_75 : decode cX11_count 75 = .ok (.getfield 140, 3) := by decide +kernel
theorem dX11_count_78 : decode cX11_count 78 = .ok (.ireturn, 1) := by decide +kernel
theorem dX11_count_79 : decode cX11_count 79 = .ok (.aload_n 0, 1) := by decide +kernel
theorem dX11_count_80 : decode cX11_count 80 = .ok (.getfield 19, 3) := by decide +kernel
theorem dX11_count_83 : decode cX11_count 83 = .ok (.getfield 141, 3) := by decide +kernel
theorem dX11_count_86 : decode cX11_count 86 = .ok (.ireturn, 1) := by decide +kernel
theorem dX11_count_87 : decode cX11_count 87 = .ok (.aload_n 0, 1) := by decide +kernel
theorem dX11_count_88 : decode cX11_count 88 = .ok (.getfield 19, 3) := by decide +kernel
theorem dX11_count_91 : decode cX11_count 91 = .ok (.getfield 35, 3) := by decide +kernel
theorem dX11_count_94 : decode cX11_count 94 = .ok (.invokevirtual 144, 3) := by decide +kernel
theorem dX11_count_97 : decode cX11_count 97 = .ok (.ireturn, 1) := by decide +kernel
theorem dX11_count_98 : decode cX11_count 98 = .ok (.aload_n 0, 1) := by decide +kernel
theorem dX11_count_99 : decode cX11_count 99 = .ok (.getfield 19, 3) := by decide +kernel
theorem dX11_count_102 : decode cX11_count 102 = .ok (.getfield 35, 3) := by decide +kernel
theorem dX11_count_105 : decode cX11_count 105 = .ok (.invokevirtual 148, 3) := by decide +kernel
theorem dX11_count_108 : decode cX11_count 108 = .ok (.ireturn, 1) := by decide +kernel
theorem dX11_count_109 : decode cX11_count 109 = .ok (.aload_n 0, 1) := by decide +kernel
theorem dX11_count_110 : decode cX11_count 110 = .ok (.getfield 19, 3) := by decide +kernel
theorem dX11_count_113 : decode cX11_count 113 = .ok (.getfield 151, 3) := by decide +kernel
theorem dX11_count_116 : decode cX11_count 116 = .ok (.ireturn, 1) := by decide +kernel
theorem dX11_count_117 : decode cX11_count 117 = .ok (.aload_n 0, 1) := by decide +kernel
theorem dX11_count_118 : decode cX11_count 118 = .ok (.getfield 19, 3) := by decide +kernel
theorem dX11_count_121 : decode cX11_count 121 = .ok (.getfield 154, 3) := by decide +kernel
theorem dX11_count_124 : decode cX11_count 124 = .ok (.ireturn, 1) := by decide +kernel
theorem dX11_count_125 : decode cX11_count 125 = .ok (.aload_n 0, 1) := by decide +kernel
theorem dX11_count_126 : decode cX11_count 126 = .ok (.getfield 10, 3) := by decide +kernel
theorem dX11_count_129 : decode cX11_count 129 = .ok (.getfield 87, 3) := by decide +kernel
theorem dX11_count_132 : decode cX11_count 132 = .ok (.ireturn, 1) := by decide +kernel
theorem dX11_count_133 : decode cX11_count 133 = .ok (.aload_n 0, 1) := by decide +kernel
theorem dX11_count_134 : decode cX11_count 134 = .ok (.getfield 19, 3) := by decide +kernel
theorem dX11_count_137 : decode cX11_count 137 = .ok (.getfield 106, 3) := by decide +kernel
theorem dX11_count_140 : decode cX11_count 140 = .ok (.iconst 0, 1) := by decide +kernel
theorem dX11_count_141 : decode cX11_count 141 = .ok (.iaload, 1) := by decide +kernel
theorem dX11_count_142 : decode cX11_count 142 = .ok (.ireturn, 1) := by decide +kernel
theorem dX11_count_143 : decode cX11_count 143 = .ok (.aload_n 0, 1) := by decide +kernel
theorem dX11_count_144 : decode cX11_count 144 = .ok (.getfield 19, 3) := by decide +kernel
theorem dX11_count_147 : decode cX11_count 147 = .ok (.getfield 106, 3) := by decide +kernel
theorem dX11_count_150 : decode cX11_count 150 = .ok (.iconst 1, 1) := by decide +kernel
theorem dX11_count_151 : decode cX11_count 151 = .ok (.iaload, 1) := by decide +kernel
theorem dX11_count_152 : decode cX11_count 152 = .ok (.ireturn, 1) := by decide +kernel
theorem dX11_count_153 : decode cX11_count 153 = .ok (.aload_n 0, 1) := by decide +kernel
theorem dX11_count_154 : decode cX11_count 154 = .ok (.getfield 19, 3) := by decide +kernel
theorem dX11_count_157 : decode cX11_count 157 = .ok (.getfield 106, 3) := by decide +kernel
theorem dX11_count_160 : decode cX11_count 160 = .ok (.iconst 2, 1) := by decide +kernel
theorem dX11_count_161 : decode cX11_count 161 = .ok (.iaload, 1) := by decide +kernel
theorem dX11_count_162 : decode cX11_count 162 = .ok (.ireturn, 1) := by decide +kernel
theorem dX11_count_163 : decode cX11_count 163 = .ok (.new 157, 3) := by decide +kernel
theorem dX11_count_166 : decode cX11_count 166 = .ok (.dup, 1) := by decide +kernel
theorem dX11_count_167 : decode cX11_count 167 = .ok (.ldc 159, 2) := by decide +kernel
theorem dX11_count_169 : decode cX11_count 169 = .ok (.invokespecial 161, 3) := by decide +kernel
theorem dX11_count_172 : decode cX11_count 172 = .ok (.athrow, 1) := by decide +kernel
theorem dX11_word_0 : decode cX11_word 0 = .ok (.aload_n 0, 1) := by decide +kernel
theorem dX11_word_1 : decode cX11_word 1 = .ok (.iload_n 1, 1) := by decide +kernel
theorem dX11_word_2 : decode cX11_word 2 = .ok (.invokevirtual 162, 3) := by decide +kernel
theorem dX11_word_5 : decode cX11_word 5 = .ok (.iload_n 2, 1) := by decide +kernel
theorem dX11_word_6 : decode cX11_word 6 = .ok (.tableswitch 95 0 4 #[34, 47, 60, 73, 86], 34) := by decide +kernel
theorem dX11_word_40 : decode cX11_word 40 = .ok (.aload_n 0, 1) := by decide +kernel
theorem dX11_word_41 : decode cX11_word 41 = .ok (.getfield 19, 3) := by decide +kernel
theorem dX11_word_44 : decode cX11_word 44 = .ok (.getfield 35, 3) := by decide +kernel
theorem dX11_word_47 : decode cX11_word 47 = .ok (.getfield 165, 3) := by decide +kernel
theorem dX11_word_50 : decode cX11_word 50 = .ok (.iload_n 1, 1) := by decide +kernel
theorem dX11_word_51 : decode cX11_word 51 = .ok (.iaload, 1) := by decide +kernel
theorem dX11_word_52 : decode cX11_word 52 = .ok (.ireturn, 1) := by decide +kernel
theorem dX11_word_53 : decode cX11_word 53 = .ok (.aload_n 0, 1) := by decide +kernel
theorem dX11_word_54 : decode cX11_word 54 = .ok (.getfield 19, 3) := by decide +kernel
theorem dX11_word_57 : decode cX11_word 57 = .ok (.getfield 35, 3) := by decide +kernel
theorem dX11_word_60 : decode cX11_word 60 = .ok (.getfield 168, 3) := by decide +kernel
theorem dX11_word_63 : decode cX11_word 63 = .ok (.iload_n 1, 1) := by decide +kernel
theorem dX11_word_64 : decode cX11_word 64 = .ok (.iaload, 1) := by decide +kernel
theorem dX11_word_65 : decode cX11_word 65 = .ok (.ireturn, 1) := by decide +kernel
theorem dX11_word_66 : decode cX11_word 66 = .ok (.aload_n 0, 1) := by decide +kernel
theorem dX11_word_67 : decode cX11_word 67 = .ok (.getfield 19, 3) := by decide +kernel
theorem dX11_word_70 : decode cX11_word 70 = .ok (.getfield 35, 3) := by decide +kernel
theorem dX11_word_73 : decode cX11_word 73 = .ok (.getfield 171, 3) := by decide +kernel
theorem dX11_word_76 : decode cX11_word 76 = .ok (.iload_n 1, 1) := by decide +kernel
theorem dX11_word_77 : decode cX11_word 77 = .ok (.iaload, 1) := by decide +kernel
theorem dX11_word_78 : decode cX11_word 78 = .ok (.ireturn, 1) := by decide +kernel
theorem dX11_word_79 : decode cX11_word 79 = .ok (.aload_n 0, 1) := by decide +kernel
theorem dX11_word_80 : decode cX11_word 80 = .ok (.getfield 19, 3) := by decide +kernel
theorem dX11_word_83 : decode cX11_word 83 = .ok (.getfield 35, 3) := by decide +kernel
theorem dX11_word_86 : decode cX11_word 86 = .ok (.getfield 174, 3) := by decide +kernel
theorem dX11_word_89 : decode cX11_word 89 = .ok (.iload_n 1, 1) := by decide +kernel
theorem dX11_word_90 : decode cX11_word 90 = .ok (.iaload, 1) := by decide +kernel
theorem dX11_word_91 : decode cX11_word 91 = .ok (.ireturn, 1) := by decide +kernel
theorem dX11_word_92 : decode cX11_word 92 = .ok (.aload_n 0, 1) := by decide +kernel
theorem dX11_word_93 : decode cX11_word 93 = .ok (.getfield 74, 3) := by decide +kernel
theorem dX11_word_96 : decode cX11_word 96 = .ok (.iload_n 1, 1) := by decide +kernel
theorem dX11_word_97 : decode cX11_word 97 = .ok (.invokevirtual 177, 3) := by decide +kernel
theorem dX11_word_100 : decode cX11_word 100 = .ok (.ireturn, 1) := by decide +kernel
theorem dX11_word_101 : decode cX11_word 101 = .ok (.new 157, 3) := by decide +kernel
theorem dX11_word_104 : decode cX11_word 104 = .ok (.dup, 1) := by decide +kernel
theorem dX11_word_105 : decode cX11_word 105 = .ok (.ldc 180, 2) := by decide +kernel
theorem dX11_word_107 : decode cX11_word 107 = .ok (.invokespecial 161, 3) := by decide +kernel
theorem dX11_word_110 : decode cX11_word 110 = .ok (.athrow, 1) := by decide +kernel
theorem dX11_door_0 : decode cX11_door 0 = .ok (.aload_n 0, 1) := by decide +kernel
theorem dX11_door_1 : decode cX11_door 1 = .ok (.iload_n 1, 1) := by decide +kernel
theorem dX11_door_2 : decode cX11_door 2 = .ok (.invokevirtual 182, 3) := by decide +kernel
theorem dX11_door_5 : decode cX11_door 5 = .ok (.iload_n 2, 1) := by decide +kernel
theorem dX11_door_6 : decode cX11_door 6 = .ok (.tableswitch 89 0 4 #[34, 44, 54, 71, 80], 34) := by decide +kernel
theorem dX11_door_40 : decode cX11_door 40 = .ok (.aload_n 0, 1) := by decide +kernel
theorem dX11_door_41 : decode cX11_door 41 = .ok (.getfield 29, 3) := by decide +kernel
theorem dX11_door_44 : decode cX11_door 44 = .ok (.getfield 185, 3) := by decide +kernel
theorem dX11_door_47 : decode cX11_door 47 = .ok (.iload_n 1, 1) := by decide +kernel
theorem dX11_door_48 : decode cX11_door 48 = .ok (.iaload, 1) := by decide +kernel
theorem dX11_door_49 : decode cX11_door 49 = .ok (.ireturn, 1) := by decide +kernel
theorem dX11_door_50 : decode cX11_door 50 = .ok (.aload_n 0, 1) := by decide +kernel
theorem dX11_door_51 : decode cX11_door 51 = .ok (.getfield 29, 3) := by decide +kernel
theorem dX11_door_54 : decode cX11_door 54 = .ok (.getfield 188, 3) := by decide +kernel
theorem dX11_door_57 : decode cX11_door 57 = .ok (.iload_n 1, 1) := by decide +kernel
theorem dX11_door_58 : decode cX11_door 58 = .ok (.iaload, 1) := by decide +kernel
theorem dX11_door_59 : decode cX11_door 59 = .ok (.ireturn, 1) := by decide +kernel
theorem dX11_door_60 : decode cX11_door 60 = .ok (.aload_n 0, 1) := by decide +kernel
theorem dX11_door_61 : decode cX11_door 61 = .ok (.getfield 19, 3) := by decide +kernel
theorem dX11_door_64 : decode cX11_door 64 = .ok (.iload_n 1, 1) := by decide +kernel
theorem dX11_door_65 : decode cX11_door 65 = .ok (.invokevirtual 191, 3) := by decide +kernel
theorem dX11_door_68 : decode cX11_door 68 = .ok (.ifCond .eq 7, 3) := by decide +kernel
theorem dX11_door_71 : decode cX11_door 71 = .ok (.iconst 1, 1) := by decide +kernel
theorem dX11_door_72 : decode cX11_door 72 = .ok (.goto 4, 3) := by decide +kernel
theorem dX11_door_75 : decode cX11_door 75 = .ok (.iconst 0, 1) := by decide +kernel
theorem dX11_door_76 : decode cX11_door 76 = .ok (.ireturn, 1) := by decide +kernel
theorem dX11_door_77 : decode cX11_door 77 = .ok (.aload_n 0, 1) := by decide +kernel
theorem dX11_door_78 : decode cX11_door 78 = .ok (.getfield 74, 3) := by decide +kernel
theorem dX11_door_81 : decode cX11_door 81 = .ok (.iload_n 1, 1) := by decide +kernel
theorem dX11_door_82 : decode cX11_door 82 = .ok (.invokevirtual 195, 3) := by decide +kernel
theorem dX11_door_85 : decode cX11_door 85 = .ok (.ireturn, 1) := by decide +kernel
theorem dX11_door_86 : decode cX11_door 86 = .ok (.aload_n 0, 1) := by decide +kernel
theorem dX11_door_87 : decode cX11_door 87 = .ok (.getfield 74, 3) := by decide +kernel
theorem dX11_door_90 : decode cX11_door 90 = .ok (.iload_n 1, 1) := by decide +kernel
theorem dX11_door_91 : decode cX11_door 91 = .ok (.invokevirtual 198, 3) := by decide +kernel
theorem dX11_door_94 : decode cX11_door 94 = .ok (.ireturn, 1) := by decide +kernel
theorem dX11_door_95 : decode cX11_door 95 = .ok (.new 157, 3) := by decide +kernel
theorem dX11_door_98 : decode cX11_door 98 = .ok (.dup, 1) := by decide +kernel
theorem dX11_door_99 : decode cX11_door 99 = .ok (.ldc 201, 2) := by decide +kernel
theorem dX11_door_101 : decode cX11_door 101 = .ok (.invokespecial 161, 3) := by decide +kernel
theorem dX11_door_104 : decode cX11_door 104 = .ok (.athrow, 1) := by decide +kernel
theorem dX11_hears_0 : decode cX11_hears 0 = .ok (.aload_n 0, 1) := by decide +kernel
theorem dX11_hears_1 : decode cX11_hears 1 = .ok (.iload_n 1, 1) := by decide +kernel
theorem dX11_hears_2 : decode cX11_hears 2 = .ok (.invokevirtual 182, 3) := by decide +kernel
theorem dX11_hears_5 : decode cX11_hears 5 = .ok (.iload_n 2, 1) := by decide +kernel
theorem dX11_hears_6 : decode cX11_hears 6 = .ok (.invokestatic 203, 3) := by decide +kernel
theorem dX11_hears_9 : decode cX11_hears 9 = .ok (.aload_n 0, 1) := by decide +kernel
theorem dX11_hears_10 : decode cX11_hears 10 = .ok (.getfield 74, 3) := by decide +kernel
theorem dX11_hears_13 : decode cX11_hears 13 = .ok (.iload_n 1, 1) := by decide +kernel
theorem dX11_hears_14 : decode cX11_hears 14 = .ok (.iload_n 2, 1) := by decide +kernel
theorem dX11_hears_15 : decode cX11_hears 15 = .ok (.invokevirtual 206, 3) := by decide +kernel
theorem dX11_hears_18 : decode cX11_hears 18 = .ok (.ireturn, 1) := by decide +kernel
theorem dX11_read_0 : decode cX11_read 0 = .ok (.iload_n 2, 1) := by decide +kernel
theorem dX11_read_1 : decode cX11_read 1 = .ok (.iconst 2, 1) := by decide +kernel
theorem dX11_read_2 : decode cX11_read 2 = .ok (.invokestatic 210, 3) := by decide +kernel
theorem dX11_read_5 : decode cX11_read 5 = .ok (.iload_n 1, 1) := by decide +kernel
theorem dX11_read_6 : decode cX11_read 6 = .ok (.invokestatic 203, 3) := by decide +kernel
theorem dX11_read_9 : decode cX11_read 9 = .ok (.aload_n 0, 1) := by decide +kernel
theorem dX11_read_10 : decode cX11_read 10 = .ok (.getfield 58, 3) := by decide +kernel
theorem dX11_read_13 : decode cX11_read 13 = .ok (.iload_n 1, 1) := by decide +kernel
theorem dX11_read_14 : decode cX11_read 14 = .ok (.invokevirtual 214, 3) := by decide +kernel
theorem dX11_read_17 : decode cX11_read 17 = .ok (.iload_n 2, 1) := by decide +kernel
theorem dX11_read_18 : decode cX11_read 18 = .ok (.ifCond .ne 13, 3) := by decide +kernel
theorem dX11_read_21 : decode cX11_read 21 = .ok (.aload_n 0, 1) := by decide +kernel
theorem dX11_read_22 : decode cX11_read 22 = .ok (.getfield 58, 3) := by decide +kernel
theorem dX11_read_25 : decode cX11_read 25 = .ok (.invokevirtual 217, 3) := by decide +kernel
theorem dX11_read_28 : decode cX11_read 28 = .ok (.goto 11, 3) := by decide +kernel
theorem dX11_read_31 : decode cX11_read 31 = .ok (.aload_n 0, 1) := by decide +kernel
theorem dX11_read_32 : decode cX11_read 32 = .ok (.getfield 58, 3) := by decide +kernel
theorem dX11_read_35 : decode cX11_read 35 = .ok (.invokevirtual 221, 3) := by decide +kernel
theorem dX11_read_38 : decode cX11_read 38 = .ok (.i2l, 1) := by decide +kernel
theorem dX11_read_39 : decode cX11_read 39 = .ok (.lreturn, 1) := by decide +kernel
theorem dX11_reading_0 : decode cX11_reading 0 = .ok (.iload_n 1, 1) := by decide +kernel
theorem dX11_reading_1 : decode cX11_reading 1 = .ok (.invokestatic 203, 3) := by decide +kernel
theorem dX11_reading_4 : decode cX11_reading 4 = .ok (.aload_n 0, 1) := by decide +kernel
theorem dX11_reading_5 : decode cX11_reading 5 = .ok (.getfield 58, 3) := by decide +kernel
theorem dX11_reading_8 : decode cX11_reading 8 = .ok (.iload_n 1, 1) := by decide +kernel
theorem dX11_reading_9 : decode cX11_reading 9 = .ok (.invokevirtual 214, 3) := by decide +kernel
theorem dX11_reading_12 : decode cX11_reading 12 = .ok (.iload_n 2, 1) := by decide +kernel
theorem dX11_reading_13 : decode cX11_reading 13 = .ok (.ifCond .lt 14, 3) := by decide +kernel
theorem dX11_reading_16 : decode cX11_reading 16 = .ok (.iload_n 2, 1) := by decide +kernel
theorem dX11_reading_17 : decode cX11_reading 17 = .ok (.aload_n 0, 1) := by decide +kernel
theorem dX11_reading_18 : decode cX11_reading 18 = .ok (.getfield 58, 3) := by decide +kernel
theorem dX11_reading_21 : decode cX11_reading 21 = .ok (.invokevirtual 221, 3) := by decide +kernel
theorem dX11_reading_24 : decode cX11_reading 24 = .ok (.if_icmp .lt 13, 3) := by decide +kernel
theorem dX11_reading_27 : decode cX11_reading 27 = .ok (.new 157, 3) := by decide +kernel
theorem dX11_reading_30 : decode cX11_reading 30 = .ok (.dup, 1) := by decide +kernel
theorem dX11_reading_31 : decode cX11_reading 31 = .ok (.ldc 224, 2) := by decide +kernel
theorem dX11_reading_33 : decode cX11_reading 33 = .ok (.invokespecial 161, 3) := by decide +kernel
theorem dX11_reading_36 : decode cX11_reading 36 = .ok (.athrow, 1) := by decide +kernel
theorem dX11_reading_37 : decode cX11_reading 37 = .ok (.aload_n 0, 1) := by decide +kernel
theorem dX11_reading_38 : decode cX11_reading 38 = .ok (.getfield 58, 3) := by decide +kernel
theorem dX11_reading_41 : decode cX11_reading 41 = .ok (.iload_n 2, 1) := by decide +kernel
theorem dX11_reading_42 : decode cX11_reading 42 = .ok (.invokevirtual 226, 3) := by decide +kernel
theorem dX11_reading_45 : decode cX11_reading 45 = .ok (.ireturn, 1) := by decide +kernel
theorem dX11_apart_0 : decode cX11_apart 0 = .ok (.iload_n 1, 1) := by decide +kernel
theorem dX11_apart_1 : decode cX11_apart 1 = .ok (.invokestatic 203, 3) := by decide +kernel
theorem dX11_apart_4 : decode cX11_apart 4 = .ok (.iload_n 2, 1) := by decide +kernel
theorem dX11_apart_5 : decode cX11_apart 5 = .ok (.invokestatic 203, 3) := by decide +kernel
theorem dX11_apart_8 : decode cX11_apart 8 = .ok (.aload_n 0, 1) := by decide +kernel
theorem dX11_apart_9 : decode cX11_apart 9 = .ok (.getfield 49, 3) := by decide +kernel
theorem dX11_apart_12 : decode cX11_apart 12 = .ok (.iload_n 1, 1) := by decide +kernel
theorem dX11_apart_13 : decode cX11_apart 13 = .ok (.iload_n 2, 1) := by decide +kernel
theorem dX11_apart_14 : decode cX11_apart 14 = .ok (.invokevirtual 229, 3) := by decide +kernel
theorem dX11_apart_17 : decode cX11_apart 17 = .ok (.ireturn, 1) := by decide +kernel
theorem dX11_nearest_0 : decode cX11_nearest 0 = .ok (.iload_n 2, 1) := by decide +kernel
theorem dX11_nearest_1 : decode cX11_nearest 1 = .ok (.iconst 2, 1) := by decide +kernel
theorem dX11_nearest_2 : decode cX11_nearest 2 = .ok (.invokestatic 210, 3) := by decide +kernel
theorem dX11_nearest_5 : decode cX11_nearest 5 = .ok (.iload_n 1, 1) := by decide +kernel
theorem dX11_nearest_6 : decode cX11_nearest 6 = .ok (.invokestatic 203, 3) := by decide +kernel
theorem dX11_nearest_9 : decode cX11_nearest 9 = .ok (.aload_n 0, 1) := by decide +kernel
theorem dX11_nearest_10 : decode cX11_nearest 10 = .ok (.getfield 49, 3) := by decide +kernel
theorem dX11_nearest_13 : decode cX11_nearest 13 = .ok (.iload_n 1, 1) := by decide +kernel
theorem dX11_nearest_14 : decode cX11_nearest 14 = .ok (.invokevirtual 232, 3) := by decide +kernel
theorem dX11_nearest_17 : decode cX11_nearest 17 = .ok (.istore_n 3, 1) := by decide +kernel
theorem dX11_nearest_18 : decode cX11_nearest 18 = .ok (.iload_n 3, 1) := by decide +kernel
theorem dX11_nearest_19 : decode cX11_nearest 19 = .ok (.iconst (-1), 1) := by decide +kernel
theorem dX11_nearest_20 : decode cX11_nearest 20 = .ok (.if_icmp .eq 7, 3) := by decide +kernel
theorem dX11_nearest_23 : decode cX11_nearest 23 = .ok (.iload_n 2, 1) := by decide +kernel
theorem dX11_nearest_24 : decode cX11_nearest 24 = .ok (.ifCond .ne 5, 3) := by decide +kernel
theorem dX11_nearest_27 : decode cX11_nearest 27 = .ok (.iload_n 3, 1) := by decide +kernel
theorem dX11_nearest_28 : decode cX11_nearest 28 = .ok (.ireturn, 1) := by decide +kernel
theorem dX11_nearest_29 : decode cX11_nearest 29 = .ok (.aload_n 0, 1) := by decide +kernel
theorem dX11_nearest_30 : decode cX11_nearest 30 = .ok (.getfield 49, 3) := by decide +kernel
theorem dX11_nearest_33 : decode cX11_nearest 33 = .ok (.iload_n 1, 1) := by decide +kernel
theorem dX11_nearest_34 : decode cX11_nearest 34 = .ok (.aload_n 0, 1) := by decide +kernel
theorem dX11_nearest_35 : decode cX11_nearest 35 = .ok (.getfield 19, 3) := by decide +kernel
theorem dX11_nearest_38 : decode cX11_nearest 38 = .ok (.getfield 35, 3) := by decide +kernel
theorem dX11_nearest_41 : decode cX11_nearest 41 = .ok (.getfield 165, 3) := by decide +kernel
theorem dX11_nearest_44 : decode cX11_nearest 44 = .ok (.iload_n 3, 1) := by decide +kernel
theorem dX11_nearest_45 : decode cX11_nearest 45 = .ok (.iaload, 1) := by decide +kernel
theorem dX11_nearest_46 : decode cX11_nearest 46 = .ok (.invokevirtual 229, 3) := by decide +kernel
theorem dX11_nearest_49 : decode cX11_nearest 49 = .ok (.ireturn, 1) := by decide +kernel
theorem dX11_die_0 : decode cX11_die 0 = .ok (.aload_n 0, 1) := by decide +kernel
theorem dX11_die_1 : decode cX11_die 1 = .ok (.iload_n 1, 1) := by decide +kernel
theorem dX11_die_2 : decode cX11_die 2 = .ok (.invokevirtual 162, 3) := by decide +kernel
theorem dX11_die_5 : decode cX11_die 5 = .ok (.aload_n 0, 1) := by decide +kernel
theorem dX11_die_6 : decode cX11_die 6 = .ok (.getfield 19, 3) := by decide +kernel
theorem dX11_die_9 : decode cX11_die 9 = .ok (.getfield 35, 3) := by decide +kernel
theorem dX11_die_12 : decode cX11_die 12 = .ok (.getfield 165, 3) := by decide +kernel
theorem dX11_die_15 : decode cX11_die 15 = .ok (.iload_n 1, 1) := by decide +kernel
theorem dX11_die_16 : decode cX11_die 16 = .ok (.iaload, 1) := by decide +kernel
theorem dX11_die_17 : decode cX11_die 17 = .ok (.istore_n 2, 1) := by decide +kernel
theorem dX11_die_18 : decode cX11_die 18 = .ok (.aload_n 0, 1) := by decide +kernel
theorem dX11_die_19 : decode cX11_die 19 = .ok (.getfield 19, 3) := by decide +kernel
theorem dX11_die_22 : decode cX11_die 22 = .ok (.iconst 1, 1) := by decide +kernel
theorem dX11_die_23 : decode cX11_die 23 = .ok (.iload_n 1, 1) := by decide +kernel
theorem dX11_die_24 : decode cX11_die 24 = .ok (.invokevirtual 265, 3) := by decide +kernel
theorem dX11_die_27 : decode cX11_die 27 = .ok (.aload_n 0, 1) := by decide +kernel
theorem dX11_die_28 : decode cX11_die 28 = .ok (.getfield 19, 3) := by decide +kernel
theorem dX11_die_31 : decode cX11_die 31 = .ok (.getfield 35, 3) := by decide +kernel
theorem dX11_die_34 : decode cX11_die 34 = .ok (.iload_n 1, 1) := by decide +kernel
theorem dX11_die_35 : decode cX11_die 35 = .ok (.invokevirtual 268, 3) := by decide +kernel
theorem dX11_die_38 : decode cX11_die 38 = .ok (.aload_n 0, 1) := by decide +kernel
theorem dX11_die_39 : decode cX11_die 39 = .ok (.getfield 42, 3) := by decide +kernel
theorem dX11_die_42 : decode cX11_die 42 = .ok (.invokevirtual 262, 3) := by decide +kernel
theorem dX11_die_45 : decode cX11_die 45 = .ok (.iload_n 2, 1) := by decide +kernel
theorem dX11_die_46 : decode cX11_die 46 = .ok (.ireturn, 1) := by decide +kernel
theorem dX11_worth_0 : decode cX11_worth 0 = .ok (.aload_n 0, 1) := by decide +kernel
theorem dX11_worth_1 : decode cX11_worth 1 = .ok (.iload_n 1, 1) := by decide +kernel
theorem dX11_worth_2 : decode cX11_worth 2 = .ok (.invokevirtual 162, 3) := by decide +kernel
theorem dX11_worth_5 : decode cX11_worth 5 = .ok (.iload_n 2, 1) := by decide +kernel
theorem dX11_worth_6 : decode cX11_worth 6 = .ok (.invokestatic 248, 3) := by decide +kernel
theorem dX11_worth_9 : decode cX11_worth 9 = .ok (.ifCond .ne 8, 3) := by decide +kernel
theorem dX11_worth_12 : decode cX11_worth 12 = .ok (.aload_n 0, 1) := by decide +kernel
theorem dX11_worth_13 : decode cX11_worth 13 = .ok (.invokevirtual 251, 3) := by decide +kernel
theorem dX11_worth_16 : decode cX11_worth 16 = .ok (.ireturn, 1) := by decide +kernel
theorem dX11_worth_17 : decode cX11_worth 17 = .ok (.aload_n 0, 1) := by decide +kernel
theorem dX11_worth_18 : decode cX11_worth 18 = .ok (.getfield 19, 3) := by decide +kernel
theorem dX11_worth_21 : decode cX11_worth 21 = .ok (.getfield 35, 3) := by decide +kernel
theorem dX11_worth_24 : decode cX11_worth 24 = .ok (.getfield 174, 3) := by decide +kernel
theorem dX11_worth_27 : decode cX11_worth 27 = .ok (.iload_n 1, 1) := by decide +kernel
theorem dX11_worth_28 : decode cX11_worth 28 = .ok (.iaload, 1) := by decide +kernel
theorem dX11_worth_29 : decode cX11_worth 29 = .ok (.istore_n 3, 1) := by decide +kernel
theorem dX11_worth_30 : decode cX11_worth 30 = .ok (.aload_n 0, 1) := by decide +kernel
theorem dX11_worth_31 : decode cX11_worth 31 = .ok (.getfield 19, 3) := by decide +kernel
theorem dX11_worth_34 : decode cX11_worth 34 = .ok (.iconst 2, 1) := by decide +kernel
theorem dX11_worth_35 : decode cX11_worth 35 = .ok (.iload_n 1, 1) := by decide +kernel
theorem dX11_worth_36 : decode cX11_worth 36 = .ok (.invokevirtual 265, 3) := by decide +kernel
theorem dX11_worth_39 : decode cX11_worth 39 = .ok (.aload_n 0, 1) := by decide +kernel
theorem dX11_worth_40 : decode cX11_worth 40 = .ok (.getfield 19, 3) := by decide +kernel
theorem dX11_worth_43 : decode cX11_worth 43 = .ok (.getfield 35, 3) := by decide +kernel
theorem dX11_worth_46 : decode cX11_worth 46 = .ok (.iload_n 1, 1) := by decide +kernel
theorem dX11_worth_47 : decode cX11_worth 47 = .ok (.aload_n 0, 1) := by decide +kernel
theorem dX11_worth_48 : decode cX11_worth 48 = .ok (.getfield 19, 3) := by decide +kernel
theorem dX11_worth_51 : decode cX11_worth 51 = .ok (.getfield 35, 3) := by decide +kernel
theorem dX11_worth_54 : decode cX11_worth 54 = .ok (.getfield 171, 3) := by decide +kernel
theorem dX11_worth_57 : decode cX11_worth 57 = .ok (.iload_n 1, 1) := by decide +kernel
theorem dX11_worth_58 : decode cX11_worth 58 = .ok (.iaload, 1) := by decide +kernel
theorem dX11_worth_59 : decode cX11_worth 59 = .ok (.iload_n 2, 1) := by decide +kernel
theorem dX11_worth_60 : decode cX11_worth 60 = .ok (.invokevirtual 271, 3) := by decide +kernel
theorem dX11_worth_63 : decode cX11_worth 63 = .ok (.aload_n 0, 1) := by decide +kernel
theorem dX11_worth_64 : decode cX11_worth 64 = .ok (.getfield 42, 3) := by decide +kernel
theorem dX11_worth_67 : decode cX11_worth 67 = .ok (.invokevirtual 262, 3) := by decide +kernel
theorem dX11_worth_70 : decode cX11_worth 70 = .ok (.iload_n 3, 1) := by decide +kernel
theorem dX11_worth_71 : decode cX11_worth 71 = .ok (.ireturn, 1) := by decide +kernel
theorem dX11_part_0 : decode cX11_part 0 = .ok (.aload_n 0, 1) := by decide +kernel
theorem dX11_part_1 : decode cX11_part 1 = .ok (.iload_n 1, 1) := by decide +kernel
theorem dX11_part_2 : decode cX11_part 2 = .ok (.invokevirtual 162, 3) := by decide +kernel
theorem dX11_part_5 : decode cX11_part 5 = .ok (.iload_n 2, 1) := by decide +kernel
theorem dX11_part_6 : decode cX11_part 6 = .ok (.invokestatic 245, 3) := by decide +kernel
theorem dX11_part_9 : decode cX11_part 9 = .ok (.ifCond .ne 8, 3) := by decide +kernel
theorem dX11_part_12 : decode cX11_part 12 = .ok (.aload_n 0, 1) := by decide +kernel
theorem dX11_part_13 : decode cX11_part 13 = .ok (.invokevirtual 251, 3) := by decide +kernel
theorem dX11_part_16 : decode cX11_part 16 = .ok (.ireturn, 1) := by decide +kernel
theorem dX11_part_17 : decode cX11_part 17 = .ok (.aload_n 0, 1) := by decide +kernel
theorem dX11_part_18 : decode cX11_part 18 = .ok (.getfield 19, 3) := by decide +kernel
theorem dX11_part_21 : decode cX11_part 21 = .ok (.getfield 35, 3) := by decide +kernel
theorem dX11_part_24 : decode cX11_part 24 = .ok (.getfield 171, 3) := by decide +kernel
theorem dX11_part_27 : decode cX11_part 27 = .ok (.iload_n 1, 1) := by decide +kernel
theorem dX11_part_28 : decode cX11_part 28 = .ok (.iaload, 1) := by decide +kernel
theorem dX11_part_29 : decode cX11_part 29 = .ok (.istore_n 3, 1) := by decide +kernel
theorem dX11_part_30 : decode cX11_part 30 = .ok (.aload_n 0, 1) := by decide +kernel
theorem dX11_part_31 : decode cX11_part 31 = .ok (.getfield 19, 3) := by decide +kernel
theorem dX11_part_34 : decode cX11_part 34 = .ok (.iconst 2, 1) := by decide +kernel
theorem dX11_part_35 : decode cX11_part 35 = .ok (.iload_n 1, 1) := by decide +kernel
theorem dX11_part_36 : decode cX11_part 36 = .ok (.invokevirtual 265, 3) := by decide +kernel
theorem dX11_part_39 : decode cX11_part 39 = .ok (.aload_n 0, 1) := by decide +kernel
theorem dX11_part_40 : decode cX11_part 40 = .ok (.getfield 19, 3) := by decide +kernel
theorem dX11_part_43 : decode cX11_part 43 = .ok (.getfield 35, 3) := by decide +kernel
theorem dX11_part_46 : decode cX11_part 46 = .ok (.iload_n 1, 1) := by decide +kernel
theorem dX11_part_47 : decode cX11_part 47 = .ok (.iload_n 2, 1) := by decide +kernel
theorem dX11_part_48 : decode cX11_part 48 = .ok (.aload_n 0, 1) := by decide +kernel
theorem dX11_part_49 : decode cX11_part 49 = .ok (.getfield 19, 3) := by decide +kernel
theorem dX11_part_52 : decode cX11_part 52 = .ok (.getfield 35, 3) := by decide +kernel
theorem dX11_part_55 : decode cX11_part 55 = .ok (.getfield 174, 3) := by decide +kernel
theorem dX11_part_58 : decode cX11_part 58 = .ok (.iload_n 1, 1) := by decide +kernel
theorem dX11_part_59 : decode cX11_part 59 = .ok (.iaload, 1) := by decide +kernel
theorem dX11_part_60 : decode cX11_part 60 = .ok (.invokevirtual 271, 3) := by decide +kernel
theorem dX11_part_63 : decode cX11_part 63 = .ok (.aload_n 0, 1) := by decide +kernel
theorem dX11_part_64 : decode cX11_part 64 = .ok (.getfield 42, 3) := by decide +kernel
theorem dX11_part_67 : decode cX11_part 67 = .ok (.invokevirtual 262, 3) := by decide +kernel
theorem dX11_part_70 : decode cX11_part 70 = .ok (.iload_n 3, 1) := by decide +kernel
theorem dX11_part_71 : decode cX11_part 71 = .ok (.ireturn, 1) := by decide +kernel
theorem dX11_rain_0 : decode cX11_rain 0 = .ok (.aload_n 0, 1) := by decide +kernel
theorem dX11_rain_1 : decode cX11_rain 1 = .ok (.iload_n 1, 1) := by decide +kernel
theorem dX11_rain_2 : decode cX11_rain 2 = .ok (.invokevirtual 182, 3) := by decide +kernel
theorem dX11_rain_5 : decode cX11_rain 5 = .ok (.aload_n 0, 1) := by decide +kernel
theorem dX11_rain_6 : decode cX11_rain 6 = .ok (.getfield 19, 3) := by decide +kernel
theorem dX11_rain_9 : decode cX11_rain 9 = .ok (.iload_n 1, 1) := by decide +kernel
theorem dX11_rain_10 : decode cX11_rain 10 = .ok (.invokevirtual 191, 3) := by decide +kernel
theorem dX11_rain_13 : decode cX11_rain 13 = .ok (.iload_n 2, 1) := by decide +kernel
theorem dX11_rain_14 : decode cX11_rain 14 = .ok (.if_icmp .ne 18, 3) := by decide +kernel
theorem dX11_rain_17 : decode cX11_rain 17 = .ok (.aload_n 0, 1) := by decide +kernel
theorem dX11_rain_18 : decode cX11_rain 18 = .ok (.getfield 19, 3) := by decide +kernel
theorem dX11_rain_21 : decode cX11_rain 21 = .ok (.getfield 106, 3) := by decide +kernel
theorem dX11_rain_24 : decode cX11_rain 24 = .ok (.iconst 1, 1) := by decide +kernel
theorem dX11_rain_25 : decode cX11_rain 25 = .ok (.dup2, 1) := by decide +kernel
theorem dX11_rain_26 : decode cX11_rain 26 = .ok (.iaload, 1) := by decide +kernel
theorem dX11_rain_27 : decode cX11_rain 27 = .ok (.iconst 1, 1) := by decide +kernel
theorem dX11_rain_28 : decode cX11_rain 28 = .ok (.iadd, 1) := by decide +kernel
theorem dX11_rain_29 : decode cX11_rain 29 = .ok (.iastore, 1) := by decide +kernel
theorem dX11_rain_30 : decode cX11_rain 30 = .ok (.iconst 0, 1) := by decide +kernel
theorem dX11_rain_31 : decode cX11_rain 31 = .ok (.ireturn, 1) := by decide +kernel
theorem dX11_rain_32 : decode cX11_rain 32 = .ok (.aload_n 0, 1) := by decide +kernel
theorem dX11_rain_33 : decode cX11_rain 33 = .ok (.getfield 19, 3) := by decide +kernel
theorem dX11_rain_36 : decode cX11_rain 36 = .ok (.iconst 3, 1) := by decide +kernel
theorem dX11_rain_37 : decode cX11_rain 37 = .ok (.iload_n 1, 1) := by decide +kernel
theorem dX11_rain_38 : decode cX11_rain 38 = .ok (.iconst 0, 1) := by decide +kernel
theorem dX11_rain_39 : decode cX11_rain 39 = .ok (.iconst 0, 1) := by decide +kernel
theorem dX11_rain_40 : decode cX11_rain 40 = .ok (.iconst 0, 1) := by decide +kernel
theorem dX11_rain_41 : decode cX11_rain 41 = .ok (.invokevirtual 258, 3) := by decide +kernel
theorem dX11_rain_44 : decode cX11_rain 44 = .ok (.aload_n 0, 1) := by decide +kernel
theorem dX11_rain_45 : decode cX11_rain 45 = .ok (.getfield 19, 3) := by decide +kernel
theorem dX11_rain_48 : decode cX11_rain 48 = .ok (.iload_n 1, 1) := by decide +kernel
theorem dX11_rain_49 : decode cX11_rain 49 = .ok (.invokevirtual 275, 3) := by decide +kernel
theorem dX11_rain_52 : decode cX11_rain 52 = .ok (.iconst 1, 1) := by decide +kernel
theorem dX11_rain_53 : decode cX11_rain 53 = .ok (.ireturn, 1) := by decide +kernel
theorem dX11_mend_0 : decode cX11_mend 0 = .ok (.iload_n 1, 1) := by decide +kernel
theorem dX11_mend_1 : decode cX11_mend 1 = .ok (.invokestatic 203, 3) := by decide +kernel
theorem dX11_mend_4 : decode cX11_mend 4 = .ok (.aload_n 0, 1) := by decide +kernel
theorem dX11_mend_5 : decode cX11_mend 5 = .ok (.getfield 58, 3) := by decide +kernel
theorem dX11_mend_8 : decode cX11_mend 8 = .ok (.iload_n 1, 1) := by decide +kernel
theorem dX11_mend_9 : decode cX11_mend 9 = .ok (.invokevirtual 281, 3) := by decide +kernel
theorem dX11_mend_12 : decode cX11_mend 12 = .ok (.ireturn, 1) := by decide +kernel
theorem dX11_newWord_0 : decode cX11_newWord 0 = .ok (.iload_n 1, 1) := by decide +kernel
theorem dX11_newWord_1 : decode cX11_newWord 1 = .ok (.ifCond .lt 16, 3) := by decide +kernel
theorem dX11_newWord_4 : decode cX11_newWord 4 = .ok (.iload_n 1, 1) := by decide +kernel
theorem dX11_newWord_5 : decode cX11_newWord 5 = .ok (.iconst 1, 1) := by decide +kernel
theorem dX11_newWord_6 : decode cX11_newWord 6 = .ok (.aload_n 0, 1) := by decide +kernel
theorem dX11_newWord_7 : decode cX11_newWord 7 = .ok (.getfield 29, 3) := by decide +kernel
theorem dX11_newWord_10 : decode cX11_newWord 10 = .ok (.getfield 140, 3) := by decide +kernel
theorem dX11_newWord_13 : decode cX11_newWord 13 = .ok (.ishl, 1) := by decide +kernel
theorem dX11_newWord_14 : decode cX11_newWord 14 = .ok (.if_icmp .lt 14, 3) := by decide +kernel
theorem dX11_newWord_17 : decode cX11_newWord 17 = .ok (.new 95, 3) := by decide +kernel
theorem dX11_newWord_20 : decode cX11_newWord 20 = .ok (.dup, 1) := by decide +kernel
theorem dX11_newWord_21 : decode cX11_newWord 21 = .ok (.ldc_w 293, 3) := by decide +kernel
theorem dX11_newWord_24 : decode cX11_newWord 24 = .ok (.invokespecial 99, 3) := by decide +kernel
theorem dX11_newWord_27 : decode cX11_newWord 27 = .ok (.athrow, 1) := by decide +kernel
theorem dX11_newWord_28 : decode cX11_newWord 28 = .ok (.aload_n 0, 1) := by decide +kernel
theorem dX11_newWord_29 : decode cX11_newWord 29 = .ok (.getfield 74, 3) := by decide +kernel
theorem dX11_newWord_32 : decode cX11_newWord 32 = .ok (.iload_n 1, 1) := by decide +kernel
theorem dX11_newWord_33 : decode cX11_newWord 33 = .ok (.invokevirtual 295, 3) := by decide +kernel
theorem dX11_newWord_36 : decode cX11_newWord 36 = .ok (.ireturn, 1) := by decide +kernel
theorem dX11_span_0 : decode cX11_span 0 = .ok (.aload_n 0, 1) := by decide +kernel
theorem dX11_span_1 : decode cX11_span 1 = .ok (.iload_n 1, 1) := by decide +kernel
theorem dX11_span_2 : decode cX11_span 2 = .ok (.invokevirtual 162, 3) := by decide +kernel
theorem dX11_span_5 : decode cX11_span 5 = .ok (.aload_n 0, 1) := by decide +kernel
theorem dX11_span_6 : decode cX11_span 6 = .ok (.iload_n 2, 1) := by decide +kernel
theorem dX11_span_7 : decode cX11_span 7 = .ok (.invokevirtual 162, 3) := by decide +kernel
theorem dX11_span_10 : decode cX11_span 10 = .ok (.aload_n 0, 1) := by decide +kernel
theorem dX11_span_11 : decode cX11_span 11 = .ok (.getfield 49, 3) := by decide +kernel
theorem dX11_span_14 : decode cX11_span 14 = .ok (.aload_n 0, 1) := by decide +kernel
theorem dX11_span_15 : decode cX11_span 15 = .ok (.getfield 19, 3) := by decide +kernel
theorem dX11_span_18 : decode cX11_span 18 = .ok (.getfield 35, 3) := by decide +kernel
theorem dX11_span_21 : decode cX11_span 21 = .ok (.getfield 165, 3) := by decide +kernel
theorem dX11_span_24 : decode cX11_span 24 = .ok (.iload_n 1, 1) := by decide +kernel
theorem dX11_span_25 : decode cX11_span 25 = .ok (.iaload, 1) := by decide +kernel
theorem dX11_span_26 : decode cX11_span 26 = .ok (.aload_n 0, 1) := by decide +kernel
theorem dX11_span_27 : decode cX11_span 27 = .ok (.getfield 19, 3) := by decide +kernel
theorem dX11_span_30 : decode cX11_span 30 = .ok (.getfield 35, 3) := by decide +kernel
theorem dX11_span_33 : decode cX11_span 33 = .ok (.getfield 165, 3) := by decide +kernel
theorem dX11_span_36 : decode cX11_span 36 = .ok (.iload_n 2, 1) := by decide +kernel
theorem dX11_span_37 : decode cX11_span 37 = .ok (.iaload, 1) := by decide +kernel
theorem dX11_span_38 : decode cX11_span 38 = .ok (.invokevirtual 229, 3) := by decide +kernel
theorem dX11_span_41 : decode cX11_span 41 = .ok (.ireturn, 1) := by decide +kernel
theorem dX11_closest_0 : decode cX11_closest 0 = .ok (.iload_n 1, 1) := by decide +kernel
theorem dX11_closest_1 : decode cX11_closest 1 = .ok (.iconst 2, 1) := by decide +kernel
theorem dX11_closest_2 : decode cX11_closest 2 = .ok (.invokestatic 210, 3) := by decide +kernel
theorem dX11_closest_5 : decode cX11_closest 5 = .ok (.aload_n 0, 1) := by decide +kernel
theorem dX11_closest_6 : decode cX11_closest 6 = .ok (.getfield 49, 3) := by decide +kernel
theorem dX11_closest_9 : decode cX11_closest 9 = .ok (.invokevirtual 298, 3) := by decide +kernel
theorem dX11_closest_12 : decode cX11_closest 12 = .ok (.istore_n 2, 1) := by decide +kernel
theorem dX11_closest_13 : decode cX11_closest 13 = .ok (.iload_n 2, 1) := by decide +kernel
theorem dX11_closest_14 : decode cX11_closest 14 = .ok (.iconst (-1), 1) := by decide +kernel
theorem dX11_closest_15 : decode cX11_closest 15 = .ok (.if_icmp .eq 8, 3) := by decide +kernel
theorem dX11_closest_18 : decode cX11_closest 18 = .ok (.iload_n 1, 1) := by decide +kernel
theorem dX11_closest_19 : decode cX11_closest 19 = .ok (.iconst 1, 1) := by decide +kernel
theorem dX11_closest_20 : decode cX11_closest 20 = .ok (.if_icmp .ne 5, 3) := by decide +kernel
theorem dX11_closest_23 : decode cX11_closest 23 = .ok (.iload_n 2, 1) := by decide +kernel
theorem dX11_closest_24 : decode cX11_closest 24 = .ok (.ireturn, 1) := by decide +kernel
theorem dX11_closest_25 : decode cX11_closest 25 = .ok (.aload_n 0, 1) := by decide +kernel
theorem dX11_closest_26 : decode cX11_closest 26 = .ok (.getfield 49, 3) := by decide +kernel
theorem dX11_closest_29 : decode cX11_closest 29 = .ok (.aload_n 0, 1) := by decide +kernel
theorem dX11_closest_30 : decode cX11_closest 30 = .ok (.getfield 19, 3) := by decide +kernel
theorem dX11_closest_33 : decode cX11_closest 33 = .ok (.getfield 35, 3) := by decide +kernel
theorem dX11_closest_36 : decode cX11_closest 36 = .ok (.getfield 165, 3) := by decide +kernel
theorem dX11_closest_39 : decode cX11_closest 39 = .ok (.iload_n 2, 1) := by decide +kernel
theorem dX11_closest_40 : decode cX11_closest 40 = .ok (.bipush 10, 2) := by decide +kernel
theorem dX11_closest_42 : decode cX11_closest 42 = .ok (.idiv, 1) := by decide +kernel
theorem dX11_closest_43 : decode cX11_closest 43 = .ok (.iaload, 1) := by decide +kernel
theorem dX11_closest_44 : decode cX11_closest 44 = .ok (.aload_n 0, 1) := by decide +kernel
theorem dX11_closest_45 : decode cX11_closest 45 = .ok (.getfield 19, 3) := by decide +kernel
theorem dX11_closest_48 : decode cX11_closest 48 = .ok (.getfield 35, 3) := by decide +kernel
theorem dX11_closest_51 : decode cX11_closest 51 = .ok (.getfield 165, 3) := by decide +kernel
theorem dX11_closest_54 : decode cX11_closest 54 = .ok (.iload_n 2, 1) := by decide +kernel
theorem dX11_closest_55 : decode cX11_closest 55 = .ok (.bipush 10, 2) := by decide +kernel
theorem dX11_closest_57 : decode cX11_closest 57 = .ok (.irem, 1) := by decide +kernel
theorem dX11_closest_58 : decode cX11_closest 58 = .ok (.iaload, 1) := by decide +kernel
theorem dX11_closest_59 : decode cX11_closest 59 = .ok (.invokevirtual 229, 3) := by decide +kernel
theorem dX11_closest_62 : decode cX11_closest 62 = .ok (.ireturn, 1) := by decide +kernel
theorem dX11_said_0 : decode cX11_said 0 = .ok (.iload_n 1, 1) := by decide +kernel
theorem dX11_said_1 : decode cX11_said 1 = .ok (.ifCond .lt 9, 3) := by decide +kernel
theorem dX11_said_4 : decode cX11_said 4 = .ok (.iload_n 1, 1) := by decide +kernel
theorem dX11_said_5 : decode cX11_said 5 = .ok (.bipush 12, 2) := by decide +kernel
theorem dX11_said_7 : decode cX11_said 7 = .ok (.if_icmp .le 14, 3) := by decide +kernel
theorem dX11_said_10 : decode cX11_said 10 = .ok (.new 95, 3) := by decide +kernel
theorem dX11_said_13 : decode cX11_said 13 = .ok (.dup, 1) := by decide +kernel
theorem dX11_said_14 : decode cX11_said 14 = .ok (.ldc_w 301, 3) := by decide +kernel
theorem dX11_said_17 : decode cX11_said 17 = .ok (.invokespecial 99, 3) := by decide +kernel
theorem dX11_said_20 : decode cX11_said 20 = .ok (.athrow, 1) := by decide +kernel
theorem dX11_said_21 : decode cX11_said 21 = .ok (.aload_n 0, 1) := by decide +kernel
theorem dX11_said_22 : decode cX11_said 22 = .ok (.getfield 58, 3) := by decide +kernel
theorem dX11_said_25 : decode cX11_said 25 = .ok (.iload_n 1, 1) := by decide +kernel
theorem dX11_said_26 : decode cX11_said 26 = .ok (.invokevirtual 303, 3) := by decide +kernel
theorem dX11_said_29 : decode cX11_said 29 = .ok (.ireturn, 1) := by decide +kernel
theorem dX11_howMany_0 : decode cX11_howMany 0 = .ok (.iload_n 1, 1) := by decide +kernel
theorem dX11_howMany_1 : decode cX11_howMany 1 = .ok (.iconst 1, 1) := by decide +kernel
theorem dX11_howMany_2 : decode cX11_howMany 2 = .ok (.if_icmp .lt 9, 3) := by decide +kernel
theorem dX11_howMany_5 : decode cX11_howMany 5 = .ok (.iload_n 1, 1) := by decide +kernel
theorem dX11_howMany_6 : decode cX11_howMany 6 = .ok (.bipush 12, 2) := by decide +kernel
theorem dX11_howMany_8 : decode cX11_howMany 8 = .ok (.if_icmp .le 14, 3) := by decide +kernel
theorem dX11_howMany_11 : decode cX11_howMany 11 = .ok (.new 95, 3) := by decide +kernel
theorem dX11_howMany_14 : decode cX11_howMany 14 = .ok (.dup, 1) := by decide +kernel
theorem dX11_howMany_15 : decode cX11_howMany 15 = .ok (.ldc_w 306, 3) := by decide +kernel
theorem dX11_howMany_18 : decode cX11_howMany 18 = .ok (.invokespecial 99, 3) := by decide +kernel
theorem dX11_howMany_21 : decode cX11_howMany 21 = .ok (.athrow, 1) := by decide +kernel
theorem dX11_howMany_22 : decode cX11_howMany 22 = .ok (.aload_n 0, 1) := by decide +kernel
theorem dX11_howMany_23 : decode cX11_howMany 23 = .ok (.getfield 58, 3) := by decide +kernel
theorem dX11_howMany_26 : decode cX11_howMany 26 = .ok (.iload_n 1, 1) := by decide +kernel
theorem dX11_howMany_27 : decode cX11_howMany 27 = .ok (.invokevirtual 308, 3) := by decide +kernel
theorem dX11_howMany_30 : decode cX11_howMany 30 = .ok (.lreturn, 1) := by decide +kernel
theorem dX11_hear_0 : decode cX11_hear 0 = .ok (.aload_n 0, 1) := by decide +kernel
theorem dX11_hear_1 : decode cX11_hear 1 = .ok (.iload_n 1, 1) := by decide +kernel
theorem dX11_hear_2 : decode cX11_hear 2 = .ok (.invokevirtual 182, 3) := by decide +kernel
theorem dX11_hear_5 : decode cX11_hear 5 = .ok (.aload_n 0, 1) := by decide +kernel
theorem dX11_hear_6 : decode cX11_hear 6 = .ok (.getfield 19, 3) := by decide +kernel
theorem dX11_hear_9 : decode cX11_hear 9 = .ok (.getfield 154, 3) := by decide +kernel
theorem dX11_hear_12 : decode cX11_hear 12 = .ok (.bipush 8, 2) := by decide +kernel
theorem dX11_hear_14 : decode cX11_hear 14 = .ok (.if_icmp .ge 10, 3) := by decide +kernel
theorem dX11_hear_17 : decode cX11_hear 17 = .ok (.iload_n 2, 1) := by decide +kernel
theorem dX11_hear_18 : decode cX11_hear 18 = .ok (.invokestatic 235, 3) := by decide +kernel
theorem dX11_hear_21 : decode cX11_hear 21 = .ok (.ifCond .ne 18, 3) := by decide +kernel
theorem dX11_hear_24 : decode cX11_hear 24 = .ok (.aload_n 0, 1) := by decide +kernel
theorem dX11_hear_25 : decode cX11_hear 25 = .ok (.getfield 19, 3) := by decide +kernel
theorem dX11_hear_28 : decode cX11_hear 28 = .ok (.getfield 106, 3) := by decide +kernel
theorem dX11_hear_31 : decode cX11_hear 31 = .ok (.iconst 2, 1) := by decide +kernel
theorem dX11_hear_32 : decode cX11_hear 32 = .ok (.dup2, 1) := by decide +kernel
theorem dX11_hear_33 : decode cX11_hear 33 = .ok (.iaload, 1) := by decide +kernel
theorem dX11_hear_34 : decode cX11_hear 34 = .ok (.iconst 1, 1) := by decide +kernel
theorem dX11_hear_35 : decode cX11_hear 35 = .ok (.iadd, 1) := by decide +kernel
theorem dX11_hear_36 : decode cX11_hear 36 = .ok (.iastore, 1) := by decide +kernel
theorem dX11_hear_37 : decode cX11_hear 37 = .ok (.iconst (-1), 1) := by decide +kernel
theorem dX11_hear_38 : decode cX11_hear 38 = .ok (.ireturn, 1) := by decide +kernel
theorem dX11_hear_39 : decode cX11_hear 39 = .ok (.aload_n 0, 1) := by decide +kernel
theorem dX11_hear_40 : decode cX11_hear 40 = .ok (.getfield 19, 3) := by decide +kernel
theorem dX11_hear_43 : decode cX11_hear 43 = .ok (.getfield 312, 3) := by decide +kernel
theorem dX11_hear_46 : decode cX11_hear 46 = .ok (.aload_n 0, 1) := by decide +kernel
theorem dX11_hear_47 : decode cX11_hear 47 = .ok (.getfield 19, 3) := by decide +kernel
theorem dX11_hear_50 : decode cX11_hear 50 = .ok (.getfield 154, 3) := by decide +kernel
theorem dX11_hear_53 : decode cX11_hear 53 = .ok (.iload_n 1, 1) := by decide +kernel
theorem dX11_hear_54 : decode cX11_hear 54 = .ok (.iastore, 1) := by decide +kernel
theorem dX11_hear_55 : decode cX11_hear 55 = .ok (.aload_n 0, 1) := by decide +kernel
theorem dX11_hear_56 : decode cX11_hear 56 = .ok (.getfield 19, 3) := by decide +kernel
theorem dX11_hear_59 : decode cX11_hear 59 = .ok (.getfield 315, 3) := by decide +kernel
theorem dX11_hear_62 : decode cX11_hear 62 = .ok (.aload_n 0, 1) := by decide +kernel
theorem dX11_hear_63 : decode cX11_hear 63 = .ok (.getfield 19, 3) := by decide +kernel
theorem dX11_hear_66 : decode cX11_hear 66 = .ok (.getfield 154, 3) := by decide +kernel
theorem dX11_hear_69 : decode cX11_hear 69 = .ok (.iload_n 2, 1) := by decide +kernel
theorem dX11_hear_70 : decode cX11_hear 70 = .ok (.iastore, 1) := by decide +kernel
theorem dX11_hear_71 : decode cX11_hear 71 = .ok (.aload_n 0, 1) := by decide +kernel
theorem dX11_hear_72 : decode cX11_hear 72 = .ok (.getfield 19, 3) := by decide +kernel
theorem dX11_hear_75 : decode cX11_hear 75 = .ok (.dup, 1) := by decide +kernel
theorem dX11_hear_76 : decode cX11_hear 76 = .ok (.getfield 154, 3) := by decide +kernel
theorem dX11_hear_79 : decode cX11_hear 79 = .ok (.iconst 1, 1) := by decide +kernel
theorem dX11_hear_80 : decode cX11_hear 80 = .ok (.iadd, 1) := by decide +kernel
theorem dX11_hear_81 : decode cX11_hear 81 = .ok (.putfield 154, 3) := by decide +kernel
theorem dX11_hear_84 : decode cX11_hear 84 = .ok (.aload_n 0, 1) := by decide +kernel
theorem dX11_hear_85 : decode cX11_hear 85 = .ok (.getfield 19, 3) := by decide +kernel
theorem dX11_hear_88 : decode cX11_hear 88 = .ok (.getfield 154, 3) := by decide +kernel
theorem dX11_hear_91 : decode cX11_hear 91 = .ok (.ireturn, 1) := by decide +kernel
theorem dX11_listen_0 : decode cX11_listen 0 = .ok (.iload_n 1, 1) := by decide +kernel
theorem dX11_listen_1 : decode cX11_listen 1 = .ok (.iconst 2, 1) := by decide +kernel
theorem dX11_listen_2 : decode cX11_listen 2 = .ok (.invokestatic 210, 3) := by decide +kernel
theorem dX11_listen_5 : decode cX11_listen 5 = .ok (.aload_n 0, 1) := by decide +kernel
theorem dX11_listen_6 : decode cX11_listen 6 = .ok (.getfield 74, 3) := by decide +kernel
theorem dX11_listen_9 : decode cX11_listen 9 = .ok (.invokevirtual 318, 3) := by decide +kernel
theorem dX11_listen_12 : decode cX11_listen 12 = .ok (.istore_n 2, 1) := by decide +kernel
theorem dX11_listen_13 : decode cX11_listen 13 = .ok (.aload_n 0, 1) := by decide +kernel
theorem dX11_listen_14 : decode cX11_listen 14 = .ok (.getfield 74, 3) := by decide +kernel
theorem dX11_listen_17 : decode cX11_listen 17 = .ok (.iload_n 2, 1) := by decide +kernel
theorem dX11_listen_18 : decode cX11_listen 18 = .ok (.invokevirtual 321, 3) := by decide +kernel
theorem dX11_listen_21 : decode cX11_listen 21 = .ok (.istore_n 3, 1) := by decide +kernel
theorem dX11_listen_22 : decode cX11_listen 22 = .ok (.iload_n 1, 1) := by decide +kernel
theorem dX11_listen_23 : decode cX11_listen 23 = .ok (.ifCond .ne 5, 3) := by decide +kernel
theorem dX11_listen_26 : decode cX11_listen 26 = .ok (.iload_n 3, 1) := by decide +kernel
theorem dX11_listen_27 : decode cX11_listen 27 = .ok (.ireturn, 1) := by decide +kernel
theorem dX11_listen_28 : decode cX11_listen 28 = .ok (.iload_n 3, 1) := by decide +kernel
theorem dX11_listen_29 : decode cX11_listen 29 = .ok (.iconst (-1), 1) := by decide +kernel
theorem dX11_listen_30 : decode cX11_listen 30 = .ok (.if_icmp .ne 7, 3) := by decide +kernel
theorem dX11_listen_33 : decode cX11_listen 33 = .ok (.iconst 0, 1) := by decide +kernel
theorem dX11_listen_34 : decode cX11_listen 34 = .ok (.goto 12, 3) := by decide +kernel
theorem dX11_listen_37 : decode cX11_listen 37 = .ok (.aload_n 0, 1) := by decide +kernel
theorem dX11_listen_38 : decode cX11_listen 38 = .ok (.getfield 74, 3) := by decide +kernel
theorem dX11_listen_41 : decode cX11_listen 41 = .ok (.iload_n 3, 1) := by decide +kernel
theorem dX11_listen_42 : decode cX11_listen 42 = .ok (.iload_n 2, 1) := by decide +kernel
theorem dX11_listen_43 : decode cX11_listen 43 = .ok (.invokevirtual 324, 3) := by decide +kernel
theorem dX11_listen_46 : decode cX11_listen 46 = .ok (.ireturn, 1) := by decide +kernel
theorem dX11_telegraph_0 : decode cX11_telegraph 0 = .ok (.aload_n 0, 1) := by decide +kernel
theorem dX11_telegraph_1 : decode cX11_telegraph 1 = .ok (.iload_n 1, 1) := by decide +kernel
theorem dX11_telegraph_2 : decode cX11_telegraph 2 = .ok (.invokevirtual 182, 3) := by decide +kernel
theorem dX11_telegraph_5 : decode cX11_telegraph 5 = .ok (.aload_n 0, 1) := by decide +kernel
theorem dX11_telegraph_6 : decode cX11_telegraph 6 = .ok (.iload_n 2, 1) := by decide +kernel
theorem dX11_telegraph_7 : decode cX11_telegraph 7 = .ok (.invokevirtual 182, 3) := by decide +kernel
theorem dX11_telegraph_10 : decode cX11_telegraph 10 = .ok (.aload_n 0, 1) := by decide +kernel
theorem dX11_telegraph_11 : decode cX11_telegraph 11 = .ok (.getfield 83, 3) := by decide +kernel
theorem dX11_telegraph_14 : decode cX11_telegraph 14 = .ok (.iload_n 1, 1) := by decide +kernel
theorem dX11_telegraph_15 : decode cX11_telegraph 15 = .ok (.iload_n 2, 1) := by decide +kernel
theorem dX11_telegraph_16 : decode cX11_telegraph 16 = .ok (.invokevirtual 327, 3) := by decide +kernel
theorem dX11_telegraph_19 : decode cX11_telegraph 19 = .ok (.ireturn, 1) := by decide +kernel
theorem dX11_game_0 : decode cX11_game 0 = .ok (.aload_n 0, 1) := by decide +kernel
theorem dX11_game_1 : decode cX11_game 1 = .ok (.iload_n 1, 1) := by decide +kernel
theorem dX11_game_2 : decode cX11_game 2 = .ok (.invokevirtual 182, 3) := by decide +kernel
theorem dX11_game_5 : decode cX11_game 5 = .ok (.aload_n 0, 1) := by decide +kernel
theorem dX11_game_6 : decode cX11_game 6 = .ok (.iload_n 2, 1) := by decide +kernel
theorem dX11_game_7 : decode cX11_game 7 = .ok (.invokevirtual 182, 3) := by decide +kernel
theorem dX11_game_10 : decode cX11_game 10 = .ok (.iload_n 3, 1) := by decide +kernel
theorem dX11_game_11 : decode cX11_game 11 = .ok (.iconst 2, 1) := by decide +kernel
theorem dX11_game_12 : decode cX11_game 12 = .ok (.invokestatic 210, 3) := by decide +kernel
theorem dX11_game_15 : decode cX11_game 15 = .ok (.iload_n 1, 1) := by decide +kernel
theorem dX11_game_16 : decode cX11_game 16 = .ok (.iload_n 2, 1) := by decide +kernel
theorem dX11_game_17 : decode cX11_game 17 = .ok (.if_icmp .ne 14, 3) := by decide +kernel
theorem dX11_game_20 : decode cX11_game 20 = .ok (.new 95, 3) := by decide +kernel
theorem dX11_game_23 : decode cX11_game 23 = .ok (.dup, 1) := by decide +kernel
theorem dX11_game_24 : decode cX11_game 24 = .ok (.ldc_w 330, 3) := by decide +kernel
theorem dX11_game_27 : decode cX11_game 27 = .ok (.invokespecial 99, 3) := by decide +kernel
theorem dX11_game_30 : decode cX11_game 30 = .ok (.athrow, 1) := by decide +kernel
theorem dX11_game_31 : decode cX11_game 31 = .ok (.aload_n 0, 1) := by decide +kernel
theorem dX11_game_32 : decode cX11_game 32 = .ok (.getfield 83, 3) := by decide +kernel
theorem dX11_game_35 : decode cX11_game 35 = .ok (.iload_n 1, 1) := by decide +kernel
theorem dX11_game_36 : decode cX11_game 36 = .ok (.iload_n 2, 1) := by decide +kernel
theorem dX11_game_37 : decode cX11_game 37 = .ok (.invokevirtual 332, 3) := by decide +kernel
theorem dX11_game_40 : decode cX11_game 40 = .ok (.iload_n 3, 1) := by decide +kernel
theorem dX11_game_41 : decode cX11_game 41 = .ok (.ifCond .ne 13, 3) := by decide +kernel
theorem dX11_game_44 : decode cX11_game 44 = .ok (.aload_n 0, 1) := by decide +kernel
theorem dX11_game_45 : decode cX11_game 45 = .ok (.getfield 83, 3) := by decide +kernel
theorem dX11_game_48 : decode cX11_game 48 = .ok (.getfield 335, 3) := by decide +kernel
theorem dX11_game_51 : decode cX11_game 51 = .ok (.goto 10, 3) := by decide +kernel
theorem dX11_game_54 : decode cX11_game 54 = .ok (.aload_n 0, 1) := by decide +kernel
theorem dX11_game_55 : decode cX11_game 55 = .ok (.getfield 83, 3) := by decide +kernel
theorem dX11_game_58 : decode cX11_game 58 = .ok (.getfield 338, 3) := by decide +kernel
theorem dX11_game_61 : decode cX11_game 61 = .ok (.ireturn, 1) := by decide +kernel
theorem dX11_frost_0 : decode cX11_frost 0 = .ok (.iload_n 3, 1) := by decide +kernel
theorem dX11_frost_1 : decode cX11_frost 1 = .ok (.iconst 3, 1) := by decide +kernel
theorem dX11_frost_2 : decode cX11_frost 2 = .ok (.invokestatic 210, 3) := by decide +kernel
theorem dX11_frost_5 : decode cX11_frost 5 = .ok (.iload_n 2, 1) := by decide +kernel
theorem dX11_frost_6 : decode cX11_frost 6 = .ok (.ifCond .lt 9, 3) := by decide +kernel
theorem dX11_frost_9 : decode cX11_frost 9 = .ok (.iload_n 2, 1) := by decide +kernel
theorem dX11_frost_10 : decode cX11_frost 10 = .ok (.bipush 60, 2) := by decide +kernel
theorem dX11_frost_12 : decode cX11_frost 12 = .ok (.if_icmp .le 14, 3) := by decide +kernel
theorem dX11_frost_15 : decode cX11_frost 15 = .ok (.new 95, 3) := by decide +kernel
theorem dX11_frost_18 : decode cX11_frost 18 = .ok (.dup, 1) := by decide +kernel
theorem dX11_frost_19 : decode cX11_frost 19 = .ok (.ldc_w 341, 3) := by decide +kernel
theorem dX11_frost_22 : decode cX11_frost 22 = .ok (.invokespecial 99, 3) := by decide +kernel
theorem dX11_frost_25 : decode cX11_frost 25 = .ok (.athrow, 1) := by decide +kernel
theorem dX11_frost_26 : decode cX11_frost 26 = .ok (.aload_n 0, 1) := by decide +kernel
theorem dX11_frost_27 : decode cX11_frost 27 = .ok (.getfield 83, 3) := by decide +kernel
theorem dX11_frost_30 : decode cX11_frost 30 = .ok (.iload_n 1, 1) := by decide +kernel
theorem dX11_frost_31 : decode cX11_frost 31 = .ok (.iload_n 2, 1) := by decide +kernel
theorem dX11_frost_32 : decode cX11_frost 32 = .ok (.invokevirtual 343, 3) := by decide +kernel
theorem dX11_frost_35 : decode cX11_frost 35 = .ok (.iload_n 3, 1) := by decide +kernel
theorem dX11_frost_36 : decode cX11_frost 36 = .ok (.lookupswitch 44 #[(0, 28), (1, 36)], 28) := by decide +kernel
theorem dX11_frost_64 : decode cX11_frost 64 = .ok (.aload_n 0, 1) := by decide +kernel
theorem dX11_frost_65 : decode cX11_frost 65 = .ok (.getfield 83, 3) := by decide +kernel
theorem dX11_frost_68 : decode cX11_frost 68 = .ok (.getfield 346, 3) := by decide +kernel
theorem dX11_frost_71 : decode cX11_frost 71 = .ok (.ireturn, 1) := by decide +kernel
theorem dX11_frost_72 : decode cX11_frost 72 = .ok (.aload_n 0, 1) := by decide +kernel
theorem dX11_frost_73 : decode cX11_frost 73 = .ok (.getfield 83, 3) := by decide +kernel
theorem dX11_frost_76 : decode cX11_frost 76 = .ok (.getfield 349, 3) := by decide +kernel
theorem dX11_frost_79 : decode cX11_frost 79 = .ok (.ireturn, 1) := by decide +kernel
theorem dX11_frost_80 : decode cX11_frost 80 = .ok (.aload_n 0, 1) := by decide +kernel
theorem dX11_frost_81 : decode cX11_frost 81 = .ok (.getfield 83, 3) := by decide +kernel
theorem dX11_frost_84 : decode cX11_frost 84 = .ok (.getfield 352, 3) := by decide +kernel
theorem dX11_frost_87 : decode cX11_frost 87 = .ok (.ireturn, 1) := by decide +kernel
def jn_KB_needWord_18 (n : Nat) (μ : kbM) : Option ((Bool × kbM) ⊕ (kbM)) :=
  some (.inl (true, μ))
theorem jnR_KB_needWord_18 {l : Launch} (hl : l.stackTraces = false) (n : Nat) (μ : kbM) {Q : kbQt} {QX : kbXt} {P : (Bool × kbM) ⊕ (kbM) → Prop} (hr : ∀ z : kbM, P (.inr z) → Q none z) (he : ∀ z : Bool × kbM, P (.inl z) → QX (kbXn z.1) z.2) (h : kbG (jn_KB_needWord_18 n μ) P) : kbY l MX11_needWord [] (kbRmX 6 1) 0 0 (kbFx 1 Q QX) 18 [none, none] [] μ := by
  unfold jn_KB_needWord_18 at h
  exact y_throw hl rfl thN lsX11_358 ⟨(Nat.le_of_ble_eq_true rfl), (Nat.le_of_ble_eq_true rfl), (Nat.le_of_ble_eq_true rfl), (Nat.le_of_ble_eq_true rfl)⟩ (Nat.le_of_ble_eq_true rfl) (Nat.le_of_ble_eq_true rfl) dX11_needWord_18 dX11_needWord_21 (Or.inr ⟨dX11_needWord_22, rfl⟩) dX11_needWord_25 dX11_needWord_28 (he (true, μ) (kbG_some h))
def f_KB_needWord (n : Nat) (a1 : Int32) (μ : kbM) : Option ((Bool × kbM) ⊕ (kbM)) :=
  if a1 < 0 then
    jn_KB_needWord_18 n μ
  else
    if a1 < (μ.1 13 4) then
      some (.inr μ)
    else
      jn_KB_needWord_18 n μ
theorem sp_KB_needWord {l : Launch} (hl : l.stackTraces = false) (n : Nat) (a1 : Int32) (μ : kbM) {x : (Bool × kbM) ⊕ (kbM)} (h : f_KB_needWord n a1 μ = some x) : kbSX l MX11_needWord 6 1 [.ref 0, .int a1] μ (fun r μ' => ∃ z, x = .inr z ∧ r = none ∧ μ' = z) (fun X μ' => ∃ z, x = .inl z ∧ X = kbXn z.1 ∧ μ' = z.2) := by
  refine kb_enterX 0 rfl rfl ?_
  suffices H : ∀ (Q : kbQt) (QX : kbXt) (P : (Bool × kbM) ⊕ (kbM) → Prop), (∀ z : kbM, P (.inr z) → Q none z) → (∀ z : Bool × kbM, P (.inl z) → QX (kbXn z.1) z.2) → kbG (f_KB_needWord n a1 μ) P → kbY l MX11_needWord [] (kbRmX 6 1) 0 0 (kbFx 1 Q QX) 0 [some (.ref 0), some (.int a1)] [] μ from H _ _ (fun z => z = x) (fun z e => ⟨z, e.symm, rfl, rfl⟩) (fun z e => ⟨z, e.symm, rfl, rfl⟩) ⟨x, h, rfl⟩
  clear h
  intro Q QX P hr he h
  unfold f_KB_needWord at h
  refine y_iload_n dX11_needWord_0 rfl ?_
  refine y_if_lt 18 dX11_needWord_1 (by decide) (fun hc => ?_) (fun hc => ?_)
  · replace h := kbG_t hc h
    refine y_le [none, none] trivial ?_
    exact jnR_KB_needWord_18 hl n μ hr he h
  · replace h := kbG_f hc h
    refine y_iload_n dX11_needWord_4 rfl ?_
    refine y_aload_n dX11_needWord_5 rfl ?_
    refine y_getR flX11_19 sh0 rfl dX11_needWord_6 ?_
    refine y_getR flX11_35 sh12 rfl dX11_needWord_9 ?_
    refine y_getI flX11_135 sh13 rfl dX11_needWord_12 ?_
    refine y_icmp_lt 29 dX11_needWord_15 (by decide) (fun hc => ?_) (fun hc => ?_)
    · replace h := kbG_t hc h
      exact y_vret rfl (Nat.le_of_ble_eq_true rfl) (Nat.le_of_ble_eq_true rfl) dX11_needWord_29 (hr μ (kbG_some h))
    · replace h := kbG_f hc h
      refine y_le [none, none] trivial ?_
      exact jnR_KB_needWord_18 hl n μ hr he h
def jn_KB_needDoor_15 (n : Nat) (μ : kbM) : Option ((Bool × kbM) ⊕ (kbM)) :=
  some (.inl (true, μ))
theorem jnR_KB_needDoor_15 {l : Launch} (hl : l.stackTraces = false) (n : Nat) (μ : kbM) {Q : kbQt} {QX : kbXt} {P : (Bool × kbM) ⊕ (kbM) → Prop} (hr : ∀ z : kbM, P (.inr z) → Q none z) (he : ∀ z : Bool × kbM, P (.inl z) → QX (kbXn z.1) z.2) (h : kbG (jn_KB_needDoor_15 n μ) P) : kbY l MX11_needDoor [] (kbRmX 6 1) 0 0 (kbFx 1 Q QX) 15 [none, none] [] μ := by
  unfold jn_KB_needDoor_15 at h
  exact y_throw hl rfl thN lsX11_360 ⟨(Nat.le_of_ble_eq_true rfl), (Nat.le_of_ble_eq_true rfl), (Nat.le_of_ble_eq_true rfl), (Nat.le_of_ble_eq_true rfl)⟩ (Nat.le_of_ble_eq_true rfl) (Nat.le_of_ble_eq_true rfl) dX11_needDoor_15 dX11_needDoor_18 (Or.inr ⟨dX11_needDoor_19, rfl⟩) dX11_needDoor_22 dX11_needDoor_25 (he (true, μ) (kbG_some h))
def f_KB_needDoor (n : Nat) (a1 : Int32) (μ : kbM) : Option ((Bool × kbM) ⊕ (kbM)) :=
  if a1 < 0 then
    jn_KB_needDoor_15 n μ
  else
    if a1 < (μ.1 32 2) then
      some (.inr μ)
    else
      jn_KB_needDoor_15 n μ
theorem sp_KB_needDoor {l : Launch} (hl : l.stackTraces = false) (n : Nat) (a1 : Int32) (μ : kbM) {x : (Bool × kbM) ⊕ (kbM)} (h : f_KB_needDoor n a1 μ = some x) : kbSX l MX11_needDoor 6 1 [.ref 0, .int a1] μ (fun r μ' => ∃ z, x = .inr z ∧ r = none ∧ μ' = z) (fun X μ' => ∃ z, x = .inl z ∧ X = kbXn z.1 ∧ μ' = z.2) := by
  refine kb_enterX 0 rfl rfl ?_
  suffices H : ∀ (Q : kbQt) (QX : kbXt) (P : (Bool × kbM) ⊕ (kbM) → Prop), (∀ z : kbM, P (.inr z) → Q none z) → (∀ z : Bool × kbM, P (.inl z) → QX (kbXn z.1) z.2) → kbG (f_KB_needDoor n a1 μ) P → kbY l MX11_needDoor [] (kbRmX 6 1) 0 0 (kbFx 1 Q QX) 0 [some (.ref 0), some (.int a1)] [] μ from H _ _ (fun z => z = x) (fun z e => ⟨z, e.symm, rfl, rfl⟩) (fun z e => ⟨z, e.symm, rfl, rfl⟩) ⟨x, h, rfl⟩
  clear h
  intro Q QX P hr he h
  unfold f_KB_needDoor at h
  refine y_iload_n dX11_needDoor_0 rfl ?_
  refine y_if_lt 15 dX11_needDoor_1 (by decide) (fun hc => ?_) (fun hc => ?_)
  · replace h := kbG_t hc h
    refine y_le [none, none] trivial ?_
    exact jnR_KB_needDoor_15 hl n μ hr he h
  · replace h := kbG_f hc h
    refine y_iload_n dX11_needDoor_4 rfl ?_
    refine y_aload_n dX11_needDoor_5 rfl ?_
    refine y_getR flX11_29 sh0 rfl dX11_needDoor_6 ?_
    refine y_getI flX11_140 sh32 rfl dX11_needDoor_9 ?_
    refine y_icmp_lt 26 dX11_needDoor_12 (by decide) (fun hc => ?_) (fun hc => ?_)
    · replace h := kbG_t hc h
      exact y_vret rfl (Nat.le_of_ble_eq_true rfl) (Nat.le_of_ble_eq_true rfl) dX11_needDoor_26 (hr μ (kbG_some h))
    · replace h := kbG_f hc h
      refine y_le [none, none] trivial ?_
      exact jnR_KB_needDoor_15 hl n μ hr he h
def jn_KB_needWhat_9 (n : Nat) (μ : kbM) : Option ((Bool × kbM) ⊕ (kbM)) :=
  some (.inl (true, μ))
theorem jnR_KB_needWhat_9 {l : Launch} (hl : l.stackTraces = false) (n : Nat) (μ : kbM) {Q : kbQt} {QX : kbXt} {P : (Bool × kbM) ⊕ (kbM) → Prop} (hr : ∀ z : kbM, P (.inr z) → Q none z) (he : ∀ z : Bool × kbM, P (.inl z) → QX (kbXn z.1) z.2) (h : kbG (jn_KB_needWhat_9 n μ) P) : kbY l MX11_needWhat [] (kbRmX 6 1) 0 0 (kbFx 1 Q QX) 9 [none, none] [] μ := by
  unfold jn_KB_needWhat_9 at h
  exact y_throw hl rfl thN lsX11_362 ⟨(Nat.le_of_ble_eq_true rfl), (Nat.le_of_ble_eq_true rfl), (Nat.le_of_ble_eq_true rfl), (Nat.le_of_ble_eq_true rfl)⟩ (Nat.le_of_ble_eq_true rfl) (Nat.le_of_ble_eq_true rfl) dX11_needWhat_9 dX11_needWhat_12 (Or.inr ⟨dX11_needWhat_13, rfl⟩) dX11_needWhat_16 dX11_needWhat_19 (he (true, μ) (kbG_some h))
def f_KB_needWhat (n : Nat) (a0 : Int32) (a1 : Int32) (μ : kbM) : Option ((Bool × kbM) ⊕ (kbM)) :=
  if a0 < 0 then
    jn_KB_needWhat_9 n μ
  else
    if a0 < a1 then
      some (.inr μ)
    else
      jn_KB_needWhat_9 n μ
theorem sp_KB_needWhat {l : Launch} (hl : l.stackTraces = false) (n : Nat) (a0 : Int32) (a1 : Int32) (μ : kbM) {x : (Bool × kbM) ⊕ (kbM)} (h : f_KB_needWhat n a0 a1 μ = some x) : kbSX l MX11_needWhat 6 1 [.int a0, .int a1] μ (fun r μ' => ∃ z, x = .inr z ∧ r = none ∧ μ' = z) (fun X μ' => ∃ z, x = .inl z ∧ X = kbXn z.1 ∧ μ' = z.2) := by
  refine kb_enterX 0 rfl rfl ?_
  suffices H : ∀ (Q : kbQt) (QX : kbXt) (P : (Bool × kbM) ⊕ (kbM) → Prop), (∀ z : kbM, P (.inr z) → Q none z) → (∀ z : Bool × kbM, P (.inl z) → QX (kbXn z.1) z.2) → kbG (f_KB_needWhat n a0 a1 μ) P → kbY l MX11_needWhat [] (kbRmX 6 1) 0 0 (kbFx 1 Q QX) 0 [some (.int a0), some (.int a1)] [] μ from H _ _ (fun z => z = x) (fun z e => ⟨z, e.symm, rfl, rfl⟩) (fun z e => ⟨z, e.symm, rfl, rfl⟩) ⟨x, h, rfl⟩
  clear h
  intro Q QX P hr he h
  unfold f_KB_needWhat at h
  refine y_iload_n dX11_needWhat_0 rfl ?_
  refine y_if_lt 9 dX11_needWhat_1 (by decide) (fun hc => ?_) (fun hc => ?_)
  · replace h := kbG_t hc h
    refine y_le [none, none] trivial ?_
    exact jnR_KB_needWhat_9 hl n μ hr he h
  · replace h := kbG_f hc h
    refine y_iload_n dX11_needWhat_4 rfl ?_
    refine y_iload_n dX11_needWhat_5 rfl ?_
    refine y_icmp_lt 20 dX11_needWhat_6 (by decide) (fun hc => ?_) (fun hc => ?_)
    · replace h := kbG_t hc h
      exact y_vret rfl (Nat.le_of_ble_eq_true rfl) (Nat.le_of_ble_eq_true rfl) dX11_needWhat_20 (hr μ (kbG_some h))
    · replace h := kbG_f hc h
      refine y_le [none, none] trivial ?_
      exact jnR_KB_needWhat_9 hl n μ hr he h
def f_KB_needRow (n : Nat) (a0 : Int32) (μ : kbM) : Option ((Bool × kbM) ⊕ (kbM)) :=
  (f_RO_isRow n a0).bind fun x1 =>
  if x1 = 0 then
    some (.inl (false, μ))
  else
    some (.inr μ)
theorem sp_KB_needRow {l : Launch} (hl : l.stackTraces = false) (n : Nat) (a0 : Int32) (μ : kbM) {x : (Bool × kbM) ⊕ (kbM)} (h : f_KB_needRow n a0 μ = some x) : kbSX l MX11_needRow 6 1 [.int a0] μ (fun r μ' => ∃ z, x = .inr z ∧ r = none ∧ μ' = z) (fun X μ' => ∃ z, x = .inl z ∧ X = kbXn z.1 ∧ μ' = z.2) := by
  refine kb_enterX 0 rfl rfl ?_
  suffices H : ∀ (Q : kbQt) (QX : kbXt) (P : (Bool × kbM) ⊕ (kbM) → Prop), (∀ z : kbM, P (.inr z) → Q none z) → (∀ z : Bool × kbM, P (.inl z) → QX (kbXn z.1) z.2) → kbG (f_KB_needRow n a0 μ) P → kbY l MX11_needRow [] (kbRmX 6 1) 0 0 (kbFx 1 Q QX) 0 [some (.int a0)] [] μ from H _ _ (fun z => z = x) (fun z e => ⟨z, e.symm, rfl, rfl⟩) (fun z e => ⟨z, e.symm, rfl, rfl⟩) ⟨x, h, rfl⟩
  clear h
  intro Q QX P hr he h
  unfold f_KB_needRow at h
  refine y_iload_n dX11_needRow_0 rfl ?_
  obtain ⟨x1, hx0, h⟩ := kbG_bind h
  refine y_inv_i csX11_235 (sp_RO_isRow n a0 μ hx0) rfl rfl (Nat.le_of_ble_eq_true rfl) ⟨(Nat.le_of_ble_eq_true rfl), (Nat.le_of_ble_eq_true rfl), (Nat.le_of_ble_eq_true rfl), (Nat.le_of_ble_eq_true rfl)⟩ dX11_needRow_1 ?_
  refine y_if_ne 18 dX11_needRow_4 (by decide) (fun hc => ?_) (fun hc => ?_)
  · replace h := kbG_f hc h
    exact y_vret rfl (Nat.le_of_ble_eq_true rfl) (Nat.le_of_ble_eq_true rfl) dX11_needRow_18 (hr μ (kbG_some h))
  · replace h := kbG_t hc h
    exact y_throw hl rfl thI lsX11_364 ⟨(Nat.le_of_ble_eq_true rfl), (Nat.le_of_ble_eq_true rfl), (Nat.le_of_ble_eq_true rfl), (Nat.le_of_ble_eq_true rfl)⟩ (Nat.le_of_ble_eq_true rfl) (Nat.le_of_ble_eq_true rfl) dX11_needRow_7 dX11_needRow_10 (Or.inr ⟨dX11_needRow_11, rfl⟩) dX11_needRow_14 dX11_needRow_17 (he (false, μ) (kbG_some h))
def jn_KB_book_15 (n : Nat) (μ : kbM) : Option ((Bool × kbM) ⊕ (Int32 × kbM)) :=
  some (.inl (false, μ))
theorem jnR_KB_book_15 {l : Launch} (hl : l.stackTraces = false) (n : Nat) (μ : kbM) {Q : kbQt} {QX : kbXt} {P : (Bool × kbM) ⊕ (Int32 × kbM) → Prop} (hr : ∀ z : Int32 × kbM, P (.inr z) → Q (some (.int z.1)) z.2) (he : ∀ z : Bool × kbM, P (.inl z) → QX (kbXn z.1) z.2) (h : kbG (jn_KB_book_15 n μ) P) : kbY l MX11_book [] (kbRmX 108 1) 0 0 (kbFx 1 Q QX) 15 [none, none, none] [] μ := by
  unfold jn_KB_book_15 at h
  exact y_throw hl rfl thI lsX11_97 ⟨(Nat.le_of_ble_eq_true rfl), (Nat.le_of_ble_eq_true rfl), (Nat.le_of_ble_eq_true rfl), (Nat.le_of_ble_eq_true rfl)⟩ (Nat.le_of_ble_eq_true rfl) (Nat.le_of_ble_eq_true rfl) dX11_book_15 dX11_book_18 (Or.inl ⟨dX11_book_19, rfl⟩) dX11_book_21 dX11_book_24 (he (false, μ) (kbG_some h))
def f_KB_book (n : Nat) (a1 : Int32) (μ : kbM) : Option ((Bool × kbM) ⊕ (Int32 × kbM)) :=
  if a1 < 0 then
    jn_KB_book_15 n μ
  else
    if a1 ≤ (μ.1 1 4) then
      (f_BT_parse n a1 μ).bind fun x1 =>
      if x1.1 = 0 then
        (f_ST_begin_12_3 x1.2).bind fun x2 =>
        (f_DO_copyFrom_32_8 x2).bind fun x3 =>
        (f_JO_adopt_11 (x3.1 1 5) x3).bind fun x4 =>
        some (.inr ((0, kbW x4 0 10 0)))
      else
        some (.inr ((x1.1, kbW x1.2 21 0 ((x1.2.1 21 0) + 1))))
    else
      jn_KB_book_15 n μ
theorem sp_KB_book {l : Launch} (hl : l.stackTraces = false) (n : Nat) (a1 : Int32) (μ : kbM) {x : (Bool × kbM) ⊕ (Int32 × kbM)} (h : f_KB_book n a1 μ = some x) : kbSX l MX11_book 108 1 [.ref 0, .int a1] μ (fun r μ' => ∃ z, x = .inr z ∧ r = (some (.int z.1)) ∧ μ' = z.2) (fun X μ' => ∃ z, x = .inl z ∧ X = kbXn z.1 ∧ μ' = z.2) := by
  refine kb_enterX 1 rfl rfl ?_
  suffices H : ∀ (Q : kbQt) (QX : kbXt) (P : (Bool × kbM) ⊕ (Int32 × kbM) → Prop), (∀ z : Int32 × kbM, P (.inr z) → Q (some (.int z.1)) z.2) → (∀ z : Bool × kbM, P (.inl z) → QX (kbXn z.1) z.2) → kbG (f_KB_book n a1 μ) P → kbY l MX11_book [] (kbRmX 108 1) 0 0 (kbFx 1 Q QX) 0 [some (.ref 0), some (.int a1), none] [] μ from H _ _ (fun z => z = x) (fun z e => ⟨z, e.symm, rfl, rfl⟩) (fun z e => ⟨z, e.symm, rfl, rfl⟩) ⟨x, h, rfl⟩
  clear h
  intro Q QX P hr he h
  unfold f_KB_book at h
  refine y_iload_n dX11_book_0 rfl ?_
  refine y_if_lt 15 dX11_book_1 (by decide) (fun hc => ?_) (fun hc => ?_)
  · replace h := kbG_t hc h
    refine y_le [none, none, none] trivial ?_
    exact jnR_KB_book_15 hl n μ hr he h
  · replace h := kbG_f hc h
    refine y_iload_n dX11_book_4 rfl ?_
    refine y_aload_n dX11_book_5 rfl ?_
    refine y_getR flX11_10 sh0 rfl dX11_book_6 ?_
    refine y_getI flX11_87 sh1 rfl dX11_book_9 ?_
    refine y_icmp_le 25 dX11_book_12 (by decide) (fun hc => ?_) (fun hc => ?_)
    · replace h := kbG_t hc h
      refine y_aload_n dX11_book_25 rfl ?_
      refine y_getR flX11_10 sh0 rfl dX11_book_26 ?_
      refine y_iload_n dX11_book_29 rfl ?_
      obtain ⟨x1, hx0, h⟩ := kbG_bind h
      refine y_invV_i cvX11_102 sh1 rfl (sp_BT_parse n a1 μ hx0) rfl rfl (Nat.le_of_ble_eq_true rfl) ⟨(Nat.le_of_ble_eq_true rfl), (Nat.le_of_ble_eq_true rfl), (Nat.le_of_ble_eq_true rfl), (Nat.le_of_ble_eq_true rfl)⟩ dX11_book_30 ?_
      refine y_istore_n dX11_book_33 (Nat.le_of_ble_eq_true rfl) rfl ?_
      refine y_iload_n dX11_book_34 rfl ?_
      refine y_if_eq 53 dX11_book_35 (by decide) (fun hc => ?_) (fun hc => ?_)
      · replace h := kbG_t hc h
        refine y_aload_n dX11_book_53 rfl ?_
        refine y_getR flX11_19 sh0 rfl dX11_book_54 ?_
        refine y_aload_n dX11_book_57 rfl ?_
        refine y_getR flX11_10 sh0 rfl dX11_book_58 ?_
        refine y_getR flX11_110 sh1 rfl dX11_book_61 ?_
        obtain ⟨x2, hx0, h⟩ := kbG_bind h
        refine y_invV_v cvX11_111 sh12 rfl (sp_ST_begin_12_3 x1.2 hx0) rfl rfl (Nat.le_of_ble_eq_true rfl) ⟨(Nat.le_of_ble_eq_true rfl), (Nat.le_of_ble_eq_true rfl), (Nat.le_of_ble_eq_true rfl), (Nat.le_of_ble_eq_true rfl)⟩ dX11_book_64 ?_
        refine y_aload_n dX11_book_67 rfl ?_
        refine y_getR flX11_29 sh0 rfl dX11_book_68 ?_
        refine y_aload_n dX11_book_71 rfl ?_
        refine y_getR flX11_10 sh0 rfl dX11_book_72 ?_
        refine y_getR flX11_114 sh1 rfl dX11_book_75 ?_
        obtain ⟨x3, hx0, h⟩ := kbG_bind h
        refine y_invV_v cvX11_115 sh32 rfl (sp_DO_copyFrom_32_8 x2 hx0) rfl rfl (Nat.le_of_ble_eq_true rfl) ⟨(Nat.le_of_ble_eq_true rfl), (Nat.le_of_ble_eq_true rfl), (Nat.le_of_ble_eq_true rfl), (Nat.le_of_ble_eq_true rfl)⟩ dX11_book_78 ?_
        refine y_aload_n dX11_book_81 rfl ?_
        refine y_getR flX11_42 sh0 rfl dX11_book_82 ?_
        refine y_aload_n dX11_book_85 rfl ?_
        refine y_getR flX11_10 sh0 rfl dX11_book_86 ?_
        refine y_getR flX11_119 sh1 rfl dX11_book_89 ?_
        refine y_aload_n dX11_book_92 rfl ?_
        refine y_getR flX11_10 sh0 rfl dX11_book_93 ?_
        refine y_getI flX11_122 sh1 rfl dX11_book_96 ?_
        obtain ⟨x4, hx0, h⟩ := kbG_bind h
        refine y_invV_v cvX11_124 sh35 rfl (sp_JO_adopt_11 (x3.1 1 5) x3 hx0) rfl rfl (Nat.le_of_ble_eq_true rfl) ⟨(Nat.le_of_ble_eq_true rfl), (Nat.le_of_ble_eq_true rfl), (Nat.le_of_ble_eq_true rfl), (Nat.le_of_ble_eq_true rfl)⟩ dX11_book_99 ?_
        refine y_aload_n dX11_book_102 rfl ?_
        refine y_iconst 0 dX11_book_103 (by decide) ?_
        refine y_put flX11_128 sh0 rfl rfl rfl dX11_book_104 ?_
        refine y_iconst 0 dX11_book_107 (by decide) ?_
        exact y_iret rfl (Nat.le_of_ble_eq_true rfl) (Nat.le_of_ble_eq_true rfl) dX11_book_108 (hr ((0, kbW x4 0 10 0)) (kbG_some h))
      · replace h := kbG_f hc h
        refine y_aload_n dX11_book_38 rfl ?_
        refine y_getR flX11_19 sh0 rfl dX11_book_39 ?_
        refine y_getR flX11_106 sh12 rfl dX11_book_42 ?_
        refine y_iconst 0 dX11_book_45 (by decide) ?_
        refine y_dup2 dX11_book_46 rfl rfl ?_
        have hin : vp_in 0 3 := kbIn_of (by decide)
        refine yq_iald 0 (by decide) sh21 hin dX11_book_47 ?_
        refine y_iconst 1 dX11_book_48 (by decide) ?_
        refine y_iadd dX11_book_49 ?_
        have hin : vp_in 0 3 := kbIn_of (by decide)
        refine yq_iast 0 (by decide) sh21 hin dX11_book_50 ?_
        refine y_iload_n dX11_book_51 rfl ?_
        exact y_iret rfl (Nat.le_of_ble_eq_true rfl) (Nat.le_of_ble_eq_true rfl) dX11_book_52 (hr ((x1.1, kbW x1.2 21 0 ((x1.2.1 21 0) + 1))) (kbG_some h))
    · replace h := kbG_f hc h
      refine y_le [none, none, none] trivial ?_
      exact jnR_KB_book_15 hl n μ hr he h
def f_KB_count (n : Nat) (a1 : Int32) (μ : kbM) : Option ((Bool × kbM) ⊕ (Int32 × kbM)) :=
  if a1 = 0 then
    some (.inr ((μ.1 13 4, μ)))
  else if a1 = 1 then
    some (.inr ((μ.1 32 2, μ)))
  else if a1 = 2 then
    some (.inr ((μ.1 12 7, μ)))
  else if a1 = 3 then
    (f_WO_worthOfAll_13 n μ).bind fun x1 =>
    some (.inr ((x1, μ)))
  else if a1 = 4 then
    (f_WO_soundsOfAll_13 n μ).bind fun x2 =>
    some (.inr ((x2, μ)))
  else if a1 = 5 then
    some (.inr ((μ.1 12 5, μ)))
  else if a1 = 6 then
    some (.inr ((μ.1 12 6, μ)))
  else if a1 = 7 then
    some (.inr ((μ.1 1 4, μ)))
  else if a1 = 8 then
    some (.inr ((μ.1 21 0, μ)))
  else if a1 = 9 then
    some (.inr ((μ.1 21 1, μ)))
  else if a1 = 10 then
    some (.inr ((μ.1 21 2, μ)))
  else
    some (.inl (true, μ))
theorem sp_KB_count {l : Launch} (hl : l.stackTraces = false) (n : Nat) (a1 : Int32) (μ : kbM) {x : (Bool × kbM) ⊕ (Int32 × kbM)} (h : f_KB_count n a1 μ = some x) : kbSX l MX11_count 6 1 [.ref 0, .int a1] μ (fun r μ' => ∃ z, x = .inr z ∧ r = (some (.int z.1)) ∧ μ' = z.2) (fun X μ' => ∃ z, x = .inl z ∧ X = kbXn z.1 ∧ μ' = z.2) := by
  refine kb_enterX 0 rfl rfl ?_
  suffices H : ∀ (Q : kbQt) (QX : kbXt) (P : (Bool × kbM) ⊕ (Int32 × kbM) → Prop), (∀ z : Int32 × kbM, P (.inr z) → Q (some (.int z.1)) z.2) → (∀ z : Bool × kbM, P (.inl z) → QX (kbXn z.1) z.2) → kbG (f_KB_count n a1 μ) P → kbY l MX11_count [] (kbRmX 6 1) 0 0 (kbFx 1 Q QX) 0 [some (.ref 0), some (.int a1)] [] μ from H _ _ (fun z => z = x) (fun z e => ⟨z, e.symm, rfl, rfl⟩) (fun z e => ⟨z, e.symm, rfl, rfl⟩) ⟨x, h, rfl⟩
  clear h
  intro Q QX P hr he h
  unfold f_KB_count at h
  refine y_iload_n dX11_count_0 rfl ?_
  by_cases hc0 : a1 = 0
  · replace h := kbG_t hc0 h
    refine y_tabIn 60 dX11_count_1 (by rw [hc0]; decide) (by rw [hc0]; decide) (by rw [hc0]; rfl) (by decide) ?_
    refine y_aload_n dX11_count_60 rfl ?_
    refine y_getR flX11_19 sh0 rfl dX11_count_61 ?_
    refine y_getR flX11_35 sh12 rfl dX11_count_64 ?_
    refine y_getI flX11_135 sh13 rfl dX11_count_67 ?_
    exact y_iret rfl (Nat.le_of_ble_eq_true rfl) (Nat.le_of_ble_eq_true rfl) dX11_count_70 (hr ((μ.1 13 4, μ)) (kbG_some h))
  replace h := kbG_f hc0 h
  by_cases hc1 : a1 = 1
  · replace h := kbG_t hc1 h
    refine y_tabIn 71 dX11_count_1 (by rw [hc1]; decide) (by rw [hc1]; decide) (by rw [hc1]; rfl) (by decide) ?_
    refine y_aload_n dX11_count_71 rfl ?_
    refine y_getR flX11_29 sh0 rfl dX11_count_72 ?_
    refine y_getI flX11_140 sh32 rfl dX11_count_75 ?_
    exact y_iret rfl (Nat.le_of_ble_eq_true rfl) (Nat.le_of_ble_eq_true rfl) dX11_count_78 (hr ((μ.1 32 2, μ)) (kbG_some h))
  replace h := kbG_f hc1 h
  by_cases hc2 : a1 = 2
  · replace h := kbG_t hc2 h
    refine y_tabIn 79 dX11_count_1 (by rw [hc2]; decide) (by rw [hc2]; decide) (by rw [hc2]; rfl) (by decide) ?_
    refine y_aload_n dX11_count_79 rfl ?_
    refine y_getR flX11_19 sh0 rfl dX11_count_80 ?_
    refine y_getI flX11_141 sh12 rfl dX11_count_83 ?_
    exact y_iret rfl (Nat.le_of_ble_eq_true rfl) (Nat.le_of_ble_eq_true rfl) dX11_count_86 (hr ((μ.1 12 7, μ)) (kbG_some h))
  replace h := kbG_f hc2 h
  by_cases hc3 : a1 = 3
  · replace h := kbG_t hc3 h
    refine y_tabIn 87 dX11_count_1 (by rw [hc3]; decide) (by rw [hc3]; decide) (by rw [hc3]; rfl) (by decide) ?_
    refine y_aload_n dX11_count_87 rfl ?_
    refine y_getR flX11_19 sh0 rfl dX11_count_88 ?_
    refine y_getR flX11_35 sh12 rfl dX11_count_91 ?_
    obtain ⟨x1, hx0, h⟩ := kbG_bind h
    refine y_invV_i cvX11_144 sh13 rfl (sp_WO_worthOfAll_13 n μ hx0) rfl rfl (Nat.le_of_ble_eq_true rfl) ⟨(Nat.le_of_ble_eq_true rfl), (Nat.le_of_ble_eq_true rfl), (Nat.le_of_ble_eq_true rfl), (Nat.le_of_ble_eq_true rfl)⟩ dX11_count_94 ?_
    exact y_iret rfl (Nat.le_of_ble_eq_true rfl) (Nat.le_of_ble_eq_true rfl) dX11_count_97 (hr ((x1, μ)) (kbG_some h))
  replace h := kbG_f hc3 h
  by_cases hc4 : a1 = 4
  · replace h := kbG_t hc4 h
    refine y_tabIn 98 dX11_count_1 (by rw [hc4]; decide) (by rw [hc4]; decide) (by rw [hc4]; rfl) (by decide) ?_
    refine y_aload_n dX11_count_98 rfl ?_
    refine y_getR flX11_19 sh0 rfl dX11_count_99 ?_
    refine y_getR flX11_35 sh12 rfl dX11_count_102 ?_
    obtain ⟨x2, hx0, h⟩ := kbG_bind h
    refine y_invV_i cvX11_148 sh13 rfl (sp_WO_soundsOfAll_13 n μ hx0) rfl rfl (Nat.le_of_ble_eq_true rfl) ⟨(Nat.le_of_ble_eq_true rfl), (Nat.le_of_ble_eq_true rfl), (Nat.le_of_ble_eq_true rfl), (Nat.le_of_ble_eq_true rfl)⟩ dX11_count_105 ?_
    exact y_iret rfl (Nat.le_of_ble_eq_true rfl) (Nat.le_of_ble_eq_true rfl) dX11_count_108 (hr ((x2, μ)) (kbG_some h))
  replace h := kbG_f hc4 h
  by_cases hc5 : a1 = 5
  · replace h := kbG_t hc5 h
    refine y_tabIn 109 dX11_count_1 (by rw [hc5]; decide) (by rw [hc5]; decide) (by rw [hc5]; rfl) (by decide) ?_
    refine y_aload_n dX11_count_109 rfl ?_
    refine y_getR flX11_19 sh0 rfl dX11_count_110 ?_
    refine y_getI flX11_151 sh12 rfl dX11_count_113 ?_
    exact y_iret rfl (Nat.le_of_ble_eq_true rfl) (Nat.le_of_ble_eq_true rfl) dX11_count_116 (hr ((μ.1 12 5, μ)) (kbG_some h))
  replace h := kbG_f hc5 h
  by_cases hc6 : a1 = 6
  · replace h := kbG_t hc6 h
    refine y_tabIn 117 dX11_count_1 (by rw [hc6]; decide) (by rw [hc6]; decide) (by rw [hc6]; rfl) (by decide) ?_
    refine y_aload_n dX11_count_117 rfl ?_
    refine y_getR flX11_19 sh0 rfl dX11_count_118 ?_
    refine y_getI flX11_154 sh12 rfl dX11_count_121 ?_
    exact y_iret rfl (Nat.le_of_ble_eq_true rfl) (Nat.le_of_ble_eq_true rfl) dX11_count_124 (hr ((μ.1 12 6, μ)) (kbG_some h))
  replace h := kbG_f hc6 h
  by_cases hc7 : a1 = 7
  · replace h := kbG_t hc7 h
    refine y_tabIn 125 dX11_count_1 (by rw [hc7]; decide) (by rw [hc7]; decide) (by rw [hc7]; rfl) (by decide) ?_
    refine y_aload_n dX11_count_125 rfl ?_
    refine y_getR flX11_10 sh0 rfl dX11_count_126 ?_
    refine y_getI flX11_87 sh1 rfl dX11_count_129 ?_
    exact y_iret rfl (Nat.le_of_ble_eq_true rfl) (Nat.le_of_ble_eq_true rfl) dX11_count_132 (hr ((μ.1 1 4, μ)) (kbG_some h))
  replace h := kbG_f hc7 h
  by_cases hc8 : a1 = 8
  · replace h := kbG_t hc8 h
    refine y_tabIn 133 dX11_count_1 (by rw [hc8]; decide) (by rw [hc8]; decide) (by rw [hc8]; rfl) (by decide) ?_
    refine y_aload_n dX11_count_133 rfl ?_
    refine y_getR flX11_19 sh0 rfl dX11_count_134 ?_
    refine y_getR flX11_106 sh12 rfl dX11_count_137 ?_
    refine y_iconst 0 dX11_count_140 (by decide) ?_
    have hin : vp_in 0 3 := kbIn_of (by decide)
    refine yq_iald 0 (by decide) sh21 hin dX11_count_141 ?_
    exact y_iret rfl (Nat.le_of_ble_eq_true rfl) (Nat.le_of_ble_eq_true rfl) dX11_count_142 (hr ((μ.1 21 0, μ)) (kbG_some h))
  replace h := kbG_f hc8 h
  by_cases hc9 : a1 = 9
  · replace h := kbG_t hc9 h
    refine y_tabIn 143 dX11_count_1 (by rw [hc9]; decide) (by rw [hc9]; decide) (by rw [hc9]; rfl) (by decide) ?_
    refine y_aload_n dX11_count_143 rfl ?_
    refine y_getR flX11_19 sh0 rfl dX11_count_144 ?_
    refine y_getR flX11_106 sh12 rfl dX11_count_147 ?_
    refine y_iconst 1 dX11_count_150 (by decide) ?_
    have hin : vp_in 1 3 := kbIn_of (by decide)
    refine yq_iald 1 (by decide) sh21 hin dX11_count_151 ?_
    exact y_iret rfl (Nat.le_of_ble_eq_true rfl) (Nat.le_of_ble_eq_true rfl) dX11_count_152 (hr ((μ.1 21 1, μ)) (kbG_some h))
  replace h := kbG_f hc9 h
  by_cases hc10 : a1 = 10
  · replace h := kbG_t hc10 h
    refine y_tabIn 153 dX11_count_1 (by rw [hc10]; decide) (by rw [hc10]; decide) (by rw [hc10]; rfl) (by decide) ?_
    refine y_aload_n dX11_count_153 rfl ?_
    refine y_getR flX11_19 sh0 rfl dX11_count_154 ?_
    refine y_getR flX11_106 sh12 rfl dX11_count_157 ?_
    refine y_iconst 2 dX11_count_160 (by decide) ?_
    have hin : vp_in 2 3 := kbIn_of (by decide)
    refine yq_iald 2 (by decide) sh21 hin dX11_count_161 ?_
    exact y_iret rfl (Nat.le_of_ble_eq_true rfl) (Nat.le_of_ble_eq_true rfl) dX11_count_162 (hr ((μ.1 21 2, μ)) (kbG_some h))
  replace h := kbG_f hc10 h
  have hD : kbY l MX11_count [] (kbRmX 6 1) 0 0 (kbFx 1 Q QX) 163 [some (.ref 0), some (.int a1)] [] μ := by
    exact y_throw hl rfl thN lsX11_159 ⟨(Nat.le_of_ble_eq_true rfl), (Nat.le_of_ble_eq_true rfl), (Nat.le_of_ble_eq_true rfl), (Nat.le_of_ble_eq_true rfl)⟩ (Nat.le_of_ble_eq_true rfl) (Nat.le_of_ble_eq_true rfl) dX11_count_163 dX11_count_166 (Or.inl ⟨dX11_count_167, rfl⟩) dX11_count_169 dX11_count_172 (he (true, μ) (kbG_some h))
  exact y_tabOut 163 dX11_count_1 (kb_out fun q q1 q2 => by
    have hq : q = 0 ∨ q = 1 ∨ q = 2 ∨ q = 3 ∨ q = 4 ∨ q = 5 ∨ q = 6 ∨ q = 7 ∨ q = 8 ∨ q = 9 ∨ q = 10 := by omega
    rcases hq with rfl | rfl | rfl | rfl | rfl | rfl | rfl | rfl | rfl | rfl | rfl
    · exact hc0
    · exact hc1
    · exact hc2
    · exact hc3
    · exact hc4
    · exact hc5
    · exact hc6
    · exact hc7
    · exact hc8
    · exact hc9
    · exact hc10) (by decide) hD
def f_KB_word (n : Nat) (a1 : Int32) (a2 : Int32) (μ : kbM) : Option ((Bool × kbM) ⊕ (Int32 × kbM)) :=
  kbOr (f_KB_needWord n a1 μ) (fun r2 => some (.inl r2)) fun x1 =>
  if a2 = 0 then
    kbIf (kbIn a1 10) <|
    some (.inr ((x1.1 14 a1.toNatClampNeg, x1)))
  else if a2 = 1 then
    kbIf (kbIn a1 10) <|
    some (.inr ((x1.1 15 a1.toNatClampNeg, x1)))
  else if a2 = 2 then
    kbIf (kbIn a1 10) <|
    some (.inr ((x1.1 16 a1.toNatClampNeg, x1)))
  else if a2 = 3 then
    kbIf (kbIn a1 10) <|
    some (.inr ((x1.1 17 a1.toNatClampNeg, x1)))
  else if a2 = 4 then
    (f_HO_doorsThatCan n a1 x1).bind fun x3 =>
    some (.inr ((x3, x1)))
  else
    some (.inl (true, x1))
theorem sp_KB_word {l : Launch} (hl : l.stackTraces = false) (n : Nat) (a1 : Int32) (a2 : Int32) (μ : kbM) {x : (Bool × kbM) ⊕ (Int32 × kbM)} (h : f_KB_word n a1 a2 μ = some x) : kbSX l MX11_word 7 2 [.ref 0, .int a1, .int a2] μ (fun r μ' => ∃ z, x = .inr z ∧ r = (some (.int z.1)) ∧ μ' = z.2) (fun X μ' => ∃ z, x = .inl z ∧ X = kbXn z.1 ∧ μ' = z.2) := by
  refine kb_enterX 0 rfl rfl ?_
  suffices H : ∀ (Q : kbQt) (QX : kbXt) (P : (Bool × kbM) ⊕ (Int32 × kbM) → Prop), (∀ z : Int32 × kbM, P (.inr z) → Q (some (.int z.1)) z.2) → (∀ z : Bool × kbM, P (.inl z) → QX (kbXn z.1) z.2) → kbG (f_KB_word n a1 a2 μ) P → kbY l MX11_word [] (kbRmX 7 2) 0 0 (kbFx 2 Q QX) 0 [some (.ref 0), some (.int a1), some (.int a2)] [] μ from H _ _ (fun z => z = x) (fun z e => ⟨z, e.symm, rfl, rfl⟩) (fun z e => ⟨z, e.symm, rfl, rfl⟩) ⟨x, h, rfl⟩
  clear h
  intro Q QX P hr he h
  unfold f_KB_word at h
  refine y_aload_n dX11_word_0 rfl ?_
  refine y_iload_n dX11_word_1 rfl ?_
  rcases kbG_or h with ⟨r2, hx0, h⟩ | ⟨x1, hx0, h⟩
  · refine y_invVX cvX11_162 sh0 rfl (sp_KB_needWord hl n a1 μ hx0) rfl rfl (Nat.le_of_ble_eq_true rfl) ⟨(Nat.le_of_ble_eq_true rfl), (Nat.le_of_ble_eq_true rfl), (Nat.le_of_ble_eq_true rfl), (Nat.le_of_ble_eq_true rfl)⟩ dX11_word_2 (fun r μ' e => ?_) (fun X μ' e => ?_)
    · obtain ⟨z, e, _⟩ := e; cases e
    · obtain ⟨z, e, rfl, rfl⟩ := e; cases e; exact y_out (Nat.le_of_ble_eq_true rfl) (Nat.le_of_ble_eq_true rfl) (he r2 (kbG_some h))
  refine y_invVX cvX11_162 sh0 rfl (sp_KB_needWord hl n a1 μ hx0) rfl rfl (Nat.le_of_ble_eq_true rfl) ⟨(Nat.le_of_ble_eq_true rfl), (Nat.le_of_ble_eq_true rfl), (Nat.le_of_ble_eq_true rfl), (Nat.le_of_ble_eq_true rfl)⟩ dX11_word_2 (fun r μ' e => ?_) (fun X μ' e => ?_)
  · obtain ⟨z, e, rfl, rfl⟩ := e; cases e
    refine y_iload_n dX11_word_5 rfl ?_
    by_cases hc0 : a2 = 0
    · replace h := kbG_t hc0 h
      refine y_tabIn 40 dX11_word_6 (by rw [hc0]; decide) (by rw [hc0]; decide) (by rw [hc0]; rfl) (by decide) ?_
      refine y_aload_n dX11_word_40 rfl ?_
      refine y_getR flX11_19 sh0 rfl dX11_word_41 ?_
      refine y_getR flX11_35 sh12 rfl dX11_word_44 ?_
      refine y_getR flX11_165 sh13 rfl dX11_word_47 ?_
      refine y_iload_n dX11_word_50 rfl ?_
      obtain ⟨hin, h⟩ := kbG_if h
      replace hin := kbIn_of hin
      refine yq_iald a1.toNatClampNeg rfl sh14 hin dX11_word_51 ?_
      exact y_iret rfl (Nat.le_of_ble_eq_true rfl) (Nat.le_of_ble_eq_true rfl) dX11_word_52 (hr ((x1.1 14 a1.toNatClampNeg, x1)) (kbG_some h))
    replace h := kbG_f hc0 h
    by_cases hc1 : a2 = 1
    · replace h := kbG_t hc1 h
      refine y_tabIn 53 dX11_word_6 (by rw [hc1]; decide) (by rw [hc1]; decide) (by rw [hc1]; rfl) (by decide) ?_
      refine y_aload_n dX11_word_53 rfl ?_
      refine y_getR flX11_19 sh0 rfl dX11_word_54 ?_
      refine y_getR flX11_35 sh12 rfl dX11_word_57 ?_
      refine y_getR flX11_168 sh13 rfl dX11_word_60 ?_
      refine y_iload_n dX11_word_63 rfl ?_
      obtain ⟨hin, h⟩ := kbG_if h
      replace hin := kbIn_of hin
      refine yq_iald a1.toNatClampNeg rfl sh15 hin dX11_word_64 ?_
      exact y_iret rfl (Nat.le_of_ble_eq_true rfl) (Nat.le_of_ble_eq_true rfl) dX11_word_65 (hr ((x1.1 15 a1.toNatClampNeg, x1)) (kbG_some h))
    replace h := kbG_f hc1 h
    by_cases hc2 : a2 = 2
    · replace h := kbG_t hc2 h
      refine y_tabIn 66 dX11_word_6 (by rw [hc2]; decide) (by rw [hc2]; decide) (by rw [hc2]; rfl) (by decide) ?_
      refine y_aload_n dX11_word_66 rfl ?_
      refine y_getR flX11_19 sh0 rfl dX11_word_67 ?_
      refine y_getR flX11_35 sh12 rfl dX11_word_70 ?_
      refine y_getR flX11_171 sh13 rfl dX11_word_73 ?_
      refine y_iload_n dX11_word_76 rfl ?_
      obtain ⟨hin, h⟩ := kbG_if h
      replace hin := kbIn_of hin
      refine yq_iald a1.toNatClampNeg rfl sh16 hin dX11_word_77 ?_
      exact y_iret rfl (Nat.le_of_ble_eq_true rfl) (Nat.le_of_ble_eq_true rfl) dX11_word_78 (hr ((x1.1 16 a1.toNatClampNeg, x1)) (kbG_some h))
    replace h := kbG_f hc2 h
    by_cases hc3 : a2 = 3
    · replace h := kbG_t hc3 h
      refine y_tabIn 79 dX11_word_6 (by rw [hc3]; decide) (by rw [hc3]; decide) (by rw [hc3]; rfl) (by decide) ?_
      refine y_aload_n dX11_word_79 rfl ?_
      refine y_getR flX11_19 sh0 rfl dX11_word_80 ?_
      refine y_getR flX11_35 sh12 rfl dX11_word_83 ?_
      refine y_getR flX11_174 sh13 rfl dX11_word_86 ?_
      refine y_iload_n dX11_word_89 rfl ?_
      obtain ⟨hin, h⟩ := kbG_if h
      replace hin := kbIn_of hin
      refine yq_iald a1.toNatClampNeg rfl sh17 hin dX11_word_90 ?_
      exact y_iret rfl (Nat.le_of_ble_eq_true rfl) (Nat.le_of_ble_eq_true rfl) dX11_word_91 (hr ((x1.1 17 a1.toNatClampNeg, x1)) (kbG_some h))
    replace h := kbG_f hc3 h
    by_cases hc4 : a2 = 4
    · replace h := kbG_t hc4 h
      refine y_tabIn 92 dX11_word_6 (by rw [hc4]; decide) (by rw [hc4]; decide) (by rw [hc4]; rfl) (by decide) ?_
      refine y_aload_n dX11_word_92 rfl ?_
      refine y_getR flX11_74 sh0 rfl dX11_word_93 ?_
      refine y_iload_n dX11_word_96 rfl ?_
      obtain ⟨x3, hx0, h⟩ := kbG_bind h
      refine y_invV_i cvX11_177 sh51 rfl (sp_HO_doorsThatCan n a1 x1 hx0) rfl rfl (Nat.le_of_ble_eq_true rfl) ⟨(Nat.le_of_ble_eq_true rfl), (Nat.le_of_ble_eq_true rfl), (Nat.le_of_ble_eq_true rfl), (Nat.le_of_ble_eq_true rfl)⟩ dX11_word_97 ?_
      exact y_iret rfl (Nat.le_of_ble_eq_true rfl) (Nat.le_of_ble_eq_true rfl) dX11_word_100 (hr ((x3, x1)) (kbG_some h))
    replace h := kbG_f hc4 h
    have hD : kbY l MX11_word [] (kbRmX 7 2) 1 6 (kbFx 2 Q QX) 101 [some (.ref 0), some (.int a1), some (.int a2)] [] x1 := by
      exact y_throw hl rfl thN lsX11_180 ⟨(Nat.le_of_ble_eq_true rfl), (Nat.le_of_ble_eq_true rfl), (Nat.le_of_ble_eq_true rfl), (Nat.le_of_ble_eq_true rfl)⟩ (Nat.le_of_ble_eq_true rfl) (Nat.le_of_ble_eq_true rfl) dX11_word_101 dX11_word_104 (Or.inl ⟨dX11_word_105, rfl⟩) dX11_word_107 dX11_word_110 (he (true, x1) (kbG_some h))
    exact y_tabOut 101 dX11_word_6 (kb_out fun q q1 q2 => by
      have hq : q = 0 ∨ q = 1 ∨ q = 2 ∨ q = 3 ∨ q = 4 := by omega
      rcases hq with rfl | rfl | rfl | rfl | rfl
      · exact hc0
      · exact hc1
      · exact hc2
      · exact hc3
      · exact hc4) (by decide) hD
  · obtain ⟨z, e, _⟩ := e; cases e
def jn_KB_door_76 (n : Nat) (w0 : Int32) (μ : kbM) : Option ((Bool × kbM) ⊕ (Int32 × kbM)) :=
  some (.inr ((w0, μ)))
theorem jnR_KB_door_76 {l : Launch} (hl : l.stackTraces = false) (n : Nat) (w0 : Int32) (μ : kbM) {Q : kbQt} {QX : kbXt} {P : (Bool × kbM) ⊕ (Int32 × kbM) → Prop} (hr : ∀ z : Int32 × kbM, P (.inr z) → Q (some (.int z.1)) z.2) (he : ∀ z : Bool × kbM, P (.inl z) → QX (kbXn z.1) z.2) (h : kbG (jn_KB_door_76 n w0 μ) P) : kbY l MX11_door [] (kbRmX 7 2) 1 6 (kbFx 2 Q QX) 76 [none, none, none] [.int w0] μ := by
  unfold jn_KB_door_76 at h
  exact y_iret rfl (Nat.le_of_ble_eq_true rfl) (Nat.le_of_ble_eq_true rfl) dX11_door_76 (hr ((w0, μ)) (kbG_some h))
def f_KB_door (n : Nat) (a1 : Int32) (a2 : Int32) (μ : kbM) : Option ((Bool × kbM) ⊕ (Int32 × kbM)) :=
  kbOr (f_KB_needDoor n a1 μ) (fun r2 => some (.inl r2)) fun x1 =>
  if a2 = 0 then
    kbIf (kbIn a1 6) <|
    some (.inr ((x1.1 33 a1.toNatClampNeg, x1)))
  else if a2 = 1 then
    kbIf (kbIn a1 6) <|
    some (.inr ((x1.1 34 a1.toNatClampNeg, x1)))
  else if a2 = 2 then
    (f_ST_isWet_12 a1 x1).bind fun x3 =>
    if x3 = 0 then
      jn_KB_door_76 n 0 x1
    else
      jn_KB_door_76 n 1 x1
  else if a2 = 3 then
    (f_HO_wordsOfHand n a1 x1).bind fun x4 =>
    some (.inr ((x4, x1)))
  else if a2 = 4 then
    (f_HO_confounded n a1 x1).bind fun x5 =>
    some (.inr ((x5.1, x5.2)))
  else
    some (.inl (true, x1))
theorem sp_KB_door {l : Launch} (hl : l.stackTraces = false) (n : Nat) (a1 : Int32) (a2 : Int32) (μ : kbM) {x : (Bool × kbM) ⊕ (Int32 × kbM)} (h : f_KB_door n a1 a2 μ = some x) : kbSX l MX11_door 7 2 [.ref 0, .int a1, .int a2] μ (fun r μ' => ∃ z, x = .inr z ∧ r = (some (.int z.1)) ∧ μ' = z.2) (fun X μ' => ∃ z, x = .inl z ∧ X = kbXn z.1 ∧ μ' = z.2) := by
  refine kb_enterX 0 rfl rfl ?_
  suffices H : ∀ (Q : kbQt) (QX : kbXt) (P : (Bool × kbM) ⊕ (Int32 × kbM) → Prop), (∀ z : Int32 × kbM, P (.inr z) → Q (some (.int z.1)) z.2) → (∀ z : Bool × kbM, P (.inl z) → QX (kbXn z.1) z.2) → kbG (f_KB_door n a1 a2 μ) P → kbY l MX11_door [] (kbRmX 7 2) 0 0 (kbFx 2 Q QX) 0 [some (.ref 0), some (.int a1), some (.int a2)] [] μ from H _ _ (fun z => z = x) (fun z e => ⟨z, e.symm, rfl, rfl⟩) (fun z e => ⟨z, e.symm, rfl, rfl⟩) ⟨x, h, rfl⟩
  clear h
  intro Q QX P hr he h
  unfold f_KB_door at h
  refine y_aload_n dX11_door_0 rfl ?_
  refine y_iload_n dX11_door_1 rfl ?_
  rcases kbG_or h with ⟨r2, hx0, h⟩ | ⟨x1, hx0, h⟩
  · refine y_invVX cvX11_182 sh0 rfl (sp_KB_needDoor hl n a1 μ hx0) rfl rfl (Nat.le_of_ble_eq_true rfl) ⟨(Nat.le_of_ble_eq_true rfl), (Nat.le_of_ble_eq_true rfl), (Nat.le_of_ble_eq_true rfl), (Nat.le_of_ble_eq_true rfl)⟩ dX11_door_2 (fun r μ' e => ?_) (fun X μ' e => ?_)
    · obtain ⟨z, e, _⟩ := e; cases e
    · obtain ⟨z, e, rfl, rfl⟩ := e; cases e; exact y_out (Nat.le_of_ble_eq_true rfl) (Nat.le_of_ble_eq_true rfl) (he r2 (kbG_some h))
  refine y_invVX cvX11_182 sh0 rfl (sp_KB_needDoor hl n a1 μ hx0) rfl rfl (Nat.le_of_ble_eq_true rfl) ⟨(Nat.le_of_ble_eq_true rfl), (Nat.le_of_ble_eq_true rfl), (Nat.le_of_ble_eq_true rfl), (Nat.le_of_ble_eq_true rfl)⟩ dX11_door_2 (fun r μ' e => ?_) (fun X μ' e => ?_)
  · obtain ⟨z, e, rfl, rfl⟩ := e; cases e
    refine y_iload_n dX11_door_5 rfl ?_
    by_cases hc0 : a2 = 0
    · replace h := kbG_t hc0 h
      refine y_tabIn 40 dX11_door_6 (by rw [hc0]; decide) (by rw [hc0]; decide) (by rw [hc0]; rfl) (by decide) ?_
      refine y_aload_n dX11_door_40 rfl ?_
      refine y_getR flX11_29 sh0 rfl dX11_door_41 ?_
      refine y_getR flX11_185 sh32 rfl dX11_door_44 ?_
      refine y_iload_n dX11_door_47 rfl ?_
      obtain ⟨hin, h⟩ := kbG_if h
      replace hin := kbIn_of hin
      refine yq_iald a1.toNatClampNeg rfl sh33 hin dX11_door_48 ?_
      exact y_iret rfl (Nat.le_of_ble_eq_true rfl) (Nat.le_of_ble_eq_true rfl) dX11_door_49 (hr ((x1.1 33 a1.toNatClampNeg, x1)) (kbG_some h))
    replace h := kbG_f hc0 h
    by_cases hc1 : a2 = 1
    · replace h := kbG_t hc1 h
      refine y_tabIn 50 dX11_door_6 (by rw [hc1]; decide) (by rw [hc1]; decide) (by rw [hc1]; rfl) (by decide) ?_
      refine y_aload_n dX11_door_50 rfl ?_
      refine y_getR flX11_29 sh0 rfl dX11_door_51 ?_
      refine y_getR flX11_188 sh32 rfl dX11_door_54 ?_
      refine y_iload_n dX11_door_57 rfl ?_
      obtain ⟨hin, h⟩ := kbG_if h
      replace hin := kbIn_of hin
      refine yq_iald a1.toNatClampNeg rfl sh34 hin dX11_door_58 ?_
      exact y_iret rfl (Nat.le_of_ble_eq_true rfl) (Nat.le_of_ble_eq_true rfl) dX11_door_59 (hr ((x1.1 34 a1.toNatClampNeg, x1)) (kbG_some h))
    replace h := kbG_f hc1 h
    by_cases hc2 : a2 = 2
    · replace h := kbG_t hc2 h
      refine y_tabIn 60 dX11_door_6 (by rw [hc2]; decide) (by rw [hc2]; decide) (by rw [hc2]; rfl) (by decide) ?_
      refine y_aload_n dX11_door_60 rfl ?_
      refine y_getR flX11_19 sh0 rfl dX11_door_61 ?_
      refine y_iload_n dX11_door_64 rfl ?_
      obtain ⟨x3, hx0, h⟩ := kbG_bind h
      refine y_invV_i cvX11_191 sh12 rfl (sp_ST_isWet_12 a1 x1 hx0) rfl rfl (Nat.le_of_ble_eq_true rfl) ⟨(Nat.le_of_ble_eq_true rfl), (Nat.le_of_ble_eq_true rfl), (Nat.le_of_ble_eq_true rfl), (Nat.le_of_ble_eq_true rfl)⟩ dX11_door_65 ?_
      refine y_if_eq 75 dX11_door_68 (by decide) (fun hc => ?_) (fun hc => ?_)
      · replace h := kbG_t hc h
        refine y_iconst 0 dX11_door_75 (by decide) ?_
        refine y_le [none, none, none] trivial ?_
        exact jnR_KB_door_76 hl n 0 x1 hr he h
      · replace h := kbG_f hc h
        refine y_iconst 1 dX11_door_71 (by decide) ?_
        refine y_goto 76 dX11_door_72 (by decide) ?_
        refine y_le [none, none, none] trivial ?_
        exact jnR_KB_door_76 hl n 1 x1 hr he h
    replace h := kbG_f hc2 h
    by_cases hc3 : a2 = 3
    · replace h := kbG_t hc3 h
      refine y_tabIn 77 dX11_door_6 (by rw [hc3]; decide) (by rw [hc3]; decide) (by rw [hc3]; rfl) (by decide) ?_
      refine y_aload_n dX11_door_77 rfl ?_
      refine y_getR flX11_74 sh0 rfl dX11_door_78 ?_
      refine y_iload_n dX11_door_81 rfl ?_
      obtain ⟨x4, hx0, h⟩ := kbG_bind h
      refine y_invV_i cvX11_195 sh51 rfl (sp_HO_wordsOfHand n a1 x1 hx0) rfl rfl (Nat.le_of_ble_eq_true rfl) ⟨(Nat.le_of_ble_eq_true rfl), (Nat.le_of_ble_eq_true rfl), (Nat.le_of_ble_eq_true rfl), (Nat.le_of_ble_eq_true rfl)⟩ dX11_door_82 ?_
      exact y_iret rfl (Nat.le_of_ble_eq_true rfl) (Nat.le_of_ble_eq_true rfl) dX11_door_85 (hr ((x4, x1)) (kbG_some h))
    replace h := kbG_f hc3 h
    by_cases hc4 : a2 = 4
    · replace h := kbG_t hc4 h
      refine y_tabIn 86 dX11_door_6 (by rw [hc4]; decide) (by rw [hc4]; decide) (by rw [hc4]; rfl) (by decide) ?_
      refine y_aload_n dX11_door_86 rfl ?_
      refine y_getR flX11_74 sh0 rfl dX11_door_87 ?_
      refine y_iload_n dX11_door_90 rfl ?_
      obtain ⟨x5, hx0, h⟩ := kbG_bind h
      refine y_invV_i cvX11_198 sh51 rfl (sp_HO_confounded n a1 x1 hx0) rfl rfl (Nat.le_of_ble_eq_true rfl) ⟨(Nat.le_of_ble_eq_true rfl), (Nat.le_of_ble_eq_true rfl), (Nat.le_of_ble_eq_true rfl), (Nat.le_of_ble_eq_true rfl)⟩ dX11_door_91 ?_
      exact y_iret rfl (Nat.le_of_ble_eq_true rfl) (Nat.le_of_ble_eq_true rfl) dX11_door_94 (hr ((x5.1, x5.2)) (kbG_some h))
    replace h := kbG_f hc4 h
    have hD : kbY l MX11_door [] (kbRmX 7 2) 1 6 (kbFx 2 Q QX) 95 [some (.ref 0), some (.int a1), some (.int a2)] [] x1 := by
      exact y_throw hl rfl thN lsX11_201 ⟨(Nat.le_of_ble_eq_true rfl), (Nat.le_of_ble_eq_true rfl), (Nat.le_of_ble_eq_true rfl), (Nat.le_of_ble_eq_true rfl)⟩ (Nat.le_of_ble_eq_true rfl) (Nat.le_of_ble_eq_true rfl) dX11_door_95 dX11_door_98 (Or.inl ⟨dX11_door_99, rfl⟩) dX11_door_101 dX11_door_104 (he (true, x1) (kbG_some h))
    exact y_tabOut 95 dX11_door_6 (kb_out fun q q1 q2 => by
      have hq : q = 0 ∨ q = 1 ∨ q = 2 ∨ q = 3 ∨ q = 4 := by omega
      rcases hq with rfl | rfl | rfl | rfl | rfl
      · exact hc0
      · exact hc1
      · exact hc2
      · exact hc3
      · exact hc4) (by decide) hD
  · obtain ⟨z, e, _⟩ := e; cases e
def f_KB_hears (n : Nat) (a1 : Int32) (a2 : Int32) (μ : kbM) : Option ((Bool × kbM) ⊕ (Int32 × kbM)) :=
  kbOr (f_KB_needDoor n a1 μ) (fun r2 => some (.inl r2)) fun x1 =>
  kbOr (f_KB_needRow n a2 x1) (fun r4 => some (.inl r4)) fun x3 =>
  (f_HO_hearing n a1 a2 x3).bind fun x5 =>
  some (.inr ((x5, x3)))
theorem sp_KB_hears {l : Launch} (hl : l.stackTraces = false) (n : Nat) (a1 : Int32) (a2 : Int32) (μ : kbM) {x : (Bool × kbM) ⊕ (Int32 × kbM)} (h : f_KB_hears n a1 a2 μ = some x) : kbSX l MX11_hears 7 2 [.ref 0, .int a1, .int a2] μ (fun r μ' => ∃ z, x = .inr z ∧ r = (some (.int z.1)) ∧ μ' = z.2) (fun X μ' => ∃ z, x = .inl z ∧ X = kbXn z.1 ∧ μ' = z.2) := by
  refine kb_enterX 0 rfl rfl ?_
  suffices H : ∀ (Q : kbQt) (QX : kbXt) (P : (Bool × kbM) ⊕ (Int32 × kbM) → Prop), (∀ z : Int32 × kbM, P (.inr z) → Q (some (.int z.1)) z.2) → (∀ z : Bool × kbM, P (.inl z) → QX (kbXn z.1) z.2) → kbG (f_KB_hears n a1 a2 μ) P → kbY l MX11_hears [] (kbRmX 7 2) 0 0 (kbFx 2 Q QX) 0 [some (.ref 0), some (.int a1), some (.int a2)] [] μ from H _ _ (fun z => z = x) (fun z e => ⟨z, e.symm, rfl, rfl⟩) (fun z e => ⟨z, e.symm, rfl, rfl⟩) ⟨x, h, rfl⟩
  clear h
  intro Q QX P hr he h
  unfold f_KB_hears at h
  refine y_aload_n dX11_hears_0 rfl ?_
  refine y_iload_n dX11_hears_1 rfl ?_
  rcases kbG_or h with ⟨r2, hx0, h⟩ | ⟨x1, hx0, h⟩
  · refine y_invVX cvX11_182 sh0 rfl (sp_KB_needDoor hl n a1 μ hx0) rfl rfl (Nat.le_of_ble_eq_true rfl) ⟨(Nat.le_of_ble_eq_true rfl), (Nat.le_of_ble_eq_true rfl), (Nat.le_of_ble_eq_true rfl), (Nat.le_of_ble_eq_true rfl)⟩ dX11_hears_2 (fun r μ' e => ?_) (fun X μ' e => ?_)
    · obtain ⟨z, e, _⟩ := e; cases e
    · obtain ⟨z, e, rfl, rfl⟩ := e; cases e; exact y_out (Nat.le_of_ble_eq_true rfl) (Nat.le_of_ble_eq_true rfl) (he r2 (kbG_some h))
  refine y_invVX cvX11_182 sh0 rfl (sp_KB_needDoor hl n a1 μ hx0) rfl rfl (Nat.le_of_ble_eq_true rfl) ⟨(Nat.le_of_ble_eq_true rfl), (Nat.le_of_ble_eq_true rfl), (Nat.le_of_ble_eq_true rfl), (Nat.le_of_ble_eq_true rfl)⟩ dX11_hears_2 (fun r μ' e => ?_) (fun X μ' e => ?_)
  · obtain ⟨z, e, rfl, rfl⟩ := e; cases e
    refine y_iload_n dX11_hears_5 rfl ?_
    rcases kbG_or h with ⟨r4, hx0, h⟩ | ⟨x3, hx0, h⟩
    · refine y_invX csX11_203 (sp_KB_needRow hl n a2 x1 hx0) rfl rfl (Nat.le_of_ble_eq_true rfl) ⟨(Nat.le_of_ble_eq_true rfl), (Nat.le_of_ble_eq_true rfl), (Nat.le_of_ble_eq_true rfl), (Nat.le_of_ble_eq_true rfl)⟩ dX11_hears_6 (fun r μ' e => ?_) (fun X μ' e => ?_)
      · obtain ⟨z, e, _⟩ := e; cases e
      · obtain ⟨z, e, rfl, rfl⟩ := e; cases e; exact y_out (Nat.le_of_ble_eq_true rfl) (Nat.le_of_ble_eq_true rfl) (he r4 (kbG_some h))
    refine y_invX csX11_203 (sp_KB_needRow hl n a2 x1 hx0) rfl rfl (Nat.le_of_ble_eq_true rfl) ⟨(Nat.le_of_ble_eq_true rfl), (Nat.le_of_ble_eq_true rfl), (Nat.le_of_ble_eq_true rfl), (Nat.le_of_ble_eq_true rfl)⟩ dX11_hears_6 (fun r μ' e => ?_) (fun X μ' e => ?_)
    · obtain ⟨z, e, rfl, rfl⟩ := e; cases e
      refine y_aload_n dX11_hears_9 rfl ?_
      refine y_getR flX11_74 sh0 rfl dX11_hears_10 ?_
      refine y_iload_n dX11_hears_13 rfl ?_
      refine y_iload_n dX11_hears_14 rfl ?_
      obtain ⟨x5, hx0, h⟩ := kbG_bind h
      refine y_invV_i cvX11_206 sh51 rfl (sp_HO_hearing n a1 a2 x3 hx0) rfl rfl (Nat.le_of_ble_eq_true rfl) ⟨(Nat.le_of_ble_eq_true rfl), (Nat.le_of_ble_eq_true rfl), (Nat.le_of_ble_eq_true rfl), (Nat.le_of_ble_eq_true rfl)⟩ dX11_hears_15 ?_
      exact y_iret rfl (Nat.le_of_ble_eq_true rfl) (Nat.le_of_ble_eq_true rfl) dX11_hears_18 (hr ((x5, x3)) (kbG_some h))
    · obtain ⟨z, e, _⟩ := e; cases e
  · obtain ⟨z, e, _⟩ := e; cases e
def jn_KB_read_39 (n : Nat) (w0 : Int64) (μ : kbM) : Option ((Bool × kbM) ⊕ (Int64 × kbM)) :=
  some (.inr ((w0, μ)))
theorem jnR_KB_read_39 {l : Launch} (hl : l.stackTraces = false) (n : Nat) (w0 : Int64) (μ : kbM) {Q : kbQt} {QX : kbXt} {P : (Bool × kbM) ⊕ (Int64 × kbM) → Prop} (hr : ∀ z : Int64 × kbM, P (.inr z) → Q (some (.long z.1)) z.2) (he : ∀ z : Bool × kbM, P (.inl z) → QX (kbXn z.1) z.2) (h : kbG (jn_KB_read_39 n w0 μ) P) : kbY l MX11_read [] (kbRmX 7 2) 2 12 (kbFx 2 Q QX) 39 [none, none, none] [.long w0] μ := by
  unfold jn_KB_read_39 at h
  exact y_lret rfl (Nat.le_of_ble_eq_true rfl) (Nat.le_of_ble_eq_true rfl) dX11_read_39 (hr ((w0, μ)) (kbG_some h))
def f_KB_read (n : Nat) (a1 : Int32) (a2 : Int32) (μ : kbM) : Option ((Bool × kbM) ⊕ (Int64 × kbM)) :=
  kbOr (f_KB_needWhat n a2 2 μ) (fun r2 => some (.inl r2)) fun x1 =>
  kbOr (f_KB_needRow n a1 x1) (fun r4 => some (.inl r4)) fun x3 =>
  (f_SP_lay n a1 x3).bind fun x5 =>
  if a2 = 0 then
    (f_SP_waysLaid n x5).bind fun x7 =>
    jn_KB_read_39 n x7 x5
  else
    (f_SP_fewestLaid n x5).bind fun x6 =>
    jn_KB_read_39 n x6.toInt64 x5
theorem sp_KB_read {l : Launch} (hl : l.stackTraces = false) (n : Nat) (a1 : Int32) (a2 : Int32) (μ : kbM) {x : (Bool × kbM) ⊕ (Int64 × kbM)} (h : f_KB_read n a1 a2 μ = some x) : kbSX l MX11_read 7 2 [.ref 0, .int a1, .int a2] μ (fun r μ' => ∃ z, x = .inr z ∧ r = (some (.long z.1)) ∧ μ' = z.2) (fun X μ' => ∃ z, x = .inl z ∧ X = kbXn z.1 ∧ μ' = z.2) := by
  refine kb_enterX 0 rfl rfl ?_
  suffices H : ∀ (Q : kbQt) (QX : kbXt) (P : (Bool × kbM) ⊕ (Int64 × kbM) → Prop), (∀ z : Int64 × kbM, P (.inr z) → Q (some (.long z.1)) z.2) → (∀ z : Bool × kbM, P (.inl z) → QX (kbXn z.1) z.2) → kbG (f_KB_read n a1 a2 μ) P → kbY l MX11_read [] (kbRmX 7 2) 0 0 (kbFx 2 Q QX) 0 [some (.ref 0), some (.int a1), some (.int a2)] [] μ from H _ _ (fun z => z = x) (fun z e => ⟨z, e.symm, rfl, rfl⟩) (fun z e => ⟨z, e.symm, rfl, rfl⟩) ⟨x, h, rfl⟩
  clear h
  intro Q QX P hr he h
  unfold f_KB_read at h
  refine y_iload_n dX11_read_0 rfl ?_
  refine y_iconst 2 dX11_read_1 (by decide) ?_
  rcases kbG_or h with ⟨r2, hx0, h⟩ | ⟨x1, hx0, h⟩
  · refine y_invX csX11_210 (sp_KB_needWhat hl n a2 2 μ hx0) rfl rfl (Nat.le_of_ble_eq_true rfl) ⟨(Nat.le_of_ble_eq_true rfl), (Nat.le_of_ble_eq_true rfl), (Nat.le_of_ble_eq_true rfl), (Nat.le_of_ble_eq_true rfl)⟩ dX11_read_2 (fun r μ' e => ?_) (fun X μ' e => ?_)
    · obtain ⟨z, e, _⟩ := e; cases e
    · obtain ⟨z, e, rfl, rfl⟩ := e; cases e; exact y_out (Nat.le_of_ble_eq_true rfl) (Nat.le_of_ble_eq_true rfl) (he r2 (kbG_some h))
  refine y_invX csX11_210 (sp_KB_needWhat hl n a2 2 μ hx0) rfl rfl (Nat.le_of_ble_eq_true rfl) ⟨(Nat.le_of_ble_eq_true rfl), (Nat.le_of_ble_eq_true rfl), (Nat.le_of_ble_eq_true rfl), (Nat.le_of_ble_eq_true rfl)⟩ dX11_read_2 (fun r μ' e => ?_) (fun X μ' e => ?_)
  · obtain ⟨z, e, rfl, rfl⟩ := e; cases e
    refine y_iload_n dX11_read_5 rfl ?_
    rcases kbG_or h with ⟨r4, hx0, h⟩ | ⟨x3, hx0, h⟩
    · refine y_invX csX11_203 (sp_KB_needRow hl n a1 x1 hx0) rfl rfl (Nat.le_of_ble_eq_true rfl) ⟨(Nat.le_of_ble_eq_true rfl), (Nat.le_of_ble_eq_true rfl), (Nat.le_of_ble_eq_true rfl), (Nat.le_of_ble_eq_true rfl)⟩ dX11_read_6 (fun r μ' e => ?_) (fun X μ' e => ?_)
      · obtain ⟨z, e, _⟩ := e; cases e
      · obtain ⟨z, e, rfl, rfl⟩ := e; cases e; exact y_out (Nat.le_of_ble_eq_true rfl) (Nat.le_of_ble_eq_true rfl) (he r4 (kbG_some h))
    refine y_invX csX11_203 (sp_KB_needRow hl n a1 x1 hx0) rfl rfl (Nat.le_of_ble_eq_true rfl) ⟨(Nat.le_of_ble_eq_true rfl), (Nat.le_of_ble_eq_true rfl), (Nat.le_of_ble_eq_true rfl), (Nat.le_of_ble_eq_true rfl)⟩ dX11_read_6 (fun r μ' e => ?_) (fun X μ' e => ?_)
    · obtain ⟨z, e, rfl, rfl⟩ := e; cases e
      refine y_aload_n dX11_read_9 rfl ?_
      refine y_getR flX11_58 sh0 rfl dX11_read_10 ?_
      refine y_iload_n dX11_read_13 rfl ?_
      obtain ⟨x5, hx0, h⟩ := kbG_bind h
      refine y_invV_v cvX11_214 sh43 rfl (sp_SP_lay n a1 x3 hx0) rfl rfl (Nat.le_of_ble_eq_true rfl) ⟨(Nat.le_of_ble_eq_true rfl), (Nat.le_of_ble_eq_true rfl), (Nat.le_of_ble_eq_true rfl), (Nat.le_of_ble_eq_true rfl)⟩ dX11_read_14 ?_
      refine y_iload_n dX11_read_17 rfl ?_
      refine y_if_ne 31 dX11_read_18 (by decide) (fun hc => ?_) (fun hc => ?_)
      · replace h := kbG_f hc h
        refine y_aload_n dX11_read_31 rfl ?_
        refine y_getR flX11_58 sh0 rfl dX11_read_32 ?_
        obtain ⟨x6, hx0, h⟩ := kbG_bind h
        refine y_invV_i cvX11_221 sh43 rfl (sp_SP_fewestLaid n x5 hx0) rfl rfl (Nat.le_of_ble_eq_true rfl) ⟨(Nat.le_of_ble_eq_true rfl), (Nat.le_of_ble_eq_true rfl), (Nat.le_of_ble_eq_true rfl), (Nat.le_of_ble_eq_true rfl)⟩ dX11_read_35 ?_
        refine y_i2l dX11_read_38 ?_
        refine y_le [none, none, none] trivial ?_
        exact jnR_KB_read_39 hl n x6.toInt64 x5 hr he h
      · replace h := kbG_t hc h
        refine y_aload_n dX11_read_21 rfl ?_
        refine y_getR flX11_58 sh0 rfl dX11_read_22 ?_
        obtain ⟨x7, hx0, h⟩ := kbG_bind h
        refine y_invV_l cvX11_217 sh43 rfl (sp_SP_waysLaid n x5 hx0) rfl rfl (Nat.le_of_ble_eq_true rfl) ⟨(Nat.le_of_ble_eq_true rfl), (Nat.le_of_ble_eq_true rfl), (Nat.le_of_ble_eq_true rfl), (Nat.le_of_ble_eq_true rfl)⟩ dX11_read_25 ?_
        refine y_goto 39 dX11_read_28 (by decide) ?_
        refine y_le [none, none, none] trivial ?_
        exact jnR_KB_read_39 hl n x7 x5 hr he h
    · obtain ⟨z, e, _⟩ := e; cases e
  · obtain ⟨z, e, _⟩ := e; cases e
def jn_KB_reading_27 (n : Nat) (μ : kbM) : Option ((Bool × kbM) ⊕ (Int32 × kbM)) :=
  some (.inl (true, μ))
theorem jnR_KB_reading_27 {l : Launch} (hl : l.stackTraces = false) (n : Nat) (μ : kbM) {Q : kbQt} {QX : kbXt} {P : (Bool × kbM) ⊕ (Int32 × kbM) → Prop} (hr : ∀ z : Int32 × kbM, P (.inr z) → Q (some (.int z.1)) z.2) (he : ∀ z : Bool × kbM, P (.inl z) → QX (kbXn z.1) z.2) (h : kbG (jn_KB_reading_27 n μ) P) : kbY l MX11_reading [] (kbRmX 7 2) 1 6 (kbFx 2 Q QX) 27 [none, none, none] [] μ := by
  unfold jn_KB_reading_27 at h
  exact y_throw hl rfl thN lsX11_224 ⟨(Nat.le_of_ble_eq_true rfl), (Nat.le_of_ble_eq_true rfl), (Nat.le_of_ble_eq_true rfl), (Nat.le_of_ble_eq_true rfl)⟩ (Nat.le_of_ble_eq_true rfl) (Nat.le_of_ble_eq_true rfl) dX11_reading_27 dX11_reading_30 (Or.inl ⟨dX11_reading_31, rfl⟩) dX11_reading_33 dX11_reading_36 (he (true, μ) (kbG_some h))
def f_KB_reading (n : Nat) (a1 : Int32) (a2 : Int32) (μ : kbM) : Option ((Bool × kbM) ⊕ (Int32 × kbM)) :=
  kbOr (f_KB_needRow n a1 μ) (fun r2 => some (.inl r2)) fun x1 =>
  (f_SP_lay n a1 x1).bind fun x3 =>
  if a2 < 0 then
    jn_KB_reading_27 n x3
  else
    (f_SP_fewestLaid n x3).bind fun x4 =>
    if a2 < x4 then
      (f_SP_wordLaid n a2 x3).bind fun x5 =>
      some (.inr ((x5.1, x5.2)))
    else
      jn_KB_reading_27 n x3
theorem sp_KB_reading {l : Launch} (hl : l.stackTraces = false) (n : Nat) (a1 : Int32) (a2 : Int32) (μ : kbM) {x : (Bool × kbM) ⊕ (Int32 × kbM)} (h : f_KB_reading n a1 a2 μ = some x) : kbSX l MX11_reading 7 2 [.ref 0, .int a1, .int a2] μ (fun r μ' => ∃ z, x = .inr z ∧ r = (some (.int z.1)) ∧ μ' = z.2) (fun X μ' => ∃ z, x = .inl z ∧ X = kbXn z.1 ∧ μ' = z.2) := by
  refine kb_enterX 0 rfl rfl ?_
  suffices H : ∀ (Q : kbQt) (QX : kbXt) (P : (Bool × kbM) ⊕ (Int32 × kbM) → Prop), (∀ z : Int32 × kbM, P (.inr z) → Q (some (.int z.1)) z.2) → (∀ z : Bool × kbM, P (.inl z) → QX (kbXn z.1) z.2) → kbG (f_KB_reading n a1 a2 μ) P → kbY l MX11_reading [] (kbRmX 7 2) 0 0 (kbFx 2 Q QX) 0 [some (.ref 0), some (.int a1), some (.int a2)] [] μ from H _ _ (fun z => z = x) (fun z e => ⟨z, e.symm, rfl, rfl⟩) (fun z e => ⟨z, e.symm, rfl, rfl⟩) ⟨x, h, rfl⟩
  clear h
  intro Q QX P hr he h
  unfold f_KB_reading at h
  refine y_iload_n dX11_reading_0 rfl ?_
  rcases kbG_or h with ⟨r2, hx0, h⟩ | ⟨x1, hx0, h⟩
  · refine y_invX csX11_203 (sp_KB_needRow hl n a1 μ hx0) rfl rfl (Nat.le_of_ble_eq_true rfl) ⟨(Nat.le_of_ble_eq_true rfl), (Nat.le_of_ble_eq_true rfl), (Nat.le_of_ble_eq_true rfl), (Nat.le_of_ble_eq_true rfl)⟩ dX11_reading_1 (fun r μ' e => ?_) (fun X μ' e => ?_)
    · obtain ⟨z, e, _⟩ := e; cases e
    · obtain ⟨z, e, rfl, rfl⟩ := e; cases e; exact y_out (Nat.le_of_ble_eq_true rfl) (Nat.le_of_ble_eq_true rfl) (he r2 (kbG_some h))
  refine y_invX csX11_203 (sp_KB_needRow hl n a1 μ hx0) rfl rfl (Nat.le_of_ble_eq_true rfl) ⟨(Nat.le_of_ble_eq_true rfl), (Nat.le_of_ble_eq_true rfl), (Nat.le_of_ble_eq_true rfl), (Nat.le_of_ble_eq_true rfl)⟩ dX11_reading_1 (fun r μ' e => ?_) (fun X μ' e => ?_)
  · obtain ⟨z, e, rfl, rfl⟩ := e; cases e
    refine y_aload_n dX11_reading_4 rfl ?_
    refine y_getR flX11_58 sh0 rfl dX11_reading_5 ?_
    refine y_iload_n dX11_reading_8 rfl ?_
    obtain ⟨x3, hx0, h⟩ := kbG_bind h
    refine y_invV_v cvX11_214 sh43 rfl (sp_SP_lay n a1 x1 hx0) rfl rfl (Nat.le_of_ble_eq_true rfl) ⟨(Nat.le_of_ble_eq_true rfl), (Nat.le_of_ble_eq_true rfl), (Nat.le_of_ble_eq_true rfl), (Nat.le_of_ble_eq_true rfl)⟩ dX11_reading_9 ?_
    refine y_iload_n dX11_reading_12 rfl ?_
    refine y_if_lt 27 dX11_reading_13 (by decide) (fun hc => ?_) (fun hc => ?_)
    · replace h := kbG_t hc h
      refine y_le [none, none, none] trivial ?_
      exact jnR_KB_reading_27 hl n x3 hr he h
    · replace h := kbG_f hc h
      refine y_iload_n dX11_reading_16 rfl ?_
      refine y_aload_n dX11_reading_17 rfl ?_
      refine y_getR flX11_58 sh0 rfl dX11_reading_18 ?_
      obtain ⟨x4, hx0, h⟩ := kbG_bind h
      refine y_invV_i cvX11_221 sh43 rfl (sp_SP_fewestLaid n x3 hx0) rfl rfl (Nat.le_of_ble_eq_true rfl) ⟨(Nat.le_of_ble_eq_true rfl), (Nat.le_of_ble_eq_true rfl), (Nat.le_of_ble_eq_true rfl), (Nat.le_of_ble_eq_true rfl)⟩ dX11_reading_21 ?_
      refine y_icmp_lt 37 dX11_reading_24 (by decide) (fun hc => ?_) (fun hc => ?_)
      · replace h := kbG_t hc h
        refine y_aload_n dX11_reading_37 rfl ?_
        refine y_getR flX11_58 sh0 rfl dX11_reading_38 ?_
        refine y_iload_n dX11_reading_41 rfl ?_
        obtain ⟨x5, hx0, h⟩ := kbG_bind h
        refine y_invV_i cvX11_226 sh43 rfl (sp_SP_wordLaid n a2 x3 hx0) rfl rfl (Nat.le_of_ble_eq_true rfl) ⟨(Nat.le_of_ble_eq_true rfl), (Nat.le_of_ble_eq_true rfl), (Nat.le_of_ble_eq_true rfl), (Nat.le_of_ble_eq_true rfl)⟩ dX11_reading_42 ?_
        exact y_iret rfl (Nat.le_of_ble_eq_true rfl) (Nat.le_of_ble_eq_true rfl) dX11_reading_45 (hr ((x5.1, x5.2)) (kbG_some h))
      · replace h := kbG_f hc h
        refine y_le [none, none, none] trivial ?_
        exact jnR_KB_reading_27 hl n x3 hr he h
  · obtain ⟨z, e, _⟩ := e; cases e
def f_KB_apart (n : Nat) (a1 : Int32) (a2 : Int32) (μ : kbM) : Option ((Bool × kbM) ⊕ (Int32 × kbM)) :=
  kbOr (f_KB_needRow n a1 μ) (fun r2 => some (.inl r2)) fun x1 =>
  kbOr (f_KB_needRow n a2 x1) (fun r4 => some (.inl r4)) fun x3 =>
  (f_RU_steps n a1 a2 x3).bind fun x5 =>
  some (.inr ((x5.1, x5.2)))
theorem sp_KB_apart {l : Launch} (hl : l.stackTraces = false) (n : Nat) (a1 : Int32) (a2 : Int32) (μ : kbM) {x : (Bool × kbM) ⊕ (Int32 × kbM)} (h : f_KB_apart n a1 a2 μ = some x) : kbSX l MX11_apart 7 2 [.ref 0, .int a1, .int a2] μ (fun r μ' => ∃ z, x = .inr z ∧ r = (some (.int z.1)) ∧ μ' = z.2) (fun X μ' => ∃ z, x = .inl z ∧ X = kbXn z.1 ∧ μ' = z.2) := by
  refine kb_enterX 0 rfl rfl ?_
  suffices H : ∀ (Q : kbQt) (QX : kbXt) (P : (Bool × kbM) ⊕ (Int32 × kbM) → Prop), (∀ z : Int32 × kbM, P (.inr z) → Q (some (.int z.1)) z.2) → (∀ z : Bool × kbM, P (.inl z) → QX (kbXn z.1) z.2) → kbG (f_KB_apart n a1 a2 μ) P → kbY l MX11_apart [] (kbRmX 7 2) 0 0 (kbFx 2 Q QX) 0 [some (.ref 0), some (.int a1), some (.int a2)] [] μ from H _ _ (fun z => z = x) (fun z e => ⟨z, e.symm, rfl, rfl⟩) (fun z e => ⟨z, e.symm, rfl, rfl⟩) ⟨x, h, rfl⟩
  clear h
  intro Q QX P hr he h
  unfold f_KB_apart at h
  refine y_iload_n dX11_apart_0 rfl ?_
  rcases kbG_or h with ⟨r2, hx0, h⟩ | ⟨x1, hx0, h⟩
  · refine y_invX csX11_203 (sp_KB_needRow hl n a1 μ hx0) rfl rfl (Nat.le_of_ble_eq_true rfl) ⟨(Nat.le_of_ble_eq_true rfl), (Nat.le_of_ble_eq_true rfl), (Nat.le_of_ble_eq_true rfl), (Nat.le_of_ble_eq_true rfl)⟩ dX11_apart_1 (fun r μ' e => ?_) (fun X μ' e => ?_)
    · obtain ⟨z, e, _⟩ := e; cases e
    · obtain ⟨z, e, rfl, rfl⟩ := e; cases e; exact y_out (Nat.le_of_ble_eq_true rfl) (Nat.le_of_ble_eq_true rfl) (he r2 (kbG_some h))
  refine y_invX csX11_203 (sp_KB_needRow hl n a1 μ hx0) rfl rfl (Nat.le_of_ble_eq_true rfl) ⟨(Nat.le_of_ble_eq_true rfl), (Nat.le_of_ble_eq_true rfl), (Nat.le_of_ble_eq_true rfl), (Nat.le_of_ble_eq_true rfl)⟩ dX11_apart_1 (fun r μ' e => ?_) (fun X μ' e => ?_)
  · obtain ⟨z, e, rfl, rfl⟩ := e; cases e
    refine y_iload_n dX11_apart_4 rfl ?_
    rcases kbG_or h with ⟨r4, hx0, h⟩ | ⟨x3, hx0, h⟩
    · refine y_invX csX11_203 (sp_KB_needRow hl n a2 x1 hx0) rfl rfl (Nat.le_of_ble_eq_true rfl) ⟨(Nat.le_of_ble_eq_true rfl), (Nat.le_of_ble_eq_true rfl), (Nat.le_of_ble_eq_true rfl), (Nat.le_of_ble_eq_true rfl)⟩ dX11_apart_5 (fun r μ' e => ?_) (fun X μ' e => ?_)
      · obtain ⟨z, e, _⟩ := e; cases e
      · obtain ⟨z, e, rfl, rfl⟩ := e; cases e; exact y_out (Nat.le_of_ble_eq_true rfl) (Nat.le_of_ble_eq_true rfl) (he r4 (kbG_some h))
    refine y_invX csX11_203 (sp_KB_needRow hl n a2 x1 hx0) rfl rfl (Nat.le_of_ble_eq_true rfl) ⟨(Nat.le_of_ble_eq_true rfl), (Nat.le_of_ble_eq_true rfl), (Nat.le_of_ble_eq_true rfl), (Nat.le_of_ble_eq_true rfl)⟩ dX11_apart_5 (fun r μ' e => ?_) (fun X μ' e => ?_)
    · obtain ⟨z, e, rfl, rfl⟩ := e; cases e
      refine y_aload_n dX11_apart_8 rfl ?_
      refine y_getR flX11_49 sh0 rfl dX11_apart_9 ?_
      refine y_iload_n dX11_apart_12 rfl ?_
      refine y_iload_n dX11_apart_13 rfl ?_
      obtain ⟨x5, hx0, h⟩ := kbG_bind h
      refine y_invV_i cvX11_229 sh39 rfl (sp_RU_steps n a1 a2 x3 hx0) rfl rfl (Nat.le_of_ble_eq_true rfl) ⟨(Nat.le_of_ble_eq_true rfl), (Nat.le_of_ble_eq_true rfl), (Nat.le_of_ble_eq_true rfl), (Nat.le_of_ble_eq_true rfl)⟩ dX11_apart_14 ?_
      exact y_iret rfl (Nat.le_of_ble_eq_true rfl) (Nat.le_of_ble_eq_true rfl) dX11_apart_17 (hr ((x5.1, x5.2)) (kbG_some h))
    · obtain ⟨z, e, _⟩ := e; cases e
  · obtain ⟨z, e, _⟩ := e; cases e
def jn_KB_nearest_27 (n : Nat) (v3 : Int32) (μ : kbM) : Option ((Bool × kbM) ⊕ (Int32 × kbM)) :=
  some (.inr ((v3, μ)))
theorem jnR_KB_nearest_27 {l : Launch} (hl : l.stackTraces = false) (n : Nat) (v3 : Int32) (μ : kbM) {Q : kbQt} {QX : kbXt} {P : (Bool × kbM) ⊕ (Int32 × kbM) → Prop} (hr : ∀ z : Int32 × kbM, P (.inr z) → Q (some (.int z.1)) z.2) (he : ∀ z : Bool × kbM, P (.inl z) → QX (kbXn z.1) z.2) (h : kbG (jn_KB_nearest_27 n v3 μ) P) : kbY l MX11_nearest [] (kbRmX 7 2) 2 12 (kbFx 2 Q QX) 27 [none, none, none, some (.int v3)] [] μ := by
  unfold jn_KB_nearest_27 at h
  refine y_iload_n dX11_nearest_27 rfl ?_
  exact y_iret rfl (Nat.le_of_ble_eq_true rfl) (Nat.le_of_ble_eq_true rfl) dX11_nearest_28 (hr ((v3, μ)) (kbG_some h))
def f_KB_nearest (n : Nat) (a1 : Int32) (a2 : Int32) (μ : kbM) : Option ((Bool × kbM) ⊕ (Int32 × kbM)) :=
  kbOr (f_KB_needWhat n a2 2 μ) (fun r2 => some (.inl r2)) fun x1 =>
  kbOr (f_KB_needRow n a1 x1) (fun r4 => some (.inl r4)) fun x3 =>
  (f_RU_nearestWord n a1 x3).bind fun x5 =>
  if x5.1 = (-1) then
    jn_KB_nearest_27 n x5.1 x5.2
  else
    if a2 = 0 then
      jn_KB_nearest_27 n x5.1 x5.2
    else
      kbIf (kbIn x5.1 10) <|
      (f_RU_steps n a1 (x5.2.1 14 x5.1.toNatClampNeg) x5.2).bind fun x6 =>
      some (.inr ((x6.1, x6.2)))
theorem sp_KB_nearest {l : Launch} (hl : l.stackTraces = false) (n : Nat) (a1 : Int32) (a2 : Int32) (μ : kbM) {x : (Bool × kbM) ⊕ (Int32 × kbM)} (h : f_KB_nearest n a1 a2 μ = some x) : kbSX l MX11_nearest 7 2 [.ref 0, .int a1, .int a2] μ (fun r μ' => ∃ z, x = .inr z ∧ r = (some (.int z.1)) ∧ μ' = z.2) (fun X μ' => ∃ z, x = .inl z ∧ X = kbXn z.1 ∧ μ' = z.2) := by
  refine kb_enterX 1 rfl rfl ?_
  suffices H : ∀ (Q : kbQt) (QX : kbXt) (P : (Bool × kbM) ⊕ (Int32 × kbM) → Prop), (∀ z : Int32 × kbM, P (.inr z) → Q (some (.int z.1)) z.2) → (∀ z : Bool × kbM, P (.inl z) → QX (kbXn z.1) z.2) → kbG (f_KB_nearest n a1 a2 μ) P → kbY l MX11_nearest [] (kbRmX 7 2) 0 0 (kbFx 2 Q QX) 0 [some (.ref 0), some (.int a1), some (.int a2), none] [] μ from H _ _ (fun z => z = x) (fun z e => ⟨z, e.symm, rfl, rfl⟩) (fun z e => ⟨z, e.symm, rfl, rfl⟩) ⟨x, h, rfl⟩
  clear h
  intro Q QX P hr he h
  unfold f_KB_nearest at h
  refine y_iload_n dX11_nearest_0 rfl ?_
  refine y_iconst 2 dX11_nearest_1 (by decide) ?_
  rcases kbG_or h with ⟨r2, hx0, h⟩ | ⟨x1, hx0, h⟩
  · refine y_invX csX11_210 (sp_KB_needWhat hl n a2 2 μ hx0) rfl rfl (Nat.le_of_ble_eq_true rfl) ⟨(Nat.le_of_ble_eq_true rfl), (Nat.le_of_ble_eq_true rfl), (Nat.le_of_ble_eq_true rfl), (Nat.le_of_ble_eq_true rfl)⟩ dX11_nearest_2 (fun r μ' e => ?_) (fun X μ' e => ?_)
    · obtain ⟨z, e, _⟩ := e; cases e
    · obtain ⟨z, e, rfl, rfl⟩ := e; cases e; exact y_out (Nat.le_of_ble_eq_true rfl) (Nat.le_of_ble_eq_true rfl) (he r2 (kbG_some h))
  refine y_invX csX11_210 (sp_KB_needWhat hl n a2 2 μ hx0) rfl rfl (Nat.le_of_ble_eq_true rfl) ⟨(Nat.le_of_ble_eq_true rfl), (Nat.le_of_ble_eq_true rfl), (Nat.le_of_ble_eq_true rfl), (Nat.le_of_ble_eq_true rfl)⟩ dX11_nearest_2 (fun r μ' e => ?_) (fun X μ' e => ?_)
  · obtain ⟨z, e, rfl, rfl⟩ := e; cases e
    refine y_iload_n dX11_nearest_5 rfl ?_
    rcases kbG_or h with ⟨r4, hx0, h⟩ | ⟨x3, hx0, h⟩
    · refine y_invX csX11_203 (sp_KB_needRow hl n a1 x1 hx0) rfl rfl (Nat.le_of_ble_eq_true rfl) ⟨(Nat.le_of_ble_eq_true rfl), (Nat.le_of_ble_eq_true rfl), (Nat.le_of_ble_eq_true rfl), (Nat.le_of_ble_eq_true rfl)⟩ dX11_nearest_6 (fun r μ' e => ?_) (fun X μ' e => ?_)
      · obtain ⟨z, e, _⟩ := e; cases e
      · obtain ⟨z, e, rfl, rfl⟩ := e; cases e; exact y_out (Nat.le_of_ble_eq_true rfl) (Nat.le_of_ble_eq_true rfl) (he r4 (kbG_some h))
    refine y_invX csX11_203 (sp_KB_needRow hl n a1 x1 hx0) rfl rfl (Nat.le_of_ble_eq_true rfl) ⟨(Nat.le_of_ble_eq_true rfl), (Nat.le_of_ble_eq_true rfl), (Nat.le_of_ble_eq_true rfl), (Nat.le_of_ble_eq_true rfl)⟩ dX11_nearest_6 (fun r μ' e => ?_) (fun X μ' e => ?_)
    · obtain ⟨z, e, rfl, rfl⟩ := e; cases e
      refine y_aload_n dX11_nearest_9 rfl ?_
      refine y_getR flX11_49 sh0 rfl dX11_nearest_10 ?_
      refine y_iload_n dX11_nearest_13 rfl ?_
      obtain ⟨x5, hx0, h⟩ := kbG_bind h
      refine y_invV_i cvX11_232 sh39 rfl (sp_RU_nearestWord n a1 x3 hx0) rfl rfl (Nat.le_of_ble_eq_true rfl) ⟨(Nat.le_of_ble_eq_true rfl), (Nat.le_of_ble_eq_true rfl), (Nat.le_of_ble_eq_true rfl), (Nat.le_of_ble_eq_true rfl)⟩ dX11_nearest_14 ?_
      refine y_istore_n dX11_nearest_17 (Nat.le_of_ble_eq_true rfl) rfl ?_
      refine y_iload_n dX11_nearest_18 rfl ?_
      refine y_iconst (-1) dX11_nearest_19 (by decide) ?_
      refine y_icmp_eq 27 dX11_nearest_20 (by decide) (fun hc => ?_) (fun hc => ?_)
      · replace h := kbG_t hc h
        refine y_le [none, none, none, some (.int x5.1)] ⟨rfl, trivial⟩ ?_
        exact jnR_KB_nearest_27 hl n x5.1 x5.2 hr he h
      · replace h := kbG_f hc h
        refine y_iload_n dX11_nearest_23 rfl ?_
        refine y_if_ne 29 dX11_nearest_24 (by decide) (fun hc => ?_) (fun hc => ?_)
        · replace h := kbG_f hc h
          refine y_aload_n dX11_nearest_29 rfl ?_
          refine y_getR flX11_49 sh0 rfl dX11_nearest_30 ?_
          refine y_iload_n dX11_nearest_33 rfl ?_
          refine y_aload_n dX11_nearest_34 rfl ?_
          refine y_getR flX11_19 sh0 rfl dX11_nearest_35 ?_
          refine y_getR flX11_35 sh12 rfl dX11_nearest_38 ?_
          refine y_getR flX11_165 sh13 rfl dX11_nearest_41 ?_
          refine y_iload_n dX11_nearest_44 rfl ?_
          obtain ⟨hin, h⟩ := kbG_if h
          replace hin := kbIn_of hin
          refine yq_iald x5.1.toNatClampNeg rfl sh14 hin dX11_nearest_45 ?_
          obtain ⟨x6, hx0, h⟩ := kbG_bind h
          refine y_invV_i cvX11_229 sh39 rfl (sp_RU_steps n a1 (x5.2.1 14 x5.1.toNatClampNeg) x5.2 hx0) rfl rfl (Nat.le_of_ble_eq_true rfl) ⟨(Nat.le_of_ble_eq_true rfl), (Nat.le_of_ble_eq_true rfl), (Nat.le_of_ble_eq_true rfl), (Nat.le_of_ble_eq_true rfl)⟩ dX11_nearest_46 ?_
          exact y_iret rfl (Nat.le_of_ble_eq_true rfl) (Nat.le_of_ble_eq_true rfl) dX11_nearest_49 (hr ((x6.1, x6.2)) (kbG_some h))
        · replace h := kbG_t hc h
          refine y_le [none, none, none, some (.int x5.1)] ⟨rfl, trivial⟩ ?_
          exact jnR_KB_nearest_27 hl n x5.1 x5.2 hr he h
    · obtain ⟨z, e, _⟩ := e; cases e
  · obtain ⟨z, e, _⟩ := e; cases e
def f_KB_die (n : Nat) (a1 : Int32) (μ : kbM) : Option ((Bool × kbM) ⊕ (Int32 × kbM)) :=
  kbOr (f_KB_needWord n a1 μ) (fun r2 => some (.inl r2)) fun x1 =>
  kbIf (kbIn a1 10) <|
  (f_ST_keepWord_12 1 a1 x1).bind fun x3 =>
  (f_WO_remove_13 n a1 x3).bind fun x4 =>
  (f_JO_renew x4).bind fun x5 =>
  some (.inr ((x1.1 14 a1.toNatClampNeg, x5)))
theorem sp_KB_die {l : Launch} (hl : l.stackTraces = false) (n : Nat) (a1 : Int32) (μ : kbM) {x : (Bool × kbM) ⊕ (Int32 × kbM)} (h : f_KB_die n a1 μ = some x) : kbSX l MX11_die 7 1 [.ref 0, .int a1] μ (fun r μ' => ∃ z, x = .inr z ∧ r = (some (.int z.1)) ∧ μ' = z.2) (fun X μ' => ∃ z, x = .inl z ∧ X = kbXn z.1 ∧ μ' = z.2) := by
  refine kb_enterX 1 rfl rfl ?_
  suffices H : ∀ (Q : kbQt) (QX : kbXt) (P : (Bool × kbM) ⊕ (Int32 × kbM) → Prop), (∀ z : Int32 × kbM, P (.inr z) → Q (some (.int z.1)) z.2) → (∀ z : Bool × kbM, P (.inl z) → QX (kbXn z.1) z.2) → kbG (f_KB_die n a1 μ) P → kbY l MX11_die [] (kbRmX 7 1) 0 0 (kbFx 1 Q QX) 0 [some (.ref 0), some (.int a1), none] [] μ from H _ _ (fun z => z = x) (fun z e => ⟨z, e.symm, rfl, rfl⟩) (fun z e => ⟨z, e.symm, rfl, rfl⟩) ⟨x, h, rfl⟩
  clear h
  intro Q QX P hr he h
  unfold f_KB_die at h
  refine y_aload_n dX11_die_0 rfl ?_
  refine y_iload_n dX11_die_1 rfl ?_
  rcases kbG_or h with ⟨r2, hx0, h⟩ | ⟨x1, hx0, h⟩
  · refine y_invVX cvX11_162 sh0 rfl (sp_KB_needWord hl n a1 μ hx0) rfl rfl (Nat.le_of_ble_eq_true rfl) ⟨(Nat.le_of_ble_eq_true rfl), (Nat.le_of_ble_eq_true rfl), (Nat.le_of_ble_eq_true rfl), (Nat.le_of_ble_eq_true rfl)⟩ dX11_die_2 (fun r μ' e => ?_) (fun X μ' e => ?_)
    · obtain ⟨z, e, _⟩ := e; cases e
    · obtain ⟨z, e, rfl, rfl⟩ := e; cases e; exact y_out (Nat.le_of_ble_eq_true rfl) (Nat.le_of_ble_eq_true rfl) (he r2 (kbG_some h))
  refine y_invVX cvX11_162 sh0 rfl (sp_KB_needWord hl n a1 μ hx0) rfl rfl (Nat.le_of_ble_eq_true rfl) ⟨(Nat.le_of_ble_eq_true rfl), (Nat.le_of_ble_eq_true rfl), (Nat.le_of_ble_eq_true rfl), (Nat.le_of_ble_eq_true rfl)⟩ dX11_die_2 (fun r μ' e => ?_) (fun X μ' e => ?_)
  · obtain ⟨z, e, rfl, rfl⟩ := e; cases e
    refine y_aload_n dX11_die_5 rfl ?_
    refine y_getR flX11_19 sh0 rfl dX11_die_6 ?_
    refine y_getR flX11_35 sh12 rfl dX11_die_9 ?_
    refine y_getR flX11_165 sh13 rfl dX11_die_12 ?_
    refine y_iload_n dX11_die_15 rfl ?_
    obtain ⟨hin, h⟩ := kbG_if h
    replace hin := kbIn_of hin
    refine yq_iald a1.toNatClampNeg rfl sh14 hin dX11_die_16 ?_
    refine y_istore_n dX11_die_17 (Nat.le_of_ble_eq_true rfl) rfl ?_
    refine y_aload_n dX11_die_18 rfl ?_
    refine y_getR flX11_19 sh0 rfl dX11_die_19 ?_
    refine y_iconst 1 dX11_die_22 (by decide) ?_
    refine y_iload_n dX11_die_23 rfl ?_
    obtain ⟨x3, hx0, h⟩ := kbG_bind h
    refine y_invV_v cvX11_265 sh12 rfl (sp_ST_keepWord_12 1 a1 x1 hx0) rfl rfl (Nat.le_of_ble_eq_true rfl) ⟨(Nat.le_of_ble_eq_true rfl), (Nat.le_of_ble_eq_true rfl), (Nat.le_of_ble_eq_true rfl), (Nat.le_of_ble_eq_true rfl)⟩ dX11_die_24 ?_
    refine y_aload_n dX11_die_27 rfl ?_
    refine y_getR flX11_19 sh0 rfl dX11_die_28 ?_
    refine y_getR flX11_35 sh12 rfl dX11_die_31 ?_
    refine y_iload_n dX11_die_34 rfl ?_
    obtain ⟨x4, hx0, h⟩ := kbG_bind h
    refine y_invV_v cvX11_268 sh13 rfl (sp_WO_remove_13 n a1 x3 hx0) rfl rfl (Nat.le_of_ble_eq_true rfl) ⟨(Nat.le_of_ble_eq_true rfl), (Nat.le_of_ble_eq_true rfl), (Nat.le_of_ble_eq_true rfl), (Nat.le_of_ble_eq_true rfl)⟩ dX11_die_35 ?_
    refine y_aload_n dX11_die_38 rfl ?_
    refine y_getR flX11_42 sh0 rfl dX11_die_39 ?_
    obtain ⟨x5, hx0, h⟩ := kbG_bind h
    refine y_invV_v cvX11_262 sh35 rfl (sp_JO_renew x4 hx0) rfl rfl (Nat.le_of_ble_eq_true rfl) ⟨(Nat.le_of_ble_eq_true rfl), (Nat.le_of_ble_eq_true rfl), (Nat.le_of_ble_eq_true rfl), (Nat.le_of_ble_eq_true rfl)⟩ dX11_die_42 ?_
    refine y_iload_n dX11_die_45 rfl ?_
    exact y_iret rfl (Nat.le_of_ble_eq_true rfl) (Nat.le_of_ble_eq_true rfl) dX11_die_46 (hr ((x1.1 14 a1.toNatClampNeg, x5)) (kbG_some h))
  · obtain ⟨z, e, _⟩ := e; cases e
def f_KB_worth (n : Nat) (a1 : Int32) (a2 : Int32) (μ : kbM) : Option ((Bool × kbM) ⊕ (Int32 × kbM)) :=
  kbOr (f_KB_needWord n a1 μ) (fun r2 => some (.inl r2)) fun x1 =>
  (f_KB_isWorth a2).bind fun x3 =>
  if x3 = 0 then
    (f_KB_refuseAct x1).bind fun x7 =>
    some (.inr ((x7.1, x7.2)))
  else
    kbIf (kbIn a1 10) <|
    (f_ST_keepWord_12 2 a1 x1).bind fun x4 =>
    kbIf (kbIn a1 10) <|
    (f_WO_change_13 a1 (x4.1 16 a1.toNatClampNeg) a2 x4).bind fun x5 =>
    (f_JO_renew x5).bind fun x6 =>
    some (.inr ((x1.1 17 a1.toNatClampNeg, x6)))
theorem sp_KB_worth {l : Launch} (hl : l.stackTraces = false) (n : Nat) (a1 : Int32) (a2 : Int32) (μ : kbM) {x : (Bool × kbM) ⊕ (Int32 × kbM)} (h : f_KB_worth n a1 a2 μ = some x) : kbSX l MX11_worth 7 1 [.ref 0, .int a1, .int a2] μ (fun r μ' => ∃ z, x = .inr z ∧ r = (some (.int z.1)) ∧ μ' = z.2) (fun X μ' => ∃ z, x = .inl z ∧ X = kbXn z.1 ∧ μ' = z.2) := by
  refine kb_enterX 1 rfl rfl ?_
  suffices H : ∀ (Q : kbQt) (QX : kbXt) (P : (Bool × kbM) ⊕ (Int32 × kbM) → Prop), (∀ z : Int32 × kbM, P (.inr z) → Q (some (.int z.1)) z.2) → (∀ z : Bool × kbM, P (.inl z) → QX (kbXn z.1) z.2) → kbG (f_KB_worth n a1 a2 μ) P → kbY l MX11_worth [] (kbRmX 7 1) 0 0 (kbFx 1 Q QX) 0 [some (.ref 0), some (.int a1), some (.int a2), none] [] μ from H _ _ (fun z => z = x) (fun z e => ⟨z, e.symm, rfl, rfl⟩) (fun z e => ⟨z, e.symm, rfl, rfl⟩) ⟨x, h, rfl⟩
  clear h
  intro Q QX P hr he h
  unfold f_KB_worth at h
  refine y_aload_n dX11_worth_0 rfl ?_
  refine y_iload_n dX11_worth_1 rfl ?_
  rcases kbG_or h with ⟨r2, hx0, h⟩ | ⟨x1, hx0, h⟩
  · refine y_invVX cvX11_162 sh0 rfl (sp_KB_needWord hl n a1 μ hx0) rfl rfl (Nat.le_of_ble_eq_true rfl) ⟨(Nat.le_of_ble_eq_true rfl), (Nat.le_of_ble_eq_true rfl), (Nat.le_of_ble_eq_true rfl), (Nat.le_of_ble_eq_true rfl)⟩ dX11_worth_2 (fun r μ' e => ?_) (fun X μ' e => ?_)
    · obtain ⟨z, e, _⟩ := e; cases e
    · obtain ⟨z, e, rfl, rfl⟩ := e; cases e; exact y_out (Nat.le_of_ble_eq_true rfl) (Nat.le_of_ble_eq_true rfl) (he r2 (kbG_some h))
  refine y_invVX cvX11_162 sh0 rfl (sp_KB_needWord hl n a1 μ hx0) rfl rfl (Nat.le_of_ble_eq_true rfl) ⟨(Nat.le_of_ble_eq_true rfl), (Nat.le_of_ble_eq_true rfl), (Nat.le_of_ble_eq_true rfl), (Nat.le_of_ble_eq_true rfl)⟩ dX11_worth_2 (fun r μ' e => ?_) (fun X μ' e => ?_)
  · obtain ⟨z, e, rfl, rfl⟩ := e; cases e
    refine y_iload_n dX11_worth_5 rfl ?_
    obtain ⟨x3, hx0, h⟩ := kbG_bind h
    refine y_inv_i csX11_248 (sp_KB_isWorth a2 x1 hx0) rfl rfl (Nat.le_of_ble_eq_true rfl) ⟨(Nat.le_of_ble_eq_true rfl), (Nat.le_of_ble_eq_true rfl), (Nat.le_of_ble_eq_true rfl), (Nat.le_of_ble_eq_true rfl)⟩ dX11_worth_6 ?_
    refine y_if_ne 17 dX11_worth_9 (by decide) (fun hc => ?_) (fun hc => ?_)
    · replace h := kbG_f hc h
      refine y_aload_n dX11_worth_17 rfl ?_
      refine y_getR flX11_19 sh0 rfl dX11_worth_18 ?_
      refine y_getR flX11_35 sh12 rfl dX11_worth_21 ?_
      refine y_getR flX11_174 sh13 rfl dX11_worth_24 ?_
      refine y_iload_n dX11_worth_27 rfl ?_
      obtain ⟨hin, h⟩ := kbG_if h
      replace hin := kbIn_of hin
      refine yq_iald a1.toNatClampNeg rfl sh17 hin dX11_worth_28 ?_
      refine y_istore_n dX11_worth_29 (Nat.le_of_ble_eq_true rfl) rfl ?_
      refine y_aload_n dX11_worth_30 rfl ?_
      refine y_getR flX11_19 sh0 rfl dX11_worth_31 ?_
      refine y_iconst 2 dX11_worth_34 (by decide) ?_
      refine y_iload_n dX11_worth_35 rfl ?_
      obtain ⟨x4, hx0, h⟩ := kbG_bind h
      refine y_invV_v cvX11_265 sh12 rfl (sp_ST_keepWord_12 2 a1 x1 hx0) rfl rfl (Nat.le_of_ble_eq_true rfl) ⟨(Nat.le_of_ble_eq_true rfl), (Nat.le_of_ble_eq_true rfl), (Nat.le_of_ble_eq_true rfl), (Nat.le_of_ble_eq_true rfl)⟩ dX11_worth_36 ?_
      refine y_aload_n dX11_worth_39 rfl ?_
      refine y_getR flX11_19 sh0 rfl dX11_worth_40 ?_
      refine y_getR flX11_35 sh12 rfl dX11_worth_43 ?_
      refine y_iload_n dX11_worth_46 rfl ?_
      refine y_aload_n dX11_worth_47 rfl ?_
      refine y_getR flX11_19 sh0 rfl dX11_worth_48 ?_
      refine y_getR flX11_35 sh12 rfl dX11_worth_51 ?_
      refine y_getR flX11_171 sh13 rfl dX11_worth_54 ?_
      refine y_iload_n dX11_worth_57 rfl ?_
      obtain ⟨hin, h⟩ := kbG_if h
      replace hin := kbIn_of hin
      refine yq_iald a1.toNatClampNeg rfl sh16 hin dX11_worth_58 ?_
      refine y_iload_n dX11_worth_59 rfl ?_
      obtain ⟨x5, hx0, h⟩ := kbG_bind h
      refine y_invV_v cvX11_271 sh13 rfl (sp_WO_change_13 a1 (x4.1 16 a1.toNatClampNeg) a2 x4 hx0) rfl rfl (Nat.le_of_ble_eq_true rfl) ⟨(Nat.le_of_ble_eq_true rfl), (Nat.le_of_ble_eq_true rfl), (Nat.le_of_ble_eq_true rfl), (Nat.le_of_ble_eq_true rfl)⟩ dX11_worth_60 ?_
      refine y_aload_n dX11_worth_63 rfl ?_
      refine y_getR flX11_42 sh0 rfl dX11_worth_64 ?_
      obtain ⟨x6, hx0, h⟩ := kbG_bind h
      refine y_invV_v cvX11_262 sh35 rfl (sp_JO_renew x5 hx0) rfl rfl (Nat.le_of_ble_eq_true rfl) ⟨(Nat.le_of_ble_eq_true rfl), (Nat.le_of_ble_eq_true rfl), (Nat.le_of_ble_eq_true rfl), (Nat.le_of_ble_eq_true rfl)⟩ dX11_worth_67 ?_
      refine y_iload_n dX11_worth_70 rfl ?_
      exact y_iret rfl (Nat.le_of_ble_eq_true rfl) (Nat.le_of_ble_eq_true rfl) dX11_worth_71 (hr ((x1.1 17 a1.toNatClampNeg, x6)) (kbG_some h))
    · replace h := kbG_t hc h
      refine y_aload_n dX11_worth_12 rfl ?_
      obtain ⟨x7, hx0, h⟩ := kbG_bind h
      refine y_invV_i cvX11_251 sh0 rfl (sp_KB_refuseAct x1 hx0) rfl rfl (Nat.le_of_ble_eq_true rfl) ⟨(Nat.le_of_ble_eq_true rfl), (Nat.le_of_ble_eq_true rfl), (Nat.le_of_ble_eq_true rfl), (Nat.le_of_ble_eq_true rfl)⟩ dX11_worth_13 ?_
      exact y_iret rfl (Nat.le_of_ble_eq_true rfl) (Nat.le_of_ble_eq_true rfl) dX11_worth_16 (hr ((x7.1, x7.2)) (kbG_some h))
  · obtain ⟨z, e, _⟩ := e; cases e
def f_KB_part (n : Nat) (a1 : Int32) (a2 : Int32) (μ : kbM) : Option ((Bool × kbM) ⊕ (Int32 × kbM)) :=
  kbOr (f_KB_needWord n a1 μ) (fun r2 => some (.inl r2)) fun x1 =>
  (f_KB_isPart a2).bind fun x3 =>
  if x3 = 0 then
    (f_KB_refuseAct x1).bind fun x7 =>
    some (.inr ((x7.1, x7.2)))
  else
    kbIf (kbIn a1 10) <|
    (f_ST_keepWord_12 2 a1 x1).bind fun x4 =>
    kbIf (kbIn a1 10) <|
    (f_WO_change_13 a1 a2 (x4.1 17 a1.toNatClampNeg) x4).bind fun x5 =>
    (f_JO_renew x5).bind fun x6 =>
    some (.inr ((x1.1 16 a1.toNatClampNeg, x6)))
theorem sp_KB_part {l : Launch} (hl : l.stackTraces = false) (n : Nat) (a1 : Int32) (a2 : Int32) (μ : kbM) {x : (Bool × kbM) ⊕ (Int32 × kbM)} (h : f_KB_part n a1 a2 μ = some x) : kbSX l MX11_part 7 1 [.ref 0, .int a1, .int a2] μ (fun r μ' => ∃ z, x = .inr z ∧ r = (some (.int z.1)) ∧ μ' = z.2) (fun X μ' => ∃ z, x = .inl z ∧ X = kbXn z.1 ∧ μ' = z.2) := by
  refine kb_enterX 1 rfl rfl ?_
  suffices H : ∀ (Q : kbQt) (QX : kbXt) (P : (Bool × kbM) ⊕ (Int32 × kbM) → Prop), (∀ z : Int32 × kbM, P (.inr z) → Q (some (.int z.1)) z.2) → (∀ z : Bool × kbM, P (.inl z) → QX (kbXn z.1) z.2) → kbG (f_KB_part n a1 a2 μ) P → kbY l MX11_part [] (kbRmX 7 1) 0 0 (kbFx 1 Q QX) 0 [some (.ref 0), some (.int a1), some (.int a2), none] [] μ from H _ _ (fun z => z = x) (fun z e => ⟨z, e.symm, rfl, rfl⟩) (fun z e => ⟨z, e.symm, rfl, rfl⟩) ⟨x, h, rfl⟩
  clear h
  intro Q QX P hr he h
  unfold f_KB_part at h
  refine y_aload_n dX11_part_0 rfl ?_
  refine y_iload_n dX11_part_1 rfl ?_
  rcases kbG_or h with ⟨r2, hx0, h⟩ | ⟨x1, hx0, h⟩
  · refine y_invVX cvX11_162 sh0 rfl (sp_KB_needWord hl n a1 μ hx0) rfl rfl (Nat.le_of_ble_eq_true rfl) ⟨(Nat.le_of_ble_eq_true rfl), (Nat.le_of_ble_eq_true rfl), (Nat.le_of_ble_eq_true rfl), (Nat.le_of_ble_eq_true rfl)⟩ dX11_part_2 (fun r μ' e => ?_) (fun X μ' e => ?_)
    · obtain ⟨z, e, _⟩ := e; cases e
    · obtain ⟨z, e, rfl, rfl⟩ := e; cases e; exact y_out (Nat.le_of_ble_eq_true rfl) (Nat.le_of_ble_eq_true rfl) (he r2 (kbG_some h))
  refine y_invVX cvX11_162 sh0 rfl (sp_KB_needWord hl n a1 μ hx0) rfl rfl (Nat.le_of_ble_eq_true rfl) ⟨(Nat.le_of_ble_eq_true rfl), (Nat.le_of_ble_eq_true rfl), (Nat.le_of_ble_eq_true rfl), (Nat.le_of_ble_eq_true rfl)⟩ dX11_part_2 (fun r μ' e => ?_) (fun X μ' e => ?_)
  · obtain ⟨z, e, rfl, rfl⟩ := e; cases e
    refine y_iload_n dX11_part_5 rfl ?_
    obtain ⟨x3, hx0, h⟩ := kbG_bind h
    refine y_inv_i csX11_245 (sp_KB_isPart a2 x1 hx0) rfl rfl (Nat.le_of_ble_eq_true rfl) ⟨(Nat.le_of_ble_eq_true rfl), (Nat.le_of_ble_eq_true rfl), (Nat.le_of_ble_eq_true rfl), (Nat.le_of_ble_eq_true rfl)⟩ dX11_part_6 ?_
    refine y_if_ne 17 dX11_part_9 (by decide) (fun hc => ?_) (fun hc => ?_)
    · replace h := kbG_f hc h
      refine y_aload_n dX11_part_17 rfl ?_
      refine y_getR flX11_19 sh0 rfl dX11_part_18 ?_
      refine y_getR flX11_35 sh12 rfl dX11_part_21 ?_
      refine y_getR flX11_171 sh13 rfl dX11_part_24 ?_
      refine y_iload_n dX11_part_27 rfl ?_
      obtain ⟨hin, h⟩ := kbG_if h
      replace hin := kbIn_of hin
      refine yq_iald a1.toNatClampNeg rfl sh16 hin dX11_part_28 ?_
      refine y_istore_n dX11_part_29 (Nat.le_of_ble_eq_true rfl) rfl ?_
      refine y_aload_n dX11_part_30 rfl ?_
      refine y_getR flX11_19 sh0 rfl dX11_part_31 ?_
      refine y_iconst 2 dX11_part_34 (by decide) ?_
      refine y_iload_n dX11_part_35 rfl ?_
      obtain ⟨x4, hx0, h⟩ := kbG_bind h
      refine y_invV_v cvX11_265 sh12 rfl (sp_ST_keepWord_12 2 a1 x1 hx0) rfl rfl (Nat.le_of_ble_eq_true rfl) ⟨(Nat.le_of_ble_eq_true rfl), (Nat.le_of_ble_eq_true rfl), (Nat.le_of_ble_eq_true rfl), (Nat.le_of_ble_eq_true rfl)⟩ dX11_part_36 ?_
      refine y_aload_n dX11_part_39 rfl ?_
      refine y_getR flX11_19 sh0 rfl dX11_part_40 ?_
      refine y_getR flX11_35 sh12 rfl dX11_part_43 ?_
      refine y_iload_n dX11_part_46 rfl ?_
      refine y_iload_n dX11_part_47 rfl ?_
      refine y_aload_n dX11_part_48 rfl ?_
      refine y_getR flX11_19 sh0 rfl dX11_part_49 ?_
      refine y_getR flX11_35 sh12 rfl dX11_part_52 ?_
      refine y_getR flX11_174 sh13 rfl dX11_part_55 ?_
      refine y_iload_n dX11_part_58 rfl ?_
      obtain ⟨hin, h⟩ := kbG_if h
      replace hin := kbIn_of hin
      refine yq_iald a1.toNatClampNeg rfl sh17 hin dX11_part_59 ?_
      obtain ⟨x5, hx0, h⟩ := kbG_bind h
      refine y_invV_v cvX11_271 sh13 rfl (sp_WO_change_13 a1 a2 (x4.1 17 a1.toNatClampNeg) x4 hx0) rfl rfl (Nat.le_of_ble_eq_true rfl) ⟨(Nat.le_of_ble_eq_true rfl), (Nat.le_of_ble_eq_true rfl), (Nat.le_of_ble_eq_true rfl), (Nat.le_of_ble_eq_true rfl)⟩ dX11_part_60 ?_
      refine y_aload_n dX11_part_63 rfl ?_
      refine y_getR flX11_42 sh0 rfl dX11_part_64 ?_
      obtain ⟨x6, hx0, h⟩ := kbG_bind h
      refine y_invV_v cvX11_262 sh35 rfl (sp_JO_renew x5 hx0) rfl rfl (Nat.le_of_ble_eq_true rfl) ⟨(Nat.le_of_ble_eq_true rfl), (Nat.le_of_ble_eq_true rfl), (Nat.le_of_ble_eq_true rfl), (Nat.le_of_ble_eq_true rfl)⟩ dX11_part_67 ?_
      refine y_iload_n dX11_part_70 rfl ?_
      exact y_iret rfl (Nat.le_of_ble_eq_true rfl) (Nat.le_of_ble_eq_true rfl) dX11_part_71 (hr ((x1.1 16 a1.toNatClampNeg, x6)) (kbG_some h))
    · replace h := kbG_t hc h
      refine y_aload_n dX11_part_12 rfl ?_
      obtain ⟨x7, hx0, h⟩ := kbG_bind h
      refine y_invV_i cvX11_251 sh0 rfl (sp_KB_refuseAct x1 hx0) rfl rfl (Nat.le_of_ble_eq_true rfl) ⟨(Nat.le_of_ble_eq_true rfl), (Nat.le_of_ble_eq_true rfl), (Nat.le_of_ble_eq_true rfl), (Nat.le_of_ble_eq_true rfl)⟩ dX11_part_13 ?_
      exact y_iret rfl (Nat.le_of_ble_eq_true rfl) (Nat.le_of_ble_eq_true rfl) dX11_part_16 (hr ((x7.1, x7.2)) (kbG_some h))
  · obtain ⟨z, e, _⟩ := e; cases e
def f_KB_rain (n : Nat) (a1 : Int32) (a2 : Int32) (μ : kbM) : Option ((Bool × kbM) ⊕ (Int32 × kbM)) :=
  kbOr (f_KB_needDoor n a1 μ) (fun r2 => some (.inl r2)) fun x1 =>
  (f_ST_isWet_12 a1 x1).bind fun x3 =>
  if x3 = a2 then
    some (.inr ((0, kbW x1 21 1 ((x1.1 21 1) + 1))))
  else
    (f_ST_keepAct_12 3 a1 0 0 0 x1).bind fun x4 =>
    (f_ST_turnWeather_12 a1 x4).bind fun x5 =>
    some (.inr ((1, x5)))
theorem sp_KB_rain {l : Launch} (hl : l.stackTraces = false) (n : Nat) (a1 : Int32) (a2 : Int32) (μ : kbM) {x : (Bool × kbM) ⊕ (Int32 × kbM)} (h : f_KB_rain n a1 a2 μ = some x) : kbSX l MX11_rain 7 1 [.ref 0, .int a1, .int a2] μ (fun r μ' => ∃ z, x = .inr z ∧ r = (some (.int z.1)) ∧ μ' = z.2) (fun X μ' => ∃ z, x = .inl z ∧ X = kbXn z.1 ∧ μ' = z.2) := by
  refine kb_enterX 0 rfl rfl ?_
  suffices H : ∀ (Q : kbQt) (QX : kbXt) (P : (Bool × kbM) ⊕ (Int32 × kbM) → Prop), (∀ z : Int32 × kbM, P (.inr z) → Q (some (.int z.1)) z.2) → (∀ z : Bool × kbM, P (.inl z) → QX (kbXn z.1) z.2) → kbG (f_KB_rain n a1 a2 μ) P → kbY l MX11_rain [] (kbRmX 7 1) 0 0 (kbFx 1 Q QX) 0 [some (.ref 0), some (.int a1), some (.int a2)] [] μ from H _ _ (fun z => z = x) (fun z e => ⟨z, e.symm, rfl, rfl⟩) (fun z e => ⟨z, e.symm, rfl, rfl⟩) ⟨x, h, rfl⟩
  clear h
  intro Q QX P hr he h
  unfold f_KB_rain at h
  refine y_aload_n dX11_rain_0 rfl ?_
  refine y_iload_n dX11_rain_1 rfl ?_
  rcases kbG_or h with ⟨r2, hx0, h⟩ | ⟨x1, hx0, h⟩
  · refine y_invVX cvX11_182 sh0 rfl (sp_KB_needDoor hl n a1 μ hx0) rfl rfl (Nat.le_of_ble_eq_true rfl) ⟨(Nat.le_of_ble_eq_true rfl), (Nat.le_of_ble_eq_true rfl), (Nat.le_of_ble_eq_true rfl), (Nat.le_of_ble_eq_true rfl)⟩ dX11_rain_2 (fun r μ' e => ?_) (fun X μ' e => ?_)
    · obtain ⟨z, e, _⟩ := e; cases e
    · obtain ⟨z, e, rfl, rfl⟩ := e; cases e; exact y_out (Nat.le_of_ble_eq_true rfl) (Nat.le_of_ble_eq_true rfl) (he r2 (kbG_some h))
  refine y_invVX cvX11_182 sh0 rfl (sp_KB_needDoor hl n a1 μ hx0) rfl rfl (Nat.le_of_ble_eq_true rfl) ⟨(Nat.le_of_ble_eq_true rfl), (Nat.le_of_ble_eq_true rfl), (Nat.le_of_ble_eq_true rfl), (Nat.le_of_ble_eq_true rfl)⟩ dX11_rain_2 (fun r μ' e => ?_) (fun X μ' e => ?_)
  · obtain ⟨z, e, rfl, rfl⟩ := e; cases e
    refine y_aload_n dX11_rain_5 rfl ?_
    refine y_getR flX11_19 sh0 rfl dX11_rain_6 ?_
    refine y_iload_n dX11_rain_9 rfl ?_
    obtain ⟨x3, hx0, h⟩ := kbG_bind h
    refine y_invV_i cvX11_191 sh12 rfl (sp_ST_isWet_12 a1 x1 hx0) rfl rfl (Nat.le_of_ble_eq_true rfl) ⟨(Nat.le_of_ble_eq_true rfl), (Nat.le_of_ble_eq_true rfl), (Nat.le_of_ble_eq_true rfl), (Nat.le_of_ble_eq_true rfl)⟩ dX11_rain_10 ?_
    refine y_iload_n dX11_rain_13 rfl ?_
    refine y_icmp_ne 32 dX11_rain_14 (by decide) (fun hc => ?_) (fun hc => ?_)
    · replace h := kbG_f hc h
      refine y_aload_n dX11_rain_32 rfl ?_
      refine y_getR flX11_19 sh0 rfl dX11_rain_33 ?_
      refine y_iconst 3 dX11_rain_36 (by decide) ?_
      refine y_iload_n dX11_rain_37 rfl ?_
      refine y_iconst 0 dX11_rain_38 (by decide) ?_
      refine y_iconst 0 dX11_rain_39 (by decide) ?_
      refine y_iconst 0 dX11_rain_40 (by decide) ?_
      obtain ⟨x4, hx0, h⟩ := kbG_bind h
      refine y_invV_v cvX11_258 sh12 rfl (sp_ST_keepAct_12 3 a1 0 0 0 x1 hx0) rfl rfl (Nat.le_of_ble_eq_true rfl) ⟨(Nat.le_of_ble_eq_true rfl), (Nat.le_of_ble_eq_true rfl), (Nat.le_of_ble_eq_true rfl), (Nat.le_of_ble_eq_true rfl)⟩ dX11_rain_41 ?_
      refine y_aload_n dX11_rain_44 rfl ?_
      refine y_getR flX11_19 sh0 rfl dX11_rain_45 ?_
      refine y_iload_n dX11_rain_48 rfl ?_
      obtain ⟨x5, hx0, h⟩ := kbG_bind h
      refine y_invV_v cvX11_275 sh12 rfl (sp_ST_turnWeather_12 a1 x4 hx0) rfl rfl (Nat.le_of_ble_eq_true rfl) ⟨(Nat.le_of_ble_eq_true rfl), (Nat.le_of_ble_eq_true rfl), (Nat.le_of_ble_eq_true rfl), (Nat.le_of_ble_eq_true rfl)⟩ dX11_rain_49 ?_
      refine y_iconst 1 dX11_rain_52 (by decide) ?_
      exact y_zret rfl rfl (Nat.le_of_ble_eq_true rfl) (Nat.le_of_ble_eq_true rfl) dX11_rain_53 (hr ((1, x5)) (kbG_some h))
    · replace h := kbG_t hc h
      refine y_aload_n dX11_rain_17 rfl ?_
      refine y_getR flX11_19 sh0 rfl dX11_rain_18 ?_
      refine y_getR flX11_106 sh12 rfl dX11_rain_21 ?_
      refine y_iconst 1 dX11_rain_24 (by decide) ?_
      refine y_dup2 dX11_rain_25 rfl rfl ?_
      have hin : vp_in 1 3 := kbIn_of (by decide)
      refine yq_iald 1 (by decide) sh21 hin dX11_rain_26 ?_
      refine y_iconst 1 dX11_rain_27 (by decide) ?_
      refine y_iadd dX11_rain_28 ?_
      have hin : vp_in 1 3 := kbIn_of (by decide)
      refine yq_iast 1 (by decide) sh21 hin dX11_rain_29 ?_
      refine y_iconst 0 dX11_rain_30 (by decide) ?_
      exact y_zret rfl rfl (Nat.le_of_ble_eq_true rfl) (Nat.le_of_ble_eq_true rfl) dX11_rain_31 (hr ((0, kbW x1 21 1 ((x1.1 21 1) + 1))) (kbG_some h))
  · obtain ⟨z, e, _⟩ := e; cases e
def f_KB_mend (n : Nat) (a1 : Int32) (μ : kbM) : Option ((Bool × kbM) ⊕ (Int32 × kbM)) :=
  kbOr (f_KB_needRow n a1 μ) (fun r2 => some (.inl r2)) fun x1 =>
  (f_SP_stepsToRead n a1 x1).bind fun x3 =>
  some (.inr ((x3.1, x3.2)))
theorem sp_KB_mend {l : Launch} (hl : l.stackTraces = false) (n : Nat) (a1 : Int32) (μ : kbM) {x : (Bool × kbM) ⊕ (Int32 × kbM)} (h : f_KB_mend n a1 μ = some x) : kbSX l MX11_mend 7 1 [.ref 0, .int a1] μ (fun r μ' => ∃ z, x = .inr z ∧ r = (some (.int z.1)) ∧ μ' = z.2) (fun X μ' => ∃ z, x = .inl z ∧ X = kbXn z.1 ∧ μ' = z.2) := by
  refine kb_enterX 0 rfl rfl ?_
  suffices H : ∀ (Q : kbQt) (QX : kbXt) (P : (Bool × kbM) ⊕ (Int32 × kbM) → Prop), (∀ z : Int32 × kbM, P (.inr z) → Q (some (.int z.1)) z.2) → (∀ z : Bool × kbM, P (.inl z) → QX (kbXn z.1) z.2) → kbG (f_KB_mend n a1 μ) P → kbY l MX11_mend [] (kbRmX 7 1) 0 0 (kbFx 1 Q QX) 0 [some (.ref 0), some (.int a1)] [] μ from H _ _ (fun z => z = x) (fun z e => ⟨z, e.symm, rfl, rfl⟩) (fun z e => ⟨z, e.symm, rfl, rfl⟩) ⟨x, h, rfl⟩
  clear h
  intro Q QX P hr he h
  unfold f_KB_mend at h
  refine y_iload_n dX11_mend_0 rfl ?_
  rcases kbG_or h with ⟨r2, hx0, h⟩ | ⟨x1, hx0, h⟩
  · refine y_invX csX11_203 (sp_KB_needRow hl n a1 μ hx0) rfl rfl (Nat.le_of_ble_eq_true rfl) ⟨(Nat.le_of_ble_eq_true rfl), (Nat.le_of_ble_eq_true rfl), (Nat.le_of_ble_eq_true rfl), (Nat.le_of_ble_eq_true rfl)⟩ dX11_mend_1 (fun r μ' e => ?_) (fun X μ' e => ?_)
    · obtain ⟨z, e, _⟩ := e; cases e
    · obtain ⟨z, e, rfl, rfl⟩ := e; cases e; exact y_out (Nat.le_of_ble_eq_true rfl) (Nat.le_of_ble_eq_true rfl) (he r2 (kbG_some h))
  refine y_invX csX11_203 (sp_KB_needRow hl n a1 μ hx0) rfl rfl (Nat.le_of_ble_eq_true rfl) ⟨(Nat.le_of_ble_eq_true rfl), (Nat.le_of_ble_eq_true rfl), (Nat.le_of_ble_eq_true rfl), (Nat.le_of_ble_eq_true rfl)⟩ dX11_mend_1 (fun r μ' e => ?_) (fun X μ' e => ?_)
  · obtain ⟨z, e, rfl, rfl⟩ := e; cases e
    refine y_aload_n dX11_mend_4 rfl ?_
    refine y_getR flX11_58 sh0 rfl dX11_mend_5 ?_
    refine y_iload_n dX11_mend_8 rfl ?_
    obtain ⟨x3, hx0, h⟩ := kbG_bind h
    refine y_invV_i cvX11_281 sh43 rfl (sp_SP_stepsToRead n a1 x1 hx0) rfl rfl (Nat.le_of_ble_eq_true rfl) ⟨(Nat.le_of_ble_eq_true rfl), (Nat.le_of_ble_eq_true rfl), (Nat.le_of_ble_eq_true rfl), (Nat.le_of_ble_eq_true rfl)⟩ dX11_mend_9 ?_
    exact y_iret rfl (Nat.le_of_ble_eq_true rfl) (Nat.le_of_ble_eq_true rfl) dX11_mend_12 (hr ((x3.1, x3.2)) (kbG_some h))
  · obtain ⟨z, e, _⟩ := e; cases e
def jn_KB_newWord_17 (n : Nat) (μ : kbM) : Option ((Bool × kbM) ⊕ (Int32 × kbM)) :=
  some (.inl (false, μ))
theorem jnR_KB_newWord_17 {l : Launch} (hl : l.stackTraces = false) (n : Nat) (μ : kbM) {Q : kbQt} {QX : kbXt} {P : (Bool × kbM) ⊕ (Int32 × kbM) → Prop} (hr : ∀ z : Int32 × kbM, P (.inr z) → Q (some (.int z.1)) z.2) (he : ∀ z : Bool × kbM, P (.inl z) → QX (kbXn z.1) z.2) (h : kbG (jn_KB_newWord_17 n μ) P) : kbY l MX11_newWord [] (kbRmX 7 1) 0 0 (kbFx 1 Q QX) 17 [none, none] [] μ := by
  unfold jn_KB_newWord_17 at h
  exact y_throw hl rfl thI lsX11_293 ⟨(Nat.le_of_ble_eq_true rfl), (Nat.le_of_ble_eq_true rfl), (Nat.le_of_ble_eq_true rfl), (Nat.le_of_ble_eq_true rfl)⟩ (Nat.le_of_ble_eq_true rfl) (Nat.le_of_ble_eq_true rfl) dX11_newWord_17 dX11_newWord_20 (Or.inr ⟨dX11_newWord_21, rfl⟩) dX11_newWord_24 dX11_newWord_27 (he (false, μ) (kbG_some h))
def f_KB_newWord (n : Nat) (a1 : Int32) (μ : kbM) : Option ((Bool × kbM) ⊕ (Int32 × kbM)) :=
  if a1 < 0 then
    jn_KB_newWord_17 n μ
  else
    if a1 < (kbShl 1 (μ.1 32 2)) then
      (f_HO_freshRow n a1 μ).bind fun x1 =>
      some (.inr ((x1.1, x1.2)))
    else
      jn_KB_newWord_17 n μ
theorem sp_KB_newWord {l : Launch} (hl : l.stackTraces = false) (n : Nat) (a1 : Int32) (μ : kbM) {x : (Bool × kbM) ⊕ (Int32 × kbM)} (h : f_KB_newWord n a1 μ = some x) : kbSX l MX11_newWord 7 1 [.ref 0, .int a1] μ (fun r μ' => ∃ z, x = .inr z ∧ r = (some (.int z.1)) ∧ μ' = z.2) (fun X μ' => ∃ z, x = .inl z ∧ X = kbXn z.1 ∧ μ' = z.2) := by
  refine kb_enterX 0 rfl rfl ?_
  suffices H : ∀ (Q : kbQt) (QX : kbXt) (P : (Bool × kbM) ⊕ (Int32 × kbM) → Prop), (∀ z : Int32 × kbM, P (.inr z) → Q (some (.int z.1)) z.2) → (∀ z : Bool × kbM, P (.inl z) → QX (kbXn z.1) z.2) → kbG (f_KB_newWord n a1 μ) P → kbY l MX11_newWord [] (kbRmX 7 1) 0 0 (kbFx 1 Q QX) 0 [some (.ref 0), some (.int a1)] [] μ from H _ _ (fun z => z = x) (fun z e => ⟨z, e.symm, rfl, rfl⟩) (fun z e => ⟨z, e.symm, rfl, rfl⟩) ⟨x, h, rfl⟩
  clear h
  intro Q QX P hr he h
  unfold f_KB_newWord at h
  refine y_iload_n dX11_newWord_0 rfl ?_
  refine y_if_lt 17 dX11_newWord_1 (by decide) (fun hc => ?_) (fun hc => ?_)
  · replace h := kbG_t hc h
    refine y_le [none, none] trivial ?_
    exact jnR_KB_newWord_17 hl n μ hr he h
  · replace h := kbG_f hc h
    refine y_iload_n dX11_newWord_4 rfl ?_
    refine y_iconst 1 dX11_newWord_5 (by decide) ?_
    refine y_aload_n dX11_newWord_6 rfl ?_
    refine y_getR flX11_29 sh0 rfl dX11_newWord_7 ?_
    refine y_getI flX11_140 sh32 rfl dX11_newWord_10 ?_
    refine y_shl dX11_newWord_13 ?_
    refine y_icmp_lt 28 dX11_newWord_14 (by decide) (fun hc => ?_) (fun hc => ?_)
    · replace h := kbG_t hc h
      refine y_aload_n dX11_newWord_28 rfl ?_
      refine y_getR flX11_74 sh0 rfl dX11_newWord_29 ?_
      refine y_iload_n dX11_newWord_32 rfl ?_
      obtain ⟨x1, hx0, h⟩ := kbG_bind h
      refine y_invV_i cvX11_295 sh51 rfl (sp_HO_freshRow n a1 μ hx0) rfl rfl (Nat.le_of_ble_eq_true rfl) ⟨(Nat.le_of_ble_eq_true rfl), (Nat.le_of_ble_eq_true rfl), (Nat.le_of_ble_eq_true rfl), (Nat.le_of_ble_eq_true rfl)⟩ dX11_newWord_33 ?_
      exact y_iret rfl (Nat.le_of_ble_eq_true rfl) (Nat.le_of_ble_eq_true rfl) dX11_newWord_36 (hr ((x1.1, x1.2)) (kbG_some h))
    · replace h := kbG_f hc h
      refine y_le [none, none] trivial ?_
      exact jnR_KB_newWord_17 hl n μ hr he h
def f_KB_span (n : Nat) (a1 : Int32) (a2 : Int32) (μ : kbM) : Option ((Bool × kbM) ⊕ (Int32 × kbM)) :=
  kbOr (f_KB_needWord n a1 μ) (fun r2 => some (.inl r2)) fun x1 =>
  kbOr (f_KB_needWord n a2 x1) (fun r4 => some (.inl r4)) fun x3 =>
  kbIf (kbIn a1 10) <|
  kbIf (kbIn a2 10) <|
  (f_RU_steps n (x3.1 14 a1.toNatClampNeg) (x3.1 14 a2.toNatClampNeg) x3).bind fun x5 =>
  some (.inr ((x5.1, x5.2)))
theorem sp_KB_span {l : Launch} (hl : l.stackTraces = false) (n : Nat) (a1 : Int32) (a2 : Int32) (μ : kbM) {x : (Bool × kbM) ⊕ (Int32 × kbM)} (h : f_KB_span n a1 a2 μ = some x) : kbSX l MX11_span 7 2 [.ref 0, .int a1, .int a2] μ (fun r μ' => ∃ z, x = .inr z ∧ r = (some (.int z.1)) ∧ μ' = z.2) (fun X μ' => ∃ z, x = .inl z ∧ X = kbXn z.1 ∧ μ' = z.2) := by
  refine kb_enterX 0 rfl rfl ?_
  suffices H : ∀ (Q : kbQt) (QX : kbXt) (P : (Bool × kbM) ⊕ (Int32 × kbM) → Prop), (∀ z : Int32 × kbM, P (.inr z) → Q (some (.int z.1)) z.2) → (∀ z : Bool × kbM, P (.inl z) → QX (kbXn z.1) z.2) → kbG (f_KB_span n a1 a2 μ) P → kbY l MX11_span [] (kbRmX 7 2) 0 0 (kbFx 2 Q QX) 0 [some (.ref 0), some (.int a1), some (.int a2)] [] μ from H _ _ (fun z => z = x) (fun z e => ⟨z, e.symm, rfl, rfl⟩) (fun z e => ⟨z, e.symm, rfl, rfl⟩) ⟨x, h, rfl⟩
  clear h
  intro Q QX P hr he h
  unfold f_KB_span at h
  refine y_aload_n dX11_span_0 rfl ?_
  refine y_iload_n dX11_span_1 rfl ?_
  rcases kbG_or h with ⟨r2, hx0, h⟩ | ⟨x1, hx0, h⟩
  · refine y_invVX cvX11_162 sh0 rfl (sp_KB_needWord hl n a1 μ hx0) rfl rfl (Nat.le_of_ble_eq_true rfl) ⟨(Nat.le_of_ble_eq_true rfl), (Nat.le_of_ble_eq_true rfl), (Nat.le_of_ble_eq_true rfl), (Nat.le_of_ble_eq_true rfl)⟩ dX11_span_2 (fun r μ' e => ?_) (fun X μ' e => ?_)
    · obtain ⟨z, e, _⟩ := e; cases e
    · obtain ⟨z, e, rfl, rfl⟩ := e; cases e; exact y_out (Nat.le_of_ble_eq_true rfl) (Nat.le_of_ble_eq_true rfl) (he r2 (kbG_some h))
  refine y_invVX cvX11_162 sh0 rfl (sp_KB_needWord hl n a1 μ hx0) rfl rfl (Nat.le_of_ble_eq_true rfl) ⟨(Nat.le_of_ble_eq_true rfl), (Nat.le_of_ble_eq_true rfl), (Nat.le_of_ble_eq_true rfl), (Nat.le_of_ble_eq_true rfl)⟩ dX11_span_2 (fun r μ' e => ?_) (fun X μ' e => ?_)
  · obtain ⟨z, e, rfl, rfl⟩ := e; cases e
    refine y_aload_n dX11_span_5 rfl ?_
    refine y_iload_n dX11_span_6 rfl ?_
    rcases kbG_or h with ⟨r4, hx0, h⟩ | ⟨x3, hx0, h⟩
    · refine y_invVX cvX11_162 sh0 rfl (sp_KB_needWord hl n a2 x1 hx0) rfl rfl (Nat.le_of_ble_eq_true rfl) ⟨(Nat.le_of_ble_eq_true rfl), (Nat.le_of_ble_eq_true rfl), (Nat.le_of_ble_eq_true rfl), (Nat.le_of_ble_eq_true rfl)⟩ dX11_span_7 (fun r μ' e => ?_) (fun X μ' e => ?_)
      · obtain ⟨z, e, _⟩ := e; cases e
      · obtain ⟨z, e, rfl, rfl⟩ := e; cases e; exact y_out (Nat.le_of_ble_eq_true rfl) (Nat.le_of_ble_eq_true rfl) (he r4 (kbG_some h))
    refine y_invVX cvX11_162 sh0 rfl (sp_KB_needWord hl n a2 x1 hx0) rfl rfl (Nat.le_of_ble_eq_true rfl) ⟨(Nat.le_of_ble_eq_true rfl), (Nat.le_of_ble_eq_true rfl), (Nat.le_of_ble_eq_true rfl), (Nat.le_of_ble_eq_true rfl)⟩ dX11_span_7 (fun r μ' e => ?_) (fun X μ' e => ?_)
    · obtain ⟨z, e, rfl, rfl⟩ := e; cases e
      refine y_aload_n dX11_span_10 rfl ?_
      refine y_getR flX11_49 sh0 rfl dX11_span_11 ?_
      refine y_aload_n dX11_span_14 rfl ?_
      refine y_getR flX11_19 sh0 rfl dX11_span_15 ?_
      refine y_getR flX11_35 sh12 rfl dX11_span_18 ?_
      refine y_getR flX11_165 sh13 rfl dX11_span_21 ?_
      refine y_iload_n dX11_span_24 rfl ?_
      obtain ⟨hin, h⟩ := kbG_if h
      replace hin := kbIn_of hin
      refine yq_iald a1.toNatClampNeg rfl sh14 hin dX11_span_25 ?_
      refine y_aload_n dX11_span_26 rfl ?_
      refine y_getR flX11_19 sh0 rfl dX11_span_27 ?_
      refine y_getR flX11_35 sh12 rfl dX11_span_30 ?_
      refine y_getR flX11_165 sh13 rfl dX11_span_33 ?_
      refine y_iload_n dX11_span_36 rfl ?_
      obtain ⟨hin, h⟩ := kbG_if h
      replace hin := kbIn_of hin
      refine yq_iald a2.toNatClampNeg rfl sh14 hin dX11_span_37 ?_
      obtain ⟨x5, hx0, h⟩ := kbG_bind h
      refine y_invV_i cvX11_229 sh39 rfl (sp_RU_steps n (x3.1 14 a1.toNatClampNeg) (x3.1 14 a2.toNatClampNeg) x3 hx0) rfl rfl (Nat.le_of_ble_eq_true rfl) ⟨(Nat.le_of_ble_eq_true rfl), (Nat.le_of_ble_eq_true rfl), (Nat.le_of_ble_eq_true rfl), (Nat.le_of_ble_eq_true rfl)⟩ dX11_span_38 ?_
      exact y_iret rfl (Nat.le_of_ble_eq_true rfl) (Nat.le_of_ble_eq_true rfl) dX11_span_41 (hr ((x5.1, x5.2)) (kbG_some h))
    · obtain ⟨z, e, _⟩ := e; cases e
  · obtain ⟨z, e, _⟩ := e; cases e
def jn_KB_closest_23 (n : Nat) (v2 : Int32) (μ : kbM) : Option ((Bool × kbM) ⊕ (Int32 × kbM)) :=
  some (.inr ((v2, μ)))
theorem jnR_KB_closest_23 {l : Launch} (hl : l.stackTraces = false) (n : Nat) (v2 : Int32) (μ : kbM) {Q : kbQt} {QX : kbXt} {P : (Bool × kbM) ⊕ (Int32 × kbM) → Prop} (hr : ∀ z : Int32 × kbM, P (.inr z) → Q (some (.int z.1)) z.2) (he : ∀ z : Bool × kbM, P (.inl z) → QX (kbXn z.1) z.2) (h : kbG (jn_KB_closest_23 n v2 μ) P) : kbY l MX11_closest [] (kbRmX 7 1) 1 6 (kbFx 1 Q QX) 23 [none, none, some (.int v2)] [] μ := by
  unfold jn_KB_closest_23 at h
  refine y_iload_n dX11_closest_23 rfl ?_
  exact y_iret rfl (Nat.le_of_ble_eq_true rfl) (Nat.le_of_ble_eq_true rfl) dX11_closest_24 (hr ((v2, μ)) (kbG_some h))
def f_KB_closest (n : Nat) (a1 : Int32) (μ : kbM) : Option ((Bool × kbM) ⊕ (Int32 × kbM)) :=
  kbOr (f_KB_needWhat n a1 2 μ) (fun r2 => some (.inl r2)) fun x1 =>
  (f_RU_closestCouple n x1).bind fun x3 =>
  if x3.1 = (-1) then
    jn_KB_closest_23 n x3.1 x3.2
  else
    if a1 = 1 then
      jn_KB_closest_23 n x3.1 x3.2
    else
      kbIf (kbIn (x3.1 / 10) 10) <|
      kbIf (kbIn (kbRem x3.1 10) 10) <|
      (f_RU_steps n (x3.2.1 14 ((x3.1 / 10).toNatClampNeg)) (x3.2.1 14 ((kbRem x3.1 10).toNatClampNeg)) x3.2).bind fun x4 =>
      some (.inr ((x4.1, x4.2)))
theorem sp_KB_closest {l : Launch} (hl : l.stackTraces = false) (n : Nat) (a1 : Int32) (μ : kbM) {x : (Bool × kbM) ⊕ (Int32 × kbM)} (h : f_KB_closest n a1 μ = some x) : kbSX l MX11_closest 7 1 [.ref 0, .int a1] μ (fun r μ' => ∃ z, x = .inr z ∧ r = (some (.int z.1)) ∧ μ' = z.2) (fun X μ' => ∃ z, x = .inl z ∧ X = kbXn z.1 ∧ μ' = z.2) := by
  refine kb_enterX 1 rfl rfl ?_
  suffices H : ∀ (Q : kbQt) (QX : kbXt) (P : (Bool × kbM) ⊕ (Int32 × kbM) → Prop), (∀ z : Int32 × kbM, P (.inr z) → Q (some (.int z.1)) z.2) → (∀ z : Bool × kbM, P (.inl z) → QX (kbXn z.1) z.2) → kbG (f_KB_closest n a1 μ) P → kbY l MX11_closest [] (kbRmX 7 1) 0 0 (kbFx 1 Q QX) 0 [some (.ref 0), some (.int a1), none] [] μ from H _ _ (fun z => z = x) (fun z e => ⟨z, e.symm, rfl, rfl⟩) (fun z e => ⟨z, e.symm, rfl, rfl⟩) ⟨x, h, rfl⟩
  clear h
  intro Q QX P hr he h
  unfold f_KB_closest at h
  refine y_iload_n dX11_closest_0 rfl ?_
  refine y_iconst 2 dX11_closest_1 (by decide) ?_
  rcases kbG_or h with ⟨r2, hx0, h⟩ | ⟨x1, hx0, h⟩
  · refine y_invX csX11_210 (sp_KB_needWhat hl n a1 2 μ hx0) rfl rfl (Nat.le_of_ble_eq_true rfl) ⟨(Nat.le_of_ble_eq_true rfl), (Nat.le_of_ble_eq_true rfl), (Nat.le_of_ble_eq_true rfl), (Nat.le_of_ble_eq_true rfl)⟩ dX11_closest_2 (fun r μ' e => ?_) (fun X μ' e => ?_)
    · obtain ⟨z, e, _⟩ := e; cases e
    · obtain ⟨z, e, rfl, rfl⟩ := e; cases e; exact y_out (Nat.le_of_ble_eq_true rfl) (Nat.le_of_ble_eq_true rfl) (he r2 (kbG_some h))
  refine y_invX csX11_210 (sp_KB_needWhat hl n a1 2 μ hx0) rfl rfl (Nat.le_of_ble_eq_true rfl) ⟨(Nat.le_of_ble_eq_true rfl), (Nat.le_of_ble_eq_true rfl), (Nat.le_of_ble_eq_true rfl), (Nat.le_of_ble_eq_true rfl)⟩ dX11_closest_2 (fun r μ' e => ?_) (fun X μ' e => ?_)
  · obtain ⟨z, e, rfl, rfl⟩ := e; cases e
    refine y_aload_n dX11_closest_5 rfl ?_
    refine y_getR flX11_49 sh0 rfl dX11_closest_6 ?_
    obtain ⟨x3, hx0, h⟩ := kbG_bind h
    refine y_invV_i cvX11_298 sh39 rfl (sp_RU_closestCouple n x1 hx0) rfl rfl (Nat.le_of_ble_eq_true rfl) ⟨(Nat.le_of_ble_eq_true rfl), (Nat.le_of_ble_eq_true rfl), (Nat.le_of_ble_eq_true rfl), (Nat.le_of_ble_eq_true rfl)⟩ dX11_closest_9 ?_
    refine y_istore_n dX11_closest_12 (Nat.le_of_ble_eq_true rfl) rfl ?_
    refine y_iload_n dX11_closest_13 rfl ?_
    refine y_iconst (-1) dX11_closest_14 (by decide) ?_
    refine y_icmp_eq 23 dX11_closest_15 (by decide) (fun hc => ?_) (fun hc => ?_)
    · replace h := kbG_t hc h
      refine y_le [none, none, some (.int x3.1)] ⟨rfl, trivial⟩ ?_
      exact jnR_KB_closest_23 hl n x3.1 x3.2 hr he h
    · replace h := kbG_f hc h
      refine y_iload_n dX11_closest_18 rfl ?_
      refine y_iconst 1 dX11_closest_19 (by decide) ?_
      refine y_icmp_ne 25 dX11_closest_20 (by decide) (fun hc => ?_) (fun hc => ?_)
      · replace h := kbG_f hc h
        refine y_aload_n dX11_closest_25 rfl ?_
        refine y_getR flX11_49 sh0 rfl dX11_closest_26 ?_
        refine y_aload_n dX11_closest_29 rfl ?_
        refine y_getR flX11_19 sh0 rfl dX11_closest_30 ?_
        refine y_getR flX11_35 sh12 rfl dX11_closest_33 ?_
        refine y_getR flX11_165 sh13 rfl dX11_closest_36 ?_
        refine y_iload_n dX11_closest_39 rfl ?_
        refine y_bipush 10 dX11_closest_40 (by decide) ?_
        refine y_idiv dX11_closest_42 (by decide) ?_
        obtain ⟨hin, h⟩ := kbG_if h
        replace hin := kbIn_of hin
        refine yq_iald ((x3.1 / 10).toNatClampNeg) rfl sh14 hin dX11_closest_43 ?_
        refine y_aload_n dX11_closest_44 rfl ?_
        refine y_getR flX11_19 sh0 rfl dX11_closest_45 ?_
        refine y_getR flX11_35 sh12 rfl dX11_closest_48 ?_
        refine y_getR flX11_165 sh13 rfl dX11_closest_51 ?_
        refine y_iload_n dX11_closest_54 rfl ?_
        refine y_bipush 10 dX11_closest_55 (by decide) ?_
        refine y_rem dX11_closest_57 (by decide) ?_
        obtain ⟨hin, h⟩ := kbG_if h
        replace hin := kbIn_of hin
        refine yq_iald ((kbRem x3.1 10).toNatClampNeg) rfl sh14 hin dX11_closest_58 ?_
        obtain ⟨x4, hx0, h⟩ := kbG_bind h
        refine y_invV_i cvX11_229 sh39 rfl (sp_RU_steps n (x3.2.1 14 ((x3.1 / 10).toNatClampNeg)) (x3.2.1 14 ((kbRem x3.1 10).toNatClampNeg)) x3.2 hx0) rfl rfl (Nat.le_of_ble_eq_true rfl) ⟨(Nat.le_of_ble_eq_true rfl), (Nat.le_of_ble_eq_true rfl), (Nat.le_of_ble_eq_true rfl), (Nat.le_of_ble_eq_true rfl)⟩ dX11_closest_59 ?_
        exact y_iret rfl (Nat.le_of_ble_eq_true rfl) (Nat.le_of_ble_eq_true rfl) dX11_closest_62 (hr ((x4.1, x4.2)) (kbG_some h))
      · replace h := kbG_t hc h
        refine y_le [none, none, some (.int x3.1)] ⟨rfl, trivial⟩ ?_
        exact jnR_KB_closest_23 hl n x3.1 x3.2 hr he h
  · obtain ⟨z, e, _⟩ := e; cases e
def jn_KB_said_10 (n : Nat) (μ : kbM) : Option ((Bool × kbM) ⊕ (Int32 × kbM)) :=
  some (.inl (false, μ))
theorem jnR_KB_said_10 {l : Launch} (hl : l.stackTraces = false) (n : Nat) (μ : kbM) {Q : kbQt} {QX : kbXt} {P : (Bool × kbM) ⊕ (Int32 × kbM) → Prop} (hr : ∀ z : Int32 × kbM, P (.inr z) → Q (some (.int z.1)) z.2) (he : ∀ z : Bool × kbM, P (.inl z) → QX (kbXn z.1) z.2) (h : kbG (jn_KB_said_10 n μ) P) : kbY l MX11_said [] (kbRmX 6 1) 0 0 (kbFx 1 Q QX) 10 [none, none] [] μ := by
  unfold jn_KB_said_10 at h
  exact y_throw hl rfl thI lsX11_301 ⟨(Nat.le_of_ble_eq_true rfl), (Nat.le_of_ble_eq_true rfl), (Nat.le_of_ble_eq_true rfl), (Nat.le_of_ble_eq_true rfl)⟩ (Nat.le_of_ble_eq_true rfl) (Nat.le_of_ble_eq_true rfl) dX11_said_10 dX11_said_13 (Or.inr ⟨dX11_said_14, rfl⟩) dX11_said_17 dX11_said_20 (he (false, μ) (kbG_some h))
def f_KB_said (n : Nat) (a1 : Int32) (μ : kbM) : Option ((Bool × kbM) ⊕ (Int32 × kbM)) :=
  if a1 < 0 then
    jn_KB_said_10 n μ
  else
    if a1 ≤ 12 then
      (f_SP_mostWorth n a1 μ).bind fun x1 =>
      some (.inr ((x1.1, x1.2)))
    else
      jn_KB_said_10 n μ
theorem sp_KB_said {l : Launch} (hl : l.stackTraces = false) (n : Nat) (a1 : Int32) (μ : kbM) {x : (Bool × kbM) ⊕ (Int32 × kbM)} (h : f_KB_said n a1 μ = some x) : kbSX l MX11_said 6 1 [.ref 0, .int a1] μ (fun r μ' => ∃ z, x = .inr z ∧ r = (some (.int z.1)) ∧ μ' = z.2) (fun X μ' => ∃ z, x = .inl z ∧ X = kbXn z.1 ∧ μ' = z.2) := by
  refine kb_enterX 0 rfl rfl ?_
  suffices H : ∀ (Q : kbQt) (QX : kbXt) (P : (Bool × kbM) ⊕ (Int32 × kbM) → Prop), (∀ z : Int32 × kbM, P (.inr z) → Q (some (.int z.1)) z.2) → (∀ z : Bool × kbM, P (.inl z) → QX (kbXn z.1) z.2) → kbG (f_KB_said n a1 μ) P → kbY l MX11_said [] (kbRmX 6 1) 0 0 (kbFx 1 Q QX) 0 [some (.ref 0), some (.int a1)] [] μ from H _ _ (fun z => z = x) (fun z e => ⟨z, e.symm, rfl, rfl⟩) (fun z e => ⟨z, e.symm, rfl, rfl⟩) ⟨x, h, rfl⟩
  clear h
  intro Q QX P hr he h
  unfold f_KB_said at h
  refine y_iload_n dX11_said_0 rfl ?_
  refine y_if_lt 10 dX11_said_1 (by decide) (fun hc => ?_) (fun hc => ?_)
  · replace h := kbG_t hc h
    refine y_le [none, none] trivial ?_
    exact jnR_KB_said_10 hl n μ hr he h
  · replace h := kbG_f hc h
    refine y_iload_n dX11_said_4 rfl ?_
    refine y_bipush 12 dX11_said_5 (by decide) ?_
    refine y_icmp_le 21 dX11_said_7 (by decide) (fun hc => ?_) (fun hc => ?_)
    · replace h := kbG_t hc h
      refine y_aload_n dX11_said_21 rfl ?_
      refine y_getR flX11_58 sh0 rfl dX11_said_22 ?_
      refine y_iload_n dX11_said_25 rfl ?_
      obtain ⟨x1, hx0, h⟩ := kbG_bind h
      refine y_invV_i cvX11_303 sh43 rfl (sp_SP_mostWorth n a1 μ hx0) rfl rfl (Nat.le_of_ble_eq_true rfl) ⟨(Nat.le_of_ble_eq_true rfl), (Nat.le_of_ble_eq_true rfl), (Nat.le_of_ble_eq_true rfl), (Nat.le_of_ble_eq_true rfl)⟩ dX11_said_26 ?_
      exact y_iret rfl (Nat.le_of_ble_eq_true rfl) (Nat.le_of_ble_eq_true rfl) dX11_said_29 (hr ((x1.1, x1.2)) (kbG_some h))
    · replace h := kbG_f hc h
      refine y_le [none, none] trivial ?_
      exact jnR_KB_said_10 hl n μ hr he h
def jn_KB_howMany_11 (n : Nat) (μ : kbM) : Option ((Bool × kbM) ⊕ (Int64 × kbM)) :=
  some (.inl (false, μ))
theorem jnR_KB_howMany_11 {l : Launch} (hl : l.stackTraces = false) (n : Nat) (μ : kbM) {Q : kbQt} {QX : kbXt} {P : (Bool × kbM) ⊕ (Int64 × kbM) → Prop} (hr : ∀ z : Int64 × kbM, P (.inr z) → Q (some (.long z.1)) z.2) (he : ∀ z : Bool × kbM, P (.inl z) → QX (kbXn z.1) z.2) (h : kbG (jn_KB_howMany_11 n μ) P) : kbY l MX11_howMany [] (kbRmX 6 1) 0 0 (kbFx 1 Q QX) 11 [none, none] [] μ := by
  unfold jn_KB_howMany_11 at h
  exact y_throw hl rfl thI lsX11_306 ⟨(Nat.le_of_ble_eq_true rfl), (Nat.le_of_ble_eq_true rfl), (Nat.le_of_ble_eq_true rfl), (Nat.le_of_ble_eq_true rfl)⟩ (Nat.le_of_ble_eq_true rfl) (Nat.le_of_ble_eq_true rfl) dX11_howMany_11 dX11_howMany_14 (Or.inr ⟨dX11_howMany_15, rfl⟩) dX11_howMany_18 dX11_howMany_21 (he (false, μ) (kbG_some h))
def f_KB_howMany (n : Nat) (a1 : Int32) (μ : kbM) : Option ((Bool × kbM) ⊕ (Int64 × kbM)) :=
  if a1 < 1 then
    jn_KB_howMany_11 n μ
  else
    if a1 ≤ 12 then
      (f_SP_rowsOf n a1 μ).bind fun x1 =>
      some (.inr ((x1.1, x1.2)))
    else
      jn_KB_howMany_11 n μ
theorem sp_KB_howMany {l : Launch} (hl : l.stackTraces = false) (n : Nat) (a1 : Int32) (μ : kbM) {x : (Bool × kbM) ⊕ (Int64 × kbM)} (h : f_KB_howMany n a1 μ = some x) : kbSX l MX11_howMany 6 1 [.ref 0, .int a1] μ (fun r μ' => ∃ z, x = .inr z ∧ r = (some (.long z.1)) ∧ μ' = z.2) (fun X μ' => ∃ z, x = .inl z ∧ X = kbXn z.1 ∧ μ' = z.2) := by
  refine kb_enterX 0 rfl rfl ?_
  suffices H : ∀ (Q : kbQt) (QX : kbXt) (P : (Bool × kbM) ⊕ (Int64 × kbM) → Prop), (∀ z : Int64 × kbM, P (.inr z) → Q (some (.long z.1)) z.2) → (∀ z : Bool × kbM, P (.inl z) → QX (kbXn z.1) z.2) → kbG (f_KB_howMany n a1 μ) P → kbY l MX11_howMany [] (kbRmX 6 1) 0 0 (kbFx 1 Q QX) 0 [some (.ref 0), some (.int a1)] [] μ from H _ _ (fun z => z = x) (fun z e => ⟨z, e.symm, rfl, rfl⟩) (fun z e => ⟨z, e.symm, rfl, rfl⟩) ⟨x, h, rfl⟩
  clear h
  intro Q QX P hr he h
  unfold f_KB_howMany at h
  refine y_iload_n dX11_howMany_0 rfl ?_
  refine y_iconst 1 dX11_howMany_1 (by decide) ?_
  refine y_icmp_lt 11 dX11_howMany_2 (by decide) (fun hc => ?_) (fun hc => ?_)
  · replace h := kbG_t hc h
    refine y_le [none, none] trivial ?_
    exact jnR_KB_howMany_11 hl n μ hr he h
  · replace h := kbG_f hc h
    refine y_iload_n dX11_howMany_5 rfl ?_
    refine y_bipush 12 dX11_howMany_6 (by decide) ?_
    refine y_icmp_le 22 dX11_howMany_8 (by decide) (fun hc => ?_) (fun hc => ?_)
    · replace h := kbG_t hc h
      refine y_aload_n dX11_howMany_22 rfl ?_
      refine y_getR flX11_58 sh0 rfl dX11_howMany_23 ?_
      refine y_iload_n dX11_howMany_26 rfl ?_
      obtain ⟨x1, hx0, h⟩ := kbG_bind h
      refine y_invV_l cvX11_308 sh43 rfl (sp_SP_rowsOf n a1 μ hx0) rfl rfl (Nat.le_of_ble_eq_true rfl) ⟨(Nat.le_of_ble_eq_true rfl), (Nat.le_of_ble_eq_true rfl), (Nat.le_of_ble_eq_true rfl), (Nat.le_of_ble_eq_true rfl)⟩ dX11_howMany_27 ?_
      exact y_lret rfl (Nat.le_of_ble_eq_true rfl) (Nat.le_of_ble_eq_true rfl) dX11_howMany_30 (hr ((x1.1, x1.2)) (kbG_some h))
    · replace h := kbG_f hc h
      refine y_le [none, none] trivial ?_
      exact jnR_KB_howMany_11 hl n μ hr he h
def jn_KB_hear_24 (n : Nat) (μ : kbM) : Option ((Bool × kbM) ⊕ (Int32 × kbM)) :=
  some (.inr (((-1), kbW μ 21 2 ((μ.1 21 2) + 1))))
theorem jnR_KB_hear_24 {l : Launch} (hl : l.stackTraces = false) (n : Nat) (μ : kbM) {Q : kbQt} {QX : kbXt} {P : (Bool × kbM) ⊕ (Int32 × kbM) → Prop} (hr : ∀ z : Int32 × kbM, P (.inr z) → Q (some (.int z.1)) z.2) (he : ∀ z : Bool × kbM, P (.inl z) → QX (kbXn z.1) z.2) (h : kbG (jn_KB_hear_24 n μ) P) : kbY l MX11_hear [] (kbRmX 7 1) 1 6 (kbFx 1 Q QX) 24 [some (.ref 0), none, none] [] μ := by
  unfold jn_KB_hear_24 at h
  refine y_aload_n dX11_hear_24 rfl ?_
  refine y_getR flX11_19 sh0 rfl dX11_hear_25 ?_
  refine y_getR flX11_106 sh12 rfl dX11_hear_28 ?_
  refine y_iconst 2 dX11_hear_31 (by decide) ?_
  refine y_dup2 dX11_hear_32 rfl rfl ?_
  have hin : vp_in 2 3 := kbIn_of (by decide)
  refine yq_iald 2 (by decide) sh21 hin dX11_hear_33 ?_
  refine y_iconst 1 dX11_hear_34 (by decide) ?_
  refine y_iadd dX11_hear_35 ?_
  have hin : vp_in 2 3 := kbIn_of (by decide)
  refine yq_iast 2 (by decide) sh21 hin dX11_hear_36 ?_
  refine y_iconst (-1) dX11_hear_37 (by decide) ?_
  exact y_iret rfl (Nat.le_of_ble_eq_true rfl) (Nat.le_of_ble_eq_true rfl) dX11_hear_38 (hr (((-1), kbW μ 21 2 ((μ.1 21 2) + 1))) (kbG_some h))
def f_KB_hear (n : Nat) (a1 : Int32) (a2 : Int32) (μ : kbM) : Option ((Bool × kbM) ⊕ (Int32 × kbM)) :=
  kbOr (f_KB_needDoor n a1 μ) (fun r2 => some (.inl r2)) fun x1 =>
  if 8 ≤ (x1.1 12 6) then
    jn_KB_hear_24 n x1
  else
    (f_RO_isRow n a2).bind fun x3 =>
    if x3 = 0 then
      jn_KB_hear_24 n x1
    else
      kbIf (kbIn (x1.1 12 6) 8) <|
      kbIf (kbIn ((kbW x1 19 ((x1.1 12 6).toNatClampNeg) a1).1 12 6) 8) <|
      some (.inr (((kbW (kbW (kbW x1 19 ((x1.1 12 6).toNatClampNeg) a1) 20 (((kbW x1 19 ((x1.1 12 6).toNatClampNeg) a1).1 12 6).toNatClampNeg) a2) 12 6 (((kbW (kbW x1 19 ((x1.1 12 6).toNatClampNeg) a1) 20 (((kbW x1 19 ((x1.1 12 6).toNatClampNeg) a1).1 12 6).toNatClampNeg) a2).1 12 6) + 1)).1 12 6, kbW (kbW (kbW x1 19 ((x1.1 12 6).toNatClampNeg) a1) 20 (((kbW x1 19 ((x1.1 12 6).toNatClampNeg) a1).1 12 6).toNatClampNeg) a2) 12 6 (((kbW (kbW x1 19 ((x1.1 12 6).toNatClampNeg) a1) 20 (((kbW x1 19 ((x1.1 12 6).toNatClampNeg) a1).1 12 6).toNatClampNeg) a2).1 12 6) + 1))))
theorem sp_KB_hear {l : Launch} (hl : l.stackTraces = false) (n : Nat) (a1 : Int32) (a2 : Int32) (μ : kbM) {x : (Bool × kbM) ⊕ (Int32 × kbM)} (h : f_KB_hear n a1 a2 μ = some x) : kbSX l MX11_hear 7 1 [.ref 0, .int a1, .int a2] μ (fun r μ' => ∃ z, x = .inr z ∧ r = (some (.int z.1)) ∧ μ' = z.2) (fun X μ' => ∃ z, x = .inl z ∧ X = kbXn z.1 ∧ μ' = z.2) := by
  refine kb_enterX 0 rfl rfl ?_
  suffices H : ∀ (Q : kbQt) (QX : kbXt) (P : (Bool × kbM) ⊕ (Int32 × kbM) → Prop), (∀ z : Int32 × kbM, P (.inr z) → Q (some (.int z.1)) z.2) → (∀ z : Bool × kbM, P (.inl z) → QX (kbXn z.1) z.2) → kbG (f_KB_hear n a1 a2 μ) P → kbY l MX11_hear [] (kbRmX 7 1) 0 0 (kbFx 1 Q QX) 0 [some (.ref 0), some (.int a1), some (.int a2)] [] μ from H _ _ (fun z => z = x) (fun z e => ⟨z, e.symm, rfl, rfl⟩) (fun z e => ⟨z, e.symm, rfl, rfl⟩) ⟨x, h, rfl⟩
  clear h
  intro Q QX P hr he h
  unfold f_KB_hear at h
  refine y_aload_n dX11_hear_0 rfl ?_
  refine y_iload_n dX11_hear_1 rfl ?_
  rcases kbG_or h with ⟨r2, hx0, h⟩ | ⟨x1, hx0, h⟩
  · refine y_invVX cvX11_182 sh0 rfl (sp_KB_needDoor hl n a1 μ hx0) rfl rfl (Nat.le_of_ble_eq_true rfl) ⟨(Nat.le_of_ble_eq_true rfl), (Nat.le_of_ble_eq_true rfl), (Nat.le_of_ble_eq_true rfl), (Nat.le_of_ble_eq_true rfl)⟩ dX11_hear_2 (fun r μ' e => ?_) (fun X μ' e => ?_)
    · obtain ⟨z, e, _⟩ := e; cases e
    · obtain ⟨z, e, rfl, rfl⟩ := e; cases e; exact y_out (Nat.le_of_ble_eq_true rfl) (Nat.le_of_ble_eq_true rfl) (he r2 (kbG_some h))
  refine y_invVX cvX11_182 sh0 rfl (sp_KB_needDoor hl n a1 μ hx0) rfl rfl (Nat.le_of_ble_eq_true rfl) ⟨(Nat.le_of_ble_eq_true rfl), (Nat.le_of_ble_eq_true rfl), (Nat.le_of_ble_eq_true rfl), (Nat.le_of_ble_eq_true rfl)⟩ dX11_hear_2 (fun r μ' e => ?_) (fun X μ' e => ?_)
  · obtain ⟨z, e, rfl, rfl⟩ := e; cases e
    refine y_aload_n dX11_hear_5 rfl ?_
    refine y_getR flX11_19 sh0 rfl dX11_hear_6 ?_
    refine y_getI flX11_154 sh12 rfl dX11_hear_9 ?_
    refine y_bipush 8 dX11_hear_12 (by decide) ?_
    refine y_icmp_ge 24 dX11_hear_14 (by decide) (fun hc => ?_) (fun hc => ?_)
    · replace h := kbG_t hc h
      refine y_le [some (.ref 0), none, none] ⟨rfl, trivial⟩ ?_
      exact jnR_KB_hear_24 hl n x1 hr he h
    · replace h := kbG_f hc h
      refine y_iload_n dX11_hear_17 rfl ?_
      obtain ⟨x3, hx0, h⟩ := kbG_bind h
      refine y_inv_i csX11_235 (sp_RO_isRow n a2 x1 hx0) rfl rfl (Nat.le_of_ble_eq_true rfl) ⟨(Nat.le_of_ble_eq_true rfl), (Nat.le_of_ble_eq_true rfl), (Nat.le_of_ble_eq_true rfl), (Nat.le_of_ble_eq_true rfl)⟩ dX11_hear_18 ?_
      refine y_if_ne 39 dX11_hear_21 (by decide) (fun hc => ?_) (fun hc => ?_)
      · replace h := kbG_f hc h
        refine y_aload_n dX11_hear_39 rfl ?_
        refine y_getR flX11_19 sh0 rfl dX11_hear_40 ?_
        refine y_getR flX11_312 sh12 rfl dX11_hear_43 ?_
        refine y_aload_n dX11_hear_46 rfl ?_
        refine y_getR flX11_19 sh0 rfl dX11_hear_47 ?_
        refine y_getI flX11_154 sh12 rfl dX11_hear_50 ?_
        refine y_iload_n dX11_hear_53 rfl ?_
        obtain ⟨hin, h⟩ := kbG_if h
        replace hin := kbIn_of hin
        refine yq_iast ((x1.1 12 6).toNatClampNeg) rfl sh19 hin dX11_hear_54 ?_
        refine y_aload_n dX11_hear_55 rfl ?_
        refine y_getR flX11_19 sh0 rfl dX11_hear_56 ?_
        refine y_getR flX11_315 sh12 rfl dX11_hear_59 ?_
        refine y_aload_n dX11_hear_62 rfl ?_
        refine y_getR flX11_19 sh0 rfl dX11_hear_63 ?_
        refine y_getI flX11_154 sh12 rfl dX11_hear_66 ?_
        refine y_iload_n dX11_hear_69 rfl ?_
        obtain ⟨hin, h⟩ := kbG_if h
        replace hin := kbIn_of hin
        refine yq_iast (((kbW x1 19 ((x1.1 12 6).toNatClampNeg) a1).1 12 6).toNatClampNeg) rfl sh20 hin dX11_hear_70 ?_
        refine y_aload_n dX11_hear_71 rfl ?_
        refine y_getR flX11_19 sh0 rfl dX11_hear_72 ?_
        refine y_dup dX11_hear_75 rfl ?_
        refine y_getI flX11_154 sh12 rfl dX11_hear_76 ?_
        refine y_iconst 1 dX11_hear_79 (by decide) ?_
        refine y_iadd dX11_hear_80 ?_
        refine y_put flX11_154 sh12 rfl rfl rfl dX11_hear_81 ?_
        refine y_aload_n dX11_hear_84 rfl ?_
        refine y_getR flX11_19 sh0 rfl dX11_hear_85 ?_
        refine y_getI flX11_154 sh12 rfl dX11_hear_88 ?_
        exact y_iret rfl (Nat.le_of_ble_eq_true rfl) (Nat.le_of_ble_eq_true rfl) dX11_hear_91 (hr (((kbW (kbW (kbW x1 19 ((x1.1 12 6).toNatClampNeg) a1) 20 (((kbW x1 19 ((x1.1 12 6).toNatClampNeg) a1).1 12 6).toNatClampNeg) a2) 12 6 (((kbW (kbW x1 19 ((x1.1 12 6).toNatClampNeg) a1) 20 (((kbW x1 19 ((x1.1 12 6).toNatClampNeg) a1).1 12 6).toNatClampNeg) a2).1 12 6) + 1)).1 12 6, kbW (kbW (kbW x1 19 ((x1.1 12 6).toNatClampNeg) a1) 20 (((kbW x1 19 ((x1.1 12 6).toNatClampNeg) a1).1 12 6).toNatClampNeg) a2) 12 6 (((kbW (kbW x1 19 ((x1.1 12 6).toNatClampNeg) a1) 20 (((kbW x1 19 ((x1.1 12 6).toNatClampNeg) a1).1 12 6).toNatClampNeg) a2).1 12 6) + 1))) (kbG_some h))
      · replace h := kbG_t hc h
        refine y_le [some (.ref 0), none, none] ⟨rfl, trivial⟩ ?_
        exact jnR_KB_hear_24 hl n x1 hr he h
  · obtain ⟨z, e, _⟩ := e; cases e
def jn_KB_listen_46 (n : Nat) (w0 : Int32) (μ : kbM) : Option ((Bool × kbM) ⊕ (Int32 × kbM)) :=
  some (.inr ((w0, μ)))
theorem jnR_KB_listen_46 {l : Launch} (hl : l.stackTraces = false) (n : Nat) (w0 : Int32) (μ : kbM) {Q : kbQt} {QX : kbXt} {P : (Bool × kbM) ⊕ (Int32 × kbM) → Prop} (hr : ∀ z : Int32 × kbM, P (.inr z) → Q (some (.int z.1)) z.2) (he : ∀ z : Bool × kbM, P (.inl z) → QX (kbXn z.1) z.2) (h : kbG (jn_KB_listen_46 n w0 μ) P) : kbY l MX11_listen [] (kbRmX 7 1) 1 6 (kbFx 1 Q QX) 46 [none, none, none, none] [.int w0] μ := by
  unfold jn_KB_listen_46 at h
  exact y_iret rfl (Nat.le_of_ble_eq_true rfl) (Nat.le_of_ble_eq_true rfl) dX11_listen_46 (hr ((w0, μ)) (kbG_some h))
def f_KB_listen (n : Nat) (a1 : Int32) (μ : kbM) : Option ((Bool × kbM) ⊕ (Int32 × kbM)) :=
  kbOr (f_KB_needWhat n a1 2 μ) (fun r2 => some (.inl r2)) fun x1 =>
  (f_HO_wordsHeard n x1).bind fun x3 =>
  (f_HO_tellingDoor n x3 x1).bind fun x4 =>
  if a1 = 0 then
    some (.inr ((x4.1, x4.2)))
  else
    if x4.1 = (-1) then
      jn_KB_listen_46 n 0 x4.2
    else
      (f_HO_unlike n x4.1 x3 x4.2).bind fun x5 =>
      jn_KB_listen_46 n x5.1 x5.2
theorem sp_KB_listen {l : Launch} (hl : l.stackTraces = false) (n : Nat) (a1 : Int32) (μ : kbM) {x : (Bool × kbM) ⊕ (Int32 × kbM)} (h : f_KB_listen n a1 μ = some x) : kbSX l MX11_listen 7 1 [.ref 0, .int a1] μ (fun r μ' => ∃ z, x = .inr z ∧ r = (some (.int z.1)) ∧ μ' = z.2) (fun X μ' => ∃ z, x = .inl z ∧ X = kbXn z.1 ∧ μ' = z.2) := by
  refine kb_enterX 2 rfl rfl ?_
  suffices H : ∀ (Q : kbQt) (QX : kbXt) (P : (Bool × kbM) ⊕ (Int32 × kbM) → Prop), (∀ z : Int32 × kbM, P (.inr z) → Q (some (.int z.1)) z.2) → (∀ z : Bool × kbM, P (.inl z) → QX (kbXn z.1) z.2) → kbG (f_KB_listen n a1 μ) P → kbY l MX11_listen [] (kbRmX 7 1) 0 0 (kbFx 1 Q QX) 0 [some (.ref 0), some (.int a1), none, none] [] μ from H _ _ (fun z => z = x) (fun z e => ⟨z, e.symm, rfl, rfl⟩) (fun z e => ⟨z, e.symm, rfl, rfl⟩) ⟨x, h, rfl⟩
  clear h
  intro Q QX P hr he h
  unfold f_KB_listen at h
  refine y_iload_n dX11_listen_0 rfl ?_
  refine y_iconst 2 dX11_listen_1 (by decide) ?_
  rcases kbG_or h with ⟨r2, hx0, h⟩ | ⟨x1, hx0, h⟩
  · refine y_invX csX11_210 (sp_KB_needWhat hl n a1 2 μ hx0) rfl rfl (Nat.le_of_ble_eq_true rfl) ⟨(Nat.le_of_ble_eq_true rfl), (Nat.le_of_ble_eq_true rfl), (Nat.le_of_ble_eq_true rfl), (Nat.le_of_ble_eq_true rfl)⟩ dX11_listen_2 (fun r μ' e => ?_) (fun X μ' e => ?_)
    · obtain ⟨z, e, _⟩ := e; cases e
    · obtain ⟨z, e, rfl, rfl⟩ := e; cases e; exact y_out (Nat.le_of_ble_eq_true rfl) (Nat.le_of_ble_eq_true rfl) (he r2 (kbG_some h))
  refine y_invX csX11_210 (sp_KB_needWhat hl n a1 2 μ hx0) rfl rfl (Nat.le_of_ble_eq_true rfl) ⟨(Nat.le_of_ble_eq_true rfl), (Nat.le_of_ble_eq_true rfl), (Nat.le_of_ble_eq_true rfl), (Nat.le_of_ble_eq_true rfl)⟩ dX11_listen_2 (fun r μ' e => ?_) (fun X μ' e => ?_)
  · obtain ⟨z, e, rfl, rfl⟩ := e; cases e
    refine y_aload_n dX11_listen_5 rfl ?_
    refine y_getR flX11_74 sh0 rfl dX11_listen_6 ?_
    obtain ⟨x3, hx0, h⟩ := kbG_bind h
    refine y_invV_i cvX11_318 sh51 rfl (sp_HO_wordsHeard n x1 hx0) rfl rfl (Nat.le_of_ble_eq_true rfl) ⟨(Nat.le_of_ble_eq_true rfl), (Nat.le_of_ble_eq_true rfl), (Nat.le_of_ble_eq_true rfl), (Nat.le_of_ble_eq_true rfl)⟩ dX11_listen_9 ?_
    refine y_istore_n dX11_listen_12 (Nat.le_of_ble_eq_true rfl) rfl ?_
    refine y_aload_n dX11_listen_13 rfl ?_
    refine y_getR flX11_74 sh0 rfl dX11_listen_14 ?_
    refine y_iload_n dX11_listen_17 rfl ?_
    obtain ⟨x4, hx0, h⟩ := kbG_bind h
    refine y_invV_i cvX11_321 sh51 rfl (sp_HO_tellingDoor n x3 x1 hx0) rfl rfl (Nat.le_of_ble_eq_true rfl) ⟨(Nat.le_of_ble_eq_true rfl), (Nat.le_of_ble_eq_true rfl), (Nat.le_of_ble_eq_true rfl), (Nat.le_of_ble_eq_true rfl)⟩ dX11_listen_18 ?_
    refine y_istore_n dX11_listen_21 (Nat.le_of_ble_eq_true rfl) rfl ?_
    refine y_iload_n dX11_listen_22 rfl ?_
    refine y_if_ne 28 dX11_listen_23 (by decide) (fun hc => ?_) (fun hc => ?_)
    · replace h := kbG_f hc h
      refine y_iload_n dX11_listen_28 rfl ?_
      refine y_iconst (-1) dX11_listen_29 (by decide) ?_
      refine y_icmp_ne 37 dX11_listen_30 (by decide) (fun hc => ?_) (fun hc => ?_)
      · replace h := kbG_f hc h
        refine y_aload_n dX11_listen_37 rfl ?_
        refine y_getR flX11_74 sh0 rfl dX11_listen_38 ?_
        refine y_iload_n dX11_listen_41 rfl ?_
        refine y_iload_n dX11_listen_42 rfl ?_
        obtain ⟨x5, hx0, h⟩ := kbG_bind h
        refine y_invV_i cvX11_324 sh51 rfl (sp_HO_unlike n x4.1 x3 x4.2 hx0) rfl rfl (Nat.le_of_ble_eq_true rfl) ⟨(Nat.le_of_ble_eq_true rfl), (Nat.le_of_ble_eq_true rfl), (Nat.le_of_ble_eq_true rfl), (Nat.le_of_ble_eq_true rfl)⟩ dX11_listen_43 ?_
        refine y_le [none, none, none, none] trivial ?_
        exact jnR_KB_listen_46 hl n x5.1 x5.2 hr he h
      · replace h := kbG_t hc h
        refine y_iconst 0 dX11_listen_33 (by decide) ?_
        refine y_goto 46 dX11_listen_34 (by decide) ?_
        refine y_le [none, none, none, none] trivial ?_
        exact jnR_KB_listen_46 hl n 0 x4.2 hr he h
    · replace h := kbG_t hc h
      refine y_iload_n dX11_listen_26 rfl ?_
      exact y_iret rfl (Nat.le_of_ble_eq_true rfl) (Nat.le_of_ble_eq_true rfl) dX11_listen_27 (hr ((x4.1, x4.2)) (kbG_some h))
  · obtain ⟨z, e, _⟩ := e; cases e
def f_KB_telegraph (n : Nat) (a1 : Int32) (a2 : Int32) (μ : kbM) : Option ((Bool × kbM) ⊕ (Int32 × kbM)) :=
  kbOr (f_KB_needDoor n a1 μ) (fun r2 => some (.inl r2)) fun x1 =>
  kbOr (f_KB_needDoor n a2 x1) (fun r4 => some (.inl r4)) fun x3 =>
  (f_PL_passing n a1 a2 x3).bind fun x5 =>
  some (.inr ((x5.1, x5.2)))
theorem sp_KB_telegraph {l : Launch} (hl : l.stackTraces = false) (n : Nat) (a1 : Int32) (a2 : Int32) (μ : kbM) {x : (Bool × kbM) ⊕ (Int32 × kbM)} (h : f_KB_telegraph n a1 a2 μ = some x) : kbSX l MX11_telegraph 7 2 [.ref 0, .int a1, .int a2] μ (fun r μ' => ∃ z, x = .inr z ∧ r = (some (.int z.1)) ∧ μ' = z.2) (fun X μ' => ∃ z, x = .inl z ∧ X = kbXn z.1 ∧ μ' = z.2) := by
  refine kb_enterX 0 rfl rfl ?_
  suffices H : ∀ (Q : kbQt) (QX : kbXt) (P : (Bool × kbM) ⊕ (Int32 × kbM) → Prop), (∀ z : Int32 × kbM, P (.inr z) → Q (some (.int z.1)) z.2) → (∀ z : Bool × kbM, P (.inl z) → QX (kbXn z.1) z.2) → kbG (f_KB_telegraph n a1 a2 μ) P → kbY l MX11_telegraph [] (kbRmX 7 2) 0 0 (kbFx 2 Q QX) 0 [some (.ref 0), some (.int a1), some (.int a2)] [] μ from H _ _ (fun z => z = x) (fun z e => ⟨z, e.symm, rfl, rfl⟩) (fun z e => ⟨z, e.symm, rfl, rfl⟩) ⟨x, h, rfl⟩
  clear h
  intro Q QX P hr he h
  unfold f_KB_telegraph at h
  refine y_aload_n dX11_telegraph_0 rfl ?_
  refine y_iload_n dX11_telegraph_1 rfl ?_
  rcases kbG_or h with ⟨r2, hx0, h⟩ | ⟨x1, hx0, h⟩
  · refine y_invVX cvX11_182 sh0 rfl (sp_KB_needDoor hl n a1 μ hx0) rfl rfl (Nat.le_of_ble_eq_true rfl) ⟨(Nat.le_of_ble_eq_true rfl), (Nat.le_of_ble_eq_true rfl), (Nat.le_of_ble_eq_true rfl), (Nat.le_of_ble_eq_true rfl)⟩ dX11_telegraph_2 (fun r μ' e => ?_) (fun X μ' e => ?_)
    · obtain ⟨z, e, _⟩ := e; cases e
    · obtain ⟨z, e, rfl, rfl⟩ := e; cases e; exact y_out (Nat.le_of_ble_eq_true rfl) (Nat.le_of_ble_eq_true rfl) (he r2 (kbG_some h))
  refine y_invVX cvX11_182 sh0 rfl (sp_KB_needDoor hl n a1 μ hx0) rfl rfl (Nat.le_of_ble_eq_true rfl) ⟨(Nat.le_of_ble_eq_true rfl), (Nat.le_of_ble_eq_true rfl), (Nat.le_of_ble_eq_true rfl), (Nat.le_of_ble_eq_true rfl)⟩ dX11_telegraph_2 (fun r μ' e => ?_) (fun X μ' e => ?_)
  · obtain ⟨z, e, rfl, rfl⟩ := e; cases e
    refine y_aload_n dX11_telegraph_5 rfl ?_
    refine y_iload_n dX11_telegraph_6 rfl ?_
    rcases kbG_or h with ⟨r4, hx0, h⟩ | ⟨x3, hx0, h⟩
    · refine y_invVX cvX11_182 sh0 rfl (sp_KB_needDoor hl n a2 x1 hx0) rfl rfl (Nat.le_of_ble_eq_true rfl) ⟨(Nat.le_of_ble_eq_true rfl), (Nat.le_of_ble_eq_true rfl), (Nat.le_of_ble_eq_true rfl), (Nat.le_of_ble_eq_true rfl)⟩ dX11_telegraph_7 (fun r μ' e => ?_) (fun X μ' e => ?_)
      · obtain ⟨z, e, _⟩ := e; cases e
      · obtain ⟨z, e, rfl, rfl⟩ := e; cases e; exact y_out (Nat.le_of_ble_eq_true rfl) (Nat.le_of_ble_eq_true rfl) (he r4 (kbG_some h))
    refine y_invVX cvX11_182 sh0 rfl (sp_KB_needDoor hl n a2 x1 hx0) rfl rfl (Nat.le_of_ble_eq_true rfl) ⟨(Nat.le_of_ble_eq_true rfl), (Nat.le_of_ble_eq_true rfl), (Nat.le_of_ble_eq_true rfl), (Nat.le_of_ble_eq_true rfl)⟩ dX11_telegraph_7 (fun r μ' e => ?_) (fun X μ' e => ?_)
    · obtain ⟨z, e, rfl, rfl⟩ := e; cases e
      refine y_aload_n dX11_telegraph_10 rfl ?_
      refine y_getR flX11_83 sh0 rfl dX11_telegraph_11 ?_
      refine y_iload_n dX11_telegraph_14 rfl ?_
      refine y_iload_n dX11_telegraph_15 rfl ?_
      obtain ⟨x5, hx0, h⟩ := kbG_bind h
      refine y_invV_i cvX11_327 sh54 rfl (sp_PL_passing n a1 a2 x3 hx0) rfl rfl (Nat.le_of_ble_eq_true rfl) ⟨(Nat.le_of_ble_eq_true rfl), (Nat.le_of_ble_eq_true rfl), (Nat.le_of_ble_eq_true rfl), (Nat.le_of_ble_eq_true rfl)⟩ dX11_telegraph_16 ?_
      exact y_iret rfl (Nat.le_of_ble_eq_true rfl) (Nat.le_of_ble_eq_true rfl) dX11_telegraph_19 (hr ((x5.1, x5.2)) (kbG_some h))
    · obtain ⟨z, e, _⟩ := e; cases e
  · obtain ⟨z, e, _⟩ := e; cases e
def jn_KB_game_61 (n : Nat) (w0 : Int32) (μ : kbM) : Option ((Bool × kbM) ⊕ (Int32 × kbM)) :=
  some (.inr ((w0, μ)))
theorem jnR_KB_game_61 {l : Launch} (hl : l.stackTraces = false) (n : Nat) (w0 : Int32) (μ : kbM) {Q : kbQt} {QX : kbXt} {P : (Bool × kbM) ⊕ (Int32 × kbM) → Prop} (hr : ∀ z : Int32 × kbM, P (.inr z) → Q (some (.int z.1)) z.2) (he : ∀ z : Bool × kbM, P (.inl z) → QX (kbXn z.1) z.2) (h : kbG (jn_KB_game_61 n w0 μ) P) : kbY l MX11_game [] (kbRmX 8 4) 3 18 (kbFx 4 Q QX) 61 [none, none, none, none] [.int w0] μ := by
  unfold jn_KB_game_61 at h
  exact y_iret rfl (Nat.le_of_ble_eq_true rfl) (Nat.le_of_ble_eq_true rfl) dX11_game_61 (hr ((w0, μ)) (kbG_some h))
def f_KB_game (n : Nat) (a1 : Int32) (a2 : Int32) (a3 : Int32) (μ : kbM) : Option ((Bool × kbM) ⊕ (Int32 × kbM)) :=
  kbOr (f_KB_needDoor n a1 μ) (fun r2 => some (.inl r2)) fun x1 =>
  kbOr (f_KB_needDoor n a2 x1) (fun r4 => some (.inl r4)) fun x3 =>
  kbOr (f_KB_needWhat n a3 2 x3) (fun r6 => some (.inl r6)) fun x5 =>
  if a1 = a2 then
    some (.inl (false, x5))
  else
    (f_PL_settle n a1 a2 x5).bind fun x7 =>
    if a3 = 0 then
      jn_KB_game_61 n (x7.1 54 5) x7
    else
      jn_KB_game_61 n (x7.1 54 6) x7
theorem sp_KB_game {l : Launch} (hl : l.stackTraces = false) (n : Nat) (a1 : Int32) (a2 : Int32) (a3 : Int32) (μ : kbM) {x : (Bool × kbM) ⊕ (Int32 × kbM)} (h : f_KB_game n a1 a2 a3 μ = some x) : kbSX l MX11_game 8 4 [.ref 0, .int a1, .int a2, .int a3] μ (fun r μ' => ∃ z, x = .inr z ∧ r = (some (.int z.1)) ∧ μ' = z.2) (fun X μ' => ∃ z, x = .inl z ∧ X = kbXn z.1 ∧ μ' = z.2) := by
  refine kb_enterX 0 rfl rfl ?_
  suffices H : ∀ (Q : kbQt) (QX : kbXt) (P : (Bool × kbM) ⊕ (Int32 × kbM) → Prop), (∀ z : Int32 × kbM, P (.inr z) → Q (some (.int z.1)) z.2) → (∀ z : Bool × kbM, P (.inl z) → QX (kbXn z.1) z.2) → kbG (f_KB_game n a1 a2 a3 μ) P → kbY l MX11_game [] (kbRmX 8 4) 0 0 (kbFx 4 Q QX) 0 [some (.ref 0), some (.int a1), some (.int a2), some (.int a3)] [] μ from H _ _ (fun z => z = x) (fun z e => ⟨z, e.symm, rfl, rfl⟩) (fun z e => ⟨z, e.symm, rfl, rfl⟩) ⟨x, h, rfl⟩
  clear h
  intro Q QX P hr he h
  unfold f_KB_game at h
  refine y_aload_n dX11_game_0 rfl ?_
  refine y_iload_n dX11_game_1 rfl ?_
  rcases kbG_or h with ⟨r2, hx0, h⟩ | ⟨x1, hx0, h⟩
  · refine y_invVX cvX11_182 sh0 rfl (sp_KB_needDoor hl n a1 μ hx0) rfl rfl (Nat.le_of_ble_eq_true rfl) ⟨(Nat.le_of_ble_eq_true rfl), (Nat.le_of_ble_eq_true rfl), (Nat.le_of_ble_eq_true rfl), (Nat.le_of_ble_eq_true rfl)⟩ dX11_game_2 (fun r μ' e => ?_) (fun X μ' e => ?_)
    · obtain ⟨z, e, _⟩ := e; cases e
    · obtain ⟨z, e, rfl, rfl⟩ := e; cases e; exact y_out (Nat.le_of_ble_eq_true rfl) (Nat.le_of_ble_eq_true rfl) (he r2 (kbG_some h))
  refine y_invVX cvX11_182 sh0 rfl (sp_KB_needDoor hl n a1 μ hx0) rfl rfl (Nat.le_of_ble_eq_true rfl) ⟨(Nat.le_of_ble_eq_true rfl), (Nat.le_of_ble_eq_true rfl), (Nat.le_of_ble_eq_true rfl), (Nat.le_of_ble_eq_true rfl)⟩ dX11_game_2 (fun r μ' e => ?_) (fun X μ' e => ?_)
  · obtain ⟨z, e, rfl, rfl⟩ := e; cases e
    refine y_aload_n dX11_game_5 rfl ?_
    refine y_iload_n dX11_game_6 rfl ?_
    rcases kbG_or h with ⟨r4, hx0, h⟩ | ⟨x3, hx0, h⟩
    · refine y_invVX cvX11_182 sh0 rfl (sp_KB_needDoor hl n a2 x1 hx0) rfl rfl (Nat.le_of_ble_eq_true rfl) ⟨(Nat.le_of_ble_eq_true rfl), (Nat.le_of_ble_eq_true rfl), (Nat.le_of_ble_eq_true rfl), (Nat.le_of_ble_eq_true rfl)⟩ dX11_game_7 (fun r μ' e => ?_) (fun X μ' e => ?_)
      · obtain ⟨z, e, _⟩ := e; cases e
      · obtain ⟨z, e, rfl, rfl⟩ := e; cases e; exact y_out (Nat.le_of_ble_eq_true rfl) (Nat.le_of_ble_eq_true rfl) (he r4 (kbG_some h))
    refine y_invVX cvX11_182 sh0 rfl (sp_KB_needDoor hl n a2 x1 hx0) rfl rfl (Nat.le_of_ble_eq_true rfl) ⟨(Nat.le_of_ble_eq_true rfl), (Nat.le_of_ble_eq_true rfl), (Nat.le_of_ble_eq_true rfl), (Nat.le_of_ble_eq_true rfl)⟩ dX11_game_7 (fun r μ' e => ?_) (fun X μ' e => ?_)
    · obtain ⟨z, e, rfl, rfl⟩ := e; cases e
      refine y_iload_n dX11_game_10 rfl ?_
      refine y_iconst 2 dX11_game_11 (by decide) ?_
      rcases kbG_or h with ⟨r6, hx0, h⟩ | ⟨x5, hx0, h⟩
      · refine y_invX csX11_210 (sp_KB_needWhat hl n a3 2 x3 hx0) rfl rfl (Nat.le_of_ble_eq_true rfl) ⟨(Nat.le_of_ble_eq_true rfl), (Nat.le_of_ble_eq_true rfl), (Nat.le_of_ble_eq_true rfl), (Nat.le_of_ble_eq_true rfl)⟩ dX11_game_12 (fun r μ' e => ?_) (fun X μ' e => ?_)
        · obtain ⟨z, e, _⟩ := e; cases e
        · obtain ⟨z, e, rfl, rfl⟩ := e; cases e; exact y_out (Nat.le_of_ble_eq_true rfl) (Nat.le_of_ble_eq_true rfl) (he r6 (kbG_some h))
      refine y_invX csX11_210 (sp_KB_needWhat hl n a3 2 x3 hx0) rfl rfl (Nat.le_of_ble_eq_true rfl) ⟨(Nat.le_of_ble_eq_true rfl), (Nat.le_of_ble_eq_true rfl), (Nat.le_of_ble_eq_true rfl), (Nat.le_of_ble_eq_true rfl)⟩ dX11_game_12 (fun r μ' e => ?_) (fun X μ' e => ?_)
      · obtain ⟨z, e, rfl, rfl⟩ := e; cases e
        refine y_iload_n dX11_game_15 rfl ?_
        refine y_iload_n dX11_game_16 rfl ?_
        refine y_icmp_ne 31 dX11_game_17 (by decide) (fun hc => ?_) (fun hc => ?_)
        · replace h := kbG_f hc h
          refine y_aload_n dX11_game_31 rfl ?_
          refine y_getR flX11_83 sh0 rfl dX11_game_32 ?_
          refine y_iload_n dX11_game_35 rfl ?_
          refine y_iload_n dX11_game_36 rfl ?_
          obtain ⟨x7, hx0, h⟩ := kbG_bind h
          refine y_invV_v cvX11_332 sh54 rfl (sp_PL_settle n a1 a2 x5 hx0) rfl rfl (Nat.le_of_ble_eq_true rfl) ⟨(Nat.le_of_ble_eq_true rfl), (Nat.le_of_ble_eq_true rfl), (Nat.le_of_ble_eq_true rfl), (Nat.le_of_ble_eq_true rfl)⟩ dX11_game_37 ?_
          refine y_iload_n dX11_game_40 rfl ?_
          refine y_if_ne 54 dX11_game_41 (by decide) (fun hc => ?_) (fun hc => ?_)
          · replace h := kbG_f hc h
            refine y_aload_n dX11_game_54 rfl ?_
            refine y_getR flX11_83 sh0 rfl dX11_game_55 ?_
            refine y_getI flX11_338 sh54 rfl dX11_game_58 ?_
            refine y_le [none, none, none, none] trivial ?_
            exact jnR_KB_game_61 hl n (x7.1 54 6) x7 hr he h
          · replace h := kbG_t hc h
            refine y_aload_n dX11_game_44 rfl ?_
            refine y_getR flX11_83 sh0 rfl dX11_game_45 ?_
            refine y_getI flX11_335 sh54 rfl dX11_game_48 ?_
            refine y_goto 61 dX11_game_51 (by decide) ?_
            refine y_le [none, none, none, none] trivial ?_
            exact jnR_KB_game_61 hl n (x7.1 54 5) x7 hr he h
        · replace h := kbG_t hc h
          exact y_throw hl rfl thI lsX11_330 ⟨(Nat.le_of_ble_eq_true rfl), (Nat.le_of_ble_eq_true rfl), (Nat.le_of_ble_eq_true rfl), (Nat.le_of_ble_eq_true rfl)⟩ (Nat.le_of_ble_eq_true rfl) (Nat.le_of_ble_eq_true rfl) dX11_game_20 dX11_game_23 (Or.inr ⟨dX11_game_24, rfl⟩) dX11_game_27 dX11_game_30 (he (false, x5) (kbG_some h))
      · obtain ⟨z, e, _⟩ := e; cases e
    · obtain ⟨z, e, _⟩ := e; cases e
  · obtain ⟨z, e, _⟩ := e; cases e
def jn_KB_frost_15 (n : Nat) (μ : kbM) : Option ((Bool × kbM) ⊕ (Int32 × kbM)) :=
  some (.inl (false, μ))
theorem jnR_KB_frost_15 {l : Launch} (hl : l.stackTraces = false) (n : Nat) (μ : kbM) {Q : kbQt} {QX : kbXt} {P : (Bool × kbM) ⊕ (Int32 × kbM) → Prop} (hr : ∀ z : Int32 × kbM, P (.inr z) → Q (some (.int z.1)) z.2) (he : ∀ z : Bool × kbM, P (.inl z) → QX (kbXn z.1) z.2) (h : kbG (jn_KB_frost_15 n μ) P) : kbY l MX11_frost [] (kbRmX 7 2) 1 6 (kbFx 2 Q QX) 15 [none, none, none, none] [] μ := by
  unfold jn_KB_frost_15 at h
  exact y_throw hl rfl thI lsX11_341 ⟨(Nat.le_of_ble_eq_true rfl), (Nat.le_of_ble_eq_true rfl), (Nat.le_of_ble_eq_true rfl), (Nat.le_of_ble_eq_true rfl)⟩ (Nat.le_of_ble_eq_true rfl) (Nat.le_of_ble_eq_true rfl) dX11_frost_15 dX11_frost_18 (Or.inr ⟨dX11_frost_19, rfl⟩) dX11_frost_22 dX11_frost_25 (he (false, μ) (kbG_some h))
def f_KB_frost (n : Nat) (a1 : Int32) (a2 : Int32) (a3 : Int32) (μ : kbM) : Option ((Bool × kbM) ⊕ (Int32 × kbM)) :=
  kbOr (f_KB_needWhat n a3 3 μ) (fun r2 => some (.inl r2)) fun x1 =>
  if a2 < 0 then
    jn_KB_frost_15 n x1
  else
    if a2 ≤ 60 then
      (f_PL_freeze n a1 a2 x1).bind fun x3 =>
      if a3 = 0 then
        some (.inr ((x3.1 54 8, x3)))
      else if a3 = 1 then
        some (.inr ((x3.1 54 9, x3)))
      else
        some (.inr ((x3.1 54 10, x3)))
    else
      jn_KB_frost_15 n x1
theorem sp_KB_frost {l : Launch} (hl : l.stackTraces = false) (n : Nat) (a1 : Int32) (a2 : Int32) (a3 : Int32) (μ : kbM) {x : (Bool × kbM) ⊕ (Int32 × kbM)} (h : f_KB_frost n a1 a2 a3 μ = some x) : kbSX l MX11_frost 7 2 [.ref 0, .int a1, .int a2, .int a3] μ (fun r μ' => ∃ z, x = .inr z ∧ r = (some (.int z.1)) ∧ μ' = z.2) (fun X μ' => ∃ z, x = .inl z ∧ X = kbXn z.1 ∧ μ' = z.2) := by
  refine kb_enterX 0 rfl rfl ?_
  suffices H : ∀ (Q : kbQt) (QX : kbXt) (P : (Bool × kbM) ⊕ (Int32 × kbM) → Prop), (∀ z : Int32 × kbM, P (.inr z) → Q (some (.int z.1)) z.2) → (∀ z : Bool × kbM, P (.inl z) → QX (kbXn z.1) z.2) → kbG (f_KB_frost n a1 a2 a3 μ) P → kbY l MX11_frost [] (kbRmX 7 2) 0 0 (kbFx 2 Q QX) 0 [some (.ref 0), some (.int a1), some (.int a2), some (.int a3)] [] μ from H _ _ (fun z => z = x) (fun z e => ⟨z, e.symm, rfl, rfl⟩) (fun z e => ⟨z, e.symm, rfl, rfl⟩) ⟨x, h, rfl⟩
  clear h
  intro Q QX P hr he h
  unfold f_KB_frost at h
  refine y_iload_n dX11_frost_0 rfl ?_
  refine y_iconst 3 dX11_frost_1 (by decide) ?_
  rcases kbG_or h with ⟨r2, hx0, h⟩ | ⟨x1, hx0, h⟩
  · refine y_invX csX11_210 (sp_KB_needWhat hl n a3 3 μ hx0) rfl rfl (Nat.le_of_ble_eq_true rfl) ⟨(Nat.le_of_ble_eq_true rfl), (Nat.le_of_ble_eq_true rfl), (Nat.le_of_ble_eq_true rfl), (Nat.le_of_ble_eq_true rfl)⟩ dX11_frost_2 (fun r μ' e => ?_) (fun X μ' e => ?_)
    · obtain ⟨z, e, _⟩ := e; cases e
    · obtain ⟨z, e, rfl, rfl⟩ := e; cases e; exact y_out (Nat.le_of_ble_eq_true rfl) (Nat.le_of_ble_eq_true rfl) (he r2 (kbG_some h))
  refine y_invX csX11_210 (sp_KB_needWhat hl n a3 3 μ hx0) rfl rfl (Nat.le_of_ble_eq_true rfl) ⟨(Nat.le_of_ble_eq_true rfl), (Nat.le_of_ble_eq_true rfl), (Nat.le_of_ble_eq_true rfl), (Nat.le_of_ble_eq_true rfl)⟩ dX11_frost_2 (fun r μ' e => ?_) (fun X μ' e => ?_)
  · obtain ⟨z, e, rfl, rfl⟩ := e; cases e
    refine y_iload_n dX11_frost_5 rfl ?_
    refine y_if_lt 15 dX11_frost_6 (by decide) (fun hc => ?_) (fun hc => ?_)
    · replace h := kbG_t hc h
      refine y_le [none, none, none, none] trivial ?_
      exact jnR_KB_frost_15 hl n x1 hr he h
    · replace h := kbG_f hc h
      refine y_iload_n dX11_frost_9 rfl ?_
      refine y_bipush 60 dX11_frost_10 (by decide) ?_
      refine y_icmp_le 26 dX11_frost_12 (by decide) (fun hc => ?_) (fun hc => ?_)
      · replace h := kbG_t hc h
        refine y_aload_n dX11_frost_26 rfl ?_
        refine y_getR flX11_83 sh0 rfl dX11_frost_27 ?_
        refine y_iload_n dX11_frost_30 rfl ?_
        refine y_iload_n dX11_frost_31 rfl ?_
        obtain ⟨x3, hx0, h⟩ := kbG_bind h
        refine y_invV_v cvX11_343 sh54 rfl (sp_PL_freeze n a1 a2 x1 hx0) rfl rfl (Nat.le_of_ble_eq_true rfl) ⟨(Nat.le_of_ble_eq_true rfl), (Nat.le_of_ble_eq_true rfl), (Nat.le_of_ble_eq_true rfl), (Nat.le_of_ble_eq_true rfl)⟩ dX11_frost_32 ?_
        refine y_iload_n dX11_frost_35 rfl ?_
        by_cases hc0 : a3 = 0
        · replace h := kbG_t hc0 h
          refine y_lookup (off := 28) 64 dX11_frost_36 (by decide) (by rw [hc0]; decide) (by decide) ?_
          refine y_aload_n dX11_frost_64 rfl ?_
          refine y_getR flX11_83 sh0 rfl dX11_frost_65 ?_
          refine y_getI flX11_346 sh54 rfl dX11_frost_68 ?_
          exact y_iret rfl (Nat.le_of_ble_eq_true rfl) (Nat.le_of_ble_eq_true rfl) dX11_frost_71 (hr ((x3.1 54 8, x3)) (kbG_some h))
        replace h := kbG_f hc0 h
        by_cases hc1 : a3 = 1
        · replace h := kbG_t hc1 h
          refine y_lookup (off := 36) 72 dX11_frost_36 (by decide) (by rw [hc1]; decide) (by decide) ?_
          refine y_aload_n dX11_frost_72 rfl ?_
          refine y_getR flX11_83 sh0 rfl dX11_frost_73 ?_
          refine y_getI flX11_349 sh54 rfl dX11_frost_76 ?_
          exact y_iret rfl (Nat.le_of_ble_eq_true rfl) (Nat.le_of_ble_eq_true rfl) dX11_frost_79 (hr ((x3.1 54 9, x3)) (kbG_some h))
        replace h := kbG_f hc1 h
        refine y_lookup (off := 44) 80 dX11_frost_36 (by decide) (by simp [Op.lookupswitch.offset, kb_lne (w := 0) 0 (by decide) hc0, Ne.symm (kb_lne (w := 0) 0 (by decide) hc0), kb_lne (w := 1) 1 (by decide) hc1, Ne.symm (kb_lne (w := 1) 1 (by decide) hc1)]) (by decide) ?_
        refine y_aload_n dX11_frost_80 rfl ?_
        refine y_getR flX11_83 sh0 rfl dX11_frost_81 ?_
        refine y_getI flX11_352 sh54 rfl dX11_frost_84 ?_
        exact y_iret rfl (Nat.le_of_ble_eq_true rfl) (Nat.le_of_ble_eq_true rfl) dX11_frost_87 (hr ((x3.1 54 10, x3)) (kbG_some h))
      · replace h := kbG_f hc h
        refine y_le [none, none, none, none] trivial ?_
        exact jnR_KB_frost_15 hl n x1 hr he h
  · obtain ⟨z, e, _⟩ := e; cases e
