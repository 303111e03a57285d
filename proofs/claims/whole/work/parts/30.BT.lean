theorem dX0_append_0 : decode cX0_append 0 = .ok (.aload_n 0, 1) := by decide +kernel
theorem dX0_append_1 : decode cX0_append 1 = .ok (.getfield 36, 3) := by decide +kernel
theorem dX0_append_4 : decode cX0_append 4 = .ok (.iconst 4, 1) := by decide +kernel
theorem dX0_append_5 : decode cX0_append 5 = .ok (.iadd, 1) := by decide +kernel
theorem dX0_append_6 : decode cX0_append 6 = .ok (.sipush 600, 3) := by decide +kernel
theorem dX0_append_9 : decode cX0_append 9 = .ok (.if_icmp .gt 25, 3) := by decide +kernel
theorem dX0_append_12 : decode cX0_append 12 = .ok (.aload_n 0, 1) := by decide +kernel
theorem dX0_append_13 : decode cX0_append 13 = .ok (.getfield 9, 3) := by decide +kernel
theorem dX0_append_16 : decode cX0_append 16 = .ok (.aload_n 0, 1) := by decide +kernel
theorem dX0_append_17 : decode cX0_append 17 = .ok (.getfield 36, 3) := by decide +kernel
theorem dX0_append_20 : decode cX0_append 20 = .ok (.iconst 4, 1) := by decide +kernel
theorem dX0_append_21 : decode cX0_append 21 = .ok (.idiv, 1) := by decide +kernel
theorem dX0_append_22 : decode cX0_append 22 = .ok (.iload_n 1, 1) := by decide +kernel
theorem dX0_append_23 : decode cX0_append 23 = .ok (.iastore, 1) := by decide +kernel
theorem dX0_append_24 : decode cX0_append 24 = .ok (.aload_n 0, 1) := by decide +kernel
theorem dX0_append_25 : decode cX0_append 25 = .ok (.dup, 1) := by decide +kernel
theorem dX0_append_26 : decode cX0_append 26 = .ok (.getfield 36, 3) := by decide +kernel
theorem dX0_append_29 : decode cX0_append 29 = .ok (.iconst 4, 1) := by decide +kernel
theorem dX0_append_30 : decode cX0_append 30 = .ok (.iadd, 1) := by decide +kernel
theorem dX0_append_31 : decode cX0_append 31 = .ok (.putfield 36, 3) := by decide +kernel
theorem dX0_append_34 : decode cX0_append 34 = .ok (.return_, 1) := by decide +kernel
theorem dX0_byteAt_0 : decode cX0_byteAt 0 = .ok (.iload_n 1, 1) := by decide +kernel
theorem dX0_byteAt_1 : decode cX0_byteAt 1 = .ok (.ifCond .lt 18, 3) := by decide +kernel
theorem dX0_byteAt_4 : decode cX0_byteAt 4 = .ok (.iload_n 1, 1) := by decide +kernel
theorem dX0_byteAt_5 : decode cX0_byteAt 5 = .ok (.aload_n 0, 1) := by decide +kernel
theorem dX0_byteAt_6 : decode cX0_byteAt 6 = .ok (.getfield 39, 3) := by decide +kernel
theorem dX0_byteAt_9 : decode cX0_byteAt 9 = .ok (.if_icmp .ge 10, 3) := by decide +kernel
theorem dX0_byteAt_12 : decode cX0_byteAt 12 = .ok (.iload_n 1, 1) := by decide +kernel
theorem dX0_byteAt_13 : decode cX0_byteAt 13 = .ok (.sipush 600, 3) := by decide +kernel
theorem dX0_byteAt_16 : decode cX0_byteAt 16 = .ok (.if_icmp .lt 5, 3) := by decide +kernel
theorem dX0_byteAt_19 : decode cX0_byteAt 19 = .ok (.iconst 0, 1) := by decide +kernel
theorem dX0_byteAt_20 : decode cX0_byteAt 20 = .ok (.ireturn, 1) := by decide +kernel
theorem dX0_byteAt_21 : decode cX0_byteAt 21 = .ok (.aload_n 0, 1) := by decide +kernel
theorem dX0_byteAt_22 : decode cX0_byteAt 22 = .ok (.getfield 9, 3) := by decide +kernel
theorem dX0_byteAt_25 : decode cX0_byteAt 25 = .ok (.iload_n 1, 1) := by decide +kernel
theorem dX0_byteAt_26 : decode cX0_byteAt 26 = .ok (.iconst 4, 1) := by decide +kernel
theorem dX0_byteAt_27 : decode cX0_byteAt 27 = .ok (.idiv, 1) := by decide +kernel
theorem dX0_byteAt_28 : decode cX0_byteAt 28 = .ok (.iaload, 1) := by decide +kernel
theorem dX0_byteAt_29 : decode cX0_byteAt 29 = .ok (.bipush 24, 2) := by decide +kernel
theorem dX0_byteAt_31 : decode cX0_byteAt 31 = .ok (.iload_n 1, 1) := by decide +kernel
theorem dX0_byteAt_32 : decode cX0_byteAt 32 = .ok (.iconst 4, 1) := by decide +kernel
theorem dX0_byteAt_33 : decode cX0_byteAt 33 = .ok (.irem, 1) := by decide +kernel
theorem dX0_byteAt_34 : decode cX0_byteAt 34 = .ok (.bipush 8, 2) := by decide +kernel
theorem dX0_byteAt_36 : decode cX0_byteAt 36 = .ok (.imul, 1) := by decide +kernel
theorem dX0_byteAt_37 : decode cX0_byteAt 37 = .ok (.isub, 1) := by decide +kernel
theorem dX0_byteAt_38 : decode cX0_byteAt 38 = .ok (.iushr, 1) := by decide +kernel
theorem dX0_byteAt_39 : decode cX0_byteAt 39 = .ok (.sipush 255, 3) := by decide +kernel
theorem dX0_byteAt_42 : decode cX0_byteAt 42 = .ok (.iand, 1) := by decide +kernel
theorem dX0_byteAt_43 : decode cX0_byteAt 43 = .ok (.ireturn, 1) := by decide +kernel
theorem dX0_isBlank_0 : decode cX0_isBlank 0 = .ok (.iload_n 0, 1) := by decide +kernel
theorem dX0_isBlank_1 : decode cX0_isBlank 1 = .ok (.bipush 32, 2) := by decide +kernel
theorem dX0_isBlank_3 : decode cX0_isBlank 3 = .ok (.if_icmp .eq 9, 3) := by decide +kernel
theorem dX0_isBlank_6 : decode cX0_isBlank 6 = .ok (.iload_n 0, 1) := by decide +kernel
theorem dX0_isBlank_7 : decode cX0_isBlank 7 = .ok (.bipush 10, 2) := by decide +kernel
theorem dX0_isBlank_9 : decode cX0_isBlank 9 = .ok (.if_icmp .ne 7, 3) := by decide +kernel
theorem dX0_isBlank_12 : decode cX0_isBlank 12 = .ok (.iconst 1, 1) := by decide +kernel
theorem dX0_isBlank_13 : decode cX0_isBlank 13 = .ok (.goto 4, 3) := by decide +kernel
theorem dX0_isBlank_16 : decode cX0_isBlank 16 = .ok (.iconst 0, 1) := by decide +kernel
theorem dX0_isBlank_17 : decode cX0_isBlank 17 = .ok (.ireturn, 1) := by decide +kernel
theorem dX0_isLetter_0 : decode cX0_isLetter 0 = .ok (.iload_n 0, 1) := by decide +kernel
theorem dX0_isLetter_1 : decode cX0_isLetter 1 = .ok (.bipush 97, 2) := by decide +kernel
theorem dX0_isLetter_3 : decode cX0_isLetter 3 = .ok (.if_icmp .lt 13, 3) := by decide +kernel
theorem dX0_isLetter_6 : decode cX0_isLetter 6 = .ok (.iload_n 0, 1) := by decide +kernel
theorem dX0_isLetter_7 : decode cX0_isLetter 7 = .ok (.bipush 122, 2) := by decide +kernel
theorem dX0_isLetter_9 : decode cX0_isLetter 9 = .ok (.if_icmp .gt 7, 3) := by decide +kernel
theorem dX0_isLetter_12 : decode cX0_isLetter 12 = .ok (.iconst 1, 1) := by decide +kernel
theorem dX0_isLetter_13 : decode cX0_isLetter 13 = .ok (.goto 4, 3) := by decide +kernel
theorem dX0_isLetter_16 : decode cX0_isLetter 16 = .ok (.iconst 0, 1) := by decide +kernel
theorem dX0_isLetter_17 : decode cX0_isLetter 17 = .ok (.ireturn, 1) := by decide +kernel
theorem dX0_isDigit_0 : decode cX0_isDigit 0 = .ok (.iload_n 0, 1) := by decide +kernel
theorem dX0_isDigit_1 : decode cX0_isDigit 1 = .ok (.bipush 48, 2) := by decide +kernel
theorem dX0_isDigit_3 : decode cX0_isDigit 3 = .ok (.if_icmp .lt 13, 3) := by decide +kernel
theorem dX0_isDigit_6 : decode cX0_isDigit 6 = .ok (.iload_n 0, 1) := by decide +kernel
theorem dX0_isDigit_7 : decode cX0_isDigit 7 = .ok (.bipush 57, 2) := by decide +kernel
theorem dX0_isDigit_9 : decode cX0_isDigit 9 = .ok (.if_icmp .gt 7, 3) := by decide +kernel
theorem dX0_isDigit_12 : decode cX0_isDigit 12 = .ok (.iconst 1, 1) := by decide +kernel
theorem dX0_isDigit_13 : decode cX0_isDigit 13 = .ok (.goto 4, 3) := by decide +kernel
theorem dX0_isDigit_16 : decode cX0_isDigit 16 = .ok (.iconst 0, 1) := by decide +kernel
theorem dX0_isDigit_17 : decode cX0_isDigit 17 = .ok (.ireturn, 1) := by decide +kernel
theorem dX0_advance_0 : decode cX0_advance 0 = .ok (.aload_n 0, 1) := by decide +kernel
theorem dX0_advance_1 : decode cX0_advance 1 = .ok (.getfield 52, 3) := by decide +kernel
theorem dX0_advance_4 : decode cX0_advance 4 = .ok (.ifCond .eq 4, 3) := by decide +kernel
theorem dX0_advance_7 : decode cX0_advance 7 = .ok (.return_, 1) := by decide +kernel
theorem dX0_advance_8 : decode cX0_advance 8 = .ok (.aload_n 0, 1) := by decide +kernel
theorem dX0_advance_9 : decode cX0_advance 9 = .ok (.aload_n 0, 1) := by decide +kernel
theorem dX0_advance_10 : decode cX0_advance 10 = .ok (.getfield 49, 3) := by decide +kernel
theorem dX0_advance_13 : decode cX0_advance 13 = .ok (.putfield 119, 3) := by decide +kernel
theorem dX0_advance_16 : decode cX0_advance 16 = .ok (.aload_n 0, 1) := by decide +kernel
theorem dX0_advance_17 : decode cX0_advance 17 = .ok (.getfield 119, 3) := by decide +kernel
theorem dX0_advance_20 : decode cX0_advance 20 = .ok (.aload_n 0, 1) := by decide +kernel
theorem dX0_advance_21 : decode cX0_advance 21 = .ok (.getfield 39, 3) := by decide +kernel
theorem dX0_advance_24 : decode cX0_advance 24 = .ok (.if_icmp .ge 30, 3) := by decide +kernel
theorem dX0_advance_27 : decode cX0_advance 27 = .ok (.aload_n 0, 1) := by decide +kernel
theorem dX0_advance_28 : decode cX0_advance 28 = .ok (.aload_n 0, 1) := by decide +kernel
theorem dX0_advance_29 : decode cX0_advance 29 = .ok (.getfield 119, 3) := by decide +kernel
theorem dX0_advance_32 : decode cX0_advance 32 = .ok (.invokevirtual 122, 3) := by decide +kernel
theorem dX0_advance_35 : decode cX0_advance 35 = .ok (.invokestatic 205, 3) := by decide +kernel
theorem dX0_advance_38 : decode cX0_advance 38 = .ok (.ifCond .eq 16, 3) := by decide +kernel
theorem dX0_advance_41 : decode cX0_advance 41 = .ok (.aload_n 0, 1) := by decide +kernel
theorem dX0_advance_42 : decode cX0_advance 42 = .ok (.dup, 1) := by decide +kernel
theorem dX0_advance_43 : decode cX0_advance 43 = .ok (.getfield 119, 3) := by decide +kernel
theorem dX0_advance_46 : decode cX0_advance 46 = .ok (.iconst 1, 1) := by decide +kernel
theorem dX0_advance_47 : decode cX0_advance 47 = .ok (.iadd, 1) := by decide +kernel
theorem dX0_advance_48 : decode cX0_advance 48 = .ok (.putfield 119, 3) := by decide +kernel
theorem dX0_advance_51 : decode cX0_advance 51 = .ok (.goto (-35), 3) := by decide +kernel
theorem dX0_advance_54 : decode cX0_advance 54 = .ok (.aload_n 0, 1) := by decide +kernel
theorem dX0_advance_55 : decode cX0_advance 55 = .ok (.aload_n 0, 1) := by decide +kernel
theorem dX0_advance_56 : decode cX0_advance 56 = .ok (.getfield 119, 3) := by decide +kernel
theorem dX0_advance_59 : decode cX0_advance 59 = .ok (.iconst 1, 1) := by decide +kernel
theorem dX0_advance_60 : decode cX0_advance 60 = .ok (.iadd, 1) := by decide +kernel
theorem dX0_advance_61 : decode cX0_advance 61 = .ok (.aload_n 0, 1) := by decide +kernel
theorem dX0_advance_62 : decode cX0_advance 62 = .ok (.getfield 39, 3) := by decide +kernel
theorem dX0_advance_65 : decode cX0_advance 65 = .ok (.invokestatic 209, 3) := by decide +kernel
theorem dX0_advance_68 : decode cX0_advance 68 = .ok (.putfield 49, 3) := by decide +kernel
theorem dX0_advance_71 : decode cX0_advance 71 = .ok (.aload_n 0, 1) := by decide +kernel
theorem dX0_advance_72 : decode cX0_advance 72 = .ok (.aload_n 0, 1) := by decide +kernel
theorem dX0_advance_73 : decode cX0_advance 73 = .ok (.getfield 119, 3) := by decide +kernel
theorem dX0_advance_76 : decode cX0_advance 76 = .ok (.invokevirtual 122, 3) := by decide +kernel
theorem dX0_advance_79 : decode cX0_advance 79 = .ok (.istore_n 1, 1) := by decide +kernel
theorem dX0_advance_80 : decode cX0_advance 80 = .ok (.aload_n 0, 1) := by decide +kernel
theorem dX0_advance_81 : decode cX0_advance 81 = .ok (.getfield 119, 3) := by decide +kernel
theorem dX0_advance_84 : decode cX0_advance 84 = .ok (.aload_n 0, 1) := by decide +kernel
theorem dX0_advance_85 : decode cX0_advance 85 = .ok (.getfield 39, 3) := by decide +kernel
theorem dX0_advance_88 : decode cX0_advance 88 = .ok (.if_icmp .lt 11, 3) := by decide +kernel
theorem dX0_advance_91 : decode cX0_advance 91 = .ok (.aload_n 0, 1) := by decide +kernel
theorem dX0_advance_92 : decode cX0_advance 92 = .ok (.iconst 0, 1) := by decide +kernel
theorem dX0_advance_93 : decode cX0_advance 93 = .ok (.putfield 58, 3) := by decide +kernel
theorem dX0_advance_96 : decode cX0_advance 96 = .ok (.goto 122, 3) := by decide +kernel
theorem dX0_advance_99 : decode cX0_advance 99 = .ok (.iload_n 1, 1) := by decide +kernel
theorem dX0_advance_100 : decode cX0_advance 100 = .ok (.invokestatic 215, 3) := by decide +kernel
theorem dX0_advance_103 : decode cX0_advance 103 = .ok (.ifCond .eq 46, 3) := by decide +kernel
theorem dX0_advance_106 : decode cX0_advance 106 = .ok (.aload_n 0, 1) := by decide +kernel
theorem dX0_advance_107 : decode cX0_advance 107 = .ok (.iconst 1, 1) := by decide +kernel
theorem dX0_advance_108 : decode cX0_advance 108 = .ok (.putfield 58, 3) := by decide +kernel
theorem dX0_advance_111 : decode cX0_advance 111 = .ok (.aload_n 0, 1) := by decide +kernel
theorem dX0_advance_112 : decode cX0_advance 112 = .ok (.getfield 49, 3) := by decide +kernel
theorem dX0_advance_115 : decode cX0_advance 115 = .ok (.aload_n 0, 1) := by decide +kernel
theorem dX0_advance_116 : decode cX0_advance 116 = .ok (.getfield 39, 3) := by decide +kernel
theorem dX0_advance_119 : decode cX0_advance 119 = .ok (.if_icmp .ge 99, 3) := by decide +kernel
theorem dX0_advance_122 : decode cX0_advance 122 = .ok (.aload_n 0, 1) := by decide +kernel
theorem dX0_advance_123 : decode cX0_advance 123 = .ok (.aload_n 0, 1) := by decide +kernel
theorem dX0_advance_124 : decode cX0_advance 124 = .ok (.getfield 49, 3) := by decide +kernel
theorem dX0_advance_127 : decode cX0_advance 127 = .ok (.invokevirtual 122, 3) := by decide +kernel
theorem dX0_advance_130 : decode cX0_advance 130 = .ok (.invokestatic 215, 3) := by decide +kernel
theorem dX0_advance_133 : decode cX0_advance 133 = .ok (.ifCond .eq 85, 3) := by decide +kernel
theorem dX0_advance_136 : decode cX0_advance 136 = .ok (.aload_n 0, 1) := by decide +kernel
theorem dX0_advance_137 : decode cX0_advance 137 = .ok (.dup, 1) := by decide +kernel
theorem dX0_advance_138 : decode cX0_advance 138 = .ok (.getfield 49, 3) := by decide +kernel
theorem dX0_advance_141 : decode cX0_advance 141 = .ok (.iconst 1, 1) := by decide +kernel
theorem dX0_advance_142 : decode cX0_advance 142 = .ok (.iadd, 1) := by decide +kernel
theorem dX0_advance_143 : decode cX0_advance 143 = .ok (.putfield 49, 3) := by decide +kernel
theorem dX0_advance_146 : decode cX0_advance 146 = .ok (.goto (-35), 3) := by decide +kernel
theorem dX0_advance_149 : decode cX0_advance 149 = .ok (.iload_n 1, 1) := by decide +kernel
theorem dX0_advance_150 : decode cX0_advance 150 = .ok (.invokestatic 218, 3) := by decide +kernel
theorem dX0_advance_153 : decode cX0_advance 153 = .ok (.ifCond .eq 46, 3) := by decide +kernel
theorem dX0_advance_156 : decode cX0_advance 156 = .ok (.aload_n 0, 1) := by decide +kernel
theorem dX0_advance_157 : decode cX0_advance 157 = .ok (.iconst 2, 1) := by decide +kernel
theorem dX0_advance_158 : decode cX0_advance 158 = .ok (.putfield 58, 3) := by decide +kernel
theorem dX0_advance_161 : decode cX0_advance 161 = .ok (.aload_n 0, 1) := by decide +kernel
theorem dX0_advance_162 : decode cX0_advance 162 = .ok (.getfield 49, 3) := by decide +kernel
theorem dX0_advance_165 : decode cX0_advance 165 = .ok (.aload_n 0, 1) := by decide +kernel
theorem dX0_advance_166 : decode cX0_advance 166 = .ok (.getfield 39, 3) := by decide +kernel
theorem dX0_advance_169 : decode cX0_advance 169 = .ok (.if_icmp .ge 49, 3) := by decide +kernel
theorem dX0_advance_172 : decode cX0_advance 172 = .ok (.aload_n 0, 1) := by decide +kernel
theorem dX0_advance_173 : decode cX0_advance 173 = .ok (.aload_n 0, 1) := by decide +kernel
theorem dX0_advance_174 : decode cX0_advance 174 = .ok (.getfield 49, 3) := by decide +kernel
theorem dX0_advance_177 : decode cX0_advance 177 = .ok (.invokevirtual 122, 3) := by decide +kernel
theorem dX0_advance_180 : decode cX0_advance 180 = .ok (.invokestatic 218, 3) := by decide +kernel
theorem dX0_advance_183 : decode cX0_advance 183 = .ok (.ifCond .eq 35, 3) := by decide +kernel
theorem dX0_advance_186 : decode cX0_advance 186 = .ok (.aload_n 0, 1) := by decide +kernel
theorem dX0_advance_187 : decode cX0_advance 187 = .ok (.dup, 1) := by decide +kernel
theorem dX0_advance_188 : decode cX0_advance 188 = .ok (.getfield 49, 3) := by decide +kernel
theorem dX0_advance_191 : decode cX0_advance 191 = .ok (.iconst 1, 1) := by decide +kernel
theorem dX0_advance_192 : decode cX0_advance 192 = .ok (.iadd, 1) := by decide +kernel
theorem dX0_advance_193 : decode cX0_advance 193 = .ok (.putfield 49, 3) := by decide +kernel
theorem dX0_advance_196 : decode cX0_advance 196 = .ok (.goto (-35), 3) := by decide +kernel
theorem dX0_advance_199 : decode cX0_advance 199 = .ok (.aload_n 0, 1) := by decide +kernel
theorem dX0_advance_200 : decode cX0_advance 200 = .ok (.ldc 221, 2) := by decide +kernel
theorem dX0_advance_202 : decode cX0_advance 202 = .ok (.iload_n 1, 1) := by decide +kernel
theorem dX0_advance_203 : decode cX0_advance 203 = .ok (.i2c, 1) := by decide +kernel
theorem dX0_advance_204 : decode cX0_advance 204 = .ok (.invokevirtual 223, 3) := by decide +kernel
theorem dX0_advance_207 : decode cX0_advance 207 = .ok (.ifCond .lt 7, 3) := by decide +kernel
theorem dX0_advance_210 : decode cX0_advance 210 = .ok (.iload_n 1, 1) := by decide +kernel
theorem dX0_advance_211 : decode cX0_advance 211 = .ok (.goto 4, 3) := by decide +kernel
theorem dX0_advance_214 : decode cX0_advance 214 = .ok (.iconst 3, 1) := by decide +kernel
theorem dX0_advance_215 : decode cX0_advance 215 = .ok (.putfield 58, 3) := by decide +kernel
theorem dX0_advance_218 : decode cX0_advance 218 = .ok (.return_, 1) := by decide +kernel
theorem dX0_isNamed_0 : decode cX0_isNamed 0 = .ok (.aload_n 0, 1) := by decide +kernel
theorem dX0_isNamed_1 : decode cX0_isNamed 1 = .ok (.getfield 58, 3) := by decide +kernel
theorem dX0_isNamed_4 : decode cX0_isNamed 4 = .ok (.iconst 1, 1) := by decide +kernel
theorem dX0_isNamed_5 : decode cX0_isNamed 5 = .ok (.if_icmp .ne 19, 3) := by decide +kernel
theorem dX0_isNamed_8 : decode cX0_isNamed 8 = .ok (.aload_n 0, 1) := by decide +kernel
theorem dX0_isNamed_9 : decode cX0_isNamed 9 = .ok (.getfield 49, 3) := by decide +kernel
theorem dX0_isNamed_12 : decode cX0_isNamed 12 = .ok (.aload_n 0, 1) := by decide +kernel
theorem dX0_isNamed_13 : decode cX0_isNamed 13 = .ok (.getfield 119, 3) := by decide +kernel
theorem dX0_isNamed_16 : decode cX0_isNamed 16 = .ok (.isub, 1) := by decide +kernel
theorem dX0_isNamed_17 : decode cX0_isNamed 17 = .ok (.aload_n 1, 1) := by decide +kernel
theorem dX0_isNamed_18 : decode cX0_isNamed 18 = .ok (.invokevirtual 197, 3) := by decide +kernel
theorem dX0_isNamed_21 : decode cX0_isNamed 21 = .ok (.if_icmp .eq 5, 3) := by decide +kernel
theorem dX0_isNamed_24 : decode cX0_isNamed 24 = .ok (.iconst 0, 1) := by decide +kernel
theorem dX0_isNamed_25 : decode cX0_isNamed 25 = .ok (.ireturn, 1) := by decide +kernel
theorem dX0_isNamed_26 : decode cX0_isNamed 26 = .ok (.iconst 0, 1) := by decide +kernel
theorem dX0_isNamed_27 : decode cX0_isNamed 27 = .ok (.istore_n 2, 1) := by decide +kernel
theorem dX0_isNamed_28 : decode cX0_isNamed 28 = .ok (.iload_n 2, 1) := by decide +kernel
theorem dX0_isNamed_29 : decode cX0_isNamed 29 = .ok (.aload_n 1, 1) := by decide +kernel
theorem dX0_isNamed_30 : decode cX0_isNamed 30 = .ok (.invokevirtual 197, 3) := by decide +kernel
theorem dX0_isNamed_33 : decode cX0_isNamed 33 = .ok (.if_icmp .ge 29, 3) := by decide +kernel
theorem dX0_isNamed_36 : decode cX0_isNamed 36 = .ok (.aload_n 0, 1) := by decide +kernel
theorem dX0_isNamed_37 : decode cX0_isNamed 37 = .ok (.aload_n 0, 1) := by decide +kernel
theorem dX0_isNamed_38 : decode cX0_isNamed 38 = .ok (.getfield 119, 3) := by decide +kernel
theorem dX0_isNamed_41 : decode cX0_isNamed 41 = .ok (.iload_n 2, 1) := by decide +kernel
theorem dX0_isNamed_42 : decode cX0_isNamed 42 = .ok (.iadd, 1) := by decide +kernel
theorem dX0_isNamed_43 : decode cX0_isNamed 43 = .ok (.invokevirtual 122, 3) := by decide +kernel
theorem dX0_isNamed_46 : decode cX0_isNamed 46 = .ok (.aload_n 1, 1) := by decide +kernel
theorem dX0_isNamed_47 : decode cX0_isNamed 47 = .ok (.iload_n 2, 1) := by decide +kernel
theorem dX0_isNamed_48 : decode cX0_isNamed 48 = .ok (.invokevirtual 201, 3) := by decide +kernel
theorem dX0_isNamed_51 : decode cX0_isNamed 51 = .ok (.if_icmp .eq 5, 3) := by decide +kernel
theorem dX0_isNamed_54 : decode cX0_isNamed 54 = .ok (.iconst 0, 1) := by decide +kernel
theorem dX0_isNamed_55 : decode cX0_isNamed 55 = .ok (.ireturn, 1) := by decide +kernel
theorem dX0_isNamed_56 : decode cX0_isNamed 56 = .ok (.iinc 2 1, 3) := by decide +kernel
theorem dX0_isNamed_59 : decode cX0_isNamed 59 = .ok (.goto (-31), 3) := by decide +kernel
theorem dX0_isNamed_62 : decode cX0_isNamed 62 = .ok (.iconst 1, 1) := by decide +kernel
theorem dX0_isNamed_63 : decode cX0_isNamed 63 = .ok (.ireturn, 1) := by decide +kernel
theorem dX0_partNamed_0 : decode cX0_partNamed 0 = .ok (.aload_n 0, 1) := by decide +kernel
theorem dX0_partNamed_1 : decode cX0_partNamed 1 = .ok (.ldc 183, 2) := by decide +kernel
theorem dX0_partNamed_3 : decode cX0_partNamed 3 = .ok (.invokevirtual 80, 3) := by decide +kernel
theorem dX0_partNamed_6 : decode cX0_partNamed 6 = .ok (.ifCond .eq 5, 3) := by decide +kernel
theorem dX0_partNamed_9 : decode cX0_partNamed 9 = .ok (.iconst 0, 1) := by decide +kernel
theorem dX0_partNamed_10 : decode cX0_partNamed 10 = .ok (.ireturn, 1) := by decide +kernel
theorem dX0_partNamed_11 : decode cX0_partNamed 11 = .ok (.aload_n 0, 1) := by decide +kernel
theorem dX0_partNamed_12 : decode cX0_partNamed 12 = .ok (.ldc 185, 2) := by decide +kernel
theorem dX0_partNamed_14 : decode cX0_partNamed 14 = .ok (.invokevirtual 80, 3) := by decide +kernel
theorem dX0_partNamed_17 : decode cX0_partNamed 17 = .ok (.ifCond .eq 5, 3) := by decide +kernel
theorem dX0_partNamed_20 : decode cX0_partNamed 20 = .ok (.iconst 1, 1) := by decide +kernel
theorem dX0_partNamed_21 : decode cX0_partNamed 21 = .ok (.ireturn, 1) := by decide +kernel
theorem dX0_partNamed_22 : decode cX0_partNamed 22 = .ok (.aload_n 0, 1) := by decide +kernel
theorem dX0_partNamed_23 : decode cX0_partNamed 23 = .ok (.ldc 187, 2) := by decide +kernel
theorem dX0_partNamed_25 : decode cX0_partNamed 25 = .ok (.invokevirtual 80, 3) := by decide +kernel
theorem dX0_partNamed_28 : decode cX0_partNamed 28 = .ok (.ifCond .eq 7, 3) := by decide +kernel
theorem dX0_partNamed_31 : decode cX0_partNamed 31 = .ok (.iconst 2, 1) := by decide +kernel
theorem dX0_partNamed_32 : decode cX0_partNamed 32 = .ok (.goto 4, 3) := by decide +kernel
theorem dX0_partNamed_35 : decode cX0_partNamed 35 = .ok (.iconst (-1), 1) := by decide +kernel
theorem dX0_partNamed_36 : decode cX0_partNamed 36 = .ok (.ireturn, 1) := by decide +kernel
theorem dX0_woodNamed_0 : decode cX0_woodNamed 0 = .ok (.aload_n 0, 1) := by decide +kernel
theorem dX0_woodNamed_1 : decode cX0_woodNamed 1 = .ok (.ldc 189, 2) := by decide +kernel
theorem dX0_woodNamed_3 : decode cX0_woodNamed 3 = .ok (.invokevirtual 80, 3) := by decide +kernel
theorem dX0_woodNamed_6 : decode cX0_woodNamed 6 = .ok (.ifCond .eq 5, 3) := by decide +kernel
theorem dX0_woodNamed_9 : decode cX0_woodNamed 9 = .ok (.iconst 0, 1) := by decide +kernel
theorem dX0_woodNamed_10 : decode cX0_woodNamed 10 = .ok (.ireturn, 1) := by decide +kernel
theorem dX0_woodNamed_11 : decode cX0_woodNamed 11 = .ok (.aload_n 0, 1) := by decide +kernel
theorem dX0_woodNamed_12 : decode cX0_woodNamed 12 = .ok (.ldc 191, 2) := by decide +kernel
theorem dX0_woodNamed_14 : decode cX0_woodNamed 14 = .ok (.invokevirtual 80, 3) := by decide +kernel
theorem dX0_woodNamed_17 : decode cX0_woodNamed 17 = .ok (.ifCond .eq 5, 3) := by decide +kernel
theorem dX0_woodNamed_20 : decode cX0_woodNamed 20 = .ok (.iconst 1, 1) := by decide +kernel
theorem dX0_woodNamed_21 : decode cX0_woodNamed 21 = .ok (.ireturn, 1) := by decide +kernel
theorem dX0_woodNamed_22 : decode cX0_woodNamed 22 = .ok (.aload_n 0, 1) := by decide +kernel
theorem dX0_woodNamed_23 : decode cX0_woodNamed 23 = .ok (.ldc 193, 2) := by decide +kernel
theorem dX0_woodNamed_25 : decode cX0_woodNamed 25 = .ok (.invokevirtual 80, 3) := by decide +kernel
theorem dX0_woodNamed_28 : decode cX0_woodNamed 28 = .ok (.ifCond .eq 5, 3) := by decide +kernel
theorem dX0_woodNamed_31 : decode cX0_woodNamed 31 = .ok (.iconst 2, 1) := by decide +kernel
theorem dX0_woodNamed_32 : decode cX0_woodNamed 32 = .ok (.ireturn, 1) := by decide +kernel
theorem dX0_woodNamed_33 : decode cX0_woodNamed 33 = .ok (.aload_n 0, 1) := by decide +kernel
theorem dX0_woodNamed_34 : decode cX0_woodNamed 34 = .ok (.ldc 195, 2) := by decide +kernel
theorem dX0_woodNamed_36 : decode cX0_woodNamed 36 = .ok (.invokevirtual 80, 3) := by decide +kernel
theorem dX0_woodNamed_39 : decode cX0_woodNamed 39 = .ok (.ifCond .eq 7, 3) := by decide +kernel
theorem dX0_woodNamed_42 : decode cX0_woodNamed 42 = .ok (.iconst 3, 1) := by decide +kernel
theorem dX0_woodNamed_43 : decode cX0_woodNamed 43 = .ok (.goto 4, 3) := by decide +kernel
theorem dX0_woodNamed_46 : decode cX0_woodNamed 46 = .ok (.iconst (-1), 1) := by decide +kernel
theorem dX0_woodNamed_47 : decode cX0_woodNamed 47 = .ok (.ireturn, 1) := by decide +kernel
theorem dX0_fail_0 : decode cX0_fail 0 = .ok (.aload_n 0, 1) := by decide +kernel
theorem dX0_fail_1 : decode cX0_fail 1 = .ok (.getfield 52, 3) := by decide +kernel
theorem dX0_fail_4 : decode cX0_fail 4 = .ok (.ifCond .ne 21, 3) := by decide +kernel
theorem dX0_fail_7 : decode cX0_fail 7 = .ok (.aload_n 0, 1) := by decide +kernel
theorem dX0_fail_8 : decode cX0_fail 8 = .ok (.iload_n 1, 1) := by decide +kernel
theorem dX0_fail_9 : decode cX0_fail 9 = .ok (.putfield 52, 3) := by decide +kernel
theorem dX0_fail_12 : decode cX0_fail 12 = .ok (.aload_n 0, 1) := by decide +kernel
theorem dX0_fail_13 : decode cX0_fail 13 = .ok (.aload_n 0, 1) := by decide +kernel
theorem dX0_fail_14 : decode cX0_fail 14 = .ok (.getfield 119, 3) := by decide +kernel
theorem dX0_fail_17 : decode cX0_fail 17 = .ok (.putfield 32, 3) := by decide +kernel
theorem dX0_fail_20 : decode cX0_fail 20 = .ok (.aload_n 0, 1) := by decide +kernel
theorem dX0_fail_21 : decode cX0_fail 21 = .ok (.iconst 4, 1) := by decide +kernel
theorem dX0_fail_22 : decode cX0_fail 22 = .ok (.putfield 58, 3) := by decide +kernel
theorem dX0_fail_25 : decode cX0_fail 25 = .ok (.iconst 0, 1) := by decide +kernel
theorem dX0_fail_26 : decode cX0_fail 26 = .ok (.ireturn, 1) := by decide +kernel
theorem dX0_passSign_0 : decode cX0_passSign 0 = .ok (.aload_n 0, 1) := by decide +kernel
theorem dX0_passSign_1 : decode cX0_passSign 1 = .ok (.getfield 58, 3) := by decide +kernel
theorem dX0_passSign_4 : decode cX0_passSign 4 = .ok (.iload_n 1, 1) := by decide +kernel
theorem dX0_passSign_5 : decode cX0_passSign 5 = .ok (.if_icmp .eq 9, 3) := by decide +kernel
theorem dX0_passSign_8 : decode cX0_passSign 8 = .ok (.aload_n 0, 1) := by decide +kernel
theorem dX0_passSign_9 : decode cX0_passSign 9 = .ok (.iconst 1, 1) := by decide +kernel
theorem dX0_passSign_10 : decode cX0_passSign 10 = .ok (.invokevirtual 87, 3) := by decide +kernel
theorem dX0_passSign_13 : decode cX0_passSign 13 = .ok (.pop, 1) := by decide +kernel
theorem dX0_passSign_14 : decode cX0_passSign 14 = .ok (.aload_n 0, 1) := by decide +kernel
theorem dX0_passSign_15 : decode cX0_passSign 15 = .ok (.invokevirtual 55, 3) := by decide +kernel
theorem dX0_passSign_18 : decode cX0_passSign 18 = .ok (.return_, 1) := by decide +kernel
theorem dX0_valueNamed_0 : decode cX0_valueNamed 0 = .ok (.aload_n 0, 1) := by decide +kernel
theorem dX0_valueNamed_1 : decode cX0_valueNamed 1 = .ok (.ldc 171, 2) := by decide +kernel
theorem dX0_valueNamed_3 : decode cX0_valueNamed 3 = .ok (.invokevirtual 80, 3) := by decide +kernel
theorem dX0_valueNamed_6 : decode cX0_valueNamed 6 = .ok (.ifCond .eq 5, 3) := by decide +kernel
theorem dX0_valueNamed_9 : decode cX0_valueNamed 9 = .ok (.iconst (-1), 1) := by decide +kernel
theorem dX0_valueNamed_10 : decode cX0_valueNamed 10 = .ok (.ireturn, 1) := by decide +kernel
theorem dX0_valueNamed_11 : decode cX0_valueNamed 11 = .ok (.aload_n 0, 1) := by decide +kernel
theorem dX0_valueNamed_12 : decode cX0_valueNamed 12 = .ok (.ldc 173, 2) := by decide +kernel
theorem dX0_valueNamed_14 : decode cX0_valueNamed 14 = .ok (.invokevirtual 80, 3) := by decide +kernel
theorem dX0_valueNamed_17 : decode cX0_valueNamed 17 = .ok (.ifCond .eq 6, 3) := by decide +kernel
theorem dX0_valueNamed_20 : decode cX0_valueNamed 20 = .ok (.bipush (-2), 2) := by decide +kernel
theorem dX0_valueNamed_22 : decode cX0_valueNamed 22 = .ok (.ireturn, 1) := by decide +kernel
theorem dX0_valueNamed_23 : decode cX0_valueNamed 23 = .ok (.aload_n 0, 1) := by decide +kernel
theorem dX0_valueNamed_24 : decode cX0_valueNamed 24 = .ok (.ldc 175, 2) := by decide +kernel
theorem dX0_valueNamed_26 : decode cX0_valueNamed 26 = .ok (.invokevirtual 80, 3) := by decide +kernel
theorem dX0_valueNamed_29 : decode cX0_valueNamed 29 = .ok (.ifCond .eq 6, 3) := by decide +kernel
theorem dX0_valueNamed_32 : decode cX0_valueNamed 32 = .ok (.bipush (-3), 2) := by decide +kernel
theorem dX0_valueNamed_34 : decode cX0_valueNamed 34 = .ok (.ireturn, 1) := by decide +kernel
theorem dX0_valueNamed_35 : decode cX0_valueNamed 35 = .ok (.aload_n 0, 1) := by decide +kernel
theorem dX0_valueNamed_36 : decode cX0_valueNamed 36 = .ok (.ldc 177, 2) := by decide +kernel
theorem dX0_valueNamed_38 : decode cX0_valueNamed 38 = .ok (.invokevirtual 80, 3) := by decide +kernel
theorem dX0_valueNamed_41 : decode cX0_valueNamed 41 = .ok (.ifCond .eq 6, 3) := by decide +kernel
theorem dX0_valueNamed_44 : decode cX0_valueNamed 44 = .ok (.bipush (-4), 2) := by decide +kernel
theorem dX0_valueNamed_46 : decode cX0_valueNamed 46 = .ok (.ireturn, 1) := by decide +kernel
theorem dX0_valueNamed_47 : decode cX0_valueNamed 47 = .ok (.aload_n 0, 1) := by decide +kernel
theorem dX0_valueNamed_48 : decode cX0_valueNamed 48 = .ok (.ldc 179, 2) := by decide +kernel
theorem dX0_valueNamed_50 : decode cX0_valueNamed 50 = .ok (.invokevirtual 80, 3) := by decide +kernel
theorem dX0_valueNamed_53 : decode cX0_valueNamed 53 = .ok (.ifCond .eq 6, 3) := by decide +kernel
theorem dX0_valueNamed_56 : decode cX0_valueNamed 56 = .ok (.bipush (-5), 2) := by decide +kernel
theorem dX0_valueNamed_58 : decode cX0_valueNamed 58 = .ok (.ireturn, 1) := by decide +kernel
theorem dX0_valueNamed_59 : decode cX0_valueNamed 59 = .ok (.aload_n 0, 1) := by decide +kernel
theorem dX0_valueNamed_60 : decode cX0_valueNamed 60 = .ok (.ldc 181, 2) := by decide +kernel
theorem dX0_valueNamed_62 : decode cX0_valueNamed 62 = .ok (.invokevirtual 80, 3) := by decide +kernel
theorem dX0_valueNamed_65 : decode cX0_valueNamed 65 = .ok (.ifCond .eq 8, 3) := by decide +kernel
theorem dX0_valueNamed_68 : decode cX0_valueNamed 68 = .ok (.bipush (-6), 2) := by decide +kernel
theorem dX0_valueNamed_70 : decode cX0_valueNamed 70 = .ok (.goto 8, 3) := by decide +kernel
theorem dX0_valueNamed_73 : decode cX0_valueNamed 73 = .ok (.aload_n 0, 1) := by decide +kernel
theorem dX0_valueNamed_74 : decode cX0_valueNamed 74 = .ok (.iconst 3, 1) := by decide +kernel
theorem dX0_valueNamed_75 : decode cX0_valueNamed 75 = .ok (.invokevirtual 87, 3) := by decide +kernel
theorem dX0_valueNamed_78 : decode cX0_valueNamed 78 = .ok (.ireturn, 1) := by decide +kernel
theorem dX0_emit_0 : decode cX0_emit 0 = .ok (.aload_n 0, 1) := by decide +kernel
theorem dX0_emit_1 : decode cX0_emit 1 = .ok (.getfield 52, 3) := by decide +kernel
theorem dX0_emit_4 : decode cX0_emit 4 = .ok (.ifCond .ne 35, 3) := by decide +kernel
theorem dX0_emit_7 : decode cX0_emit 7 = .ok (.aload_n 0, 1) := by decide +kernel
theorem dX0_emit_8 : decode cX0_emit 8 = .ok (.getfield 46, 3) := by decide +kernel
theorem dX0_emit_11 : decode cX0_emit 11 = .ok (.aload_n 0, 1) := by decide +kernel
theorem dX0_emit_12 : decode cX0_emit 12 = .ok (.getfield 29, 3) := by decide +kernel
theorem dX0_emit_15 : decode cX0_emit 15 = .ok (.arraylength, 1) := by decide +kernel
theorem dX0_emit_16 : decode cX0_emit 16 = .ok (.if_icmp .ge 23, 3) := by decide +kernel
theorem dX0_emit_19 : decode cX0_emit 19 = .ok (.aload_n 0, 1) := by decide +kernel
theorem dX0_emit_20 : decode cX0_emit 20 = .ok (.getfield 29, 3) := by decide +kernel
theorem dX0_emit_23 : decode cX0_emit 23 = .ok (.aload_n 0, 1) := by decide +kernel
theorem dX0_emit_24 : decode cX0_emit 24 = .ok (.getfield 46, 3) := by decide +kernel
theorem dX0_emit_27 : decode cX0_emit 27 = .ok (.iload_n 1, 1) := by decide +kernel
theorem dX0_emit_28 : decode cX0_emit 28 = .ok (.iastore, 1) := by decide +kernel
theorem dX0_emit_29 : decode cX0_emit 29 = .ok (.aload_n 0, 1) := by decide +kernel
theorem dX0_emit_30 : decode cX0_emit 30 = .ok (.dup, 1) := by decide +kernel
theorem dX0_emit_31 : decode cX0_emit 31 = .ok (.getfield 46, 3) := by decide +kernel
theorem dX0_emit_34 : decode cX0_emit 34 = .ok (.iconst 1, 1) := by decide +kernel
theorem dX0_emit_35 : decode cX0_emit 35 = .ok (.iadd, 1) := by decide +kernel
theorem dX0_emit_36 : decode cX0_emit 36 = .ok (.putfield 46, 3) := by decide +kernel
theorem dX0_emit_39 : decode cX0_emit 39 = .ok (.return_, 1) := by decide +kernel
theorem dX0_numberTold_0 : decode cX0_numberTold 0 = .ok (.aload_n 0, 1) := by decide +kernel
theorem dX0_numberTold_1 : decode cX0_numberTold 1 = .ok (.getfield 49, 3) := by decide +kernel
theorem dX0_numberTold_4 : decode cX0_numberTold 4 = .ok (.aload_n 0, 1) := by decide +kernel
theorem dX0_numberTold_5 : decode cX0_numberTold 5 = .ok (.getfield 119, 3) := by decide +kernel
theorem dX0_numberTold_8 : decode cX0_numberTold 8 = .ok (.isub, 1) := by decide +kernel
theorem dX0_numberTold_9 : decode cX0_numberTold 9 = .ok (.iconst 4, 1) := by decide +kernel
theorem dX0_numberTold_10 : decode cX0_numberTold 10 = .ok (.if_icmp .le 9, 3) := by decide +kernel
theorem dX0_numberTold_13 : decode cX0_numberTold 13 = .ok (.aload_n 0, 1) := by decide +kernel
theorem dX0_numberTold_14 : decode cX0_numberTold 14 = .ok (.iconst 2, 1) := by decide +kernel
theorem dX0_numberTold_15 : decode cX0_numberTold 15 = .ok (.invokevirtual 87, 3) := by decide +kernel
theorem dX0_numberTold_18 : decode cX0_numberTold 18 = .ok (.ireturn, 1) := by decide +kernel
theorem dX0_numberTold_19 : decode cX0_numberTold 19 = .ok (.iconst 0, 1) := by decide +kernel
theorem dX0_numberTold_20 : decode cX0_numberTold 20 = .ok (.istore_n 1, 1) := by decide +kernel
theorem dX0_numberTold_21 : decode cX0_numberTold 21 = .ok (.aload_n 0, 1) := by decide +kernel
theorem dX0_numberTold_22 : decode cX0_numberTold 22 = .ok (.getfield 119, 3) := by decide +kernel
theorem dX0_numberTold_25 : decode cX0_numberTold 25 = .ok (.istore_n 2, 1) := by decide +kernel
theorem dX0_numberTold_26 : decode cX0_numberTold 26 = .ok (.iload_n 2, 1) := by decide +kernel
theorem dX0_numberTold_27 : decode cX0_numberTold 27 = .ok (.aload_n 0, 1) := by decide +kernel
theorem dX0_numberTold_28 : decode cX0_numberTold 28 = .ok (.getfield 49, 3) := by decide +kernel
theorem dX0_numberTold_31 : decode cX0_numberTold 31 = .ok (.if_icmp .ge 23, 3) := by decide +kernel
theorem dX0_numberTold_34 : decode cX0_numberTold 34 = .ok (.iload_n 1, 1) := by decide +kernel
theorem dX0_numberTold_35 : decode cX0_numberTold 35 = .ok (.bipush 10, 2) := by decide +kernel
theorem dX0_numberTold_37 : decode cX0_numberTold 37 = .ok (.imul, 1) := by decide +kernel
theorem dX0_numberTold_38 : decode cX0_numberTold 38 = .ok (.aload_n 0, 1) := by decide +kernel
theorem dX0_numberTold_39 : decode cX0_numberTold 39 = .ok (.iload_n 2, 1) := by decide +kernel
theorem dX0_numberTold_40 : decode cX0_numberTold 40 = .ok (.invokevirtual 122, 3) := by decide +kernel
theorem dX0_numberTold_43 : decode cX0_numberTold 43 = .ok (.iadd, 1) := by decide +kernel
theorem dX0_numberTold_44 : decode cX0_numberTold 44 = .ok (.bipush 48, 2) := by decide +kernel
theorem dX0_numberTold_46 : decode cX0_numberTold 46 = .ok (.isub, 1) := by decide +kernel
theorem dX0_numberTold_47 : decode cX0_numberTold 47 = .ok (.istore_n 1, 1) := by decide +kernel
theorem dX0_numberTold_48 : decode cX0_numberTold 48 = .ok (.iinc 2 1, 3) := by decide +kernel
theorem dX0_numberTold_51 : decode cX0_numberTold 51 = .ok (.goto (-25), 3) := by decide +kernel
theorem dX0_numberTold_54 : decode cX0_numberTold 54 = .ok (.iload_n 1, 1) := by decide +kernel
theorem dX0_numberTold_55 : decode cX0_numberTold 55 = .ok (.ireturn, 1) := by decide +kernel
theorem dX0_operand_0 : decode cX0_operand 0 = .ok (.aload_n 0, 1) := by decide +kernel
theorem dX0_operand_1 : decode cX0_operand 1 = .ok (.getfield 58, 3) := by decide +kernel
theorem dX0_operand_4 : decode cX0_operand 4 = .ok (.iconst 2, 1) := by decide +kernel
theorem dX0_operand_5 : decode cX0_operand 5 = .ok (.if_icmp .ne 18, 3) := by decide +kernel
theorem dX0_operand_8 : decode cX0_operand 8 = .ok (.aload_n 0, 1) := by decide +kernel
theorem dX0_operand_9 : decode cX0_operand 9 = .ok (.aload_n 0, 1) := by decide +kernel
theorem dX0_operand_10 : decode cX0_operand 10 = .ok (.invokevirtual 136, 3) := by decide +kernel
theorem dX0_operand_13 : decode cX0_operand 13 = .ok (.invokevirtual 146, 3) := by decide +kernel
theorem dX0_operand_16 : decode cX0_operand 16 = .ok (.aload_n 0, 1) := by decide +kernel
theorem dX0_operand_17 : decode cX0_operand 17 = .ok (.invokevirtual 55, 3) := by decide +kernel
theorem dX0_operand_20 : decode cX0_operand 20 = .ok (.goto 61, 3) := by decide +kernel
theorem dX0_operand_23 : decode cX0_operand 23 = .ok (.aload_n 0, 1) := by decide +kernel
theorem dX0_operand_24 : decode cX0_operand 24 = .ok (.getfield 58, 3) := by decide +kernel
theorem dX0_operand_27 : decode cX0_operand 27 = .ok (.iconst 1, 1) := by decide +kernel
theorem dX0_operand_28 : decode cX0_operand 28 = .ok (.if_icmp .ne 18, 3) := by decide +kernel
theorem dX0_operand_31 : decode cX0_operand 31 = .ok (.aload_n 0, 1) := by decide +kernel
theorem dX0_operand_32 : decode cX0_operand 32 = .ok (.aload_n 0, 1) := by decide +kernel
theorem dX0_operand_33 : decode cX0_operand 33 = .ok (.invokevirtual 168, 3) := by decide +kernel
theorem dX0_operand_36 : decode cX0_operand 36 = .ok (.invokevirtual 146, 3) := by decide +kernel
theorem dX0_operand_39 : decode cX0_operand 39 = .ok (.aload_n 0, 1) := by decide +kernel
theorem dX0_operand_40 : decode cX0_operand 40 = .ok (.invokevirtual 55, 3) := by decide +kernel
theorem dX0_operand_43 : decode cX0_operand 43 = .ok (.goto 38, 3) := by decide +kernel
theorem dX0_operand_46 : decode cX0_operand 46 = .ok (.aload_n 0, 1) := by decide +kernel
theorem dX0_operand_47 : decode cX0_operand 47 = .ok (.getfield 58, 3) := by decide +kernel
theorem dX0_operand_50 : decode cX0_operand 50 = .ok (.bipush 40, 2) := by decide +kernel
theorem dX0_operand_52 : decode cX0_operand 52 = .ok (.if_icmp .ne 23, 3) := by decide +kernel
theorem dX0_operand_55 : decode cX0_operand 55 = .ok (.aload_n 0, 1) := by decide +kernel
theorem dX0_operand_56 : decode cX0_operand 56 = .ok (.invokevirtual 55, 3) := by decide +kernel
theorem dX0_operand_59 : decode cX0_operand 59 = .ok (.aload_n 0, 1) := by decide +kernel
theorem dX0_operand_60 : decode cX0_operand 60 = .ok (.iload_n 1, 1) := by decide +kernel
theorem dX0_operand_61 : decode cX0_operand 61 = .ok (.iconst 1, 1) := by decide +kernel
theorem dX0_operand_62 : decode cX0_operand 62 = .ok (.iadd, 1) := by decide +kernel
theorem dX0_operand_63 : decode cX0_operand 63 = .ok (.invokevirtual 112, 3) := by decide +kernel
theorem dX0_operand_66 : decode cX0_operand 66 = .ok (.aload_n 0, 1) := by decide +kernel
theorem dX0_operand_67 : decode cX0_operand 67 = .ok (.bipush 41, 2) := by decide +kernel
theorem dX0_operand_69 : decode cX0_operand 69 = .ok (.invokevirtual 91, 3) := by decide +kernel
theorem dX0_operand_72 : decode cX0_operand 72 = .ok (.goto 9, 3) := by decide +kernel
theorem dX0_operand_75 : decode cX0_operand 75 = .ok (.aload_n 0, 1) := by decide +kernel
theorem dX0_operand_76 : decode cX0_operand 76 = .ok (.iconst 1, 1) := by decide +kernel
theorem dX0_operand_77 : decode cX0_operand 77 = .ok (.invokevirtual 87, 3) := by decide +kernel
theorem dX0_operand_80 : decode cX0_operand 80 = .ok (.pop, 1) := by decide +kernel
theorem dX0_operand_81 : decode cX0_operand 81 = .ok (.return_, 1) := by decide +kernel
theorem dX0_product_0 : decode cX0_product 0 = .ok (.aload_n 0, 1) := by decide +kernel
theorem dX0_product_1 : decode cX0_product 1 = .ok (.iload_n 1, 1) := by decide +kernel
theorem dX0_product_2 : decode cX0_product 2 = .ok (.invokevirtual 165, 3) := by decide +kernel
theorem dX0_product_5 : decode cX0_product 5 = .ok (.iconst 0, 1) := by decide +kernel
theorem dX0_product_6 : decode cX0_product 6 = .ok (.istore_n 2, 1) := by decide +kernel
theorem dX0_product_7 : decode cX0_product 7 = .ok (.iload_n 2, 1) := by decide +kernel
theorem dX0_product_8 : decode cX0_product 8 = .ok (.sipush 600, 3) := by decide +kernel
theorem dX0_product_11 : decode cX0_product 11 = .ok (.if_icmp .ge 58, 3) := by decide +kernel
theorem dX0_product_14 : decode cX0_product 14 = .ok (.aload_n 0, 1) := by decide +kernel
theorem dX0_product_15 : decode cX0_product 15 = .ok (.getfield 58, 3) := by decide +kernel
theorem dX0_product_18 : decode cX0_product 18 = .ok (.bipush 42, 2) := by decide +kernel
theorem dX0_product_20 : decode cX0_product 20 = .ok (.if_icmp .eq 12, 3) := by decide +kernel
theorem dX0_product_23 : decode cX0_product 23 = .ok (.aload_n 0, 1) := by decide +kernel
theorem dX0_product_24 : decode cX0_product 24 = .ok (.getfield 58, 3) := by decide +kernel
theorem dX0_product_27 : decode cX0_product 27 = .ok (.bipush 47, 2) := by decide +kernel
theorem dX0_product_29 : decode cX0_product 29 = .ok (.if_icmp .ne 40, 3) := by decide +kernel
theorem dX0_product_32 : decode cX0_product 32 = .ok (.aload_n 0, 1) := by decide +kernel
theorem dX0_product_33 : decode cX0_product 33 = .ok (.getfield 58, 3) := by decide +kernel
theorem dX0_product_36 : decode cX0_product 36 = .ok (.bipush 42, 2) := by decide +kernel
theorem dX0_product_38 : decode cX0_product 38 = .ok (.if_icmp .ne 8, 3) := by decide +kernel
theorem dX0_product_41 : decode cX0_product 41 = .ok (.bipush (-14), 2) := by decide +kernel
theorem dX0_product_43 : decode cX0_product 43 = .ok (.goto 5, 3) := by decide +kernel
theorem dX0_product_46 : decode cX0_product 46 = .ok (.bipush (-15), 2) := by decide +kernel
theorem dX0_product_48 : decode cX0_product 48 = .ok (.istore_n 3, 1) := by decide +kernel
theorem dX0_product_49 : decode cX0_product 49 = .ok (.aload_n 0, 1) := by decide +kernel
theorem dX0_product_50 : decode cX0_product 50 = .ok (.invokevirtual 55, 3) := by decide +kernel
theorem dX0_product_53 : decode cX0_product 53 = .ok (.aload_n 0, 1) := by decide +kernel
theorem dX0_product_54 : decode cX0_product 54 = .ok (.iload_n 1, 1) := by decide +kernel
theorem dX0_product_55 : decode cX0_product 55 = .ok (.invokevirtual 165, 3) := by decide +kernel
theorem dX0_product_58 : decode cX0_product 58 = .ok (.aload_n 0, 1) := by decide +kernel
theorem dX0_product_59 : decode cX0_product 59 = .ok (.iload_n 3, 1) := by decide +kernel
theorem dX0_product_60 : decode cX0_product 60 = .ok (.invokevirtual 146, 3) := by decide +kernel
theorem dX0_product_63 : decode cX0_product 63 = .ok (.iinc 2 1, 3) := by decide +kernel
theorem dX0_product_66 : decode cX0_product 66 = .ok (.goto (-59), 3) := by decide +kernel
theorem dX0_product_69 : decode cX0_product 69 = .ok (.return_, 1) := by decide +kernel
theorem dX0_sum_0 : decode cX0_sum 0 = .ok (.aload_n 0, 1) := by decide +kernel
theorem dX0_sum_1 : decode cX0_sum 1 = .ok (.iload_n 1, 1) := by decide +kernel
theorem dX0_sum_2 : decode cX0_sum 2 = .ok (.invokevirtual 162, 3) := by decide +kernel
theorem dX0_sum_5 : decode cX0_sum 5 = .ok (.iconst 0, 1) := by decide +kernel
theorem dX0_sum_6 : decode cX0_sum 6 = .ok (.istore_n 2, 1) := by decide +kernel
theorem dX0_sum_7 : decode cX0_sum 7 = .ok (.iload_n 2, 1) := by decide +kernel
theorem dX0_sum_8 : decode cX0_sum 8 = .ok (.sipush 600, 3) := by decide +kernel
theorem dX0_sum_11 : decode cX0_sum 11 = .ok (.if_icmp .ge 58, 3) := by decide +kernel
theorem dX0_sum_14 : decode cX0_sum 14 = .ok (.aload_n 0, 1) := by decide +kernel
theorem dX0_sum_15 : decode cX0_sum 15 = .ok (.getfield 58, 3) := by decide +kernel
theorem dX0_sum_18 : decode cX0_sum 18 = .ok (.bipush 43, 2) := by decide +kernel
theorem dX0_sum_20 : decode cX0_sum 20 = .ok (.if_icmp .eq 12, 3) := by decide +kernel
theorem dX0_sum_23 : decode cX0_sum 23 = .ok (.aload_n 0, 1) := by decide +kernel
theorem dX0_sum_24 : decode cX0_sum 24 = .ok (.getfield 58, 3) := by decide +kernel
theorem dX0_sum_27 : decode cX0_sum 27 = .ok (.bipush 45, 2) := by decide +kernel
theorem dX0_sum_29 : decode cX0_sum 29 = .ok (.if_icmp .ne 40, 3) := by decide +kernel
theorem dX0_sum_32 : decode cX0_sum 32 = .ok (.aload_n 0, 1) := by decide +kernel
theorem dX0_sum_33 : decode cX0_sum 33 = .ok (.getfield 58, 3) := by decide +kernel
theorem dX0_sum_36 : decode cX0_sum 36 = .ok (.bipush 43, 2) := by decide +kernel
theorem dX0_sum_38 : decode cX0_sum 38 = .ok (.if_icmp .ne 8, 3) := by decide +kernel
theorem dX0_sum_41 : decode cX0_sum 41 = .ok (.bipush (-12), 2) := by decide +kernel
theorem dX0_sum_43 : decode cX0_sum 43 = .ok (.goto 5, 3) := by decide +kernel
theorem dX0_sum_46 : decode cX0_sum 46 = .ok (.bipush (-13), 2) := by decide +kernel
theorem dX0_sum_48 : decode cX0_sum 48 = .ok (.istore_n 3, 1) := by decide +kernel
theorem dX0_sum_49 : decode cX0_sum 49 = .ok (.aload_n 0, 1) := by decide +kernel
theorem dX0_sum_50 : decode cX0_sum 50 = .ok (.invokevirtual 55, 3) := by decide +kernel
theorem dX0_sum_53 : decode cX0_sum 53 = .ok (.aload_n 0, 1) := by decide +kernel
theorem dX0_sum_54 : decode cX0_sum 54 = .ok (.iload_n 1, 1) := by decide +kernel
theorem dX0_sum_55 : decode cX0_sum 55 = .ok (.invokevirtual 162, 3) := by decide +kernel
theorem dX0_sum_58 : decode cX0_sum 58 = .ok (.aload_n 0, 1) := by decide +kernel
theorem dX0_sum_59 : decode cX0_sum 59 = .ok (.iload_n 3, 1) := by decide +kernel
theorem dX0_sum_60 : decode cX0_sum 60 = .ok (.invokevirtual 146, 3) := by decide +kernel
theorem dX0_sum_63 : decode cX0_sum 63 = .ok (.iinc 2 1, 3) := by decide +kernel
theorem dX0_sum_66 : decode cX0_sum 66 = .ok (.goto (-59), 3) := by decide +kernel
theorem dX0_sum_69 : decode cX0_sum 69 = .ok (.return_, 1) := by decide +kernel
theorem dX0_comparison_0 : decode cX0_comparison 0 = .ok (.aload_n 0, 1) := by decide +kernel
theorem dX0_comparison_1 : decode cX0_comparison 1 = .ok (.iload_n 1, 1) := by decide +kernel
theorem dX0_comparison_2 : decode cX0_comparison 2 = .ok (.invokevirtual 159, 3) := by decide +kernel
theorem dX0_comparison_5 : decode cX0_comparison 5 = .ok (.aload_n 0, 1) := by decide +kernel
theorem dX0_comparison_6 : decode cX0_comparison 6 = .ok (.getfield 58, 3) := by decide +kernel
theorem dX0_comparison_9 : decode cX0_comparison 9 = .ok (.bipush 60, 2) := by decide +kernel
theorem dX0_comparison_11 : decode cX0_comparison 11 = .ok (.if_icmp .eq 12, 3) := by decide +kernel
theorem dX0_comparison_14 : decode cX0_comparison 14 = .ok (.aload_n 0, 1) := by decide +kernel
theorem dX0_comparison_15 : decode cX0_comparison 15 = .ok (.getfield 58, 3) := by decide +kernel
theorem dX0_comparison_18 : decode cX0_comparison 18 = .ok (.bipush 61, 2) := by decide +kernel
theorem dX0_comparison_20 : decode cX0_comparison 20 = .ok (.if_icmp .ne 34, 3) := by decide +kernel
theorem dX0_comparison_23 : decode cX0_comparison 23 = .ok (.aload_n 0, 1) := by decide +kernel
theorem dX0_comparison_24 : decode cX0_comparison 24 = .ok (.getfield 58, 3) := by decide +kernel
theorem dX0_comparison_27 : decode cX0_comparison 27 = .ok (.bipush 60, 2) := by decide +kernel
theorem dX0_comparison_29 : decode cX0_comparison 29 = .ok (.if_icmp .ne 8, 3) := by decide +kernel
theorem dX0_comparison_32 : decode cX0_comparison 32 = .ok (.bipush (-10), 2) := by decide +kernel
theorem dX0_comparison_34 : decode cX0_comparison 34 = .ok (.goto 5, 3) := by decide +kernel
theorem dX0_comparison_37 : decode cX0_comparison 37 = .ok (.bipush (-11), 2) := by decide +kernel
theorem dX0_comparison_39 : decode cX0_comparison 39 = .ok (.istore_n 2, 1) := by decide +kernel
theorem dX0_comparison_40 : decode cX0_comparison 40 = .ok (.aload_n 0, 1) := by decide +kernel
theorem dX0_comparison_41 : decode cX0_comparison 41 = .ok (.invokevirtual 55, 3) := by decide +kernel
theorem dX0_comparison_44 : decode cX0_comparison 44 = .ok (.aload_n 0, 1) := by decide +kernel
theorem dX0_comparison_45 : decode cX0_comparison 45 = .ok (.iload_n 1, 1) := by decide +kernel
theorem dX0_comparison_46 : decode cX0_comparison 46 = .ok (.invokevirtual 159, 3) := by decide +kernel
theorem dX0_comparison_49 : decode cX0_comparison 49 = .ok (.aload_n 0, 1) := by decide +kernel
theorem dX0_comparison_50 : decode cX0_comparison 50 = .ok (.iload_n 2, 1) := by decide +kernel
theorem dX0_comparison_51 : decode cX0_comparison 51 = .ok (.invokevirtual 146, 3) := by decide +kernel
theorem dX0_comparison_54 : decode cX0_comparison 54 = .ok (.return_, 1) := by decide +kernel
theorem dX0_negation_0 : decode cX0_negation 0 = .ok (.iconst 0, 1) := by decide +kernel
theorem dX0_negation_1 : decode cX0_negation 1 = .ok (.istore_n 2, 1) := by decide +kernel
theorem dX0_negation_2 : decode cX0_negation 2 = .ok (.iload_n 2, 1) := by decide +kernel
theorem dX0_negation_3 : decode cX0_negation 3 = .ok (.bipush 6, 2) := by decide +kernel
theorem dX0_negation_5 : decode cX0_negation 5 = .ok (.if_icmp .ge 22, 3) := by decide +kernel
theorem dX0_negation_8 : decode cX0_negation 8 = .ok (.aload_n 0, 1) := by decide +kernel
theorem dX0_negation_9 : decode cX0_negation 9 = .ok (.ldc 154, 2) := by decide +kernel
theorem dX0_negation_11 : decode cX0_negation 11 = .ok (.invokevirtual 80, 3) := by decide +kernel
theorem dX0_negation_14 : decode cX0_negation 14 = .ok (.ifCond .eq 13, 3) := by decide +kernel
theorem dX0_negation_17 : decode cX0_negation 17 = .ok (.aload_n 0, 1) := by decide +kernel
theorem dX0_negation_18 : decode cX0_negation 18 = .ok (.invokevirtual 55, 3) := by decide +kernel
theorem dX0_negation_21 : decode cX0_negation 21 = .ok (.iinc 2 1, 3) := by decide +kernel
theorem dX0_negation_24 : decode cX0_negation 24 = .ok (.goto (-22), 3) := by decide +kernel
theorem dX0_negation_27 : decode cX0_negation 27 = .ok (.aload_n 0, 1) := by decide +kernel
theorem dX0_negation_28 : decode cX0_negation 28 = .ok (.ldc 154, 2) := by decide +kernel
theorem dX0_negation_30 : decode cX0_negation 30 = .ok (.invokevirtual 80, 3) := by decide +kernel
theorem dX0_negation_33 : decode cX0_negation 33 = .ok (.ifCond .eq 9, 3) := by decide +kernel
theorem dX0_negation_36 : decode cX0_negation 36 = .ok (.aload_n 0, 1) := by decide +kernel
theorem dX0_negation_37 : decode cX0_negation 37 = .ok (.iconst 2, 1) := by decide +kernel
theorem dX0_negation_38 : decode cX0_negation 38 = .ok (.invokevirtual 87, 3) := by decide +kernel
theorem dX0_negation_41 : decode cX0_negation 41 = .ok (.pop, 1) := by decide +kernel
theorem dX0_negation_42 : decode cX0_negation 42 = .ok (.aload_n 0, 1) := by decide +kernel
theorem dX0_negation_43 : decode cX0_negation 43 = .ok (.iload_n 1, 1) := by decide +kernel
theorem dX0_negation_44 : decode cX0_negation 44 = .ok (.invokevirtual 156, 3) := by decide +kernel
theorem dX0_negation_47 : decode cX0_negation 47 = .ok (.iconst 0, 1) := by decide +kernel
theorem dX0_negation_48 : decode cX0_negation 48 = .ok (.istore_n 3, 1) := by decide +kernel
theorem dX0_negation_49 : decode cX0_negation 49 = .ok (.iload_n 3, 1) := by decide +kernel
theorem dX0_negation_50 : decode cX0_negation 50 = .ok (.iload_n 2, 1) := by decide +kernel
theorem dX0_negation_51 : decode cX0_negation 51 = .ok (.if_icmp .ge 15, 3) := by decide +kernel
theorem dX0_negation_54 : decode cX0_negation 54 = .ok (.aload_n 0, 1) := by decide +kernel
theorem dX0_negation_55 : decode cX0_negation 55 = .ok (.bipush (-7), 2) := by decide +kernel
theorem dX0_negation_57 : decode cX0_negation 57 = .ok (.invokevirtual 146, 3) := by decide +kernel
theorem dX0_negation_60 : decode cX0_negation 60 = .ok (.iinc 3 1, 3) := by decide +kernel
theorem dX0_negation_63 : decode cX0_negation 63 = .ok (.goto (-14), 3) := by decide +kernel
theorem dX0_negation_66 : decode cX0_negation 66 = .ok (.return_, 1) := by decide +kernel
theorem dX0_conjunction_0 : decode cX0_conjunction 0 = .ok (.aload_n 0, 1) := by decide +kernel
theorem dX0_conjunction_1 : decode cX0_conjunction 1 = .ok (.iload_n 1, 1) := by decide +kernel
theorem dX0_conjunction_2 : decode cX0_conjunction 2 = .ok (.invokevirtual 149, 3) := by decide +kernel
theorem dX0_conjunction_5 : decode cX0_conjunction 5 = .ok (.iconst 0, 1) := by decide +kernel
theorem dX0_conjunction_6 : decode cX0_conjunction 6 = .ok (.istore_n 2, 1) := by decide +kernel
theorem dX0_conjunction_7 : decode cX0_conjunction 7 = .ok (.iload_n 2, 1) := by decide +kernel
theorem dX0_conjunction_8 : decode cX0_conjunction 8 = .ok (.sipush 600, 3) := by decide +kernel
theorem dX0_conjunction_11 : decode cX0_conjunction 11 = .ok (.if_icmp .ge 33, 3) := by decide +kernel
theorem dX0_conjunction_14 : decode cX0_conjunction 14 = .ok (.aload_n 0, 1) := by decide +kernel
theorem dX0_conjunction_15 : decode cX0_conjunction 15 = .ok (.ldc 152, 2) := by decide +kernel
theorem dX0_conjunction_17 : decode cX0_conjunction 17 = .ok (.invokevirtual 80, 3) := by decide +kernel
theorem dX0_conjunction_20 : decode cX0_conjunction 20 = .ok (.ifCond .eq 24, 3) := by decide +kernel
theorem dX0_conjunction_23 : decode cX0_conjunction 23 = .ok (.aload_n 0, 1) := by decide +kernel
theorem dX0_conjunction_24 : decode cX0_conjunction 24 = .ok (.invokevirtual 55, 3) := by decide +kernel
theorem dX0_conjunction_27 : decode cX0_conjunction 27 = .ok (.aload_n 0, 1) := by decide +kernel
theorem dX0_conjunction_28 : decode cX0_conjunction 28 = .ok (.iload_n 1, 1) := by decide +kernel
theorem dX0_conjunction_29 : decode cX0_conjunction 29 = .ok (.invokevirtual 149, 3) := by decide +kernel
theorem dX0_conjunction_32 : decode cX0_conjunction 32 = .ok (.aload_n 0, 1) := by decide +kernel
theorem dX0_conjunction_33 : decode cX0_conjunction 33 = .ok (.bipush (-9), 2) := by decide +kernel
theorem dX0_conjunction_35 : decode cX0_conjunction 35 = .ok (.invokevirtual 146, 3) := by decide +kernel
theorem dX0_conjunction_38 : decode cX0_conjunction 38 = .ok (.iinc 2 1, 3) := by decide +kernel
theorem dX0_conjunction_41 : decode cX0_conjunction 41 = .ok (.goto (-34), 3) := by decide +kernel
theorem dX0_conjunction_44 : decode cX0_conjunction 44 = .ok (.return_, 1) := by decide +kernel
theorem dX0_expr_0 : decode cX0_expr 0 = .ok (.iload_n 1, 1) := by decide +kernel
theorem dX0_expr_1 : decode cX0_expr 1 = .ok (.bipush 6, 2) := by decide +kernel
theorem dX0_expr_3 : decode cX0_expr 3 = .ok (.if_icmp .lt 34, 3) := by decide +kernel
theorem dX0_expr_6 : decode cX0_expr 6 = .ok (.aload_n 0, 1) := by decide +kernel
theorem dX0_expr_7 : decode cX0_expr 7 = .ok (.getfield 58, 3) := by decide +kernel
theorem dX0_expr_10 : decode cX0_expr 10 = .ok (.iconst 2, 1) := by decide +kernel
theorem dX0_expr_11 : decode cX0_expr 11 = .ok (.if_icmp .eq 20, 3) := by decide +kernel
theorem dX0_expr_14 : decode cX0_expr 14 = .ok (.aload_n 0, 1) := by decide +kernel
theorem dX0_expr_15 : decode cX0_expr 15 = .ok (.getfield 58, 3) := by decide +kernel
theorem dX0_expr_18 : decode cX0_expr 18 = .ok (.iconst 1, 1) := by decide +kernel
theorem dX0_expr_19 : decode cX0_expr 19 = .ok (.if_icmp .eq 12, 3) := by decide +kernel
theorem dX0_expr_22 : decode cX0_expr 22 = .ok (.aload_n 0, 1) := by decide +kernel
theorem dX0_expr_23 : decode cX0_expr 23 = .ok (.getfield 58, 3) := by decide +kernel
theorem dX0_expr_26 : decode cX0_expr 26 = .ok (.bipush 40, 2) := by decide +kernel
theorem dX0_expr_28 : decode cX0_expr 28 = .ok (.if_icmp .ne 9, 3) := by decide +kernel
theorem dX0_expr_31 : decode cX0_expr 31 = .ok (.aload_n 0, 1) := by decide +kernel
theorem dX0_expr_32 : decode cX0_expr 32 = .ok (.iconst 2, 1) := by decide +kernel
theorem dX0_expr_33 : decode cX0_expr 33 = .ok (.invokevirtual 87, 3) := by decide +kernel
theorem dX0_expr_36 : decode cX0_expr 36 = .ok (.pop, 1) := by decide +kernel
theorem dX0_expr_37 : decode cX0_expr 37 = .ok (.aload_n 0, 1) := by decide +kernel
theorem dX0_expr_38 : decode cX0_expr 38 = .ok (.iload_n 1, 1) := by decide +kernel
theorem dX0_expr_39 : decode cX0_expr 39 = .ok (.invokevirtual 139, 3) := by decide +kernel
theorem dX0_expr_42 : decode cX0_expr 42 = .ok (.iconst 0, 1) := by decide +kernel
theorem dX0_expr_43 : decode cX0_expr 43 = .ok (.istore_n 2, 1) := by decide +kernel
theorem dX0_expr_44 : decode cX0_expr 44 = .ok (.iload_n 2, 1) := by decide +kernel
theorem dX0_expr_45 : decode cX0_expr 45 = .ok (.sipush 600, 3) := by decide +kernel
theorem dX0_expr_48 : decode cX0_expr 48 = .ok (.if_icmp .ge 33, 3) := by decide +kernel
theorem dX0_expr_51 : decode cX0_expr 51 = .ok (.aload_n 0, 1) := by decide +kernel
theorem dX0_expr_52 : decode cX0_expr 52 = .ok (.ldc 142, 2) := by decide +kernel
theorem dX0_expr_54 : decode cX0_expr 54 = .ok (.invokevirtual 80, 3) := by decide +kernel
theorem dX0_expr_57 : decode cX0_expr 57 = .ok (.ifCond .eq 24, 3) := by decide +kernel
theorem dX0_expr_60 : decode cX0_expr 60 = .ok (.aload_n 0, 1) := by decide +kernel
theorem dX0_expr_61 : decode cX0_expr 61 = .ok (.invokevirtual 55, 3) := by decide +kernel
theorem dX0_expr_64 : decode cX0_expr 64 = .ok (.aload_n 0, 1) := by decide +kernel
theorem dX0_expr_65 : decode cX0_expr 65 = .ok (.iload_n 1, 1) := by decide +kernel
theorem dX0_expr_66 : decode cX0_expr 66 = .ok (.invokevirtual 139, 3) := by decide +kernel
theorem dX0_expr_69 : decode cX0_expr 69 = .ok (.aload_n 0, 1) := by decide +kernel
theorem dX0_expr_70 : decode cX0_expr 70 = .ok (.bipush (-8), 2) := by decide +kernel
theorem dX0_expr_72 : decode cX0_expr 72 = .ok (.invokevirtual 146, 3) := by decide +kernel
theorem dX0_expr_75 : decode cX0_expr 75 = .ok (.iinc 2 1, 3) := by decide +kernel
theorem dX0_expr_78 : decode cX0_expr 78 = .ok (.goto (-34), 3) := by decide +kernel
theorem dX0_expr_81 : decode cX0_expr 81 = .ok (.return_, 1) := by decide +kernel
theorem dX0_joinsLine_0 : decode cX0_joinsLine 0 = .ok (.aload_n 0, 1) := by decide +kernel
theorem dX0_joinsLine_1 : decode cX0_joinsLine 1 = .ok (.getfield 46, 3) := by decide +kernel
theorem dX0_joinsLine_4 : decode cX0_joinsLine 4 = .ok (.ifCond .le 9, 3) := by decide +kernel
theorem dX0_joinsLine_7 : decode cX0_joinsLine 7 = .ok (.aload_n 0, 1) := by decide +kernel
theorem dX0_joinsLine_8 : decode cX0_joinsLine 8 = .ok (.iconst 5, 1) := by decide +kernel
theorem dX0_joinsLine_9 : decode cX0_joinsLine 9 = .ok (.invokevirtual 87, 3) := by decide +kernel
theorem dX0_joinsLine_12 : decode cX0_joinsLine 12 = .ok (.pop, 1) := by decide +kernel
theorem dX0_joinsLine_13 : decode cX0_joinsLine 13 = .ok (.aload_n 0, 1) := by decide +kernel
theorem dX0_joinsLine_14 : decode cX0_joinsLine 14 = .ok (.invokevirtual 55, 3) := by decide +kernel
theorem dX0_joinsLine_17 : decode cX0_joinsLine 17 = .ok (.aload_n 0, 1) := by decide +kernel
theorem dX0_joinsLine_18 : decode cX0_joinsLine 18 = .ok (.iconst 0, 1) := by decide +kernel
theorem dX0_joinsLine_19 : decode cX0_joinsLine 19 = .ok (.invokevirtual 112, 3) := by decide +kernel
theorem dX0_joinsLine_22 : decode cX0_joinsLine 22 = .ok (.return_, 1) := by decide +kernel
theorem dX0_soundNamed_0 : decode cX0_soundNamed 0 = .ok (.iload_n 0, 1) := by decide +kernel
theorem dX0_soundNamed_1 : decode cX0_soundNamed 1 = .ok (.tableswitch 59 107 115 #[51, 59, 59, 59, 59, 53, 59, 55, 57], 51) := by decide +kernel
theorem dX0_soundNamed_52 : decode cX0_soundNamed 52 = .ok (.iconst 1, 1) := by decide +kernel
theorem dX0_soundNamed_53 : decode cX0_soundNamed 53 = .ok (.ireturn, 1) := by decide +kernel
theorem dX0_soundNamed_54 : decode cX0_soundNamed 54 = .ok (.iconst 2, 1) := by decide +kernel
theorem dX0_soundNamed_55 : decode cX0_soundNamed 55 = .ok (.ireturn, 1) := by decide +kernel
theorem dX0_soundNamed_56 : decode cX0_soundNamed 56 = .ok (.iconst 3, 1) := by decide +kernel
theorem dX0_soundNamed_57 : decode cX0_soundNamed 57 = .ok (.ireturn, 1) := by decide +kernel
theorem dX0_soundNamed_58 : decode cX0_soundNamed 58 = .ok (.iconst 4, 1) := by decide +kernel
theorem dX0_soundNamed_59 : decode cX0_soundNamed 59 = .ok (.ireturn, 1) := by decide +kernel
theorem dX0_soundNamed_60 : decode cX0_soundNamed 60 = .ok (.iconst 0, 1) := by decide +kernel
theorem dX0_soundNamed_61 : decode cX0_soundNamed 61 = .ok (.ireturn, 1) := by decide +kernel
theorem dX0_isOfSounds_0 : decode cX0_isOfSounds 0 = .ok (.aload_n 0, 1) := by decide +kernel
theorem dX0_isOfSounds_1 : decode cX0_isOfSounds 1 = .ok (.getfield 58, 3) := by decide +kernel
theorem dX0_isOfSounds_4 : decode cX0_isOfSounds 4 = .ok (.iconst 1, 1) := by decide +kernel
theorem dX0_isOfSounds_5 : decode cX0_isOfSounds 5 = .ok (.if_icmp .eq 11, 3) := by decide +kernel
theorem dX0_isOfSounds_8 : decode cX0_isOfSounds 8 = .ok (.aload_n 0, 1) := by decide +kernel
theorem dX0_isOfSounds_9 : decode cX0_isOfSounds 9 = .ok (.iconst 1, 1) := by decide +kernel
theorem dX0_isOfSounds_10 : decode cX0_isOfSounds 10 = .ok (.invokevirtual 87, 3) := by decide +kernel
theorem dX0_isOfSounds_13 : decode cX0_isOfSounds 13 = .ok (.pop, 1) := by decide +kernel
theorem dX0_isOfSounds_14 : decode cX0_isOfSounds 14 = .ok (.iconst 0, 1) := by decide +kernel
theorem dX0_isOfSounds_15 : decode cX0_isOfSounds 15 = .ok (.ireturn, 1) := by decide +kernel
theorem dX0_isOfSounds_16 : decode cX0_isOfSounds 16 = .ok (.aload_n 0, 1) := by decide +kernel
theorem dX0_isOfSounds_17 : decode cX0_isOfSounds 17 = .ok (.getfield 119, 3) := by decide +kernel
theorem dX0_isOfSounds_20 : decode cX0_isOfSounds 20 = .ok (.istore_n 1, 1) := by decide +kernel
theorem dX0_isOfSounds_21 : decode cX0_isOfSounds 21 = .ok (.iload_n 1, 1) := by decide +kernel
theorem dX0_isOfSounds_22 : decode cX0_isOfSounds 22 = .ok (.aload_n 0, 1) := by decide +kernel
theorem dX0_isOfSounds_23 : decode cX0_isOfSounds 23 = .ok (.getfield 49, 3) := by decide +kernel
theorem dX0_isOfSounds_26 : decode cX0_isOfSounds 26 = .ok (.if_icmp .ge 28, 3) := by decide +kernel
theorem dX0_isOfSounds_29 : decode cX0_isOfSounds 29 = .ok (.aload_n 0, 1) := by decide +kernel
theorem dX0_isOfSounds_30 : decode cX0_isOfSounds 30 = .ok (.iload_n 1, 1) := by decide +kernel
theorem dX0_isOfSounds_31 : decode cX0_isOfSounds 31 = .ok (.invokevirtual 122, 3) := by decide +kernel
theorem dX0_isOfSounds_34 : decode cX0_isOfSounds 34 = .ok (.invokestatic 125, 3) := by decide +kernel
theorem dX0_isOfSounds_37 : decode cX0_isOfSounds 37 = .ok (.ifCond .ne 11, 3) := by decide +kernel
theorem dX0_isOfSounds_40 : decode cX0_isOfSounds 40 = .ok (.aload_n 0, 1) := by decide +kernel
theorem dX0_isOfSounds_41 : decode cX0_isOfSounds 41 = .ok (.iconst 3, 1) := by decide +kernel
theorem dX0_isOfSounds_42 : decode cX0_isOfSounds 42 = .ok (.invokevirtual 87, 3) := by decide +kernel
theorem dX0_isOfSounds_45 : decode cX0_isOfSounds 45 = .ok (.pop, 1) := by decide +kernel
theorem dX0_isOfSounds_46 : decode cX0_isOfSounds 46 = .ok (.iconst 0, 1) := by decide +kernel
theorem dX0_isOfSounds_47 : decode cX0_isOfSounds 47 = .ok (.ireturn, 1) := by decide +kernel
theorem dX0_isOfSounds_48 : decode cX0_isOfSounds 48 = .ok (.iinc 1 1, 3) := by decide +kernel
theorem dX0_isOfSounds_51 : decode cX0_isOfSounds 51 = .ok (.goto (-30), 3) := by decide +kernel
theorem dX0_isOfSounds_54 : decode cX0_isOfSounds 54 = .ok (.iconst 1, 1) := by decide +kernel
theorem dX0_isOfSounds_55 : decode cX0_isOfSounds 55 = .ok (.ireturn, 1) := by decide +kernel
theorem dX0_handTold_0 : decode cX0_handTold 0 = .ok (.aload_n 0, 1) := by decide +kernel
theorem dX0_handTold_1 : decode cX0_handTold 1 = .ok (.invokevirtual 115, 3) := by decide +kernel
theorem dX0_handTold_4 : decode cX0_handTold 4 = .ok (.ifCond .ne 5, 3) := by decide +kernel
theorem dX0_handTold_7 : decode cX0_handTold 7 = .ok (.iconst 0, 1) := by decide +kernel
theorem dX0_handTold_8 : decode cX0_handTold 8 = .ok (.ireturn, 1) := by decide +kernel
theorem dX0_handTold_9 : decode cX0_handTold 9 = .ok (.iconst 0, 1) := by decide +kernel
theorem dX0_handTold_10 : decode cX0_handTold 10 = .ok (.istore_n 1, 1) := by decide +kernel
theorem dX0_handTold_11 : decode cX0_handTold 11 = .ok (.aload_n 0, 1) := by decide +kernel
theorem dX0_handTold_12 : decode cX0_handTold 12 = .ok (.getfield 119, 3) := by decide +kernel
theorem dX0_handTold_15 : decode cX0_handTold 15 = .ok (.istore_n 2, 1) := by decide +kernel
theorem dX0_handTold_16 : decode cX0_handTold 16 = .ok (.iload_n 2, 1) := by decide +kernel
theorem dX0_handTold_17 : decode cX0_handTold 17 = .ok (.aload_n 0, 1) := by decide +kernel
theorem dX0_handTold_18 : decode cX0_handTold 18 = .ok (.getfield 49, 3) := by decide +kernel
theorem dX0_handTold_21 : decode cX0_handTold 21 = .ok (.if_icmp .ge 37, 3) := by decide +kernel
theorem dX0_handTold_24 : decode cX0_handTold 24 = .ok (.aload_n 0, 1) := by decide +kernel
theorem dX0_handTold_25 : decode cX0_handTold 25 = .ok (.iload_n 2, 1) := by decide +kernel
theorem dX0_handTold_26 : decode cX0_handTold 26 = .ok (.invokevirtual 122, 3) := by decide +kernel
theorem dX0_handTold_29 : decode cX0_handTold 29 = .ok (.invokestatic 125, 3) := by decide +kernel
theorem dX0_handTold_32 : decode cX0_handTold 32 = .ok (.invokestatic 131, 3) := by decide +kernel
theorem dX0_handTold_35 : decode cX0_handTold 35 = .ok (.istore_n 3, 1) := by decide +kernel
theorem dX0_handTold_36 : decode cX0_handTold 36 = .ok (.iload_n 1, 1) := by decide +kernel
theorem dX0_handTold_37 : decode cX0_handTold 37 = .ok (.iload_n 3, 1) := by decide +kernel
theorem dX0_handTold_38 : decode cX0_handTold 38 = .ok (.iand, 1) := by decide +kernel
theorem dX0_handTold_39 : decode cX0_handTold 39 = .ok (.ifCond .eq 9, 3) := by decide +kernel
theorem dX0_handTold_42 : decode cX0_handTold 42 = .ok (.aload_n 0, 1) := by decide +kernel
theorem dX0_handTold_43 : decode cX0_handTold 43 = .ok (.iconst 4, 1) := by decide +kernel
theorem dX0_handTold_44 : decode cX0_handTold 44 = .ok (.invokevirtual 87, 3) := by decide +kernel
theorem dX0_handTold_47 : decode cX0_handTold 47 = .ok (.ireturn, 1) := by decide +kernel
theorem dX0_handTold_48 : decode cX0_handTold 48 = .ok (.iload_n 1, 1) := by decide +kernel
theorem dX0_handTold_49 : decode cX0_handTold 49 = .ok (.iload_n 3, 1) := by decide +kernel
theorem dX0_handTold_50 : decode cX0_handTold 50 = .ok (.ior, 1) := by decide +kernel
theorem dX0_handTold_51 : decode cX0_handTold 51 = .ok (.istore_n 1, 1) := by decide +kernel
theorem dX0_handTold_52 : decode cX0_handTold 52 = .ok (.iinc 2 1, 3) := by decide +kernel
theorem dX0_handTold_55 : decode cX0_handTold 55 = .ok (.goto (-39), 3) := by decide +kernel
theorem dX0_handTold_58 : decode cX0_handTold 58 = .ok (.iload_n 1, 1) := by decide +kernel
theorem dX0_handTold_59 : decode cX0_handTold 59 = .ok (.ireturn, 1) := by decide +kernel
theorem dX0_doorLine_0 : decode cX0_doorLine 0 = .ok (.aload_n 0, 1) := by decide +kernel
theorem dX0_doorLine_1 : decode cX0_doorLine 1 = .ok (.getfield 25, 3) := by decide +kernel
theorem dX0_doorLine_4 : decode cX0_doorLine 4 = .ok (.getfield 45, 3) := by decide +kernel
theorem dX0_doorLine_7 : decode cX0_doorLine 7 = .ok (.bipush 6, 2) := by decide +kernel
theorem dX0_doorLine_9 : decode cX0_doorLine 9 = .ok (.if_icmp .lt 9, 3) := by decide +kernel
theorem dX0_doorLine_12 : decode cX0_doorLine 12 = .ok (.aload_n 0, 1) := by decide +kernel
theorem dX0_doorLine_13 : decode cX0_doorLine 13 = .ok (.iconst 2, 1) := by decide +kernel
theorem dX0_doorLine_14 : decode cX0_doorLine 14 = .ok (.invokevirtual 87, 3) := by decide +kernel
theorem dX0_doorLine_17 : decode cX0_doorLine 17 = .ok (.pop, 1) := by decide +kernel
theorem dX0_doorLine_18 : decode cX0_doorLine 18 = .ok (.aload_n 0, 1) := by decide +kernel
theorem dX0_doorLine_19 : decode cX0_doorLine 19 = .ok (.invokevirtual 55, 3) := by decide +kernel
theorem dX0_doorLine_22 : decode cX0_doorLine 22 = .ok (.aload_n 0, 1) := by decide +kernel
theorem dX0_doorLine_23 : decode cX0_doorLine 23 = .ok (.invokevirtual 105, 3) := by decide +kernel
theorem dX0_doorLine_26 : decode cX0_doorLine 26 = .ok (.istore_n 2, 1) := by decide +kernel
theorem dX0_doorLine_27 : decode cX0_doorLine 27 = .ok (.aload_n 0, 1) := by decide +kernel
theorem dX0_doorLine_28 : decode cX0_doorLine 28 = .ok (.invokevirtual 55, 3) := by decide +kernel
theorem dX0_doorLine_31 : decode cX0_doorLine 31 = .ok (.aload_n 0, 1) := by decide +kernel
theorem dX0_doorLine_32 : decode cX0_doorLine 32 = .ok (.getfield 52, 3) := by decide +kernel
theorem dX0_doorLine_35 : decode cX0_doorLine 35 = .ok (.ifCond .ne 12, 3) := by decide +kernel
theorem dX0_doorLine_38 : decode cX0_doorLine 38 = .ok (.aload_n 0, 1) := by decide +kernel
theorem dX0_doorLine_39 : decode cX0_doorLine 39 = .ok (.getfield 25, 3) := by decide +kernel
theorem dX0_doorLine_42 : decode cX0_doorLine 42 = .ok (.iload_n 1, 1) := by decide +kernel
theorem dX0_doorLine_43 : decode cX0_doorLine 43 = .ok (.iload_n 2, 1) := by decide +kernel
theorem dX0_doorLine_44 : decode cX0_doorLine 44 = .ok (.invokevirtual 108, 3) := by decide +kernel
theorem dX0_doorLine_47 : decode cX0_doorLine 47 = .ok (.return_, 1) := by decide +kernel
theorem dX0_rowTold_0 : decode cX0_rowTold 0 = .ok (.aload_n 0, 1) := by decide +kernel
theorem dX0_rowTold_1 : decode cX0_rowTold 1 = .ok (.invokevirtual 115, 3) := by decide +kernel
theorem dX0_rowTold_4 : decode cX0_rowTold 4 = .ok (.ifCond .ne 5, 3) := by decide +kernel
theorem dX0_rowTold_7 : decode cX0_rowTold 7 = .ok (.iconst 0, 1) := by decide +kernel
theorem dX0_rowTold_8 : decode cX0_rowTold 8 = .ok (.ireturn, 1) := by decide +kernel
theorem dX0_rowTold_9 : decode cX0_rowTold 9 = .ok (.aload_n 0, 1) := by decide +kernel
theorem dX0_rowTold_10 : decode cX0_rowTold 10 = .ok (.getfield 49, 3) := by decide +kernel
theorem dX0_rowTold_13 : decode cX0_rowTold 13 = .ok (.aload_n 0, 1) := by decide +kernel
theorem dX0_rowTold_14 : decode cX0_rowTold 14 = .ok (.getfield 119, 3) := by decide +kernel
theorem dX0_rowTold_17 : decode cX0_rowTold 17 = .ok (.isub, 1) := by decide +kernel
theorem dX0_rowTold_18 : decode cX0_rowTold 18 = .ok (.bipush 6, 2) := by decide +kernel
theorem dX0_rowTold_20 : decode cX0_rowTold 20 = .ok (.if_icmp .le 9, 3) := by decide +kernel
theorem dX0_rowTold_23 : decode cX0_rowTold 23 = .ok (.aload_n 0, 1) := by decide +kernel
theorem dX0_rowTold_24 : decode cX0_rowTold 24 = .ok (.iconst 2, 1) := by decide +kernel
theorem dX0_rowTold_25 : decode cX0_rowTold 25 = .ok (.invokevirtual 87, 3) := by decide +kernel
theorem dX0_rowTold_28 : decode cX0_rowTold 28 = .ok (.ireturn, 1) := by decide +kernel
theorem dX0_rowTold_29 : decode cX0_rowTold 29 = .ok (.iconst 0, 1) := by decide +kernel
theorem dX0_rowTold_30 : decode cX0_rowTold 30 = .ok (.istore_n 1, 1) := by decide +kernel
theorem dX0_rowTold_31 : decode cX0_rowTold 31 = .ok (.aload_n 0, 1) := by decide +kernel
theorem dX0_rowTold_32 : decode cX0_rowTold 32 = .ok (.getfield 119, 3) := by decide +kernel
theorem dX0_rowTold_35 : decode cX0_rowTold 35 = .ok (.istore_n 2, 1) := by decide +kernel
theorem dX0_rowTold_36 : decode cX0_rowTold 36 = .ok (.iload_n 2, 1) := by decide +kernel
theorem dX0_rowTold_37 : decode cX0_rowTold 37 = .ok (.aload_n 0, 1) := by decide +kernel
theorem dX0_rowTold_38 : decode cX0_rowTold 38 = .ok (.getfield 49, 3) := by decide +kernel
theorem dX0_rowTold_41 : decode cX0_rowTold 41 = .ok (.if_icmp .ge 22, 3) := by decide +kernel
theorem dX0_rowTold_44 : decode cX0_rowTold 44 = .ok (.iload_n 1, 1) := by decide +kernel
theorem dX0_rowTold_45 : decode cX0_rowTold 45 = .ok (.iconst 5, 1) := by decide +kernel
theorem dX0_rowTold_46 : decode cX0_rowTold 46 = .ok (.imul, 1) := by decide +kernel
theorem dX0_rowTold_47 : decode cX0_rowTold 47 = .ok (.aload_n 0, 1) := by decide +kernel
theorem dX0_rowTold_48 : decode cX0_rowTold 48 = .ok (.iload_n 2, 1) := by decide +kernel
theorem dX0_rowTold_49 : decode cX0_rowTold 49 = .ok (.invokevirtual 122, 3) := by decide +kernel
theorem dX0_rowTold_52 : decode cX0_rowTold 52 = .ok (.invokestatic 125, 3) := by decide +kernel
theorem dX0_rowTold_55 : decode cX0_rowTold 55 = .ok (.iadd, 1) := by decide +kernel
theorem dX0_rowTold_56 : decode cX0_rowTold 56 = .ok (.istore_n 1, 1) := by decide +kernel
theorem dX0_rowTold_57 : decode cX0_rowTold 57 = .ok (.iinc 2 1, 3) := by decide +kernel
theorem dX0_rowTold_60 : decode cX0_rowTold 60 = .ok (.goto (-24), 3) := by decide +kernel
theorem dX0_rowTold_63 : decode cX0_rowTold 63 = .ok (.aload_n 0, 1) := by decide +kernel
theorem dX0_rowTold_64 : decode cX0_rowTold 64 = .ok (.getfield 18, 3) := by decide +kernel
theorem dX0_rowTold_67 : decode cX0_rowTold 67 = .ok (.iload_n 1, 1) := by decide +kernel
theorem dX0_rowTold_68 : decode cX0_rowTold 68 = .ok (.invokevirtual 128, 3) := by decide +kernel
theorem dX0_rowTold_71 : decode cX0_rowTold 71 = .ok (.iconst (-1), 1) := by decide +kernel
theorem dX0_rowTold_72 : decode cX0_rowTold 72 = .ok (.if_icmp .ne 7, 3) := by decide +kernel
theorem dX0_rowTold_75 : decode cX0_rowTold 75 = .ok (.iload_n 1, 1) := by decide +kernel
theorem dX0_rowTold_76 : decode cX0_rowTold 76 = .ok (.goto 8, 3) := by decide +kernel
theorem dX0_rowTold_79 : decode cX0_rowTold 79 = .ok (.aload_n 0, 1) := by decide +kernel
theorem dX0_rowTold_80 : decode cX0_rowTold 80 = .ok (.iconst 4, 1) := by decide +kernel
theorem dX0_rowTold_81 : decode cX0_rowTold 81 = .ok (.invokevirtual 87, 3) := by decide +kernel
theorem dX0_rowTold_84 : decode cX0_rowTold 84 = .ok (.ireturn, 1) := by decide +kernel
theorem dX0_worthTold_0 : decode cX0_worthTold 0 = .ok (.aload_n 0, 1) := by decide +kernel
theorem dX0_worthTold_1 : decode cX0_worthTold 1 = .ok (.getfield 58, 3) := by decide +kernel
theorem dX0_worthTold_4 : decode cX0_worthTold 4 = .ok (.iconst 2, 1) := by decide +kernel
theorem dX0_worthTold_5 : decode cX0_worthTold 5 = .ok (.if_icmp .eq 9, 3) := by decide +kernel
theorem dX0_worthTold_8 : decode cX0_worthTold 8 = .ok (.aload_n 0, 1) := by decide +kernel
theorem dX0_worthTold_9 : decode cX0_worthTold 9 = .ok (.iconst 1, 1) := by decide +kernel
theorem dX0_worthTold_10 : decode cX0_worthTold 10 = .ok (.invokevirtual 87, 3) := by decide +kernel
theorem dX0_worthTold_13 : decode cX0_worthTold 13 = .ok (.ireturn, 1) := by decide +kernel
theorem dX0_worthTold_14 : decode cX0_worthTold 14 = .ok (.aload_n 0, 1) := by decide +kernel
theorem dX0_worthTold_15 : decode cX0_worthTold 15 = .ok (.invokevirtual 136, 3) := by decide +kernel
theorem dX0_worthTold_18 : decode cX0_worthTold 18 = .ok (.istore_n 1, 1) := by decide +kernel
theorem dX0_worthTold_19 : decode cX0_worthTold 19 = .ok (.iload_n 1, 1) := by decide +kernel
theorem dX0_worthTold_20 : decode cX0_worthTold 20 = .ok (.bipush 99, 2) := by decide +kernel
theorem dX0_worthTold_22 : decode cX0_worthTold 22 = .ok (.if_icmp .gt 7, 3) := by decide +kernel
theorem dX0_worthTold_25 : decode cX0_worthTold 25 = .ok (.iload_n 1, 1) := by decide +kernel
theorem dX0_worthTold_26 : decode cX0_worthTold 26 = .ok (.goto 8, 3) := by decide +kernel
theorem dX0_worthTold_29 : decode cX0_worthTold 29 = .ok (.aload_n 0, 1) := by decide +kernel
theorem dX0_worthTold_30 : decode cX0_worthTold 30 = .ok (.iconst 2, 1) := by decide +kernel
theorem dX0_worthTold_31 : decode cX0_worthTold 31 = .ok (.invokevirtual 87, 3) := by decide +kernel
theorem dX0_worthTold_34 : decode cX0_worthTold 34 = .ok (.ireturn, 1) := by decide +kernel
theorem dX0_wordLine_0 : decode cX0_wordLine 0 = .ok (.aload_n 0, 1) := by decide +kernel
theorem dX0_wordLine_1 : decode cX0_wordLine 1 = .ok (.getfield 18, 3) := by decide +kernel
theorem dX0_wordLine_4 : decode cX0_wordLine 4 = .ok (.getfield 42, 3) := by decide +kernel
theorem dX0_wordLine_7 : decode cX0_wordLine 7 = .ok (.bipush 10, 2) := by decide +kernel
theorem dX0_wordLine_9 : decode cX0_wordLine 9 = .ok (.if_icmp .lt 9, 3) := by decide +kernel
theorem dX0_wordLine_12 : decode cX0_wordLine 12 = .ok (.aload_n 0, 1) := by decide +kernel
theorem dX0_wordLine_13 : decode cX0_wordLine 13 = .ok (.iconst 2, 1) := by decide +kernel
theorem dX0_wordLine_14 : decode cX0_wordLine 14 = .ok (.invokevirtual 87, 3) := by decide +kernel
theorem dX0_wordLine_17 : decode cX0_wordLine 17 = .ok (.pop, 1) := by decide +kernel
theorem dX0_wordLine_18 : decode cX0_wordLine 18 = .ok (.aload_n 0, 1) := by decide +kernel
theorem dX0_wordLine_19 : decode cX0_wordLine 19 = .ok (.invokevirtual 55, 3) := by decide +kernel
theorem dX0_wordLine_22 : decode cX0_wordLine 22 = .ok (.aload_n 0, 1) := by decide +kernel
theorem dX0_wordLine_23 : decode cX0_wordLine 23 = .ok (.invokevirtual 95, 3) := by decide +kernel
theorem dX0_wordLine_26 : decode cX0_wordLine 26 = .ok (.istore_n 2, 1) := by decide +kernel
theorem dX0_wordLine_27 : decode cX0_wordLine 27 = .ok (.aload_n 0, 1) := by decide +kernel
theorem dX0_wordLine_28 : decode cX0_wordLine 28 = .ok (.invokevirtual 55, 3) := by decide +kernel
theorem dX0_wordLine_31 : decode cX0_wordLine 31 = .ok (.aload_n 0, 1) := by decide +kernel
theorem dX0_wordLine_32 : decode cX0_wordLine 32 = .ok (.invokevirtual 98, 3) := by decide +kernel
theorem dX0_wordLine_35 : decode cX0_wordLine 35 = .ok (.istore_n 3, 1) := by decide +kernel
theorem dX0_wordLine_36 : decode cX0_wordLine 36 = .ok (.aload_n 0, 1) := by decide +kernel
theorem dX0_wordLine_37 : decode cX0_wordLine 37 = .ok (.invokevirtual 55, 3) := by decide +kernel
theorem dX0_wordLine_40 : decode cX0_wordLine 40 = .ok (.aload_n 0, 1) := by decide +kernel
theorem dX0_wordLine_41 : decode cX0_wordLine 41 = .ok (.getfield 52, 3) := by decide +kernel
theorem dX0_wordLine_44 : decode cX0_wordLine 44 = .ok (.ifCond .ne 20, 3) := by decide +kernel
theorem dX0_wordLine_47 : decode cX0_wordLine 47 = .ok (.aload_n 0, 1) := by decide +kernel
theorem dX0_wordLine_48 : decode cX0_wordLine 48 = .ok (.getfield 18, 3) := by decide +kernel
theorem dX0_wordLine_51 : decode cX0_wordLine 51 = .ok (.aload_n 0, 1) := by decide +kernel
theorem dX0_wordLine_52 : decode cX0_wordLine 52 = .ok (.getfield 18, 3) := by decide +kernel
theorem dX0_wordLine_55 : decode cX0_wordLine 55 = .ok (.getfield 42, 3) := by decide +kernel
theorem dX0_wordLine_58 : decode cX0_wordLine 58 = .ok (.iload_n 2, 1) := by decide +kernel
theorem dX0_wordLine_59 : decode cX0_wordLine 59 = .ok (.iload_n 1, 1) := by decide +kernel
theorem dX0_wordLine_60 : decode cX0_wordLine 60 = .ok (.iload_n 3, 1) := by decide +kernel
theorem dX0_wordLine_61 : decode cX0_wordLine 61 = .ok (.invokevirtual 101, 3) := by decide +kernel
theorem dX0_wordLine_64 : decode cX0_wordLine 64 = .ok (.return_, 1) := by decide +kernel
theorem dX0_line_0 : decode cX0_line 0 = .ok (.aload_n 0, 1) := by decide +kernel
theorem dX0_line_1 : decode cX0_line 1 = .ok (.invokevirtual 64, 3) := by decide +kernel
theorem dX0_line_4 : decode cX0_line 4 = .ok (.istore_n 1, 1) := by decide +kernel
theorem dX0_line_5 : decode cX0_line 5 = .ok (.aload_n 0, 1) := by decide +kernel
theorem dX0_line_6 : decode cX0_line 6 = .ok (.invokevirtual 68, 3) := by decide +kernel
theorem dX0_line_9 : decode cX0_line 9 = .ok (.istore_n 2, 1) := by decide +kernel
theorem dX0_line_10 : decode cX0_line 10 = .ok (.iload_n 1, 1) := by decide +kernel
theorem dX0_line_11 : decode cX0_line 11 = .ok (.iconst (-1), 1) := by decide +kernel
theorem dX0_line_12 : decode cX0_line 12 = .ok (.if_icmp .eq 11, 3) := by decide +kernel
theorem dX0_line_15 : decode cX0_line 15 = .ok (.aload_n 0, 1) := by decide +kernel
theorem dX0_line_16 : decode cX0_line 16 = .ok (.iload_n 1, 1) := by decide +kernel
theorem dX0_line_17 : decode cX0_line 17 = .ok (.invokevirtual 71, 3) := by decide +kernel
theorem dX0_line_20 : decode cX0_line 20 = .ok (.goto 38, 3) := by decide +kernel
theorem dX0_line_23 : decode cX0_line 23 = .ok (.iload_n 2, 1) := by decide +kernel
theorem dX0_line_24 : decode cX0_line 24 = .ok (.iconst (-1), 1) := by decide +kernel
theorem dX0_line_25 : decode cX0_line 25 = .ok (.if_icmp .eq 11, 3) := by decide +kernel
theorem dX0_line_28 : decode cX0_line 28 = .ok (.aload_n 0, 1) := by decide +kernel
theorem dX0_line_29 : decode cX0_line 29 = .ok (.iload_n 2, 1) := by decide +kernel
theorem dX0_line_30 : decode cX0_line 30 = .ok (.invokevirtual 75, 3) := by decide +kernel
theorem dX0_line_33 : decode cX0_line 33 = .ok (.goto 25, 3) := by decide +kernel
theorem dX0_line_36 : decode cX0_line 36 = .ok (.aload_n 0, 1) := by decide +kernel
theorem dX0_line_37 : decode cX0_line 37 = .ok (.ldc 78, 2) := by decide +kernel
theorem dX0_line_39 : decode cX0_line 39 = .ok (.invokevirtual 80, 3) := by decide +kernel
theorem dX0_line_42 : decode cX0_line 42 = .ok (.ifCond .eq 10, 3) := by decide +kernel
theorem dX0_line_45 : decode cX0_line 45 = .ok (.aload_n 0, 1) := by decide +kernel
theorem dX0_line_46 : decode cX0_line 46 = .ok (.invokevirtual 84, 3) := by decide +kernel
theorem dX0_line_49 : decode cX0_line 49 = .ok (.goto 9, 3) := by decide +kernel
theorem dX0_line_52 : decode cX0_line 52 = .ok (.aload_n 0, 1) := by decide +kernel
theorem dX0_line_53 : decode cX0_line 53 = .ok (.iconst 1, 1) := by decide +kernel
theorem dX0_line_54 : decode cX0_line 54 = .ok (.invokevirtual 87, 3) := by decide +kernel
theorem dX0_line_57 : decode cX0_line 57 = .ok (.pop, 1) := by decide +kernel
theorem dX0_line_58 : decode cX0_line 58 = .ok (.aload_n 0, 1) := by decide +kernel
theorem dX0_line_59 : decode cX0_line 59 = .ok (.bipush 59, 2) := by decide +kernel
theorem dX0_line_61 : decode cX0_line 61 = .ok (.invokevirtual 91, 3) := by decide +kernel
theorem dX0_line_64 : decode cX0_line 64 = .ok (.return_, 1) := by decide +kernel
theorem dX0_parse_0 : decode cX0_parse 0 = .ok (.aload_n 0, 1) := by decide +kernel
theorem dX0_parse_1 : decode cX0_parse 1 = .ok (.iload_n 1, 1) := by decide +kernel
theorem dX0_parse_2 : decode cX0_parse 2 = .ok (.putfield 39, 3) := by decide +kernel
theorem dX0_parse_5 : decode cX0_parse 5 = .ok (.aload_n 0, 1) := by decide +kernel
theorem dX0_parse_6 : decode cX0_parse 6 = .ok (.iconst 0, 1) := by decide +kernel
theorem dX0_parse_7 : decode cX0_parse 7 = .ok (.putfield 36, 3) := by decide +kernel
theorem dX0_parse_10 : decode cX0_parse 10 = .ok (.aload_n 0, 1) := by decide +kernel
theorem dX0_parse_11 : decode cX0_parse 11 = .ok (.getfield 18, 3) := by decide +kernel
theorem dX0_parse_14 : decode cX0_parse 14 = .ok (.iconst 0, 1) := by decide +kernel
theorem dX0_parse_15 : decode cX0_parse 15 = .ok (.putfield 42, 3) := by decide +kernel
theorem dX0_parse_18 : decode cX0_parse 18 = .ok (.aload_n 0, 1) := by decide +kernel
theorem dX0_parse_19 : decode cX0_parse 19 = .ok (.getfield 25, 3) := by decide +kernel
theorem dX0_parse_22 : decode cX0_parse 22 = .ok (.iconst 0, 1) := by decide +kernel
theorem dX0_parse_23 : decode cX0_parse 23 = .ok (.putfield 45, 3) := by decide +kernel
theorem dX0_parse_26 : decode cX0_parse 26 = .ok (.aload_n 0, 1) := by decide +kernel
theorem dX0_parse_27 : decode cX0_parse 27 = .ok (.iconst 0, 1) := by decide +kernel
theorem dX0_parse_28 : decode cX0_parse 28 = .ok (.putfield 46, 3) := by decide +kernel
theorem dX0_parse_31 : decode cX0_parse 31 = .ok (.aload_n 0, 1) := by decide +kernel
theorem dX0_parse_32 : decode cX0_parse 32 = .ok (.iconst 0, 1) := by decide +kernel
theorem dX0_parse_33 : decode cX0_parse 33 = .ok (.putfield 49, 3) := by decide +kernel
theorem dX0_parse_36 : decode cX0_parse 36 = .ok (.aload_n 0, 1) := by decide +kernel
theorem dX0_parse_37 : decode cX0_parse 37 = .ok (.iconst 0, 1) := by decide +kernel
theorem dX0_parse_38 : decode cX0_parse 38 = .ok (.putfield 52, 3) := by decide +kernel
theorem dX0_parse_41 : decode cX0_parse 41 = .ok (.aload_n 0, 1) := by decide +kernel
theorem dX0_parse_42 : decode cX0_parse 42 = .ok (.iconst (-1), 1) := by decide +kernel
theorem dX0_parse_43 : decode cX0_parse 43 = .ok (.putfield 32, 3) := by decide +kernel
theorem dX0_parse_46 : decode cX0_parse 46 = .ok (.aload_n 0, 1) := by decide +kernel
theorem dX0_parse_47 : decode cX0_parse 47 = .ok (.invokevirtual 55, 3) := by decide +kernel
theorem dX0_parse_50 : decode cX0_parse 50 = .ok (.iconst 0, 1) := by decide +kernel
theorem dX0_parse_51 : decode cX0_parse 51 = .ok (.istore_n 2, 1) := by decide +kernel
theorem dX0_parse_52 : decode cX0_parse 52 = .ok (.iload_n 2, 1) := by decide +kernel
theorem dX0_parse_53 : decode cX0_parse 53 = .ok (.sipush 600, 3) := by decide +kernel
theorem dX0_parse_56 : decode cX0_parse 56 = .ok (.if_icmp .ge 28, 3) := by decide +kernel
theorem dX0_parse_59 : decode cX0_parse 59 = .ok (.aload_n 0, 1) := by decide +kernel
theorem dX0_parse_60 : decode cX0_parse 60 = .ok (.getfield 58, 3) := by decide +kernel
theorem dX0_parse_63 : decode cX0_parse 63 = .ok (.ifCond .eq 21, 3) := by decide +kernel
theorem dX0_parse_66 : decode cX0_parse 66 = .ok (.aload_n 0, 1) := by decide +kernel
theorem dX0_parse_67 : decode cX0_parse 67 = .ok (.getfield 58, 3) := by decide +kernel
theorem dX0_parse_70 : decode cX0_parse 70 = .ok (.iconst 4, 1) := by decide +kernel
theorem dX0_parse_71 : decode cX0_parse 71 = .ok (.if_icmp .eq 13, 3) := by decide +kernel
theorem dX0_parse_74 : decode cX0_parse 74 = .ok (.aload_n 0, 1) := by decide +kernel
theorem dX0_parse_75 : decode cX0_parse 75 = .ok (.invokevirtual 61, 3) := by decide +kernel
theorem dX0_parse_78 : decode cX0_parse 78 = .ok (.iinc 2 1, 3) := by decide +kernel
theorem dX0_parse_81 : decode cX0_parse 81 = .ok (.goto (-29), 3) := by decide +kernel
theorem dX0_parse_84 : decode cX0_parse 84 = .ok (.aload_n 0, 1) := by decide +kernel
theorem dX0_parse_85 : decode cX0_parse 85 = .ok (.getfield 52, 3) := by decide +kernel
theorem dX0_parse_88 : decode cX0_parse 88 = .ok (.ireturn, 1) := by decide +kernel
def jn_BT_append_34 (μ : kbM) : Option (kbM) :=
  some μ
theorem jnR_BT_append_34 {l : Launch}    (μ : kbM) {Q : kbQt} {P : kbM → Prop} (hr : ∀ z : kbM, P z → Q none z) (h : kbG (jn_BT_append_34 μ) P) : kbR l MX0_append 1 Q 34 [none, none] [] μ := by
  unfold jn_BT_append_34 at h
  exact r_vret rfl dX0_append_34 (hr μ (kbG_some h))
def f_BT_append (a1 : Int32) (μ : kbM) : Option (kbM) :=
  if 600 < ((μ.1 1 4) + 4) then
    jn_BT_append_34 μ
  else
    kbIf (kbIn ((μ.1 1 4) / 4) 150) <|
    jn_BT_append_34 (kbW (kbW μ 2 (((μ.1 1 4) / 4).toNatClampNeg) a1) 1 4 (((kbW μ 2 (((μ.1 1 4) / 4).toNatClampNeg) a1).1 1 4) + 4))
theorem sp_BT_append {l : Launch} (a1 : Int32) (μ : kbM)  {x : kbM} (h : f_BT_append a1 μ = some x) : kbS l MX0_append 1 [.ref 1, .int a1] μ (kbQe none x) := by
  refine kb_enter 0 rfl rfl ?_
  suffices H : ∀ (Q : kbQt) (P : kbM → Prop), (∀ z : kbM, P z → Q none z) → kbG (f_BT_append a1 μ) P → kbR l MX0_append 1 Q 0 [some (.ref 1), some (.int a1)] [] μ from H _ (fun z => z = x) (fun z e => by subst e; exact ⟨rfl, rfl⟩) ⟨x, h, rfl⟩
  clear h
  intro Q P hr h
  unfold f_BT_append at h
  refine r_aload_n dX0_append_0 rfl ?_
  refine r_getI flX0_36 sh1 rfl dX0_append_1 ?_
  refine r_iconst 4 dX0_append_4 (by decide) ?_
  refine r_iadd dX0_append_5 ?_
  refine r_sipush 600 dX0_append_6 (by decide) ?_
  refine r_icmp_gt 34 dX0_append_9 (by decide) (fun hc => ?_) (fun hc => ?_)
  · replace h := kbG_t hc h
    refine r_le [none, none] trivial ?_
    exact jnR_BT_append_34  μ (hr := hr) h
  · replace h := kbG_f hc h
    refine r_aload_n dX0_append_12 rfl ?_
    refine r_getR flX0_9 sh1 rfl dX0_append_13 ?_
    refine r_aload_n dX0_append_16 rfl ?_
    refine r_getI flX0_36 sh1 rfl dX0_append_17 ?_
    refine r_iconst 4 dX0_append_20 (by decide) ?_
    refine r_idiv dX0_append_21 (by decide) ?_
    refine r_iload_n dX0_append_22 rfl ?_
    obtain ⟨hin, h⟩ := kbG_if h
    replace hin := kbIn_of hin
    refine q_iast (((μ.1 1 4) / 4).toNatClampNeg) rfl sh2 hin dX0_append_23 ?_
    refine r_aload_n dX0_append_24 rfl ?_
    refine r_dup dX0_append_25 rfl ?_
    refine r_getI flX0_36 sh1 rfl dX0_append_26 ?_
    refine r_iconst 4 dX0_append_29 (by decide) ?_
    refine r_iadd dX0_append_30 ?_
    refine r_put flX0_36 sh1 rfl rfl rfl dX0_append_31 ?_
    refine r_le [none, none] trivial ?_
    exact jnR_BT_append_34  (kbW (kbW μ 2 (((μ.1 1 4) / 4).toNatClampNeg) a1) 1 4 (((kbW μ 2 (((μ.1 1 4) / 4).toNatClampNeg) a1).1 1 4) + 4)) (hr := hr) h
def jn_BT_byteAt_19 (μ : kbM) : Option (Int32) :=
  some 0
theorem jnR_BT_byteAt_19 {l : Launch}    (μ : kbM) {Q : kbQt} {P : Int32 → Prop} (hr : ∀ z : Int32, P z → Q (some (.int z)) μ) (h : kbG (jn_BT_byteAt_19 μ) P) : kbR l MX0_byteAt 1 Q 19 [none, none] [] μ := by
  unfold jn_BT_byteAt_19 at h
  refine r_iconst 0 dX0_byteAt_19 (by decide) ?_
  exact r_iret rfl dX0_byteAt_20 (hr 0 (kbG_some h))
def f_BT_byteAt (a1 : Int32) (μ : kbM) : Option (Int32) :=
  if a1 < 0 then
    jn_BT_byteAt_19 μ
  else
    if (μ.1 1 6) ≤ a1 then
      jn_BT_byteAt_19 μ
    else
      if a1 < 600 then
        kbIf (kbIn (a1 / 4) 150) <|
        some ((kbUsh (μ.1 2 ((a1 / 4).toNatClampNeg)) (24 - ((kbRem a1 4) * 8))) &&& 255)
      else
        jn_BT_byteAt_19 μ
theorem sp_BT_byteAt {l : Launch} (a1 : Int32) (μ : kbM)  {x : Int32} (h : f_BT_byteAt a1 μ = some x) : kbS l MX0_byteAt 1 [.ref 1, .int a1] μ (kbQe (some (.int x)) μ) := by
  refine kb_enter 0 rfl rfl ?_
  suffices H : ∀ (Q : kbQt) (P : Int32 → Prop), (∀ z : Int32, P z → Q (some (.int z)) μ) → kbG (f_BT_byteAt a1 μ) P → kbR l MX0_byteAt 1 Q 0 [some (.ref 1), some (.int a1)] [] μ from H _ (fun z => z = x) (fun z e => by subst e; exact ⟨rfl, rfl⟩) ⟨x, h, rfl⟩
  clear h
  intro Q P hr h
  unfold f_BT_byteAt at h
  refine r_iload_n dX0_byteAt_0 rfl ?_
  refine r_if_lt 19 dX0_byteAt_1 (by decide) (fun hc => ?_) (fun hc => ?_)
  · replace h := kbG_t hc h
    refine r_le [none, none] trivial ?_
    exact jnR_BT_byteAt_19  μ (hr := hr) h
  · replace h := kbG_f hc h
    refine r_iload_n dX0_byteAt_4 rfl ?_
    refine r_aload_n dX0_byteAt_5 rfl ?_
    refine r_getI flX0_39 sh1 rfl dX0_byteAt_6 ?_
    refine r_icmp_ge 19 dX0_byteAt_9 (by decide) (fun hc => ?_) (fun hc => ?_)
    · replace h := kbG_t hc h
      refine r_le [none, none] trivial ?_
      exact jnR_BT_byteAt_19  μ (hr := hr) h
    · replace h := kbG_f hc h
      refine r_iload_n dX0_byteAt_12 rfl ?_
      refine r_sipush 600 dX0_byteAt_13 (by decide) ?_
      refine r_icmp_lt 21 dX0_byteAt_16 (by decide) (fun hc => ?_) (fun hc => ?_)
      · replace h := kbG_t hc h
        refine r_aload_n dX0_byteAt_21 rfl ?_
        refine r_getR flX0_9 sh1 rfl dX0_byteAt_22 ?_
        refine r_iload_n dX0_byteAt_25 rfl ?_
        refine r_iconst 4 dX0_byteAt_26 (by decide) ?_
        refine r_idiv dX0_byteAt_27 (by decide) ?_
        obtain ⟨hin, h⟩ := kbG_if h
        replace hin := kbIn_of hin
        refine q_iald ((a1 / 4).toNatClampNeg) rfl sh2 hin dX0_byteAt_28 ?_
        refine r_bipush 24 dX0_byteAt_29 (by decide) ?_
        refine r_iload_n dX0_byteAt_31 rfl ?_
        refine r_iconst 4 dX0_byteAt_32 (by decide) ?_
        refine r_rem dX0_byteAt_33 (by decide) ?_
        refine r_bipush 8 dX0_byteAt_34 (by decide) ?_
        refine r_imul dX0_byteAt_36 ?_
        refine r_isub dX0_byteAt_37 ?_
        refine r_ush dX0_byteAt_38 ?_
        refine r_sipush 255 dX0_byteAt_39 (by decide) ?_
        refine r_iand dX0_byteAt_42 ?_
        exact r_iret rfl dX0_byteAt_43 (hr ((kbUsh (μ.1 2 ((a1 / 4).toNatClampNeg)) (24 - ((kbRem a1 4) * 8))) &&& 255) (kbG_some h))
      · replace h := kbG_f hc h
        refine r_le [none, none] trivial ?_
        exact jnR_BT_byteAt_19  μ (hr := hr) h
def jn_BT_isBlank_17 (w0 : Int32) : Option (Int32) :=
  kbIf (decide (w0 = 0 ∨ w0 = 1)) <|
  some w0
theorem jnR_BT_isBlank_17 {l : Launch}   (w0 : Int32) (μ : kbM) {Q : kbQt} {P : Int32 → Prop} (hr : ∀ z : Int32, P z → Q (some (.int z)) μ) (h : kbG (jn_BT_isBlank_17 w0) P) : kbR l MX0_isBlank 1 Q 17 [none] [.int w0] μ := by
  unfold jn_BT_isBlank_17 at h
  obtain ⟨hz, h⟩ := kbG_if h
  exact r_zret rfl (kb_z01 (of_decide_eq_true hz)) dX0_isBlank_17 (hr w0 (kbG_some h))
def jn_BT_isBlank_12  : Option (Int32) :=
  jn_BT_isBlank_17 1
theorem jnR_BT_isBlank_12 {l : Launch}    (μ : kbM) {Q : kbQt} {P : Int32 → Prop} (hr : ∀ z : Int32, P z → Q (some (.int z)) μ) (h : kbG (jn_BT_isBlank_12 ) P) : kbR l MX0_isBlank 1 Q 12 [none] [] μ := by
  unfold jn_BT_isBlank_12 at h
  refine r_iconst 1 dX0_isBlank_12 (by decide) ?_
  refine r_goto 17 dX0_isBlank_13 (by decide) ?_
  refine r_le [none] trivial ?_
  exact jnR_BT_isBlank_17 1 μ (hr := hr) h
def f_BT_isBlank (a0 : Int32) : Option (Int32) :=
  if a0 = 32 then
    jn_BT_isBlank_12 
  else
    if a0 = 10 then
      jn_BT_isBlank_12 
    else
      jn_BT_isBlank_17 0
theorem sp_BT_isBlank {l : Launch} (a0 : Int32) (μ : kbM)  {x : Int32} (h : f_BT_isBlank a0 = some x) : kbS l MX0_isBlank 1 [.int a0] μ (kbQe (some (.int x)) μ) := by
  refine kb_enter 0 rfl rfl ?_
  suffices H : ∀ (Q : kbQt) (P : Int32 → Prop), (∀ z : Int32, P z → Q (some (.int z)) μ) → kbG (f_BT_isBlank a0) P → kbR l MX0_isBlank 1 Q 0 [some (.int a0)] [] μ from H _ (fun z => z = x) (fun z e => by subst e; exact ⟨rfl, rfl⟩) ⟨x, h, rfl⟩
  clear h
  intro Q P hr h
  unfold f_BT_isBlank at h
  refine r_iload_n dX0_isBlank_0 rfl ?_
  refine r_bipush 32 dX0_isBlank_1 (by decide) ?_
  refine r_icmp_eq 12 dX0_isBlank_3 (by decide) (fun hc => ?_) (fun hc => ?_)
  · replace h := kbG_t hc h
    refine r_le [none] trivial ?_
    exact jnR_BT_isBlank_12  μ (hr := hr) h
  · replace h := kbG_f hc h
    refine r_iload_n dX0_isBlank_6 rfl ?_
    refine r_bipush 10 dX0_isBlank_7 (by decide) ?_
    refine r_icmp_ne 16 dX0_isBlank_9 (by decide) (fun hc => ?_) (fun hc => ?_)
    · replace h := kbG_f hc h
      refine r_iconst 0 dX0_isBlank_16 (by decide) ?_
      refine r_le [none] trivial ?_
      exact jnR_BT_isBlank_17 0 μ (hr := hr) h
    · replace h := kbG_t hc h
      refine r_le [none] trivial ?_
      exact jnR_BT_isBlank_12  μ (hr := hr) h
def jn_BT_isLetter_17 (w0 : Int32) : Option (Int32) :=
  kbIf (decide (w0 = 0 ∨ w0 = 1)) <|
  some w0
theorem jnR_BT_isLetter_17 {l : Launch}   (w0 : Int32) (μ : kbM) {Q : kbQt} {P : Int32 → Prop} (hr : ∀ z : Int32, P z → Q (some (.int z)) μ) (h : kbG (jn_BT_isLetter_17 w0) P) : kbR l MX0_isLetter 1 Q 17 [none] [.int w0] μ := by
  unfold jn_BT_isLetter_17 at h
  obtain ⟨hz, h⟩ := kbG_if h
  exact r_zret rfl (kb_z01 (of_decide_eq_true hz)) dX0_isLetter_17 (hr w0 (kbG_some h))
def jn_BT_isLetter_16  : Option (Int32) :=
  jn_BT_isLetter_17 0
theorem jnR_BT_isLetter_16 {l : Launch}    (μ : kbM) {Q : kbQt} {P : Int32 → Prop} (hr : ∀ z : Int32, P z → Q (some (.int z)) μ) (h : kbG (jn_BT_isLetter_16 ) P) : kbR l MX0_isLetter 1 Q 16 [none] [] μ := by
  unfold jn_BT_isLetter_16 at h
  refine r_iconst 0 dX0_isLetter_16 (by decide) ?_
  refine r_le [none] trivial ?_
  exact jnR_BT_isLetter_17 0 μ (hr := hr) h
def f_BT_isLetter (a0 : Int32) : Option (Int32) :=
  if a0 < 97 then
    jn_BT_isLetter_16 
  else
    if 122 < a0 then
      jn_BT_isLetter_16 
    else
      jn_BT_isLetter_17 1
theorem sp_BT_isLetter {l : Launch} (a0 : Int32) (μ : kbM)  {x : Int32} (h : f_BT_isLetter a0 = some x) : kbS l MX0_isLetter 1 [.int a0] μ (kbQe (some (.int x)) μ) := by
  refine kb_enter 0 rfl rfl ?_
  suffices H : ∀ (Q : kbQt) (P : Int32 → Prop), (∀ z : Int32, P z → Q (some (.int z)) μ) → kbG (f_BT_isLetter a0) P → kbR l MX0_isLetter 1 Q 0 [some (.int a0)] [] μ from H _ (fun z => z = x) (fun z e => by subst e; exact ⟨rfl, rfl⟩) ⟨x, h, rfl⟩
  clear h
  intro Q P hr h
  unfold f_BT_isLetter at h
  refine r_iload_n dX0_isLetter_0 rfl ?_
  refine r_bipush 97 dX0_isLetter_1 (by decide) ?_
  refine r_icmp_lt 16 dX0_isLetter_3 (by decide) (fun hc => ?_) (fun hc => ?_)
  · replace h := kbG_t hc h
    refine r_le [none] trivial ?_
    exact jnR_BT_isLetter_16  μ (hr := hr) h
  · replace h := kbG_f hc h
    refine r_iload_n dX0_isLetter_6 rfl ?_
    refine r_bipush 122 dX0_isLetter_7 (by decide) ?_
    refine r_icmp_gt 16 dX0_isLetter_9 (by decide) (fun hc => ?_) (fun hc => ?_)
    · replace h := kbG_t hc h
      refine r_le [none] trivial ?_
      exact jnR_BT_isLetter_16  μ (hr := hr) h
    · replace h := kbG_f hc h
      refine r_iconst 1 dX0_isLetter_12 (by decide) ?_
      refine r_goto 17 dX0_isLetter_13 (by decide) ?_
      refine r_le [none] trivial ?_
      exact jnR_BT_isLetter_17 1 μ (hr := hr) h
def jn_BT_isDigit_17 (w0 : Int32) : Option (Int32) :=
  kbIf (decide (w0 = 0 ∨ w0 = 1)) <|
  some w0
theorem jnR_BT_isDigit_17 {l : Launch}   (w0 : Int32) (μ : kbM) {Q : kbQt} {P : Int32 → Prop} (hr : ∀ z : Int32, P z → Q (some (.int z)) μ) (h : kbG (jn_BT_isDigit_17 w0) P) : kbR l MX0_isDigit 1 Q 17 [none] [.int w0] μ := by
  unfold jn_BT_isDigit_17 at h
  obtain ⟨hz, h⟩ := kbG_if h
  exact r_zret rfl (kb_z01 (of_decide_eq_true hz)) dX0_isDigit_17 (hr w0 (kbG_some h))
def jn_BT_isDigit_16  : Option (Int32) :=
  jn_BT_isDigit_17 0
theorem jnR_BT_isDigit_16 {l : Launch}    (μ : kbM) {Q : kbQt} {P : Int32 → Prop} (hr : ∀ z : Int32, P z → Q (some (.int z)) μ) (h : kbG (jn_BT_isDigit_16 ) P) : kbR l MX0_isDigit 1 Q 16 [none] [] μ := by
  unfold jn_BT_isDigit_16 at h
  refine r_iconst 0 dX0_isDigit_16 (by decide) ?_
  refine r_le [none] trivial ?_
  exact jnR_BT_isDigit_17 0 μ (hr := hr) h
def f_BT_isDigit (a0 : Int32) : Option (Int32) :=
  if a0 < 48 then
    jn_BT_isDigit_16 
  else
    if 57 < a0 then
      jn_BT_isDigit_16 
    else
      jn_BT_isDigit_17 1
theorem sp_BT_isDigit {l : Launch} (a0 : Int32) (μ : kbM)  {x : Int32} (h : f_BT_isDigit a0 = some x) : kbS l MX0_isDigit 1 [.int a0] μ (kbQe (some (.int x)) μ) := by
  refine kb_enter 0 rfl rfl ?_
  suffices H : ∀ (Q : kbQt) (P : Int32 → Prop), (∀ z : Int32, P z → Q (some (.int z)) μ) → kbG (f_BT_isDigit a0) P → kbR l MX0_isDigit 1 Q 0 [some (.int a0)] [] μ from H _ (fun z => z = x) (fun z e => by subst e; exact ⟨rfl, rfl⟩) ⟨x, h, rfl⟩
  clear h
  intro Q P hr h
  unfold f_BT_isDigit at h
  refine r_iload_n dX0_isDigit_0 rfl ?_
  refine r_bipush 48 dX0_isDigit_1 (by decide) ?_
  refine r_icmp_lt 16 dX0_isDigit_3 (by decide) (fun hc => ?_) (fun hc => ?_)
  · replace h := kbG_t hc h
    refine r_le [none] trivial ?_
    exact jnR_BT_isDigit_16  μ (hr := hr) h
  · replace h := kbG_f hc h
    refine r_iload_n dX0_isDigit_6 rfl ?_
    refine r_bipush 57 dX0_isDigit_7 (by decide) ?_
    refine r_icmp_gt 16 dX0_isDigit_9 (by decide) (fun hc => ?_) (fun hc => ?_)
    · replace h := kbG_t hc h
      refine r_le [none] trivial ?_
      exact jnR_BT_isDigit_16  μ (hr := hr) h
    · replace h := kbG_f hc h
      refine r_iconst 1 dX0_isDigit_12 (by decide) ?_
      refine r_goto 17 dX0_isDigit_13 (by decide) ?_
      refine r_le [none] trivial ?_
      exact jnR_BT_isDigit_17 1 μ (hr := hr) h
def lp_BT_advance_16 (n : Nat) : Nat → kbM → Option (kbM)
  | 0, _ => none
  | k + 1, μ =>
    if (μ.1 1 6) ≤ (μ.1 1 8) then
      some μ
    else
      (f_BT_byteAt (μ.1 1 8) μ).bind fun x1 =>
      (f_BT_isBlank x1).bind fun x2 =>
      if x2 = 0 then
        some μ
      else
        lp_BT_advance_16 n k (kbW μ 1 8 ((μ.1 1 8) + 1))
theorem lpR_BT_advance_16 {l : Launch} (n : Nat)   {Q : kbQt} {P : kbM → Prop} (hx : ∀ z : kbM, P (z) → kbR l MX0_advance 5 Q 54 [some (.ref 1), none] [] z) : ∀ (k : Nat) (μ : kbM), kbG (lp_BT_advance_16 n k μ) P → kbR l MX0_advance 5 Q 16 [some (.ref 1), none] [] μ := by
  intro k
  induction k with
  | zero => intro μ h; exact absurd h kbG_none
  | succ k ih =>
    intro μ h
    unfold lp_BT_advance_16 at h
    refine r_aload_n dX0_advance_16 rfl ?_
    refine r_getI flX0_119 sh1 rfl dX0_advance_17 ?_
    refine r_aload_n dX0_advance_20 rfl ?_
    refine r_getI flX0_39 sh1 rfl dX0_advance_21 ?_
    refine r_icmp_ge 54 dX0_advance_24 (by decide) (fun hc => ?_) (fun hc => ?_)
    · replace h := kbG_t hc h
      refine r_le [some (.ref 1), none] ⟨rfl, trivial⟩ ?_
      exact hx μ (kbG_some h)
    · replace h := kbG_f hc h
      refine r_aload_n dX0_advance_27 rfl ?_
      refine r_aload_n dX0_advance_28 rfl ?_
      refine r_getI flX0_119 sh1 rfl dX0_advance_29 ?_
      obtain ⟨x1, hx0, h⟩ := kbG_bind h
      refine r_invV_i cvX0_122 sh1 rfl (sp_BT_byteAt (μ.1 1 8) μ hx0) rfl rfl (Nat.le_of_ble_eq_true rfl) (Nat.le_of_ble_eq_true rfl) dX0_advance_32 ?_
      obtain ⟨x2, hx0, h⟩ := kbG_bind h
      refine r_inv_i csX0_205 (sp_BT_isBlank x1 μ hx0) rfl rfl (Nat.le_of_ble_eq_true rfl) (Nat.le_of_ble_eq_true rfl) dX0_advance_35 ?_
      refine r_if_eq 54 dX0_advance_38 (by decide) (fun hc => ?_) (fun hc => ?_)
      · replace h := kbG_t hc h
        refine r_le [some (.ref 1), none] ⟨rfl, trivial⟩ ?_
        exact hx μ (kbG_some h)
      · replace h := kbG_f hc h
        refine r_aload_n dX0_advance_41 rfl ?_
        refine r_dup dX0_advance_42 rfl ?_
        refine r_getI flX0_119 sh1 rfl dX0_advance_43 ?_
        refine r_iconst 1 dX0_advance_46 (by decide) ?_
        refine r_iadd dX0_advance_47 ?_
        refine r_put flX0_119 sh1 rfl rfl rfl dX0_advance_48 ?_
        refine r_goto 16 dX0_advance_51 (by decide) ?_
        refine r_le [some (.ref 1), none] ⟨rfl, trivial⟩ ?_
        exact ih (kbW μ 1 8 ((μ.1 1 8) + 1)) h
def jn_BT_advance_218 (n : Nat) (μ : kbM) : Option (kbM) :=
  some μ
theorem jnR_BT_advance_218 {l : Launch} (n : Nat)    (μ : kbM) {Q : kbQt} {P : kbM → Prop} (hr : ∀ z : kbM, P z → Q none z) (h : kbG (jn_BT_advance_218 n μ) P) : kbR l MX0_advance 5 Q 218 [none, none] [] μ := by
  unfold jn_BT_advance_218 at h
  exact r_vret rfl dX0_advance_218 (hr μ (kbG_some h))
def jn_BT_advance_215 (n : Nat) (w1 : Int32) (μ : kbM) : Option (kbM) :=
  jn_BT_advance_218 n (kbW μ 1 7 w1)
theorem jnR_BT_advance_215 {l : Launch} (n : Nat)   (w1 : Int32) (μ : kbM) {Q : kbQt} {P : kbM → Prop} (hr : ∀ z : kbM, P z → Q none z) (h : kbG (jn_BT_advance_215 n w1 μ) P) : kbR l MX0_advance 5 Q 215 [none, none] [.int w1, .ref 1] μ := by
  unfold jn_BT_advance_215 at h
  refine r_put flX0_58 sh1 rfl rfl rfl dX0_advance_215 ?_
  refine r_le [none, none] trivial ?_
  exact jnR_BT_advance_218 n  (kbW μ 1 7 w1) (hr := hr) h
def lp_BT_advance_161 (n : Nat) : Nat → kbM → Option (kbM)
  | 0, _ => none
  | k + 1, μ =>
    if (μ.1 1 6) ≤ (μ.1 1 9) then
      some μ
    else
      (f_BT_byteAt (μ.1 1 9) μ).bind fun x7 =>
      (f_BT_isDigit x7).bind fun x8 =>
      if x8 = 0 then
        some μ
      else
        lp_BT_advance_161 n k (kbW μ 1 9 ((μ.1 1 9) + 1))
theorem lpR_BT_advance_161 {l : Launch} (n : Nat)   {Q : kbQt} {P : kbM → Prop} (hx : ∀ z : kbM, P (z) → kbR l MX0_advance 5 Q 218 [none, none] [] z) : ∀ (k : Nat) (μ : kbM), kbG (lp_BT_advance_161 n k μ) P → kbR l MX0_advance 5 Q 161 [some (.ref 1), none] [] μ := by
  intro k
  induction k with
  | zero => intro μ h; exact absurd h kbG_none
  | succ k ih =>
    intro μ h
    unfold lp_BT_advance_161 at h
    refine r_aload_n dX0_advance_161 rfl ?_
    refine r_getI flX0_49 sh1 rfl dX0_advance_162 ?_
    refine r_aload_n dX0_advance_165 rfl ?_
    refine r_getI flX0_39 sh1 rfl dX0_advance_166 ?_
    refine r_icmp_ge 218 dX0_advance_169 (by decide) (fun hc => ?_) (fun hc => ?_)
    · replace h := kbG_t hc h
      refine r_le [none, none] trivial ?_
      exact hx μ (kbG_some h)
    · replace h := kbG_f hc h
      refine r_aload_n dX0_advance_172 rfl ?_
      refine r_aload_n dX0_advance_173 rfl ?_
      refine r_getI flX0_49 sh1 rfl dX0_advance_174 ?_
      obtain ⟨x7, hx0, h⟩ := kbG_bind h
      refine r_invV_i cvX0_122 sh1 rfl (sp_BT_byteAt (μ.1 1 9) μ hx0) rfl rfl (Nat.le_of_ble_eq_true rfl) (Nat.le_of_ble_eq_true rfl) dX0_advance_177 ?_
      obtain ⟨x8, hx0, h⟩ := kbG_bind h
      refine r_inv_i csX0_218 (sp_BT_isDigit x7 μ hx0) rfl rfl (Nat.le_of_ble_eq_true rfl) (Nat.le_of_ble_eq_true rfl) dX0_advance_180 ?_
      refine r_if_eq 218 dX0_advance_183 (by decide) (fun hc => ?_) (fun hc => ?_)
      · replace h := kbG_t hc h
        refine r_le [none, none] trivial ?_
        exact hx μ (kbG_some h)
      · replace h := kbG_f hc h
        refine r_aload_n dX0_advance_186 rfl ?_
        refine r_dup dX0_advance_187 rfl ?_
        refine r_getI flX0_49 sh1 rfl dX0_advance_188 ?_
        refine r_iconst 1 dX0_advance_191 (by decide) ?_
        refine r_iadd dX0_advance_192 ?_
        refine r_put flX0_49 sh1 rfl rfl rfl dX0_advance_193 ?_
        refine r_goto 161 dX0_advance_196 (by decide) ?_
        refine r_le [some (.ref 1), none] ⟨rfl, trivial⟩ ?_
        exact ih (kbW μ 1 9 ((μ.1 1 9) + 1)) h
def lp_BT_advance_111 (n : Nat) : Nat → kbM → Option (kbM)
  | 0, _ => none
  | k + 1, μ =>
    if (μ.1 1 6) ≤ (μ.1 1 9) then
      some μ
    else
      (f_BT_byteAt (μ.1 1 9) μ).bind fun x10 =>
      (f_BT_isLetter x10).bind fun x11 =>
      if x11 = 0 then
        some μ
      else
        lp_BT_advance_111 n k (kbW μ 1 9 ((μ.1 1 9) + 1))
theorem lpR_BT_advance_111 {l : Launch} (n : Nat)   {Q : kbQt} {P : kbM → Prop} (hx : ∀ z : kbM, P (z) → kbR l MX0_advance 5 Q 218 [none, none] [] z) : ∀ (k : Nat) (μ : kbM), kbG (lp_BT_advance_111 n k μ) P → kbR l MX0_advance 5 Q 111 [some (.ref 1), none] [] μ := by
  intro k
  induction k with
  | zero => intro μ h; exact absurd h kbG_none
  | succ k ih =>
    intro μ h
    unfold lp_BT_advance_111 at h
    refine r_aload_n dX0_advance_111 rfl ?_
    refine r_getI flX0_49 sh1 rfl dX0_advance_112 ?_
    refine r_aload_n dX0_advance_115 rfl ?_
    refine r_getI flX0_39 sh1 rfl dX0_advance_116 ?_
    refine r_icmp_ge 218 dX0_advance_119 (by decide) (fun hc => ?_) (fun hc => ?_)
    · replace h := kbG_t hc h
      refine r_le [none, none] trivial ?_
      exact hx μ (kbG_some h)
    · replace h := kbG_f hc h
      refine r_aload_n dX0_advance_122 rfl ?_
      refine r_aload_n dX0_advance_123 rfl ?_
      refine r_getI flX0_49 sh1 rfl dX0_advance_124 ?_
      obtain ⟨x10, hx0, h⟩ := kbG_bind h
      refine r_invV_i cvX0_122 sh1 rfl (sp_BT_byteAt (μ.1 1 9) μ hx0) rfl rfl (Nat.le_of_ble_eq_true rfl) (Nat.le_of_ble_eq_true rfl) dX0_advance_127 ?_
      obtain ⟨x11, hx0, h⟩ := kbG_bind h
      refine r_inv_i csX0_215 (sp_BT_isLetter x10 μ hx0) rfl rfl (Nat.le_of_ble_eq_true rfl) (Nat.le_of_ble_eq_true rfl) dX0_advance_130 ?_
      refine r_if_eq 218 dX0_advance_133 (by decide) (fun hc => ?_) (fun hc => ?_)
      · replace h := kbG_t hc h
        refine r_le [none, none] trivial ?_
        exact hx μ (kbG_some h)
      · replace h := kbG_f hc h
        refine r_aload_n dX0_advance_136 rfl ?_
        refine r_dup dX0_advance_137 rfl ?_
        refine r_getI flX0_49 sh1 rfl dX0_advance_138 ?_
        refine r_iconst 1 dX0_advance_141 (by decide) ?_
        refine r_iadd dX0_advance_142 ?_
        refine r_put flX0_49 sh1 rfl rfl rfl dX0_advance_143 ?_
        refine r_goto 111 dX0_advance_146 (by decide) ?_
        refine r_le [some (.ref 1), none] ⟨rfl, trivial⟩ ?_
        exact ih (kbW μ 1 9 ((μ.1 1 9) + 1)) h
def jn_BT_advance_54 (n : Nat) (μ : kbM) : Option (kbM) :=
  (f_BT_byteAt ((kbW μ 1 9 (kbMin ((μ.1 1 8) + 1) (μ.1 1 6))).1 1 8) (kbW μ 1 9 (kbMin ((μ.1 1 8) + 1) (μ.1 1 6)))).bind fun x4 =>
  if ((kbW μ 1 9 (kbMin ((μ.1 1 8) + 1) (μ.1 1 6))).1 1 8) < ((kbW μ 1 9 (kbMin ((μ.1 1 8) + 1) (μ.1 1 6))).1 1 6) then
    (f_BT_isLetter x4).bind fun x5 =>
    if x5 = 0 then
      (f_BT_isDigit x4).bind fun x6 =>
      if x6 = 0 then
        if (kbSindex 30 (kbI2c x4)) < 0 then
          jn_BT_advance_215 n 3 (kbW μ 1 9 (kbMin ((μ.1 1 8) + 1) (μ.1 1 6)))
        else
          jn_BT_advance_215 n x4 (kbW μ 1 9 (kbMin ((μ.1 1 8) + 1) (μ.1 1 6)))
      else
        (lp_BT_advance_161 n n (kbW (kbW μ 1 9 (kbMin ((μ.1 1 8) + 1) (μ.1 1 6))) 1 7 2)).bind fun x9 =>
        jn_BT_advance_218 n x9
    else
      (lp_BT_advance_111 n n (kbW (kbW μ 1 9 (kbMin ((μ.1 1 8) + 1) (μ.1 1 6))) 1 7 1)).bind fun x12 =>
      jn_BT_advance_218 n x12
  else
    jn_BT_advance_218 n (kbW (kbW μ 1 9 (kbMin ((μ.1 1 8) + 1) (μ.1 1 6))) 1 7 0)
theorem jnR_BT_advance_54 {l : Launch} (n : Nat)    (μ : kbM) {Q : kbQt} {P : kbM → Prop} (hr : ∀ z : kbM, P z → Q none z) (h : kbG (jn_BT_advance_54 n μ) P) : kbR l MX0_advance 5 Q 54 [some (.ref 1), none] [] μ := by
  unfold jn_BT_advance_54 at h
  refine r_aload_n dX0_advance_54 rfl ?_
  refine r_aload_n dX0_advance_55 rfl ?_
  refine r_getI flX0_119 sh1 rfl dX0_advance_56 ?_
  refine r_iconst 1 dX0_advance_59 (by decide) ?_
  refine r_iadd dX0_advance_60 ?_
  refine r_aload_n dX0_advance_61 rfl ?_
  refine r_getI flX0_39 sh1 rfl dX0_advance_62 ?_
  refine r_min mlX0_209 (Nat.le_of_ble_eq_true rfl) (Nat.le_of_ble_eq_true rfl) dX0_advance_65 ?_
  refine r_put flX0_49 sh1 rfl rfl rfl dX0_advance_68 ?_
  refine r_aload_n dX0_advance_71 rfl ?_
  refine r_aload_n dX0_advance_72 rfl ?_
  refine r_getI flX0_119 sh1 rfl dX0_advance_73 ?_
  obtain ⟨x4, hx0, h⟩ := kbG_bind h
  refine r_invV_i cvX0_122 sh1 rfl (sp_BT_byteAt ((kbW μ 1 9 (kbMin ((μ.1 1 8) + 1) (μ.1 1 6))).1 1 8) (kbW μ 1 9 (kbMin ((μ.1 1 8) + 1) (μ.1 1 6))) hx0) rfl rfl (Nat.le_of_ble_eq_true rfl) (Nat.le_of_ble_eq_true rfl) dX0_advance_76 ?_
  refine r_istore_n dX0_advance_79 (Nat.le_of_ble_eq_true rfl) rfl ?_
  refine r_aload_n dX0_advance_80 rfl ?_
  refine r_getI flX0_119 sh1 rfl dX0_advance_81 ?_
  refine r_aload_n dX0_advance_84 rfl ?_
  refine r_getI flX0_39 sh1 rfl dX0_advance_85 ?_
  refine r_icmp_lt 99 dX0_advance_88 (by decide) (fun hc => ?_) (fun hc => ?_)
  · replace h := kbG_t hc h
    refine r_iload_n dX0_advance_99 rfl ?_
    obtain ⟨x5, hx0, h⟩ := kbG_bind h
    refine r_inv_i csX0_215 (sp_BT_isLetter x4 (kbW μ 1 9 (kbMin ((μ.1 1 8) + 1) (μ.1 1 6))) hx0) rfl rfl (Nat.le_of_ble_eq_true rfl) (Nat.le_of_ble_eq_true rfl) dX0_advance_100 ?_
    refine r_if_eq 149 dX0_advance_103 (by decide) (fun hc => ?_) (fun hc => ?_)
    · replace h := kbG_t hc h
      refine r_iload_n dX0_advance_149 rfl ?_
      obtain ⟨x6, hx0, h⟩ := kbG_bind h
      refine r_inv_i csX0_218 (sp_BT_isDigit x4 (kbW μ 1 9 (kbMin ((μ.1 1 8) + 1) (μ.1 1 6))) hx0) rfl rfl (Nat.le_of_ble_eq_true rfl) (Nat.le_of_ble_eq_true rfl) dX0_advance_150 ?_
      refine r_if_eq 199 dX0_advance_153 (by decide) (fun hc => ?_) (fun hc => ?_)
      · replace h := kbG_t hc h
        refine r_aload_n dX0_advance_199 rfl ?_
        refine r_ldcS lsX0_221 dX0_advance_200 ?_
        refine r_iload_n dX0_advance_202 rfl ?_
        refine r_tochar dX0_advance_203 ?_
        refine r_invS_i cvX0_223 (by decide) rfl (sp_sindex 30 (by decide) (kbI2c x4) _) rfl rfl (Nat.le_of_ble_eq_true rfl) (Nat.le_of_ble_eq_true rfl) dX0_advance_204 ?_
        refine r_if_lt 214 dX0_advance_207 (by decide) (fun hc => ?_) (fun hc => ?_)
        · replace h := kbG_t hc h
          refine r_iconst 3 dX0_advance_214 (by decide) ?_
          refine r_le [none, none] trivial ?_
          exact jnR_BT_advance_215 n 3 (kbW μ 1 9 (kbMin ((μ.1 1 8) + 1) (μ.1 1 6))) (hr := hr) h
        · replace h := kbG_f hc h
          refine r_iload_n dX0_advance_210 rfl ?_
          refine r_goto 215 dX0_advance_211 (by decide) ?_
          refine r_le [none, none] trivial ?_
          exact jnR_BT_advance_215 n x4 (kbW μ 1 9 (kbMin ((μ.1 1 8) + 1) (μ.1 1 6))) (hr := hr) h
      · replace h := kbG_f hc h
        refine r_aload_n dX0_advance_156 rfl ?_
        refine r_iconst 2 dX0_advance_157 (by decide) ?_
        refine r_put flX0_58 sh1 rfl rfl rfl dX0_advance_158 ?_
        refine r_le [some (.ref 1), none] ⟨rfl, trivial⟩ ?_
        obtain ⟨x9, hx0, h⟩ := kbG_bind h
        refine lpR_BT_advance_161 n (P := fun z => x9 = z) (hx := fun z e => ?_) n _ ⟨_, hx0, rfl⟩
        subst e
        refine r_le [none, none] trivial ?_
        exact jnR_BT_advance_218 n  x9 (hr := hr) h
    · replace h := kbG_f hc h
      refine r_aload_n dX0_advance_106 rfl ?_
      refine r_iconst 1 dX0_advance_107 (by decide) ?_
      refine r_put flX0_58 sh1 rfl rfl rfl dX0_advance_108 ?_
      refine r_le [some (.ref 1), none] ⟨rfl, trivial⟩ ?_
      obtain ⟨x12, hx0, h⟩ := kbG_bind h
      refine lpR_BT_advance_111 n (P := fun z => x12 = z) (hx := fun z e => ?_) n _ ⟨_, hx0, rfl⟩
      subst e
      refine r_le [none, none] trivial ?_
      exact jnR_BT_advance_218 n  x12 (hr := hr) h
  · replace h := kbG_f hc h
    refine r_aload_n dX0_advance_91 rfl ?_
    refine r_iconst 0 dX0_advance_92 (by decide) ?_
    refine r_put flX0_58 sh1 rfl rfl rfl dX0_advance_93 ?_
    refine r_goto 218 dX0_advance_96 (by decide) ?_
    refine r_le [none, none] trivial ?_
    exact jnR_BT_advance_218 n  (kbW (kbW μ 1 9 (kbMin ((μ.1 1 8) + 1) (μ.1 1 6))) 1 7 0) (hr := hr) h
def f_BT_advance (n : Nat) (μ : kbM) : Option (kbM) :=
  if (μ.1 1 10) = 0 then
    (lp_BT_advance_16 n n (kbW μ 1 8 (μ.1 1 9))).bind fun x3 =>
    jn_BT_advance_54 n x3
  else
    some μ
theorem sp_BT_advance {l : Launch} (n : Nat) (μ : kbM)  {x : kbM} (h : f_BT_advance n μ = some x) : kbS l MX0_advance 5 [.ref 1] μ (kbQe none x) := by
  refine kb_enter 1 rfl rfl ?_
  suffices H : ∀ (Q : kbQt) (P : kbM → Prop), (∀ z : kbM, P z → Q none z) → kbG (f_BT_advance n μ) P → kbR l MX0_advance 5 Q 0 [some (.ref 1), none] [] μ from H _ (fun z => z = x) (fun z e => by subst e; exact ⟨rfl, rfl⟩) ⟨x, h, rfl⟩
  clear h
  intro Q P hr h
  unfold f_BT_advance at h
  refine r_aload_n dX0_advance_0 rfl ?_
  refine r_getI flX0_52 sh1 rfl dX0_advance_1 ?_
  refine r_if_eq 8 dX0_advance_4 (by decide) (fun hc => ?_) (fun hc => ?_)
  · replace h := kbG_t hc h
    refine r_aload_n dX0_advance_8 rfl ?_
    refine r_aload_n dX0_advance_9 rfl ?_
    refine r_getI flX0_49 sh1 rfl dX0_advance_10 ?_
    refine r_put flX0_119 sh1 rfl rfl rfl dX0_advance_13 ?_
    refine r_le [some (.ref 1), none] ⟨rfl, trivial⟩ ?_
    obtain ⟨x3, hx0, h⟩ := kbG_bind h
    refine lpR_BT_advance_16 n (P := fun z => x3 = z) (hx := fun z e => ?_) n _ ⟨_, hx0, rfl⟩
    subst e
    refine r_le [some (.ref 1), none] ⟨rfl, trivial⟩ ?_
    exact jnR_BT_advance_54 n  x3 (hr := hr) h
  · replace h := kbG_f hc h
    exact r_vret rfl dX0_advance_7 (hr μ (kbG_some h))
def jn_BT_isNamed_24 (n : Nat) (sid : Nat) (μ : kbM) : Option (Int32) :=
  some 0
theorem jnR_BT_isNamed_24 {l : Launch} (n : Nat) (sid : Nat) (hid : sid < kbTx.length)  (μ : kbM) {Q : kbQt} {P : Int32 → Prop} (hr : ∀ z : Int32, P z → Q (some (.int z)) μ) (h : kbG (jn_BT_isNamed_24 n sid μ) P) : kbR l MX0_isNamed 5 Q 24 [none, none, none] [] μ := by
  unfold jn_BT_isNamed_24 at h
  refine r_iconst 0 dX0_isNamed_24 (by decide) ?_
  exact r_zret rfl rfl dX0_isNamed_25 (hr 0 (kbG_some h))
def lp_BT_isNamed_28 (n : Nat) (sid : Nat) (μ : kbM) : Nat → Int32 → Option ((Int32) ⊕ (Unit))
  | 0, _ => none
  | k + 1, v2 =>
    if (kbSlen sid) ≤ v2 then
      some (.inr (()))
    else
      (f_BT_byteAt ((μ.1 1 8) + v2) μ).bind fun x1 =>
      kbIf (kbIn v2 (kbTx.getD sid []).length) <|
      if x1 = (kbSchar sid v2) then
        lp_BT_isNamed_28 n sid μ k (v2 + 1)
      else
        some (.inl 0)
theorem lpR_BT_isNamed_28 {l : Launch} (n : Nat) (sid : Nat) (μ : kbM) (hid : sid < kbTx.length) {Q : kbQt} {P : (Int32) ⊕ (Unit) → Prop} (hr : ∀ z : Int32, P (.inl z) → Q (some (.int z)) μ) (hx : ∀ z : Unit, P (.inr z) → kbR l MX0_isNamed 5 Q 62 [none, none, none] [] μ) : ∀ (k : Nat) (v2 : Int32), kbG (lp_BT_isNamed_28 n sid μ k v2) P → kbR l MX0_isNamed 5 Q 28 [some (.ref 1), some (.ref (1000 + sid)), some (.int v2)] [] μ := by
  intro k
  induction k with
  | zero => intro v2 h; exact absurd h kbG_none
  | succ k ih =>
    intro v2 h
    unfold lp_BT_isNamed_28 at h
    refine r_iload_n dX0_isNamed_28 rfl ?_
    refine r_aload_n dX0_isNamed_29 rfl ?_
    refine r_invS_i cvX0_197 hid rfl (sp_slen sid hid _) rfl rfl (Nat.le_of_ble_eq_true rfl) (Nat.le_of_ble_eq_true rfl) dX0_isNamed_30 ?_
    refine r_icmp_ge 62 dX0_isNamed_33 (by decide) (fun hc => ?_) (fun hc => ?_)
    · replace h := kbG_t hc h
      refine r_le [none, none, none] trivial ?_
      exact hx (()) (kbG_some h)
    · replace h := kbG_f hc h
      refine r_aload_n dX0_isNamed_36 rfl ?_
      refine r_aload_n dX0_isNamed_37 rfl ?_
      refine r_getI flX0_119 sh1 rfl dX0_isNamed_38 ?_
      refine r_iload_n dX0_isNamed_41 rfl ?_
      refine r_iadd dX0_isNamed_42 ?_
      obtain ⟨x1, hx0, h⟩ := kbG_bind h
      refine r_invV_i cvX0_122 sh1 rfl (sp_BT_byteAt ((μ.1 1 8) + v2) μ hx0) rfl rfl (Nat.le_of_ble_eq_true rfl) (Nat.le_of_ble_eq_true rfl) dX0_isNamed_43 ?_
      refine r_aload_n dX0_isNamed_46 rfl ?_
      refine r_iload_n dX0_isNamed_47 rfl ?_
      obtain ⟨hin, h⟩ := kbG_if h
      replace hin := kbIn_of hin
      refine r_invS_i cvX0_201 hid rfl (sp_schar sid hid v2 hin _) rfl rfl (Nat.le_of_ble_eq_true rfl) (Nat.le_of_ble_eq_true rfl) dX0_isNamed_48 ?_
      refine r_icmp_eq 56 dX0_isNamed_51 (by decide) (fun hc => ?_) (fun hc => ?_)
      · replace h := kbG_t hc h
        refine r_iinc 1 dX0_isNamed_56 rfl (by decide) (Nat.le_of_ble_eq_true rfl) rfl ?_
        refine r_goto 28 dX0_isNamed_59 (by decide) ?_
        refine r_le [some (.ref 1), some (.ref (1000 + sid)), some (.int (v2 + 1))] ⟨rfl, ⟨rfl, ⟨rfl, trivial⟩⟩⟩ ?_
        exact ih (v2 + 1) h
      · replace h := kbG_f hc h
        refine r_iconst 0 dX0_isNamed_54 (by decide) ?_
        exact r_zret rfl rfl dX0_isNamed_55 (hr 0 (kbG_some h))
def f_BT_isNamed (n : Nat) (sid : Nat) (μ : kbM) : Option (Int32) :=
  if (μ.1 1 7) = 1 then
    if ((μ.1 1 9) - (μ.1 1 8)) = (kbSlen sid) then
      kbOr (lp_BT_isNamed_28 n sid μ n 0) (fun r3 => some r3) fun x2 =>
      some 1
    else
      jn_BT_isNamed_24 n sid μ
  else
    jn_BT_isNamed_24 n sid μ
theorem sp_BT_isNamed {l : Launch} (n : Nat) (sid : Nat) (μ : kbM) (hid : sid < kbTx.length) {x : Int32} (h : f_BT_isNamed n sid μ = some x) : kbS l MX0_isNamed 5 [.ref 1, .ref (1000 + sid)] μ (kbQe (some (.int x)) μ) := by
  refine kb_enter 1 rfl rfl ?_
  suffices H : ∀ (Q : kbQt) (P : Int32 → Prop), (∀ z : Int32, P z → Q (some (.int z)) μ) → kbG (f_BT_isNamed n sid μ) P → kbR l MX0_isNamed 5 Q 0 [some (.ref 1), some (.ref (1000 + sid)), none] [] μ from H _ (fun z => z = x) (fun z e => by subst e; exact ⟨rfl, rfl⟩) ⟨x, h, rfl⟩
  clear h
  intro Q P hr h
  unfold f_BT_isNamed at h
  refine r_aload_n dX0_isNamed_0 rfl ?_
  refine r_getI flX0_58 sh1 rfl dX0_isNamed_1 ?_
  refine r_iconst 1 dX0_isNamed_4 (by decide) ?_
  refine r_icmp_ne 24 dX0_isNamed_5 (by decide) (fun hc => ?_) (fun hc => ?_)
  · replace h := kbG_f hc h
    refine r_le [none, none, none] trivial ?_
    exact jnR_BT_isNamed_24 n sid hid  μ (hr := hr) h
  · replace h := kbG_t hc h
    refine r_aload_n dX0_isNamed_8 rfl ?_
    refine r_getI flX0_49 sh1 rfl dX0_isNamed_9 ?_
    refine r_aload_n dX0_isNamed_12 rfl ?_
    refine r_getI flX0_119 sh1 rfl dX0_isNamed_13 ?_
    refine r_isub dX0_isNamed_16 ?_
    refine r_aload_n dX0_isNamed_17 rfl ?_
    refine r_invS_i cvX0_197 hid rfl (sp_slen sid hid _) rfl rfl (Nat.le_of_ble_eq_true rfl) (Nat.le_of_ble_eq_true rfl) dX0_isNamed_18 ?_
    refine r_icmp_eq 26 dX0_isNamed_21 (by decide) (fun hc => ?_) (fun hc => ?_)
    · replace h := kbG_t hc h
      refine r_iconst 0 dX0_isNamed_26 (by decide) ?_
      refine r_istore_n dX0_isNamed_27 (Nat.le_of_ble_eq_true rfl) rfl ?_
      refine r_le [some (.ref 1), some (.ref (1000 + sid)), some (.int 0)] ⟨rfl, ⟨rfl, ⟨rfl, trivial⟩⟩⟩ ?_
      rcases kbG_or h with ⟨r3, hx0, h⟩ | ⟨x2, hx0, h⟩
      · exact lpR_BT_isNamed_28 n sid μ hid (P := fun z => .inl r3 = z) (hr := fun z e => by cases e; exact hr _ (kbG_some h)) (hx := fun z e => by cases e) n _ ⟨_, hx0, rfl⟩
      · refine lpR_BT_isNamed_28 n sid μ hid (P := fun z => .inr x2 = z) (hr := fun z e => by cases e) (hx := fun z e => ?_) n _ ⟨_, hx0, rfl⟩
        cases e
        refine r_iconst 1 dX0_isNamed_62 (by decide) ?_
        exact r_zret rfl rfl dX0_isNamed_63 (hr 1 (kbG_some h))
    · replace h := kbG_f hc h
      refine r_le [none, none, none] trivial ?_
      exact jnR_BT_isNamed_24 n sid hid  μ (hr := hr) h
def jn_BT_partNamed_36 (n : Nat) (w0 : Int32) (μ : kbM) : Option (Int32) :=
  some w0
theorem jnR_BT_partNamed_36 {l : Launch} (n : Nat)   (w0 : Int32) (μ : kbM) {Q : kbQt} {P : Int32 → Prop} (hr : ∀ z : Int32, P z → Q (some (.int z)) μ) (h : kbG (jn_BT_partNamed_36 n w0 μ) P) : kbR l MX0_partNamed 6 Q 36 [none] [.int w0] μ := by
  unfold jn_BT_partNamed_36 at h
  exact r_iret rfl dX0_partNamed_36 (hr w0 (kbG_some h))
def f_BT_partNamed (n : Nat) (μ : kbM) : Option (Int32) :=
  (f_BT_isNamed n 0 μ).bind fun x1 =>
  if x1 = 0 then
    (f_BT_isNamed n 1 μ).bind fun x2 =>
    if x2 = 0 then
      (f_BT_isNamed n 2 μ).bind fun x3 =>
      if x3 = 0 then
        jn_BT_partNamed_36 n (-1) μ
      else
        jn_BT_partNamed_36 n 2 μ
    else
      some 1
  else
    some 0
theorem sp_BT_partNamed {l : Launch} (n : Nat) (μ : kbM)  {x : Int32} (h : f_BT_partNamed n μ = some x) : kbS l MX0_partNamed 6 [.ref 1] μ (kbQe (some (.int x)) μ) := by
  refine kb_enter 0 rfl rfl ?_
  suffices H : ∀ (Q : kbQt) (P : Int32 → Prop), (∀ z : Int32, P z → Q (some (.int z)) μ) → kbG (f_BT_partNamed n μ) P → kbR l MX0_partNamed 6 Q 0 [some (.ref 1)] [] μ from H _ (fun z => z = x) (fun z e => by subst e; exact ⟨rfl, rfl⟩) ⟨x, h, rfl⟩
  clear h
  intro Q P hr h
  unfold f_BT_partNamed at h
  refine r_aload_n dX0_partNamed_0 rfl ?_
  refine r_ldcS lsX0_183 dX0_partNamed_1 ?_
  obtain ⟨x1, hx0, h⟩ := kbG_bind h
  refine r_invV_i cvX0_80 sh1 rfl (sp_BT_isNamed n 0 μ (by decide) hx0) rfl rfl (Nat.le_of_ble_eq_true rfl) (Nat.le_of_ble_eq_true rfl) dX0_partNamed_3 ?_
  refine r_if_eq 11 dX0_partNamed_6 (by decide) (fun hc => ?_) (fun hc => ?_)
  · replace h := kbG_t hc h
    refine r_aload_n dX0_partNamed_11 rfl ?_
    refine r_ldcS lsX0_185 dX0_partNamed_12 ?_
    obtain ⟨x2, hx0, h⟩ := kbG_bind h
    refine r_invV_i cvX0_80 sh1 rfl (sp_BT_isNamed n 1 μ (by decide) hx0) rfl rfl (Nat.le_of_ble_eq_true rfl) (Nat.le_of_ble_eq_true rfl) dX0_partNamed_14 ?_
    refine r_if_eq 22 dX0_partNamed_17 (by decide) (fun hc => ?_) (fun hc => ?_)
    · replace h := kbG_t hc h
      refine r_aload_n dX0_partNamed_22 rfl ?_
      refine r_ldcS lsX0_187 dX0_partNamed_23 ?_
      obtain ⟨x3, hx0, h⟩ := kbG_bind h
      refine r_invV_i cvX0_80 sh1 rfl (sp_BT_isNamed n 2 μ (by decide) hx0) rfl rfl (Nat.le_of_ble_eq_true rfl) (Nat.le_of_ble_eq_true rfl) dX0_partNamed_25 ?_
      refine r_if_eq 35 dX0_partNamed_28 (by decide) (fun hc => ?_) (fun hc => ?_)
      · replace h := kbG_t hc h
        refine r_iconst (-1) dX0_partNamed_35 (by decide) ?_
        refine r_le [none] trivial ?_
        exact jnR_BT_partNamed_36 n (-1) μ (hr := hr) h
      · replace h := kbG_f hc h
        refine r_iconst 2 dX0_partNamed_31 (by decide) ?_
        refine r_goto 36 dX0_partNamed_32 (by decide) ?_
        refine r_le [none] trivial ?_
        exact jnR_BT_partNamed_36 n 2 μ (hr := hr) h
    · replace h := kbG_f hc h
      refine r_iconst 1 dX0_partNamed_20 (by decide) ?_
      exact r_iret rfl dX0_partNamed_21 (hr 1 (kbG_some h))
  · replace h := kbG_f hc h
    refine r_iconst 0 dX0_partNamed_9 (by decide) ?_
    exact r_iret rfl dX0_partNamed_10 (hr 0 (kbG_some h))
def jn_BT_woodNamed_47 (n : Nat) (w0 : Int32) (μ : kbM) : Option (Int32) :=
  some w0
theorem jnR_BT_woodNamed_47 {l : Launch} (n : Nat)   (w0 : Int32) (μ : kbM) {Q : kbQt} {P : Int32 → Prop} (hr : ∀ z : Int32, P z → Q (some (.int z)) μ) (h : kbG (jn_BT_woodNamed_47 n w0 μ) P) : kbR l MX0_woodNamed 6 Q 47 [none] [.int w0] μ := by
  unfold jn_BT_woodNamed_47 at h
  exact r_iret rfl dX0_woodNamed_47 (hr w0 (kbG_some h))
def f_BT_woodNamed (n : Nat) (μ : kbM) : Option (Int32) :=
  (f_BT_isNamed n 3 μ).bind fun x1 =>
  if x1 = 0 then
    (f_BT_isNamed n 4 μ).bind fun x2 =>
    if x2 = 0 then
      (f_BT_isNamed n 5 μ).bind fun x3 =>
      if x3 = 0 then
        (f_BT_isNamed n 6 μ).bind fun x4 =>
        if x4 = 0 then
          jn_BT_woodNamed_47 n (-1) μ
        else
          jn_BT_woodNamed_47 n 3 μ
      else
        some 2
    else
      some 1
  else
    some 0
theorem sp_BT_woodNamed {l : Launch} (n : Nat) (μ : kbM)  {x : Int32} (h : f_BT_woodNamed n μ = some x) : kbS l MX0_woodNamed 6 [.ref 1] μ (kbQe (some (.int x)) μ) := by
  refine kb_enter 0 rfl rfl ?_
  suffices H : ∀ (Q : kbQt) (P : Int32 → Prop), (∀ z : Int32, P z → Q (some (.int z)) μ) → kbG (f_BT_woodNamed n μ) P → kbR l MX0_woodNamed 6 Q 0 [some (.ref 1)] [] μ from H _ (fun z => z = x) (fun z e => by subst e; exact ⟨rfl, rfl⟩) ⟨x, h, rfl⟩
  clear h
  intro Q P hr h
  unfold f_BT_woodNamed at h
  refine r_aload_n dX0_woodNamed_0 rfl ?_
  refine r_ldcS lsX0_189 dX0_woodNamed_1 ?_
  obtain ⟨x1, hx0, h⟩ := kbG_bind h
  refine r_invV_i cvX0_80 sh1 rfl (sp_BT_isNamed n 3 μ (by decide) hx0) rfl rfl (Nat.le_of_ble_eq_true rfl) (Nat.le_of_ble_eq_true rfl) dX0_woodNamed_3 ?_
  refine r_if_eq 11 dX0_woodNamed_6 (by decide) (fun hc => ?_) (fun hc => ?_)
  · replace h := kbG_t hc h
    refine r_aload_n dX0_woodNamed_11 rfl ?_
    refine r_ldcS lsX0_191 dX0_woodNamed_12 ?_
    obtain ⟨x2, hx0, h⟩ := kbG_bind h
    refine r_invV_i cvX0_80 sh1 rfl (sp_BT_isNamed n 4 μ (by decide) hx0) rfl rfl (Nat.le_of_ble_eq_true rfl) (Nat.le_of_ble_eq_true rfl) dX0_woodNamed_14 ?_
    refine r_if_eq 22 dX0_woodNamed_17 (by decide) (fun hc => ?_) (fun hc => ?_)
    · replace h := kbG_t hc h
      refine r_aload_n dX0_woodNamed_22 rfl ?_
      refine r_ldcS lsX0_193 dX0_woodNamed_23 ?_
      obtain ⟨x3, hx0, h⟩ := kbG_bind h
      refine r_invV_i cvX0_80 sh1 rfl (sp_BT_isNamed n 5 μ (by decide) hx0) rfl rfl (Nat.le_of_ble_eq_true rfl) (Nat.le_of_ble_eq_true rfl) dX0_woodNamed_25 ?_
      refine r_if_eq 33 dX0_woodNamed_28 (by decide) (fun hc => ?_) (fun hc => ?_)
      · replace h := kbG_t hc h
        refine r_aload_n dX0_woodNamed_33 rfl ?_
        refine r_ldcS lsX0_195 dX0_woodNamed_34 ?_
        obtain ⟨x4, hx0, h⟩ := kbG_bind h
        refine r_invV_i cvX0_80 sh1 rfl (sp_BT_isNamed n 6 μ (by decide) hx0) rfl rfl (Nat.le_of_ble_eq_true rfl) (Nat.le_of_ble_eq_true rfl) dX0_woodNamed_36 ?_
        refine r_if_eq 46 dX0_woodNamed_39 (by decide) (fun hc => ?_) (fun hc => ?_)
        · replace h := kbG_t hc h
          refine r_iconst (-1) dX0_woodNamed_46 (by decide) ?_
          refine r_le [none] trivial ?_
          exact jnR_BT_woodNamed_47 n (-1) μ (hr := hr) h
        · replace h := kbG_f hc h
          refine r_iconst 3 dX0_woodNamed_42 (by decide) ?_
          refine r_goto 47 dX0_woodNamed_43 (by decide) ?_
          refine r_le [none] trivial ?_
          exact jnR_BT_woodNamed_47 n 3 μ (hr := hr) h
      · replace h := kbG_f hc h
        refine r_iconst 2 dX0_woodNamed_31 (by decide) ?_
        exact r_iret rfl dX0_woodNamed_32 (hr 2 (kbG_some h))
    · replace h := kbG_f hc h
      refine r_iconst 1 dX0_woodNamed_20 (by decide) ?_
      exact r_iret rfl dX0_woodNamed_21 (hr 1 (kbG_some h))
  · replace h := kbG_f hc h
    refine r_iconst 0 dX0_woodNamed_9 (by decide) ?_
    exact r_iret rfl dX0_woodNamed_10 (hr 0 (kbG_some h))
def jn_BT_fail_25 (μ : kbM) : Option (Int32 × kbM) :=
  some ((0, μ))
theorem jnR_BT_fail_25 {l : Launch}    (μ : kbM) {Q : kbQt} {P : Int32 × kbM → Prop} (hr : ∀ z : Int32 × kbM, P z → Q (some (.int z.1)) z.2) (h : kbG (jn_BT_fail_25 μ) P) : kbR l MX0_fail 1 Q 25 [none, none] [] μ := by
  unfold jn_BT_fail_25 at h
  refine r_iconst 0 dX0_fail_25 (by decide) ?_
  exact r_iret rfl dX0_fail_26 (hr ((0, μ)) (kbG_some h))
def f_BT_fail (a1 : Int32) (μ : kbM) : Option (Int32 × kbM) :=
  if (μ.1 1 10) = 0 then
    jn_BT_fail_25 (kbW (kbW (kbW μ 1 10 a1) 1 11 ((kbW μ 1 10 a1).1 1 8)) 1 7 4)
  else
    jn_BT_fail_25 μ
theorem sp_BT_fail {l : Launch} (a1 : Int32) (μ : kbM)  {x : Int32 × kbM} (h : f_BT_fail a1 μ = some x) : kbS l MX0_fail 1 [.ref 1, .int a1] μ (kbQe (some (.int x.1)) x.2) := by
  refine kb_enter 0 rfl rfl ?_
  suffices H : ∀ (Q : kbQt) (P : Int32 × kbM → Prop), (∀ z : Int32 × kbM, P z → Q (some (.int z.1)) z.2) → kbG (f_BT_fail a1 μ) P → kbR l MX0_fail 1 Q 0 [some (.ref 1), some (.int a1)] [] μ from H _ (fun z => z = x) (fun z e => by subst e; exact ⟨rfl, rfl⟩) ⟨x, h, rfl⟩
  clear h
  intro Q P hr h
  unfold f_BT_fail at h
  refine r_aload_n dX0_fail_0 rfl ?_
  refine r_getI flX0_52 sh1 rfl dX0_fail_1 ?_
  refine r_if_ne 25 dX0_fail_4 (by decide) (fun hc => ?_) (fun hc => ?_)
  · replace h := kbG_f hc h
    refine r_le [none, none] trivial ?_
    exact jnR_BT_fail_25  μ (hr := hr) h
  · replace h := kbG_t hc h
    refine r_aload_n dX0_fail_7 rfl ?_
    refine r_iload_n dX0_fail_8 rfl ?_
    refine r_put flX0_52 sh1 rfl rfl rfl dX0_fail_9 ?_
    refine r_aload_n dX0_fail_12 rfl ?_
    refine r_aload_n dX0_fail_13 rfl ?_
    refine r_getI flX0_119 sh1 rfl dX0_fail_14 ?_
    refine r_put flX0_32 sh1 rfl rfl rfl dX0_fail_17 ?_
    refine r_aload_n dX0_fail_20 rfl ?_
    refine r_iconst 4 dX0_fail_21 (by decide) ?_
    refine r_put flX0_58 sh1 rfl rfl rfl dX0_fail_22 ?_
    refine r_le [none, none] trivial ?_
    exact jnR_BT_fail_25  (kbW (kbW (kbW μ 1 10 a1) 1 11 ((kbW μ 1 10 a1).1 1 8)) 1 7 4) (hr := hr) h
def jn_BT_passSign_14 (n : Nat) (μ : kbM) : Option (kbM) :=
  (f_BT_advance n μ).bind fun x1 =>
  some x1
theorem jnR_BT_passSign_14 {l : Launch} (n : Nat)    (μ : kbM) {Q : kbQt} {P : kbM → Prop} (hr : ∀ z : kbM, P z → Q none z) (h : kbG (jn_BT_passSign_14 n μ) P) : kbR l MX0_passSign 6 Q 14 [some (.ref 1), none] [] μ := by
  unfold jn_BT_passSign_14 at h
  refine r_aload_n dX0_passSign_14 rfl ?_
  obtain ⟨x1, hx0, h⟩ := kbG_bind h
  refine r_invV_v cvX0_55 sh1 rfl (sp_BT_advance n μ hx0) rfl rfl (Nat.le_of_ble_eq_true rfl) (Nat.le_of_ble_eq_true rfl) dX0_passSign_15 ?_
  exact r_vret rfl dX0_passSign_18 (hr x1 (kbG_some h))
def f_BT_passSign (n : Nat) (a1 : Int32) (μ : kbM) : Option (kbM) :=
  if (μ.1 1 7) = a1 then
    jn_BT_passSign_14 n μ
  else
    (f_BT_fail 1 μ).bind fun x2 =>
    jn_BT_passSign_14 n x2.2
theorem sp_BT_passSign {l : Launch} (n : Nat) (a1 : Int32) (μ : kbM)  {x : kbM} (h : f_BT_passSign n a1 μ = some x) : kbS l MX0_passSign 6 [.ref 1, .int a1] μ (kbQe none x) := by
  refine kb_enter 0 rfl rfl ?_
  suffices H : ∀ (Q : kbQt) (P : kbM → Prop), (∀ z : kbM, P z → Q none z) → kbG (f_BT_passSign n a1 μ) P → kbR l MX0_passSign 6 Q 0 [some (.ref 1), some (.int a1)] [] μ from H _ (fun z => z = x) (fun z e => by subst e; exact ⟨rfl, rfl⟩) ⟨x, h, rfl⟩
  clear h
  intro Q P hr h
  unfold f_BT_passSign at h
  refine r_aload_n dX0_passSign_0 rfl ?_
  refine r_getI flX0_58 sh1 rfl dX0_passSign_1 ?_
  refine r_iload_n dX0_passSign_4 rfl ?_
  refine r_icmp_eq 14 dX0_passSign_5 (by decide) (fun hc => ?_) (fun hc => ?_)
  · replace h := kbG_t hc h
    refine r_le [some (.ref 1), none] ⟨rfl, trivial⟩ ?_
    exact jnR_BT_passSign_14 n  μ (hr := hr) h
  · replace h := kbG_f hc h
    refine r_aload_n dX0_passSign_8 rfl ?_
    refine r_iconst 1 dX0_passSign_9 (by decide) ?_
    obtain ⟨x2, hx0, h⟩ := kbG_bind h
    refine r_invV_i cvX0_87 sh1 rfl (sp_BT_fail 1 μ hx0) rfl rfl (Nat.le_of_ble_eq_true rfl) (Nat.le_of_ble_eq_true rfl) dX0_passSign_10 ?_
    refine r_pop dX0_passSign_13 rfl ?_
    refine r_le [some (.ref 1), none] ⟨rfl, trivial⟩ ?_
    exact jnR_BT_passSign_14 n  x2.2 (hr := hr) h
def jn_BT_valueNamed_78 (n : Nat) (w0 : Int32) (μ : kbM) : Option (Int32 × kbM) :=
  some ((w0, μ))
theorem jnR_BT_valueNamed_78 {l : Launch} (n : Nat)   (w0 : Int32) (μ : kbM) {Q : kbQt} {P : Int32 × kbM → Prop} (hr : ∀ z : Int32 × kbM, P z → Q (some (.int z.1)) z.2) (h : kbG (jn_BT_valueNamed_78 n w0 μ) P) : kbR l MX0_valueNamed 6 Q 78 [none] [.int w0] μ := by
  unfold jn_BT_valueNamed_78 at h
  exact r_iret rfl dX0_valueNamed_78 (hr ((w0, μ)) (kbG_some h))
def f_BT_valueNamed (n : Nat) (μ : kbM) : Option (Int32 × kbM) :=
  (f_BT_isNamed n 7 μ).bind fun x1 =>
  if x1 = 0 then
    (f_BT_isNamed n 8 μ).bind fun x2 =>
    if x2 = 0 then
      (f_BT_isNamed n 9 μ).bind fun x3 =>
      if x3 = 0 then
        (f_BT_isNamed n 10 μ).bind fun x4 =>
        if x4 = 0 then
          (f_BT_isNamed n 11 μ).bind fun x5 =>
          if x5 = 0 then
            (f_BT_isNamed n 12 μ).bind fun x6 =>
            if x6 = 0 then
              (f_BT_fail 3 μ).bind fun x7 =>
              jn_BT_valueNamed_78 n x7.1 x7.2
            else
              jn_BT_valueNamed_78 n (-6) μ
          else
            some (((-5), μ))
        else
          some (((-4), μ))
      else
        some (((-3), μ))
    else
      some (((-2), μ))
  else
    some (((-1), μ))
theorem sp_BT_valueNamed {l : Launch} (n : Nat) (μ : kbM)  {x : Int32 × kbM} (h : f_BT_valueNamed n μ = some x) : kbS l MX0_valueNamed 6 [.ref 1] μ (kbQe (some (.int x.1)) x.2) := by
  refine kb_enter 0 rfl rfl ?_
  suffices H : ∀ (Q : kbQt) (P : Int32 × kbM → Prop), (∀ z : Int32 × kbM, P z → Q (some (.int z.1)) z.2) → kbG (f_BT_valueNamed n μ) P → kbR l MX0_valueNamed 6 Q 0 [some (.ref 1)] [] μ from H _ (fun z => z = x) (fun z e => by subst e; exact ⟨rfl, rfl⟩) ⟨x, h, rfl⟩
  clear h
  intro Q P hr h
  unfold f_BT_valueNamed at h
  refine r_aload_n dX0_valueNamed_0 rfl ?_
  refine r_ldcS lsX0_171 dX0_valueNamed_1 ?_
  obtain ⟨x1, hx0, h⟩ := kbG_bind h
  refine r_invV_i cvX0_80 sh1 rfl (sp_BT_isNamed n 7 μ (by decide) hx0) rfl rfl (Nat.le_of_ble_eq_true rfl) (Nat.le_of_ble_eq_true rfl) dX0_valueNamed_3 ?_
  refine r_if_eq 11 dX0_valueNamed_6 (by decide) (fun hc => ?_) (fun hc => ?_)
  · replace h := kbG_t hc h
    refine r_aload_n dX0_valueNamed_11 rfl ?_
    refine r_ldcS lsX0_173 dX0_valueNamed_12 ?_
    obtain ⟨x2, hx0, h⟩ := kbG_bind h
    refine r_invV_i cvX0_80 sh1 rfl (sp_BT_isNamed n 8 μ (by decide) hx0) rfl rfl (Nat.le_of_ble_eq_true rfl) (Nat.le_of_ble_eq_true rfl) dX0_valueNamed_14 ?_
    refine r_if_eq 23 dX0_valueNamed_17 (by decide) (fun hc => ?_) (fun hc => ?_)
    · replace h := kbG_t hc h
      refine r_aload_n dX0_valueNamed_23 rfl ?_
      refine r_ldcS lsX0_175 dX0_valueNamed_24 ?_
      obtain ⟨x3, hx0, h⟩ := kbG_bind h
      refine r_invV_i cvX0_80 sh1 rfl (sp_BT_isNamed n 9 μ (by decide) hx0) rfl rfl (Nat.le_of_ble_eq_true rfl) (Nat.le_of_ble_eq_true rfl) dX0_valueNamed_26 ?_
      refine r_if_eq 35 dX0_valueNamed_29 (by decide) (fun hc => ?_) (fun hc => ?_)
      · replace h := kbG_t hc h
        refine r_aload_n dX0_valueNamed_35 rfl ?_
        refine r_ldcS lsX0_177 dX0_valueNamed_36 ?_
        obtain ⟨x4, hx0, h⟩ := kbG_bind h
        refine r_invV_i cvX0_80 sh1 rfl (sp_BT_isNamed n 10 μ (by decide) hx0) rfl rfl (Nat.le_of_ble_eq_true rfl) (Nat.le_of_ble_eq_true rfl) dX0_valueNamed_38 ?_
        refine r_if_eq 47 dX0_valueNamed_41 (by decide) (fun hc => ?_) (fun hc => ?_)
        · replace h := kbG_t hc h
          refine r_aload_n dX0_valueNamed_47 rfl ?_
          refine r_ldcS lsX0_179 dX0_valueNamed_48 ?_
          obtain ⟨x5, hx0, h⟩ := kbG_bind h
          refine r_invV_i cvX0_80 sh1 rfl (sp_BT_isNamed n 11 μ (by decide) hx0) rfl rfl (Nat.le_of_ble_eq_true rfl) (Nat.le_of_ble_eq_true rfl) dX0_valueNamed_50 ?_
          refine r_if_eq 59 dX0_valueNamed_53 (by decide) (fun hc => ?_) (fun hc => ?_)
          · replace h := kbG_t hc h
            refine r_aload_n dX0_valueNamed_59 rfl ?_
            refine r_ldcS lsX0_181 dX0_valueNamed_60 ?_
            obtain ⟨x6, hx0, h⟩ := kbG_bind h
            refine r_invV_i cvX0_80 sh1 rfl (sp_BT_isNamed n 12 μ (by decide) hx0) rfl rfl (Nat.le_of_ble_eq_true rfl) (Nat.le_of_ble_eq_true rfl) dX0_valueNamed_62 ?_
            refine r_if_eq 73 dX0_valueNamed_65 (by decide) (fun hc => ?_) (fun hc => ?_)
            · replace h := kbG_t hc h
              refine r_aload_n dX0_valueNamed_73 rfl ?_
              refine r_iconst 3 dX0_valueNamed_74 (by decide) ?_
              obtain ⟨x7, hx0, h⟩ := kbG_bind h
              refine r_invV_i cvX0_87 sh1 rfl (sp_BT_fail 3 μ hx0) rfl rfl (Nat.le_of_ble_eq_true rfl) (Nat.le_of_ble_eq_true rfl) dX0_valueNamed_75 ?_
              refine r_le [none] trivial ?_
              exact jnR_BT_valueNamed_78 n x7.1 x7.2 (hr := hr) h
            · replace h := kbG_f hc h
              refine r_bipush (-6) dX0_valueNamed_68 (by decide) ?_
              refine r_goto 78 dX0_valueNamed_70 (by decide) ?_
              refine r_le [none] trivial ?_
              exact jnR_BT_valueNamed_78 n (-6) μ (hr := hr) h
          · replace h := kbG_f hc h
            refine r_bipush (-5) dX0_valueNamed_56 (by decide) ?_
            exact r_iret rfl dX0_valueNamed_58 (hr (((-5), μ)) (kbG_some h))
        · replace h := kbG_f hc h
          refine r_bipush (-4) dX0_valueNamed_44 (by decide) ?_
          exact r_iret rfl dX0_valueNamed_46 (hr (((-4), μ)) (kbG_some h))
      · replace h := kbG_f hc h
        refine r_bipush (-3) dX0_valueNamed_32 (by decide) ?_
        exact r_iret rfl dX0_valueNamed_34 (hr (((-3), μ)) (kbG_some h))
    · replace h := kbG_f hc h
      refine r_bipush (-2) dX0_valueNamed_20 (by decide) ?_
      exact r_iret rfl dX0_valueNamed_22 (hr (((-2), μ)) (kbG_some h))
  · replace h := kbG_f hc h
    refine r_iconst (-1) dX0_valueNamed_9 (by decide) ?_
    exact r_iret rfl dX0_valueNamed_10 (hr (((-1), μ)) (kbG_some h))
def jn_BT_emit_39 (μ : kbM) : Option (kbM) :=
  some μ
theorem jnR_BT_emit_39 {l : Launch}    (μ : kbM) {Q : kbQt} {P : kbM → Prop} (hr : ∀ z : kbM, P z → Q none z) (h : kbG (jn_BT_emit_39 μ) P) : kbR l MX0_emit 1 Q 39 [none, none] [] μ := by
  unfold jn_BT_emit_39 at h
  exact r_vret rfl dX0_emit_39 (hr μ (kbG_some h))
def f_BT_emit (a1 : Int32) (μ : kbM) : Option (kbM) :=
  if (μ.1 1 10) = 0 then
    if 600 ≤ (μ.1 1 5) then
      jn_BT_emit_39 μ
    else
      kbIf (kbIn (μ.1 1 5) 600) <|
      jn_BT_emit_39 (kbW (kbW μ 11 ((μ.1 1 5).toNatClampNeg) a1) 1 5 (((kbW μ 11 ((μ.1 1 5).toNatClampNeg) a1).1 1 5) + 1))
  else
    jn_BT_emit_39 μ
theorem sp_BT_emit {l : Launch} (a1 : Int32) (μ : kbM)  {x : kbM} (h : f_BT_emit a1 μ = some x) : kbS l MX0_emit 1 [.ref 1, .int a1] μ (kbQe none x) := by
  refine kb_enter 0 rfl rfl ?_
  suffices H : ∀ (Q : kbQt) (P : kbM → Prop), (∀ z : kbM, P z → Q none z) → kbG (f_BT_emit a1 μ) P → kbR l MX0_emit 1 Q 0 [some (.ref 1), some (.int a1)] [] μ from H _ (fun z => z = x) (fun z e => by subst e; exact ⟨rfl, rfl⟩) ⟨x, h, rfl⟩
  clear h
  intro Q P hr h
  unfold f_BT_emit at h
  refine r_aload_n dX0_emit_0 rfl ?_
  refine r_getI flX0_52 sh1 rfl dX0_emit_1 ?_
  refine r_if_ne 39 dX0_emit_4 (by decide) (fun hc => ?_) (fun hc => ?_)
  · replace h := kbG_f hc h
    refine r_le [none, none] trivial ?_
    exact jnR_BT_emit_39  μ (hr := hr) h
  · replace h := kbG_t hc h
    refine r_aload_n dX0_emit_7 rfl ?_
    refine r_getI flX0_46 sh1 rfl dX0_emit_8 ?_
    refine r_aload_n dX0_emit_11 rfl ?_
    refine r_getR flX0_29 sh1 rfl dX0_emit_12 ?_
    refine r_alen 600 sh11 (by decide) (by decide) dX0_emit_15 ?_
    refine r_icmp_ge 39 dX0_emit_16 (by decide) (fun hc => ?_) (fun hc => ?_)
    · replace h := kbG_t hc h
      refine r_le [none, none] trivial ?_
      exact jnR_BT_emit_39  μ (hr := hr) h
    · replace h := kbG_f hc h
      refine r_aload_n dX0_emit_19 rfl ?_
      refine r_getR flX0_29 sh1 rfl dX0_emit_20 ?_
      refine r_aload_n dX0_emit_23 rfl ?_
      refine r_getI flX0_46 sh1 rfl dX0_emit_24 ?_
      refine r_iload_n dX0_emit_27 rfl ?_
      obtain ⟨hin, h⟩ := kbG_if h
      replace hin := kbIn_of hin
      refine q_iast ((μ.1 1 5).toNatClampNeg) rfl sh11 hin dX0_emit_28 ?_
      refine r_aload_n dX0_emit_29 rfl ?_
      refine r_dup dX0_emit_30 rfl ?_
      refine r_getI flX0_46 sh1 rfl dX0_emit_31 ?_
      refine r_iconst 1 dX0_emit_34 (by decide) ?_
      refine r_iadd dX0_emit_35 ?_
      refine r_put flX0_46 sh1 rfl rfl rfl dX0_emit_36 ?_
      refine r_le [none, none] trivial ?_
      exact jnR_BT_emit_39  (kbW (kbW μ 11 ((μ.1 1 5).toNatClampNeg) a1) 1 5 (((kbW μ 11 ((μ.1 1 5).toNatClampNeg) a1).1 1 5) + 1)) (hr := hr) h
def lp_BT_numberTold_26 (n : Nat) (μ : kbM) : Nat → Int32 → Int32 → Option (Int32)
  | 0, _, _ => none
  | k + 1, v1, v2 =>
    if (μ.1 1 9) ≤ v2 then
      some v1
    else
      (f_BT_byteAt v2 μ).bind fun x1 =>
      lp_BT_numberTold_26 n μ k (((v1 * 10) + x1) - 48) (v2 + 1)
theorem lpR_BT_numberTold_26 {l : Launch} (n : Nat) (μ : kbM)  {Q : kbQt} {P : Int32 → Prop} (hx : ∀ z : Int32, P (z) → kbR l MX0_numberTold 2 Q 54 [none, some (.int z), none] [] μ) : ∀ (k : Nat) (v1 : Int32) (v2 : Int32), kbG (lp_BT_numberTold_26 n μ k v1 v2) P → kbR l MX0_numberTold 2 Q 26 [some (.ref 1), some (.int v1), some (.int v2)] [] μ := by
  intro k
  induction k with
  | zero => intro v1 v2 h; exact absurd h kbG_none
  | succ k ih =>
    intro v1 v2 h
    unfold lp_BT_numberTold_26 at h
    refine r_iload_n dX0_numberTold_26 rfl ?_
    refine r_aload_n dX0_numberTold_27 rfl ?_
    refine r_getI flX0_49 sh1 rfl dX0_numberTold_28 ?_
    refine r_icmp_ge 54 dX0_numberTold_31 (by decide) (fun hc => ?_) (fun hc => ?_)
    · replace h := kbG_t hc h
      refine r_le [none, some (.int v1), none] ⟨rfl, trivial⟩ ?_
      exact hx v1 (kbG_some h)
    · replace h := kbG_f hc h
      refine r_iload_n dX0_numberTold_34 rfl ?_
      refine r_bipush 10 dX0_numberTold_35 (by decide) ?_
      refine r_imul dX0_numberTold_37 ?_
      refine r_aload_n dX0_numberTold_38 rfl ?_
      refine r_iload_n dX0_numberTold_39 rfl ?_
      obtain ⟨x1, hx0, h⟩ := kbG_bind h
      refine r_invV_i cvX0_122 sh1 rfl (sp_BT_byteAt v2 μ hx0) rfl rfl (Nat.le_of_ble_eq_true rfl) (Nat.le_of_ble_eq_true rfl) dX0_numberTold_40 ?_
      refine r_iadd dX0_numberTold_43 ?_
      refine r_bipush 48 dX0_numberTold_44 (by decide) ?_
      refine r_isub dX0_numberTold_46 ?_
      refine r_istore_n dX0_numberTold_47 (Nat.le_of_ble_eq_true rfl) rfl ?_
      refine r_iinc 1 dX0_numberTold_48 rfl (by decide) (Nat.le_of_ble_eq_true rfl) rfl ?_
      refine r_goto 26 dX0_numberTold_51 (by decide) ?_
      refine r_le [some (.ref 1), some (.int (((v1 * 10) + x1) - 48)), some (.int (v2 + 1))] ⟨rfl, ⟨rfl, ⟨rfl, trivial⟩⟩⟩ ?_
      exact ih (((v1 * 10) + x1) - 48) (v2 + 1) h
def f_BT_numberTold (n : Nat) (μ : kbM) : Option (Int32 × kbM) :=
  if ((μ.1 1 9) - (μ.1 1 8)) ≤ 4 then
    (lp_BT_numberTold_26 n μ n 0 (μ.1 1 8)).bind fun x2 =>
    some ((x2, μ))
  else
    (f_BT_fail 2 μ).bind fun x3 =>
    some ((x3.1, x3.2))
theorem sp_BT_numberTold {l : Launch} (n : Nat) (μ : kbM)  {x : Int32 × kbM} (h : f_BT_numberTold n μ = some x) : kbS l MX0_numberTold 2 [.ref 1] μ (kbQe (some (.int x.1)) x.2) := by
  refine kb_enter 2 rfl rfl ?_
  suffices H : ∀ (Q : kbQt) (P : Int32 × kbM → Prop), (∀ z : Int32 × kbM, P z → Q (some (.int z.1)) z.2) → kbG (f_BT_numberTold n μ) P → kbR l MX0_numberTold 2 Q 0 [some (.ref 1), none, none] [] μ from H _ (fun z => z = x) (fun z e => by subst e; exact ⟨rfl, rfl⟩) ⟨x, h, rfl⟩
  clear h
  intro Q P hr h
  unfold f_BT_numberTold at h
  refine r_aload_n dX0_numberTold_0 rfl ?_
  refine r_getI flX0_49 sh1 rfl dX0_numberTold_1 ?_
  refine r_aload_n dX0_numberTold_4 rfl ?_
  refine r_getI flX0_119 sh1 rfl dX0_numberTold_5 ?_
  refine r_isub dX0_numberTold_8 ?_
  refine r_iconst 4 dX0_numberTold_9 (by decide) ?_
  refine r_icmp_le 19 dX0_numberTold_10 (by decide) (fun hc => ?_) (fun hc => ?_)
  · replace h := kbG_t hc h
    refine r_iconst 0 dX0_numberTold_19 (by decide) ?_
    refine r_istore_n dX0_numberTold_20 (Nat.le_of_ble_eq_true rfl) rfl ?_
    refine r_aload_n dX0_numberTold_21 rfl ?_
    refine r_getI flX0_119 sh1 rfl dX0_numberTold_22 ?_
    refine r_istore_n dX0_numberTold_25 (Nat.le_of_ble_eq_true rfl) rfl ?_
    refine r_le [some (.ref 1), some (.int 0), some (.int (μ.1 1 8))] ⟨rfl, ⟨rfl, ⟨rfl, trivial⟩⟩⟩ ?_
    obtain ⟨x2, hx0, h⟩ := kbG_bind h
    refine lpR_BT_numberTold_26 n μ (P := fun z => x2 = z) (hx := fun z e => ?_) n _ _ ⟨_, hx0, rfl⟩
    subst e
    refine r_iload_n dX0_numberTold_54 rfl ?_
    exact r_iret rfl dX0_numberTold_55 (hr ((x2, μ)) (kbG_some h))
  · replace h := kbG_f hc h
    refine r_aload_n dX0_numberTold_13 rfl ?_
    refine r_iconst 2 dX0_numberTold_14 (by decide) ?_
    obtain ⟨x3, hx0, h⟩ := kbG_bind h
    refine r_invV_i cvX0_87 sh1 rfl (sp_BT_fail 2 μ hx0) rfl rfl (Nat.le_of_ble_eq_true rfl) (Nat.le_of_ble_eq_true rfl) dX0_numberTold_15 ?_
    exact r_iret rfl dX0_numberTold_18 (hr ((x3.1, x3.2)) (kbG_some h))
def jn_BT_operand_81 (n : Nat) (re : Int32 → kbM → Option kbM) (μ : kbM) : Option (kbM) :=
  some μ
theorem jnR_BT_operand_81 {l : Launch} (n : Nat) {d0 : Nat} {re : Int32 → kbM → Option kbM} (hre : ∀ (l : Launch) (a : Int32) (μ x : kbM), re a μ = some x → kbS l MX0_expr d0 [.ref 1, .int a] μ (kbQe none x))    (μ : kbM) {Q : kbQt} {P : kbM → Prop} (hr : ∀ z : kbM, P z → Q none z) (h : kbG (jn_BT_operand_81 n re μ) P) : kbR l MX0_operand (d0 + 7) Q 81 [none, none] [] μ := by
  unfold jn_BT_operand_81 at h
  exact r_vret rfl dX0_operand_81 (hr μ (kbG_some h))
def f_BT_operand (n : Nat) (re : Int32 → kbM → Option kbM) (a1 : Int32) (μ : kbM) : Option (kbM) :=
  if (μ.1 1 7) = 2 then
    (f_BT_numberTold n μ).bind fun x8 =>
    (f_BT_emit x8.1 x8.2).bind fun x9 =>
    (f_BT_advance n x9).bind fun x10 =>
    jn_BT_operand_81 n re x10
  else
    if (μ.1 1 7) = 1 then
      (f_BT_valueNamed n μ).bind fun x5 =>
      (f_BT_emit x5.1 x5.2).bind fun x6 =>
      (f_BT_advance n x6).bind fun x7 =>
      jn_BT_operand_81 n re x7
    else
      if (μ.1 1 7) = 40 then
        (f_BT_advance n μ).bind fun x2 =>
        (re (a1 + 1) x2).bind fun x3 =>
        (f_BT_passSign n 41 x3).bind fun x4 =>
        jn_BT_operand_81 n re x4
      else
        (f_BT_fail 1 μ).bind fun x1 =>
        jn_BT_operand_81 n re x1.2
theorem sp_BT_operand {l : Launch} (n : Nat) {d0 : Nat} {re : Int32 → kbM → Option kbM} (hre : ∀ (l : Launch) (a : Int32) (μ x : kbM), re a μ = some x → kbS l MX0_expr d0 [.ref 1, .int a] μ (kbQe none x)) (a1 : Int32) (μ : kbM)  {x : kbM} (h : f_BT_operand n re a1 μ = some x) : kbS l MX0_operand (d0 + 7) [.ref 1, .int a1] μ (kbQe none x) := by
  refine kb_enter 0 rfl rfl ?_
  suffices H : ∀ (Q : kbQt) (P : kbM → Prop), (∀ z : kbM, P z → Q none z) → kbG (f_BT_operand n re a1 μ) P → kbR l MX0_operand (d0 + 7) Q 0 [some (.ref 1), some (.int a1)] [] μ from H _ (fun z => z = x) (fun z e => by subst e; exact ⟨rfl, rfl⟩) ⟨x, h, rfl⟩
  clear h
  intro Q P hr h
  unfold f_BT_operand at h
  refine r_aload_n dX0_operand_0 rfl ?_
  refine r_getI flX0_58 sh1 rfl dX0_operand_1 ?_
  refine r_iconst 2 dX0_operand_4 (by decide) ?_
  refine r_icmp_ne 23 dX0_operand_5 (by decide) (fun hc => ?_) (fun hc => ?_)
  · replace h := kbG_f hc h
    refine r_aload_n dX0_operand_23 rfl ?_
    refine r_getI flX0_58 sh1 rfl dX0_operand_24 ?_
    refine r_iconst 1 dX0_operand_27 (by decide) ?_
    refine r_icmp_ne 46 dX0_operand_28 (by decide) (fun hc => ?_) (fun hc => ?_)
    · replace h := kbG_f hc h
      refine r_aload_n dX0_operand_46 rfl ?_
      refine r_getI flX0_58 sh1 rfl dX0_operand_47 ?_
      refine r_bipush 40 dX0_operand_50 (by decide) ?_
      refine r_icmp_ne 75 dX0_operand_52 (by decide) (fun hc => ?_) (fun hc => ?_)
      · replace h := kbG_f hc h
        refine r_aload_n dX0_operand_75 rfl ?_
        refine r_iconst 1 dX0_operand_76 (by decide) ?_
        obtain ⟨x1, hx0, h⟩ := kbG_bind h
        refine r_invV_i cvX0_87 sh1 rfl (sp_BT_fail 1 μ hx0) rfl rfl (Nat.le_of_ble_eq_true rfl) (by omega) dX0_operand_77 ?_
        refine r_pop dX0_operand_80 rfl ?_
        refine r_le [none, none] trivial ?_
        exact jnR_BT_operand_81 n hre  x1.2 (hr := hr) h
      · replace h := kbG_t hc h
        refine r_aload_n dX0_operand_55 rfl ?_
        obtain ⟨x2, hx0, h⟩ := kbG_bind h
        refine r_invV_v cvX0_55 sh1 rfl (sp_BT_advance n μ hx0) rfl rfl (Nat.le_of_ble_eq_true rfl) (by omega) dX0_operand_56 ?_
        refine r_aload_n dX0_operand_59 rfl ?_
        refine r_iload_n dX0_operand_60 rfl ?_
        refine r_iconst 1 dX0_operand_61 (by decide) ?_
        refine r_iadd dX0_operand_62 ?_
        obtain ⟨x3, hx0, h⟩ := kbG_bind h
        refine r_invV_v cvX0_112 sh1 rfl (hre l _ _ _ hx0) rfl rfl (Nat.le_of_ble_eq_true rfl) (by omega) dX0_operand_63 ?_
        refine r_aload_n dX0_operand_66 rfl ?_
        refine r_bipush 41 dX0_operand_67 (by decide) ?_
        obtain ⟨x4, hx0, h⟩ := kbG_bind h
        refine r_invV_v cvX0_91 sh1 rfl (sp_BT_passSign n 41 x3 hx0) rfl rfl (Nat.le_of_ble_eq_true rfl) (by omega) dX0_operand_69 ?_
        refine r_goto 81 dX0_operand_72 (by decide) ?_
        refine r_le [none, none] trivial ?_
        exact jnR_BT_operand_81 n hre  x4 (hr := hr) h
    · replace h := kbG_t hc h
      refine r_aload_n dX0_operand_31 rfl ?_
      refine r_aload_n dX0_operand_32 rfl ?_
      obtain ⟨x5, hx0, h⟩ := kbG_bind h
      refine r_invV_i cvX0_168 sh1 rfl (sp_BT_valueNamed n μ hx0) rfl rfl (Nat.le_of_ble_eq_true rfl) (by omega) dX0_operand_33 ?_
      obtain ⟨x6, hx0, h⟩ := kbG_bind h
      refine r_invV_v cvX0_146 sh1 rfl (sp_BT_emit x5.1 x5.2 hx0) rfl rfl (Nat.le_of_ble_eq_true rfl) (by omega) dX0_operand_36 ?_
      refine r_aload_n dX0_operand_39 rfl ?_
      obtain ⟨x7, hx0, h⟩ := kbG_bind h
      refine r_invV_v cvX0_55 sh1 rfl (sp_BT_advance n x6 hx0) rfl rfl (Nat.le_of_ble_eq_true rfl) (by omega) dX0_operand_40 ?_
      refine r_goto 81 dX0_operand_43 (by decide) ?_
      refine r_le [none, none] trivial ?_
      exact jnR_BT_operand_81 n hre  x7 (hr := hr) h
  · replace h := kbG_t hc h
    refine r_aload_n dX0_operand_8 rfl ?_
    refine r_aload_n dX0_operand_9 rfl ?_
    obtain ⟨x8, hx0, h⟩ := kbG_bind h
    refine r_invV_i cvX0_136 sh1 rfl (sp_BT_numberTold n μ hx0) rfl rfl (Nat.le_of_ble_eq_true rfl) (by omega) dX0_operand_10 ?_
    obtain ⟨x9, hx0, h⟩ := kbG_bind h
    refine r_invV_v cvX0_146 sh1 rfl (sp_BT_emit x8.1 x8.2 hx0) rfl rfl (Nat.le_of_ble_eq_true rfl) (by omega) dX0_operand_13 ?_
    refine r_aload_n dX0_operand_16 rfl ?_
    obtain ⟨x10, hx0, h⟩ := kbG_bind h
    refine r_invV_v cvX0_55 sh1 rfl (sp_BT_advance n x9 hx0) rfl rfl (Nat.le_of_ble_eq_true rfl) (by omega) dX0_operand_17 ?_
    refine r_goto 81 dX0_operand_20 (by decide) ?_
    refine r_le [none, none] trivial ?_
    exact jnR_BT_operand_81 n hre  x10 (hr := hr) h
def jn_BT_product_48 (n : Nat) (re : Int32 → kbM → Option kbM) (rec : Int32 → kbM → Option (kbM)) (v1 : Int32) (v2 : Int32) (w0 : Int32) (μ : kbM) : Option (kbM) :=
  (f_BT_advance n μ).bind fun x2 =>
  (f_BT_operand n re v1 x2).bind fun x3 =>
  (f_BT_emit w0 x3).bind fun x4 =>
  rec (v2 + 1) x4
theorem jnR_BT_product_48 {l : Launch} (n : Nat) {d0 : Nat} {re : Int32 → kbM → Option kbM} (hre : ∀ (l : Launch) (a : Int32) (μ x : kbM), re a μ = some x → kbS l MX0_expr d0 [.ref 1, .int a] μ (kbQe none x))   (v1 : Int32) (v2 : Int32) (w0 : Int32) (μ : kbM) {Q : kbQt} {P : kbM → Prop} (hx : ∀ z : kbM, P (z) → kbR l MX0_product (d0 + 8) Q 69 [none, none, none, none] [] z) {rec : Int32 → kbM → Option (kbM)} (hrec : ∀ (v2 : Int32) (μ : kbM), kbG (rec v2 μ) P → kbR l MX0_product (d0 + 8) Q 7 [some (.ref 1), some (.int v1), some (.int v2), none] [] μ) (h : kbG (jn_BT_product_48 n re rec v1 v2 w0 μ) P) : kbR l MX0_product (d0 + 8) Q 48 [some (.ref 1), some (.int v1), some (.int v2), none] [.int w0] μ := by
  unfold jn_BT_product_48 at h
  refine r_istore_n dX0_product_48 (Nat.le_of_ble_eq_true rfl) rfl ?_
  refine r_aload_n dX0_product_49 rfl ?_
  obtain ⟨x2, hx0, h⟩ := kbG_bind h
  refine r_invV_v cvX0_55 sh1 rfl (sp_BT_advance n μ hx0) rfl rfl (Nat.le_of_ble_eq_true rfl) (by omega) dX0_product_50 ?_
  refine r_aload_n dX0_product_53 rfl ?_
  refine r_iload_n dX0_product_54 rfl ?_
  obtain ⟨x3, hx0, h⟩ := kbG_bind h
  refine r_invV_v cvX0_165 sh1 rfl (sp_BT_operand n hre v1 x2 hx0) rfl rfl (Nat.le_of_ble_eq_true rfl) (by omega) dX0_product_55 ?_
  refine r_aload_n dX0_product_58 rfl ?_
  refine r_iload_n dX0_product_59 rfl ?_
  obtain ⟨x4, hx0, h⟩ := kbG_bind h
  refine r_invV_v cvX0_146 sh1 rfl (sp_BT_emit w0 x3 hx0) rfl rfl (Nat.le_of_ble_eq_true rfl) (by omega) dX0_product_60 ?_
  refine r_iinc 1 dX0_product_63 rfl (by decide) (Nat.le_of_ble_eq_true rfl) rfl ?_
  refine r_goto 7 dX0_product_66 (by decide) ?_
  refine r_le [some (.ref 1), some (.int v1), some (.int (v2 + 1)), none] ⟨rfl, ⟨rfl, ⟨rfl, trivial⟩⟩⟩ ?_
  exact hrec (v2 + 1) x4 h
def jn_BT_product_32 (n : Nat) (re : Int32 → kbM → Option kbM) (rec : Int32 → kbM → Option (kbM)) (v1 : Int32) (v2 : Int32) (μ : kbM) : Option (kbM) :=
  if (μ.1 1 7) = 42 then
    jn_BT_product_48 n re rec v1 v2 (-14) μ
  else
    jn_BT_product_48 n re rec v1 v2 (-15) μ
theorem jnR_BT_product_32 {l : Launch} (n : Nat) {d0 : Nat} {re : Int32 → kbM → Option kbM} (hre : ∀ (l : Launch) (a : Int32) (μ x : kbM), re a μ = some x → kbS l MX0_expr d0 [.ref 1, .int a] μ (kbQe none x))   (v1 : Int32) (v2 : Int32) (μ : kbM) {Q : kbQt} {P : kbM → Prop} (hx : ∀ z : kbM, P (z) → kbR l MX0_product (d0 + 8) Q 69 [none, none, none, none] [] z) {rec : Int32 → kbM → Option (kbM)} (hrec : ∀ (v2 : Int32) (μ : kbM), kbG (rec v2 μ) P → kbR l MX0_product (d0 + 8) Q 7 [some (.ref 1), some (.int v1), some (.int v2), none] [] μ) (h : kbG (jn_BT_product_32 n re rec v1 v2 μ) P) : kbR l MX0_product (d0 + 8) Q 32 [some (.ref 1), some (.int v1), some (.int v2), none] [] μ := by
  unfold jn_BT_product_32 at h
  refine r_aload_n dX0_product_32 rfl ?_
  refine r_getI flX0_58 sh1 rfl dX0_product_33 ?_
  refine r_bipush 42 dX0_product_36 (by decide) ?_
  refine r_icmp_ne 46 dX0_product_38 (by decide) (fun hc => ?_) (fun hc => ?_)
  · replace h := kbG_f hc h
    refine r_bipush (-15) dX0_product_46 (by decide) ?_
    refine r_le [some (.ref 1), some (.int v1), some (.int v2), none] ⟨rfl, ⟨rfl, ⟨rfl, trivial⟩⟩⟩ ?_
    exact jnR_BT_product_48 n hre v1 v2 (-15) μ (hx := hx) (hrec := hrec) h
  · replace h := kbG_t hc h
    refine r_bipush (-14) dX0_product_41 (by decide) ?_
    refine r_goto 48 dX0_product_43 (by decide) ?_
    refine r_le [some (.ref 1), some (.int v1), some (.int v2), none] ⟨rfl, ⟨rfl, ⟨rfl, trivial⟩⟩⟩ ?_
    exact jnR_BT_product_48 n hre v1 v2 (-14) μ (hx := hx) (hrec := hrec) h
def lp_BT_product_7 (n : Nat) (re : Int32 → kbM → Option kbM) (v1 : Int32) : Nat → Int32 → kbM → Option (kbM)
  | 0, _, _ => none
  | k + 1, v2, μ =>
    if 600 ≤ v2 then
      some μ
    else
      if (μ.1 1 7) = 42 then
        jn_BT_product_32 n re (lp_BT_product_7 n re v1 k) v1 v2 μ
      else
        if (μ.1 1 7) = 47 then
          jn_BT_product_32 n re (lp_BT_product_7 n re v1 k) v1 v2 μ
        else
          some μ
theorem lpR_BT_product_7 {l : Launch} (n : Nat) {d0 : Nat} {re : Int32 → kbM → Option kbM} (hre : ∀ (l : Launch) (a : Int32) (μ x : kbM), re a μ = some x → kbS l MX0_expr d0 [.ref 1, .int a] μ (kbQe none x)) (v1 : Int32)  {Q : kbQt} {P : kbM → Prop} (hx : ∀ z : kbM, P (z) → kbR l MX0_product (d0 + 8) Q 69 [none, none, none, none] [] z) : ∀ (k : Nat) (v2 : Int32) (μ : kbM), kbG (lp_BT_product_7 n re v1 k v2 μ) P → kbR l MX0_product (d0 + 8) Q 7 [some (.ref 1), some (.int v1), some (.int v2), none] [] μ := by
  intro k
  induction k with
  | zero => intro v2 μ h; exact absurd h kbG_none
  | succ k ih =>
    intro v2 μ h
    unfold lp_BT_product_7 at h
    refine r_iload_n dX0_product_7 rfl ?_
    refine r_sipush 600 dX0_product_8 (by decide) ?_
    refine r_icmp_ge 69 dX0_product_11 (by decide) (fun hc => ?_) (fun hc => ?_)
    · replace h := kbG_t hc h
      refine r_le [none, none, none, none] trivial ?_
      exact hx μ (kbG_some h)
    · replace h := kbG_f hc h
      refine r_aload_n dX0_product_14 rfl ?_
      refine r_getI flX0_58 sh1 rfl dX0_product_15 ?_
      refine r_bipush 42 dX0_product_18 (by decide) ?_
      refine r_icmp_eq 32 dX0_product_20 (by decide) (fun hc => ?_) (fun hc => ?_)
      · replace h := kbG_t hc h
        refine r_le [some (.ref 1), some (.int v1), some (.int v2), none] ⟨rfl, ⟨rfl, ⟨rfl, trivial⟩⟩⟩ ?_
        exact jnR_BT_product_32 n hre v1 v2 μ (hx := hx) (hrec := ih) h
      · replace h := kbG_f hc h
        refine r_aload_n dX0_product_23 rfl ?_
        refine r_getI flX0_58 sh1 rfl dX0_product_24 ?_
        refine r_bipush 47 dX0_product_27 (by decide) ?_
        refine r_icmp_ne 69 dX0_product_29 (by decide) (fun hc => ?_) (fun hc => ?_)
        · replace h := kbG_f hc h
          refine r_le [none, none, none, none] trivial ?_
          exact hx μ (kbG_some h)
        · replace h := kbG_t hc h
          refine r_le [some (.ref 1), some (.int v1), some (.int v2), none] ⟨rfl, ⟨rfl, ⟨rfl, trivial⟩⟩⟩ ?_
          exact jnR_BT_product_32 n hre v1 v2 μ (hx := hx) (hrec := ih) h
def jn_BT_product_69 (n : Nat) (re : Int32 → kbM → Option kbM) (μ : kbM) : Option (kbM) :=
  some μ
theorem jnR_BT_product_69 {l : Launch} (n : Nat) {d0 : Nat} {re : Int32 → kbM → Option kbM} (hre : ∀ (l : Launch) (a : Int32) (μ x : kbM), re a μ = some x → kbS l MX0_expr d0 [.ref 1, .int a] μ (kbQe none x))    (μ : kbM) {Q : kbQt} {P : kbM → Prop} (hr : ∀ z : kbM, P z → Q none z) (h : kbG (jn_BT_product_69 n re μ) P) : kbR l MX0_product (d0 + 8) Q 69 [none, none, none, none] [] μ := by
  unfold jn_BT_product_69 at h
  exact r_vret rfl dX0_product_69 (hr μ (kbG_some h))
def f_BT_product (n : Nat) (re : Int32 → kbM → Option kbM) (a1 : Int32) (μ : kbM) : Option (kbM) :=
  (f_BT_operand n re a1 μ).bind fun x1 =>
  (lp_BT_product_7 n re a1 n 0 x1).bind fun x5 =>
  jn_BT_product_69 n re x5
theorem sp_BT_product {l : Launch} (n : Nat) {d0 : Nat} {re : Int32 → kbM → Option kbM} (hre : ∀ (l : Launch) (a : Int32) (μ x : kbM), re a μ = some x → kbS l MX0_expr d0 [.ref 1, .int a] μ (kbQe none x)) (a1 : Int32) (μ : kbM)  {x : kbM} (h : f_BT_product n re a1 μ = some x) : kbS l MX0_product (d0 + 8) [.ref 1, .int a1] μ (kbQe none x) := by
  refine kb_enter 2 rfl rfl ?_
  suffices H : ∀ (Q : kbQt) (P : kbM → Prop), (∀ z : kbM, P z → Q none z) → kbG (f_BT_product n re a1 μ) P → kbR l MX0_product (d0 + 8) Q 0 [some (.ref 1), some (.int a1), none, none] [] μ from H _ (fun z => z = x) (fun z e => by subst e; exact ⟨rfl, rfl⟩) ⟨x, h, rfl⟩
  clear h
  intro Q P hr h
  unfold f_BT_product at h
  refine r_aload_n dX0_product_0 rfl ?_
  refine r_iload_n dX0_product_1 rfl ?_
  obtain ⟨x1, hx0, h⟩ := kbG_bind h
  refine r_invV_v cvX0_165 sh1 rfl (sp_BT_operand n hre a1 μ hx0) rfl rfl (Nat.le_of_ble_eq_true rfl) (by omega) dX0_product_2 ?_
  refine r_iconst 0 dX0_product_5 (by decide) ?_
  refine r_istore_n dX0_product_6 (Nat.le_of_ble_eq_true rfl) rfl ?_
  refine r_le [some (.ref 1), some (.int a1), some (.int 0), none] ⟨rfl, ⟨rfl, ⟨rfl, trivial⟩⟩⟩ ?_
  obtain ⟨x5, hx0, h⟩ := kbG_bind h
  refine lpR_BT_product_7 n hre a1 (P := fun z => x5 = z) (hx := fun z e => ?_) n _ _ ⟨_, hx0, rfl⟩
  subst e
  refine r_le [none, none, none, none] trivial ?_
  exact jnR_BT_product_69 n hre  x5 (hr := hr) h
def jn_BT_sum_48 (n : Nat) (re : Int32 → kbM → Option kbM) (rec : Int32 → kbM → Option (kbM)) (v1 : Int32) (v2 : Int32) (w0 : Int32) (μ : kbM) : Option (kbM) :=
  (f_BT_advance n μ).bind fun x2 =>
  (f_BT_product n re v1 x2).bind fun x3 =>
  (f_BT_emit w0 x3).bind fun x4 =>
  rec (v2 + 1) x4
theorem jnR_BT_sum_48 {l : Launch} (n : Nat) {d0 : Nat} {re : Int32 → kbM → Option kbM} (hre : ∀ (l : Launch) (a : Int32) (μ x : kbM), re a μ = some x → kbS l MX0_expr d0 [.ref 1, .int a] μ (kbQe none x))   (v1 : Int32) (v2 : Int32) (w0 : Int32) (μ : kbM) {Q : kbQt} {P : kbM → Prop} (hx : ∀ z : kbM, P (z) → kbR l MX0_sum (d0 + 9) Q 69 [none, none, none, none] [] z) {rec : Int32 → kbM → Option (kbM)} (hrec : ∀ (v2 : Int32) (μ : kbM), kbG (rec v2 μ) P → kbR l MX0_sum (d0 + 9) Q 7 [some (.ref 1), some (.int v1), some (.int v2), none] [] μ) (h : kbG (jn_BT_sum_48 n re rec v1 v2 w0 μ) P) : kbR l MX0_sum (d0 + 9) Q 48 [some (.ref 1), some (.int v1), some (.int v2), none] [.int w0] μ := by
  unfold jn_BT_sum_48 at h
  refine r_istore_n dX0_sum_48 (Nat.le_of_ble_eq_true rfl) rfl ?_
  refine r_aload_n dX0_sum_49 rfl ?_
  obtain ⟨x2, hx0, h⟩ := kbG_bind h
  refine r_invV_v cvX0_55 sh1 rfl (sp_BT_advance n μ hx0) rfl rfl (Nat.le_of_ble_eq_true rfl) (by omega) dX0_sum_50 ?_
  refine r_aload_n dX0_sum_53 rfl ?_
  refine r_iload_n dX0_sum_54 rfl ?_
  obtain ⟨x3, hx0, h⟩ := kbG_bind h
  refine r_invV_v cvX0_162 sh1 rfl (sp_BT_product n hre v1 x2 hx0) rfl rfl (Nat.le_of_ble_eq_true rfl) (by omega) dX0_sum_55 ?_
  refine r_aload_n dX0_sum_58 rfl ?_
  refine r_iload_n dX0_sum_59 rfl ?_
  obtain ⟨x4, hx0, h⟩ := kbG_bind h
  refine r_invV_v cvX0_146 sh1 rfl (sp_BT_emit w0 x3 hx0) rfl rfl (Nat.le_of_ble_eq_true rfl) (by omega) dX0_sum_60 ?_
  refine r_iinc 1 dX0_sum_63 rfl (by decide) (Nat.le_of_ble_eq_true rfl) rfl ?_
  refine r_goto 7 dX0_sum_66 (by decide) ?_
  refine r_le [some (.ref 1), some (.int v1), some (.int (v2 + 1)), none] ⟨rfl, ⟨rfl, ⟨rfl, trivial⟩⟩⟩ ?_
  exact hrec (v2 + 1) x4 h
def jn_BT_sum_32 (n : Nat) (re : Int32 → kbM → Option kbM) (rec : Int32 → kbM → Option (kbM)) (v1 : Int32) (v2 : Int32) (μ : kbM) : Option (kbM) :=
  if (μ.1 1 7) = 43 then
    jn_BT_sum_48 n re rec v1 v2 (-12) μ
  else
    jn_BT_sum_48 n re rec v1 v2 (-13) μ
theorem jnR_BT_sum_32 {l : Launch} (n : Nat) {d0 : Nat} {re : Int32 → kbM → Option kbM} (hre : ∀ (l : Launch) (a : Int32) (μ x : kbM), re a μ = some x → kbS l MX0_expr d0 [.ref 1, .int a] μ (kbQe none x))   (v1 : Int32) (v2 : Int32) (μ : kbM) {Q : kbQt} {P : kbM → Prop} (hx : ∀ z : kbM, P (z) → kbR l MX0_sum (d0 + 9) Q 69 [none, none, none, none] [] z) {rec : Int32 → kbM → Option (kbM)} (hrec : ∀ (v2 : Int32) (μ : kbM), kbG (rec v2 μ) P → kbR l MX0_sum (d0 + 9) Q 7 [some (.ref 1), some (.int v1), some (.int v2), none] [] μ) (h : kbG (jn_BT_sum_32 n re rec v1 v2 μ) P) : kbR l MX0_sum (d0 + 9) Q 32 [some (.ref 1), some (.int v1), some (.int v2), none] [] μ := by
  unfold jn_BT_sum_32 at h
  refine r_aload_n dX0_sum_32 rfl ?_
  refine r_getI flX0_58 sh1 rfl dX0_sum_33 ?_
  refine r_bipush 43 dX0_sum_36 (by decide) ?_
  refine r_icmp_ne 46 dX0_sum_38 (by decide) (fun hc => ?_) (fun hc => ?_)
  · replace h := kbG_f hc h
    refine r_bipush (-13) dX0_sum_46 (by decide) ?_
    refine r_le [some (.ref 1), some (.int v1), some (.int v2), none] ⟨rfl, ⟨rfl, ⟨rfl, trivial⟩⟩⟩ ?_
    exact jnR_BT_sum_48 n hre v1 v2 (-13) μ (hx := hx) (hrec := hrec) h
  · replace h := kbG_t hc h
    refine r_bipush (-12) dX0_sum_41 (by decide) ?_
    refine r_goto 48 dX0_sum_43 (by decide) ?_
    refine r_le [some (.ref 1), some (.int v1), some (.int v2), none] ⟨rfl, ⟨rfl, ⟨rfl, trivial⟩⟩⟩ ?_
    exact jnR_BT_sum_48 n hre v1 v2 (-12) μ (hx := hx) (hrec := hrec) h
def lp_BT_sum_7 (n : Nat) (re : Int32 → kbM → Option kbM) (v1 : Int32) : Nat → Int32 → kbM → Option (kbM)
  | 0, _, _ => none
  | k + 1, v2, μ =>
    if 600 ≤ v2 then
      some μ
    else
      if (μ.1 1 7) = 43 then
        jn_BT_sum_32 n re (lp_BT_sum_7 n re v1 k) v1 v2 μ
      else
        if (μ.1 1 7) = 45 then
          jn_BT_sum_32 n re (lp_BT_sum_7 n re v1 k) v1 v2 μ
        else
          some μ
theorem lpR_BT_sum_7 {l : Launch} (n : Nat) {d0 : Nat} {re : Int32 → kbM → Option kbM} (hre : ∀ (l : Launch) (a : Int32) (μ x : kbM), re a μ = some x → kbS l MX0_expr d0 [.ref 1, .int a] μ (kbQe none x)) (v1 : Int32)  {Q : kbQt} {P : kbM → Prop} (hx : ∀ z : kbM, P (z) → kbR l MX0_sum (d0 + 9) Q 69 [none, none, none, none] [] z) : ∀ (k : Nat) (v2 : Int32) (μ : kbM), kbG (lp_BT_sum_7 n re v1 k v2 μ) P → kbR l MX0_sum (d0 + 9) Q 7 [some (.ref 1), some (.int v1), some (.int v2), none] [] μ := by
  intro k
  induction k with
  | zero => intro v2 μ h; exact absurd h kbG_none
  | succ k ih =>
    intro v2 μ h
    unfold lp_BT_sum_7 at h
    refine r_iload_n dX0_sum_7 rfl ?_
    refine r_sipush 600 dX0_sum_8 (by decide) ?_
    refine r_icmp_ge 69 dX0_sum_11 (by decide) (fun hc => ?_) (fun hc => ?_)
    · replace h := kbG_t hc h
      refine r_le [none, none, none, none] trivial ?_
      exact hx μ (kbG_some h)
    · replace h := kbG_f hc h
      refine r_aload_n dX0_sum_14 rfl ?_
      refine r_getI flX0_58 sh1 rfl dX0_sum_15 ?_
      refine r_bipush 43 dX0_sum_18 (by decide) ?_
      refine r_icmp_eq 32 dX0_sum_20 (by decide) (fun hc => ?_) (fun hc => ?_)
      · replace h := kbG_t hc h
        refine r_le [some (.ref 1), some (.int v1), some (.int v2), none] ⟨rfl, ⟨rfl, ⟨rfl, trivial⟩⟩⟩ ?_
        exact jnR_BT_sum_32 n hre v1 v2 μ (hx := hx) (hrec := ih) h
      · replace h := kbG_f hc h
        refine r_aload_n dX0_sum_23 rfl ?_
        refine r_getI flX0_58 sh1 rfl dX0_sum_24 ?_
        refine r_bipush 45 dX0_sum_27 (by decide) ?_
        refine r_icmp_ne 69 dX0_sum_29 (by decide) (fun hc => ?_) (fun hc => ?_)
        · replace h := kbG_f hc h
          refine r_le [none, none, none, none] trivial ?_
          exact hx μ (kbG_some h)
        · replace h := kbG_t hc h
          refine r_le [some (.ref 1), some (.int v1), some (.int v2), none] ⟨rfl, ⟨rfl, ⟨rfl, trivial⟩⟩⟩ ?_
          exact jnR_BT_sum_32 n hre v1 v2 μ (hx := hx) (hrec := ih) h
def jn_BT_sum_69 (n : Nat) (re : Int32 → kbM → Option kbM) (μ : kbM) : Option (kbM) :=
  some μ
theorem jnR_BT_sum_69 {l : Launch} (n : Nat) {d0 : Nat} {re : Int32 → kbM → Option kbM} (hre : ∀ (l : Launch) (a : Int32) (μ x : kbM), re a μ = some x → kbS l MX0_expr d0 [.ref 1, .int a] μ (kbQe none x))    (μ : kbM) {Q : kbQt} {P : kbM → Prop} (hr : ∀ z : kbM, P z → Q none z) (h : kbG (jn_BT_sum_69 n re μ) P) : kbR l MX0_sum (d0 + 9) Q 69 [none, none, none, none] [] μ := by
  unfold jn_BT_sum_69 at h
  exact r_vret rfl dX0_sum_69 (hr μ (kbG_some h))
def f_BT_sum (n : Nat) (re : Int32 → kbM → Option kbM) (a1 : Int32) (μ : kbM) : Option (kbM) :=
  (f_BT_product n re a1 μ).bind fun x1 =>
  (lp_BT_sum_7 n re a1 n 0 x1).bind fun x5 =>
  jn_BT_sum_69 n re x5
theorem sp_BT_sum {l : Launch} (n : Nat) {d0 : Nat} {re : Int32 → kbM → Option kbM} (hre : ∀ (l : Launch) (a : Int32) (μ x : kbM), re a μ = some x → kbS l MX0_expr d0 [.ref 1, .int a] μ (kbQe none x)) (a1 : Int32) (μ : kbM)  {x : kbM} (h : f_BT_sum n re a1 μ = some x) : kbS l MX0_sum (d0 + 9) [.ref 1, .int a1] μ (kbQe none x) := by
  refine kb_enter 2 rfl rfl ?_
  suffices H : ∀ (Q : kbQt) (P : kbM → Prop), (∀ z : kbM, P z → Q none z) → kbG (f_BT_sum n re a1 μ) P → kbR l MX0_sum (d0 + 9) Q 0 [some (.ref 1), some (.int a1), none, none] [] μ from H _ (fun z => z = x) (fun z e => by subst e; exact ⟨rfl, rfl⟩) ⟨x, h, rfl⟩
  clear h
  intro Q P hr h
  unfold f_BT_sum at h
  refine r_aload_n dX0_sum_0 rfl ?_
  refine r_iload_n dX0_sum_1 rfl ?_
  obtain ⟨x1, hx0, h⟩ := kbG_bind h
  refine r_invV_v cvX0_162 sh1 rfl (sp_BT_product n hre a1 μ hx0) rfl rfl (Nat.le_of_ble_eq_true rfl) (by omega) dX0_sum_2 ?_
  refine r_iconst 0 dX0_sum_5 (by decide) ?_
  refine r_istore_n dX0_sum_6 (Nat.le_of_ble_eq_true rfl) rfl ?_
  refine r_le [some (.ref 1), some (.int a1), some (.int 0), none] ⟨rfl, ⟨rfl, ⟨rfl, trivial⟩⟩⟩ ?_
  obtain ⟨x5, hx0, h⟩ := kbG_bind h
  refine lpR_BT_sum_7 n hre a1 (P := fun z => x5 = z) (hx := fun z e => ?_) n _ _ ⟨_, hx0, rfl⟩
  subst e
  refine r_le [none, none, none, none] trivial ?_
  exact jnR_BT_sum_69 n hre  x5 (hr := hr) h
def jn_BT_comparison_54 (n : Nat) (re : Int32 → kbM → Option kbM) (μ : kbM) : Option (kbM) :=
  some μ
theorem jnR_BT_comparison_54 {l : Launch} (n : Nat) {d0 : Nat} {re : Int32 → kbM → Option kbM} (hre : ∀ (l : Launch) (a : Int32) (μ x : kbM), re a μ = some x → kbS l MX0_expr d0 [.ref 1, .int a] μ (kbQe none x))    (μ : kbM) {Q : kbQt} {P : kbM → Prop} (hr : ∀ z : kbM, P z → Q none z) (h : kbG (jn_BT_comparison_54 n re μ) P) : kbR l MX0_comparison (d0 + 10) Q 54 [none, none, none] [] μ := by
  unfold jn_BT_comparison_54 at h
  exact r_vret rfl dX0_comparison_54 (hr μ (kbG_some h))
def jn_BT_comparison_39 (n : Nat) (re : Int32 → kbM → Option kbM) (v1 : Int32) (w0 : Int32) (μ : kbM) : Option (kbM) :=
  (f_BT_advance n μ).bind fun x2 =>
  (f_BT_sum n re v1 x2).bind fun x3 =>
  (f_BT_emit w0 x3).bind fun x4 =>
  jn_BT_comparison_54 n re x4
theorem jnR_BT_comparison_39 {l : Launch} (n : Nat) {d0 : Nat} {re : Int32 → kbM → Option kbM} (hre : ∀ (l : Launch) (a : Int32) (μ x : kbM), re a μ = some x → kbS l MX0_expr d0 [.ref 1, .int a] μ (kbQe none x))   (v1 : Int32) (w0 : Int32) (μ : kbM) {Q : kbQt} {P : kbM → Prop} (hr : ∀ z : kbM, P z → Q none z) (h : kbG (jn_BT_comparison_39 n re v1 w0 μ) P) : kbR l MX0_comparison (d0 + 10) Q 39 [some (.ref 1), some (.int v1), none] [.int w0] μ := by
  unfold jn_BT_comparison_39 at h
  refine r_istore_n dX0_comparison_39 (Nat.le_of_ble_eq_true rfl) rfl ?_
  refine r_aload_n dX0_comparison_40 rfl ?_
  obtain ⟨x2, hx0, h⟩ := kbG_bind h
  refine r_invV_v cvX0_55 sh1 rfl (sp_BT_advance n μ hx0) rfl rfl (Nat.le_of_ble_eq_true rfl) (by omega) dX0_comparison_41 ?_
  refine r_aload_n dX0_comparison_44 rfl ?_
  refine r_iload_n dX0_comparison_45 rfl ?_
  obtain ⟨x3, hx0, h⟩ := kbG_bind h
  refine r_invV_v cvX0_159 sh1 rfl (sp_BT_sum n hre v1 x2 hx0) rfl rfl (Nat.le_of_ble_eq_true rfl) (by omega) dX0_comparison_46 ?_
  refine r_aload_n dX0_comparison_49 rfl ?_
  refine r_iload_n dX0_comparison_50 rfl ?_
  obtain ⟨x4, hx0, h⟩ := kbG_bind h
  refine r_invV_v cvX0_146 sh1 rfl (sp_BT_emit w0 x3 hx0) rfl rfl (Nat.le_of_ble_eq_true rfl) (by omega) dX0_comparison_51 ?_
  refine r_le [none, none, none] trivial ?_
  exact jnR_BT_comparison_54 n hre  x4 (hr := hr) h
def jn_BT_comparison_23 (n : Nat) (re : Int32 → kbM → Option kbM) (v1 : Int32) (μ : kbM) : Option (kbM) :=
  if (μ.1 1 7) = 60 then
    jn_BT_comparison_39 n re v1 (-10) μ
  else
    jn_BT_comparison_39 n re v1 (-11) μ
theorem jnR_BT_comparison_23 {l : Launch} (n : Nat) {d0 : Nat} {re : Int32 → kbM → Option kbM} (hre : ∀ (l : Launch) (a : Int32) (μ x : kbM), re a μ = some x → kbS l MX0_expr d0 [.ref 1, .int a] μ (kbQe none x))   (v1 : Int32) (μ : kbM) {Q : kbQt} {P : kbM → Prop} (hr : ∀ z : kbM, P z → Q none z) (h : kbG (jn_BT_comparison_23 n re v1 μ) P) : kbR l MX0_comparison (d0 + 10) Q 23 [some (.ref 1), some (.int v1), none] [] μ := by
  unfold jn_BT_comparison_23 at h
  refine r_aload_n dX0_comparison_23 rfl ?_
  refine r_getI flX0_58 sh1 rfl dX0_comparison_24 ?_
  refine r_bipush 60 dX0_comparison_27 (by decide) ?_
  refine r_icmp_ne 37 dX0_comparison_29 (by decide) (fun hc => ?_) (fun hc => ?_)
  · replace h := kbG_f hc h
    refine r_bipush (-11) dX0_comparison_37 (by decide) ?_
    refine r_le [some (.ref 1), some (.int v1), none] ⟨rfl, ⟨rfl, trivial⟩⟩ ?_
    exact jnR_BT_comparison_39 n hre v1 (-11) μ (hr := hr) h
  · replace h := kbG_t hc h
    refine r_bipush (-10) dX0_comparison_32 (by decide) ?_
    refine r_goto 39 dX0_comparison_34 (by decide) ?_
    refine r_le [some (.ref 1), some (.int v1), none] ⟨rfl, ⟨rfl, trivial⟩⟩ ?_
    exact jnR_BT_comparison_39 n hre v1 (-10) μ (hr := hr) h
def f_BT_comparison (n : Nat) (re : Int32 → kbM → Option kbM) (a1 : Int32) (μ : kbM) : Option (kbM) :=
  (f_BT_sum n re a1 μ).bind fun x1 =>
  if (x1.1 1 7) = 60 then
    jn_BT_comparison_23 n re a1 x1
  else
    if (x1.1 1 7) = 61 then
      jn_BT_comparison_23 n re a1 x1
    else
      jn_BT_comparison_54 n re x1
theorem sp_BT_comparison {l : Launch} (n : Nat) {d0 : Nat} {re : Int32 → kbM → Option kbM} (hre : ∀ (l : Launch) (a : Int32) (μ x : kbM), re a μ = some x → kbS l MX0_expr d0 [.ref 1, .int a] μ (kbQe none x)) (a1 : Int32) (μ : kbM)  {x : kbM} (h : f_BT_comparison n re a1 μ = some x) : kbS l MX0_comparison (d0 + 10) [.ref 1, .int a1] μ (kbQe none x) := by
  refine kb_enter 1 rfl rfl ?_
  suffices H : ∀ (Q : kbQt) (P : kbM → Prop), (∀ z : kbM, P z → Q none z) → kbG (f_BT_comparison n re a1 μ) P → kbR l MX0_comparison (d0 + 10) Q 0 [some (.ref 1), some (.int a1), none] [] μ from H _ (fun z => z = x) (fun z e => by subst e; exact ⟨rfl, rfl⟩) ⟨x, h, rfl⟩
  clear h
  intro Q P hr h
  unfold f_BT_comparison at h
  refine r_aload_n dX0_comparison_0 rfl ?_
  refine r_iload_n dX0_comparison_1 rfl ?_
  obtain ⟨x1, hx0, h⟩ := kbG_bind h
  refine r_invV_v cvX0_159 sh1 rfl (sp_BT_sum n hre a1 μ hx0) rfl rfl (Nat.le_of_ble_eq_true rfl) (by omega) dX0_comparison_2 ?_
  refine r_aload_n dX0_comparison_5 rfl ?_
  refine r_getI flX0_58 sh1 rfl dX0_comparison_6 ?_
  refine r_bipush 60 dX0_comparison_9 (by decide) ?_
  refine r_icmp_eq 23 dX0_comparison_11 (by decide) (fun hc => ?_) (fun hc => ?_)
  · replace h := kbG_t hc h
    refine r_le [some (.ref 1), some (.int a1), none] ⟨rfl, ⟨rfl, trivial⟩⟩ ?_
    exact jnR_BT_comparison_23 n hre a1 x1 (hr := hr) h
  · replace h := kbG_f hc h
    refine r_aload_n dX0_comparison_14 rfl ?_
    refine r_getI flX0_58 sh1 rfl dX0_comparison_15 ?_
    refine r_bipush 61 dX0_comparison_18 (by decide) ?_
    refine r_icmp_ne 54 dX0_comparison_20 (by decide) (fun hc => ?_) (fun hc => ?_)
    · replace h := kbG_f hc h
      refine r_le [none, none, none] trivial ?_
      exact jnR_BT_comparison_54 n hre  x1 (hr := hr) h
    · replace h := kbG_t hc h
      refine r_le [some (.ref 1), some (.int a1), none] ⟨rfl, ⟨rfl, trivial⟩⟩ ?_
      exact jnR_BT_comparison_23 n hre a1 x1 (hr := hr) h
def lp_BT_negation_2 (n : Nat) (re : Int32 → kbM → Option kbM) (v1 : Int32) : Nat → Int32 → kbM → Option (Int32 × kbM)
  | 0, _, _ => none
  | k + 1, v2, μ =>
    if 6 ≤ v2 then
      some ((v2, μ))
    else
      (f_BT_isNamed n 29 μ).bind fun x1 =>
      if x1 = 0 then
        some ((v2, μ))
      else
        (f_BT_advance n μ).bind fun x2 =>
        lp_BT_negation_2 n re v1 k (v2 + 1) x2
theorem lpR_BT_negation_2 {l : Launch} (n : Nat) {d0 : Nat} {re : Int32 → kbM → Option kbM} (hre : ∀ (l : Launch) (a : Int32) (μ x : kbM), re a μ = some x → kbS l MX0_expr d0 [.ref 1, .int a] μ (kbQe none x)) (v1 : Int32)  {Q : kbQt} {P : Int32 × kbM → Prop} (hx : ∀ z : Int32 × kbM, P (z) → kbR l MX0_negation (d0 + 11) Q 27 [some (.ref 1), some (.int v1), some (.int z.1), none] [] z.2) : ∀ (k : Nat) (v2 : Int32) (μ : kbM), kbG (lp_BT_negation_2 n re v1 k v2 μ) P → kbR l MX0_negation (d0 + 11) Q 2 [some (.ref 1), some (.int v1), some (.int v2), none] [] μ := by
  intro k
  induction k with
  | zero => intro v2 μ h; exact absurd h kbG_none
  | succ k ih =>
    intro v2 μ h
    unfold lp_BT_negation_2 at h
    refine r_iload_n dX0_negation_2 rfl ?_
    refine r_bipush 6 dX0_negation_3 (by decide) ?_
    refine r_icmp_ge 27 dX0_negation_5 (by decide) (fun hc => ?_) (fun hc => ?_)
    · replace h := kbG_t hc h
      refine r_le [some (.ref 1), some (.int v1), some (.int v2), none] ⟨rfl, ⟨rfl, ⟨rfl, trivial⟩⟩⟩ ?_
      exact hx ((v2, μ)) (kbG_some h)
    · replace h := kbG_f hc h
      refine r_aload_n dX0_negation_8 rfl ?_
      refine r_ldcS lsX0_154 dX0_negation_9 ?_
      obtain ⟨x1, hx0, h⟩ := kbG_bind h
      refine r_invV_i cvX0_80 sh1 rfl (sp_BT_isNamed n 29 μ (by decide) hx0) rfl rfl (Nat.le_of_ble_eq_true rfl) (by omega) dX0_negation_11 ?_
      refine r_if_eq 27 dX0_negation_14 (by decide) (fun hc => ?_) (fun hc => ?_)
      · replace h := kbG_t hc h
        refine r_le [some (.ref 1), some (.int v1), some (.int v2), none] ⟨rfl, ⟨rfl, ⟨rfl, trivial⟩⟩⟩ ?_
        exact hx ((v2, μ)) (kbG_some h)
      · replace h := kbG_f hc h
        refine r_aload_n dX0_negation_17 rfl ?_
        obtain ⟨x2, hx0, h⟩ := kbG_bind h
        refine r_invV_v cvX0_55 sh1 rfl (sp_BT_advance n μ hx0) rfl rfl (Nat.le_of_ble_eq_true rfl) (by omega) dX0_negation_18 ?_
        refine r_iinc 1 dX0_negation_21 rfl (by decide) (Nat.le_of_ble_eq_true rfl) rfl ?_
        refine r_goto 2 dX0_negation_24 (by decide) ?_
        refine r_le [some (.ref 1), some (.int v1), some (.int (v2 + 1)), none] ⟨rfl, ⟨rfl, ⟨rfl, trivial⟩⟩⟩ ?_
        exact ih (v2 + 1) x2 h
def lp_BT_negation_49 (n : Nat) (re : Int32 → kbM → Option kbM) (v2 : Int32) : Nat → Int32 → kbM → Option (kbM)
  | 0, _, _ => none
  | k + 1, v3, μ =>
    if v2 ≤ v3 then
      some μ
    else
      (f_BT_emit (-7) μ).bind fun x6 =>
      lp_BT_negation_49 n re v2 k (v3 + 1) x6
theorem lpR_BT_negation_49 {l : Launch} (n : Nat) {d0 : Nat} {re : Int32 → kbM → Option kbM} (hre : ∀ (l : Launch) (a : Int32) (μ x : kbM), re a μ = some x → kbS l MX0_expr d0 [.ref 1, .int a] μ (kbQe none x)) (v2 : Int32)  {Q : kbQt} {P : kbM → Prop} (hx : ∀ z : kbM, P (z) → kbR l MX0_negation (d0 + 11) Q 66 [none, none, none, none] [] z) : ∀ (k : Nat) (v3 : Int32) (μ : kbM), kbG (lp_BT_negation_49 n re v2 k v3 μ) P → kbR l MX0_negation (d0 + 11) Q 49 [some (.ref 1), none, some (.int v2), some (.int v3)] [] μ := by
  intro k
  induction k with
  | zero => intro v3 μ h; exact absurd h kbG_none
  | succ k ih =>
    intro v3 μ h
    unfold lp_BT_negation_49 at h
    refine r_iload_n dX0_negation_49 rfl ?_
    refine r_iload_n dX0_negation_50 rfl ?_
    refine r_icmp_ge 66 dX0_negation_51 (by decide) (fun hc => ?_) (fun hc => ?_)
    · replace h := kbG_t hc h
      refine r_le [none, none, none, none] trivial ?_
      exact hx μ (kbG_some h)
    · replace h := kbG_f hc h
      refine r_aload_n dX0_negation_54 rfl ?_
      refine r_bipush (-7) dX0_negation_55 (by decide) ?_
      obtain ⟨x6, hx0, h⟩ := kbG_bind h
      refine r_invV_v cvX0_146 sh1 rfl (sp_BT_emit (-7) μ hx0) rfl rfl (Nat.le_of_ble_eq_true rfl) (by omega) dX0_negation_57 ?_
      refine r_iinc 1 dX0_negation_60 rfl (by decide) (Nat.le_of_ble_eq_true rfl) rfl ?_
      refine r_goto 49 dX0_negation_63 (by decide) ?_
      refine r_le [some (.ref 1), none, some (.int v2), some (.int (v3 + 1))] ⟨rfl, ⟨rfl, ⟨rfl, trivial⟩⟩⟩ ?_
      exact ih (v3 + 1) x6 h
def jn_BT_negation_42 (n : Nat) (re : Int32 → kbM → Option kbM) (v1 : Int32) (v2 : Int32) (μ : kbM) : Option (kbM) :=
  (f_BT_comparison n re v1 μ).bind fun x5 =>
  (lp_BT_negation_49 n re v2 n 0 x5).bind fun x7 =>
  some x7
theorem jnR_BT_negation_42 {l : Launch} (n : Nat) {d0 : Nat} {re : Int32 → kbM → Option kbM} (hre : ∀ (l : Launch) (a : Int32) (μ x : kbM), re a μ = some x → kbS l MX0_expr d0 [.ref 1, .int a] μ (kbQe none x))   (v1 : Int32) (v2 : Int32) (μ : kbM) {Q : kbQt} {P : kbM → Prop} (hr : ∀ z : kbM, P z → Q none z) (h : kbG (jn_BT_negation_42 n re v1 v2 μ) P) : kbR l MX0_negation (d0 + 11) Q 42 [some (.ref 1), some (.int v1), some (.int v2), none] [] μ := by
  unfold jn_BT_negation_42 at h
  refine r_aload_n dX0_negation_42 rfl ?_
  refine r_iload_n dX0_negation_43 rfl ?_
  obtain ⟨x5, hx0, h⟩ := kbG_bind h
  refine r_invV_v cvX0_156 sh1 rfl (sp_BT_comparison n hre v1 μ hx0) rfl rfl (Nat.le_of_ble_eq_true rfl) (by omega) dX0_negation_44 ?_
  refine r_iconst 0 dX0_negation_47 (by decide) ?_
  refine r_istore_n dX0_negation_48 (Nat.le_of_ble_eq_true rfl) rfl ?_
  refine r_le [some (.ref 1), none, some (.int v2), some (.int 0)] ⟨rfl, ⟨rfl, ⟨rfl, trivial⟩⟩⟩ ?_
  obtain ⟨x7, hx0, h⟩ := kbG_bind h
  refine lpR_BT_negation_49 n hre v2 (P := fun z => x7 = z) (hx := fun z e => ?_) n _ _ ⟨_, hx0, rfl⟩
  subst e
  exact r_vret rfl dX0_negation_66 (hr x7 (kbG_some h))
def jn_BT_negation_27 (n : Nat) (re : Int32 → kbM → Option kbM) (v1 : Int32) (v2 : Int32) (μ : kbM) : Option (kbM) :=
  (f_BT_isNamed n 29 μ).bind fun x4 =>
  if x4 = 0 then
    jn_BT_negation_42 n re v1 v2 μ
  else
    (f_BT_fail 2 μ).bind fun x8 =>
    jn_BT_negation_42 n re v1 v2 x8.2
theorem jnR_BT_negation_27 {l : Launch} (n : Nat) {d0 : Nat} {re : Int32 → kbM → Option kbM} (hre : ∀ (l : Launch) (a : Int32) (μ x : kbM), re a μ = some x → kbS l MX0_expr d0 [.ref 1, .int a] μ (kbQe none x))   (v1 : Int32) (v2 : Int32) (μ : kbM) {Q : kbQt} {P : kbM → Prop} (hr : ∀ z : kbM, P z → Q none z) (h : kbG (jn_BT_negation_27 n re v1 v2 μ) P) : kbR l MX0_negation (d0 + 11) Q 27 [some (.ref 1), some (.int v1), some (.int v2), none] [] μ := by
  unfold jn_BT_negation_27 at h
  refine r_aload_n dX0_negation_27 rfl ?_
  refine r_ldcS lsX0_154 dX0_negation_28 ?_
  obtain ⟨x4, hx0, h⟩ := kbG_bind h
  refine r_invV_i cvX0_80 sh1 rfl (sp_BT_isNamed n 29 μ (by decide) hx0) rfl rfl (Nat.le_of_ble_eq_true rfl) (by omega) dX0_negation_30 ?_
  refine r_if_eq 42 dX0_negation_33 (by decide) (fun hc => ?_) (fun hc => ?_)
  · replace h := kbG_t hc h
    refine r_le [some (.ref 1), some (.int v1), some (.int v2), none] ⟨rfl, ⟨rfl, ⟨rfl, trivial⟩⟩⟩ ?_
    exact jnR_BT_negation_42 n hre v1 v2 μ (hr := hr) h
  · replace h := kbG_f hc h
    refine r_aload_n dX0_negation_36 rfl ?_
    refine r_iconst 2 dX0_negation_37 (by decide) ?_
    obtain ⟨x8, hx0, h⟩ := kbG_bind h
    refine r_invV_i cvX0_87 sh1 rfl (sp_BT_fail 2 μ hx0) rfl rfl (Nat.le_of_ble_eq_true rfl) (by omega) dX0_negation_38 ?_
    refine r_pop dX0_negation_41 rfl ?_
    refine r_le [some (.ref 1), some (.int v1), some (.int v2), none] ⟨rfl, ⟨rfl, ⟨rfl, trivial⟩⟩⟩ ?_
    exact jnR_BT_negation_42 n hre v1 v2 x8.2 (hr := hr) h
def f_BT_negation (n : Nat) (re : Int32 → kbM → Option kbM) (a1 : Int32) (μ : kbM) : Option (kbM) :=
  (lp_BT_negation_2 n re a1 n 0 μ).bind fun x3 =>
  jn_BT_negation_27 n re a1 x3.1 x3.2
theorem sp_BT_negation {l : Launch} (n : Nat) {d0 : Nat} {re : Int32 → kbM → Option kbM} (hre : ∀ (l : Launch) (a : Int32) (μ x : kbM), re a μ = some x → kbS l MX0_expr d0 [.ref 1, .int a] μ (kbQe none x)) (a1 : Int32) (μ : kbM)  {x : kbM} (h : f_BT_negation n re a1 μ = some x) : kbS l MX0_negation (d0 + 11) [.ref 1, .int a1] μ (kbQe none x) := by
  refine kb_enter 2 rfl rfl ?_
  suffices H : ∀ (Q : kbQt) (P : kbM → Prop), (∀ z : kbM, P z → Q none z) → kbG (f_BT_negation n re a1 μ) P → kbR l MX0_negation (d0 + 11) Q 0 [some (.ref 1), some (.int a1), none, none] [] μ from H _ (fun z => z = x) (fun z e => by subst e; exact ⟨rfl, rfl⟩) ⟨x, h, rfl⟩
  clear h
  intro Q P hr h
  unfold f_BT_negation at h
  refine r_iconst 0 dX0_negation_0 (by decide) ?_
  refine r_istore_n dX0_negation_1 (Nat.le_of_ble_eq_true rfl) rfl ?_
  refine r_le [some (.ref 1), some (.int a1), some (.int 0), none] ⟨rfl, ⟨rfl, ⟨rfl, trivial⟩⟩⟩ ?_
  obtain ⟨x3, hx0, h⟩ := kbG_bind h
  refine lpR_BT_negation_2 n hre a1 (P := fun z => x3 = z) (hx := fun z e => ?_) n _ _ ⟨_, hx0, rfl⟩
  subst e
  refine r_le [some (.ref 1), some (.int a1), some (.int x3.1), none] ⟨rfl, ⟨rfl, ⟨rfl, trivial⟩⟩⟩ ?_
  exact jnR_BT_negation_27 n hre a1 x3.1 x3.2 (hr := hr) h
def lp_BT_conjunction_7 (n : Nat) (re : Int32 → kbM → Option kbM) (v1 : Int32) : Nat → Int32 → kbM → Option (kbM)
  | 0, _, _ => none
  | k + 1, v2, μ =>
    if 600 ≤ v2 then
      some μ
    else
      (f_BT_isNamed n 28 μ).bind fun x2 =>
      if x2 = 0 then
        some μ
      else
        (f_BT_advance n μ).bind fun x3 =>
        (f_BT_negation n re v1 x3).bind fun x4 =>
        (f_BT_emit (-9) x4).bind fun x5 =>
        lp_BT_conjunction_7 n re v1 k (v2 + 1) x5
theorem lpR_BT_conjunction_7 {l : Launch} (n : Nat) {d0 : Nat} {re : Int32 → kbM → Option kbM} (hre : ∀ (l : Launch) (a : Int32) (μ x : kbM), re a μ = some x → kbS l MX0_expr d0 [.ref 1, .int a] μ (kbQe none x)) (v1 : Int32)  {Q : kbQt} {P : kbM → Prop} (hx : ∀ z : kbM, P (z) → kbR l MX0_conjunction (d0 + 12) Q 44 [none, none, none] [] z) : ∀ (k : Nat) (v2 : Int32) (μ : kbM), kbG (lp_BT_conjunction_7 n re v1 k v2 μ) P → kbR l MX0_conjunction (d0 + 12) Q 7 [some (.ref 1), some (.int v1), some (.int v2)] [] μ := by
  intro k
  induction k with
  | zero => intro v2 μ h; exact absurd h kbG_none
  | succ k ih =>
    intro v2 μ h
    unfold lp_BT_conjunction_7 at h
    refine r_iload_n dX0_conjunction_7 rfl ?_
    refine r_sipush 600 dX0_conjunction_8 (by decide) ?_
    refine r_icmp_ge 44 dX0_conjunction_11 (by decide) (fun hc => ?_) (fun hc => ?_)
    · replace h := kbG_t hc h
      refine r_le [none, none, none] trivial ?_
      exact hx μ (kbG_some h)
    · replace h := kbG_f hc h
      refine r_aload_n dX0_conjunction_14 rfl ?_
      refine r_ldcS lsX0_152 dX0_conjunction_15 ?_
      obtain ⟨x2, hx0, h⟩ := kbG_bind h
      refine r_invV_i cvX0_80 sh1 rfl (sp_BT_isNamed n 28 μ (by decide) hx0) rfl rfl (Nat.le_of_ble_eq_true rfl) (by omega) dX0_conjunction_17 ?_
      refine r_if_eq 44 dX0_conjunction_20 (by decide) (fun hc => ?_) (fun hc => ?_)
      · replace h := kbG_t hc h
        refine r_le [none, none, none] trivial ?_
        exact hx μ (kbG_some h)
      · replace h := kbG_f hc h
        refine r_aload_n dX0_conjunction_23 rfl ?_
        obtain ⟨x3, hx0, h⟩ := kbG_bind h
        refine r_invV_v cvX0_55 sh1 rfl (sp_BT_advance n μ hx0) rfl rfl (Nat.le_of_ble_eq_true rfl) (by omega) dX0_conjunction_24 ?_
        refine r_aload_n dX0_conjunction_27 rfl ?_
        refine r_iload_n dX0_conjunction_28 rfl ?_
        obtain ⟨x4, hx0, h⟩ := kbG_bind h
        refine r_invV_v cvX0_149 sh1 rfl (sp_BT_negation n hre v1 x3 hx0) rfl rfl (Nat.le_of_ble_eq_true rfl) (by omega) dX0_conjunction_29 ?_
        refine r_aload_n dX0_conjunction_32 rfl ?_
        refine r_bipush (-9) dX0_conjunction_33 (by decide) ?_
        obtain ⟨x5, hx0, h⟩ := kbG_bind h
        refine r_invV_v cvX0_146 sh1 rfl (sp_BT_emit (-9) x4 hx0) rfl rfl (Nat.le_of_ble_eq_true rfl) (by omega) dX0_conjunction_35 ?_
        refine r_iinc 1 dX0_conjunction_38 rfl (by decide) (Nat.le_of_ble_eq_true rfl) rfl ?_
        refine r_goto 7 dX0_conjunction_41 (by decide) ?_
        refine r_le [some (.ref 1), some (.int v1), some (.int (v2 + 1))] ⟨rfl, ⟨rfl, ⟨rfl, trivial⟩⟩⟩ ?_
        exact ih (v2 + 1) x5 h
def jn_BT_conjunction_44 (n : Nat) (re : Int32 → kbM → Option kbM) (μ : kbM) : Option (kbM) :=
  some μ
theorem jnR_BT_conjunction_44 {l : Launch} (n : Nat) {d0 : Nat} {re : Int32 → kbM → Option kbM} (hre : ∀ (l : Launch) (a : Int32) (μ x : kbM), re a μ = some x → kbS l MX0_expr d0 [.ref 1, .int a] μ (kbQe none x))    (μ : kbM) {Q : kbQt} {P : kbM → Prop} (hr : ∀ z : kbM, P z → Q none z) (h : kbG (jn_BT_conjunction_44 n re μ) P) : kbR l MX0_conjunction (d0 + 12) Q 44 [none, none, none] [] μ := by
  unfold jn_BT_conjunction_44 at h
  exact r_vret rfl dX0_conjunction_44 (hr μ (kbG_some h))
def f_BT_conjunction (n : Nat) (re : Int32 → kbM → Option kbM) (a1 : Int32) (μ : kbM) : Option (kbM) :=
  (f_BT_negation n re a1 μ).bind fun x1 =>
  (lp_BT_conjunction_7 n re a1 n 0 x1).bind fun x6 =>
  jn_BT_conjunction_44 n re x6
theorem sp_BT_conjunction {l : Launch} (n : Nat) {d0 : Nat} {re : Int32 → kbM → Option kbM} (hre : ∀ (l : Launch) (a : Int32) (μ x : kbM), re a μ = some x → kbS l MX0_expr d0 [.ref 1, .int a] μ (kbQe none x)) (a1 : Int32) (μ : kbM)  {x : kbM} (h : f_BT_conjunction n re a1 μ = some x) : kbS l MX0_conjunction (d0 + 12) [.ref 1, .int a1] μ (kbQe none x) := by
  refine kb_enter 1 rfl rfl ?_
  suffices H : ∀ (Q : kbQt) (P : kbM → Prop), (∀ z : kbM, P z → Q none z) → kbG (f_BT_conjunction n re a1 μ) P → kbR l MX0_conjunction (d0 + 12) Q 0 [some (.ref 1), some (.int a1), none] [] μ from H _ (fun z => z = x) (fun z e => by subst e; exact ⟨rfl, rfl⟩) ⟨x, h, rfl⟩
  clear h
  intro Q P hr h
  unfold f_BT_conjunction at h
  refine r_aload_n dX0_conjunction_0 rfl ?_
  refine r_iload_n dX0_conjunction_1 rfl ?_
  obtain ⟨x1, hx0, h⟩ := kbG_bind h
  refine r_invV_v cvX0_149 sh1 rfl (sp_BT_negation n hre a1 μ hx0) rfl rfl (Nat.le_of_ble_eq_true rfl) (by omega) dX0_conjunction_2 ?_
  refine r_iconst 0 dX0_conjunction_5 (by decide) ?_
  refine r_istore_n dX0_conjunction_6 (Nat.le_of_ble_eq_true rfl) rfl ?_
  refine r_le [some (.ref 1), some (.int a1), some (.int 0)] ⟨rfl, ⟨rfl, ⟨rfl, trivial⟩⟩⟩ ?_
  obtain ⟨x6, hx0, h⟩ := kbG_bind h
  refine lpR_BT_conjunction_7 n hre a1 (P := fun z => x6 = z) (hx := fun z e => ?_) n _ _ ⟨_, hx0, rfl⟩
  subst e
  refine r_le [none, none, none] trivial ?_
  exact jnR_BT_conjunction_44 n hre  x6 (hr := hr) h
def lp_BT_expr_44 (n : Nat) (re : Int32 → kbM → Option kbM) (v1 : Int32) : Nat → Int32 → kbM → Option (kbM)
  | 0, _, _ => none
  | k + 1, v2, μ =>
    if 600 ≤ v2 then
      some μ
    else
      (f_BT_isNamed n 27 μ).bind fun x2 =>
      if x2 = 0 then
        some μ
      else
        (f_BT_advance n μ).bind fun x3 =>
        (f_BT_conjunction n re v1 x3).bind fun x4 =>
        (f_BT_emit (-8) x4).bind fun x5 =>
        lp_BT_expr_44 n re v1 k (v2 + 1) x5
theorem lpR_BT_expr_44 {l : Launch} (n : Nat) {d0 : Nat} {re : Int32 → kbM → Option kbM} (hre : ∀ (l : Launch) (a : Int32) (μ x : kbM), re a μ = some x → kbS l MX0_expr d0 [.ref 1, .int a] μ (kbQe none x)) (v1 : Int32)  {Q : kbQt} {P : kbM → Prop} (hx : ∀ z : kbM, P (z) → kbR l MX0_expr (d0 + 13) Q 81 [none, none, none] [] z) : ∀ (k : Nat) (v2 : Int32) (μ : kbM), kbG (lp_BT_expr_44 n re v1 k v2 μ) P → kbR l MX0_expr (d0 + 13) Q 44 [some (.ref 1), some (.int v1), some (.int v2)] [] μ := by
  intro k
  induction k with
  | zero => intro v2 μ h; exact absurd h kbG_none
  | succ k ih =>
    intro v2 μ h
    unfold lp_BT_expr_44 at h
    refine r_iload_n dX0_expr_44 rfl ?_
    refine r_sipush 600 dX0_expr_45 (by decide) ?_
    refine r_icmp_ge 81 dX0_expr_48 (by decide) (fun hc => ?_) (fun hc => ?_)
    · replace h := kbG_t hc h
      refine r_le [none, none, none] trivial ?_
      exact hx μ (kbG_some h)
    · replace h := kbG_f hc h
      refine r_aload_n dX0_expr_51 rfl ?_
      refine r_ldcS lsX0_142 dX0_expr_52 ?_
      obtain ⟨x2, hx0, h⟩ := kbG_bind h
      refine r_invV_i cvX0_80 sh1 rfl (sp_BT_isNamed n 27 μ (by decide) hx0) rfl rfl (Nat.le_of_ble_eq_true rfl) (by omega) dX0_expr_54 ?_
      refine r_if_eq 81 dX0_expr_57 (by decide) (fun hc => ?_) (fun hc => ?_)
      · replace h := kbG_t hc h
        refine r_le [none, none, none] trivial ?_
        exact hx μ (kbG_some h)
      · replace h := kbG_f hc h
        refine r_aload_n dX0_expr_60 rfl ?_
        obtain ⟨x3, hx0, h⟩ := kbG_bind h
        refine r_invV_v cvX0_55 sh1 rfl (sp_BT_advance n μ hx0) rfl rfl (Nat.le_of_ble_eq_true rfl) (by omega) dX0_expr_61 ?_
        refine r_aload_n dX0_expr_64 rfl ?_
        refine r_iload_n dX0_expr_65 rfl ?_
        obtain ⟨x4, hx0, h⟩ := kbG_bind h
        refine r_invV_v cvX0_139 sh1 rfl (sp_BT_conjunction n hre v1 x3 hx0) rfl rfl (Nat.le_of_ble_eq_true rfl) (by omega) dX0_expr_66 ?_
        refine r_aload_n dX0_expr_69 rfl ?_
        refine r_bipush (-8) dX0_expr_70 (by decide) ?_
        obtain ⟨x5, hx0, h⟩ := kbG_bind h
        refine r_invV_v cvX0_146 sh1 rfl (sp_BT_emit (-8) x4 hx0) rfl rfl (Nat.le_of_ble_eq_true rfl) (by omega) dX0_expr_72 ?_
        refine r_iinc 1 dX0_expr_75 rfl (by decide) (Nat.le_of_ble_eq_true rfl) rfl ?_
        refine r_goto 44 dX0_expr_78 (by decide) ?_
        refine r_le [some (.ref 1), some (.int v1), some (.int (v2 + 1))] ⟨rfl, ⟨rfl, ⟨rfl, trivial⟩⟩⟩ ?_
        exact ih (v2 + 1) x5 h
def jn_BT_expr_81 (n : Nat) (re : Int32 → kbM → Option kbM) (μ : kbM) : Option (kbM) :=
  some μ
theorem jnR_BT_expr_81 {l : Launch} (n : Nat) {d0 : Nat} {re : Int32 → kbM → Option kbM} (hre : ∀ (l : Launch) (a : Int32) (μ x : kbM), re a μ = some x → kbS l MX0_expr d0 [.ref 1, .int a] μ (kbQe none x))    (μ : kbM) {Q : kbQt} {P : kbM → Prop} (hr : ∀ z : kbM, P z → Q none z) (h : kbG (jn_BT_expr_81 n re μ) P) : kbR l MX0_expr (d0 + 13) Q 81 [none, none, none] [] μ := by
  unfold jn_BT_expr_81 at h
  exact r_vret rfl dX0_expr_81 (hr μ (kbG_some h))
def jn_BT_expr_37 (n : Nat) (re : Int32 → kbM → Option kbM) (v1 : Int32) (μ : kbM) : Option (kbM) :=
  (f_BT_conjunction n re v1 μ).bind fun x1 =>
  (lp_BT_expr_44 n re v1 n 0 x1).bind fun x6 =>
  jn_BT_expr_81 n re x6
theorem jnR_BT_expr_37 {l : Launch} (n : Nat) {d0 : Nat} {re : Int32 → kbM → Option kbM} (hre : ∀ (l : Launch) (a : Int32) (μ x : kbM), re a μ = some x → kbS l MX0_expr d0 [.ref 1, .int a] μ (kbQe none x))   (v1 : Int32) (μ : kbM) {Q : kbQt} {P : kbM → Prop} (hr : ∀ z : kbM, P z → Q none z) (h : kbG (jn_BT_expr_37 n re v1 μ) P) : kbR l MX0_expr (d0 + 13) Q 37 [some (.ref 1), some (.int v1), none] [] μ := by
  unfold jn_BT_expr_37 at h
  refine r_aload_n dX0_expr_37 rfl ?_
  refine r_iload_n dX0_expr_38 rfl ?_
  obtain ⟨x1, hx0, h⟩ := kbG_bind h
  refine r_invV_v cvX0_139 sh1 rfl (sp_BT_conjunction n hre v1 μ hx0) rfl rfl (Nat.le_of_ble_eq_true rfl) (by omega) dX0_expr_39 ?_
  refine r_iconst 0 dX0_expr_42 (by decide) ?_
  refine r_istore_n dX0_expr_43 (Nat.le_of_ble_eq_true rfl) rfl ?_
  refine r_le [some (.ref 1), some (.int v1), some (.int 0)] ⟨rfl, ⟨rfl, ⟨rfl, trivial⟩⟩⟩ ?_
  obtain ⟨x6, hx0, h⟩ := kbG_bind h
  refine lpR_BT_expr_44 n hre v1 (P := fun z => x6 = z) (hx := fun z e => ?_) n _ _ ⟨_, hx0, rfl⟩
  subst e
  refine r_le [none, none, none] trivial ?_
  exact jnR_BT_expr_81 n hre  x6 (hr := hr) h
def jn_BT_expr_31 (n : Nat) (re : Int32 → kbM → Option kbM) (v1 : Int32) (μ : kbM) : Option (kbM) :=
  (f_BT_fail 2 μ).bind fun x7 =>
  jn_BT_expr_37 n re v1 x7.2
theorem jnR_BT_expr_31 {l : Launch} (n : Nat) {d0 : Nat} {re : Int32 → kbM → Option kbM} (hre : ∀ (l : Launch) (a : Int32) (μ x : kbM), re a μ = some x → kbS l MX0_expr d0 [.ref 1, .int a] μ (kbQe none x))   (v1 : Int32) (μ : kbM) {Q : kbQt} {P : kbM → Prop} (hr : ∀ z : kbM, P z → Q none z) (h : kbG (jn_BT_expr_31 n re v1 μ) P) : kbR l MX0_expr (d0 + 13) Q 31 [some (.ref 1), some (.int v1), none] [] μ := by
  unfold jn_BT_expr_31 at h
  refine r_aload_n dX0_expr_31 rfl ?_
  refine r_iconst 2 dX0_expr_32 (by decide) ?_
  obtain ⟨x7, hx0, h⟩ := kbG_bind h
  refine r_invV_i cvX0_87 sh1 rfl (sp_BT_fail 2 μ hx0) rfl rfl (Nat.le_of_ble_eq_true rfl) (by omega) dX0_expr_33 ?_
  refine r_pop dX0_expr_36 rfl ?_
  refine r_le [some (.ref 1), some (.int v1), none] ⟨rfl, ⟨rfl, trivial⟩⟩ ?_
  exact jnR_BT_expr_37 n hre v1 x7.2 (hr := hr) h
def f_BT_expr (n : Nat) (re : Int32 → kbM → Option kbM) (a1 : Int32) (μ : kbM) : Option (kbM) :=
  if a1 < 6 then
    jn_BT_expr_37 n re a1 μ
  else
    if (μ.1 1 7) = 2 then
      jn_BT_expr_31 n re a1 μ
    else
      if (μ.1 1 7) = 1 then
        jn_BT_expr_31 n re a1 μ
      else
        if (μ.1 1 7) = 40 then
          jn_BT_expr_31 n re a1 μ
        else
          jn_BT_expr_37 n re a1 μ
theorem sp_BT_expr {l : Launch} (n : Nat) {d0 : Nat} {re : Int32 → kbM → Option kbM} (hre : ∀ (l : Launch) (a : Int32) (μ x : kbM), re a μ = some x → kbS l MX0_expr d0 [.ref 1, .int a] μ (kbQe none x)) (a1 : Int32) (μ : kbM)  {x : kbM} (h : f_BT_expr n re a1 μ = some x) : kbS l MX0_expr (d0 + 13) [.ref 1, .int a1] μ (kbQe none x) := by
  refine kb_enter 1 rfl rfl ?_
  suffices H : ∀ (Q : kbQt) (P : kbM → Prop), (∀ z : kbM, P z → Q none z) → kbG (f_BT_expr n re a1 μ) P → kbR l MX0_expr (d0 + 13) Q 0 [some (.ref 1), some (.int a1), none] [] μ from H _ (fun z => z = x) (fun z e => by subst e; exact ⟨rfl, rfl⟩) ⟨x, h, rfl⟩
  clear h
  intro Q P hr h
  unfold f_BT_expr at h
  refine r_iload_n dX0_expr_0 rfl ?_
  refine r_bipush 6 dX0_expr_1 (by decide) ?_
  refine r_icmp_lt 37 dX0_expr_3 (by decide) (fun hc => ?_) (fun hc => ?_)
  · replace h := kbG_t hc h
    refine r_le [some (.ref 1), some (.int a1), none] ⟨rfl, ⟨rfl, trivial⟩⟩ ?_
    exact jnR_BT_expr_37 n hre a1 μ (hr := hr) h
  · replace h := kbG_f hc h
    refine r_aload_n dX0_expr_6 rfl ?_
    refine r_getI flX0_58 sh1 rfl dX0_expr_7 ?_
    refine r_iconst 2 dX0_expr_10 (by decide) ?_
    refine r_icmp_eq 31 dX0_expr_11 (by decide) (fun hc => ?_) (fun hc => ?_)
    · replace h := kbG_t hc h
      refine r_le [some (.ref 1), some (.int a1), none] ⟨rfl, ⟨rfl, trivial⟩⟩ ?_
      exact jnR_BT_expr_31 n hre a1 μ (hr := hr) h
    · replace h := kbG_f hc h
      refine r_aload_n dX0_expr_14 rfl ?_
      refine r_getI flX0_58 sh1 rfl dX0_expr_15 ?_
      refine r_iconst 1 dX0_expr_18 (by decide) ?_
      refine r_icmp_eq 31 dX0_expr_19 (by decide) (fun hc => ?_) (fun hc => ?_)
      · replace h := kbG_t hc h
        refine r_le [some (.ref 1), some (.int a1), none] ⟨rfl, ⟨rfl, trivial⟩⟩ ?_
        exact jnR_BT_expr_31 n hre a1 μ (hr := hr) h
      · replace h := kbG_f hc h
        refine r_aload_n dX0_expr_22 rfl ?_
        refine r_getI flX0_58 sh1 rfl dX0_expr_23 ?_
        refine r_bipush 40 dX0_expr_26 (by decide) ?_
        refine r_icmp_ne 37 dX0_expr_28 (by decide) (fun hc => ?_) (fun hc => ?_)
        · replace h := kbG_f hc h
          refine r_le [some (.ref 1), some (.int a1), none] ⟨rfl, ⟨rfl, trivial⟩⟩ ?_
          exact jnR_BT_expr_37 n hre a1 μ (hr := hr) h
        · replace h := kbG_t hc h
          refine r_le [some (.ref 1), some (.int a1), none] ⟨rfl, ⟨rfl, trivial⟩⟩ ?_
          exact jnR_BT_expr_31 n hre a1 μ (hr := hr) h
def F_BT_expr (n : Nat) : Nat → Int32 → kbM → Option kbM
  | 0, _, _ => none
  | k + 1, a, μ => f_BT_expr n (F_BT_expr n k) a μ
theorem SP_BT_expr {l : Launch} (n : Nat) : ∀ (k : Nat) (a : Int32) (μ : kbM) {x : kbM}, F_BT_expr n k a μ = some x → kbS l MX0_expr (13 * k) [.ref 1, .int a] μ (kbQe none x) := by
  intro k
  induction k generalizing l with
  | zero => intro a μ x h; cases h
  | succ k ih =>
    intro a μ x h
    have := sp_BT_expr (l := l) (d0 := 13 * k) n (re := F_BT_expr n k) (fun l a μ x h => ih a μ h) a μ h
    rw [Nat.mul_succ]
    exact this
def jn_BT_joinsLine_13 (n : Nat) (μ : kbM) : Option (kbM) :=
  (f_BT_advance n μ).bind fun x1 =>
  (F_BT_expr n 8 0 x1).bind fun x2 =>
  some x2
theorem jnR_BT_joinsLine_13 {l : Launch} (n : Nat)    (μ : kbM) {Q : kbQt} {P : kbM → Prop} (hr : ∀ z : kbM, P z → Q none z) (h : kbG (jn_BT_joinsLine_13 n μ) P) : kbR l MX0_joinsLine 105 Q 13 [some (.ref 1)] [] μ := by
  unfold jn_BT_joinsLine_13 at h
  refine r_aload_n dX0_joinsLine_13 rfl ?_
  obtain ⟨x1, hx0, h⟩ := kbG_bind h
  refine r_invV_v cvX0_55 sh1 rfl (sp_BT_advance n μ hx0) rfl rfl (Nat.le_of_ble_eq_true rfl) (Nat.le_of_ble_eq_true rfl) dX0_joinsLine_14 ?_
  refine r_aload_n dX0_joinsLine_17 rfl ?_
  refine r_iconst 0 dX0_joinsLine_18 (by decide) ?_
  obtain ⟨x2, hx0, h⟩ := kbG_bind h
  refine r_invV_v cvX0_112 sh1 rfl (SP_BT_expr n 8 0 x1 hx0) rfl rfl (Nat.le_of_ble_eq_true rfl) (Nat.le_of_ble_eq_true rfl) dX0_joinsLine_19 ?_
  exact r_vret rfl dX0_joinsLine_22 (hr x2 (kbG_some h))
def f_BT_joinsLine (n : Nat) (μ : kbM) : Option (kbM) :=
  if (μ.1 1 5) ≤ 0 then
    jn_BT_joinsLine_13 n μ
  else
    (f_BT_fail 5 μ).bind fun x3 =>
    jn_BT_joinsLine_13 n x3.2
theorem sp_BT_joinsLine {l : Launch} (n : Nat) (μ : kbM)  {x : kbM} (h : f_BT_joinsLine n μ = some x) : kbS l MX0_joinsLine 105 [.ref 1] μ (kbQe none x) := by
  refine kb_enter 0 rfl rfl ?_
  suffices H : ∀ (Q : kbQt) (P : kbM → Prop), (∀ z : kbM, P z → Q none z) → kbG (f_BT_joinsLine n μ) P → kbR l MX0_joinsLine 105 Q 0 [some (.ref 1)] [] μ from H _ (fun z => z = x) (fun z e => by subst e; exact ⟨rfl, rfl⟩) ⟨x, h, rfl⟩
  clear h
  intro Q P hr h
  unfold f_BT_joinsLine at h
  refine r_aload_n dX0_joinsLine_0 rfl ?_
  refine r_getI flX0_46 sh1 rfl dX0_joinsLine_1 ?_
  refine r_if_le 13 dX0_joinsLine_4 (by decide) (fun hc => ?_) (fun hc => ?_)
  · replace h := kbG_t hc h
    refine r_le [some (.ref 1)] ⟨rfl, trivial⟩ ?_
    exact jnR_BT_joinsLine_13 n  μ (hr := hr) h
  · replace h := kbG_f hc h
    refine r_aload_n dX0_joinsLine_7 rfl ?_
    refine r_iconst 5 dX0_joinsLine_8 (by decide) ?_
    obtain ⟨x3, hx0, h⟩ := kbG_bind h
    refine r_invV_i cvX0_87 sh1 rfl (sp_BT_fail 5 μ hx0) rfl rfl (Nat.le_of_ble_eq_true rfl) (Nat.le_of_ble_eq_true rfl) dX0_joinsLine_9 ?_
    refine r_pop dX0_joinsLine_12 rfl ?_
    refine r_le [some (.ref 1)] ⟨rfl, trivial⟩ ?_
    exact jnR_BT_joinsLine_13 n  x3.2 (hr := hr) h
def f_BT_soundNamed (a0 : Int32) : Option (Int32) :=
  if a0 = 107 then
    some 1
  else if a0 = 112 then
    some 2
  else if a0 = 114 then
    some 3
  else if a0 = 115 then
    some 4
  else
    some 0
theorem sp_BT_soundNamed {l : Launch} (a0 : Int32) (μ : kbM)  {x : Int32} (h : f_BT_soundNamed a0 = some x) : kbS l MX0_soundNamed 1 [.int a0] μ (kbQe (some (.int x)) μ) := by
  refine kb_enter 0 rfl rfl ?_
  suffices H : ∀ (Q : kbQt) (P : Int32 → Prop), (∀ z : Int32, P z → Q (some (.int z)) μ) → kbG (f_BT_soundNamed a0) P → kbR l MX0_soundNamed 1 Q 0 [some (.int a0)] [] μ from H _ (fun z => z = x) (fun z e => by subst e; exact ⟨rfl, rfl⟩) ⟨x, h, rfl⟩
  clear h
  intro Q P hr h
  unfold f_BT_soundNamed at h
  refine r_iload_n dX0_soundNamed_0 rfl ?_
  by_cases hc0 : a0 = 107
  · replace h := kbG_t hc0 h
    refine r_tabIn 52 dX0_soundNamed_1 (by rw [hc0]; decide) (by rw [hc0]; decide) (by rw [hc0]; rfl) (by decide) ?_
    refine r_iconst 1 dX0_soundNamed_52 (by decide) ?_
    exact r_iret rfl dX0_soundNamed_53 (hr 1 (kbG_some h))
  replace h := kbG_f hc0 h
  by_cases hc1 : a0 = 112
  · replace h := kbG_t hc1 h
    refine r_tabIn 54 dX0_soundNamed_1 (by rw [hc1]; decide) (by rw [hc1]; decide) (by rw [hc1]; rfl) (by decide) ?_
    refine r_iconst 2 dX0_soundNamed_54 (by decide) ?_
    exact r_iret rfl dX0_soundNamed_55 (hr 2 (kbG_some h))
  replace h := kbG_f hc1 h
  by_cases hc2 : a0 = 114
  · replace h := kbG_t hc2 h
    refine r_tabIn 56 dX0_soundNamed_1 (by rw [hc2]; decide) (by rw [hc2]; decide) (by rw [hc2]; rfl) (by decide) ?_
    refine r_iconst 3 dX0_soundNamed_56 (by decide) ?_
    exact r_iret rfl dX0_soundNamed_57 (hr 3 (kbG_some h))
  replace h := kbG_f hc2 h
  by_cases hc3 : a0 = 115
  · replace h := kbG_t hc3 h
    refine r_tabIn 58 dX0_soundNamed_1 (by rw [hc3]; decide) (by rw [hc3]; decide) (by rw [hc3]; rfl) (by decide) ?_
    refine r_iconst 4 dX0_soundNamed_58 (by decide) ?_
    exact r_iret rfl dX0_soundNamed_59 (hr 4 (kbG_some h))
  replace h := kbG_f hc3 h
  have hD : kbR l MX0_soundNamed 1 Q 60 [some (.int a0)] [] μ := by
    refine r_iconst 0 dX0_soundNamed_60 (by decide) ?_
    exact r_iret rfl dX0_soundNamed_61 (hr 0 (kbG_some h))
  by_cases hd4 : a0 = 108
  · exact r_tabIn 60 dX0_soundNamed_1 (by rw [hd4]; decide) (by rw [hd4]; decide) (by rw [hd4]; rfl) (by decide) hD
  by_cases hd5 : a0 = 109
  · exact r_tabIn 60 dX0_soundNamed_1 (by rw [hd5]; decide) (by rw [hd5]; decide) (by rw [hd5]; rfl) (by decide) hD
  by_cases hd6 : a0 = 110
  · exact r_tabIn 60 dX0_soundNamed_1 (by rw [hd6]; decide) (by rw [hd6]; decide) (by rw [hd6]; rfl) (by decide) hD
  by_cases hd7 : a0 = 111
  · exact r_tabIn 60 dX0_soundNamed_1 (by rw [hd7]; decide) (by rw [hd7]; decide) (by rw [hd7]; rfl) (by decide) hD
  by_cases hd8 : a0 = 113
  · exact r_tabIn 60 dX0_soundNamed_1 (by rw [hd8]; decide) (by rw [hd8]; decide) (by rw [hd8]; rfl) (by decide) hD
  exact r_tabOut 60 dX0_soundNamed_1 (kb_out fun q q1 q2 => by
    have hq : q = 107 ∨ q = 108 ∨ q = 109 ∨ q = 110 ∨ q = 111 ∨ q = 112 ∨ q = 113 ∨ q = 114 ∨ q = 115 := by omega
    rcases hq with rfl | rfl | rfl | rfl | rfl | rfl | rfl | rfl | rfl
    · exact hc0
    · exact hd4
    · exact hd5
    · exact hd6
    · exact hd7
    · exact hc1
    · exact hd8
    · exact hc2
    · exact hc3) (by decide) hD
def lp_BT_isOfSounds_21 (n : Nat) (μ : kbM) : Nat → Int32 → Option ((Int32 × kbM) ⊕ (Unit))
  | 0, _ => none
  | k + 1, v1 =>
    if (μ.1 1 9) ≤ v1 then
      some (.inr (()))
    else
      (f_BT_byteAt v1 μ).bind fun x1 =>
      (f_BT_soundNamed x1).bind fun x2 =>
      if x2 = 0 then
        (f_BT_fail 3 μ).bind fun x3 =>
        some (.inl ((0, x3.2)))
      else
        lp_BT_isOfSounds_21 n μ k (v1 + 1)
theorem lpR_BT_isOfSounds_21 {l : Launch} (n : Nat) (μ : kbM)  {Q : kbQt} {P : (Int32 × kbM) ⊕ (Unit) → Prop} (hr : ∀ z : Int32 × kbM, P (.inl z) → Q (some (.int z.1)) z.2) (hx : ∀ z : Unit, P (.inr z) → kbR l MX0_isOfSounds 2 Q 54 [none, none] [] μ) : ∀ (k : Nat) (v1 : Int32), kbG (lp_BT_isOfSounds_21 n μ k v1) P → kbR l MX0_isOfSounds 2 Q 21 [some (.ref 1), some (.int v1)] [] μ := by
  intro k
  induction k with
  | zero => intro v1 h; exact absurd h kbG_none
  | succ k ih =>
    intro v1 h
    unfold lp_BT_isOfSounds_21 at h
    refine r_iload_n dX0_isOfSounds_21 rfl ?_
    refine r_aload_n dX0_isOfSounds_22 rfl ?_
    refine r_getI flX0_49 sh1 rfl dX0_isOfSounds_23 ?_
    refine r_icmp_ge 54 dX0_isOfSounds_26 (by decide) (fun hc => ?_) (fun hc => ?_)
    · replace h := kbG_t hc h
      refine r_le [none, none] trivial ?_
      exact hx (()) (kbG_some h)
    · replace h := kbG_f hc h
      refine r_aload_n dX0_isOfSounds_29 rfl ?_
      refine r_iload_n dX0_isOfSounds_30 rfl ?_
      obtain ⟨x1, hx0, h⟩ := kbG_bind h
      refine r_invV_i cvX0_122 sh1 rfl (sp_BT_byteAt v1 μ hx0) rfl rfl (Nat.le_of_ble_eq_true rfl) (Nat.le_of_ble_eq_true rfl) dX0_isOfSounds_31 ?_
      obtain ⟨x2, hx0, h⟩ := kbG_bind h
      refine r_inv_i csX0_125 (sp_BT_soundNamed x1 μ hx0) rfl rfl (Nat.le_of_ble_eq_true rfl) (Nat.le_of_ble_eq_true rfl) dX0_isOfSounds_34 ?_
      refine r_if_ne 48 dX0_isOfSounds_37 (by decide) (fun hc => ?_) (fun hc => ?_)
      · replace h := kbG_f hc h
        refine r_iinc 1 dX0_isOfSounds_48 rfl (by decide) (Nat.le_of_ble_eq_true rfl) rfl ?_
        refine r_goto 21 dX0_isOfSounds_51 (by decide) ?_
        refine r_le [some (.ref 1), some (.int (v1 + 1))] ⟨rfl, ⟨rfl, trivial⟩⟩ ?_
        exact ih (v1 + 1) h
      · replace h := kbG_t hc h
        refine r_aload_n dX0_isOfSounds_40 rfl ?_
        refine r_iconst 3 dX0_isOfSounds_41 (by decide) ?_
        obtain ⟨x3, hx0, h⟩ := kbG_bind h
        refine r_invV_i cvX0_87 sh1 rfl (sp_BT_fail 3 μ hx0) rfl rfl (Nat.le_of_ble_eq_true rfl) (Nat.le_of_ble_eq_true rfl) dX0_isOfSounds_42 ?_
        refine r_pop dX0_isOfSounds_45 rfl ?_
        refine r_iconst 0 dX0_isOfSounds_46 (by decide) ?_
        exact r_zret rfl rfl dX0_isOfSounds_47 (hr ((0, x3.2)) (kbG_some h))
def f_BT_isOfSounds (n : Nat) (μ : kbM) : Option (Int32 × kbM) :=
  if (μ.1 1 7) = 1 then
    kbOr (lp_BT_isOfSounds_21 n μ n (μ.1 1 8)) (fun r5 => some r5) fun x4 =>
    some ((1, μ))
  else
    (f_BT_fail 1 μ).bind fun x6 =>
    some ((0, x6.2))
theorem sp_BT_isOfSounds {l : Launch} (n : Nat) (μ : kbM)  {x : Int32 × kbM} (h : f_BT_isOfSounds n μ = some x) : kbS l MX0_isOfSounds 2 [.ref 1] μ (kbQe (some (.int x.1)) x.2) := by
  refine kb_enter 1 rfl rfl ?_
  suffices H : ∀ (Q : kbQt) (P : Int32 × kbM → Prop), (∀ z : Int32 × kbM, P z → Q (some (.int z.1)) z.2) → kbG (f_BT_isOfSounds n μ) P → kbR l MX0_isOfSounds 2 Q 0 [some (.ref 1), none] [] μ from H _ (fun z => z = x) (fun z e => by subst e; exact ⟨rfl, rfl⟩) ⟨x, h, rfl⟩
  clear h
  intro Q P hr h
  unfold f_BT_isOfSounds at h
  refine r_aload_n dX0_isOfSounds_0 rfl ?_
  refine r_getI flX0_58 sh1 rfl dX0_isOfSounds_1 ?_
  refine r_iconst 1 dX0_isOfSounds_4 (by decide) ?_
  refine r_icmp_eq 16 dX0_isOfSounds_5 (by decide) (fun hc => ?_) (fun hc => ?_)
  · replace h := kbG_t hc h
    refine r_aload_n dX0_isOfSounds_16 rfl ?_
    refine r_getI flX0_119 sh1 rfl dX0_isOfSounds_17 ?_
    refine r_istore_n dX0_isOfSounds_20 (Nat.le_of_ble_eq_true rfl) rfl ?_
    refine r_le [some (.ref 1), some (.int (μ.1 1 8))] ⟨rfl, ⟨rfl, trivial⟩⟩ ?_
    rcases kbG_or h with ⟨r5, hx0, h⟩ | ⟨x4, hx0, h⟩
    · exact lpR_BT_isOfSounds_21 n μ (P := fun z => .inl r5 = z) (hr := fun z e => by cases e; exact hr _ (kbG_some h)) (hx := fun z e => by cases e) n _ ⟨_, hx0, rfl⟩
    · refine lpR_BT_isOfSounds_21 n μ (P := fun z => .inr x4 = z) (hr := fun z e => by cases e) (hx := fun z e => ?_) n _ ⟨_, hx0, rfl⟩
      cases e
      refine r_iconst 1 dX0_isOfSounds_54 (by decide) ?_
      exact r_zret rfl rfl dX0_isOfSounds_55 (hr ((1, μ)) (kbG_some h))
  · replace h := kbG_f hc h
    refine r_aload_n dX0_isOfSounds_8 rfl ?_
    refine r_iconst 1 dX0_isOfSounds_9 (by decide) ?_
    obtain ⟨x6, hx0, h⟩ := kbG_bind h
    refine r_invV_i cvX0_87 sh1 rfl (sp_BT_fail 1 μ hx0) rfl rfl (Nat.le_of_ble_eq_true rfl) (Nat.le_of_ble_eq_true rfl) dX0_isOfSounds_10 ?_
    refine r_pop dX0_isOfSounds_13 rfl ?_
    refine r_iconst 0 dX0_isOfSounds_14 (by decide) ?_
    exact r_zret rfl rfl dX0_isOfSounds_15 (hr ((0, x6.2)) (kbG_some h))
def lp_BT_handTold_16 (n : Nat) (μ : kbM) : Nat → Int32 → Int32 → Option ((Int32 × kbM) ⊕ (Int32))
  | 0, _, _ => none
  | k + 1, v1, v2 =>
    if (μ.1 1 9) ≤ v2 then
      some (.inr v1)
    else
      (f_BT_byteAt v2 μ).bind fun x2 =>
      (f_BT_soundNamed x2).bind fun x3 =>
      (f_RO_handBit x3).bind fun x4 =>
      if (v1 &&& x4) = 0 then
        lp_BT_handTold_16 n μ k (v1 ||| x4) (v2 + 1)
      else
        (f_BT_fail 4 μ).bind fun x5 =>
        some (.inl ((x5.1, x5.2)))
theorem lpR_BT_handTold_16 {l : Launch} (n : Nat) (μ : kbM)  {Q : kbQt} {P : (Int32 × kbM) ⊕ (Int32) → Prop} (hr : ∀ z : Int32 × kbM, P (.inl z) → Q (some (.int z.1)) z.2) (hx : ∀ z : Int32, P (.inr z) → kbR l MX0_handTold 3 Q 58 [none, some (.int z), none, none] [] μ) : ∀ (k : Nat) (v1 : Int32) (v2 : Int32), kbG (lp_BT_handTold_16 n μ k v1 v2) P → kbR l MX0_handTold 3 Q 16 [some (.ref 1), some (.int v1), some (.int v2), none] [] μ := by
  intro k
  induction k with
  | zero => intro v1 v2 h; exact absurd h kbG_none
  | succ k ih =>
    intro v1 v2 h
    unfold lp_BT_handTold_16 at h
    refine r_iload_n dX0_handTold_16 rfl ?_
    refine r_aload_n dX0_handTold_17 rfl ?_
    refine r_getI flX0_49 sh1 rfl dX0_handTold_18 ?_
    refine r_icmp_ge 58 dX0_handTold_21 (by decide) (fun hc => ?_) (fun hc => ?_)
    · replace h := kbG_t hc h
      refine r_le [none, some (.int v1), none, none] ⟨rfl, trivial⟩ ?_
      exact hx v1 (kbG_some h)
    · replace h := kbG_f hc h
      refine r_aload_n dX0_handTold_24 rfl ?_
      refine r_iload_n dX0_handTold_25 rfl ?_
      obtain ⟨x2, hx0, h⟩ := kbG_bind h
      refine r_invV_i cvX0_122 sh1 rfl (sp_BT_byteAt v2 μ hx0) rfl rfl (Nat.le_of_ble_eq_true rfl) (Nat.le_of_ble_eq_true rfl) dX0_handTold_26 ?_
      obtain ⟨x3, hx0, h⟩ := kbG_bind h
      refine r_inv_i csX0_125 (sp_BT_soundNamed x2 μ hx0) rfl rfl (Nat.le_of_ble_eq_true rfl) (Nat.le_of_ble_eq_true rfl) dX0_handTold_29 ?_
      obtain ⟨x4, hx0, h⟩ := kbG_bind h
      refine r_inv_i csX0_131 (sp_RO_handBit x3 μ hx0) rfl rfl (Nat.le_of_ble_eq_true rfl) (Nat.le_of_ble_eq_true rfl) dX0_handTold_32 ?_
      refine r_istore_n dX0_handTold_35 (Nat.le_of_ble_eq_true rfl) rfl ?_
      refine r_iload_n dX0_handTold_36 rfl ?_
      refine r_iload_n dX0_handTold_37 rfl ?_
      refine r_iand dX0_handTold_38 ?_
      refine r_if_eq 48 dX0_handTold_39 (by decide) (fun hc => ?_) (fun hc => ?_)
      · replace h := kbG_t hc h
        refine r_iload_n dX0_handTold_48 rfl ?_
        refine r_iload_n dX0_handTold_49 rfl ?_
        refine r_ior dX0_handTold_50 ?_
        refine r_istore_n dX0_handTold_51 (Nat.le_of_ble_eq_true rfl) rfl ?_
        refine r_iinc 1 dX0_handTold_52 rfl (by decide) (Nat.le_of_ble_eq_true rfl) rfl ?_
        refine r_goto 16 dX0_handTold_55 (by decide) ?_
        refine r_le [some (.ref 1), some (.int (v1 ||| x4)), some (.int (v2 + 1)), none] ⟨rfl, ⟨rfl, ⟨rfl, trivial⟩⟩⟩ ?_
        exact ih (v1 ||| x4) (v2 + 1) h
      · replace h := kbG_f hc h
        refine r_aload_n dX0_handTold_42 rfl ?_
        refine r_iconst 4 dX0_handTold_43 (by decide) ?_
        obtain ⟨x5, hx0, h⟩ := kbG_bind h
        refine r_invV_i cvX0_87 sh1 rfl (sp_BT_fail 4 μ hx0) rfl rfl (Nat.le_of_ble_eq_true rfl) (Nat.le_of_ble_eq_true rfl) dX0_handTold_44 ?_
        exact r_iret rfl dX0_handTold_47 (hr ((x5.1, x5.2)) (kbG_some h))
def f_BT_handTold (n : Nat) (μ : kbM) : Option (Int32 × kbM) :=
  (f_BT_isOfSounds n μ).bind fun x1 =>
  if x1.1 = 0 then
    some ((0, x1.2))
  else
    kbOr (lp_BT_handTold_16 n x1.2 n 0 (x1.2.1 1 8)) (fun r7 => some r7) fun x6 =>
    some ((x6, x1.2))
theorem sp_BT_handTold {l : Launch} (n : Nat) (μ : kbM)  {x : Int32 × kbM} (h : f_BT_handTold n μ = some x) : kbS l MX0_handTold 3 [.ref 1] μ (kbQe (some (.int x.1)) x.2) := by
  refine kb_enter 3 rfl rfl ?_
  suffices H : ∀ (Q : kbQt) (P : Int32 × kbM → Prop), (∀ z : Int32 × kbM, P z → Q (some (.int z.1)) z.2) → kbG (f_BT_handTold n μ) P → kbR l MX0_handTold 3 Q 0 [some (.ref 1), none, none, none] [] μ from H _ (fun z => z = x) (fun z e => by subst e; exact ⟨rfl, rfl⟩) ⟨x, h, rfl⟩
  clear h
  intro Q P hr h
  unfold f_BT_handTold at h
  refine r_aload_n dX0_handTold_0 rfl ?_
  obtain ⟨x1, hx0, h⟩ := kbG_bind h
  refine r_invV_i cvX0_115 sh1 rfl (sp_BT_isOfSounds n μ hx0) rfl rfl (Nat.le_of_ble_eq_true rfl) (Nat.le_of_ble_eq_true rfl) dX0_handTold_1 ?_
  refine r_if_ne 9 dX0_handTold_4 (by decide) (fun hc => ?_) (fun hc => ?_)
  · replace h := kbG_f hc h
    refine r_iconst 0 dX0_handTold_9 (by decide) ?_
    refine r_istore_n dX0_handTold_10 (Nat.le_of_ble_eq_true rfl) rfl ?_
    refine r_aload_n dX0_handTold_11 rfl ?_
    refine r_getI flX0_119 sh1 rfl dX0_handTold_12 ?_
    refine r_istore_n dX0_handTold_15 (Nat.le_of_ble_eq_true rfl) rfl ?_
    refine r_le [some (.ref 1), some (.int 0), some (.int (x1.2.1 1 8)), none] ⟨rfl, ⟨rfl, ⟨rfl, trivial⟩⟩⟩ ?_
    rcases kbG_or h with ⟨r7, hx0, h⟩ | ⟨x6, hx0, h⟩
    · exact lpR_BT_handTold_16 n x1.2 (P := fun z => .inl r7 = z) (hr := fun z e => by cases e; exact hr _ (kbG_some h)) (hx := fun z e => by cases e) n _ _ ⟨_, hx0, rfl⟩
    · refine lpR_BT_handTold_16 n x1.2 (P := fun z => .inr x6 = z) (hr := fun z e => by cases e) (hx := fun z e => ?_) n _ _ ⟨_, hx0, rfl⟩
      cases e
      refine r_iload_n dX0_handTold_58 rfl ?_
      exact r_iret rfl dX0_handTold_59 (hr ((x6, x1.2)) (kbG_some h))
  · replace h := kbG_t hc h
    refine r_iconst 0 dX0_handTold_7 (by decide) ?_
    exact r_iret rfl dX0_handTold_8 (hr ((0, x1.2)) (kbG_some h))
def jn_BT_doorLine_47 (n : Nat) (μ : kbM) : Option (kbM) :=
  some μ
theorem jnR_BT_doorLine_47 {l : Launch} (n : Nat)    (μ : kbM) {Q : kbQt} {P : kbM → Prop} (hr : ∀ z : kbM, P z → Q none z) (h : kbG (jn_BT_doorLine_47 n μ) P) : kbR l MX0_doorLine 6 Q 47 [none, none, none] [] μ := by
  unfold jn_BT_doorLine_47 at h
  exact r_vret rfl dX0_doorLine_47 (hr μ (kbG_some h))
def jn_BT_doorLine_18 (n : Nat) (v1 : Int32) (μ : kbM) : Option (kbM) :=
  (f_BT_advance n μ).bind fun x1 =>
  (f_BT_handTold n x1).bind fun x2 =>
  (f_BT_advance n x2.2).bind fun x3 =>
  if (x3.1 1 10) = 0 then
    (f_DO_add_8 v1 x2.1 x3).bind fun x4 =>
    jn_BT_doorLine_47 n x4
  else
    jn_BT_doorLine_47 n x3
theorem jnR_BT_doorLine_18 {l : Launch} (n : Nat)   (v1 : Int32) (μ : kbM) {Q : kbQt} {P : kbM → Prop} (hr : ∀ z : kbM, P z → Q none z) (h : kbG (jn_BT_doorLine_18 n v1 μ) P) : kbR l MX0_doorLine 6 Q 18 [some (.ref 1), some (.int v1), none] [] μ := by
  unfold jn_BT_doorLine_18 at h
  refine r_aload_n dX0_doorLine_18 rfl ?_
  obtain ⟨x1, hx0, h⟩ := kbG_bind h
  refine r_invV_v cvX0_55 sh1 rfl (sp_BT_advance n μ hx0) rfl rfl (Nat.le_of_ble_eq_true rfl) (Nat.le_of_ble_eq_true rfl) dX0_doorLine_19 ?_
  refine r_aload_n dX0_doorLine_22 rfl ?_
  obtain ⟨x2, hx0, h⟩ := kbG_bind h
  refine r_invV_i cvX0_105 sh1 rfl (sp_BT_handTold n x1 hx0) rfl rfl (Nat.le_of_ble_eq_true rfl) (Nat.le_of_ble_eq_true rfl) dX0_doorLine_23 ?_
  refine r_istore_n dX0_doorLine_26 (Nat.le_of_ble_eq_true rfl) rfl ?_
  refine r_aload_n dX0_doorLine_27 rfl ?_
  obtain ⟨x3, hx0, h⟩ := kbG_bind h
  refine r_invV_v cvX0_55 sh1 rfl (sp_BT_advance n x2.2 hx0) rfl rfl (Nat.le_of_ble_eq_true rfl) (Nat.le_of_ble_eq_true rfl) dX0_doorLine_28 ?_
  refine r_aload_n dX0_doorLine_31 rfl ?_
  refine r_getI flX0_52 sh1 rfl dX0_doorLine_32 ?_
  refine r_if_ne 47 dX0_doorLine_35 (by decide) (fun hc => ?_) (fun hc => ?_)
  · replace h := kbG_f hc h
    refine r_le [none, none, none] trivial ?_
    exact jnR_BT_doorLine_47 n  x3 (hr := hr) h
  · replace h := kbG_t hc h
    refine r_aload_n dX0_doorLine_38 rfl ?_
    refine r_getR flX0_25 sh1 rfl dX0_doorLine_39 ?_
    refine r_iload_n dX0_doorLine_42 rfl ?_
    refine r_iload_n dX0_doorLine_43 rfl ?_
    obtain ⟨x4, hx0, h⟩ := kbG_bind h
    refine r_invV_v cvX0_108 sh8 rfl (sp_DO_add_8 v1 x2.1 x3 hx0) rfl rfl (Nat.le_of_ble_eq_true rfl) (Nat.le_of_ble_eq_true rfl) dX0_doorLine_44 ?_
    refine r_le [none, none, none] trivial ?_
    exact jnR_BT_doorLine_47 n  x4 (hr := hr) h
def f_BT_doorLine (n : Nat) (a1 : Int32) (μ : kbM) : Option (kbM) :=
  if (μ.1 8 2) < 6 then
    jn_BT_doorLine_18 n a1 μ
  else
    (f_BT_fail 2 μ).bind fun x5 =>
    jn_BT_doorLine_18 n a1 x5.2
theorem sp_BT_doorLine {l : Launch} (n : Nat) (a1 : Int32) (μ : kbM)  {x : kbM} (h : f_BT_doorLine n a1 μ = some x) : kbS l MX0_doorLine 6 [.ref 1, .int a1] μ (kbQe none x) := by
  refine kb_enter 1 rfl rfl ?_
  suffices H : ∀ (Q : kbQt) (P : kbM → Prop), (∀ z : kbM, P z → Q none z) → kbG (f_BT_doorLine n a1 μ) P → kbR l MX0_doorLine 6 Q 0 [some (.ref 1), some (.int a1), none] [] μ from H _ (fun z => z = x) (fun z e => by subst e; exact ⟨rfl, rfl⟩) ⟨x, h, rfl⟩
  clear h
  intro Q P hr h
  unfold f_BT_doorLine at h
  refine r_aload_n dX0_doorLine_0 rfl ?_
  refine r_getR flX0_25 sh1 rfl dX0_doorLine_1 ?_
  refine r_getI flX0_45 sh8 rfl dX0_doorLine_4 ?_
  refine r_bipush 6 dX0_doorLine_7 (by decide) ?_
  refine r_icmp_lt 18 dX0_doorLine_9 (by decide) (fun hc => ?_) (fun hc => ?_)
  · replace h := kbG_t hc h
    refine r_le [some (.ref 1), some (.int a1), none] ⟨rfl, ⟨rfl, trivial⟩⟩ ?_
    exact jnR_BT_doorLine_18 n a1 μ (hr := hr) h
  · replace h := kbG_f hc h
    refine r_aload_n dX0_doorLine_12 rfl ?_
    refine r_iconst 2 dX0_doorLine_13 (by decide) ?_
    obtain ⟨x5, hx0, h⟩ := kbG_bind h
    refine r_invV_i cvX0_87 sh1 rfl (sp_BT_fail 2 μ hx0) rfl rfl (Nat.le_of_ble_eq_true rfl) (Nat.le_of_ble_eq_true rfl) dX0_doorLine_14 ?_
    refine r_pop dX0_doorLine_17 rfl ?_
    refine r_le [some (.ref 1), some (.int a1), none] ⟨rfl, ⟨rfl, trivial⟩⟩ ?_
    exact jnR_BT_doorLine_18 n a1 x5.2 (hr := hr) h
def lp_BT_rowTold_36 (n : Nat) (μ : kbM) : Nat → Int32 → Int32 → Option (Int32)
  | 0, _, _ => none
  | k + 1, v1, v2 =>
    if (μ.1 1 9) ≤ v2 then
      some v1
    else
      (f_BT_byteAt v2 μ).bind fun x2 =>
      (f_BT_soundNamed x2).bind fun x3 =>
      lp_BT_rowTold_36 n μ k ((v1 * 5) + x3) (v2 + 1)
theorem lpR_BT_rowTold_36 {l : Launch} (n : Nat) (μ : kbM)  {Q : kbQt} {P : Int32 → Prop} (hx : ∀ z : Int32, P (z) → kbR l MX0_rowTold 3 Q 63 [some (.ref 1), some (.int z), none] [] μ) : ∀ (k : Nat) (v1 : Int32) (v2 : Int32), kbG (lp_BT_rowTold_36 n μ k v1 v2) P → kbR l MX0_rowTold 3 Q 36 [some (.ref 1), some (.int v1), some (.int v2)] [] μ := by
  intro k
  induction k with
  | zero => intro v1 v2 h; exact absurd h kbG_none
  | succ k ih =>
    intro v1 v2 h
    unfold lp_BT_rowTold_36 at h
    refine r_iload_n dX0_rowTold_36 rfl ?_
    refine r_aload_n dX0_rowTold_37 rfl ?_
    refine r_getI flX0_49 sh1 rfl dX0_rowTold_38 ?_
    refine r_icmp_ge 63 dX0_rowTold_41 (by decide) (fun hc => ?_) (fun hc => ?_)
    · replace h := kbG_t hc h
      refine r_le [some (.ref 1), some (.int v1), none] ⟨rfl, ⟨rfl, trivial⟩⟩ ?_
      exact hx v1 (kbG_some h)
    · replace h := kbG_f hc h
      refine r_iload_n dX0_rowTold_44 rfl ?_
      refine r_iconst 5 dX0_rowTold_45 (by decide) ?_
      refine r_imul dX0_rowTold_46 ?_
      refine r_aload_n dX0_rowTold_47 rfl ?_
      refine r_iload_n dX0_rowTold_48 rfl ?_
      obtain ⟨x2, hx0, h⟩ := kbG_bind h
      refine r_invV_i cvX0_122 sh1 rfl (sp_BT_byteAt v2 μ hx0) rfl rfl (Nat.le_of_ble_eq_true rfl) (Nat.le_of_ble_eq_true rfl) dX0_rowTold_49 ?_
      obtain ⟨x3, hx0, h⟩ := kbG_bind h
      refine r_inv_i csX0_125 (sp_BT_soundNamed x2 μ hx0) rfl rfl (Nat.le_of_ble_eq_true rfl) (Nat.le_of_ble_eq_true rfl) dX0_rowTold_52 ?_
      refine r_iadd dX0_rowTold_55 ?_
      refine r_istore_n dX0_rowTold_56 (Nat.le_of_ble_eq_true rfl) rfl ?_
      refine r_iinc 1 dX0_rowTold_57 rfl (by decide) (Nat.le_of_ble_eq_true rfl) rfl ?_
      refine r_goto 36 dX0_rowTold_60 (by decide) ?_
      refine r_le [some (.ref 1), some (.int ((v1 * 5) + x3)), some (.int (v2 + 1))] ⟨rfl, ⟨rfl, ⟨rfl, trivial⟩⟩⟩ ?_
      exact ih ((v1 * 5) + x3) (v2 + 1) h
def jn_BT_rowTold_84 (n : Nat) (w0 : Int32) (μ : kbM) : Option (Int32 × kbM) :=
  some ((w0, μ))
theorem jnR_BT_rowTold_84 {l : Launch} (n : Nat)   (w0 : Int32) (μ : kbM) {Q : kbQt} {P : Int32 × kbM → Prop} (hr : ∀ z : Int32 × kbM, P z → Q (some (.int z.1)) z.2) (h : kbG (jn_BT_rowTold_84 n w0 μ) P) : kbR l MX0_rowTold 3 Q 84 [none, none, none] [.int w0] μ := by
  unfold jn_BT_rowTold_84 at h
  exact r_iret rfl dX0_rowTold_84 (hr ((w0, μ)) (kbG_some h))
def f_BT_rowTold (n : Nat) (μ : kbM) : Option (Int32 × kbM) :=
  (f_BT_isOfSounds n μ).bind fun x1 =>
  if x1.1 = 0 then
    some ((0, x1.2))
  else
    if ((x1.2.1 1 9) - (x1.2.1 1 8)) ≤ 6 then
      (lp_BT_rowTold_36 n x1.2 n 0 (x1.2.1 1 8)).bind fun x4 =>
      (f_WO_find_3 n x4 x1.2).bind fun x5 =>
      if x5 = (-1) then
        jn_BT_rowTold_84 n x4 x1.2
      else
        (f_BT_fail 4 x1.2).bind fun x6 =>
        jn_BT_rowTold_84 n x6.1 x6.2
    else
      (f_BT_fail 2 x1.2).bind fun x7 =>
      some ((x7.1, x7.2))
theorem sp_BT_rowTold {l : Launch} (n : Nat) (μ : kbM)  {x : Int32 × kbM} (h : f_BT_rowTold n μ = some x) : kbS l MX0_rowTold 3 [.ref 1] μ (kbQe (some (.int x.1)) x.2) := by
  refine kb_enter 2 rfl rfl ?_
  suffices H : ∀ (Q : kbQt) (P : Int32 × kbM → Prop), (∀ z : Int32 × kbM, P z → Q (some (.int z.1)) z.2) → kbG (f_BT_rowTold n μ) P → kbR l MX0_rowTold 3 Q 0 [some (.ref 1), none, none] [] μ from H _ (fun z => z = x) (fun z e => by subst e; exact ⟨rfl, rfl⟩) ⟨x, h, rfl⟩
  clear h
  intro Q P hr h
  unfold f_BT_rowTold at h
  refine r_aload_n dX0_rowTold_0 rfl ?_
  obtain ⟨x1, hx0, h⟩ := kbG_bind h
  refine r_invV_i cvX0_115 sh1 rfl (sp_BT_isOfSounds n μ hx0) rfl rfl (Nat.le_of_ble_eq_true rfl) (Nat.le_of_ble_eq_true rfl) dX0_rowTold_1 ?_
  refine r_if_ne 9 dX0_rowTold_4 (by decide) (fun hc => ?_) (fun hc => ?_)
  · replace h := kbG_f hc h
    refine r_aload_n dX0_rowTold_9 rfl ?_
    refine r_getI flX0_49 sh1 rfl dX0_rowTold_10 ?_
    refine r_aload_n dX0_rowTold_13 rfl ?_
    refine r_getI flX0_119 sh1 rfl dX0_rowTold_14 ?_
    refine r_isub dX0_rowTold_17 ?_
    refine r_bipush 6 dX0_rowTold_18 (by decide) ?_
    refine r_icmp_le 29 dX0_rowTold_20 (by decide) (fun hc => ?_) (fun hc => ?_)
    · replace h := kbG_t hc h
      refine r_iconst 0 dX0_rowTold_29 (by decide) ?_
      refine r_istore_n dX0_rowTold_30 (Nat.le_of_ble_eq_true rfl) rfl ?_
      refine r_aload_n dX0_rowTold_31 rfl ?_
      refine r_getI flX0_119 sh1 rfl dX0_rowTold_32 ?_
      refine r_istore_n dX0_rowTold_35 (Nat.le_of_ble_eq_true rfl) rfl ?_
      refine r_le [some (.ref 1), some (.int 0), some (.int (x1.2.1 1 8))] ⟨rfl, ⟨rfl, ⟨rfl, trivial⟩⟩⟩ ?_
      obtain ⟨x4, hx0, h⟩ := kbG_bind h
      refine lpR_BT_rowTold_36 n x1.2 (P := fun z => x4 = z) (hx := fun z e => ?_) n _ _ ⟨_, hx0, rfl⟩
      subst e
      refine r_aload_n dX0_rowTold_63 rfl ?_
      refine r_getR flX0_18 sh1 rfl dX0_rowTold_64 ?_
      refine r_iload_n dX0_rowTold_67 rfl ?_
      obtain ⟨x5, hx0, h⟩ := kbG_bind h
      refine r_invV_i cvX0_128 sh3 rfl (sp_WO_find_3 n x4 x1.2 hx0) rfl rfl (Nat.le_of_ble_eq_true rfl) (Nat.le_of_ble_eq_true rfl) dX0_rowTold_68 ?_
      refine r_iconst (-1) dX0_rowTold_71 (by decide) ?_
      refine r_icmp_ne 79 dX0_rowTold_72 (by decide) (fun hc => ?_) (fun hc => ?_)
      · replace h := kbG_f hc h
        refine r_aload_n dX0_rowTold_79 rfl ?_
        refine r_iconst 4 dX0_rowTold_80 (by decide) ?_
        obtain ⟨x6, hx0, h⟩ := kbG_bind h
        refine r_invV_i cvX0_87 sh1 rfl (sp_BT_fail 4 x1.2 hx0) rfl rfl (Nat.le_of_ble_eq_true rfl) (Nat.le_of_ble_eq_true rfl) dX0_rowTold_81 ?_
        refine r_le [none, none, none] trivial ?_
        exact jnR_BT_rowTold_84 n x6.1 x6.2 (hr := hr) h
      · replace h := kbG_t hc h
        refine r_iload_n dX0_rowTold_75 rfl ?_
        refine r_goto 84 dX0_rowTold_76 (by decide) ?_
        refine r_le [none, none, none] trivial ?_
        exact jnR_BT_rowTold_84 n x4 x1.2 (hr := hr) h
    · replace h := kbG_f hc h
      refine r_aload_n dX0_rowTold_23 rfl ?_
      refine r_iconst 2 dX0_rowTold_24 (by decide) ?_
      obtain ⟨x7, hx0, h⟩ := kbG_bind h
      refine r_invV_i cvX0_87 sh1 rfl (sp_BT_fail 2 x1.2 hx0) rfl rfl (Nat.le_of_ble_eq_true rfl) (Nat.le_of_ble_eq_true rfl) dX0_rowTold_25 ?_
      exact r_iret rfl dX0_rowTold_28 (hr ((x7.1, x7.2)) (kbG_some h))
  · replace h := kbG_t hc h
    refine r_iconst 0 dX0_rowTold_7 (by decide) ?_
    exact r_iret rfl dX0_rowTold_8 (hr ((0, x1.2)) (kbG_some h))
def jn_BT_worthTold_34 (n : Nat) (w0 : Int32) (μ : kbM) : Option (Int32 × kbM) :=
  some ((w0, μ))
theorem jnR_BT_worthTold_34 {l : Launch} (n : Nat)   (w0 : Int32) (μ : kbM) {Q : kbQt} {P : Int32 × kbM → Prop} (hr : ∀ z : Int32 × kbM, P z → Q (some (.int z.1)) z.2) (h : kbG (jn_BT_worthTold_34 n w0 μ) P) : kbR l MX0_worthTold 3 Q 34 [none, none] [.int w0] μ := by
  unfold jn_BT_worthTold_34 at h
  exact r_iret rfl dX0_worthTold_34 (hr ((w0, μ)) (kbG_some h))
def f_BT_worthTold (n : Nat) (μ : kbM) : Option (Int32 × kbM) :=
  if (μ.1 1 7) = 2 then
    (f_BT_numberTold n μ).bind fun x1 =>
    if 99 < x1.1 then
      (f_BT_fail 2 x1.2).bind fun x2 =>
      jn_BT_worthTold_34 n x2.1 x2.2
    else
      jn_BT_worthTold_34 n x1.1 x1.2
  else
    (f_BT_fail 1 μ).bind fun x3 =>
    some ((x3.1, x3.2))
theorem sp_BT_worthTold {l : Launch} (n : Nat) (μ : kbM)  {x : Int32 × kbM} (h : f_BT_worthTold n μ = some x) : kbS l MX0_worthTold 3 [.ref 1] μ (kbQe (some (.int x.1)) x.2) := by
  refine kb_enter 1 rfl rfl ?_
  suffices H : ∀ (Q : kbQt) (P : Int32 × kbM → Prop), (∀ z : Int32 × kbM, P z → Q (some (.int z.1)) z.2) → kbG (f_BT_worthTold n μ) P → kbR l MX0_worthTold 3 Q 0 [some (.ref 1), none] [] μ from H _ (fun z => z = x) (fun z e => by subst e; exact ⟨rfl, rfl⟩) ⟨x, h, rfl⟩
  clear h
  intro Q P hr h
  unfold f_BT_worthTold at h
  refine r_aload_n dX0_worthTold_0 rfl ?_
  refine r_getI flX0_58 sh1 rfl dX0_worthTold_1 ?_
  refine r_iconst 2 dX0_worthTold_4 (by decide) ?_
  refine r_icmp_eq 14 dX0_worthTold_5 (by decide) (fun hc => ?_) (fun hc => ?_)
  · replace h := kbG_t hc h
    refine r_aload_n dX0_worthTold_14 rfl ?_
    obtain ⟨x1, hx0, h⟩ := kbG_bind h
    refine r_invV_i cvX0_136 sh1 rfl (sp_BT_numberTold n μ hx0) rfl rfl (Nat.le_of_ble_eq_true rfl) (Nat.le_of_ble_eq_true rfl) dX0_worthTold_15 ?_
    refine r_istore_n dX0_worthTold_18 (Nat.le_of_ble_eq_true rfl) rfl ?_
    refine r_iload_n dX0_worthTold_19 rfl ?_
    refine r_bipush 99 dX0_worthTold_20 (by decide) ?_
    refine r_icmp_gt 29 dX0_worthTold_22 (by decide) (fun hc => ?_) (fun hc => ?_)
    · replace h := kbG_t hc h
      refine r_aload_n dX0_worthTold_29 rfl ?_
      refine r_iconst 2 dX0_worthTold_30 (by decide) ?_
      obtain ⟨x2, hx0, h⟩ := kbG_bind h
      refine r_invV_i cvX0_87 sh1 rfl (sp_BT_fail 2 x1.2 hx0) rfl rfl (Nat.le_of_ble_eq_true rfl) (Nat.le_of_ble_eq_true rfl) dX0_worthTold_31 ?_
      refine r_le [none, none] trivial ?_
      exact jnR_BT_worthTold_34 n x2.1 x2.2 (hr := hr) h
    · replace h := kbG_f hc h
      refine r_iload_n dX0_worthTold_25 rfl ?_
      refine r_goto 34 dX0_worthTold_26 (by decide) ?_
      refine r_le [none, none] trivial ?_
      exact jnR_BT_worthTold_34 n x1.1 x1.2 (hr := hr) h
  · replace h := kbG_f hc h
    refine r_aload_n dX0_worthTold_8 rfl ?_
    refine r_iconst 1 dX0_worthTold_9 (by decide) ?_
    obtain ⟨x3, hx0, h⟩ := kbG_bind h
    refine r_invV_i cvX0_87 sh1 rfl (sp_BT_fail 1 μ hx0) rfl rfl (Nat.le_of_ble_eq_true rfl) (Nat.le_of_ble_eq_true rfl) dX0_worthTold_10 ?_
    exact r_iret rfl dX0_worthTold_13 (hr ((x3.1, x3.2)) (kbG_some h))
def jn_BT_wordLine_64 (n : Nat) (μ : kbM) : Option (kbM) :=
  some μ
theorem jnR_BT_wordLine_64 {l : Launch} (n : Nat)    (μ : kbM) {Q : kbQt} {P : kbM → Prop} (hr : ∀ z : kbM, P z → Q none z) (h : kbG (jn_BT_wordLine_64 n μ) P) : kbR l MX0_wordLine 6 Q 64 [none, none, none, none] [] μ := by
  unfold jn_BT_wordLine_64 at h
  exact r_vret rfl dX0_wordLine_64 (hr μ (kbG_some h))
def jn_BT_wordLine_18 (n : Nat) (v1 : Int32) (μ : kbM) : Option (kbM) :=
  (f_BT_advance n μ).bind fun x1 =>
  (f_BT_rowTold n x1).bind fun x2 =>
  (f_BT_advance n x2.2).bind fun x3 =>
  (f_BT_worthTold n x3).bind fun x4 =>
  (f_BT_advance n x4.2).bind fun x5 =>
  if (x5.1 1 10) = 0 then
    (f_WO_insert_3 n (x5.1 3 4) x2.1 v1 x4.1 x5).bind fun x6 =>
    jn_BT_wordLine_64 n x6
  else
    jn_BT_wordLine_64 n x5
theorem jnR_BT_wordLine_18 {l : Launch} (n : Nat)   (v1 : Int32) (μ : kbM) {Q : kbQt} {P : kbM → Prop} (hr : ∀ z : kbM, P z → Q none z) (h : kbG (jn_BT_wordLine_18 n v1 μ) P) : kbR l MX0_wordLine 6 Q 18 [some (.ref 1), some (.int v1), none, none] [] μ := by
  unfold jn_BT_wordLine_18 at h
  refine r_aload_n dX0_wordLine_18 rfl ?_
  obtain ⟨x1, hx0, h⟩ := kbG_bind h
  refine r_invV_v cvX0_55 sh1 rfl (sp_BT_advance n μ hx0) rfl rfl (Nat.le_of_ble_eq_true rfl) (Nat.le_of_ble_eq_true rfl) dX0_wordLine_19 ?_
  refine r_aload_n dX0_wordLine_22 rfl ?_
  obtain ⟨x2, hx0, h⟩ := kbG_bind h
  refine r_invV_i cvX0_95 sh1 rfl (sp_BT_rowTold n x1 hx0) rfl rfl (Nat.le_of_ble_eq_true rfl) (Nat.le_of_ble_eq_true rfl) dX0_wordLine_23 ?_
  refine r_istore_n dX0_wordLine_26 (Nat.le_of_ble_eq_true rfl) rfl ?_
  refine r_aload_n dX0_wordLine_27 rfl ?_
  obtain ⟨x3, hx0, h⟩ := kbG_bind h
  refine r_invV_v cvX0_55 sh1 rfl (sp_BT_advance n x2.2 hx0) rfl rfl (Nat.le_of_ble_eq_true rfl) (Nat.le_of_ble_eq_true rfl) dX0_wordLine_28 ?_
  refine r_aload_n dX0_wordLine_31 rfl ?_
  obtain ⟨x4, hx0, h⟩ := kbG_bind h
  refine r_invV_i cvX0_98 sh1 rfl (sp_BT_worthTold n x3 hx0) rfl rfl (Nat.le_of_ble_eq_true rfl) (Nat.le_of_ble_eq_true rfl) dX0_wordLine_32 ?_
  refine r_istore_n dX0_wordLine_35 (Nat.le_of_ble_eq_true rfl) rfl ?_
  refine r_aload_n dX0_wordLine_36 rfl ?_
  obtain ⟨x5, hx0, h⟩ := kbG_bind h
  refine r_invV_v cvX0_55 sh1 rfl (sp_BT_advance n x4.2 hx0) rfl rfl (Nat.le_of_ble_eq_true rfl) (Nat.le_of_ble_eq_true rfl) dX0_wordLine_37 ?_
  refine r_aload_n dX0_wordLine_40 rfl ?_
  refine r_getI flX0_52 sh1 rfl dX0_wordLine_41 ?_
  refine r_if_ne 64 dX0_wordLine_44 (by decide) (fun hc => ?_) (fun hc => ?_)
  · replace h := kbG_f hc h
    refine r_le [none, none, none, none] trivial ?_
    exact jnR_BT_wordLine_64 n  x5 (hr := hr) h
  · replace h := kbG_t hc h
    refine r_aload_n dX0_wordLine_47 rfl ?_
    refine r_getR flX0_18 sh1 rfl dX0_wordLine_48 ?_
    refine r_aload_n dX0_wordLine_51 rfl ?_
    refine r_getR flX0_18 sh1 rfl dX0_wordLine_52 ?_
    refine r_getI flX0_42 sh3 rfl dX0_wordLine_55 ?_
    refine r_iload_n dX0_wordLine_58 rfl ?_
    refine r_iload_n dX0_wordLine_59 rfl ?_
    refine r_iload_n dX0_wordLine_60 rfl ?_
    obtain ⟨x6, hx0, h⟩ := kbG_bind h
    refine r_invV_v cvX0_101 sh3 rfl (sp_WO_insert_3 n (x5.1 3 4) x2.1 v1 x4.1 x5 hx0) rfl rfl (Nat.le_of_ble_eq_true rfl) (Nat.le_of_ble_eq_true rfl) dX0_wordLine_61 ?_
    refine r_le [none, none, none, none] trivial ?_
    exact jnR_BT_wordLine_64 n  x6 (hr := hr) h
def f_BT_wordLine (n : Nat) (a1 : Int32) (μ : kbM) : Option (kbM) :=
  if (μ.1 3 4) < 10 then
    jn_BT_wordLine_18 n a1 μ
  else
    (f_BT_fail 2 μ).bind fun x7 =>
    jn_BT_wordLine_18 n a1 x7.2
theorem sp_BT_wordLine {l : Launch} (n : Nat) (a1 : Int32) (μ : kbM)  {x : kbM} (h : f_BT_wordLine n a1 μ = some x) : kbS l MX0_wordLine 6 [.ref 1, .int a1] μ (kbQe none x) := by
  refine kb_enter 2 rfl rfl ?_
  suffices H : ∀ (Q : kbQt) (P : kbM → Prop), (∀ z : kbM, P z → Q none z) → kbG (f_BT_wordLine n a1 μ) P → kbR l MX0_wordLine 6 Q 0 [some (.ref 1), some (.int a1), none, none] [] μ from H _ (fun z => z = x) (fun z e => by subst e; exact ⟨rfl, rfl⟩) ⟨x, h, rfl⟩
  clear h
  intro Q P hr h
  unfold f_BT_wordLine at h
  refine r_aload_n dX0_wordLine_0 rfl ?_
  refine r_getR flX0_18 sh1 rfl dX0_wordLine_1 ?_
  refine r_getI flX0_42 sh3 rfl dX0_wordLine_4 ?_
  refine r_bipush 10 dX0_wordLine_7 (by decide) ?_
  refine r_icmp_lt 18 dX0_wordLine_9 (by decide) (fun hc => ?_) (fun hc => ?_)
  · replace h := kbG_t hc h
    refine r_le [some (.ref 1), some (.int a1), none, none] ⟨rfl, ⟨rfl, trivial⟩⟩ ?_
    exact jnR_BT_wordLine_18 n a1 μ (hr := hr) h
  · replace h := kbG_f hc h
    refine r_aload_n dX0_wordLine_12 rfl ?_
    refine r_iconst 2 dX0_wordLine_13 (by decide) ?_
    obtain ⟨x7, hx0, h⟩ := kbG_bind h
    refine r_invV_i cvX0_87 sh1 rfl (sp_BT_fail 2 μ hx0) rfl rfl (Nat.le_of_ble_eq_true rfl) (Nat.le_of_ble_eq_true rfl) dX0_wordLine_14 ?_
    refine r_pop dX0_wordLine_17 rfl ?_
    refine r_le [some (.ref 1), some (.int a1), none, none] ⟨rfl, ⟨rfl, trivial⟩⟩ ?_
    exact jnR_BT_wordLine_18 n a1 x7.2 (hr := hr) h
def jn_BT_line_58 (n : Nat) (μ : kbM) : Option (kbM) :=
  (f_BT_passSign n 59 μ).bind fun x5 =>
  some x5
theorem jnR_BT_line_58 {l : Launch} (n : Nat)    (μ : kbM) {Q : kbQt} {P : kbM → Prop} (hr : ∀ z : kbM, P z → Q none z) (h : kbG (jn_BT_line_58 n μ) P) : kbR l MX0_line 106 Q 58 [some (.ref 1), none, none] [] μ := by
  unfold jn_BT_line_58 at h
  refine r_aload_n dX0_line_58 rfl ?_
  refine r_bipush 59 dX0_line_59 (by decide) ?_
  obtain ⟨x5, hx0, h⟩ := kbG_bind h
  refine r_invV_v cvX0_91 sh1 rfl (sp_BT_passSign n 59 μ hx0) rfl rfl (Nat.le_of_ble_eq_true rfl) (Nat.le_of_ble_eq_true rfl) dX0_line_61 ?_
  exact r_vret rfl dX0_line_64 (hr x5 (kbG_some h))
def f_BT_line (n : Nat) (μ : kbM) : Option (kbM) :=
  (f_BT_partNamed n μ).bind fun x1 =>
  (f_BT_woodNamed n μ).bind fun x2 =>
  if x1 = (-1) then
    if x2 = (-1) then
      (f_BT_isNamed n 31 μ).bind fun x3 =>
      if x3 = 0 then
        (f_BT_fail 1 μ).bind fun x4 =>
        jn_BT_line_58 n x4.2
      else
        (f_BT_joinsLine n μ).bind fun x6 =>
        jn_BT_line_58 n x6
    else
      (f_BT_doorLine n x2 μ).bind fun x7 =>
      jn_BT_line_58 n x7
  else
    (f_BT_wordLine n x1 μ).bind fun x8 =>
    jn_BT_line_58 n x8
theorem sp_BT_line {l : Launch} (n : Nat) (μ : kbM)  {x : kbM} (h : f_BT_line n μ = some x) : kbS l MX0_line 106 [.ref 1] μ (kbQe none x) := by
  refine kb_enter 2 rfl rfl ?_
  suffices H : ∀ (Q : kbQt) (P : kbM → Prop), (∀ z : kbM, P z → Q none z) → kbG (f_BT_line n μ) P → kbR l MX0_line 106 Q 0 [some (.ref 1), none, none] [] μ from H _ (fun z => z = x) (fun z e => by subst e; exact ⟨rfl, rfl⟩) ⟨x, h, rfl⟩
  clear h
  intro Q P hr h
  unfold f_BT_line at h
  refine r_aload_n dX0_line_0 rfl ?_
  obtain ⟨x1, hx0, h⟩ := kbG_bind h
  refine r_invV_i cvX0_64 sh1 rfl (sp_BT_partNamed n μ hx0) rfl rfl (Nat.le_of_ble_eq_true rfl) (Nat.le_of_ble_eq_true rfl) dX0_line_1 ?_
  refine r_istore_n dX0_line_4 (Nat.le_of_ble_eq_true rfl) rfl ?_
  refine r_aload_n dX0_line_5 rfl ?_
  obtain ⟨x2, hx0, h⟩ := kbG_bind h
  refine r_invV_i cvX0_68 sh1 rfl (sp_BT_woodNamed n μ hx0) rfl rfl (Nat.le_of_ble_eq_true rfl) (Nat.le_of_ble_eq_true rfl) dX0_line_6 ?_
  refine r_istore_n dX0_line_9 (Nat.le_of_ble_eq_true rfl) rfl ?_
  refine r_iload_n dX0_line_10 rfl ?_
  refine r_iconst (-1) dX0_line_11 (by decide) ?_
  refine r_icmp_eq 23 dX0_line_12 (by decide) (fun hc => ?_) (fun hc => ?_)
  · replace h := kbG_t hc h
    refine r_iload_n dX0_line_23 rfl ?_
    refine r_iconst (-1) dX0_line_24 (by decide) ?_
    refine r_icmp_eq 36 dX0_line_25 (by decide) (fun hc => ?_) (fun hc => ?_)
    · replace h := kbG_t hc h
      refine r_aload_n dX0_line_36 rfl ?_
      refine r_ldcS lsX0_78 dX0_line_37 ?_
      obtain ⟨x3, hx0, h⟩ := kbG_bind h
      refine r_invV_i cvX0_80 sh1 rfl (sp_BT_isNamed n 31 μ (by decide) hx0) rfl rfl (Nat.le_of_ble_eq_true rfl) (Nat.le_of_ble_eq_true rfl) dX0_line_39 ?_
      refine r_if_eq 52 dX0_line_42 (by decide) (fun hc => ?_) (fun hc => ?_)
      · replace h := kbG_t hc h
        refine r_aload_n dX0_line_52 rfl ?_
        refine r_iconst 1 dX0_line_53 (by decide) ?_
        obtain ⟨x4, hx0, h⟩ := kbG_bind h
        refine r_invV_i cvX0_87 sh1 rfl (sp_BT_fail 1 μ hx0) rfl rfl (Nat.le_of_ble_eq_true rfl) (Nat.le_of_ble_eq_true rfl) dX0_line_54 ?_
        refine r_pop dX0_line_57 rfl ?_
        refine r_le [some (.ref 1), none, none] ⟨rfl, trivial⟩ ?_
        exact jnR_BT_line_58 n  x4.2 (hr := hr) h
      · replace h := kbG_f hc h
        refine r_aload_n dX0_line_45 rfl ?_
        obtain ⟨x6, hx0, h⟩ := kbG_bind h
        refine r_invV_v cvX0_84 sh1 rfl (sp_BT_joinsLine n μ hx0) rfl rfl (Nat.le_of_ble_eq_true rfl) (Nat.le_of_ble_eq_true rfl) dX0_line_46 ?_
        refine r_goto 58 dX0_line_49 (by decide) ?_
        refine r_le [some (.ref 1), none, none] ⟨rfl, trivial⟩ ?_
        exact jnR_BT_line_58 n  x6 (hr := hr) h
    · replace h := kbG_f hc h
      refine r_aload_n dX0_line_28 rfl ?_
      refine r_iload_n dX0_line_29 rfl ?_
      obtain ⟨x7, hx0, h⟩ := kbG_bind h
      refine r_invV_v cvX0_75 sh1 rfl (sp_BT_doorLine n x2 μ hx0) rfl rfl (Nat.le_of_ble_eq_true rfl) (Nat.le_of_ble_eq_true rfl) dX0_line_30 ?_
      refine r_goto 58 dX0_line_33 (by decide) ?_
      refine r_le [some (.ref 1), none, none] ⟨rfl, trivial⟩ ?_
      exact jnR_BT_line_58 n  x7 (hr := hr) h
  · replace h := kbG_f hc h
    refine r_aload_n dX0_line_15 rfl ?_
    refine r_iload_n dX0_line_16 rfl ?_
    obtain ⟨x8, hx0, h⟩ := kbG_bind h
    refine r_invV_v cvX0_71 sh1 rfl (sp_BT_wordLine n x1 μ hx0) rfl rfl (Nat.le_of_ble_eq_true rfl) (Nat.le_of_ble_eq_true rfl) dX0_line_17 ?_
    refine r_goto 58 dX0_line_20 (by decide) ?_
    refine r_le [some (.ref 1), none, none] ⟨rfl, trivial⟩ ?_
    exact jnR_BT_line_58 n  x8 (hr := hr) h
def lp_BT_parse_52 (n : Nat) : Nat → Int32 → kbM → Option (kbM)
  | 0, _, _ => none
  | k + 1, v2, μ =>
    if 600 ≤ v2 then
      some μ
    else
      if (μ.1 1 7) = 0 then
        some μ
      else
        if (μ.1 1 7) = 4 then
          some μ
        else
          (f_BT_line n μ).bind fun x2 =>
          lp_BT_parse_52 n k (v2 + 1) x2
theorem lpR_BT_parse_52 {l : Launch} (n : Nat)   {Q : kbQt} {P : kbM → Prop} (hx : ∀ z : kbM, P (z) → kbR l MX0_parse 107 Q 84 [some (.ref 1), none, none] [] z) : ∀ (k : Nat) (v2 : Int32) (μ : kbM), kbG (lp_BT_parse_52 n k v2 μ) P → kbR l MX0_parse 107 Q 52 [some (.ref 1), none, some (.int v2)] [] μ := by
  intro k
  induction k with
  | zero => intro v2 μ h; exact absurd h kbG_none
  | succ k ih =>
    intro v2 μ h
    unfold lp_BT_parse_52 at h
    refine r_iload_n dX0_parse_52 rfl ?_
    refine r_sipush 600 dX0_parse_53 (by decide) ?_
    refine r_icmp_ge 84 dX0_parse_56 (by decide) (fun hc => ?_) (fun hc => ?_)
    · replace h := kbG_t hc h
      refine r_le [some (.ref 1), none, none] ⟨rfl, trivial⟩ ?_
      exact hx μ (kbG_some h)
    · replace h := kbG_f hc h
      refine r_aload_n dX0_parse_59 rfl ?_
      refine r_getI flX0_58 sh1 rfl dX0_parse_60 ?_
      refine r_if_eq 84 dX0_parse_63 (by decide) (fun hc => ?_) (fun hc => ?_)
      · replace h := kbG_t hc h
        refine r_le [some (.ref 1), none, none] ⟨rfl, trivial⟩ ?_
        exact hx μ (kbG_some h)
      · replace h := kbG_f hc h
        refine r_aload_n dX0_parse_66 rfl ?_
        refine r_getI flX0_58 sh1 rfl dX0_parse_67 ?_
        refine r_iconst 4 dX0_parse_70 (by decide) ?_
        refine r_icmp_eq 84 dX0_parse_71 (by decide) (fun hc => ?_) (fun hc => ?_)
        · replace h := kbG_t hc h
          refine r_le [some (.ref 1), none, none] ⟨rfl, trivial⟩ ?_
          exact hx μ (kbG_some h)
        · replace h := kbG_f hc h
          refine r_aload_n dX0_parse_74 rfl ?_
          obtain ⟨x2, hx0, h⟩ := kbG_bind h
          refine r_invV_v cvX0_61 sh1 rfl (sp_BT_line n μ hx0) rfl rfl (Nat.le_of_ble_eq_true rfl) (Nat.le_of_ble_eq_true rfl) dX0_parse_75 ?_
          refine r_iinc 1 dX0_parse_78 rfl (by decide) (Nat.le_of_ble_eq_true rfl) rfl ?_
          refine r_goto 52 dX0_parse_81 (by decide) ?_
          refine r_le [some (.ref 1), none, some (.int (v2 + 1))] ⟨rfl, ⟨rfl, trivial⟩⟩ ?_
          exact ih (v2 + 1) x2 h
def jn_BT_parse_84 (n : Nat) (μ : kbM) : Option (Int32 × kbM) :=
  some ((μ.1 1 10, μ))
theorem jnR_BT_parse_84 {l : Launch} (n : Nat)    (μ : kbM) {Q : kbQt} {P : Int32 × kbM → Prop} (hr : ∀ z : Int32 × kbM, P z → Q (some (.int z.1)) z.2) (h : kbG (jn_BT_parse_84 n μ) P) : kbR l MX0_parse 107 Q 84 [some (.ref 1), none, none] [] μ := by
  unfold jn_BT_parse_84 at h
  refine r_aload_n dX0_parse_84 rfl ?_
  refine r_getI flX0_52 sh1 rfl dX0_parse_85 ?_
  exact r_iret rfl dX0_parse_88 (hr ((μ.1 1 10, μ)) (kbG_some h))
def f_BT_parse (n : Nat) (a1 : Int32) (μ : kbM) : Option (Int32 × kbM) :=
  (f_BT_advance n (kbW (kbW (kbW (kbW (kbW (kbW (kbW (kbW μ 1 6 a1) 1 4 0) 3 4 0) 8 2 0) 1 5 0) 1 9 0) 1 10 0) 1 11 (-1))).bind fun x1 =>
  (lp_BT_parse_52 n n 0 x1).bind fun x3 =>
  jn_BT_parse_84 n x3
theorem sp_BT_parse {l : Launch} (n : Nat) (a1 : Int32) (μ : kbM)  {x : Int32 × kbM} (h : f_BT_parse n a1 μ = some x) : kbS l MX0_parse 107 [.ref 1, .int a1] μ (kbQe (some (.int x.1)) x.2) := by
  refine kb_enter 1 rfl rfl ?_
  suffices H : ∀ (Q : kbQt) (P : Int32 × kbM → Prop), (∀ z : Int32 × kbM, P z → Q (some (.int z.1)) z.2) → kbG (f_BT_parse n a1 μ) P → kbR l MX0_parse 107 Q 0 [some (.ref 1), some (.int a1), none] [] μ from H _ (fun z => z = x) (fun z e => by subst e; exact ⟨rfl, rfl⟩) ⟨x, h, rfl⟩
  clear h
  intro Q P hr h
  unfold f_BT_parse at h
  refine r_aload_n dX0_parse_0 rfl ?_
  refine r_iload_n dX0_parse_1 rfl ?_
  refine r_put flX0_39 sh1 rfl rfl rfl dX0_parse_2 ?_
  refine r_aload_n dX0_parse_5 rfl ?_
  refine r_iconst 0 dX0_parse_6 (by decide) ?_
  refine r_put flX0_36 sh1 rfl rfl rfl dX0_parse_7 ?_
  refine r_aload_n dX0_parse_10 rfl ?_
  refine r_getR flX0_18 sh1 rfl dX0_parse_11 ?_
  refine r_iconst 0 dX0_parse_14 (by decide) ?_
  refine r_put flX0_42 sh3 rfl rfl rfl dX0_parse_15 ?_
  refine r_aload_n dX0_parse_18 rfl ?_
  refine r_getR flX0_25 sh1 rfl dX0_parse_19 ?_
  refine r_iconst 0 dX0_parse_22 (by decide) ?_
  refine r_put flX0_45 sh8 rfl rfl rfl dX0_parse_23 ?_
  refine r_aload_n dX0_parse_26 rfl ?_
  refine r_iconst 0 dX0_parse_27 (by decide) ?_
  refine r_put flX0_46 sh1 rfl rfl rfl dX0_parse_28 ?_
  refine r_aload_n dX0_parse_31 rfl ?_
  refine r_iconst 0 dX0_parse_32 (by decide) ?_
  refine r_put flX0_49 sh1 rfl rfl rfl dX0_parse_33 ?_
  refine r_aload_n dX0_parse_36 rfl ?_
  refine r_iconst 0 dX0_parse_37 (by decide) ?_
  refine r_put flX0_52 sh1 rfl rfl rfl dX0_parse_38 ?_
  refine r_aload_n dX0_parse_41 rfl ?_
  refine r_iconst (-1) dX0_parse_42 (by decide) ?_
  refine r_put flX0_32 sh1 rfl rfl rfl dX0_parse_43 ?_
  refine r_aload_n dX0_parse_46 rfl ?_
  obtain ⟨x1, hx0, h⟩ := kbG_bind h
  refine r_invV_v cvX0_55 sh1 rfl (sp_BT_advance n (kbW (kbW (kbW (kbW (kbW (kbW (kbW (kbW μ 1 6 a1) 1 4 0) 3 4 0) 8 2 0) 1 5 0) 1 9 0) 1 10 0) 1 11 (-1)) hx0) rfl rfl (Nat.le_of_ble_eq_true rfl) (Nat.le_of_ble_eq_true rfl) dX0_parse_47 ?_
  refine r_iconst 0 dX0_parse_50 (by decide) ?_
  refine r_istore_n dX0_parse_51 (Nat.le_of_ble_eq_true rfl) rfl ?_
  refine r_le [some (.ref 1), none, some (.int 0)] ⟨rfl, ⟨rfl, trivial⟩⟩ ?_
  obtain ⟨x3, hx0, h⟩ := kbG_bind h
  refine lpR_BT_parse_52 n (P := fun z => x3 = z) (hx := fun z e => ?_) n _ _ ⟨_, hx0, rfl⟩
  subst e
  refine r_le [some (.ref 1), none, none] ⟨rfl, trivial⟩ ?_
  exact jnR_BT_parse_84 n  x3 (hr := hr) h
