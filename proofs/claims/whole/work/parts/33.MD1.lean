theorem dX12_readWord_0 : decode cX12_readWord 0 = .ok (.aload_n 0, 1) := by decide +kernel
theorem dX12_readWord_1 : decode cX12_readWord 1 = .ok (.getfield 47, 3) := by decide +kernel
theorem dX12_readWord_4 : decode cX12_readWord 4 = .ok (.iconst 3, 1) := by decide +kernel
theorem dX12_readWord_5 : decode cX12_readWord 5 = .ok (.iaload, 1) := by decide +kernel
theorem dX12_readWord_6 : decode cX12_readWord 6 = .ok (.istore_n 2, 1) := by decide +kernel
theorem dX12_readWord_7 : decode cX12_readWord 7 = .ok (.iload_n 2, 1) := by decide +kernel
theorem dX12_readWord_8 : decode cX12_readWord 8 = .ok (.bipush 10, 2) := by decide +kernel
theorem dX12_readWord_10 : decode cX12_readWord 10 = .ok (.if_icmp .ne 8, 3) := by decide +kernel
theorem dX12_readWord_13 : decode cX12_readWord 13 = .ok (.aload_n 0, 1) := by decide +kernel
theorem dX12_readWord_14 : decode cX12_readWord 14 = .ok (.iconst 2, 1) := by decide +kernel
theorem dX12_readWord_15 : decode cX12_readWord 15 = .ok (.invokevirtual 233, 3) := by decide +kernel
theorem dX12_readWord_18 : decode cX12_readWord 18 = .ok (.aload_n 0, 1) := by decide +kernel
theorem dX12_readWord_19 : decode cX12_readWord 19 = .ok (.getfield 212, 3) := by decide +kernel
theorem dX12_readWord_22 : decode cX12_readWord 22 = .ok (.ifCond .eq 4, 3) := by decide +kernel
theorem dX12_readWord_25 : decode cX12_readWord 25 = .ok (.return_, 1) := by decide +kernel
theorem dX12_readWord_26 : decode cX12_readWord 26 = .ok (.aload_n 0, 1) := by decide +kernel
theorem dX12_readWord_27 : decode cX12_readWord 27 = .ok (.invokevirtual 237, 3) := by decide +kernel
theorem dX12_readWord_30 : decode cX12_readWord 30 = .ok (.aload_n 0, 1) := by decide +kernel
theorem dX12_readWord_31 : decode cX12_readWord 31 = .ok (.invokevirtual 280, 3) := by decide +kernel
theorem dX12_readWord_34 : decode cX12_readWord 34 = .ok (.ifCond .ne 4, 3) := by decide +kernel
theorem dX12_readWord_37 : decode cX12_readWord 37 = .ok (.return_, 1) := by decide +kernel
theorem dX12_readWord_38 : decode cX12_readWord 38 = .ok (.aload_n 0, 1) := by decide +kernel
theorem dX12_readWord_39 : decode cX12_readWord 39 = .ok (.getfield 209, 3) := by decide +kernel
theorem dX12_readWord_42 : decode cX12_readWord 42 = .ok (.aload_n 0, 1) := by decide +kernel
theorem dX12_readWord_43 : decode cX12_readWord 43 = .ok (.getfield 183, 3) := by decide +kernel
theorem dX12_readWord_46 : decode cX12_readWord 46 = .ok (.isub, 1) := by decide +kernel
theorem dX12_readWord_47 : decode cX12_readWord 47 = .ok (.bipush 6, 2) := by decide +kernel
theorem dX12_readWord_49 : decode cX12_readWord 49 = .ok (.if_icmp .le 8, 3) := by decide +kernel
theorem dX12_readWord_52 : decode cX12_readWord 52 = .ok (.aload_n 0, 1) := by decide +kernel
theorem dX12_readWord_53 : decode cX12_readWord 53 = .ok (.iconst 2, 1) := by decide +kernel
theorem dX12_readWord_54 : decode cX12_readWord 54 = .ok (.invokevirtual 233, 3) := by decide +kernel
theorem dX12_readWord_57 : decode cX12_readWord 57 = .ok (.iconst 0, 1) := by decide +kernel
theorem dX12_readWord_58 : decode cX12_readWord 58 = .ok (.istore_n 3, 1) := by decide +kernel
theorem dX12_readWord_59 : decode cX12_readWord 59 = .ok (.aload_n 0, 1) := by decide +kernel
theorem dX12_readWord_60 : decode cX12_readWord 60 = .ok (.getfield 183, 3) := by decide +kernel
theorem dX12_readWord_63 : decode cX12_readWord 63 = .ok (.istore 4, 2) := by decide +kernel
theorem dX12_readWord_65 : decode cX12_readWord 65 = .ok (.aload_n 0, 1) := by decide +kernel
theorem dX12_readWord_66 : decode cX12_readWord 66 = .ok (.getfield 212, 3) := by decide +kernel
theorem dX12_readWord_69 : decode cX12_readWord 69 = .ok (.ifCond .ne 33, 3) := by decide +kernel
theorem dX12_readWord_72 : decode cX12_readWord 72 = .ok (.iload 4, 2) := by decide +kernel
theorem dX12_readWord_74 : decode cX12_readWord 74 = .ok (.aload_n 0, 1) := by decide +kernel
theorem dX12_readWord_75 : decode cX12_readWord 75 = .ok (.getfield 209, 3) := by decide +kernel
theorem dX12_readWord_78 : decode cX12_readWord 78 = .ok (.if_icmp .ge 24, 3) := by decide +kernel
theorem dX12_readWord_81 : decode cX12_readWord 81 = .ok (.iconst 5, 1) := by decide +kernel
theorem dX12_readWord_82 : decode cX12_readWord 82 = .ok (.iload_n 3, 1) := by decide +kernel
theorem dX12_readWord_83 : decode cX12_readWord 83 = .ok (.imul, 1) := by decide +kernel
theorem dX12_readWord_84 : decode cX12_readWord 84 = .ok (.aload_n 0, 1) := by decide +kernel
theorem dX12_readWord_85 : decode cX12_readWord 85 = .ok (.getfield 72, 3) := by decide +kernel
theorem dX12_readWord_88 : decode cX12_readWord 88 = .ok (.iload 4, 2) := by decide +kernel
theorem dX12_readWord_90 : decode cX12_readWord 90 = .ok (.iaload, 1) := by decide +kernel
theorem dX12_readWord_91 : decode cX12_readWord 91 = .ok (.invokestatic 277, 3) := by decide +kernel
theorem dX12_readWord_94 : decode cX12_readWord 94 = .ok (.iadd, 1) := by decide +kernel
theorem dX12_readWord_95 : decode cX12_readWord 95 = .ok (.istore_n 3, 1) := by decide +kernel
theorem dX12_readWord_96 : decode cX12_readWord 96 = .ok (.iinc 4 1, 3) := by decide +kernel
theorem dX12_readWord_99 : decode cX12_readWord 99 = .ok (.goto (-34), 3) := by decide +kernel
theorem dX12_readWord_102 : decode cX12_readWord 102 = .ok (.bipush 10, 2) := by decide +kernel
theorem dX12_readWord_104 : decode cX12_readWord 104 = .ok (.istore 4, 2) := by decide +kernel
theorem dX12_readWord_106 : decode cX12_readWord 106 = .ok (.aload_n 0, 1) := by decide +kernel
theorem dX12_readWord_107 : decode cX12_readWord 107 = .ok (.getfield 212, 3) := by decide +kernel
theorem dX12_readWord_110 : decode cX12_readWord 110 = .ok (.ifCond .ne 34, 3) := by decide +kernel
theorem dX12_readWord_113 : decode cX12_readWord 113 = .ok (.iload 4, 2) := by decide +kernel
theorem dX12_readWord_115 : decode cX12_readWord 115 = .ok (.bipush 10, 2) := by decide +kernel
theorem dX12_readWord_117 : decode cX12_readWord 117 = .ok (.iload_n 2, 1) := by decide +kernel
theorem dX12_readWord_118 : decode cX12_readWord 118 = .ok (.iadd, 1) := by decide +kernel
theorem dX12_readWord_119 : decode cX12_readWord 119 = .ok (.if_icmp .ge 25, 3) := by decide +kernel
theorem dX12_readWord_122 : decode cX12_readWord 122 = .ok (.aload_n 0, 1) := by decide +kernel
theorem dX12_readWord_123 : decode cX12_readWord 123 = .ok (.getfield 51, 3) := by decide +kernel
theorem dX12_readWord_126 : decode cX12_readWord 126 = .ok (.iload 4, 2) := by decide +kernel
theorem dX12_readWord_128 : decode cX12_readWord 128 = .ok (.iaload, 1) := by decide +kernel
theorem dX12_readWord_129 : decode cX12_readWord 129 = .ok (.iload_n 3, 1) := by decide +kernel
theorem dX12_readWord_130 : decode cX12_readWord 130 = .ok (.if_icmp .ne 8, 3) := by decide +kernel
theorem dX12_readWord_133 : decode cX12_readWord 133 = .ok (.aload_n 0, 1) := by decide +kernel
theorem dX12_readWord_134 : decode cX12_readWord 134 = .ok (.iconst 4, 1) := by decide +kernel
theorem dX12_readWord_135 : decode cX12_readWord 135 = .ok (.invokevirtual 233, 3) := by decide +kernel
theorem dX12_readWord_138 : decode cX12_readWord 138 = .ok (.iinc 4 1, 3) := by decide +kernel
theorem dX12_readWord_141 : decode cX12_readWord 141 = .ok (.goto (-35), 3) := by decide +kernel
theorem dX12_readWord_144 : decode cX12_readWord 144 = .ok (.aload_n 0, 1) := by decide +kernel
theorem dX12_readWord_145 : decode cX12_readWord 145 = .ok (.getfield 212, 3) := by decide +kernel
theorem dX12_readWord_148 : decode cX12_readWord 148 = .ok (.ifCond .eq 4, 3) := by decide +kernel
theorem dX12_readWord_151 : decode cX12_readWord 151 = .ok (.return_, 1) := by decide +kernel
theorem dX12_readWord_152 : decode cX12_readWord 152 = .ok (.aload_n 0, 1) := by decide +kernel
theorem dX12_readWord_153 : decode cX12_readWord 153 = .ok (.invokevirtual 237, 3) := by decide +kernel
theorem dX12_readWord_156 : decode cX12_readWord 156 = .ok (.aload_n 0, 1) := by decide +kernel
theorem dX12_readWord_157 : decode cX12_readWord 157 = .ok (.getfield 51, 3) := by decide +kernel
theorem dX12_readWord_160 : decode cX12_readWord 160 = .ok (.bipush 10, 2) := by decide +kernel
theorem dX12_readWord_162 : decode cX12_readWord 162 = .ok (.iload_n 2, 1) := by decide +kernel
theorem dX12_readWord_163 : decode cX12_readWord 163 = .ok (.iadd, 1) := by decide +kernel
theorem dX12_readWord_164 : decode cX12_readWord 164 = .ok (.iload_n 3, 1) := by decide +kernel
theorem dX12_readWord_165 : decode cX12_readWord 165 = .ok (.iastore, 1) := by decide +kernel
theorem dX12_readWord_166 : decode cX12_readWord 166 = .ok (.aload_n 0, 1) := by decide +kernel
theorem dX12_readWord_167 : decode cX12_readWord 167 = .ok (.getfield 54, 3) := by decide +kernel
theorem dX12_readWord_170 : decode cX12_readWord 170 = .ok (.bipush 10, 2) := by decide +kernel
theorem dX12_readWord_172 : decode cX12_readWord 172 = .ok (.iload_n 2, 1) := by decide +kernel
theorem dX12_readWord_173 : decode cX12_readWord 173 = .ok (.iadd, 1) := by decide +kernel
theorem dX12_readWord_174 : decode cX12_readWord 174 = .ok (.iload_n 1, 1) := by decide +kernel
theorem dX12_readWord_175 : decode cX12_readWord 175 = .ok (.iastore, 1) := by decide +kernel
theorem dX12_readWord_176 : decode cX12_readWord 176 = .ok (.aload_n 0, 1) := by decide +kernel
theorem dX12_readWord_177 : decode cX12_readWord 177 = .ok (.getfield 57, 3) := by decide +kernel
theorem dX12_readWord_180 : decode cX12_readWord 180 = .ok (.bipush 10, 2) := by decide +kernel
theorem dX12_readWord_182 : decode cX12_readWord 182 = .ok (.iload_n 2, 1) := by decide +kernel
theorem dX12_readWord_183 : decode cX12_readWord 183 = .ok (.iadd, 1) := by decide +kernel
theorem dX12_readWord_184 : decode cX12_readWord 184 = .ok (.aload_n 0, 1) := by decide +kernel
theorem dX12_readWord_185 : decode cX12_readWord 185 = .ok (.iconst 0, 1) := by decide +kernel
theorem dX12_readWord_186 : decode cX12_readWord 186 = .ok (.bipush 99, 2) := by decide +kernel
theorem dX12_readWord_188 : decode cX12_readWord 188 = .ok (.invokevirtual 240, 3) := by decide +kernel
theorem dX12_readWord_191 : decode cX12_readWord 191 = .ok (.iastore, 1) := by decide +kernel
theorem dX12_readWord_192 : decode cX12_readWord 192 = .ok (.aload_n 0, 1) := by decide +kernel
theorem dX12_readWord_193 : decode cX12_readWord 193 = .ok (.getfield 47, 3) := by decide +kernel
theorem dX12_readWord_196 : decode cX12_readWord 196 = .ok (.iconst 3, 1) := by decide +kernel
theorem dX12_readWord_197 : decode cX12_readWord 197 = .ok (.dup2, 1) := by decide +kernel
theorem dX12_readWord_198 : decode cX12_readWord 198 = .ok (.iaload, 1) := by decide +kernel
theorem dX12_readWord_199 : decode cX12_readWord 199 = .ok (.iconst 1, 1) := by decide +kernel
theorem dX12_readWord_200 : decode cX12_readWord 200 = .ok (.iadd, 1) := by decide +kernel
theorem dX12_readWord_201 : decode cX12_readWord 201 = .ok (.iastore, 1) := by decide +kernel
theorem dX12_readWord_202 : decode cX12_readWord 202 = .ok (.return_, 1) := by decide +kernel
theorem dX12_lay_0 : decode cX12_lay 0 = .ok (.aload_n 0, 1) := by decide +kernel
theorem dX12_lay_1 : decode cX12_lay 1 = .ok (.getfield 212, 3) := by decide +kernel
theorem dX12_lay_4 : decode cX12_lay 4 = .ok (.ifCond .eq 4, 3) := by decide +kernel
theorem dX12_lay_7 : decode cX12_lay 7 = .ok (.return_, 1) := by decide +kernel
theorem dX12_lay_8 : decode cX12_lay 8 = .ok (.aload_n 0, 1) := by decide +kernel
theorem dX12_lay_9 : decode cX12_lay 9 = .ok (.getfield 66, 3) := by decide +kernel
theorem dX12_lay_12 : decode cX12_lay 12 = .ok (.sipush 600, 3) := by decide +kernel
theorem dX12_lay_15 : decode cX12_lay 15 = .ok (.aload_n 0, 1) := by decide +kernel
theorem dX12_lay_16 : decode cX12_lay 16 = .ok (.getfield 47, 3) := by decide +kernel
theorem dX12_lay_19 : decode cX12_lay 19 = .ok (.iconst 5, 1) := by decide +kernel
theorem dX12_lay_20 : decode cX12_lay 20 = .ok (.iaload, 1) := by decide +kernel
theorem dX12_lay_21 : decode cX12_lay 21 = .ok (.iadd, 1) := by decide +kernel
theorem dX12_lay_22 : decode cX12_lay 22 = .ok (.iload_n 1, 1) := by decide +kernel
theorem dX12_lay_23 : decode cX12_lay 23 = .ok (.iastore, 1) := by decide +kernel
theorem dX12_lay_24 : decode cX12_lay 24 = .ok (.aload_n 0, 1) := by decide +kernel
theorem dX12_lay_25 : decode cX12_lay 25 = .ok (.getfield 47, 3) := by decide +kernel
theorem dX12_lay_28 : decode cX12_lay 28 = .ok (.iconst 5, 1) := by decide +kernel
theorem dX12_lay_29 : decode cX12_lay 29 = .ok (.dup2, 1) := by decide +kernel
theorem dX12_lay_30 : decode cX12_lay 30 = .ok (.iaload, 1) := by decide +kernel
theorem dX12_lay_31 : decode cX12_lay 31 = .ok (.iconst 1, 1) := by decide +kernel
theorem dX12_lay_32 : decode cX12_lay 32 = .ok (.iadd, 1) := by decide +kernel
theorem dX12_lay_33 : decode cX12_lay 33 = .ok (.iastore, 1) := by decide +kernel
theorem dX12_lay_34 : decode cX12_lay 34 = .ok (.return_, 1) := by decide +kernel
theorem dX12_readPart_0 : decode cX12_readPart 0 = .ok (.aload_n 0, 1) := by decide +kernel
theorem dX12_readPart_1 : decode cX12_readPart 1 = .ok (.getfield 212, 3) := by decide +kernel
theorem dX12_readPart_4 : decode cX12_readPart 4 = .ok (.ifCond .eq 4, 3) := by decide +kernel
theorem dX12_readPart_7 : decode cX12_readPart 7 = .ok (.return_, 1) := by decide +kernel
theorem dX12_readPart_8 : decode cX12_readPart 8 = .ok (.aload_n 0, 1) := by decide +kernel
theorem dX12_readPart_9 : decode cX12_readPart 9 = .ok (.getfield 186, 3) := by decide +kernel
theorem dX12_readPart_12 : decode cX12_readPart 12 = .ok (.iconst 2, 1) := by decide +kernel
theorem dX12_readPart_13 : decode cX12_readPart 13 = .ok (.if_icmp .ne 16, 3) := by decide +kernel
theorem dX12_readPart_16 : decode cX12_readPart 16 = .ok (.aload_n 0, 1) := by decide +kernel
theorem dX12_readPart_17 : decode cX12_readPart 17 = .ok (.aload_n 0, 1) := by decide +kernel
theorem dX12_readPart_18 : decode cX12_readPart 18 = .ok (.iconst 0, 1) := by decide +kernel
theorem dX12_readPart_19 : decode cX12_readPart 19 = .ok (.sipush 9999, 3) := by decide +kernel
theorem dX12_readPart_22 : decode cX12_readPart 22 = .ok (.invokevirtual 240, 3) := by decide +kernel
theorem dX12_readPart_25 : decode cX12_readPart 25 = .ok (.invokevirtual 243, 3) := by decide +kernel
theorem dX12_readPart_28 : decode cX12_readPart 28 = .ok (.return_, 1) := by decide +kernel
theorem dX12_readPart_29 : decode cX12_readPart 29 = .ok (.aload_n 0, 1) := by decide +kernel
theorem dX12_readPart_30 : decode cX12_readPart 30 = .ok (.getfield 186, 3) := by decide +kernel
theorem dX12_readPart_33 : decode cX12_readPart 33 = .ok (.iconst 1, 1) := by decide +kernel
theorem dX12_readPart_34 : decode cX12_readPart 34 = .ok (.if_icmp .ne 41, 3) := by decide +kernel
theorem dX12_readPart_37 : decode cX12_readPart 37 = .ok (.aload_n 0, 1) := by decide +kernel
theorem dX12_readPart_38 : decode cX12_readPart 38 = .ok (.aload_n 0, 1) := by decide +kernel
theorem dX12_readPart_39 : decode cX12_readPart 39 = .ok (.getfield 44, 3) := by decide +kernel
theorem dX12_readPart_42 : decode cX12_readPart 42 = .ok (.invokevirtual 246, 3) := by decide +kernel
theorem dX12_readPart_45 : decode cX12_readPart 45 = .ok (.istore_n 2, 1) := by decide +kernel
theorem dX12_readPart_46 : decode cX12_readPart 46 = .ok (.iload_n 2, 1) := by decide +kernel
theorem dX12_readPart_47 : decode cX12_readPart 47 = .ok (.iconst (-1), 1) := by decide +kernel
theorem dX12_readPart_48 : decode cX12_readPart 48 = .ok (.if_icmp .ne 8, 3) := by decide +kernel
theorem dX12_readPart_51 : decode cX12_readPart 51 = .ok (.aload_n 0, 1) := by decide +kernel
theorem dX12_readPart_52 : decode cX12_readPart 52 = .ok (.iconst 3, 1) := by decide +kernel
theorem dX12_readPart_53 : decode cX12_readPart 53 = .ok (.invokevirtual 233, 3) := by decide +kernel
theorem dX12_readPart_56 : decode cX12_readPart 56 = .ok (.aload_n 0, 1) := by decide +kernel
theorem dX12_readPart_57 : decode cX12_readPart 57 = .ok (.iconst (-1), 1) := by decide +kernel
theorem dX12_readPart_58 : decode cX12_readPart 58 = .ok (.iload_n 2, 1) := by decide +kernel
theorem dX12_readPart_59 : decode cX12_readPart 59 = .ok (.isub, 1) := by decide +kernel
theorem dX12_readPart_60 : decode cX12_readPart 60 = .ok (.invokevirtual 243, 3) := by decide +kernel
theorem dX12_readPart_63 : decode cX12_readPart 63 = .ok (.aload_n 0, 1) := by decide +kernel
theorem dX12_readPart_64 : decode cX12_readPart 64 = .ok (.getfield 212, 3) := by decide +kernel
theorem dX12_readPart_67 : decode cX12_readPart 67 = .ok (.ifCond .ne 7, 3) := by decide +kernel
theorem dX12_readPart_70 : decode cX12_readPart 70 = .ok (.aload_n 0, 1) := by decide +kernel
theorem dX12_readPart_71 : decode cX12_readPart 71 = .ok (.invokevirtual 237, 3) := by decide +kernel
theorem dX12_readPart_74 : decode cX12_readPart 74 = .ok (.return_, 1) := by decide +kernel
theorem dX12_readPart_75 : decode cX12_readPart 75 = .ok (.aload_n 0, 1) := by decide +kernel
theorem dX12_readPart_76 : decode cX12_readPart 76 = .ok (.bipush 40, 2) := by decide +kernel
theorem dX12_readPart_78 : decode cX12_readPart 78 = .ok (.invokevirtual 250, 3) := by decide +kernel
theorem dX12_readPart_81 : decode cX12_readPart 81 = .ok (.aload_n 0, 1) := by decide +kernel
theorem dX12_readPart_82 : decode cX12_readPart 82 = .ok (.iload_n 1, 1) := by decide +kernel
theorem dX12_readPart_83 : decode cX12_readPart 83 = .ok (.iconst 1, 1) := by decide +kernel
theorem dX12_readPart_84 : decode cX12_readPart 84 = .ok (.iadd, 1) := by decide +kernel
theorem dX12_readPart_85 : decode cX12_readPart 85 = .ok (.invokevirtual 253, 3) := by decide +kernel
theorem dX12_readPart_88 : decode cX12_readPart 88 = .ok (.aload_n 0, 1) := by decide +kernel
theorem dX12_readPart_89 : decode cX12_readPart 89 = .ok (.bipush 41, 2) := by decide +kernel
theorem dX12_readPart_91 : decode cX12_readPart 91 = .ok (.invokevirtual 250, 3) := by decide +kernel
theorem dX12_readPart_94 : decode cX12_readPart 94 = .ok (.return_, 1) := by decide +kernel
theorem dX12_readProduct_0 : decode cX12_readProduct 0 = .ok (.aload_n 0, 1) := by decide +kernel
theorem dX12_readProduct_1 : decode cX12_readProduct 1 = .ok (.iload_n 1, 1) := by decide +kernel
theorem dX12_readProduct_2 : decode cX12_readProduct 2 = .ok (.invokevirtual 256, 3) := by decide +kernel
theorem dX12_readProduct_5 : decode cX12_readProduct 5 = .ok (.aload_n 0, 1) := by decide +kernel
theorem dX12_readProduct_6 : decode cX12_readProduct 6 = .ok (.bipush 42, 2) := by decide +kernel
theorem dX12_readProduct_8 : decode cX12_readProduct 8 = .ok (.invokevirtual 230, 3) := by decide +kernel
theorem dX12_readProduct_11 : decode cX12_readProduct 11 = .ok (.ifCond .ne 12, 3) := by decide +kernel
theorem dX12_readProduct_14 : decode cX12_readProduct 14 = .ok (.aload_n 0, 1) := by decide +kernel
theorem dX12_readProduct_15 : decode cX12_readProduct 15 = .ok (.bipush 47, 2) := by decide +kernel
theorem dX12_readProduct_17 : decode cX12_readProduct 17 = .ok (.invokevirtual 230, 3) := by decide +kernel
theorem dX12_readProduct_20 : decode cX12_readProduct 20 = .ok (.ifCond .eq 37, 3) := by decide +kernel
theorem dX12_readProduct_23 : decode cX12_readProduct 23 = .ok (.aload_n 0, 1) := by decide +kernel
theorem dX12_readProduct_24 : decode cX12_readProduct 24 = .ok (.bipush 42, 2) := by decide +kernel
theorem dX12_readProduct_26 : decode cX12_readProduct 26 = .ok (.invokevirtual 230, 3) := by decide +kernel
theorem dX12_readProduct_29 : decode cX12_readProduct 29 = .ok (.ifCond .eq 8, 3) := by decide +kernel
theorem dX12_readProduct_32 : decode cX12_readProduct 32 = .ok (.bipush (-22), 2) := by decide +kernel
theorem dX12_readProduct_34 : decode cX12_readProduct 34 = .ok (.goto 5, 3) := by decide +kernel
theorem dX12_readProduct_37 : decode cX12_readProduct 37 = .ok (.bipush (-23), 2) := by decide +kernel
theorem dX12_readProduct_39 : decode cX12_readProduct 39 = .ok (.istore_n 2, 1) := by decide +kernel
theorem dX12_readProduct_40 : decode cX12_readProduct 40 = .ok (.aload_n 0, 1) := by decide +kernel
theorem dX12_readProduct_41 : decode cX12_readProduct 41 = .ok (.invokevirtual 237, 3) := by decide +kernel
theorem dX12_readProduct_44 : decode cX12_readProduct 44 = .ok (.aload_n 0, 1) := by decide +kernel
theorem dX12_readProduct_45 : decode cX12_readProduct 45 = .ok (.iload_n 1, 1) := by decide +kernel
theorem dX12_readProduct_46 : decode cX12_readProduct 46 = .ok (.invokevirtual 256, 3) := by decide +kernel
theorem dX12_readProduct_49 : decode cX12_readProduct 49 = .ok (.aload_n 0, 1) := by decide +kernel
theorem dX12_readProduct_50 : decode cX12_readProduct 50 = .ok (.iload_n 2, 1) := by decide +kernel
theorem dX12_readProduct_51 : decode cX12_readProduct 51 = .ok (.invokevirtual 243, 3) := by decide +kernel
theorem dX12_readProduct_54 : decode cX12_readProduct 54 = .ok (.goto (-49), 3) := by decide +kernel
theorem dX12_readProduct_57 : decode cX12_readProduct 57 = .ok (.return_, 1) := by decide +kernel
theorem dX12_readSum_0 : decode cX12_readSum 0 = .ok (.aload_n 0, 1) := by decide +kernel
theorem dX12_readSum_1 : decode cX12_readSum 1 = .ok (.iload_n 1, 1) := by decide +kernel
theorem dX12_readSum_2 : decode cX12_readSum 2 = .ok (.invokevirtual 259, 3) := by decide +kernel
theorem dX12_readSum_5 : decode cX12_readSum 5 = .ok (.aload_n 0, 1) := by decide +kernel
theorem dX12_readSum_6 : decode cX12_readSum 6 = .ok (.bipush 43, 2) := by decide +kernel
theorem dX12_readSum_8 : decode cX12_readSum 8 = .ok (.invokevirtual 230, 3) := by decide +kernel
theorem dX12_readSum_11 : decode cX12_readSum 11 = .ok (.ifCond .ne 12, 3) := by decide +kernel
theorem dX12_readSum_14 : decode cX12_readSum 14 = .ok (.aload_n 0, 1) := by decide +kernel
theorem dX12_readSum_15 : decode cX12_readSum 15 = .ok (.bipush 45, 2) := by decide +kernel
theorem dX12_readSum_17 : decode cX12_readSum 17 = .ok (.invokevirtual 230, 3) := by decide +kernel
theorem dX12_readSum_20 : decode cX12_readSum 20 = .ok (.ifCond .eq 37, 3) := by decide +kernel
theorem dX12_readSum_23 : decode cX12_readSum 23 = .ok (.aload_n 0, 1) := by decide +kernel
theorem dX12_readSum_24 : decode cX12_readSum 24 = .ok (.bipush 43, 2) := by decide +kernel
theorem dX12_readSum_26 : decode cX12_readSum 26 = .ok (.invokevirtual 230, 3) := by decide +kernel
theorem dX12_readSum_29 : decode cX12_readSum 29 = .ok (.ifCond .eq 8, 3) := by decide +kernel
theorem dX12_readSum_32 : decode cX12_readSum 32 = .ok (.bipush (-20), 2) := by decide +kernel
theorem dX12_readSum_34 : decode cX12_readSum 34 = .ok (.goto 5, 3) := by decide +kernel
theorem dX12_readSum_37 : decode cX12_readSum 37 = .ok (.bipush (-21), 2) := by decide +kernel
theorem dX12_readSum_39 : decode cX12_readSum 39 = .ok (.istore_n 2, 1) := by decide +kernel
theorem dX12_readSum_40 : decode cX12_readSum 40 = .ok (.aload_n 0, 1) := by decide +kernel
theorem dX12_readSum_41 : decode cX12_readSum 41 = .ok (.invokevirtual 237, 3) := by decide +kernel
theorem dX12_readSum_44 : decode cX12_readSum 44 = .ok (.aload_n 0, 1) := by decide +kernel
theorem dX12_readSum_45 : decode cX12_readSum 45 = .ok (.iload_n 1, 1) := by decide +kernel
theorem dX12_readSum_46 : decode cX12_readSum 46 = .ok (.invokevirtual 259, 3) := by decide +kernel
theorem dX12_readSum_49 : decode cX12_readSum 49 = .ok (.aload_n 0, 1) := by decide +kernel
theorem dX12_readSum_50 : decode cX12_readSum 50 = .ok (.iload_n 2, 1) := by decide +kernel
theorem dX12_readSum_51 : decode cX12_readSum 51 = .ok (.invokevirtual 243, 3) := by decide +kernel
theorem dX12_readSum_54 : decode cX12_readSum 54 = .ok (.goto (-49), 3) := by decide +kernel
theorem dX12_readSum_57 : decode cX12_readSum 57 = .ok (.return_, 1) := by decide +kernel
theorem dX12_readNot_0 : decode cX12_readNot 0 = .ok (.iconst 0, 1) := by decide +kernel
theorem dX12_readNot_1 : decode cX12_readNot 1 = .ok (.istore_n 2, 1) := by decide +kernel
theorem dX12_readNot_2 : decode cX12_readNot 2 = .ok (.aload_n 0, 1) := by decide +kernel
theorem dX12_readNot_3 : decode cX12_readNot 3 = .ok (.ldc_w 262, 3) := by decide +kernel
theorem dX12_readNot_6 : decode cX12_readNot 6 = .ok (.invokevirtual 226, 3) := by decide +kernel
theorem dX12_readNot_9 : decode cX12_readNot 9 = .ok (.ifCond .eq 31, 3) := by decide +kernel
theorem dX12_readNot_12 : decode cX12_readNot 12 = .ok (.iload_n 2, 1) := by decide +kernel
theorem dX12_readNot_13 : decode cX12_readNot 13 = .ok (.bipush 6, 2) := by decide +kernel
theorem dX12_readNot_15 : decode cX12_readNot 15 = .ok (.if_icmp .ne 8, 3) := by decide +kernel
theorem dX12_readNot_18 : decode cX12_readNot 18 = .ok (.aload_n 0, 1) := by decide +kernel
theorem dX12_readNot_19 : decode cX12_readNot 19 = .ok (.iconst 2, 1) := by decide +kernel
theorem dX12_readNot_20 : decode cX12_readNot 20 = .ok (.invokevirtual 233, 3) := by decide +kernel
theorem dX12_readNot_23 : decode cX12_readNot 23 = .ok (.iinc 2 1, 3) := by decide +kernel
theorem dX12_readNot_26 : decode cX12_readNot 26 = .ok (.aload_n 0, 1) := by decide +kernel
theorem dX12_readNot_27 : decode cX12_readNot 27 = .ok (.getfield 212, 3) := by decide +kernel
theorem dX12_readNot_30 : decode cX12_readNot 30 = .ok (.ifCond .ne (-28), 3) := by decide +kernel
theorem dX12_readNot_33 : decode cX12_readNot 33 = .ok (.aload_n 0, 1) := by decide +kernel
theorem dX12_readNot_34 : decode cX12_readNot 34 = .ok (.invokevirtual 237, 3) := by decide +kernel
theorem dX12_readNot_37 : decode cX12_readNot 37 = .ok (.goto (-35), 3) := by decide +kernel
theorem dX12_readNot_40 : decode cX12_readNot 40 = .ok (.aload_n 0, 1) := by decide +kernel
theorem dX12_readNot_41 : decode cX12_readNot 41 = .ok (.iload_n 1, 1) := by decide +kernel
theorem dX12_readNot_42 : decode cX12_readNot 42 = .ok (.invokevirtual 264, 3) := by decide +kernel
theorem dX12_readNot_45 : decode cX12_readNot 45 = .ok (.aload_n 0, 1) := by decide +kernel
theorem dX12_readNot_46 : decode cX12_readNot 46 = .ok (.bipush 60, 2) := by decide +kernel
theorem dX12_readNot_48 : decode cX12_readNot 48 = .ok (.invokevirtual 230, 3) := by decide +kernel
theorem dX12_readNot_51 : decode cX12_readNot 51 = .ok (.ifCond .ne 12, 3) := by decide +kernel
theorem dX12_readNot_54 : decode cX12_readNot 54 = .ok (.aload_n 0, 1) := by decide +kernel
theorem dX12_readNot_55 : decode cX12_readNot 55 = .ok (.bipush 61, 2) := by decide +kernel
theorem dX12_readNot_57 : decode cX12_readNot 57 = .ok (.invokevirtual 230, 3) := by decide +kernel
theorem dX12_readNot_60 : decode cX12_readNot 60 = .ok (.ifCond .eq 34, 3) := by decide +kernel
theorem dX12_readNot_63 : decode cX12_readNot 63 = .ok (.aload_n 0, 1) := by decide +kernel
theorem dX12_readNot_64 : decode cX12_readNot 64 = .ok (.bipush 60, 2) := by decide +kernel
theorem dX12_readNot_66 : decode cX12_readNot 66 = .ok (.invokevirtual 230, 3) := by decide +kernel
theorem dX12_readNot_69 : decode cX12_readNot 69 = .ok (.ifCond .eq 8, 3) := by decide +kernel
theorem dX12_readNot_72 : decode cX12_readNot 72 = .ok (.bipush (-24), 2) := by decide +kernel
theorem dX12_readNot_74 : decode cX12_readNot 74 = .ok (.goto 5, 3) := by decide +kernel
theorem dX12_readNot_77 : decode cX12_readNot 77 = .ok (.bipush (-25), 2) := by decide +kernel
theorem dX12_readNot_79 : decode cX12_readNot 79 = .ok (.istore_n 3, 1) := by decide +kernel
theorem dX12_readNot_80 : decode cX12_readNot 80 = .ok (.aload_n 0, 1) := by decide +kernel
theorem dX12_readNot_81 : decode cX12_readNot 81 = .ok (.invokevirtual 237, 3) := by decide +kernel
theorem dX12_readNot_84 : decode cX12_readNot 84 = .ok (.aload_n 0, 1) := by decide +kernel
theorem dX12_readNot_85 : decode cX12_readNot 85 = .ok (.iload_n 1, 1) := by decide +kernel
theorem dX12_readNot_86 : decode cX12_readNot 86 = .ok (.invokevirtual 264, 3) := by decide +kernel
theorem dX12_readNot_89 : decode cX12_readNot 89 = .ok (.aload_n 0, 1) := by decide +kernel
theorem dX12_readNot_90 : decode cX12_readNot 90 = .ok (.iload_n 3, 1) := by decide +kernel
theorem dX12_readNot_91 : decode cX12_readNot 91 = .ok (.invokevirtual 243, 3) := by decide +kernel
theorem dX12_readNot_94 : decode cX12_readNot 94 = .ok (.iconst 0, 1) := by decide +kernel
theorem dX12_readNot_95 : decode cX12_readNot 95 = .ok (.istore_n 3, 1) := by decide +kernel
theorem dX12_readNot_96 : decode cX12_readNot 96 = .ok (.iload_n 3, 1) := by decide +kernel
theorem dX12_readNot_97 : decode cX12_readNot 97 = .ok (.iload_n 2, 1) := by decide +kernel
theorem dX12_readNot_98 : decode cX12_readNot 98 = .ok (.if_icmp .ge 15, 3) := by decide +kernel
theorem dX12_readNot_101 : decode cX12_readNot 101 = .ok (.aload_n 0, 1) := by decide +kernel
theorem dX12_readNot_102 : decode cX12_readNot 102 = .ok (.bipush (-28), 2) := by decide +kernel
theorem dX12_readNot_104 : decode cX12_readNot 104 = .ok (.invokevirtual 243, 3) := by decide +kernel
theorem dX12_readNot_107 : decode cX12_readNot 107 = .ok (.iinc 3 1, 3) := by decide +kernel
theorem dX12_readNot_110 : decode cX12_readNot 110 = .ok (.goto (-14), 3) := by decide +kernel
theorem dX12_readNot_113 : decode cX12_readNot 113 = .ok (.return_, 1) := by decide +kernel
theorem dX12_readAnd_0 : decode cX12_readAnd 0 = .ok (.aload_n 0, 1) := by decide +kernel
theorem dX12_readAnd_1 : decode cX12_readAnd 1 = .ok (.iload_n 1, 1) := by decide +kernel
theorem dX12_readAnd_2 : decode cX12_readAnd 2 = .ok (.invokevirtual 267, 3) := by decide +kernel
theorem dX12_readAnd_5 : decode cX12_readAnd 5 = .ok (.aload_n 0, 1) := by decide +kernel
theorem dX12_readAnd_6 : decode cX12_readAnd 6 = .ok (.ldc_w 270, 3) := by decide +kernel
theorem dX12_readAnd_9 : decode cX12_readAnd 9 = .ok (.invokevirtual 226, 3) := by decide +kernel
theorem dX12_readAnd_12 : decode cX12_readAnd 12 = .ok (.ifCond .eq 21, 3) := by decide +kernel
theorem dX12_readAnd_15 : decode cX12_readAnd 15 = .ok (.aload_n 0, 1) := by decide +kernel
theorem dX12_readAnd_16 : decode cX12_readAnd 16 = .ok (.invokevirtual 237, 3) := by decide +kernel
theorem dX12_readAnd_19 : decode cX12_readAnd 19 = .ok (.aload_n 0, 1) := by decide +kernel
theorem dX12_readAnd_20 : decode cX12_readAnd 20 = .ok (.iload_n 1, 1) := by decide +kernel
theorem dX12_readAnd_21 : decode cX12_readAnd 21 = .ok (.invokevirtual 267, 3) := by decide +kernel
theorem dX12_readAnd_24 : decode cX12_readAnd 24 = .ok (.aload_n 0, 1) := by decide +kernel
theorem dX12_readAnd_25 : decode cX12_readAnd 25 = .ok (.bipush (-26), 2) := by decide +kernel
theorem dX12_readAnd_27 : decode cX12_readAnd 27 = .ok (.invokevirtual 243, 3) := by decide +kernel
theorem dX12_readAnd_30 : decode cX12_readAnd 30 = .ok (.goto (-25), 3) := by decide +kernel
theorem dX12_readAnd_33 : decode cX12_readAnd 33 = .ok (.return_, 1) := by decide +kernel
theorem dX12_readExpression_0 : decode cX12_readExpression 0 = .ok (.aload_n 0, 1) := by decide +kernel
theorem dX12_readExpression_1 : decode cX12_readExpression 1 = .ok (.getfield 212, 3) := by decide +kernel
theorem dX12_readExpression_4 : decode cX12_readExpression 4 = .ok (.ifCond .eq 4, 3) := by decide +kernel
theorem dX12_readExpression_7 : decode cX12_readExpression 7 = .ok (.return_, 1) := by decide +kernel
theorem dX12_readExpression_8 : decode cX12_readExpression 8 = .ok (.aload_n 0, 1) := by decide +kernel
theorem dX12_readExpression_9 : decode cX12_readExpression 9 = .ok (.getfield 186, 3) := by decide +kernel
theorem dX12_readExpression_12 : decode cX12_readExpression 12 = .ok (.iconst 2, 1) := by decide +kernel
theorem dX12_readExpression_13 : decode cX12_readExpression 13 = .ok (.if_icmp .eq 20, 3) := by decide +kernel
theorem dX12_readExpression_16 : decode cX12_readExpression 16 = .ok (.aload_n 0, 1) := by decide +kernel
theorem dX12_readExpression_17 : decode cX12_readExpression 17 = .ok (.getfield 186, 3) := by decide +kernel
theorem dX12_readExpression_20 : decode cX12_readExpression 20 = .ok (.iconst 1, 1) := by decide +kernel
theorem dX12_readExpression_21 : decode cX12_readExpression 21 = .ok (.if_icmp .eq 12, 3) := by decide +kernel
theorem dX12_readExpression_24 : decode cX12_readExpression 24 = .ok (.aload_n 0, 1) := by decide +kernel
theorem dX12_readExpression_25 : decode cX12_readExpression 25 = .ok (.bipush 40, 2) := by decide +kernel
theorem dX12_readExpression_27 : decode cX12_readExpression 27 = .ok (.invokevirtual 230, 3) := by decide +kernel
theorem dX12_readExpression_30 : decode cX12_readExpression 30 = .ok (.ifCond .eq 7, 3) := by decide +kernel
theorem dX12_readExpression_33 : decode cX12_readExpression 33 = .ok (.iconst 1, 1) := by decide +kernel
theorem dX12_readExpression_34 : decode cX12_readExpression 34 = .ok (.goto 4, 3) := by decide +kernel
theorem dX12_readExpression_37 : decode cX12_readExpression 37 = .ok (.iconst 0, 1) := by decide +kernel
theorem dX12_readExpression_38 : decode cX12_readExpression 38 = .ok (.istore_n 2, 1) := by decide +kernel
theorem dX12_readExpression_39 : decode cX12_readExpression 39 = .ok (.iload_n 2, 1) := by decide +kernel
theorem dX12_readExpression_40 : decode cX12_readExpression 40 = .ok (.ifCond .ne 11, 3) := by decide +kernel
theorem dX12_readExpression_43 : decode cX12_readExpression 43 = .ok (.aload_n 0, 1) := by decide +kernel
theorem dX12_readExpression_44 : decode cX12_readExpression 44 = .ok (.iconst 1, 1) := by decide +kernel
theorem dX12_readExpression_45 : decode cX12_readExpression 45 = .ok (.invokevirtual 233, 3) := by decide +kernel
theorem dX12_readExpression_48 : decode cX12_readExpression 48 = .ok (.goto 14, 3) := by decide +kernel
theorem dX12_readExpression_51 : decode cX12_readExpression 51 = .ok (.iload_n 1, 1) := by decide +kernel
theorem dX12_readExpression_52 : decode cX12_readExpression 52 = .ok (.bipush 6, 2) := by decide +kernel
theorem dX12_readExpression_54 : decode cX12_readExpression 54 = .ok (.if_icmp .ne 8, 3) := by decide +kernel
theorem dX12_readExpression_57 : decode cX12_readExpression 57 = .ok (.aload_n 0, 1) := by decide +kernel
theorem dX12_readExpression_58 : decode cX12_readExpression 58 = .ok (.iconst 2, 1) := by decide +kernel
theorem dX12_readExpression_59 : decode cX12_readExpression 59 = .ok (.invokevirtual 233, 3) := by decide +kernel
theorem dX12_readExpression_62 : decode cX12_readExpression 62 = .ok (.aload_n 0, 1) := by decide +kernel
theorem dX12_readExpression_63 : decode cX12_readExpression 63 = .ok (.iload_n 1, 1) := by decide +kernel
theorem dX12_readExpression_64 : decode cX12_readExpression 64 = .ok (.invokevirtual 272, 3) := by decide +kernel
theorem dX12_readExpression_67 : decode cX12_readExpression 67 = .ok (.aload_n 0, 1) := by decide +kernel
theorem dX12_readExpression_68 : decode cX12_readExpression 68 = .ok (.ldc_w 275, 3) := by decide +kernel
theorem dX12_readExpression_71 : decode cX12_readExpression 71 = .ok (.invokevirtual 226, 3) := by decide +kernel
theorem dX12_readExpression_74 : decode cX12_readExpression 74 = .ok (.ifCond .eq 21, 3) := by decide +kernel
theorem dX12_readExpression_77 : decode cX12_readExpression 77 = .ok (.aload_n 0, 1) := by decide +kernel
theorem dX12_readExpression_78 : decode cX12_readExpression 78 = .ok (.invokevirtual 237, 3) := by decide +kernel
theorem dX12_readExpression_81 : decode cX12_readExpression 81 = .ok (.aload_n 0, 1) := by decide +kernel
theorem dX12_readExpression_82 : decode cX12_readExpression 82 = .ok (.iload_n 1, 1) := by decide +kernel
theorem dX12_readExpression_83 : decode cX12_readExpression 83 = .ok (.invokevirtual 272, 3) := by decide +kernel
theorem dX12_readExpression_86 : decode cX12_readExpression 86 = .ok (.aload_n 0, 1) := by decide +kernel
theorem dX12_readExpression_87 : decode cX12_readExpression 87 = .ok (.bipush (-27), 2) := by decide +kernel
theorem dX12_readExpression_89 : decode cX12_readExpression 89 = .ok (.invokevirtual 243, 3) := by decide +kernel
theorem dX12_readExpression_92 : decode cX12_readExpression 92 = .ok (.goto (-25), 3) := by decide +kernel
theorem dX12_readExpression_95 : decode cX12_readExpression 95 = .ok (.return_, 1) := by decide +kernel
theorem dX12_readLine_0 : decode cX12_readLine 0 = .ok (.aload_n 0, 1) := by decide +kernel
theorem dX12_readLine_1 : decode cX12_readLine 1 = .ok (.aload_n 0, 1) := by decide +kernel
theorem dX12_readLine_2 : decode cX12_readLine 2 = .ok (.getfield 17, 3) := by decide +kernel
theorem dX12_readLine_5 : decode cX12_readLine 5 = .ok (.invokevirtual 246, 3) := by decide +kernel
theorem dX12_readLine_8 : decode cX12_readLine 8 = .ok (.istore_n 2, 1) := by decide +kernel
theorem dX12_readLine_9 : decode cX12_readLine 9 = .ok (.aload_n 0, 1) := by decide +kernel
theorem dX12_readLine_10 : decode cX12_readLine 10 = .ok (.aload_n 0, 1) := by decide +kernel
theorem dX12_readLine_11 : decode cX12_readLine 11 = .ok (.getfield 29, 3) := by decide +kernel
theorem dX12_readLine_14 : decode cX12_readLine 14 = .ok (.invokevirtual 246, 3) := by decide +kernel
theorem dX12_readLine_17 : decode cX12_readLine 17 = .ok (.istore_n 3, 1) := by decide +kernel
theorem dX12_readLine_18 : decode cX12_readLine 18 = .ok (.aload_n 0, 1) := by decide +kernel
theorem dX12_readLine_19 : decode cX12_readLine 19 = .ok (.ldc_w 284, 3) := by decide +kernel
theorem dX12_readLine_22 : decode cX12_readLine 22 = .ok (.invokevirtual 226, 3) := by decide +kernel
theorem dX12_readLine_25 : decode cX12_readLine 25 = .ok (.ifCond .eq 37, 3) := by decide +kernel
theorem dX12_readLine_28 : decode cX12_readLine 28 = .ok (.iload_n 1, 1) := by decide +kernel
theorem dX12_readLine_29 : decode cX12_readLine 29 = .ok (.iconst 1, 1) := by decide +kernel
theorem dX12_readLine_30 : decode cX12_readLine 30 = .ok (.if_icmp .ne 8, 3) := by decide +kernel
theorem dX12_readLine_33 : decode cX12_readLine 33 = .ok (.aload_n 0, 1) := by decide +kernel
theorem dX12_readLine_34 : decode cX12_readLine 34 = .ok (.iconst 5, 1) := by decide +kernel
theorem dX12_readLine_35 : decode cX12_readLine 35 = .ok (.invokevirtual 233, 3) := by decide +kernel
theorem dX12_readLine_38 : decode cX12_readLine 38 = .ok (.aload_n 0, 1) := by decide +kernel
theorem dX12_readLine_39 : decode cX12_readLine 39 = .ok (.getfield 212, 3) := by decide +kernel
theorem dX12_readLine_42 : decode cX12_readLine 42 = .ok (.ifCond .ne 7, 3) := by decide +kernel
theorem dX12_readLine_45 : decode cX12_readLine 45 = .ok (.aload_n 0, 1) := by decide +kernel
theorem dX12_readLine_46 : decode cX12_readLine 46 = .ok (.invokevirtual 237, 3) := by decide +kernel
theorem dX12_readLine_49 : decode cX12_readLine 49 = .ok (.aload_n 0, 1) := by decide +kernel
theorem dX12_readLine_50 : decode cX12_readLine 50 = .ok (.iconst 0, 1) := by decide +kernel
theorem dX12_readLine_51 : decode cX12_readLine 51 = .ok (.invokevirtual 253, 3) := by decide +kernel
theorem dX12_readLine_54 : decode cX12_readLine 54 = .ok (.aload_n 0, 1) := by decide +kernel
theorem dX12_readLine_55 : decode cX12_readLine 55 = .ok (.bipush 59, 2) := by decide +kernel
theorem dX12_readLine_57 : decode cX12_readLine 57 = .ok (.invokevirtual 250, 3) := by decide +kernel
theorem dX12_readLine_60 : decode cX12_readLine 60 = .ok (.iconst 1, 1) := by decide +kernel
theorem dX12_readLine_61 : decode cX12_readLine 61 = .ok (.ireturn, 1) := by decide +kernel
theorem dX12_readLine_62 : decode cX12_readLine 62 = .ok (.iload_n 2, 1) := by decide +kernel
theorem dX12_readLine_63 : decode cX12_readLine 63 = .ok (.iconst (-1), 1) := by decide +kernel
theorem dX12_readLine_64 : decode cX12_readLine 64 = .ok (.if_icmp .eq 11, 3) := by decide +kernel
theorem dX12_readLine_67 : decode cX12_readLine 67 = .ok (.aload_n 0, 1) := by decide +kernel
theorem dX12_readLine_68 : decode cX12_readLine 68 = .ok (.iload_n 2, 1) := by decide +kernel
theorem dX12_readLine_69 : decode cX12_readLine 69 = .ok (.invokevirtual 286, 3) := by decide +kernel
theorem dX12_readLine_72 : decode cX12_readLine 72 = .ok (.goto 21, 3) := by decide +kernel
theorem dX12_readLine_75 : decode cX12_readLine 75 = .ok (.iload_n 3, 1) := by decide +kernel
theorem dX12_readLine_76 : decode cX12_readLine 76 = .ok (.iconst (-1), 1) := by decide +kernel
theorem dX12_readLine_77 : decode cX12_readLine 77 = .ok (.if_icmp .eq 11, 3) := by decide +kernel
theorem dX12_readLine_80 : decode cX12_readLine 80 = .ok (.aload_n 0, 1) := by decide +kernel
theorem dX12_readLine_81 : decode cX12_readLine 81 = .ok (.iload_n 3, 1) := by decide +kernel
theorem dX12_readLine_82 : decode cX12_readLine 82 = .ok (.invokevirtual 289, 3) := by decide +kernel
theorem dX12_readLine_85 : decode cX12_readLine 85 = .ok (.goto 8, 3) := by decide +kernel
theorem dX12_readLine_88 : decode cX12_readLine 88 = .ok (.aload_n 0, 1) := by decide +kernel
theorem dX12_readLine_89 : decode cX12_readLine 89 = .ok (.iconst 1, 1) := by decide +kernel
theorem dX12_readLine_90 : decode cX12_readLine 90 = .ok (.invokevirtual 233, 3) := by decide +kernel
theorem dX12_readLine_93 : decode cX12_readLine 93 = .ok (.aload_n 0, 1) := by decide +kernel
theorem dX12_readLine_94 : decode cX12_readLine 94 = .ok (.bipush 59, 2) := by decide +kernel
theorem dX12_readLine_96 : decode cX12_readLine 96 = .ok (.invokevirtual 250, 3) := by decide +kernel
theorem dX12_readLine_99 : decode cX12_readLine 99 = .ok (.iload_n 1, 1) := by decide +kernel
theorem dX12_readLine_100 : decode cX12_readLine 100 = .ok (.ireturn, 1) := by decide +kernel
theorem dX12_takeHalf_0 : decode cX12_takeHalf 0 = .ok (.iconst 0, 1) := by decide +kernel
theorem dX12_takeHalf_1 : decode cX12_takeHalf 1 = .ok (.istore_n 1, 1) := by decide +kernel
theorem dX12_takeHalf_2 : decode cX12_takeHalf 2 = .ok (.iload_n 1, 1) := by decide +kernel
theorem dX12_takeHalf_3 : decode cX12_takeHalf 3 = .ok (.aload_n 0, 1) := by decide +kernel
theorem dX12_takeHalf_4 : decode cX12_takeHalf 4 = .ok (.arraylength, 1) := by decide +kernel
theorem dX12_takeHalf_5 : decode cX12_takeHalf 5 = .ok (.iconst 2, 1) := by decide +kernel
theorem dX12_takeHalf_6 : decode cX12_takeHalf 6 = .ok (.idiv, 1) := by decide +kernel
theorem dX12_takeHalf_7 : decode cX12_takeHalf 7 = .ok (.if_icmp .ge 20, 3) := by decide +kernel
theorem dX12_takeHalf_10 : decode cX12_takeHalf 10 = .ok (.aload_n 0, 1) := by decide +kernel
theorem dX12_takeHalf_11 : decode cX12_takeHalf 11 = .ok (.iload_n 1, 1) := by decide +kernel
theorem dX12_takeHalf_12 : decode cX12_takeHalf 12 = .ok (.aload_n 0, 1) := by decide +kernel
theorem dX12_takeHalf_13 : decode cX12_takeHalf 13 = .ok (.aload_n 0, 1) := by decide +kernel
theorem dX12_takeHalf_14 : decode cX12_takeHalf 14 = .ok (.arraylength, 1) := by decide +kernel
theorem dX12_takeHalf_15 : decode cX12_takeHalf 15 = .ok (.iconst 2, 1) := by decide +kernel
theorem dX12_takeHalf_16 : decode cX12_takeHalf 16 = .ok (.idiv, 1) := by decide +kernel
theorem dX12_takeHalf_17 : decode cX12_takeHalf 17 = .ok (.iload_n 1, 1) := by decide +kernel
theorem dX12_takeHalf_18 : decode cX12_takeHalf 18 = .ok (.iadd, 1) := by decide +kernel
theorem dX12_takeHalf_19 : decode cX12_takeHalf 19 = .ok (.iaload, 1) := by decide +kernel
theorem dX12_takeHalf_20 : decode cX12_takeHalf 20 = .ok (.iastore, 1) := by decide +kernel
theorem dX12_takeHalf_21 : decode cX12_takeHalf 21 = .ok (.iinc 1 1, 3) := by decide +kernel
theorem dX12_takeHalf_24 : decode cX12_takeHalf 24 = .ok (.goto (-22), 3) := by decide +kernel
theorem dX12_takeHalf_27 : decode cX12_takeHalf 27 = .ok (.return_, 1) := by decide +kernel
def lp_MD_readWord_65 (n : Nat) (v1 : Int32) (v2 : Int32) (μ : kbM) : Nat → Int32 → Int32 → Option (Int32)
  | 0, _, _ => none
  | k + 1, v3, v4 =>
    if (μ.1 57 20) = 0 then
      if (μ.1 57 19) ≤ v4 then
        some v3
      else
        kbIf (kbIn v4 600) <|
        (f_MD_soundOf (μ.1 69 v4.toNatClampNeg)).bind fun x3 =>
        lp_MD_readWord_65 n v1 v2 μ k ((5 * v3) + x3) (v4 + 1)
    else
      some v3
theorem lpR_MD_readWord_65 {l : Launch} (n : Nat) (v1 : Int32) (v2 : Int32) (μ : kbM)  {Q : kbQt} {P : Int32 → Prop} (hx : ∀ z : Int32, P (z) → kbR l MX12_readWord 4 Q 102 [some (.ref 57), some (.int v1), some (.int v2), some (.int z), none] [] μ) : ∀ (k : Nat) (v3 : Int32) (v4 : Int32), kbG (lp_MD_readWord_65 n v1 v2 μ k v3 v4) P → kbR l MX12_readWord 4 Q 65 [some (.ref 57), some (.int v1), some (.int v2), some (.int v3), some (.int v4)] [] μ := by
  intro k
  induction k with
  | zero => intro v3 v4 h; exact absurd h kbG_none
  | succ k ih =>
    intro v3 v4 h
    unfold lp_MD_readWord_65 at h
    refine r_aload_n dX12_readWord_65 rfl ?_
    refine r_getI flX12_212 sh57 rfl dX12_readWord_66 ?_
    refine r_if_ne 102 dX12_readWord_69 (by decide) (fun hc => ?_) (fun hc => ?_)
    · replace h := kbG_f hc h
      refine r_le [some (.ref 57), some (.int v1), some (.int v2), some (.int v3), none] ⟨rfl, ⟨rfl, ⟨rfl, ⟨rfl, trivial⟩⟩⟩⟩ ?_
      exact hx v3 (kbG_some h)
    · replace h := kbG_t hc h
      refine r_iload dX12_readWord_72 rfl ?_
      refine r_aload_n dX12_readWord_74 rfl ?_
      refine r_getI flX12_209 sh57 rfl dX12_readWord_75 ?_
      refine r_icmp_ge 102 dX12_readWord_78 (by decide) (fun hc => ?_) (fun hc => ?_)
      · replace h := kbG_t hc h
        refine r_le [some (.ref 57), some (.int v1), some (.int v2), some (.int v3), none] ⟨rfl, ⟨rfl, ⟨rfl, ⟨rfl, trivial⟩⟩⟩⟩ ?_
        exact hx v3 (kbG_some h)
      · replace h := kbG_f hc h
        refine r_iconst 5 dX12_readWord_81 (by decide) ?_
        refine r_iload_n dX12_readWord_82 rfl ?_
        refine r_imul dX12_readWord_83 ?_
        refine r_aload_n dX12_readWord_84 rfl ?_
        refine r_getR flX12_72 sh57 rfl dX12_readWord_85 ?_
        refine r_iload dX12_readWord_88 rfl ?_
        obtain ⟨hin, h⟩ := kbG_if h
        replace hin := kbIn_of hin
        refine q_iald v4.toNatClampNeg rfl sh69 hin dX12_readWord_90 ?_
        obtain ⟨x3, hx0, h⟩ := kbG_bind h
        refine r_inv_i csX12_277 (sp_MD_soundOf (μ.1 69 v4.toNatClampNeg) μ hx0) rfl rfl (Nat.le_of_ble_eq_true rfl) (Nat.le_of_ble_eq_true rfl) dX12_readWord_91 ?_
        refine r_iadd dX12_readWord_94 ?_
        refine r_istore_n dX12_readWord_95 (Nat.le_of_ble_eq_true rfl) rfl ?_
        refine r_iinc 1 dX12_readWord_96 rfl (by decide) (Nat.le_of_ble_eq_true rfl) rfl ?_
        refine r_goto 65 dX12_readWord_99 (by decide) ?_
        refine r_le [some (.ref 57), some (.int v1), some (.int v2), some (.int ((5 * v3) + x3)), some (.int (v4 + 1))] ⟨rfl, ⟨rfl, ⟨rfl, ⟨rfl, ⟨rfl, trivial⟩⟩⟩⟩⟩ ?_
        exact ih ((5 * v3) + x3) (v4 + 1) h
def jn_MD_readWord_138 (n : Nat) (rec : Int32 → kbM → Option (kbM)) (v1 : Int32) (v2 : Int32) (v3 : Int32) (v4 : Int32) (μ : kbM) : Option (kbM) :=
  rec (v4 + 1) μ
theorem jnR_MD_readWord_138 {l : Launch} (n : Nat)   (v1 : Int32) (v2 : Int32) (v3 : Int32) (v4 : Int32) (μ : kbM) {Q : kbQt} {P : kbM → Prop} (hx : ∀ z : kbM, P (z) → kbR l MX12_readWord 4 Q 144 [some (.ref 57), some (.int v1), some (.int v2), some (.int v3), none] [] z) {rec : Int32 → kbM → Option (kbM)} (hrec : ∀ (v4 : Int32) (μ : kbM), kbG (rec v4 μ) P → kbR l MX12_readWord 4 Q 106 [some (.ref 57), some (.int v1), some (.int v2), some (.int v3), some (.int v4)] [] μ) (h : kbG (jn_MD_readWord_138 n rec v1 v2 v3 v4 μ) P) : kbR l MX12_readWord 4 Q 138 [some (.ref 57), some (.int v1), some (.int v2), some (.int v3), some (.int v4)] [] μ := by
  unfold jn_MD_readWord_138 at h
  refine r_iinc 1 dX12_readWord_138 rfl (by decide) (Nat.le_of_ble_eq_true rfl) rfl ?_
  refine r_goto 106 dX12_readWord_141 (by decide) ?_
  refine r_le [some (.ref 57), some (.int v1), some (.int v2), some (.int v3), some (.int (v4 + 1))] ⟨rfl, ⟨rfl, ⟨rfl, ⟨rfl, ⟨rfl, trivial⟩⟩⟩⟩⟩ ?_
  exact hrec (v4 + 1) μ h
def lp_MD_readWord_106 (n : Nat) (v1 : Int32) (v2 : Int32) (v3 : Int32) : Nat → Int32 → kbM → Option (kbM)
  | 0, _, _ => none
  | k + 1, v4, μ =>
    if (μ.1 57 20) = 0 then
      if (10 + v2) ≤ v4 then
        some μ
      else
        kbIf (kbIn v4 20) <|
        if (μ.1 62 v4.toNatClampNeg) = v3 then
          (f_MD_wrong 4 μ).bind fun x5 =>
          jn_MD_readWord_138 n (lp_MD_readWord_106 n v1 v2 v3 k) v1 v2 v3 v4 x5
        else
          jn_MD_readWord_138 n (lp_MD_readWord_106 n v1 v2 v3 k) v1 v2 v3 v4 μ
    else
      some μ
theorem lpR_MD_readWord_106 {l : Launch} (n : Nat) (v1 : Int32) (v2 : Int32) (v3 : Int32)  {Q : kbQt} {P : kbM → Prop} (hx : ∀ z : kbM, P (z) → kbR l MX12_readWord 4 Q 144 [some (.ref 57), some (.int v1), some (.int v2), some (.int v3), none] [] z) : ∀ (k : Nat) (v4 : Int32) (μ : kbM), kbG (lp_MD_readWord_106 n v1 v2 v3 k v4 μ) P → kbR l MX12_readWord 4 Q 106 [some (.ref 57), some (.int v1), some (.int v2), some (.int v3), some (.int v4)] [] μ := by
  intro k
  induction k with
  | zero => intro v4 μ h; exact absurd h kbG_none
  | succ k ih =>
    intro v4 μ h
    unfold lp_MD_readWord_106 at h
    refine r_aload_n dX12_readWord_106 rfl ?_
    refine r_getI flX12_212 sh57 rfl dX12_readWord_107 ?_
    refine r_if_ne 144 dX12_readWord_110 (by decide) (fun hc => ?_) (fun hc => ?_)
    · replace h := kbG_f hc h
      refine r_le [some (.ref 57), some (.int v1), some (.int v2), some (.int v3), none] ⟨rfl, ⟨rfl, ⟨rfl, ⟨rfl, trivial⟩⟩⟩⟩ ?_
      exact hx μ (kbG_some h)
    · replace h := kbG_t hc h
      refine r_iload dX12_readWord_113 rfl ?_
      refine r_bipush 10 dX12_readWord_115 (by decide) ?_
      refine r_iload_n dX12_readWord_117 rfl ?_
      refine r_iadd dX12_readWord_118 ?_
      refine r_icmp_ge 144 dX12_readWord_119 (by decide) (fun hc => ?_) (fun hc => ?_)
      · replace h := kbG_t hc h
        refine r_le [some (.ref 57), some (.int v1), some (.int v2), some (.int v3), none] ⟨rfl, ⟨rfl, ⟨rfl, ⟨rfl, trivial⟩⟩⟩⟩ ?_
        exact hx μ (kbG_some h)
      · replace h := kbG_f hc h
        refine r_aload_n dX12_readWord_122 rfl ?_
        refine r_getR flX12_51 sh57 rfl dX12_readWord_123 ?_
        refine r_iload dX12_readWord_126 rfl ?_
        obtain ⟨hin, h⟩ := kbG_if h
        replace hin := kbIn_of hin
        refine q_iald v4.toNatClampNeg rfl sh62 hin dX12_readWord_128 ?_
        refine r_iload_n dX12_readWord_129 rfl ?_
        refine r_icmp_ne 138 dX12_readWord_130 (by decide) (fun hc => ?_) (fun hc => ?_)
        · replace h := kbG_f hc h
          refine r_le [some (.ref 57), some (.int v1), some (.int v2), some (.int v3), some (.int v4)] ⟨rfl, ⟨rfl, ⟨rfl, ⟨rfl, ⟨rfl, trivial⟩⟩⟩⟩⟩ ?_
          exact jnR_MD_readWord_138 n v1 v2 v3 v4 μ (hx := hx) (hrec := ih) h
        · replace h := kbG_t hc h
          refine r_aload_n dX12_readWord_133 rfl ?_
          refine r_iconst 4 dX12_readWord_134 (by decide) ?_
          obtain ⟨x5, hx0, h⟩ := kbG_bind h
          refine r_invV_v cvX12_233 sh57 rfl (sp_MD_wrong 4 μ hx0) rfl rfl (Nat.le_of_ble_eq_true rfl) (Nat.le_of_ble_eq_true rfl) dX12_readWord_135 ?_
          refine r_le [some (.ref 57), some (.int v1), some (.int v2), some (.int v3), some (.int v4)] ⟨rfl, ⟨rfl, ⟨rfl, ⟨rfl, ⟨rfl, trivial⟩⟩⟩⟩⟩ ?_
          exact jnR_MD_readWord_138 n v1 v2 v3 v4 x5 (hx := hx) (hrec := ih) h
def jn_MD_readWord_144 (n : Nat) (v1 : Int32) (v2 : Int32) (v3 : Int32) (μ : kbM) : Option (kbM) :=
  if (μ.1 57 20) = 0 then
    (f_MD_stepOn n μ).bind fun x7 =>
    kbIf (kbIn (10 + v2) 20) <|
    kbIf (kbIn (10 + v2) 20) <|
    (f_MD_readNumber n 0 99 (kbW (kbW x7 62 ((10 + v2).toNatClampNeg) v3) 63 ((10 + v2).toNatClampNeg) v1)).bind fun x8 =>
    kbIf (kbIn (10 + v2) 20) <|
    some (kbW (kbW x8.2 64 ((10 + v2).toNatClampNeg) x8.1) 61 3 (((kbW x8.2 64 ((10 + v2).toNatClampNeg) x8.1).1 61 3) + 1))
  else
    some μ
theorem jnR_MD_readWord_144 {l : Launch} (n : Nat)   (v1 : Int32) (v2 : Int32) (v3 : Int32) (μ : kbM) {Q : kbQt} {P : kbM → Prop} (hr : ∀ z : kbM, P z → Q none z) (h : kbG (jn_MD_readWord_144 n v1 v2 v3 μ) P) : kbR l MX12_readWord 4 Q 144 [some (.ref 57), some (.int v1), some (.int v2), some (.int v3), none] [] μ := by
  unfold jn_MD_readWord_144 at h
  refine r_aload_n dX12_readWord_144 rfl ?_
  refine r_getI flX12_212 sh57 rfl dX12_readWord_145 ?_
  refine r_if_eq 152 dX12_readWord_148 (by decide) (fun hc => ?_) (fun hc => ?_)
  · replace h := kbG_t hc h
    refine r_aload_n dX12_readWord_152 rfl ?_
    obtain ⟨x7, hx0, h⟩ := kbG_bind h
    refine r_invV_v cvX12_237 sh57 rfl (sp_MD_stepOn n μ hx0) rfl rfl (Nat.le_of_ble_eq_true rfl) (Nat.le_of_ble_eq_true rfl) dX12_readWord_153 ?_
    refine r_aload_n dX12_readWord_156 rfl ?_
    refine r_getR flX12_51 sh57 rfl dX12_readWord_157 ?_
    refine r_bipush 10 dX12_readWord_160 (by decide) ?_
    refine r_iload_n dX12_readWord_162 rfl ?_
    refine r_iadd dX12_readWord_163 ?_
    refine r_iload_n dX12_readWord_164 rfl ?_
    obtain ⟨hin, h⟩ := kbG_if h
    replace hin := kbIn_of hin
    refine q_iast ((10 + v2).toNatClampNeg) rfl sh62 hin dX12_readWord_165 ?_
    refine r_aload_n dX12_readWord_166 rfl ?_
    refine r_getR flX12_54 sh57 rfl dX12_readWord_167 ?_
    refine r_bipush 10 dX12_readWord_170 (by decide) ?_
    refine r_iload_n dX12_readWord_172 rfl ?_
    refine r_iadd dX12_readWord_173 ?_
    refine r_iload_n dX12_readWord_174 rfl ?_
    obtain ⟨hin, h⟩ := kbG_if h
    replace hin := kbIn_of hin
    refine q_iast ((10 + v2).toNatClampNeg) rfl sh63 hin dX12_readWord_175 ?_
    refine r_aload_n dX12_readWord_176 rfl ?_
    refine r_getR flX12_57 sh57 rfl dX12_readWord_177 ?_
    refine r_bipush 10 dX12_readWord_180 (by decide) ?_
    refine r_iload_n dX12_readWord_182 rfl ?_
    refine r_iadd dX12_readWord_183 ?_
    refine r_aload_n dX12_readWord_184 rfl ?_
    refine r_iconst 0 dX12_readWord_185 (by decide) ?_
    refine r_bipush 99 dX12_readWord_186 (by decide) ?_
    obtain ⟨x8, hx0, h⟩ := kbG_bind h
    refine r_invV_i cvX12_240 sh57 rfl (sp_MD_readNumber n 0 99 (kbW (kbW x7 62 ((10 + v2).toNatClampNeg) v3) 63 ((10 + v2).toNatClampNeg) v1) hx0) rfl rfl (Nat.le_of_ble_eq_true rfl) (Nat.le_of_ble_eq_true rfl) dX12_readWord_188 ?_
    obtain ⟨hin, h⟩ := kbG_if h
    replace hin := kbIn_of hin
    refine q_iast ((10 + v2).toNatClampNeg) rfl sh64 hin dX12_readWord_191 ?_
    refine r_aload_n dX12_readWord_192 rfl ?_
    refine r_getR flX12_47 sh57 rfl dX12_readWord_193 ?_
    refine r_iconst 3 dX12_readWord_196 (by decide) ?_
    refine r_dup2 dX12_readWord_197 rfl rfl ?_
    have hin : vp_in 3 6 := kbIn_of (by decide)
    refine q_iald 3 (by decide) sh61 hin dX12_readWord_198 ?_
    refine r_iconst 1 dX12_readWord_199 (by decide) ?_
    refine r_iadd dX12_readWord_200 ?_
    have hin : vp_in 3 6 := kbIn_of (by decide)
    refine q_iast 3 (by decide) sh61 hin dX12_readWord_201 ?_
    exact r_vret rfl dX12_readWord_202 (hr (kbW (kbW x8.2 64 ((10 + v2).toNatClampNeg) x8.1) 61 3 (((kbW x8.2 64 ((10 + v2).toNatClampNeg) x8.1).1 61 3) + 1)) (kbG_some h))
  · replace h := kbG_f hc h
    exact r_vret rfl dX12_readWord_151 (hr μ (kbG_some h))
def jn_MD_readWord_102 (n : Nat) (v1 : Int32) (v2 : Int32) (v3 : Int32) (μ : kbM) : Option (kbM) :=
  (lp_MD_readWord_106 n v1 v2 v3 n 10 μ).bind fun x6 =>
  jn_MD_readWord_144 n v1 v2 v3 x6
theorem jnR_MD_readWord_102 {l : Launch} (n : Nat)   (v1 : Int32) (v2 : Int32) (v3 : Int32) (μ : kbM) {Q : kbQt} {P : kbM → Prop} (hr : ∀ z : kbM, P z → Q none z) (h : kbG (jn_MD_readWord_102 n v1 v2 v3 μ) P) : kbR l MX12_readWord 4 Q 102 [some (.ref 57), some (.int v1), some (.int v2), some (.int v3), none] [] μ := by
  unfold jn_MD_readWord_102 at h
  refine r_bipush 10 dX12_readWord_102 (by decide) ?_
  refine r_istore dX12_readWord_104 (Nat.le_of_ble_eq_true rfl) rfl ?_
  refine r_le [some (.ref 57), some (.int v1), some (.int v2), some (.int v3), some (.int 10)] ⟨rfl, ⟨rfl, ⟨rfl, ⟨rfl, ⟨rfl, trivial⟩⟩⟩⟩⟩ ?_
  obtain ⟨x6, hx0, h⟩ := kbG_bind h
  refine lpR_MD_readWord_106 n v1 v2 v3 (P := fun z => x6 = z) (hx := fun z e => ?_) n _ _ ⟨_, hx0, rfl⟩
  subst e
  refine r_le [some (.ref 57), some (.int v1), some (.int v2), some (.int v3), none] ⟨rfl, ⟨rfl, ⟨rfl, ⟨rfl, trivial⟩⟩⟩⟩ ?_
  exact jnR_MD_readWord_144 n v1 v2 v3 x6 (hr := hr) h
def jn_MD_readWord_57 (n : Nat) (v1 : Int32) (v2 : Int32) (μ : kbM) : Option (kbM) :=
  (lp_MD_readWord_65 n v1 v2 μ n 0 (μ.1 57 18)).bind fun x4 =>
  jn_MD_readWord_102 n v1 v2 x4 μ
theorem jnR_MD_readWord_57 {l : Launch} (n : Nat)   (v1 : Int32) (v2 : Int32) (μ : kbM) {Q : kbQt} {P : kbM → Prop} (hr : ∀ z : kbM, P z → Q none z) (h : kbG (jn_MD_readWord_57 n v1 v2 μ) P) : kbR l MX12_readWord 4 Q 57 [some (.ref 57), some (.int v1), some (.int v2), none, none] [] μ := by
  unfold jn_MD_readWord_57 at h
  refine r_iconst 0 dX12_readWord_57 (by decide) ?_
  refine r_istore_n dX12_readWord_58 (Nat.le_of_ble_eq_true rfl) rfl ?_
  refine r_aload_n dX12_readWord_59 rfl ?_
  refine r_getI flX12_183 sh57 rfl dX12_readWord_60 ?_
  refine r_istore dX12_readWord_63 (Nat.le_of_ble_eq_true rfl) rfl ?_
  refine r_le [some (.ref 57), some (.int v1), some (.int v2), some (.int 0), some (.int (μ.1 57 18))] ⟨rfl, ⟨rfl, ⟨rfl, ⟨rfl, ⟨rfl, trivial⟩⟩⟩⟩⟩ ?_
  obtain ⟨x4, hx0, h⟩ := kbG_bind h
  refine lpR_MD_readWord_65 n v1 v2 μ (P := fun z => x4 = z) (hx := fun z e => ?_) n _ _ ⟨_, hx0, rfl⟩
  subst e
  refine r_le [some (.ref 57), some (.int v1), some (.int v2), some (.int x4), none] ⟨rfl, ⟨rfl, ⟨rfl, ⟨rfl, trivial⟩⟩⟩⟩ ?_
  exact jnR_MD_readWord_102 n v1 v2 x4 μ (hr := hr) h
def jn_MD_readWord_18 (n : Nat) (v1 : Int32) (v2 : Int32) (μ : kbM) : Option (kbM) :=
  if (μ.1 57 20) = 0 then
    (f_MD_stepOn n μ).bind fun x1 =>
    (f_MD_areSounds n x1).bind fun x2 =>
    if x2.1 = 0 then
      some x2.2
    else
      if ((x2.2.1 57 19) - (x2.2.1 57 18)) ≤ 6 then
        jn_MD_readWord_57 n v1 v2 x2.2
      else
        (f_MD_wrong 2 x2.2).bind fun x9 =>
        jn_MD_readWord_57 n v1 v2 x9
  else
    some μ
theorem jnR_MD_readWord_18 {l : Launch} (n : Nat)   (v1 : Int32) (v2 : Int32) (μ : kbM) {Q : kbQt} {P : kbM → Prop} (hr : ∀ z : kbM, P z → Q none z) (h : kbG (jn_MD_readWord_18 n v1 v2 μ) P) : kbR l MX12_readWord 4 Q 18 [some (.ref 57), some (.int v1), some (.int v2), none, none] [] μ := by
  unfold jn_MD_readWord_18 at h
  refine r_aload_n dX12_readWord_18 rfl ?_
  refine r_getI flX12_212 sh57 rfl dX12_readWord_19 ?_
  refine r_if_eq 26 dX12_readWord_22 (by decide) (fun hc => ?_) (fun hc => ?_)
  · replace h := kbG_t hc h
    refine r_aload_n dX12_readWord_26 rfl ?_
    obtain ⟨x1, hx0, h⟩ := kbG_bind h
    refine r_invV_v cvX12_237 sh57 rfl (sp_MD_stepOn n μ hx0) rfl rfl (Nat.le_of_ble_eq_true rfl) (Nat.le_of_ble_eq_true rfl) dX12_readWord_27 ?_
    refine r_aload_n dX12_readWord_30 rfl ?_
    obtain ⟨x2, hx0, h⟩ := kbG_bind h
    refine r_invV_i cvX12_280 sh57 rfl (sp_MD_areSounds n x1 hx0) rfl rfl (Nat.le_of_ble_eq_true rfl) (Nat.le_of_ble_eq_true rfl) dX12_readWord_31 ?_
    refine r_if_ne 38 dX12_readWord_34 (by decide) (fun hc => ?_) (fun hc => ?_)
    · replace h := kbG_f hc h
      refine r_aload_n dX12_readWord_38 rfl ?_
      refine r_getI flX12_209 sh57 rfl dX12_readWord_39 ?_
      refine r_aload_n dX12_readWord_42 rfl ?_
      refine r_getI flX12_183 sh57 rfl dX12_readWord_43 ?_
      refine r_isub dX12_readWord_46 ?_
      refine r_bipush 6 dX12_readWord_47 (by decide) ?_
      refine r_icmp_le 57 dX12_readWord_49 (by decide) (fun hc => ?_) (fun hc => ?_)
      · replace h := kbG_t hc h
        refine r_le [some (.ref 57), some (.int v1), some (.int v2), none, none] ⟨rfl, ⟨rfl, ⟨rfl, trivial⟩⟩⟩ ?_
        exact jnR_MD_readWord_57 n v1 v2 x2.2 (hr := hr) h
      · replace h := kbG_f hc h
        refine r_aload_n dX12_readWord_52 rfl ?_
        refine r_iconst 2 dX12_readWord_53 (by decide) ?_
        obtain ⟨x9, hx0, h⟩ := kbG_bind h
        refine r_invV_v cvX12_233 sh57 rfl (sp_MD_wrong 2 x2.2 hx0) rfl rfl (Nat.le_of_ble_eq_true rfl) (Nat.le_of_ble_eq_true rfl) dX12_readWord_54 ?_
        refine r_le [some (.ref 57), some (.int v1), some (.int v2), none, none] ⟨rfl, ⟨rfl, ⟨rfl, trivial⟩⟩⟩ ?_
        exact jnR_MD_readWord_57 n v1 v2 x9 (hr := hr) h
    · replace h := kbG_t hc h
      exact r_vret rfl dX12_readWord_37 (hr x2.2 (kbG_some h))
  · replace h := kbG_f hc h
    exact r_vret rfl dX12_readWord_25 (hr μ (kbG_some h))
def f_MD_readWord (n : Nat) (a1 : Int32) (μ : kbM) : Option (kbM) :=
  if (μ.1 61 3) = 10 then
    (f_MD_wrong 2 μ).bind fun x10 =>
    jn_MD_readWord_18 n a1 (μ.1 61 3) x10
  else
    jn_MD_readWord_18 n a1 (μ.1 61 3) μ
theorem sp_MD_readWord {l : Launch} (n : Nat) (a1 : Int32) (μ : kbM)  {x : kbM} (h : f_MD_readWord n a1 μ = some x) : kbS l MX12_readWord 4 [.ref 57, .int a1] μ (kbQe none x) := by
  refine kb_enter 3 rfl rfl ?_
  suffices H : ∀ (Q : kbQt) (P : kbM → Prop), (∀ z : kbM, P z → Q none z) → kbG (f_MD_readWord n a1 μ) P → kbR l MX12_readWord 4 Q 0 [some (.ref 57), some (.int a1), none, none, none] [] μ from H _ (fun z => z = x) (fun z e => by subst e; exact ⟨rfl, rfl⟩) ⟨x, h, rfl⟩
  clear h
  intro Q P hr h
  unfold f_MD_readWord at h
  refine r_aload_n dX12_readWord_0 rfl ?_
  refine r_getR flX12_47 sh57 rfl dX12_readWord_1 ?_
  refine r_iconst 3 dX12_readWord_4 (by decide) ?_
  have hin : vp_in 3 6 := kbIn_of (by decide)
  refine q_iald 3 (by decide) sh61 hin dX12_readWord_5 ?_
  refine r_istore_n dX12_readWord_6 (Nat.le_of_ble_eq_true rfl) rfl ?_
  refine r_iload_n dX12_readWord_7 rfl ?_
  refine r_bipush 10 dX12_readWord_8 (by decide) ?_
  refine r_icmp_ne 18 dX12_readWord_10 (by decide) (fun hc => ?_) (fun hc => ?_)
  · replace h := kbG_f hc h
    refine r_le [some (.ref 57), some (.int a1), some (.int (μ.1 61 3)), none, none] ⟨rfl, ⟨rfl, ⟨rfl, trivial⟩⟩⟩ ?_
    exact jnR_MD_readWord_18 n a1 (μ.1 61 3) μ (hr := hr) h
  · replace h := kbG_t hc h
    refine r_aload_n dX12_readWord_13 rfl ?_
    refine r_iconst 2 dX12_readWord_14 (by decide) ?_
    obtain ⟨x10, hx0, h⟩ := kbG_bind h
    refine r_invV_v cvX12_233 sh57 rfl (sp_MD_wrong 2 μ hx0) rfl rfl (Nat.le_of_ble_eq_true rfl) (Nat.le_of_ble_eq_true rfl) dX12_readWord_15 ?_
    refine r_le [some (.ref 57), some (.int a1), some (.int (μ.1 61 3)), none, none] ⟨rfl, ⟨rfl, ⟨rfl, trivial⟩⟩⟩ ?_
    exact jnR_MD_readWord_18 n a1 (μ.1 61 3) x10 (hr := hr) h
def lp_MD_wordOf_60_2 (n : Nat) (μ : kbM) : Nat → Int32 → Option ((Int32) ⊕ (Unit))
  | 0, _ => none
  | k + 1, v2 =>
    if 6 ≤ v2 then
      some (.inr (()))
    else
      kbIf (kbIn v2 6) <|
      (f_MD_is n ((7 + v2.toNatClampNeg)) μ).bind fun x1 =>
      if x1 = 0 then
        lp_MD_wordOf_60_2 n μ k (v2 + 1)
      else
        some (.inl v2)
theorem lpR_MD_wordOf_60_2 {l : Launch} (n : Nat) (μ : kbM)  {Q : kbQt} {P : (Int32) ⊕ (Unit) → Prop} (hr : ∀ z : Int32, P (.inl z) → Q (some (.int z)) μ) (hx : ∀ z : Unit, P (.inr z) → kbR l MX12_wordOf 6 Q 26 [none, none, none] [] μ) : ∀ (k : Nat) (v2 : Int32), kbG (lp_MD_wordOf_60_2 n μ k v2) P → kbR l MX12_wordOf 6 Q 2 [some (.ref 57), some (.ref 60), some (.int v2)] [] μ := by
  intro k
  induction k with
  | zero => intro v2 h; exact absurd h kbG_none
  | succ k ih =>
    intro v2 h
    unfold lp_MD_wordOf_60_2 at h
    refine r_iload_n dX12_wordOf_2 rfl ?_
    refine r_aload_n dX12_wordOf_3 rfl ?_
    refine r_alen 6 sh60 (by decide) (by decide) dX12_wordOf_4 ?_
    refine r_icmp_ge 26 dX12_wordOf_5 (by decide) (fun hc => ?_) (fun hc => ?_)
    · replace h := kbG_t hc h
      refine r_le [none, none, none] trivial ?_
      exact hx (()) (kbG_some h)
    · replace h := kbG_f hc h
      refine r_aload_n dX12_wordOf_8 rfl ?_
      refine r_aload_n dX12_wordOf_9 rfl ?_
      refine r_iload_n dX12_wordOf_10 rfl ?_
      obtain ⟨hin, h⟩ := kbG_if h
      replace hin := kbIn_of hin
      refine r_aald sh60 hin (rs60 _ hin) dX12_wordOf_11 ?_
      obtain ⟨x1, hx0, h⟩ := kbG_bind h
      refine r_invV_i cvX12_226 sh57 rfl (sp_MD_is n ((7 + v2.toNatClampNeg)) μ (rh60 _ hin) hx0) rfl rfl (Nat.le_of_ble_eq_true rfl) (Nat.le_of_ble_eq_true rfl) dX12_wordOf_12 ?_
      refine r_if_eq 20 dX12_wordOf_15 (by decide) (fun hc => ?_) (fun hc => ?_)
      · replace h := kbG_t hc h
        refine r_iinc 1 dX12_wordOf_20 rfl (by decide) (Nat.le_of_ble_eq_true rfl) rfl ?_
        refine r_goto 2 dX12_wordOf_23 (by decide) ?_
        refine r_le [some (.ref 57), some (.ref 60), some (.int (v2 + 1))] ⟨rfl, ⟨rfl, ⟨rfl, trivial⟩⟩⟩ ?_
        exact ih (v2 + 1) h
      · replace h := kbG_f hc h
        refine r_iload_n dX12_wordOf_18 rfl ?_
        exact r_iret rfl dX12_wordOf_19 (hr v2 (kbG_some h))
def f_MD_wordOf_60 (n : Nat) (μ : kbM) : Option (Int32) :=
  kbOr (lp_MD_wordOf_60_2 n μ n 0) (fun r3 => some r3) fun x2 =>
  some (-1)
theorem sp_MD_wordOf_60 {l : Launch} (n : Nat) (μ : kbM)  {x : Int32} (h : f_MD_wordOf_60 n μ = some x) : kbS l MX12_wordOf 6 [.ref 57, .ref 60] μ (kbQe (some (.int x)) μ) := by
  refine kb_enter 1 rfl rfl ?_
  suffices H : ∀ (Q : kbQt) (P : Int32 → Prop), (∀ z : Int32, P z → Q (some (.int z)) μ) → kbG (f_MD_wordOf_60 n μ) P → kbR l MX12_wordOf 6 Q 0 [some (.ref 57), some (.ref 60), none] [] μ from H _ (fun z => z = x) (fun z e => by subst e; exact ⟨rfl, rfl⟩) ⟨x, h, rfl⟩
  clear h
  intro Q P hr h
  unfold f_MD_wordOf_60 at h
  refine r_iconst 0 dX12_wordOf_0 (by decide) ?_
  refine r_istore_n dX12_wordOf_1 (Nat.le_of_ble_eq_true rfl) rfl ?_
  refine r_le [some (.ref 57), some (.ref 60), some (.int 0)] ⟨rfl, ⟨rfl, ⟨rfl, trivial⟩⟩⟩ ?_
  rcases kbG_or h with ⟨r3, hx0, h⟩ | ⟨x2, hx0, h⟩
  · exact lpR_MD_wordOf_60_2 n μ (P := fun z => .inl r3 = z) (hr := fun z e => by cases e; exact hr _ (kbG_some h)) (hx := fun z e => by cases e) n _ ⟨_, hx0, rfl⟩
  · refine lpR_MD_wordOf_60_2 n μ (P := fun z => .inr x2 = z) (hr := fun z e => by cases e) (hx := fun z e => ?_) n _ ⟨_, hx0, rfl⟩
    cases e
    refine r_iconst (-1) dX12_wordOf_26 (by decide) ?_
    exact r_iret rfl dX12_wordOf_27 (hr (-1) (kbG_some h))
def f_MD_lay (a1 : Int32) (μ : kbM) : Option (kbM) :=
  if (μ.1 57 20) = 0 then
    kbIf (kbIn (600 + (μ.1 61 5)) 1200) <|
    some (kbW (kbW μ 67 ((600 + (μ.1 61 5)).toNatClampNeg) a1) 61 5 (((kbW μ 67 ((600 + (μ.1 61 5)).toNatClampNeg) a1).1 61 5) + 1))
  else
    some μ
theorem sp_MD_lay {l : Launch} (a1 : Int32) (μ : kbM)  {x : kbM} (h : f_MD_lay a1 μ = some x) : kbS l MX12_lay 1 [.ref 57, .int a1] μ (kbQe none x) := by
  refine kb_enter 0 rfl rfl ?_
  suffices H : ∀ (Q : kbQt) (P : kbM → Prop), (∀ z : kbM, P z → Q none z) → kbG (f_MD_lay a1 μ) P → kbR l MX12_lay 1 Q 0 [some (.ref 57), some (.int a1)] [] μ from H _ (fun z => z = x) (fun z e => by subst e; exact ⟨rfl, rfl⟩) ⟨x, h, rfl⟩
  clear h
  intro Q P hr h
  unfold f_MD_lay at h
  refine r_aload_n dX12_lay_0 rfl ?_
  refine r_getI flX12_212 sh57 rfl dX12_lay_1 ?_
  refine r_if_eq 8 dX12_lay_4 (by decide) (fun hc => ?_) (fun hc => ?_)
  · replace h := kbG_t hc h
    refine r_aload_n dX12_lay_8 rfl ?_
    refine r_getR flX12_66 sh57 rfl dX12_lay_9 ?_
    refine r_sipush 600 dX12_lay_12 (by decide) ?_
    refine r_aload_n dX12_lay_15 rfl ?_
    refine r_getR flX12_47 sh57 rfl dX12_lay_16 ?_
    refine r_iconst 5 dX12_lay_19 (by decide) ?_
    have hin : vp_in 5 6 := kbIn_of (by decide)
    refine q_iald 5 (by decide) sh61 hin dX12_lay_20 ?_
    refine r_iadd dX12_lay_21 ?_
    refine r_iload_n dX12_lay_22 rfl ?_
    obtain ⟨hin, h⟩ := kbG_if h
    replace hin := kbIn_of hin
    refine q_iast ((600 + (μ.1 61 5)).toNatClampNeg) rfl sh67 hin dX12_lay_23 ?_
    refine r_aload_n dX12_lay_24 rfl ?_
    refine r_getR flX12_47 sh57 rfl dX12_lay_25 ?_
    refine r_iconst 5 dX12_lay_28 (by decide) ?_
    refine r_dup2 dX12_lay_29 rfl rfl ?_
    have hin : vp_in 5 6 := kbIn_of (by decide)
    refine q_iald 5 (by decide) sh61 hin dX12_lay_30 ?_
    refine r_iconst 1 dX12_lay_31 (by decide) ?_
    refine r_iadd dX12_lay_32 ?_
    have hin : vp_in 5 6 := kbIn_of (by decide)
    refine q_iast 5 (by decide) sh61 hin dX12_lay_33 ?_
    exact r_vret rfl dX12_lay_34 (hr (kbW (kbW μ 67 ((600 + (μ.1 61 5)).toNatClampNeg) a1) 61 5 (((kbW μ 67 ((600 + (μ.1 61 5)).toNatClampNeg) a1).1 61 5) + 1)) (kbG_some h))
  · replace h := kbG_f hc h
    exact r_vret rfl dX12_lay_7 (hr μ (kbG_some h))
def jn_MD_readPart_74 (n : Nat) (re : Int32 → kbM → Option kbM) (μ : kbM) : Option (kbM) :=
  some μ
theorem jnR_MD_readPart_74 {l : Launch} (n : Nat) {d0 : Nat} {re : Int32 → kbM → Option kbM} (hre : ∀ (l : Launch) (a : Int32) (μ x : kbM), re a μ = some x → kbS l MX12_readExpression d0 [.ref 57, .int a] μ (kbQe none x))    (μ : kbM) {Q : kbQt} {P : kbM → Prop} (hr : ∀ z : kbM, P z → Q none z) (h : kbG (jn_MD_readPart_74 n re μ) P) : kbR l MX12_readPart (d0 + 7) Q 74 [none, none, none] [] μ := by
  unfold jn_MD_readPart_74 at h
  exact r_vret rfl dX12_readPart_74 (hr μ (kbG_some h))
def jn_MD_readPart_56 (n : Nat) (re : Int32 → kbM → Option kbM) (v2 : Int32) (μ : kbM) : Option (kbM) :=
  (f_MD_lay ((-1) - v2) μ).bind fun x5 =>
  if (x5.1 57 20) = 0 then
    (f_MD_stepOn n x5).bind fun x6 =>
    jn_MD_readPart_74 n re x6
  else
    jn_MD_readPart_74 n re x5
theorem jnR_MD_readPart_56 {l : Launch} (n : Nat) {d0 : Nat} {re : Int32 → kbM → Option kbM} (hre : ∀ (l : Launch) (a : Int32) (μ x : kbM), re a μ = some x → kbS l MX12_readExpression d0 [.ref 57, .int a] μ (kbQe none x))   (v2 : Int32) (μ : kbM) {Q : kbQt} {P : kbM → Prop} (hr : ∀ z : kbM, P z → Q none z) (h : kbG (jn_MD_readPart_56 n re v2 μ) P) : kbR l MX12_readPart (d0 + 7) Q 56 [some (.ref 57), none, some (.int v2)] [] μ := by
  unfold jn_MD_readPart_56 at h
  refine r_aload_n dX12_readPart_56 rfl ?_
  refine r_iconst (-1) dX12_readPart_57 (by decide) ?_
  refine r_iload_n dX12_readPart_58 rfl ?_
  refine r_isub dX12_readPart_59 ?_
  obtain ⟨x5, hx0, h⟩ := kbG_bind h
  refine r_invV_v cvX12_243 sh57 rfl (sp_MD_lay ((-1) - v2) μ hx0) rfl rfl (Nat.le_of_ble_eq_true rfl) (by omega) dX12_readPart_60 ?_
  refine r_aload_n dX12_readPart_63 rfl ?_
  refine r_getI flX12_212 sh57 rfl dX12_readPart_64 ?_
  refine r_if_ne 74 dX12_readPart_67 (by decide) (fun hc => ?_) (fun hc => ?_)
  · replace h := kbG_f hc h
    refine r_le [none, none, none] trivial ?_
    exact jnR_MD_readPart_74 n hre  x5 (hr := hr) h
  · replace h := kbG_t hc h
    refine r_aload_n dX12_readPart_70 rfl ?_
    obtain ⟨x6, hx0, h⟩ := kbG_bind h
    refine r_invV_v cvX12_237 sh57 rfl (sp_MD_stepOn n x5 hx0) rfl rfl (Nat.le_of_ble_eq_true rfl) (by omega) dX12_readPart_71 ?_
    refine r_le [none, none, none] trivial ?_
    exact jnR_MD_readPart_74 n hre  x6 (hr := hr) h
def f_MD_readPart (n : Nat) (re : Int32 → kbM → Option kbM) (a1 : Int32) (μ : kbM) : Option (kbM) :=
  if (μ.1 57 20) = 0 then
    if (μ.1 57 16) = 2 then
      (f_MD_readNumber n 0 9999 μ).bind fun x8 =>
      (f_MD_lay x8.1 x8.2).bind fun x9 =>
      some x9
    else
      if (μ.1 57 16) = 1 then
        (f_MD_wordOf_60 n μ).bind fun x4 =>
        if x4 = (-1) then
          (f_MD_wrong 3 μ).bind fun x7 =>
          jn_MD_readPart_56 n re x4 x7
        else
          jn_MD_readPart_56 n re x4 μ
      else
        (f_MD_mark n 40 μ).bind fun x1 =>
        (re (a1 + 1) x1).bind fun x2 =>
        (f_MD_mark n 41 x2).bind fun x3 =>
        some x3
  else
    some μ
theorem sp_MD_readPart {l : Launch} (n : Nat) {d0 : Nat} {re : Int32 → kbM → Option kbM} (hre : ∀ (l : Launch) (a : Int32) (μ x : kbM), re a μ = some x → kbS l MX12_readExpression d0 [.ref 57, .int a] μ (kbQe none x)) (a1 : Int32) (μ : kbM)  {x : kbM} (h : f_MD_readPart n re a1 μ = some x) : kbS l MX12_readPart (d0 + 7) [.ref 57, .int a1] μ (kbQe none x) := by
  refine kb_enter 1 rfl rfl ?_
  suffices H : ∀ (Q : kbQt) (P : kbM → Prop), (∀ z : kbM, P z → Q none z) → kbG (f_MD_readPart n re a1 μ) P → kbR l MX12_readPart (d0 + 7) Q 0 [some (.ref 57), some (.int a1), none] [] μ from H _ (fun z => z = x) (fun z e => by subst e; exact ⟨rfl, rfl⟩) ⟨x, h, rfl⟩
  clear h
  intro Q P hr h
  unfold f_MD_readPart at h
  refine r_aload_n dX12_readPart_0 rfl ?_
  refine r_getI flX12_212 sh57 rfl dX12_readPart_1 ?_
  refine r_if_eq 8 dX12_readPart_4 (by decide) (fun hc => ?_) (fun hc => ?_)
  · replace h := kbG_t hc h
    refine r_aload_n dX12_readPart_8 rfl ?_
    refine r_getI flX12_186 sh57 rfl dX12_readPart_9 ?_
    refine r_iconst 2 dX12_readPart_12 (by decide) ?_
    refine r_icmp_ne 29 dX12_readPart_13 (by decide) (fun hc => ?_) (fun hc => ?_)
    · replace h := kbG_f hc h
      refine r_aload_n dX12_readPart_29 rfl ?_
      refine r_getI flX12_186 sh57 rfl dX12_readPart_30 ?_
      refine r_iconst 1 dX12_readPart_33 (by decide) ?_
      refine r_icmp_ne 75 dX12_readPart_34 (by decide) (fun hc => ?_) (fun hc => ?_)
      · replace h := kbG_f hc h
        refine r_aload_n dX12_readPart_75 rfl ?_
        refine r_bipush 40 dX12_readPart_76 (by decide) ?_
        obtain ⟨x1, hx0, h⟩ := kbG_bind h
        refine r_invV_v cvX12_250 sh57 rfl (sp_MD_mark n 40 μ hx0) rfl rfl (Nat.le_of_ble_eq_true rfl) (by omega) dX12_readPart_78 ?_
        refine r_aload_n dX12_readPart_81 rfl ?_
        refine r_iload_n dX12_readPart_82 rfl ?_
        refine r_iconst 1 dX12_readPart_83 (by decide) ?_
        refine r_iadd dX12_readPart_84 ?_
        obtain ⟨x2, hx0, h⟩ := kbG_bind h
        refine r_invV_v cvX12_253 sh57 rfl (hre l _ _ _ hx0) rfl rfl (Nat.le_of_ble_eq_true rfl) (by omega) dX12_readPart_85 ?_
        refine r_aload_n dX12_readPart_88 rfl ?_
        refine r_bipush 41 dX12_readPart_89 (by decide) ?_
        obtain ⟨x3, hx0, h⟩ := kbG_bind h
        refine r_invV_v cvX12_250 sh57 rfl (sp_MD_mark n 41 x2 hx0) rfl rfl (Nat.le_of_ble_eq_true rfl) (by omega) dX12_readPart_91 ?_
        exact r_vret rfl dX12_readPart_94 (hr x3 (kbG_some h))
      · replace h := kbG_t hc h
        refine r_aload_n dX12_readPart_37 rfl ?_
        refine r_aload_n dX12_readPart_38 rfl ?_
        refine r_getR flX12_44 sh57 rfl dX12_readPart_39 ?_
        obtain ⟨x4, hx0, h⟩ := kbG_bind h
        refine r_invV_i cvX12_246 sh57 rfl (sp_MD_wordOf_60 n μ hx0) rfl rfl (Nat.le_of_ble_eq_true rfl) (by omega) dX12_readPart_42 ?_
        refine r_istore_n dX12_readPart_45 (Nat.le_of_ble_eq_true rfl) rfl ?_
        refine r_iload_n dX12_readPart_46 rfl ?_
        refine r_iconst (-1) dX12_readPart_47 (by decide) ?_
        refine r_icmp_ne 56 dX12_readPart_48 (by decide) (fun hc => ?_) (fun hc => ?_)
        · replace h := kbG_f hc h
          refine r_le [some (.ref 57), none, some (.int x4)] ⟨rfl, ⟨rfl, trivial⟩⟩ ?_
          exact jnR_MD_readPart_56 n hre x4 μ (hr := hr) h
        · replace h := kbG_t hc h
          refine r_aload_n dX12_readPart_51 rfl ?_
          refine r_iconst 3 dX12_readPart_52 (by decide) ?_
          obtain ⟨x7, hx0, h⟩ := kbG_bind h
          refine r_invV_v cvX12_233 sh57 rfl (sp_MD_wrong 3 μ hx0) rfl rfl (Nat.le_of_ble_eq_true rfl) (by omega) dX12_readPart_53 ?_
          refine r_le [some (.ref 57), none, some (.int x4)] ⟨rfl, ⟨rfl, trivial⟩⟩ ?_
          exact jnR_MD_readPart_56 n hre x4 x7 (hr := hr) h
    · replace h := kbG_t hc h
      refine r_aload_n dX12_readPart_16 rfl ?_
      refine r_aload_n dX12_readPart_17 rfl ?_
      refine r_iconst 0 dX12_readPart_18 (by decide) ?_
      refine r_sipush 9999 dX12_readPart_19 (by decide) ?_
      obtain ⟨x8, hx0, h⟩ := kbG_bind h
      refine r_invV_i cvX12_240 sh57 rfl (sp_MD_readNumber n 0 9999 μ hx0) rfl rfl (Nat.le_of_ble_eq_true rfl) (by omega) dX12_readPart_22 ?_
      obtain ⟨x9, hx0, h⟩ := kbG_bind h
      refine r_invV_v cvX12_243 sh57 rfl (sp_MD_lay x8.1 x8.2 hx0) rfl rfl (Nat.le_of_ble_eq_true rfl) (by omega) dX12_readPart_25 ?_
      exact r_vret rfl dX12_readPart_28 (hr x9 (kbG_some h))
  · replace h := kbG_f hc h
    exact r_vret rfl dX12_readPart_7 (hr μ (kbG_some h))
def jn_MD_readProduct_39 (n : Nat) (re : Int32 → kbM → Option kbM) (rec : kbM → Option (kbM)) (v1 : Int32) (w0 : Int32) (μ : kbM) : Option (kbM) :=
  (f_MD_stepOn n μ).bind fun x4 =>
  (f_MD_readPart n re v1 x4).bind fun x5 =>
  (f_MD_lay w0 x5).bind fun x6 =>
  rec x6
theorem jnR_MD_readProduct_39 {l : Launch} (n : Nat) {d0 : Nat} {re : Int32 → kbM → Option kbM} (hre : ∀ (l : Launch) (a : Int32) (μ x : kbM), re a μ = some x → kbS l MX12_readExpression d0 [.ref 57, .int a] μ (kbQe none x))   (v1 : Int32) (w0 : Int32) (μ : kbM) {Q : kbQt} {P : kbM → Prop} (hx : ∀ z : kbM, P (z) → kbR l MX12_readProduct (d0 + 8) Q 57 [none, none, none] [] z) {rec : kbM → Option (kbM)} (hrec : ∀ (μ : kbM), kbG (rec μ) P → kbR l MX12_readProduct (d0 + 8) Q 5 [some (.ref 57), some (.int v1), none] [] μ) (h : kbG (jn_MD_readProduct_39 n re rec v1 w0 μ) P) : kbR l MX12_readProduct (d0 + 8) Q 39 [some (.ref 57), some (.int v1), none] [.int w0] μ := by
  unfold jn_MD_readProduct_39 at h
  refine r_istore_n dX12_readProduct_39 (Nat.le_of_ble_eq_true rfl) rfl ?_
  refine r_aload_n dX12_readProduct_40 rfl ?_
  obtain ⟨x4, hx0, h⟩ := kbG_bind h
  refine r_invV_v cvX12_237 sh57 rfl (sp_MD_stepOn n μ hx0) rfl rfl (Nat.le_of_ble_eq_true rfl) (by omega) dX12_readProduct_41 ?_
  refine r_aload_n dX12_readProduct_44 rfl ?_
  refine r_iload_n dX12_readProduct_45 rfl ?_
  obtain ⟨x5, hx0, h⟩ := kbG_bind h
  refine r_invV_v cvX12_256 sh57 rfl (sp_MD_readPart n hre v1 x4 hx0) rfl rfl (Nat.le_of_ble_eq_true rfl) (by omega) dX12_readProduct_46 ?_
  refine r_aload_n dX12_readProduct_49 rfl ?_
  refine r_iload_n dX12_readProduct_50 rfl ?_
  obtain ⟨x6, hx0, h⟩ := kbG_bind h
  refine r_invV_v cvX12_243 sh57 rfl (sp_MD_lay w0 x5 hx0) rfl rfl (Nat.le_of_ble_eq_true rfl) (by omega) dX12_readProduct_51 ?_
  refine r_goto 5 dX12_readProduct_54 (by decide) ?_
  refine r_le [some (.ref 57), some (.int v1), none] ⟨rfl, ⟨rfl, trivial⟩⟩ ?_
  exact hrec x6 h
def jn_MD_readProduct_23 (n : Nat) (re : Int32 → kbM → Option kbM) (rec : kbM → Option (kbM)) (v1 : Int32) (μ : kbM) : Option (kbM) :=
  (f_MD_isMarked 42 μ).bind fun x3 =>
  if x3 = 0 then
    jn_MD_readProduct_39 n re rec v1 (-23) μ
  else
    jn_MD_readProduct_39 n re rec v1 (-22) μ
theorem jnR_MD_readProduct_23 {l : Launch} (n : Nat) {d0 : Nat} {re : Int32 → kbM → Option kbM} (hre : ∀ (l : Launch) (a : Int32) (μ x : kbM), re a μ = some x → kbS l MX12_readExpression d0 [.ref 57, .int a] μ (kbQe none x))   (v1 : Int32) (μ : kbM) {Q : kbQt} {P : kbM → Prop} (hx : ∀ z : kbM, P (z) → kbR l MX12_readProduct (d0 + 8) Q 57 [none, none, none] [] z) {rec : kbM → Option (kbM)} (hrec : ∀ (μ : kbM), kbG (rec μ) P → kbR l MX12_readProduct (d0 + 8) Q 5 [some (.ref 57), some (.int v1), none] [] μ) (h : kbG (jn_MD_readProduct_23 n re rec v1 μ) P) : kbR l MX12_readProduct (d0 + 8) Q 23 [some (.ref 57), some (.int v1), none] [] μ := by
  unfold jn_MD_readProduct_23 at h
  refine r_aload_n dX12_readProduct_23 rfl ?_
  refine r_bipush 42 dX12_readProduct_24 (by decide) ?_
  obtain ⟨x3, hx0, h⟩ := kbG_bind h
  refine r_invV_i cvX12_230 sh57 rfl (sp_MD_isMarked 42 μ hx0) rfl rfl (Nat.le_of_ble_eq_true rfl) (by omega) dX12_readProduct_26 ?_
  refine r_if_eq 37 dX12_readProduct_29 (by decide) (fun hc => ?_) (fun hc => ?_)
  · replace h := kbG_t hc h
    refine r_bipush (-23) dX12_readProduct_37 (by decide) ?_
    refine r_le [some (.ref 57), some (.int v1), none] ⟨rfl, ⟨rfl, trivial⟩⟩ ?_
    exact jnR_MD_readProduct_39 n hre v1 (-23) μ (hx := hx) (hrec := hrec) h
  · replace h := kbG_f hc h
    refine r_bipush (-22) dX12_readProduct_32 (by decide) ?_
    refine r_goto 39 dX12_readProduct_34 (by decide) ?_
    refine r_le [some (.ref 57), some (.int v1), none] ⟨rfl, ⟨rfl, trivial⟩⟩ ?_
    exact jnR_MD_readProduct_39 n hre v1 (-22) μ (hx := hx) (hrec := hrec) h
def lp_MD_readProduct_5 (n : Nat) (re : Int32 → kbM → Option kbM) (v1 : Int32) : Nat → kbM → Option (kbM)
  | 0, _ => none
  | k + 1, μ =>
    (f_MD_isMarked 42 μ).bind fun x2 =>
    if x2 = 0 then
      (f_MD_isMarked 47 μ).bind fun x7 =>
      if x7 = 0 then
        some μ
      else
        jn_MD_readProduct_23 n re (lp_MD_readProduct_5 n re v1 k) v1 μ
    else
      jn_MD_readProduct_23 n re (lp_MD_readProduct_5 n re v1 k) v1 μ
theorem lpR_MD_readProduct_5 {l : Launch} (n : Nat) {d0 : Nat} {re : Int32 → kbM → Option kbM} (hre : ∀ (l : Launch) (a : Int32) (μ x : kbM), re a μ = some x → kbS l MX12_readExpression d0 [.ref 57, .int a] μ (kbQe none x)) (v1 : Int32)  {Q : kbQt} {P : kbM → Prop} (hx : ∀ z : kbM, P (z) → kbR l MX12_readProduct (d0 + 8) Q 57 [none, none, none] [] z) : ∀ (k : Nat) (μ : kbM), kbG (lp_MD_readProduct_5 n re v1 k μ) P → kbR l MX12_readProduct (d0 + 8) Q 5 [some (.ref 57), some (.int v1), none] [] μ := by
  intro k
  induction k with
  | zero => intro μ h; exact absurd h kbG_none
  | succ k ih =>
    intro μ h
    unfold lp_MD_readProduct_5 at h
    refine r_aload_n dX12_readProduct_5 rfl ?_
    refine r_bipush 42 dX12_readProduct_6 (by decide) ?_
    obtain ⟨x2, hx0, h⟩ := kbG_bind h
    refine r_invV_i cvX12_230 sh57 rfl (sp_MD_isMarked 42 μ hx0) rfl rfl (Nat.le_of_ble_eq_true rfl) (by omega) dX12_readProduct_8 ?_
    refine r_if_ne 23 dX12_readProduct_11 (by decide) (fun hc => ?_) (fun hc => ?_)
    · replace h := kbG_f hc h
      refine r_le [some (.ref 57), some (.int v1), none] ⟨rfl, ⟨rfl, trivial⟩⟩ ?_
      exact jnR_MD_readProduct_23 n hre v1 μ (hx := hx) (hrec := ih) h
    · replace h := kbG_t hc h
      refine r_aload_n dX12_readProduct_14 rfl ?_
      refine r_bipush 47 dX12_readProduct_15 (by decide) ?_
      obtain ⟨x7, hx0, h⟩ := kbG_bind h
      refine r_invV_i cvX12_230 sh57 rfl (sp_MD_isMarked 47 μ hx0) rfl rfl (Nat.le_of_ble_eq_true rfl) (by omega) dX12_readProduct_17 ?_
      refine r_if_eq 57 dX12_readProduct_20 (by decide) (fun hc => ?_) (fun hc => ?_)
      · replace h := kbG_t hc h
        refine r_le [none, none, none] trivial ?_
        exact hx μ (kbG_some h)
      · replace h := kbG_f hc h
        refine r_le [some (.ref 57), some (.int v1), none] ⟨rfl, ⟨rfl, trivial⟩⟩ ?_
        exact jnR_MD_readProduct_23 n hre v1 μ (hx := hx) (hrec := ih) h
def f_MD_readProduct (n : Nat) (re : Int32 → kbM → Option kbM) (a1 : Int32) (μ : kbM) : Option (kbM) :=
  (f_MD_readPart n re a1 μ).bind fun x1 =>
  (lp_MD_readProduct_5 n re a1 n x1).bind fun x8 =>
  some x8
theorem sp_MD_readProduct {l : Launch} (n : Nat) {d0 : Nat} {re : Int32 → kbM → Option kbM} (hre : ∀ (l : Launch) (a : Int32) (μ x : kbM), re a μ = some x → kbS l MX12_readExpression d0 [.ref 57, .int a] μ (kbQe none x)) (a1 : Int32) (μ : kbM)  {x : kbM} (h : f_MD_readProduct n re a1 μ = some x) : kbS l MX12_readProduct (d0 + 8) [.ref 57, .int a1] μ (kbQe none x) := by
  refine kb_enter 1 rfl rfl ?_
  suffices H : ∀ (Q : kbQt) (P : kbM → Prop), (∀ z : kbM, P z → Q none z) → kbG (f_MD_readProduct n re a1 μ) P → kbR l MX12_readProduct (d0 + 8) Q 0 [some (.ref 57), some (.int a1), none] [] μ from H _ (fun z => z = x) (fun z e => by subst e; exact ⟨rfl, rfl⟩) ⟨x, h, rfl⟩
  clear h
  intro Q P hr h
  unfold f_MD_readProduct at h
  refine r_aload_n dX12_readProduct_0 rfl ?_
  refine r_iload_n dX12_readProduct_1 rfl ?_
  obtain ⟨x1, hx0, h⟩ := kbG_bind h
  refine r_invV_v cvX12_256 sh57 rfl (sp_MD_readPart n hre a1 μ hx0) rfl rfl (Nat.le_of_ble_eq_true rfl) (by omega) dX12_readProduct_2 ?_
  refine r_le [some (.ref 57), some (.int a1), none] ⟨rfl, ⟨rfl, trivial⟩⟩ ?_
  obtain ⟨x8, hx0, h⟩ := kbG_bind h
  refine lpR_MD_readProduct_5 n hre a1 (P := fun z => x8 = z) (hx := fun z e => ?_) n _ ⟨_, hx0, rfl⟩
  subst e
  exact r_vret rfl dX12_readProduct_57 (hr x8 (kbG_some h))
def jn_MD_readSum_39 (n : Nat) (re : Int32 → kbM → Option kbM) (rec : kbM → Option (kbM)) (v1 : Int32) (w0 : Int32) (μ : kbM) : Option (kbM) :=
  (f_MD_stepOn n μ).bind fun x4 =>
  (f_MD_readProduct n re v1 x4).bind fun x5 =>
  (f_MD_lay w0 x5).bind fun x6 =>
  rec x6
theorem jnR_MD_readSum_39 {l : Launch} (n : Nat) {d0 : Nat} {re : Int32 → kbM → Option kbM} (hre : ∀ (l : Launch) (a : Int32) (μ x : kbM), re a μ = some x → kbS l MX12_readExpression d0 [.ref 57, .int a] μ (kbQe none x))   (v1 : Int32) (w0 : Int32) (μ : kbM) {Q : kbQt} {P : kbM → Prop} (hx : ∀ z : kbM, P (z) → kbR l MX12_readSum (d0 + 9) Q 57 [none, none, none] [] z) {rec : kbM → Option (kbM)} (hrec : ∀ (μ : kbM), kbG (rec μ) P → kbR l MX12_readSum (d0 + 9) Q 5 [some (.ref 57), some (.int v1), none] [] μ) (h : kbG (jn_MD_readSum_39 n re rec v1 w0 μ) P) : kbR l MX12_readSum (d0 + 9) Q 39 [some (.ref 57), some (.int v1), none] [.int w0] μ := by
  unfold jn_MD_readSum_39 at h
  refine r_istore_n dX12_readSum_39 (Nat.le_of_ble_eq_true rfl) rfl ?_
  refine r_aload_n dX12_readSum_40 rfl ?_
  obtain ⟨x4, hx0, h⟩ := kbG_bind h
  refine r_invV_v cvX12_237 sh57 rfl (sp_MD_stepOn n μ hx0) rfl rfl (Nat.le_of_ble_eq_true rfl) (by omega) dX12_readSum_41 ?_
  refine r_aload_n dX12_readSum_44 rfl ?_
  refine r_iload_n dX12_readSum_45 rfl ?_
  obtain ⟨x5, hx0, h⟩ := kbG_bind h
  refine r_invV_v cvX12_259 sh57 rfl (sp_MD_readProduct n hre v1 x4 hx0) rfl rfl (Nat.le_of_ble_eq_true rfl) (by omega) dX12_readSum_46 ?_
  refine r_aload_n dX12_readSum_49 rfl ?_
  refine r_iload_n dX12_readSum_50 rfl ?_
  obtain ⟨x6, hx0, h⟩ := kbG_bind h
  refine r_invV_v cvX12_243 sh57 rfl (sp_MD_lay w0 x5 hx0) rfl rfl (Nat.le_of_ble_eq_true rfl) (by omega) dX12_readSum_51 ?_
  refine r_goto 5 dX12_readSum_54 (by decide) ?_
  refine r_le [some (.ref 57), some (.int v1), none] ⟨rfl, ⟨rfl, trivial⟩⟩ ?_
  exact hrec x6 h
def jn_MD_readSum_23 (n : Nat) (re : Int32 → kbM → Option kbM) (rec : kbM → Option (kbM)) (v1 : Int32) (μ : kbM) : Option (kbM) :=
  (f_MD_isMarked 43 μ).bind fun x3 =>
  if x3 = 0 then
    jn_MD_readSum_39 n re rec v1 (-21) μ
  else
    jn_MD_readSum_39 n re rec v1 (-20) μ
theorem jnR_MD_readSum_23 {l : Launch} (n : Nat) {d0 : Nat} {re : Int32 → kbM → Option kbM} (hre : ∀ (l : Launch) (a : Int32) (μ x : kbM), re a μ = some x → kbS l MX12_readExpression d0 [.ref 57, .int a] μ (kbQe none x))   (v1 : Int32) (μ : kbM) {Q : kbQt} {P : kbM → Prop} (hx : ∀ z : kbM, P (z) → kbR l MX12_readSum (d0 + 9) Q 57 [none, none, none] [] z) {rec : kbM → Option (kbM)} (hrec : ∀ (μ : kbM), kbG (rec μ) P → kbR l MX12_readSum (d0 + 9) Q 5 [some (.ref 57), some (.int v1), none] [] μ) (h : kbG (jn_MD_readSum_23 n re rec v1 μ) P) : kbR l MX12_readSum (d0 + 9) Q 23 [some (.ref 57), some (.int v1), none] [] μ := by
  unfold jn_MD_readSum_23 at h
  refine r_aload_n dX12_readSum_23 rfl ?_
  refine r_bipush 43 dX12_readSum_24 (by decide) ?_
  obtain ⟨x3, hx0, h⟩ := kbG_bind h
  refine r_invV_i cvX12_230 sh57 rfl (sp_MD_isMarked 43 μ hx0) rfl rfl (Nat.le_of_ble_eq_true rfl) (by omega) dX12_readSum_26 ?_
  refine r_if_eq 37 dX12_readSum_29 (by decide) (fun hc => ?_) (fun hc => ?_)
  · replace h := kbG_t hc h
    refine r_bipush (-21) dX12_readSum_37 (by decide) ?_
    refine r_le [some (.ref 57), some (.int v1), none] ⟨rfl, ⟨rfl, trivial⟩⟩ ?_
    exact jnR_MD_readSum_39 n hre v1 (-21) μ (hx := hx) (hrec := hrec) h
  · replace h := kbG_f hc h
    refine r_bipush (-20) dX12_readSum_32 (by decide) ?_
    refine r_goto 39 dX12_readSum_34 (by decide) ?_
    refine r_le [some (.ref 57), some (.int v1), none] ⟨rfl, ⟨rfl, trivial⟩⟩ ?_
    exact jnR_MD_readSum_39 n hre v1 (-20) μ (hx := hx) (hrec := hrec) h
def lp_MD_readSum_5 (n : Nat) (re : Int32 → kbM → Option kbM) (v1 : Int32) : Nat → kbM → Option (kbM)
  | 0, _ => none
  | k + 1, μ =>
    (f_MD_isMarked 43 μ).bind fun x2 =>
    if x2 = 0 then
      (f_MD_isMarked 45 μ).bind fun x7 =>
      if x7 = 0 then
        some μ
      else
        jn_MD_readSum_23 n re (lp_MD_readSum_5 n re v1 k) v1 μ
    else
      jn_MD_readSum_23 n re (lp_MD_readSum_5 n re v1 k) v1 μ
theorem lpR_MD_readSum_5 {l : Launch} (n : Nat) {d0 : Nat} {re : Int32 → kbM → Option kbM} (hre : ∀ (l : Launch) (a : Int32) (μ x : kbM), re a μ = some x → kbS l MX12_readExpression d0 [.ref 57, .int a] μ (kbQe none x)) (v1 : Int32)  {Q : kbQt} {P : kbM → Prop} (hx : ∀ z : kbM, P (z) → kbR l MX12_readSum (d0 + 9) Q 57 [none, none, none] [] z) : ∀ (k : Nat) (μ : kbM), kbG (lp_MD_readSum_5 n re v1 k μ) P → kbR l MX12_readSum (d0 + 9) Q 5 [some (.ref 57), some (.int v1), none] [] μ := by
  intro k
  induction k with
  | zero => intro μ h; exact absurd h kbG_none
  | succ k ih =>
    intro μ h
    unfold lp_MD_readSum_5 at h
    refine r_aload_n dX12_readSum_5 rfl ?_
    refine r_bipush 43 dX12_readSum_6 (by decide) ?_
    obtain ⟨x2, hx0, h⟩ := kbG_bind h
    refine r_invV_i cvX12_230 sh57 rfl (sp_MD_isMarked 43 μ hx0) rfl rfl (Nat.le_of_ble_eq_true rfl) (by omega) dX12_readSum_8 ?_
    refine r_if_ne 23 dX12_readSum_11 (by decide) (fun hc => ?_) (fun hc => ?_)
    · replace h := kbG_f hc h
      refine r_le [some (.ref 57), some (.int v1), none] ⟨rfl, ⟨rfl, trivial⟩⟩ ?_
      exact jnR_MD_readSum_23 n hre v1 μ (hx := hx) (hrec := ih) h
    · replace h := kbG_t hc h
      refine r_aload_n dX12_readSum_14 rfl ?_
      refine r_bipush 45 dX12_readSum_15 (by decide) ?_
      obtain ⟨x7, hx0, h⟩ := kbG_bind h
      refine r_invV_i cvX12_230 sh57 rfl (sp_MD_isMarked 45 μ hx0) rfl rfl (Nat.le_of_ble_eq_true rfl) (by omega) dX12_readSum_17 ?_
      refine r_if_eq 57 dX12_readSum_20 (by decide) (fun hc => ?_) (fun hc => ?_)
      · replace h := kbG_t hc h
        refine r_le [none, none, none] trivial ?_
        exact hx μ (kbG_some h)
      · replace h := kbG_f hc h
        refine r_le [some (.ref 57), some (.int v1), none] ⟨rfl, ⟨rfl, trivial⟩⟩ ?_
        exact jnR_MD_readSum_23 n hre v1 μ (hx := hx) (hrec := ih) h
def f_MD_readSum (n : Nat) (re : Int32 → kbM → Option kbM) (a1 : Int32) (μ : kbM) : Option (kbM) :=
  (f_MD_readProduct n re a1 μ).bind fun x1 =>
  (lp_MD_readSum_5 n re a1 n x1).bind fun x8 =>
  some x8
theorem sp_MD_readSum {l : Launch} (n : Nat) {d0 : Nat} {re : Int32 → kbM → Option kbM} (hre : ∀ (l : Launch) (a : Int32) (μ x : kbM), re a μ = some x → kbS l MX12_readExpression d0 [.ref 57, .int a] μ (kbQe none x)) (a1 : Int32) (μ : kbM)  {x : kbM} (h : f_MD_readSum n re a1 μ = some x) : kbS l MX12_readSum (d0 + 9) [.ref 57, .int a1] μ (kbQe none x) := by
  refine kb_enter 1 rfl rfl ?_
  suffices H : ∀ (Q : kbQt) (P : kbM → Prop), (∀ z : kbM, P z → Q none z) → kbG (f_MD_readSum n re a1 μ) P → kbR l MX12_readSum (d0 + 9) Q 0 [some (.ref 57), some (.int a1), none] [] μ from H _ (fun z => z = x) (fun z e => by subst e; exact ⟨rfl, rfl⟩) ⟨x, h, rfl⟩
  clear h
  intro Q P hr h
  unfold f_MD_readSum at h
  refine r_aload_n dX12_readSum_0 rfl ?_
  refine r_iload_n dX12_readSum_1 rfl ?_
  obtain ⟨x1, hx0, h⟩ := kbG_bind h
  refine r_invV_v cvX12_259 sh57 rfl (sp_MD_readProduct n hre a1 μ hx0) rfl rfl (Nat.le_of_ble_eq_true rfl) (by omega) dX12_readSum_2 ?_
  refine r_le [some (.ref 57), some (.int a1), none] ⟨rfl, ⟨rfl, trivial⟩⟩ ?_
  obtain ⟨x8, hx0, h⟩ := kbG_bind h
  refine lpR_MD_readSum_5 n hre a1 (P := fun z => x8 = z) (hx := fun z e => ?_) n _ ⟨_, hx0, rfl⟩
  subst e
  exact r_vret rfl dX12_readSum_57 (hr x8 (kbG_some h))
def jn_MD_readNot_23 (n : Nat) (re : Int32 → kbM → Option kbM) (rec : Int32 → kbM → Option (Int32 × kbM)) (v1 : Int32) (v2 : Int32) (μ : kbM) : Option (Int32 × kbM) :=
  if (μ.1 57 20) = 0 then
    (f_MD_stepOn n μ).bind fun x2 =>
    rec (v2 + 1) x2
  else
    rec (v2 + 1) μ
theorem jnR_MD_readNot_23 {l : Launch} (n : Nat) {d0 : Nat} {re : Int32 → kbM → Option kbM} (hre : ∀ (l : Launch) (a : Int32) (μ x : kbM), re a μ = some x → kbS l MX12_readExpression d0 [.ref 57, .int a] μ (kbQe none x))   (v1 : Int32) (v2 : Int32) (μ : kbM) {Q : kbQt} {P : Int32 × kbM → Prop} (hx : ∀ z : Int32 × kbM, P (z) → kbR l MX12_readNot (d0 + 10) Q 40 [some (.ref 57), some (.int v1), some (.int z.1), none] [] z.2) {rec : Int32 → kbM → Option (Int32 × kbM)} (hrec : ∀ (v2 : Int32) (μ : kbM), kbG (rec v2 μ) P → kbR l MX12_readNot (d0 + 10) Q 2 [some (.ref 57), some (.int v1), some (.int v2), none] [] μ) (h : kbG (jn_MD_readNot_23 n re rec v1 v2 μ) P) : kbR l MX12_readNot (d0 + 10) Q 23 [some (.ref 57), some (.int v1), some (.int v2), none] [] μ := by
  unfold jn_MD_readNot_23 at h
  refine r_iinc 1 dX12_readNot_23 rfl (by decide) (Nat.le_of_ble_eq_true rfl) rfl ?_
  refine r_aload_n dX12_readNot_26 rfl ?_
  refine r_getI flX12_212 sh57 rfl dX12_readNot_27 ?_
  refine r_if_ne 2 dX12_readNot_30 (by decide) (fun hc => ?_) (fun hc => ?_)
  · replace h := kbG_f hc h
    refine r_le [some (.ref 57), some (.int v1), some (.int (v2 + 1)), none] ⟨rfl, ⟨rfl, ⟨rfl, trivial⟩⟩⟩ ?_
    exact hrec (v2 + 1) μ h
  · replace h := kbG_t hc h
    refine r_aload_n dX12_readNot_33 rfl ?_
    obtain ⟨x2, hx0, h⟩ := kbG_bind h
    refine r_invV_v cvX12_237 sh57 rfl (sp_MD_stepOn n μ hx0) rfl rfl (Nat.le_of_ble_eq_true rfl) (by omega) dX12_readNot_34 ?_
    refine r_goto 2 dX12_readNot_37 (by decide) ?_
    refine r_le [some (.ref 57), some (.int v1), some (.int (v2 + 1)), none] ⟨rfl, ⟨rfl, ⟨rfl, trivial⟩⟩⟩ ?_
    exact hrec (v2 + 1) x2 h
def lp_MD_readNot_2 (n : Nat) (re : Int32 → kbM → Option kbM) (v1 : Int32) : Nat → Int32 → kbM → Option (Int32 × kbM)
  | 0, _, _ => none
  | k + 1, v2, μ =>
    (f_MD_is n 29 μ).bind fun x1 =>
    if x1 = 0 then
      some ((v2, μ))
    else
      if v2 = 6 then
        (f_MD_wrong 2 μ).bind fun x3 =>
        jn_MD_readNot_23 n re (lp_MD_readNot_2 n re v1 k) v1 v2 x3
      else
        jn_MD_readNot_23 n re (lp_MD_readNot_2 n re v1 k) v1 v2 μ
theorem lpR_MD_readNot_2 {l : Launch} (n : Nat) {d0 : Nat} {re : Int32 → kbM → Option kbM} (hre : ∀ (l : Launch) (a : Int32) (μ x : kbM), re a μ = some x → kbS l MX12_readExpression d0 [.ref 57, .int a] μ (kbQe none x)) (v1 : Int32)  {Q : kbQt} {P : Int32 × kbM → Prop} (hx : ∀ z : Int32 × kbM, P (z) → kbR l MX12_readNot (d0 + 10) Q 40 [some (.ref 57), some (.int v1), some (.int z.1), none] [] z.2) : ∀ (k : Nat) (v2 : Int32) (μ : kbM), kbG (lp_MD_readNot_2 n re v1 k v2 μ) P → kbR l MX12_readNot (d0 + 10) Q 2 [some (.ref 57), some (.int v1), some (.int v2), none] [] μ := by
  intro k
  induction k with
  | zero => intro v2 μ h; exact absurd h kbG_none
  | succ k ih =>
    intro v2 μ h
    unfold lp_MD_readNot_2 at h
    refine r_aload_n dX12_readNot_2 rfl ?_
    refine r_ldcSw lsX12_262 dX12_readNot_3 ?_
    obtain ⟨x1, hx0, h⟩ := kbG_bind h
    refine r_invV_i cvX12_226 sh57 rfl (sp_MD_is n 29 μ (by decide) hx0) rfl rfl (Nat.le_of_ble_eq_true rfl) (by omega) dX12_readNot_6 ?_
    refine r_if_eq 40 dX12_readNot_9 (by decide) (fun hc => ?_) (fun hc => ?_)
    · replace h := kbG_t hc h
      refine r_le [some (.ref 57), some (.int v1), some (.int v2), none] ⟨rfl, ⟨rfl, ⟨rfl, trivial⟩⟩⟩ ?_
      exact hx ((v2, μ)) (kbG_some h)
    · replace h := kbG_f hc h
      refine r_iload_n dX12_readNot_12 rfl ?_
      refine r_bipush 6 dX12_readNot_13 (by decide) ?_
      refine r_icmp_ne 23 dX12_readNot_15 (by decide) (fun hc => ?_) (fun hc => ?_)
      · replace h := kbG_f hc h
        refine r_le [some (.ref 57), some (.int v1), some (.int v2), none] ⟨rfl, ⟨rfl, ⟨rfl, trivial⟩⟩⟩ ?_
        exact jnR_MD_readNot_23 n hre v1 v2 μ (hx := hx) (hrec := ih) h
      · replace h := kbG_t hc h
        refine r_aload_n dX12_readNot_18 rfl ?_
        refine r_iconst 2 dX12_readNot_19 (by decide) ?_
        obtain ⟨x3, hx0, h⟩ := kbG_bind h
        refine r_invV_v cvX12_233 sh57 rfl (sp_MD_wrong 2 μ hx0) rfl rfl (Nat.le_of_ble_eq_true rfl) (by omega) dX12_readNot_20 ?_
        refine r_le [some (.ref 57), some (.int v1), some (.int v2), none] ⟨rfl, ⟨rfl, ⟨rfl, trivial⟩⟩⟩ ?_
        exact jnR_MD_readNot_23 n hre v1 v2 x3 (hx := hx) (hrec := ih) h
def lp_MD_readNot_96 (n : Nat) (re : Int32 → kbM → Option kbM) (v2 : Int32) : Nat → Int32 → kbM → Option (kbM)
  | 0, _, _ => none
  | k + 1, v3, μ =>
    if v2 ≤ v3 then
      some μ
    else
      (f_MD_lay (-28) μ).bind fun x11 =>
      lp_MD_readNot_96 n re v2 k (v3 + 1) x11
theorem lpR_MD_readNot_96 {l : Launch} (n : Nat) {d0 : Nat} {re : Int32 → kbM → Option kbM} (hre : ∀ (l : Launch) (a : Int32) (μ x : kbM), re a μ = some x → kbS l MX12_readExpression d0 [.ref 57, .int a] μ (kbQe none x)) (v2 : Int32)  {Q : kbQt} {P : kbM → Prop} (hx : ∀ z : kbM, P (z) → kbR l MX12_readNot (d0 + 10) Q 113 [none, none, none, none] [] z) : ∀ (k : Nat) (v3 : Int32) (μ : kbM), kbG (lp_MD_readNot_96 n re v2 k v3 μ) P → kbR l MX12_readNot (d0 + 10) Q 96 [some (.ref 57), none, some (.int v2), some (.int v3)] [] μ := by
  intro k
  induction k with
  | zero => intro v3 μ h; exact absurd h kbG_none
  | succ k ih =>
    intro v3 μ h
    unfold lp_MD_readNot_96 at h
    refine r_iload_n dX12_readNot_96 rfl ?_
    refine r_iload_n dX12_readNot_97 rfl ?_
    refine r_icmp_ge 113 dX12_readNot_98 (by decide) (fun hc => ?_) (fun hc => ?_)
    · replace h := kbG_t hc h
      refine r_le [none, none, none, none] trivial ?_
      exact hx μ (kbG_some h)
    · replace h := kbG_f hc h
      refine r_aload_n dX12_readNot_101 rfl ?_
      refine r_bipush (-28) dX12_readNot_102 (by decide) ?_
      obtain ⟨x11, hx0, h⟩ := kbG_bind h
      refine r_invV_v cvX12_243 sh57 rfl (sp_MD_lay (-28) μ hx0) rfl rfl (Nat.le_of_ble_eq_true rfl) (by omega) dX12_readNot_104 ?_
      refine r_iinc 1 dX12_readNot_107 rfl (by decide) (Nat.le_of_ble_eq_true rfl) rfl ?_
      refine r_goto 96 dX12_readNot_110 (by decide) ?_
      refine r_le [some (.ref 57), none, some (.int v2), some (.int (v3 + 1))] ⟨rfl, ⟨rfl, ⟨rfl, trivial⟩⟩⟩ ?_
      exact ih (v3 + 1) x11 h
def jn_MD_readNot_94 (n : Nat) (re : Int32 → kbM → Option kbM) (v2 : Int32) (μ : kbM) : Option (kbM) :=
  (lp_MD_readNot_96 n re v2 n 0 μ).bind fun x12 =>
  some x12
theorem jnR_MD_readNot_94 {l : Launch} (n : Nat) {d0 : Nat} {re : Int32 → kbM → Option kbM} (hre : ∀ (l : Launch) (a : Int32) (μ x : kbM), re a μ = some x → kbS l MX12_readExpression d0 [.ref 57, .int a] μ (kbQe none x))   (v2 : Int32) (μ : kbM) {Q : kbQt} {P : kbM → Prop} (hr : ∀ z : kbM, P z → Q none z) (h : kbG (jn_MD_readNot_94 n re v2 μ) P) : kbR l MX12_readNot (d0 + 10) Q 94 [some (.ref 57), none, some (.int v2), none] [] μ := by
  unfold jn_MD_readNot_94 at h
  refine r_iconst 0 dX12_readNot_94 (by decide) ?_
  refine r_istore_n dX12_readNot_95 (Nat.le_of_ble_eq_true rfl) rfl ?_
  refine r_le [some (.ref 57), none, some (.int v2), some (.int 0)] ⟨rfl, ⟨rfl, ⟨rfl, trivial⟩⟩⟩ ?_
  obtain ⟨x12, hx0, h⟩ := kbG_bind h
  refine lpR_MD_readNot_96 n hre v2 (P := fun z => x12 = z) (hx := fun z e => ?_) n _ _ ⟨_, hx0, rfl⟩
  subst e
  exact r_vret rfl dX12_readNot_113 (hr x12 (kbG_some h))
def jn_MD_readNot_79 (n : Nat) (re : Int32 → kbM → Option kbM) (v1 : Int32) (v2 : Int32) (w0 : Int32) (μ : kbM) : Option (kbM) :=
  (f_MD_stepOn n μ).bind fun x8 =>
  (f_MD_readSum n re v1 x8).bind fun x9 =>
  (f_MD_lay w0 x9).bind fun x10 =>
  jn_MD_readNot_94 n re v2 x10
theorem jnR_MD_readNot_79 {l : Launch} (n : Nat) {d0 : Nat} {re : Int32 → kbM → Option kbM} (hre : ∀ (l : Launch) (a : Int32) (μ x : kbM), re a μ = some x → kbS l MX12_readExpression d0 [.ref 57, .int a] μ (kbQe none x))   (v1 : Int32) (v2 : Int32) (w0 : Int32) (μ : kbM) {Q : kbQt} {P : kbM → Prop} (hr : ∀ z : kbM, P z → Q none z) (h : kbG (jn_MD_readNot_79 n re v1 v2 w0 μ) P) : kbR l MX12_readNot (d0 + 10) Q 79 [some (.ref 57), some (.int v1), some (.int v2), none] [.int w0] μ := by
  unfold jn_MD_readNot_79 at h
  refine r_istore_n dX12_readNot_79 (Nat.le_of_ble_eq_true rfl) rfl ?_
  refine r_aload_n dX12_readNot_80 rfl ?_
  obtain ⟨x8, hx0, h⟩ := kbG_bind h
  refine r_invV_v cvX12_237 sh57 rfl (sp_MD_stepOn n μ hx0) rfl rfl (Nat.le_of_ble_eq_true rfl) (by omega) dX12_readNot_81 ?_
  refine r_aload_n dX12_readNot_84 rfl ?_
  refine r_iload_n dX12_readNot_85 rfl ?_
  obtain ⟨x9, hx0, h⟩ := kbG_bind h
  refine r_invV_v cvX12_264 sh57 rfl (sp_MD_readSum n hre v1 x8 hx0) rfl rfl (Nat.le_of_ble_eq_true rfl) (by omega) dX12_readNot_86 ?_
  refine r_aload_n dX12_readNot_89 rfl ?_
  refine r_iload_n dX12_readNot_90 rfl ?_
  obtain ⟨x10, hx0, h⟩ := kbG_bind h
  refine r_invV_v cvX12_243 sh57 rfl (sp_MD_lay w0 x9 hx0) rfl rfl (Nat.le_of_ble_eq_true rfl) (by omega) dX12_readNot_91 ?_
  refine r_le [some (.ref 57), none, some (.int v2), none] ⟨rfl, ⟨rfl, trivial⟩⟩ ?_
  exact jnR_MD_readNot_94 n hre v2 x10 (hr := hr) h
def jn_MD_readNot_63 (n : Nat) (re : Int32 → kbM → Option kbM) (v1 : Int32) (v2 : Int32) (μ : kbM) : Option (kbM) :=
  (f_MD_isMarked 60 μ).bind fun x7 =>
  if x7 = 0 then
    jn_MD_readNot_79 n re v1 v2 (-25) μ
  else
    jn_MD_readNot_79 n re v1 v2 (-24) μ
theorem jnR_MD_readNot_63 {l : Launch} (n : Nat) {d0 : Nat} {re : Int32 → kbM → Option kbM} (hre : ∀ (l : Launch) (a : Int32) (μ x : kbM), re a μ = some x → kbS l MX12_readExpression d0 [.ref 57, .int a] μ (kbQe none x))   (v1 : Int32) (v2 : Int32) (μ : kbM) {Q : kbQt} {P : kbM → Prop} (hr : ∀ z : kbM, P z → Q none z) (h : kbG (jn_MD_readNot_63 n re v1 v2 μ) P) : kbR l MX12_readNot (d0 + 10) Q 63 [some (.ref 57), some (.int v1), some (.int v2), none] [] μ := by
  unfold jn_MD_readNot_63 at h
  refine r_aload_n dX12_readNot_63 rfl ?_
  refine r_bipush 60 dX12_readNot_64 (by decide) ?_
  obtain ⟨x7, hx0, h⟩ := kbG_bind h
  refine r_invV_i cvX12_230 sh57 rfl (sp_MD_isMarked 60 μ hx0) rfl rfl (Nat.le_of_ble_eq_true rfl) (by omega) dX12_readNot_66 ?_
  refine r_if_eq 77 dX12_readNot_69 (by decide) (fun hc => ?_) (fun hc => ?_)
  · replace h := kbG_t hc h
    refine r_bipush (-25) dX12_readNot_77 (by decide) ?_
    refine r_le [some (.ref 57), some (.int v1), some (.int v2), none] ⟨rfl, ⟨rfl, ⟨rfl, trivial⟩⟩⟩ ?_
    exact jnR_MD_readNot_79 n hre v1 v2 (-25) μ (hr := hr) h
  · replace h := kbG_f hc h
    refine r_bipush (-24) dX12_readNot_72 (by decide) ?_
    refine r_goto 79 dX12_readNot_74 (by decide) ?_
    refine r_le [some (.ref 57), some (.int v1), some (.int v2), none] ⟨rfl, ⟨rfl, ⟨rfl, trivial⟩⟩⟩ ?_
    exact jnR_MD_readNot_79 n hre v1 v2 (-24) μ (hr := hr) h
def f_MD_readNot (n : Nat) (re : Int32 → kbM → Option kbM) (a1 : Int32) (μ : kbM) : Option (kbM) :=
  (lp_MD_readNot_2 n re a1 n 0 μ).bind fun x4 =>
  (f_MD_readSum n re a1 x4.2).bind fun x5 =>
  (f_MD_isMarked 60 x5).bind fun x6 =>
  if x6 = 0 then
    (f_MD_isMarked 61 x5).bind fun x13 =>
    if x13 = 0 then
      jn_MD_readNot_94 n re x4.1 x5
    else
      jn_MD_readNot_63 n re a1 x4.1 x5
  else
    jn_MD_readNot_63 n re a1 x4.1 x5
theorem sp_MD_readNot {l : Launch} (n : Nat) {d0 : Nat} {re : Int32 → kbM → Option kbM} (hre : ∀ (l : Launch) (a : Int32) (μ x : kbM), re a μ = some x → kbS l MX12_readExpression d0 [.ref 57, .int a] μ (kbQe none x)) (a1 : Int32) (μ : kbM)  {x : kbM} (h : f_MD_readNot n re a1 μ = some x) : kbS l MX12_readNot (d0 + 10) [.ref 57, .int a1] μ (kbQe none x) := by
  refine kb_enter 2 rfl rfl ?_
  suffices H : ∀ (Q : kbQt) (P : kbM → Prop), (∀ z : kbM, P z → Q none z) → kbG (f_MD_readNot n re a1 μ) P → kbR l MX12_readNot (d0 + 10) Q 0 [some (.ref 57), some (.int a1), none, none] [] μ from H _ (fun z => z = x) (fun z e => by subst e; exact ⟨rfl, rfl⟩) ⟨x, h, rfl⟩
  clear h
  intro Q P hr h
  unfold f_MD_readNot at h
  refine r_iconst 0 dX12_readNot_0 (by decide) ?_
  refine r_istore_n dX12_readNot_1 (Nat.le_of_ble_eq_true rfl) rfl ?_
  refine r_le [some (.ref 57), some (.int a1), some (.int 0), none] ⟨rfl, ⟨rfl, ⟨rfl, trivial⟩⟩⟩ ?_
  obtain ⟨x4, hx0, h⟩ := kbG_bind h
  refine lpR_MD_readNot_2 n hre a1 (P := fun z => x4 = z) (hx := fun z e => ?_) n _ _ ⟨_, hx0, rfl⟩
  subst e
  refine r_aload_n dX12_readNot_40 rfl ?_
  refine r_iload_n dX12_readNot_41 rfl ?_
  obtain ⟨x5, hx0, h⟩ := kbG_bind h
  refine r_invV_v cvX12_264 sh57 rfl (sp_MD_readSum n hre a1 x4.2 hx0) rfl rfl (Nat.le_of_ble_eq_true rfl) (by omega) dX12_readNot_42 ?_
  refine r_aload_n dX12_readNot_45 rfl ?_
  refine r_bipush 60 dX12_readNot_46 (by decide) ?_
  obtain ⟨x6, hx0, h⟩ := kbG_bind h
  refine r_invV_i cvX12_230 sh57 rfl (sp_MD_isMarked 60 x5 hx0) rfl rfl (Nat.le_of_ble_eq_true rfl) (by omega) dX12_readNot_48 ?_
  refine r_if_ne 63 dX12_readNot_51 (by decide) (fun hc => ?_) (fun hc => ?_)
  · replace h := kbG_f hc h
    refine r_le [some (.ref 57), some (.int a1), some (.int x4.1), none] ⟨rfl, ⟨rfl, ⟨rfl, trivial⟩⟩⟩ ?_
    exact jnR_MD_readNot_63 n hre a1 x4.1 x5 (hr := hr) h
  · replace h := kbG_t hc h
    refine r_aload_n dX12_readNot_54 rfl ?_
    refine r_bipush 61 dX12_readNot_55 (by decide) ?_
    obtain ⟨x13, hx0, h⟩ := kbG_bind h
    refine r_invV_i cvX12_230 sh57 rfl (sp_MD_isMarked 61 x5 hx0) rfl rfl (Nat.le_of_ble_eq_true rfl) (by omega) dX12_readNot_57 ?_
    refine r_if_eq 94 dX12_readNot_60 (by decide) (fun hc => ?_) (fun hc => ?_)
    · replace h := kbG_t hc h
      refine r_le [some (.ref 57), none, some (.int x4.1), none] ⟨rfl, ⟨rfl, trivial⟩⟩ ?_
      exact jnR_MD_readNot_94 n hre x4.1 x5 (hr := hr) h
    · replace h := kbG_f hc h
      refine r_le [some (.ref 57), some (.int a1), some (.int x4.1), none] ⟨rfl, ⟨rfl, ⟨rfl, trivial⟩⟩⟩ ?_
      exact jnR_MD_readNot_63 n hre a1 x4.1 x5 (hr := hr) h
def lp_MD_readAnd_5 (n : Nat) (re : Int32 → kbM → Option kbM) (v1 : Int32) : Nat → kbM → Option (kbM)
  | 0, _ => none
  | k + 1, μ =>
    (f_MD_is n 28 μ).bind fun x2 =>
    if x2 = 0 then
      some μ
    else
      (f_MD_stepOn n μ).bind fun x3 =>
      (f_MD_readNot n re v1 x3).bind fun x4 =>
      (f_MD_lay (-26) x4).bind fun x5 =>
      lp_MD_readAnd_5 n re v1 k x5
theorem lpR_MD_readAnd_5 {l : Launch} (n : Nat) {d0 : Nat} {re : Int32 → kbM → Option kbM} (hre : ∀ (l : Launch) (a : Int32) (μ x : kbM), re a μ = some x → kbS l MX12_readExpression d0 [.ref 57, .int a] μ (kbQe none x)) (v1 : Int32)  {Q : kbQt} {P : kbM → Prop} (hx : ∀ z : kbM, P (z) → kbR l MX12_readAnd (d0 + 11) Q 33 [none, none] [] z) : ∀ (k : Nat) (μ : kbM), kbG (lp_MD_readAnd_5 n re v1 k μ) P → kbR l MX12_readAnd (d0 + 11) Q 5 [some (.ref 57), some (.int v1)] [] μ := by
  intro k
  induction k with
  | zero => intro μ h; exact absurd h kbG_none
  | succ k ih =>
    intro μ h
    unfold lp_MD_readAnd_5 at h
    refine r_aload_n dX12_readAnd_5 rfl ?_
    refine r_ldcSw lsX12_270 dX12_readAnd_6 ?_
    obtain ⟨x2, hx0, h⟩ := kbG_bind h
    refine r_invV_i cvX12_226 sh57 rfl (sp_MD_is n 28 μ (by decide) hx0) rfl rfl (Nat.le_of_ble_eq_true rfl) (by omega) dX12_readAnd_9 ?_
    refine r_if_eq 33 dX12_readAnd_12 (by decide) (fun hc => ?_) (fun hc => ?_)
    · replace h := kbG_t hc h
      refine r_le [none, none] trivial ?_
      exact hx μ (kbG_some h)
    · replace h := kbG_f hc h
      refine r_aload_n dX12_readAnd_15 rfl ?_
      obtain ⟨x3, hx0, h⟩ := kbG_bind h
      refine r_invV_v cvX12_237 sh57 rfl (sp_MD_stepOn n μ hx0) rfl rfl (Nat.le_of_ble_eq_true rfl) (by omega) dX12_readAnd_16 ?_
      refine r_aload_n dX12_readAnd_19 rfl ?_
      refine r_iload_n dX12_readAnd_20 rfl ?_
      obtain ⟨x4, hx0, h⟩ := kbG_bind h
      refine r_invV_v cvX12_267 sh57 rfl (sp_MD_readNot n hre v1 x3 hx0) rfl rfl (Nat.le_of_ble_eq_true rfl) (by omega) dX12_readAnd_21 ?_
      refine r_aload_n dX12_readAnd_24 rfl ?_
      refine r_bipush (-26) dX12_readAnd_25 (by decide) ?_
      obtain ⟨x5, hx0, h⟩ := kbG_bind h
      refine r_invV_v cvX12_243 sh57 rfl (sp_MD_lay (-26) x4 hx0) rfl rfl (Nat.le_of_ble_eq_true rfl) (by omega) dX12_readAnd_27 ?_
      refine r_goto 5 dX12_readAnd_30 (by decide) ?_
      refine r_le [some (.ref 57), some (.int v1)] ⟨rfl, ⟨rfl, trivial⟩⟩ ?_
      exact ih x5 h
def f_MD_readAnd (n : Nat) (re : Int32 → kbM → Option kbM) (a1 : Int32) (μ : kbM) : Option (kbM) :=
  (f_MD_readNot n re a1 μ).bind fun x1 =>
  (lp_MD_readAnd_5 n re a1 n x1).bind fun x6 =>
  some x6
theorem sp_MD_readAnd {l : Launch} (n : Nat) {d0 : Nat} {re : Int32 → kbM → Option kbM} (hre : ∀ (l : Launch) (a : Int32) (μ x : kbM), re a μ = some x → kbS l MX12_readExpression d0 [.ref 57, .int a] μ (kbQe none x)) (a1 : Int32) (μ : kbM)  {x : kbM} (h : f_MD_readAnd n re a1 μ = some x) : kbS l MX12_readAnd (d0 + 11) [.ref 57, .int a1] μ (kbQe none x) := by
  refine kb_enter 0 rfl rfl ?_
  suffices H : ∀ (Q : kbQt) (P : kbM → Prop), (∀ z : kbM, P z → Q none z) → kbG (f_MD_readAnd n re a1 μ) P → kbR l MX12_readAnd (d0 + 11) Q 0 [some (.ref 57), some (.int a1)] [] μ from H _ (fun z => z = x) (fun z e => by subst e; exact ⟨rfl, rfl⟩) ⟨x, h, rfl⟩
  clear h
  intro Q P hr h
  unfold f_MD_readAnd at h
  refine r_aload_n dX12_readAnd_0 rfl ?_
  refine r_iload_n dX12_readAnd_1 rfl ?_
  obtain ⟨x1, hx0, h⟩ := kbG_bind h
  refine r_invV_v cvX12_267 sh57 rfl (sp_MD_readNot n hre a1 μ hx0) rfl rfl (Nat.le_of_ble_eq_true rfl) (by omega) dX12_readAnd_2 ?_
  refine r_le [some (.ref 57), some (.int a1)] ⟨rfl, ⟨rfl, trivial⟩⟩ ?_
  obtain ⟨x6, hx0, h⟩ := kbG_bind h
  refine lpR_MD_readAnd_5 n hre a1 (P := fun z => x6 = z) (hx := fun z e => ?_) n _ ⟨_, hx0, rfl⟩
  subst e
  exact r_vret rfl dX12_readAnd_33 (hr x6 (kbG_some h))
def lp_MD_readExpression_67 (n : Nat) (re : Int32 → kbM → Option kbM) (v1 : Int32) : Nat → kbM → Option (kbM)
  | 0, _ => none
  | k + 1, μ =>
    (f_MD_is n 27 μ).bind fun x2 =>
    if x2 = 0 then
      some μ
    else
      (f_MD_stepOn n μ).bind fun x3 =>
      (f_MD_readAnd n re v1 x3).bind fun x4 =>
      (f_MD_lay (-27) x4).bind fun x5 =>
      lp_MD_readExpression_67 n re v1 k x5
theorem lpR_MD_readExpression_67 {l : Launch} (n : Nat) {d0 : Nat} {re : Int32 → kbM → Option kbM} (hre : ∀ (l : Launch) (a : Int32) (μ x : kbM), re a μ = some x → kbS l MX12_readExpression d0 [.ref 57, .int a] μ (kbQe none x)) (v1 : Int32)  {Q : kbQt} {P : kbM → Prop} (hx : ∀ z : kbM, P (z) → kbR l MX12_readExpression (d0 + 12) Q 95 [none, none, none] [] z) : ∀ (k : Nat) (μ : kbM), kbG (lp_MD_readExpression_67 n re v1 k μ) P → kbR l MX12_readExpression (d0 + 12) Q 67 [some (.ref 57), some (.int v1), none] [] μ := by
  intro k
  induction k with
  | zero => intro μ h; exact absurd h kbG_none
  | succ k ih =>
    intro μ h
    unfold lp_MD_readExpression_67 at h
    refine r_aload_n dX12_readExpression_67 rfl ?_
    refine r_ldcSw lsX12_275 dX12_readExpression_68 ?_
    obtain ⟨x2, hx0, h⟩ := kbG_bind h
    refine r_invV_i cvX12_226 sh57 rfl (sp_MD_is n 27 μ (by decide) hx0) rfl rfl (Nat.le_of_ble_eq_true rfl) (by omega) dX12_readExpression_71 ?_
    refine r_if_eq 95 dX12_readExpression_74 (by decide) (fun hc => ?_) (fun hc => ?_)
    · replace h := kbG_t hc h
      refine r_le [none, none, none] trivial ?_
      exact hx μ (kbG_some h)
    · replace h := kbG_f hc h
      refine r_aload_n dX12_readExpression_77 rfl ?_
      obtain ⟨x3, hx0, h⟩ := kbG_bind h
      refine r_invV_v cvX12_237 sh57 rfl (sp_MD_stepOn n μ hx0) rfl rfl (Nat.le_of_ble_eq_true rfl) (by omega) dX12_readExpression_78 ?_
      refine r_aload_n dX12_readExpression_81 rfl ?_
      refine r_iload_n dX12_readExpression_82 rfl ?_
      obtain ⟨x4, hx0, h⟩ := kbG_bind h
      refine r_invV_v cvX12_272 sh57 rfl (sp_MD_readAnd n hre v1 x3 hx0) rfl rfl (Nat.le_of_ble_eq_true rfl) (by omega) dX12_readExpression_83 ?_
      refine r_aload_n dX12_readExpression_86 rfl ?_
      refine r_bipush (-27) dX12_readExpression_87 (by decide) ?_
      obtain ⟨x5, hx0, h⟩ := kbG_bind h
      refine r_invV_v cvX12_243 sh57 rfl (sp_MD_lay (-27) x4 hx0) rfl rfl (Nat.le_of_ble_eq_true rfl) (by omega) dX12_readExpression_89 ?_
      refine r_goto 67 dX12_readExpression_92 (by decide) ?_
      refine r_le [some (.ref 57), some (.int v1), none] ⟨rfl, ⟨rfl, trivial⟩⟩ ?_
      exact ih x5 h
def jn_MD_readExpression_62 (n : Nat) (re : Int32 → kbM → Option kbM) (v1 : Int32) (μ : kbM) : Option (kbM) :=
  (f_MD_readAnd n re v1 μ).bind fun x1 =>
  (lp_MD_readExpression_67 n re v1 n x1).bind fun x6 =>
  some x6
theorem jnR_MD_readExpression_62 {l : Launch} (n : Nat) {d0 : Nat} {re : Int32 → kbM → Option kbM} (hre : ∀ (l : Launch) (a : Int32) (μ x : kbM), re a μ = some x → kbS l MX12_readExpression d0 [.ref 57, .int a] μ (kbQe none x))   (v1 : Int32) (μ : kbM) {Q : kbQt} {P : kbM → Prop} (hr : ∀ z : kbM, P z → Q none z) (h : kbG (jn_MD_readExpression_62 n re v1 μ) P) : kbR l MX12_readExpression (d0 + 12) Q 62 [some (.ref 57), some (.int v1), none] [] μ := by
  unfold jn_MD_readExpression_62 at h
  refine r_aload_n dX12_readExpression_62 rfl ?_
  refine r_iload_n dX12_readExpression_63 rfl ?_
  obtain ⟨x1, hx0, h⟩ := kbG_bind h
  refine r_invV_v cvX12_272 sh57 rfl (sp_MD_readAnd n hre v1 μ hx0) rfl rfl (Nat.le_of_ble_eq_true rfl) (by omega) dX12_readExpression_64 ?_
  refine r_le [some (.ref 57), some (.int v1), none] ⟨rfl, ⟨rfl, trivial⟩⟩ ?_
  obtain ⟨x6, hx0, h⟩ := kbG_bind h
  refine lpR_MD_readExpression_67 n hre v1 (P := fun z => x6 = z) (hx := fun z e => ?_) n _ ⟨_, hx0, rfl⟩
  subst e
  exact r_vret rfl dX12_readExpression_95 (hr x6 (kbG_some h))
def jn_MD_readExpression_38 (n : Nat) (re : Int32 → kbM → Option kbM) (v1 : Int32) (w0 : Int32) (μ : kbM) : Option (kbM) :=
  if w0 = 0 then
    (f_MD_wrong 1 μ).bind fun x8 =>
    jn_MD_readExpression_62 n re v1 x8
  else
    if v1 = 6 then
      (f_MD_wrong 2 μ).bind fun x7 =>
      jn_MD_readExpression_62 n re v1 x7
    else
      jn_MD_readExpression_62 n re v1 μ
theorem jnR_MD_readExpression_38 {l : Launch} (n : Nat) {d0 : Nat} {re : Int32 → kbM → Option kbM} (hre : ∀ (l : Launch) (a : Int32) (μ x : kbM), re a μ = some x → kbS l MX12_readExpression d0 [.ref 57, .int a] μ (kbQe none x))   (v1 : Int32) (w0 : Int32) (μ : kbM) {Q : kbQt} {P : kbM → Prop} (hr : ∀ z : kbM, P z → Q none z) (h : kbG (jn_MD_readExpression_38 n re v1 w0 μ) P) : kbR l MX12_readExpression (d0 + 12) Q 38 [some (.ref 57), some (.int v1), none] [.int w0] μ := by
  unfold jn_MD_readExpression_38 at h
  refine r_istore_n dX12_readExpression_38 (Nat.le_of_ble_eq_true rfl) rfl ?_
  refine r_iload_n dX12_readExpression_39 rfl ?_
  refine r_if_ne 51 dX12_readExpression_40 (by decide) (fun hc => ?_) (fun hc => ?_)
  · replace h := kbG_f hc h
    refine r_iload_n dX12_readExpression_51 rfl ?_
    refine r_bipush 6 dX12_readExpression_52 (by decide) ?_
    refine r_icmp_ne 62 dX12_readExpression_54 (by decide) (fun hc => ?_) (fun hc => ?_)
    · replace h := kbG_f hc h
      refine r_le [some (.ref 57), some (.int v1), none] ⟨rfl, ⟨rfl, trivial⟩⟩ ?_
      exact jnR_MD_readExpression_62 n hre v1 μ (hr := hr) h
    · replace h := kbG_t hc h
      refine r_aload_n dX12_readExpression_57 rfl ?_
      refine r_iconst 2 dX12_readExpression_58 (by decide) ?_
      obtain ⟨x7, hx0, h⟩ := kbG_bind h
      refine r_invV_v cvX12_233 sh57 rfl (sp_MD_wrong 2 μ hx0) rfl rfl (Nat.le_of_ble_eq_true rfl) (by omega) dX12_readExpression_59 ?_
      refine r_le [some (.ref 57), some (.int v1), none] ⟨rfl, ⟨rfl, trivial⟩⟩ ?_
      exact jnR_MD_readExpression_62 n hre v1 x7 (hr := hr) h
  · replace h := kbG_t hc h
    refine r_aload_n dX12_readExpression_43 rfl ?_
    refine r_iconst 1 dX12_readExpression_44 (by decide) ?_
    obtain ⟨x8, hx0, h⟩ := kbG_bind h
    refine r_invV_v cvX12_233 sh57 rfl (sp_MD_wrong 1 μ hx0) rfl rfl (Nat.le_of_ble_eq_true rfl) (by omega) dX12_readExpression_45 ?_
    refine r_goto 62 dX12_readExpression_48 (by decide) ?_
    refine r_le [some (.ref 57), some (.int v1), none] ⟨rfl, ⟨rfl, trivial⟩⟩ ?_
    exact jnR_MD_readExpression_62 n hre v1 x8 (hr := hr) h
def jn_MD_readExpression_33 (n : Nat) (re : Int32 → kbM → Option kbM) (v1 : Int32) (μ : kbM) : Option (kbM) :=
  jn_MD_readExpression_38 n re v1 1 μ
theorem jnR_MD_readExpression_33 {l : Launch} (n : Nat) {d0 : Nat} {re : Int32 → kbM → Option kbM} (hre : ∀ (l : Launch) (a : Int32) (μ x : kbM), re a μ = some x → kbS l MX12_readExpression d0 [.ref 57, .int a] μ (kbQe none x))   (v1 : Int32) (μ : kbM) {Q : kbQt} {P : kbM → Prop} (hr : ∀ z : kbM, P z → Q none z) (h : kbG (jn_MD_readExpression_33 n re v1 μ) P) : kbR l MX12_readExpression (d0 + 12) Q 33 [some (.ref 57), some (.int v1), none] [] μ := by
  unfold jn_MD_readExpression_33 at h
  refine r_iconst 1 dX12_readExpression_33 (by decide) ?_
  refine r_goto 38 dX12_readExpression_34 (by decide) ?_
  refine r_le [some (.ref 57), some (.int v1), none] ⟨rfl, ⟨rfl, trivial⟩⟩ ?_
  exact jnR_MD_readExpression_38 n hre v1 1 μ (hr := hr) h
def f_MD_readExpression (n : Nat) (re : Int32 → kbM → Option kbM) (a1 : Int32) (μ : kbM) : Option (kbM) :=
  if (μ.1 57 20) = 0 then
    if (μ.1 57 16) = 2 then
      jn_MD_readExpression_33 n re a1 μ
    else
      if (μ.1 57 16) = 1 then
        jn_MD_readExpression_33 n re a1 μ
      else
        (f_MD_isMarked 40 μ).bind fun x9 =>
        if x9 = 0 then
          jn_MD_readExpression_38 n re a1 0 μ
        else
          jn_MD_readExpression_33 n re a1 μ
  else
    some μ
theorem sp_MD_readExpression {l : Launch} (n : Nat) {d0 : Nat} {re : Int32 → kbM → Option kbM} (hre : ∀ (l : Launch) (a : Int32) (μ x : kbM), re a μ = some x → kbS l MX12_readExpression d0 [.ref 57, .int a] μ (kbQe none x)) (a1 : Int32) (μ : kbM)  {x : kbM} (h : f_MD_readExpression n re a1 μ = some x) : kbS l MX12_readExpression (d0 + 12) [.ref 57, .int a1] μ (kbQe none x) := by
  refine kb_enter 1 rfl rfl ?_
  suffices H : ∀ (Q : kbQt) (P : kbM → Prop), (∀ z : kbM, P z → Q none z) → kbG (f_MD_readExpression n re a1 μ) P → kbR l MX12_readExpression (d0 + 12) Q 0 [some (.ref 57), some (.int a1), none] [] μ from H _ (fun z => z = x) (fun z e => by subst e; exact ⟨rfl, rfl⟩) ⟨x, h, rfl⟩
  clear h
  intro Q P hr h
  unfold f_MD_readExpression at h
  refine r_aload_n dX12_readExpression_0 rfl ?_
  refine r_getI flX12_212 sh57 rfl dX12_readExpression_1 ?_
  refine r_if_eq 8 dX12_readExpression_4 (by decide) (fun hc => ?_) (fun hc => ?_)
  · replace h := kbG_t hc h
    refine r_aload_n dX12_readExpression_8 rfl ?_
    refine r_getI flX12_186 sh57 rfl dX12_readExpression_9 ?_
    refine r_iconst 2 dX12_readExpression_12 (by decide) ?_
    refine r_icmp_eq 33 dX12_readExpression_13 (by decide) (fun hc => ?_) (fun hc => ?_)
    · replace h := kbG_t hc h
      refine r_le [some (.ref 57), some (.int a1), none] ⟨rfl, ⟨rfl, trivial⟩⟩ ?_
      exact jnR_MD_readExpression_33 n hre a1 μ (hr := hr) h
    · replace h := kbG_f hc h
      refine r_aload_n dX12_readExpression_16 rfl ?_
      refine r_getI flX12_186 sh57 rfl dX12_readExpression_17 ?_
      refine r_iconst 1 dX12_readExpression_20 (by decide) ?_
      refine r_icmp_eq 33 dX12_readExpression_21 (by decide) (fun hc => ?_) (fun hc => ?_)
      · replace h := kbG_t hc h
        refine r_le [some (.ref 57), some (.int a1), none] ⟨rfl, ⟨rfl, trivial⟩⟩ ?_
        exact jnR_MD_readExpression_33 n hre a1 μ (hr := hr) h
      · replace h := kbG_f hc h
        refine r_aload_n dX12_readExpression_24 rfl ?_
        refine r_bipush 40 dX12_readExpression_25 (by decide) ?_
        obtain ⟨x9, hx0, h⟩ := kbG_bind h
        refine r_invV_i cvX12_230 sh57 rfl (sp_MD_isMarked 40 μ hx0) rfl rfl (Nat.le_of_ble_eq_true rfl) (by omega) dX12_readExpression_27 ?_
        refine r_if_eq 37 dX12_readExpression_30 (by decide) (fun hc => ?_) (fun hc => ?_)
        · replace h := kbG_t hc h
          refine r_iconst 0 dX12_readExpression_37 (by decide) ?_
          refine r_le [some (.ref 57), some (.int a1), none] ⟨rfl, ⟨rfl, trivial⟩⟩ ?_
          exact jnR_MD_readExpression_38 n hre a1 0 μ (hr := hr) h
        · replace h := kbG_f hc h
          refine r_le [some (.ref 57), some (.int a1), none] ⟨rfl, ⟨rfl, trivial⟩⟩ ?_
          exact jnR_MD_readExpression_33 n hre a1 μ (hr := hr) h
  · replace h := kbG_f hc h
    exact r_vret rfl dX12_readExpression_7 (hr μ (kbG_some h))
def F_MD_readExpression (n : Nat) : Nat → Int32 → kbM → Option kbM
  | 0, _, _ => none
  | k + 1, a, μ => f_MD_readExpression n (F_MD_readExpression n k) a μ
theorem SP_MD_readExpression {l : Launch} (n : Nat) : ∀ (k : Nat) (a : Int32) (μ : kbM) {x : kbM}, F_MD_readExpression n k a μ = some x → kbS l MX12_readExpression (12 * k) [.ref 57, .int a] μ (kbQe none x) := by
  intro k
  induction k generalizing l with
  | zero => intro a μ x h; cases h
  | succ k ih =>
    intro a μ x h
    have := sp_MD_readExpression (l := l) (d0 := 12 * k) n (re := F_MD_readExpression n k) (fun l a μ x h => ih a μ h) a μ h
    rw [Nat.mul_succ]
    exact this
def jn_MD_readLine_93 (n : Nat) (v1 : Int32) (μ : kbM) : Option (Int32 × kbM) :=
  (f_MD_mark n 59 μ).bind fun x5 =>
  some ((v1, x5))
theorem jnR_MD_readLine_93 {l : Launch} (n : Nat)   (v1 : Int32) (μ : kbM) {Q : kbQt} {P : Int32 × kbM → Prop} (hr : ∀ z : Int32 × kbM, P z → Q (some (.int z.1)) z.2) (h : kbG (jn_MD_readLine_93 n v1 μ) P) : kbR l MX12_readLine 97 Q 93 [some (.ref 57), some (.int v1), none, none] [] μ := by
  unfold jn_MD_readLine_93 at h
  refine r_aload_n dX12_readLine_93 rfl ?_
  refine r_bipush 59 dX12_readLine_94 (by decide) ?_
  obtain ⟨x5, hx0, h⟩ := kbG_bind h
  refine r_invV_v cvX12_250 sh57 rfl (sp_MD_mark n 59 μ hx0) rfl rfl (Nat.le_of_ble_eq_true rfl) (Nat.le_of_ble_eq_true rfl) dX12_readLine_96 ?_
  refine r_iload_n dX12_readLine_99 rfl ?_
  exact r_iret rfl dX12_readLine_100 (hr ((v1, x5)) (kbG_some h))
def jn_MD_readLine_49 (n : Nat) (μ : kbM) : Option (Int32 × kbM) :=
  (F_MD_readExpression n 8 0 μ).bind fun x8 =>
  (f_MD_mark n 59 x8).bind fun x9 =>
  some ((1, x9))
theorem jnR_MD_readLine_49 {l : Launch} (n : Nat)    (μ : kbM) {Q : kbQt} {P : Int32 × kbM → Prop} (hr : ∀ z : Int32 × kbM, P z → Q (some (.int z.1)) z.2) (h : kbG (jn_MD_readLine_49 n μ) P) : kbR l MX12_readLine 97 Q 49 [some (.ref 57), none, none, none] [] μ := by
  unfold jn_MD_readLine_49 at h
  refine r_aload_n dX12_readLine_49 rfl ?_
  refine r_iconst 0 dX12_readLine_50 (by decide) ?_
  obtain ⟨x8, hx0, h⟩ := kbG_bind h
  refine r_invV_v cvX12_253 sh57 rfl (SP_MD_readExpression n 8 0 μ hx0) rfl rfl (Nat.le_of_ble_eq_true rfl) (Nat.le_of_ble_eq_true rfl) dX12_readLine_51 ?_
  refine r_aload_n dX12_readLine_54 rfl ?_
  refine r_bipush 59 dX12_readLine_55 (by decide) ?_
  obtain ⟨x9, hx0, h⟩ := kbG_bind h
  refine r_invV_v cvX12_250 sh57 rfl (sp_MD_mark n 59 x8 hx0) rfl rfl (Nat.le_of_ble_eq_true rfl) (Nat.le_of_ble_eq_true rfl) dX12_readLine_57 ?_
  refine r_iconst 1 dX12_readLine_60 (by decide) ?_
  exact r_iret rfl dX12_readLine_61 (hr ((1, x9)) (kbG_some h))
def jn_MD_readLine_38 (n : Nat) (μ : kbM) : Option (Int32 × kbM) :=
  if (μ.1 57 20) = 0 then
    (f_MD_stepOn n μ).bind fun x10 =>
    jn_MD_readLine_49 n x10
  else
    jn_MD_readLine_49 n μ
theorem jnR_MD_readLine_38 {l : Launch} (n : Nat)    (μ : kbM) {Q : kbQt} {P : Int32 × kbM → Prop} (hr : ∀ z : Int32 × kbM, P z → Q (some (.int z.1)) z.2) (h : kbG (jn_MD_readLine_38 n μ) P) : kbR l MX12_readLine 97 Q 38 [some (.ref 57), none, none, none] [] μ := by
  unfold jn_MD_readLine_38 at h
  refine r_aload_n dX12_readLine_38 rfl ?_
  refine r_getI flX12_212 sh57 rfl dX12_readLine_39 ?_
  refine r_if_ne 49 dX12_readLine_42 (by decide) (fun hc => ?_) (fun hc => ?_)
  · replace h := kbG_f hc h
    refine r_le [some (.ref 57), none, none, none] ⟨rfl, trivial⟩ ?_
    exact jnR_MD_readLine_49 n  μ (hr := hr) h
  · replace h := kbG_t hc h
    refine r_aload_n dX12_readLine_45 rfl ?_
    obtain ⟨x10, hx0, h⟩ := kbG_bind h
    refine r_invV_v cvX12_237 sh57 rfl (sp_MD_stepOn n μ hx0) rfl rfl (Nat.le_of_ble_eq_true rfl) (Nat.le_of_ble_eq_true rfl) dX12_readLine_46 ?_
    refine r_le [some (.ref 57), none, none, none] ⟨rfl, trivial⟩ ?_
    exact jnR_MD_readLine_49 n  x10 (hr := hr) h
def f_MD_readLine (n : Nat) (a1 : Int32) (μ : kbM) : Option (Int32 × kbM) :=
  (f_MD_wordOf_58 n μ).bind fun x1 =>
  (f_MD_wordOf_59 n μ).bind fun x2 =>
  (f_MD_is n 31 μ).bind fun x3 =>
  if x3 = 0 then
    if x1 = (-1) then
      if x2 = (-1) then
        (f_MD_wrong 1 μ).bind fun x4 =>
        jn_MD_readLine_93 n a1 x4
      else
        (f_MD_readDoor n x2 μ).bind fun x6 =>
        jn_MD_readLine_93 n a1 x6
    else
      (f_MD_readWord n x1 μ).bind fun x7 =>
      jn_MD_readLine_93 n a1 x7
  else
    if a1 = 1 then
      (f_MD_wrong 5 μ).bind fun x11 =>
      jn_MD_readLine_38 n x11
    else
      jn_MD_readLine_38 n μ
theorem sp_MD_readLine {l : Launch} (n : Nat) (a1 : Int32) (μ : kbM)  {x : Int32 × kbM} (h : f_MD_readLine n a1 μ = some x) : kbS l MX12_readLine 97 [.ref 57, .int a1] μ (kbQe (some (.int x.1)) x.2) := by
  refine kb_enter 2 rfl rfl ?_
  suffices H : ∀ (Q : kbQt) (P : Int32 × kbM → Prop), (∀ z : Int32 × kbM, P z → Q (some (.int z.1)) z.2) → kbG (f_MD_readLine n a1 μ) P → kbR l MX12_readLine 97 Q 0 [some (.ref 57), some (.int a1), none, none] [] μ from H _ (fun z => z = x) (fun z e => by subst e; exact ⟨rfl, rfl⟩) ⟨x, h, rfl⟩
  clear h
  intro Q P hr h
  unfold f_MD_readLine at h
  refine r_aload_n dX12_readLine_0 rfl ?_
  refine r_aload_n dX12_readLine_1 rfl ?_
  refine r_getR flX12_17 sh57 rfl dX12_readLine_2 ?_
  obtain ⟨x1, hx0, h⟩ := kbG_bind h
  refine r_invV_i cvX12_246 sh57 rfl (sp_MD_wordOf_58 n μ hx0) rfl rfl (Nat.le_of_ble_eq_true rfl) (Nat.le_of_ble_eq_true rfl) dX12_readLine_5 ?_
  refine r_istore_n dX12_readLine_8 (Nat.le_of_ble_eq_true rfl) rfl ?_
  refine r_aload_n dX12_readLine_9 rfl ?_
  refine r_aload_n dX12_readLine_10 rfl ?_
  refine r_getR flX12_29 sh57 rfl dX12_readLine_11 ?_
  obtain ⟨x2, hx0, h⟩ := kbG_bind h
  refine r_invV_i cvX12_246 sh57 rfl (sp_MD_wordOf_59 n μ hx0) rfl rfl (Nat.le_of_ble_eq_true rfl) (Nat.le_of_ble_eq_true rfl) dX12_readLine_14 ?_
  refine r_istore_n dX12_readLine_17 (Nat.le_of_ble_eq_true rfl) rfl ?_
  refine r_aload_n dX12_readLine_18 rfl ?_
  refine r_ldcSw lsX12_284 dX12_readLine_19 ?_
  obtain ⟨x3, hx0, h⟩ := kbG_bind h
  refine r_invV_i cvX12_226 sh57 rfl (sp_MD_is n 31 μ (by decide) hx0) rfl rfl (Nat.le_of_ble_eq_true rfl) (Nat.le_of_ble_eq_true rfl) dX12_readLine_22 ?_
  refine r_if_eq 62 dX12_readLine_25 (by decide) (fun hc => ?_) (fun hc => ?_)
  · replace h := kbG_t hc h
    refine r_iload_n dX12_readLine_62 rfl ?_
    refine r_iconst (-1) dX12_readLine_63 (by decide) ?_
    refine r_icmp_eq 75 dX12_readLine_64 (by decide) (fun hc => ?_) (fun hc => ?_)
    · replace h := kbG_t hc h
      refine r_iload_n dX12_readLine_75 rfl ?_
      refine r_iconst (-1) dX12_readLine_76 (by decide) ?_
      refine r_icmp_eq 88 dX12_readLine_77 (by decide) (fun hc => ?_) (fun hc => ?_)
      · replace h := kbG_t hc h
        refine r_aload_n dX12_readLine_88 rfl ?_
        refine r_iconst 1 dX12_readLine_89 (by decide) ?_
        obtain ⟨x4, hx0, h⟩ := kbG_bind h
        refine r_invV_v cvX12_233 sh57 rfl (sp_MD_wrong 1 μ hx0) rfl rfl (Nat.le_of_ble_eq_true rfl) (Nat.le_of_ble_eq_true rfl) dX12_readLine_90 ?_
        refine r_le [some (.ref 57), some (.int a1), none, none] ⟨rfl, ⟨rfl, trivial⟩⟩ ?_
        exact jnR_MD_readLine_93 n a1 x4 (hr := hr) h
      · replace h := kbG_f hc h
        refine r_aload_n dX12_readLine_80 rfl ?_
        refine r_iload_n dX12_readLine_81 rfl ?_
        obtain ⟨x6, hx0, h⟩ := kbG_bind h
        refine r_invV_v cvX12_289 sh57 rfl (sp_MD_readDoor n x2 μ hx0) rfl rfl (Nat.le_of_ble_eq_true rfl) (Nat.le_of_ble_eq_true rfl) dX12_readLine_82 ?_
        refine r_goto 93 dX12_readLine_85 (by decide) ?_
        refine r_le [some (.ref 57), some (.int a1), none, none] ⟨rfl, ⟨rfl, trivial⟩⟩ ?_
        exact jnR_MD_readLine_93 n a1 x6 (hr := hr) h
    · replace h := kbG_f hc h
      refine r_aload_n dX12_readLine_67 rfl ?_
      refine r_iload_n dX12_readLine_68 rfl ?_
      obtain ⟨x7, hx0, h⟩ := kbG_bind h
      refine r_invV_v cvX12_286 sh57 rfl (sp_MD_readWord n x1 μ hx0) rfl rfl (Nat.le_of_ble_eq_true rfl) (Nat.le_of_ble_eq_true rfl) dX12_readLine_69 ?_
      refine r_goto 93 dX12_readLine_72 (by decide) ?_
      refine r_le [some (.ref 57), some (.int a1), none, none] ⟨rfl, ⟨rfl, trivial⟩⟩ ?_
      exact jnR_MD_readLine_93 n a1 x7 (hr := hr) h
  · replace h := kbG_f hc h
    refine r_iload_n dX12_readLine_28 rfl ?_
    refine r_iconst 1 dX12_readLine_29 (by decide) ?_
    refine r_icmp_ne 38 dX12_readLine_30 (by decide) (fun hc => ?_) (fun hc => ?_)
    · replace h := kbG_f hc h
      refine r_le [some (.ref 57), none, none, none] ⟨rfl, trivial⟩ ?_
      exact jnR_MD_readLine_38 n  μ (hr := hr) h
    · replace h := kbG_t hc h
      refine r_aload_n dX12_readLine_33 rfl ?_
      refine r_iconst 5 dX12_readLine_34 (by decide) ?_
      obtain ⟨x11, hx0, h⟩ := kbG_bind h
      refine r_invV_v cvX12_233 sh57 rfl (sp_MD_wrong 5 μ hx0) rfl rfl (Nat.le_of_ble_eq_true rfl) (Nat.le_of_ble_eq_true rfl) dX12_readLine_35 ?_
      refine r_le [some (.ref 57), none, none, none] ⟨rfl, trivial⟩ ?_
      exact jnR_MD_readLine_38 n  x11 (hr := hr) h
def lp_MD_takeHalf_61_2 (n : Nat) : Nat → Int32 → kbM → Option (kbM)
  | 0, _, _ => none
  | k + 1, v1, μ =>
    if (6 / 2) ≤ v1 then
      some μ
    else
      kbIf (kbIn ((6 / 2) + v1) 6) <|
      kbIf (kbIn v1 6) <|
      lp_MD_takeHalf_61_2 n k (v1 + 1) (kbW μ 61 v1.toNatClampNeg (μ.1 61 (((6 / 2) + v1).toNatClampNeg)))
theorem lpR_MD_takeHalf_61_2 {l : Launch} (n : Nat)   {Q : kbQt} {P : kbM → Prop} (hx : ∀ z : kbM, P (z) → kbR l MX12_takeHalf 1 Q 27 [none, none] [] z) : ∀ (k : Nat) (v1 : Int32) (μ : kbM), kbG (lp_MD_takeHalf_61_2 n k v1 μ) P → kbR l MX12_takeHalf 1 Q 2 [some (.ref 61), some (.int v1)] [] μ := by
  intro k
  induction k with
  | zero => intro v1 μ h; exact absurd h kbG_none
  | succ k ih =>
    intro v1 μ h
    unfold lp_MD_takeHalf_61_2 at h
    refine r_iload_n dX12_takeHalf_2 rfl ?_
    refine r_aload_n dX12_takeHalf_3 rfl ?_
    refine r_alen 6 sh61 (by decide) (by decide) dX12_takeHalf_4 ?_
    refine r_iconst 2 dX12_takeHalf_5 (by decide) ?_
    refine r_idiv dX12_takeHalf_6 (by decide) ?_
    refine r_icmp_ge 27 dX12_takeHalf_7 (by decide) (fun hc => ?_) (fun hc => ?_)
    · replace h := kbG_t hc h
      refine r_le [none, none] trivial ?_
      exact hx μ (kbG_some h)
    · replace h := kbG_f hc h
      refine r_aload_n dX12_takeHalf_10 rfl ?_
      refine r_iload_n dX12_takeHalf_11 rfl ?_
      refine r_aload_n dX12_takeHalf_12 rfl ?_
      refine r_aload_n dX12_takeHalf_13 rfl ?_
      refine r_alen 6 sh61 (by decide) (by decide) dX12_takeHalf_14 ?_
      refine r_iconst 2 dX12_takeHalf_15 (by decide) ?_
      refine r_idiv dX12_takeHalf_16 (by decide) ?_
      refine r_iload_n dX12_takeHalf_17 rfl ?_
      refine r_iadd dX12_takeHalf_18 ?_
      obtain ⟨hin, h⟩ := kbG_if h
      replace hin := kbIn_of hin
      refine q_iald (((6 / 2) + v1).toNatClampNeg) rfl sh61 hin dX12_takeHalf_19 ?_
      obtain ⟨hin, h⟩ := kbG_if h
      replace hin := kbIn_of hin
      refine q_iast v1.toNatClampNeg rfl sh61 hin dX12_takeHalf_20 ?_
      refine r_iinc 1 dX12_takeHalf_21 rfl (by decide) (Nat.le_of_ble_eq_true rfl) rfl ?_
      refine r_goto 2 dX12_takeHalf_24 (by decide) ?_
      refine r_le [some (.ref 61), some (.int (v1 + 1))] ⟨rfl, ⟨rfl, trivial⟩⟩ ?_
      exact ih (v1 + 1) (kbW μ 61 v1.toNatClampNeg (μ.1 61 (((6 / 2) + v1).toNatClampNeg))) h
def f_MD_takeHalf_61 (n : Nat) (μ : kbM) : Option (kbM) :=
  (lp_MD_takeHalf_61_2 n n 0 μ).bind fun x1 =>
  some x1
theorem sp_MD_takeHalf_61 {l : Launch} (n : Nat) (μ : kbM)  {x : kbM} (h : f_MD_takeHalf_61 n μ = some x) : kbS l MX12_takeHalf 1 [.ref 61] μ (kbQe none x) := by
  refine kb_enter 1 rfl rfl ?_
  suffices H : ∀ (Q : kbQt) (P : kbM → Prop), (∀ z : kbM, P z → Q none z) → kbG (f_MD_takeHalf_61 n μ) P → kbR l MX12_takeHalf 1 Q 0 [some (.ref 61), none] [] μ from H _ (fun z => z = x) (fun z e => by subst e; exact ⟨rfl, rfl⟩) ⟨x, h, rfl⟩
  clear h
  intro Q P hr h
  unfold f_MD_takeHalf_61 at h
  refine r_iconst 0 dX12_takeHalf_0 (by decide) ?_
  refine r_istore_n dX12_takeHalf_1 (Nat.le_of_ble_eq_true rfl) rfl ?_
  refine r_le [some (.ref 61), some (.int 0)] ⟨rfl, ⟨rfl, trivial⟩⟩ ?_
  obtain ⟨x1, hx0, h⟩ := kbG_bind h
  refine lpR_MD_takeHalf_61_2 n (P := fun z => x1 = z) (hx := fun z e => ?_) n _ _ ⟨_, hx0, rfl⟩
  subst e
  exact r_vret rfl dX12_takeHalf_27 (hr x1 (kbG_some h))
def lp_MD_takeHalf_62_2 (n : Nat) : Nat → Int32 → kbM → Option (kbM)
  | 0, _, _ => none
  | k + 1, v1, μ =>
    if (20 / 2) ≤ v1 then
      some μ
    else
      kbIf (kbIn ((20 / 2) + v1) 20) <|
      kbIf (kbIn v1 20) <|
      lp_MD_takeHalf_62_2 n k (v1 + 1) (kbW μ 62 v1.toNatClampNeg (μ.1 62 (((20 / 2) + v1).toNatClampNeg)))
theorem lpR_MD_takeHalf_62_2 {l : Launch} (n : Nat)   {Q : kbQt} {P : kbM → Prop} (hx : ∀ z : kbM, P (z) → kbR l MX12_takeHalf 1 Q 27 [none, none] [] z) : ∀ (k : Nat) (v1 : Int32) (μ : kbM), kbG (lp_MD_takeHalf_62_2 n k v1 μ) P → kbR l MX12_takeHalf 1 Q 2 [some (.ref 62), some (.int v1)] [] μ := by
  intro k
  induction k with
  | zero => intro v1 μ h; exact absurd h kbG_none
  | succ k ih =>
    intro v1 μ h
    unfold lp_MD_takeHalf_62_2 at h
    refine r_iload_n dX12_takeHalf_2 rfl ?_
    refine r_aload_n dX12_takeHalf_3 rfl ?_
    refine r_alen 20 sh62 (by decide) (by decide) dX12_takeHalf_4 ?_
    refine r_iconst 2 dX12_takeHalf_5 (by decide) ?_
    refine r_idiv dX12_takeHalf_6 (by decide) ?_
    refine r_icmp_ge 27 dX12_takeHalf_7 (by decide) (fun hc => ?_) (fun hc => ?_)
    · replace h := kbG_t hc h
      refine r_le [none, none] trivial ?_
      exact hx μ (kbG_some h)
    · replace h := kbG_f hc h
      refine r_aload_n dX12_takeHalf_10 rfl ?_
      refine r_iload_n dX12_takeHalf_11 rfl ?_
      refine r_aload_n dX12_takeHalf_12 rfl ?_
      refine r_aload_n dX12_takeHalf_13 rfl ?_
      refine r_alen 20 sh62 (by decide) (by decide) dX12_takeHalf_14 ?_
      refine r_iconst 2 dX12_takeHalf_15 (by decide) ?_
      refine r_idiv dX12_takeHalf_16 (by decide) ?_
      refine r_iload_n dX12_takeHalf_17 rfl ?_
      refine r_iadd dX12_takeHalf_18 ?_
      obtain ⟨hin, h⟩ := kbG_if h
      replace hin := kbIn_of hin
      refine q_iald (((20 / 2) + v1).toNatClampNeg) rfl sh62 hin dX12_takeHalf_19 ?_
      obtain ⟨hin, h⟩ := kbG_if h
      replace hin := kbIn_of hin
      refine q_iast v1.toNatClampNeg rfl sh62 hin dX12_takeHalf_20 ?_
      refine r_iinc 1 dX12_takeHalf_21 rfl (by decide) (Nat.le_of_ble_eq_true rfl) rfl ?_
      refine r_goto 2 dX12_takeHalf_24 (by decide) ?_
      refine r_le [some (.ref 62), some (.int (v1 + 1))] ⟨rfl, ⟨rfl, trivial⟩⟩ ?_
      exact ih (v1 + 1) (kbW μ 62 v1.toNatClampNeg (μ.1 62 (((20 / 2) + v1).toNatClampNeg))) h
def f_MD_takeHalf_62 (n : Nat) (μ : kbM) : Option (kbM) :=
  (lp_MD_takeHalf_62_2 n n 0 μ).bind fun x1 =>
  some x1
theorem sp_MD_takeHalf_62 {l : Launch} (n : Nat) (μ : kbM)  {x : kbM} (h : f_MD_takeHalf_62 n μ = some x) : kbS l MX12_takeHalf 1 [.ref 62] μ (kbQe none x) := by
  refine kb_enter 1 rfl rfl ?_
  suffices H : ∀ (Q : kbQt) (P : kbM → Prop), (∀ z : kbM, P z → Q none z) → kbG (f_MD_takeHalf_62 n μ) P → kbR l MX12_takeHalf 1 Q 0 [some (.ref 62), none] [] μ from H _ (fun z => z = x) (fun z e => by subst e; exact ⟨rfl, rfl⟩) ⟨x, h, rfl⟩
  clear h
  intro Q P hr h
  unfold f_MD_takeHalf_62 at h
  refine r_iconst 0 dX12_takeHalf_0 (by decide) ?_
  refine r_istore_n dX12_takeHalf_1 (Nat.le_of_ble_eq_true rfl) rfl ?_
  refine r_le [some (.ref 62), some (.int 0)] ⟨rfl, ⟨rfl, trivial⟩⟩ ?_
  obtain ⟨x1, hx0, h⟩ := kbG_bind h
  refine lpR_MD_takeHalf_62_2 n (P := fun z => x1 = z) (hx := fun z e => ?_) n _ _ ⟨_, hx0, rfl⟩
  subst e
  exact r_vret rfl dX12_takeHalf_27 (hr x1 (kbG_some h))
def lp_MD_takeHalf_63_2 (n : Nat) : Nat → Int32 → kbM → Option (kbM)
  | 0, _, _ => none
  | k + 1, v1, μ =>
    if (20 / 2) ≤ v1 then
      some μ
    else
      kbIf (kbIn ((20 / 2) + v1) 20) <|
      kbIf (kbIn v1 20) <|
      lp_MD_takeHalf_63_2 n k (v1 + 1) (kbW μ 63 v1.toNatClampNeg (μ.1 63 (((20 / 2) + v1).toNatClampNeg)))
theorem lpR_MD_takeHalf_63_2 {l : Launch} (n : Nat)   {Q : kbQt} {P : kbM → Prop} (hx : ∀ z : kbM, P (z) → kbR l MX12_takeHalf 1 Q 27 [none, none] [] z) : ∀ (k : Nat) (v1 : Int32) (μ : kbM), kbG (lp_MD_takeHalf_63_2 n k v1 μ) P → kbR l MX12_takeHalf 1 Q 2 [some (.ref 63), some (.int v1)] [] μ := by
  intro k
  induction k with
  | zero => intro v1 μ h; exact absurd h kbG_none
  | succ k ih =>
    intro v1 μ h
    unfold lp_MD_takeHalf_63_2 at h
    refine r_iload_n dX12_takeHalf_2 rfl ?_
    refine r_aload_n dX12_takeHalf_3 rfl ?_
    refine r_alen 20 sh63 (by decide) (by decide) dX12_takeHalf_4 ?_
    refine r_iconst 2 dX12_takeHalf_5 (by decide) ?_
    refine r_idiv dX12_takeHalf_6 (by decide) ?_
    refine r_icmp_ge 27 dX12_takeHalf_7 (by decide) (fun hc => ?_) (fun hc => ?_)
    · replace h := kbG_t hc h
      refine r_le [none, none] trivial ?_
      exact hx μ (kbG_some h)
    · replace h := kbG_f hc h
      refine r_aload_n dX12_takeHalf_10 rfl ?_
      refine r_iload_n dX12_takeHalf_11 rfl ?_
      refine r_aload_n dX12_takeHalf_12 rfl ?_
      refine r_aload_n dX12_takeHalf_13 rfl ?_
      refine r_alen 20 sh63 (by decide) (by decide) dX12_takeHalf_14 ?_
      refine r_iconst 2 dX12_takeHalf_15 (by decide) ?_
      refine r_idiv dX12_takeHalf_16 (by decide) ?_
      refine r_iload_n dX12_takeHalf_17 rfl ?_
      refine r_iadd dX12_takeHalf_18 ?_
      obtain ⟨hin, h⟩ := kbG_if h
      replace hin := kbIn_of hin
      refine q_iald (((20 / 2) + v1).toNatClampNeg) rfl sh63 hin dX12_takeHalf_19 ?_
      obtain ⟨hin, h⟩ := kbG_if h
      replace hin := kbIn_of hin
      refine q_iast v1.toNatClampNeg rfl sh63 hin dX12_takeHalf_20 ?_
      refine r_iinc 1 dX12_takeHalf_21 rfl (by decide) (Nat.le_of_ble_eq_true rfl) rfl ?_
      refine r_goto 2 dX12_takeHalf_24 (by decide) ?_
      refine r_le [some (.ref 63), some (.int (v1 + 1))] ⟨rfl, ⟨rfl, trivial⟩⟩ ?_
      exact ih (v1 + 1) (kbW μ 63 v1.toNatClampNeg (μ.1 63 (((20 / 2) + v1).toNatClampNeg))) h
def f_MD_takeHalf_63 (n : Nat) (μ : kbM) : Option (kbM) :=
  (lp_MD_takeHalf_63_2 n n 0 μ).bind fun x1 =>
  some x1
theorem sp_MD_takeHalf_63 {l : Launch} (n : Nat) (μ : kbM)  {x : kbM} (h : f_MD_takeHalf_63 n μ = some x) : kbS l MX12_takeHalf 1 [.ref 63] μ (kbQe none x) := by
  refine kb_enter 1 rfl rfl ?_
  suffices H : ∀ (Q : kbQt) (P : kbM → Prop), (∀ z : kbM, P z → Q none z) → kbG (f_MD_takeHalf_63 n μ) P → kbR l MX12_takeHalf 1 Q 0 [some (.ref 63), none] [] μ from H _ (fun z => z = x) (fun z e => by subst e; exact ⟨rfl, rfl⟩) ⟨x, h, rfl⟩
  clear h
  intro Q P hr h
  unfold f_MD_takeHalf_63 at h
  refine r_iconst 0 dX12_takeHalf_0 (by decide) ?_
  refine r_istore_n dX12_takeHalf_1 (Nat.le_of_ble_eq_true rfl) rfl ?_
  refine r_le [some (.ref 63), some (.int 0)] ⟨rfl, ⟨rfl, trivial⟩⟩ ?_
  obtain ⟨x1, hx0, h⟩ := kbG_bind h
  refine lpR_MD_takeHalf_63_2 n (P := fun z => x1 = z) (hx := fun z e => ?_) n _ _ ⟨_, hx0, rfl⟩
  subst e
  exact r_vret rfl dX12_takeHalf_27 (hr x1 (kbG_some h))
def lp_MD_takeHalf_64_2 (n : Nat) : Nat → Int32 → kbM → Option (kbM)
  | 0, _, _ => none
  | k + 1, v1, μ =>
    if (20 / 2) ≤ v1 then
      some μ
    else
      kbIf (kbIn ((20 / 2) + v1) 20) <|
      kbIf (kbIn v1 20) <|
      lp_MD_takeHalf_64_2 n k (v1 + 1) (kbW μ 64 v1.toNatClampNeg (μ.1 64 (((20 / 2) + v1).toNatClampNeg)))
theorem lpR_MD_takeHalf_64_2 {l : Launch} (n : Nat)   {Q : kbQt} {P : kbM → Prop} (hx : ∀ z : kbM, P (z) → kbR l MX12_takeHalf 1 Q 27 [none, none] [] z) : ∀ (k : Nat) (v1 : Int32) (μ : kbM), kbG (lp_MD_takeHalf_64_2 n k v1 μ) P → kbR l MX12_takeHalf 1 Q 2 [some (.ref 64), some (.int v1)] [] μ := by
  intro k
  induction k with
  | zero => intro v1 μ h; exact absurd h kbG_none
  | succ k ih =>
    intro v1 μ h
    unfold lp_MD_takeHalf_64_2 at h
    refine r_iload_n dX12_takeHalf_2 rfl ?_
    refine r_aload_n dX12_takeHalf_3 rfl ?_
    refine r_alen 20 sh64 (by decide) (by decide) dX12_takeHalf_4 ?_
    refine r_iconst 2 dX12_takeHalf_5 (by decide) ?_
    refine r_idiv dX12_takeHalf_6 (by decide) ?_
    refine r_icmp_ge 27 dX12_takeHalf_7 (by decide) (fun hc => ?_) (fun hc => ?_)
    · replace h := kbG_t hc h
      refine r_le [none, none] trivial ?_
      exact hx μ (kbG_some h)
    · replace h := kbG_f hc h
      refine r_aload_n dX12_takeHalf_10 rfl ?_
      refine r_iload_n dX12_takeHalf_11 rfl ?_
      refine r_aload_n dX12_takeHalf_12 rfl ?_
      refine r_aload_n dX12_takeHalf_13 rfl ?_
      refine r_alen 20 sh64 (by decide) (by decide) dX12_takeHalf_14 ?_
      refine r_iconst 2 dX12_takeHalf_15 (by decide) ?_
      refine r_idiv dX12_takeHalf_16 (by decide) ?_
      refine r_iload_n dX12_takeHalf_17 rfl ?_
      refine r_iadd dX12_takeHalf_18 ?_
      obtain ⟨hin, h⟩ := kbG_if h
      replace hin := kbIn_of hin
      refine q_iald (((20 / 2) + v1).toNatClampNeg) rfl sh64 hin dX12_takeHalf_19 ?_
      obtain ⟨hin, h⟩ := kbG_if h
      replace hin := kbIn_of hin
      refine q_iast v1.toNatClampNeg rfl sh64 hin dX12_takeHalf_20 ?_
      refine r_iinc 1 dX12_takeHalf_21 rfl (by decide) (Nat.le_of_ble_eq_true rfl) rfl ?_
      refine r_goto 2 dX12_takeHalf_24 (by decide) ?_
      refine r_le [some (.ref 64), some (.int (v1 + 1))] ⟨rfl, ⟨rfl, trivial⟩⟩ ?_
      exact ih (v1 + 1) (kbW μ 64 v1.toNatClampNeg (μ.1 64 (((20 / 2) + v1).toNatClampNeg))) h
def f_MD_takeHalf_64 (n : Nat) (μ : kbM) : Option (kbM) :=
  (lp_MD_takeHalf_64_2 n n 0 μ).bind fun x1 =>
  some x1
theorem sp_MD_takeHalf_64 {l : Launch} (n : Nat) (μ : kbM)  {x : kbM} (h : f_MD_takeHalf_64 n μ = some x) : kbS l MX12_takeHalf 1 [.ref 64] μ (kbQe none x) := by
  refine kb_enter 1 rfl rfl ?_
  suffices H : ∀ (Q : kbQt) (P : kbM → Prop), (∀ z : kbM, P z → Q none z) → kbG (f_MD_takeHalf_64 n μ) P → kbR l MX12_takeHalf 1 Q 0 [some (.ref 64), none] [] μ from H _ (fun z => z = x) (fun z e => by subst e; exact ⟨rfl, rfl⟩) ⟨x, h, rfl⟩
  clear h
  intro Q P hr h
  unfold f_MD_takeHalf_64 at h
  refine r_iconst 0 dX12_takeHalf_0 (by decide) ?_
  refine r_istore_n dX12_takeHalf_1 (Nat.le_of_ble_eq_true rfl) rfl ?_
  refine r_le [some (.ref 64), some (.int 0)] ⟨rfl, ⟨rfl, trivial⟩⟩ ?_
  obtain ⟨x1, hx0, h⟩ := kbG_bind h
  refine lpR_MD_takeHalf_64_2 n (P := fun z => x1 = z) (hx := fun z e => ?_) n _ _ ⟨_, hx0, rfl⟩
  subst e
  exact r_vret rfl dX12_takeHalf_27 (hr x1 (kbG_some h))
