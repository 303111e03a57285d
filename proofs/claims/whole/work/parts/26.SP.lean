theorem dX8_layWord_0 : decode cX8_layWord 0 = .ok (.iload_n 3, 1) := by decide +kernel
theorem dX8_layWord_1 : decode cX8_layWord 1 = .ok (.bipush 10, 2) := by decide +kernel
theorem dX8_layWord_3 : decode cX8_layWord 3 = .ok (.imul, 1) := by decide +kernel
theorem dX8_layWord_4 : decode cX8_layWord 4 = .ok (.iload 4, 2) := by decide +kernel
theorem dX8_layWord_6 : decode cX8_layWord 6 = .ok (.iadd, 1) := by decide +kernel
theorem dX8_layWord_7 : decode cX8_layWord 7 = .ok (.istore 5, 2) := by decide +kernel
theorem dX8_layWord_9 : decode cX8_layWord 9 = .ok (.iload_n 3, 1) := by decide +kernel
theorem dX8_layWord_10 : decode cX8_layWord 10 = .ok (.aload_n 0, 1) := by decide +kernel
theorem dX8_layWord_11 : decode cX8_layWord 11 = .ok (.getfield 25, 3) := by decide +kernel
theorem dX8_layWord_14 : decode cX8_layWord 14 = .ok (.getfield 49, 3) := by decide +kernel
theorem dX8_layWord_17 : decode cX8_layWord 17 = .ok (.iload 4, 2) := by decide +kernel
theorem dX8_layWord_19 : decode cX8_layWord 19 = .ok (.iaload, 1) := by decide +kernel
theorem dX8_layWord_20 : decode cX8_layWord 20 = .ok (.iadd, 1) := by decide +kernel
theorem dX8_layWord_21 : decode cX8_layWord 21 = .ok (.istore 6, 2) := by decide +kernel
theorem dX8_layWord_23 : decode cX8_layWord 23 = .ok (.aload_n 0, 1) := by decide +kernel
theorem dX8_layWord_24 : decode cX8_layWord 24 = .ok (.getfield 9, 3) := by decide +kernel
theorem dX8_layWord_27 : decode cX8_layWord 27 = .ok (.iload 5, 2) := by decide +kernel
theorem dX8_layWord_29 : decode cX8_layWord 29 = .ok (.lconst 0, 1) := by decide +kernel
theorem dX8_layWord_30 : decode cX8_layWord 30 = .ok (.lastore, 1) := by decide +kernel
theorem dX8_layWord_31 : decode cX8_layWord 31 = .ok (.aload_n 0, 1) := by decide +kernel
theorem dX8_layWord_32 : decode cX8_layWord 32 = .ok (.getfield 15, 3) := by decide +kernel
theorem dX8_layWord_35 : decode cX8_layWord 35 = .ok (.iload 5, 2) := by decide +kernel
theorem dX8_layWord_37 : decode cX8_layWord 37 = .ok (.iconst 0, 1) := by decide +kernel
theorem dX8_layWord_38 : decode cX8_layWord 38 = .ok (.iastore, 1) := by decide +kernel
theorem dX8_layWord_39 : decode cX8_layWord 39 = .ok (.iload 6, 2) := by decide +kernel
theorem dX8_layWord_41 : decode cX8_layWord 41 = .ok (.iload_n 2, 1) := by decide +kernel
theorem dX8_layWord_42 : decode cX8_layWord 42 = .ok (.if_icmp .gt 24, 3) := by decide +kernel
theorem dX8_layWord_45 : decode cX8_layWord 45 = .ok (.iload_n 1, 1) := by decide +kernel
theorem dX8_layWord_46 : decode cX8_layWord 46 = .ok (.iload_n 2, 1) := by decide +kernel
theorem dX8_layWord_47 : decode cX8_layWord 47 = .ok (.iload_n 3, 1) := by decide +kernel
theorem dX8_layWord_48 : decode cX8_layWord 48 = .ok (.iload 6, 2) := by decide +kernel
theorem dX8_layWord_50 : decode cX8_layWord 50 = .ok (.invokestatic 51, 3) := by decide +kernel
theorem dX8_layWord_53 : decode cX8_layWord 53 = .ok (.aload_n 0, 1) := by decide +kernel
theorem dX8_layWord_54 : decode cX8_layWord 54 = .ok (.getfield 25, 3) := by decide +kernel
theorem dX8_layWord_57 : decode cX8_layWord 57 = .ok (.getfield 55, 3) := by decide +kernel
theorem dX8_layWord_60 : decode cX8_layWord 60 = .ok (.iload 4, 2) := by decide +kernel
theorem dX8_layWord_62 : decode cX8_layWord 62 = .ok (.iaload, 1) := by decide +kernel
theorem dX8_layWord_63 : decode cX8_layWord 63 = .ok (.if_icmp .eq 4, 3) := by decide +kernel
theorem dX8_layWord_66 : decode cX8_layWord 66 = .ok (.return_, 1) := by decide +kernel
theorem dX8_layWord_67 : decode cX8_layWord 67 = .ok (.iload 6, 2) := by decide +kernel
theorem dX8_layWord_69 : decode cX8_layWord 69 = .ok (.iload_n 2, 1) := by decide +kernel
theorem dX8_layWord_70 : decode cX8_layWord 70 = .ok (.if_icmp .ne 20, 3) := by decide +kernel
theorem dX8_layWord_73 : decode cX8_layWord 73 = .ok (.aload_n 0, 1) := by decide +kernel
theorem dX8_layWord_74 : decode cX8_layWord 74 = .ok (.getfield 9, 3) := by decide +kernel
theorem dX8_layWord_77 : decode cX8_layWord 77 = .ok (.iload 5, 2) := by decide +kernel
theorem dX8_layWord_79 : decode cX8_layWord 79 = .ok (.lconst 1, 1) := by decide +kernel
theorem dX8_layWord_80 : decode cX8_layWord 80 = .ok (.lastore, 1) := by decide +kernel
theorem dX8_layWord_81 : decode cX8_layWord 81 = .ok (.aload_n 0, 1) := by decide +kernel
theorem dX8_layWord_82 : decode cX8_layWord 82 = .ok (.getfield 15, 3) := by decide +kernel
theorem dX8_layWord_85 : decode cX8_layWord 85 = .ok (.iload 5, 2) := by decide +kernel
theorem dX8_layWord_87 : decode cX8_layWord 87 = .ok (.iconst 1, 1) := by decide +kernel
theorem dX8_layWord_88 : decode cX8_layWord 88 = .ok (.iastore, 1) := by decide +kernel
theorem dX8_layWord_89 : decode cX8_layWord 89 = .ok (.return_, 1) := by decide +kernel
theorem dX8_layWord_90 : decode cX8_layWord 90 = .ok (.iconst 0, 1) := by decide +kernel
theorem dX8_layWord_91 : decode cX8_layWord 91 = .ok (.istore 7, 2) := by decide +kernel
theorem dX8_layWord_93 : decode cX8_layWord 93 = .ok (.iload 7, 2) := by decide +kernel
theorem dX8_layWord_95 : decode cX8_layWord 95 = .ok (.aload_n 0, 1) := by decide +kernel
theorem dX8_layWord_96 : decode cX8_layWord 96 = .ok (.getfield 25, 3) := by decide +kernel
theorem dX8_layWord_99 : decode cX8_layWord 99 = .ok (.getfield 39, 3) := by decide +kernel
theorem dX8_layWord_102 : decode cX8_layWord 102 = .ok (.if_icmp .ge 108, 3) := by decide +kernel
theorem dX8_layWord_105 : decode cX8_layWord 105 = .ok (.iload 6, 2) := by decide +kernel
theorem dX8_layWord_107 : decode cX8_layWord 107 = .ok (.bipush 10, 2) := by decide +kernel
theorem dX8_layWord_109 : decode cX8_layWord 109 = .ok (.imul, 1) := by decide +kernel
theorem dX8_layWord_110 : decode cX8_layWord 110 = .ok (.iload 7, 2) := by decide +kernel
theorem dX8_layWord_112 : decode cX8_layWord 112 = .ok (.iadd, 1) := by decide +kernel
theorem dX8_layWord_113 : decode cX8_layWord 113 = .ok (.istore 8, 2) := by decide +kernel
theorem dX8_layWord_115 : decode cX8_layWord 115 = .ok (.aload_n 0, 1) := by decide +kernel
theorem dX8_layWord_116 : decode cX8_layWord 116 = .ok (.getfield 15, 3) := by decide +kernel
theorem dX8_layWord_119 : decode cX8_layWord 119 = .ok (.iload 8, 2) := by decide +kernel
theorem dX8_layWord_121 : decode cX8_layWord 121 = .ok (.iaload, 1) := by decide +kernel
theorem dX8_layWord_122 : decode cX8_layWord 122 = .ok (.ifCond .le 82, 3) := by decide +kernel
theorem dX8_layWord_125 : decode cX8_layWord 125 = .ok (.aload_n 0, 1) := by decide +kernel
theorem dX8_layWord_126 : decode cX8_layWord 126 = .ok (.getfield 29, 3) := by decide +kernel
theorem dX8_layWord_129 : decode cX8_layWord 129 = .ok (.iload 4, 2) := by decide +kernel
theorem dX8_layWord_131 : decode cX8_layWord 131 = .ok (.iload 7, 2) := by decide +kernel
theorem dX8_layWord_133 : decode cX8_layWord 133 = .ok (.invokevirtual 58, 3) := by decide +kernel
theorem dX8_layWord_136 : decode cX8_layWord 136 = .ok (.ifCond .eq 68, 3) := by decide +kernel
theorem dX8_layWord_139 : decode cX8_layWord 139 = .ok (.aload_n 0, 1) := by decide +kernel
theorem dX8_layWord_140 : decode cX8_layWord 140 = .ok (.getfield 9, 3) := by decide +kernel
theorem dX8_layWord_143 : decode cX8_layWord 143 = .ok (.iload 5, 2) := by decide +kernel
theorem dX8_layWord_145 : decode cX8_layWord 145 = .ok (.dup2, 1) := by decide +kernel
theorem dX8_layWord_146 : decode cX8_layWord 146 = .ok (.laload, 1) := by decide +kernel
theorem dX8_layWord_147 : decode cX8_layWord 147 = .ok (.aload_n 0, 1) := by decide +kernel
theorem dX8_layWord_148 : decode cX8_layWord 148 = .ok (.getfield 9, 3) := by decide +kernel
theorem dX8_layWord_151 : decode cX8_layWord 151 = .ok (.iload 8, 2) := by decide +kernel
theorem dX8_layWord_153 : decode cX8_layWord 153 = .ok (.laload, 1) := by decide +kernel
theorem dX8_layWord_154 : decode cX8_layWord 154 = .ok (.ladd, 1) := by decide +kernel
theorem dX8_layWord_155 : decode cX8_layWord 155 = .ok (.lastore, 1) := by decide +kernel
theorem dX8_layWord_156 : decode cX8_layWord 156 = .ok (.aload_n 0, 1) := by decide +kernel
theorem dX8_layWord_157 : decode cX8_layWord 157 = .ok (.getfield 15, 3) := by decide +kernel
theorem dX8_layWord_160 : decode cX8_layWord 160 = .ok (.iload 5, 2) := by decide +kernel
theorem dX8_layWord_162 : decode cX8_layWord 162 = .ok (.aload_n 0, 1) := by decide +kernel
theorem dX8_layWord_163 : decode cX8_layWord 163 = .ok (.getfield 15, 3) := by decide +kernel
theorem dX8_layWord_166 : decode cX8_layWord 166 = .ok (.iload 5, 2) := by decide +kernel
theorem dX8_layWord_168 : decode cX8_layWord 168 = .ok (.iaload, 1) := by decide +kernel
theorem dX8_layWord_169 : decode cX8_layWord 169 = .ok (.ifCond .ne 15, 3) := by decide +kernel
theorem dX8_layWord_172 : decode cX8_layWord 172 = .ok (.aload_n 0, 1) := by decide +kernel
theorem dX8_layWord_173 : decode cX8_layWord 173 = .ok (.getfield 15, 3) := by decide +kernel
theorem dX8_layWord_176 : decode cX8_layWord 176 = .ok (.iload 8, 2) := by decide +kernel
theorem dX8_layWord_178 : decode cX8_layWord 178 = .ok (.iaload, 1) := by decide +kernel
theorem dX8_layWord_179 : decode cX8_layWord 179 = .ok (.iconst 1, 1) := by decide +kernel
theorem dX8_layWord_180 : decode cX8_layWord 180 = .ok (.iadd, 1) := by decide +kernel
theorem dX8_layWord_181 : decode cX8_layWord 181 = .ok (.goto 22, 3) := by decide +kernel
theorem dX8_layWord_184 : decode cX8_layWord 184 = .ok (.aload_n 0, 1) := by decide +kernel
theorem dX8_layWord_185 : decode cX8_layWord 185 = .ok (.getfield 15, 3) := by decide +kernel
theorem dX8_layWord_188 : decode cX8_layWord 188 = .ok (.iload 5, 2) := by decide +kernel
theorem dX8_layWord_190 : decode cX8_layWord 190 = .ok (.iaload, 1) := by decide +kernel
theorem dX8_layWord_191 : decode cX8_layWord 191 = .ok (.aload_n 0, 1) := by decide +kernel
theorem dX8_layWord_192 : decode cX8_layWord 192 = .ok (.getfield 15, 3) := by decide +kernel
theorem dX8_layWord_195 : decode cX8_layWord 195 = .ok (.iload 8, 2) := by decide +kernel
theorem dX8_layWord_197 : decode cX8_layWord 197 = .ok (.iaload, 1) := by decide +kernel
theorem dX8_layWord_198 : decode cX8_layWord 198 = .ok (.iconst 1, 1) := by decide +kernel
theorem dX8_layWord_199 : decode cX8_layWord 199 = .ok (.iadd, 1) := by decide +kernel
theorem dX8_layWord_200 : decode cX8_layWord 200 = .ok (.invokestatic 64, 3) := by decide +kernel
theorem dX8_layWord_203 : decode cX8_layWord 203 = .ok (.iastore, 1) := by decide +kernel
theorem dX8_layWord_204 : decode cX8_layWord 204 = .ok (.iinc 7 1, 3) := by decide +kernel
theorem dX8_layWord_207 : decode cX8_layWord 207 = .ok (.goto (-114), 3) := by decide +kernel
theorem dX8_layWord_210 : decode cX8_layWord 210 = .ok (.return_, 1) := by decide +kernel
theorem dX8_lay_0 : decode cX8_lay 0 = .ok (.iload_n 1, 1) := by decide +kernel
theorem dX8_lay_1 : decode cX8_lay 1 = .ok (.invokestatic 33, 3) := by decide +kernel
theorem dX8_lay_4 : decode cX8_lay 4 = .ok (.istore_n 2, 1) := by decide +kernel
theorem dX8_lay_5 : decode cX8_lay 5 = .ok (.iload_n 2, 1) := by decide +kernel
theorem dX8_lay_6 : decode cX8_lay 6 = .ok (.istore_n 3, 1) := by decide +kernel
theorem dX8_lay_7 : decode cX8_lay 7 = .ok (.iload_n 3, 1) := by decide +kernel
theorem dX8_lay_8 : decode cX8_lay 8 = .ok (.ifCond .lt 39, 3) := by decide +kernel
theorem dX8_lay_11 : decode cX8_lay 11 = .ok (.iconst 0, 1) := by decide +kernel
theorem dX8_lay_12 : decode cX8_lay 12 = .ok (.istore 4, 2) := by decide +kernel
theorem dX8_lay_14 : decode cX8_lay 14 = .ok (.iload 4, 2) := by decide +kernel
theorem dX8_lay_16 : decode cX8_lay 16 = .ok (.aload_n 0, 1) := by decide +kernel
theorem dX8_lay_17 : decode cX8_lay 17 = .ok (.getfield 25, 3) := by decide +kernel
theorem dX8_lay_20 : decode cX8_lay 20 = .ok (.getfield 39, 3) := by decide +kernel
theorem dX8_lay_23 : decode cX8_lay 23 = .ok (.if_icmp .ge 18, 3) := by decide +kernel
theorem dX8_lay_26 : decode cX8_lay 26 = .ok (.aload_n 0, 1) := by decide +kernel
theorem dX8_lay_27 : decode cX8_lay 27 = .ok (.iload_n 1, 1) := by decide +kernel
theorem dX8_lay_28 : decode cX8_lay 28 = .ok (.iload_n 2, 1) := by decide +kernel
theorem dX8_lay_29 : decode cX8_lay 29 = .ok (.iload_n 3, 1) := by decide +kernel
theorem dX8_lay_30 : decode cX8_lay 30 = .ok (.iload 4, 2) := by decide +kernel
theorem dX8_lay_32 : decode cX8_lay 32 = .ok (.invokevirtual 45, 3) := by decide +kernel
theorem dX8_lay_35 : decode cX8_lay 35 = .ok (.iinc 4 1, 3) := by decide +kernel
theorem dX8_lay_38 : decode cX8_lay 38 = .ok (.goto (-24), 3) := by decide +kernel
theorem dX8_lay_41 : decode cX8_lay 41 = .ok (.iinc 3 (-1), 3) := by decide +kernel
theorem dX8_lay_44 : decode cX8_lay 44 = .ok (.goto (-37), 3) := by decide +kernel
theorem dX8_lay_47 : decode cX8_lay 47 = .ok (.return_, 1) := by decide +kernel
theorem dX8_waysLaid_0 : decode cX8_waysLaid 0 = .ok (.lconst 0, 1) := by decide +kernel
theorem dX8_waysLaid_1 : decode cX8_waysLaid 1 = .ok (.lstore_n 1, 1) := by decide +kernel
theorem dX8_waysLaid_2 : decode cX8_waysLaid 2 = .ok (.iconst 0, 1) := by decide +kernel
theorem dX8_waysLaid_3 : decode cX8_waysLaid 3 = .ok (.istore_n 3, 1) := by decide +kernel
theorem dX8_waysLaid_4 : decode cX8_waysLaid 4 = .ok (.iload_n 3, 1) := by decide +kernel
theorem dX8_waysLaid_5 : decode cX8_waysLaid 5 = .ok (.aload_n 0, 1) := by decide +kernel
theorem dX8_waysLaid_6 : decode cX8_waysLaid 6 = .ok (.getfield 25, 3) := by decide +kernel
theorem dX8_waysLaid_9 : decode cX8_waysLaid 9 = .ok (.getfield 39, 3) := by decide +kernel
theorem dX8_waysLaid_12 : decode cX8_waysLaid 12 = .ok (.if_icmp .ge 18, 3) := by decide +kernel
theorem dX8_waysLaid_15 : decode cX8_waysLaid 15 = .ok (.lload_n 1, 1) := by decide +kernel
theorem dX8_waysLaid_16 : decode cX8_waysLaid 16 = .ok (.aload_n 0, 1) := by decide +kernel
theorem dX8_waysLaid_17 : decode cX8_waysLaid 17 = .ok (.getfield 9, 3) := by decide +kernel
theorem dX8_waysLaid_20 : decode cX8_waysLaid 20 = .ok (.iload_n 3, 1) := by decide +kernel
theorem dX8_waysLaid_21 : decode cX8_waysLaid 21 = .ok (.laload, 1) := by decide +kernel
theorem dX8_waysLaid_22 : decode cX8_waysLaid 22 = .ok (.ladd, 1) := by decide +kernel
theorem dX8_waysLaid_23 : decode cX8_waysLaid 23 = .ok (.lstore_n 1, 1) := by decide +kernel
theorem dX8_waysLaid_24 : decode cX8_waysLaid 24 = .ok (.iinc 3 1, 3) := by decide +kernel
theorem dX8_waysLaid_27 : decode cX8_waysLaid 27 = .ok (.goto (-23), 3) := by decide +kernel
theorem dX8_waysLaid_30 : decode cX8_waysLaid 30 = .ok (.lload_n 1, 1) := by decide +kernel
theorem dX8_waysLaid_31 : decode cX8_waysLaid 31 = .ok (.lreturn, 1) := by decide +kernel
theorem dX8_fewestLaid_0 : decode cX8_fewestLaid 0 = .ok (.iconst 0, 1) := by decide +kernel
theorem dX8_fewestLaid_1 : decode cX8_fewestLaid 1 = .ok (.istore_n 1, 1) := by decide +kernel
theorem dX8_fewestLaid_2 : decode cX8_fewestLaid 2 = .ok (.iconst 0, 1) := by decide +kernel
theorem dX8_fewestLaid_3 : decode cX8_fewestLaid 3 = .ok (.istore_n 2, 1) := by decide +kernel
theorem dX8_fewestLaid_4 : decode cX8_fewestLaid 4 = .ok (.iload_n 2, 1) := by decide +kernel
theorem dX8_fewestLaid_5 : decode cX8_fewestLaid 5 = .ok (.aload_n 0, 1) := by decide +kernel
theorem dX8_fewestLaid_6 : decode cX8_fewestLaid 6 = .ok (.getfield 25, 3) := by decide +kernel
theorem dX8_fewestLaid_9 : decode cX8_fewestLaid 9 = .ok (.getfield 39, 3) := by decide +kernel
theorem dX8_fewestLaid_12 : decode cX8_fewestLaid 12 = .ok (.if_icmp .ge 39, 3) := by decide +kernel
theorem dX8_fewestLaid_15 : decode cX8_fewestLaid 15 = .ok (.aload_n 0, 1) := by decide +kernel
theorem dX8_fewestLaid_16 : decode cX8_fewestLaid 16 = .ok (.getfield 15, 3) := by decide +kernel
theorem dX8_fewestLaid_19 : decode cX8_fewestLaid 19 = .ok (.iload_n 2, 1) := by decide +kernel
theorem dX8_fewestLaid_20 : decode cX8_fewestLaid 20 = .ok (.iaload, 1) := by decide +kernel
theorem dX8_fewestLaid_21 : decode cX8_fewestLaid 21 = .ok (.ifCond .le 24, 3) := by decide +kernel
theorem dX8_fewestLaid_24 : decode cX8_fewestLaid 24 = .ok (.iload_n 1, 1) := by decide +kernel
theorem dX8_fewestLaid_25 : decode cX8_fewestLaid 25 = .ok (.ifCond .eq 13, 3) := by decide +kernel
theorem dX8_fewestLaid_28 : decode cX8_fewestLaid 28 = .ok (.aload_n 0, 1) := by decide +kernel
theorem dX8_fewestLaid_29 : decode cX8_fewestLaid 29 = .ok (.getfield 15, 3) := by decide +kernel
theorem dX8_fewestLaid_32 : decode cX8_fewestLaid 32 = .ok (.iload_n 2, 1) := by decide +kernel
theorem dX8_fewestLaid_33 : decode cX8_fewestLaid 33 = .ok (.iaload, 1) := by decide +kernel
theorem dX8_fewestLaid_34 : decode cX8_fewestLaid 34 = .ok (.iload_n 1, 1) := by decide +kernel
theorem dX8_fewestLaid_35 : decode cX8_fewestLaid 35 = .ok (.if_icmp .ge 10, 3) := by decide +kernel
theorem dX8_fewestLaid_38 : decode cX8_fewestLaid 38 = .ok (.aload_n 0, 1) := by decide +kernel
theorem dX8_fewestLaid_39 : decode cX8_fewestLaid 39 = .ok (.getfield 15, 3) := by decide +kernel
theorem dX8_fewestLaid_42 : decode cX8_fewestLaid 42 = .ok (.iload_n 2, 1) := by decide +kernel
theorem dX8_fewestLaid_43 : decode cX8_fewestLaid 43 = .ok (.iaload, 1) := by decide +kernel
theorem dX8_fewestLaid_44 : decode cX8_fewestLaid 44 = .ok (.istore_n 1, 1) := by decide +kernel
theorem dX8_fewestLaid_45 : decode cX8_fewestLaid 45 = .ok (.iinc 2 1, 3) := by decide +kernel
theorem dX8_fewestLaid_48 : decode cX8_fewestLaid 48 = .ok (.goto (-44), 3) := by decide +kernel
theorem dX8_fewestLaid_51 : decode cX8_fewestLaid 51 = .ok (.iload_n 1, 1) := by decide +kernel
theorem dX8_fewestLaid_52 : decode cX8_fewestLaid 52 = .ok (.ireturn, 1) := by decide +kernel
theorem dX8_firstLaid_0 : decode cX8_firstLaid 0 = .ok (.iconst 0, 1) := by decide +kernel
theorem dX8_firstLaid_1 : decode cX8_firstLaid 1 = .ok (.istore 4, 2) := by decide +kernel
theorem dX8_firstLaid_3 : decode cX8_firstLaid 3 = .ok (.iload_n 1, 1) := by decide +kernel
theorem dX8_firstLaid_4 : decode cX8_firstLaid 4 = .ok (.bipush 12, 2) := by decide +kernel
theorem dX8_firstLaid_6 : decode cX8_firstLaid 6 = .ok (.if_icmp .gt 70, 3) := by decide +kernel
theorem dX8_firstLaid_9 : decode cX8_firstLaid 9 = .ok (.iload 4, 2) := by decide +kernel
theorem dX8_firstLaid_11 : decode cX8_firstLaid 11 = .ok (.aload_n 0, 1) := by decide +kernel
theorem dX8_firstLaid_12 : decode cX8_firstLaid 12 = .ok (.getfield 25, 3) := by decide +kernel
theorem dX8_firstLaid_15 : decode cX8_firstLaid 15 = .ok (.getfield 39, 3) := by decide +kernel
theorem dX8_firstLaid_18 : decode cX8_firstLaid 18 = .ok (.if_icmp .ge 58, 3) := by decide +kernel
theorem dX8_firstLaid_21 : decode cX8_firstLaid 21 = .ok (.aload_n 0, 1) := by decide +kernel
theorem dX8_firstLaid_22 : decode cX8_firstLaid 22 = .ok (.getfield 15, 3) := by decide +kernel
theorem dX8_firstLaid_25 : decode cX8_firstLaid 25 = .ok (.iload_n 1, 1) := by decide +kernel
theorem dX8_firstLaid_26 : decode cX8_firstLaid 26 = .ok (.bipush 10, 2) := by decide +kernel
theorem dX8_firstLaid_28 : decode cX8_firstLaid 28 = .ok (.imul, 1) := by decide +kernel
theorem dX8_firstLaid_29 : decode cX8_firstLaid 29 = .ok (.iload 4, 2) := by decide +kernel
theorem dX8_firstLaid_31 : decode cX8_firstLaid 31 = .ok (.iadd, 1) := by decide +kernel
theorem dX8_firstLaid_32 : decode cX8_firstLaid 32 = .ok (.iaload, 1) := by decide +kernel
theorem dX8_firstLaid_33 : decode cX8_firstLaid 33 = .ok (.iload_n 3, 1) := by decide +kernel
theorem dX8_firstLaid_34 : decode cX8_firstLaid 34 = .ok (.if_icmp .ne 7, 3) := by decide +kernel
theorem dX8_firstLaid_37 : decode cX8_firstLaid 37 = .ok (.iconst 1, 1) := by decide +kernel
theorem dX8_firstLaid_38 : decode cX8_firstLaid 38 = .ok (.goto 4, 3) := by decide +kernel
theorem dX8_firstLaid_41 : decode cX8_firstLaid 41 = .ok (.iconst 0, 1) := by decide +kernel
theorem dX8_firstLaid_42 : decode cX8_firstLaid 42 = .ok (.istore 5, 2) := by decide +kernel
theorem dX8_firstLaid_44 : decode cX8_firstLaid 44 = .ok (.iload 5, 2) := by decide +kernel
theorem dX8_firstLaid_46 : decode cX8_firstLaid 46 = .ok (.ifCond .eq 24, 3) := by decide +kernel
theorem dX8_firstLaid_49 : decode cX8_firstLaid 49 = .ok (.iload_n 2, 1) := by decide +kernel
theorem dX8_firstLaid_50 : decode cX8_firstLaid 50 = .ok (.iconst (-1), 1) := by decide +kernel
theorem dX8_firstLaid_51 : decode cX8_firstLaid 51 = .ok (.if_icmp .eq 16, 3) := by decide +kernel
theorem dX8_firstLaid_54 : decode cX8_firstLaid 54 = .ok (.aload_n 0, 1) := by decide +kernel
theorem dX8_firstLaid_55 : decode cX8_firstLaid 55 = .ok (.getfield 29, 3) := by decide +kernel
theorem dX8_firstLaid_58 : decode cX8_firstLaid 58 = .ok (.iload_n 2, 1) := by decide +kernel
theorem dX8_firstLaid_59 : decode cX8_firstLaid 59 = .ok (.iload 4, 2) := by decide +kernel
theorem dX8_firstLaid_61 : decode cX8_firstLaid 61 = .ok (.invokevirtual 58, 3) := by decide +kernel
theorem dX8_firstLaid_64 : decode cX8_firstLaid 64 = .ok (.ifCond .eq 6, 3) := by decide +kernel
theorem dX8_firstLaid_67 : decode cX8_firstLaid 67 = .ok (.iload 4, 2) := by decide +kernel
theorem dX8_firstLaid_69 : decode cX8_firstLaid 69 = .ok (.ireturn, 1) := by decide +kernel
theorem dX8_firstLaid_70 : decode cX8_firstLaid 70 = .ok (.iinc 4 1, 3) := by decide +kernel
theorem dX8_firstLaid_73 : decode cX8_firstLaid 73 = .ok (.goto (-70), 3) := by decide +kernel
theorem dX8_firstLaid_76 : decode cX8_firstLaid 76 = .ok (.iconst (-1), 1) := by decide +kernel
theorem dX8_firstLaid_77 : decode cX8_firstLaid 77 = .ok (.ireturn, 1) := by decide +kernel
theorem dX8_wordLaid_0 : decode cX8_wordLaid 0 = .ok (.aload_n 0, 1) := by decide +kernel
theorem dX8_wordLaid_1 : decode cX8_wordLaid 1 = .ok (.invokevirtual 70, 3) := by decide +kernel
theorem dX8_wordLaid_4 : decode cX8_wordLaid 4 = .ok (.istore_n 2, 1) := by decide +kernel
theorem dX8_wordLaid_5 : decode cX8_wordLaid 5 = .ok (.iconst 0, 1) := by decide +kernel
theorem dX8_wordLaid_6 : decode cX8_wordLaid 6 = .ok (.istore_n 3, 1) := by decide +kernel
theorem dX8_wordLaid_7 : decode cX8_wordLaid 7 = .ok (.iconst (-1), 1) := by decide +kernel
theorem dX8_wordLaid_8 : decode cX8_wordLaid 8 = .ok (.istore 4, 2) := by decide +kernel
theorem dX8_wordLaid_10 : decode cX8_wordLaid 10 = .ok (.iconst 0, 1) := by decide +kernel
theorem dX8_wordLaid_11 : decode cX8_wordLaid 11 = .ok (.istore 5, 2) := by decide +kernel
theorem dX8_wordLaid_13 : decode cX8_wordLaid 13 = .ok (.iload 5, 2) := by decide +kernel
theorem dX8_wordLaid_15 : decode cX8_wordLaid 15 = .ok (.iload_n 1, 1) := by decide +kernel
theorem dX8_wordLaid_16 : decode cX8_wordLaid 16 = .ok (.if_icmp .gt 50, 3) := by decide +kernel
theorem dX8_wordLaid_19 : decode cX8_wordLaid 19 = .ok (.iload 5, 2) := by decide +kernel
theorem dX8_wordLaid_21 : decode cX8_wordLaid 21 = .ok (.bipush 12, 2) := by decide +kernel
theorem dX8_wordLaid_23 : decode cX8_wordLaid 23 = .ok (.if_icmp .ge 43, 3) := by decide +kernel
theorem dX8_wordLaid_26 : decode cX8_wordLaid 26 = .ok (.aload_n 0, 1) := by decide +kernel
theorem dX8_wordLaid_27 : decode cX8_wordLaid 27 = .ok (.iload_n 3, 1) := by decide +kernel
theorem dX8_wordLaid_28 : decode cX8_wordLaid 28 = .ok (.iload 4, 2) := by decide +kernel
theorem dX8_wordLaid_30 : decode cX8_wordLaid 30 = .ok (.iload_n 2, 1) := by decide +kernel
theorem dX8_wordLaid_31 : decode cX8_wordLaid 31 = .ok (.iload 5, 2) := by decide +kernel
theorem dX8_wordLaid_33 : decode cX8_wordLaid 33 = .ok (.isub, 1) := by decide +kernel
theorem dX8_wordLaid_34 : decode cX8_wordLaid 34 = .ok (.invokevirtual 74, 3) := by decide +kernel
theorem dX8_wordLaid_37 : decode cX8_wordLaid 37 = .ok (.istore 4, 2) := by decide +kernel
theorem dX8_wordLaid_39 : decode cX8_wordLaid 39 = .ok (.iload 4, 2) := by decide +kernel
theorem dX8_wordLaid_41 : decode cX8_wordLaid 41 = .ok (.iconst (-1), 1) := by decide +kernel
theorem dX8_wordLaid_42 : decode cX8_wordLaid 42 = .ok (.if_icmp .ne 5, 3) := by decide +kernel
theorem dX8_wordLaid_45 : decode cX8_wordLaid 45 = .ok (.iconst (-1), 1) := by decide +kernel
theorem dX8_wordLaid_46 : decode cX8_wordLaid 46 = .ok (.ireturn, 1) := by decide +kernel
theorem dX8_wordLaid_47 : decode cX8_wordLaid 47 = .ok (.iload_n 3, 1) := by decide +kernel
theorem dX8_wordLaid_48 : decode cX8_wordLaid 48 = .ok (.aload_n 0, 1) := by decide +kernel
theorem dX8_wordLaid_49 : decode cX8_wordLaid 49 = .ok (.getfield 25, 3) := by decide +kernel
theorem dX8_wordLaid_52 : decode cX8_wordLaid 52 = .ok (.getfield 49, 3) := by decide +kernel
theorem dX8_wordLaid_55 : decode cX8_wordLaid 55 = .ok (.iload 4, 2) := by decide +kernel
theorem dX8_wordLaid_57 : decode cX8_wordLaid 57 = .ok (.iaload, 1) := by decide +kernel
theorem dX8_wordLaid_58 : decode cX8_wordLaid 58 = .ok (.iadd, 1) := by decide +kernel
theorem dX8_wordLaid_59 : decode cX8_wordLaid 59 = .ok (.istore_n 3, 1) := by decide +kernel
theorem dX8_wordLaid_60 : decode cX8_wordLaid 60 = .ok (.iinc 5 1, 3) := by decide +kernel
theorem dX8_wordLaid_63 : decode cX8_wordLaid 63 = .ok (.goto (-50), 3) := by decide +kernel
theorem dX8_wordLaid_66 : decode cX8_wordLaid 66 = .ok (.iload 4, 2) := by decide +kernel
theorem dX8_wordLaid_68 : decode cX8_wordLaid 68 = .ok (.ireturn, 1) := by decide +kernel
theorem dX8_saySounds_0 : decode cX8_saySounds 0 = .ok (.iload_n 1, 1) := by decide +kernel
theorem dX8_saySounds_1 : decode cX8_saySounds 1 = .ok (.bipush 7, 2) := by decide +kernel
theorem dX8_saySounds_3 : decode cX8_saySounds 3 = .ok (.imul, 1) := by decide +kernel
theorem dX8_saySounds_4 : decode cX8_saySounds 4 = .ok (.istore_n 2, 1) := by decide +kernel
theorem dX8_saySounds_5 : decode cX8_saySounds 5 = .ok (.iconst 1, 1) := by decide +kernel
theorem dX8_saySounds_6 : decode cX8_saySounds 6 = .ok (.istore_n 3, 1) := by decide +kernel
theorem dX8_saySounds_7 : decode cX8_saySounds 7 = .ok (.iload_n 3, 1) := by decide +kernel
theorem dX8_saySounds_8 : decode cX8_saySounds 8 = .ok (.aload_n 0, 1) := by decide +kernel
theorem dX8_saySounds_9 : decode cX8_saySounds 9 = .ok (.getfield 25, 3) := by decide +kernel
theorem dX8_saySounds_12 : decode cX8_saySounds 12 = .ok (.getfield 49, 3) := by decide +kernel
theorem dX8_saySounds_15 : decode cX8_saySounds 15 = .ok (.iload_n 1, 1) := by decide +kernel
theorem dX8_saySounds_16 : decode cX8_saySounds 16 = .ok (.iaload, 1) := by decide +kernel
theorem dX8_saySounds_17 : decode cX8_saySounds 17 = .ok (.if_icmp .gt 40, 3) := by decide +kernel
theorem dX8_saySounds_20 : decode cX8_saySounds 20 = .ok (.aload_n 0, 1) := by decide +kernel
theorem dX8_saySounds_21 : decode cX8_saySounds 21 = .ok (.getfield 22, 3) := by decide +kernel
theorem dX8_saySounds_24 : decode cX8_saySounds 24 = .ok (.iload_n 2, 1) := by decide +kernel
theorem dX8_saySounds_25 : decode cX8_saySounds 25 = .ok (.iload_n 3, 1) := by decide +kernel
theorem dX8_saySounds_26 : decode cX8_saySounds 26 = .ok (.iadd, 1) := by decide +kernel
theorem dX8_saySounds_27 : decode cX8_saySounds 27 = .ok (.aload_n 0, 1) := by decide +kernel
theorem dX8_saySounds_28 : decode cX8_saySounds 28 = .ok (.getfield 22, 3) := by decide +kernel
theorem dX8_saySounds_31 : decode cX8_saySounds 31 = .ok (.iload_n 2, 1) := by decide +kernel
theorem dX8_saySounds_32 : decode cX8_saySounds 32 = .ok (.iload_n 3, 1) := by decide +kernel
theorem dX8_saySounds_33 : decode cX8_saySounds 33 = .ok (.iadd, 1) := by decide +kernel
theorem dX8_saySounds_34 : decode cX8_saySounds 34 = .ok (.iaload, 1) := by decide +kernel
theorem dX8_saySounds_35 : decode cX8_saySounds 35 = .ok (.aload_n 0, 1) := by decide +kernel
theorem dX8_saySounds_36 : decode cX8_saySounds 36 = .ok (.getfield 22, 3) := by decide +kernel
theorem dX8_saySounds_39 : decode cX8_saySounds 39 = .ok (.iload_n 2, 1) := by decide +kernel
theorem dX8_saySounds_40 : decode cX8_saySounds 40 = .ok (.iload_n 3, 1) := by decide +kernel
theorem dX8_saySounds_41 : decode cX8_saySounds 41 = .ok (.iadd, 1) := by decide +kernel
theorem dX8_saySounds_42 : decode cX8_saySounds 42 = .ok (.iconst 1, 1) := by decide +kernel
theorem dX8_saySounds_43 : decode cX8_saySounds 43 = .ok (.isub, 1) := by decide +kernel
theorem dX8_saySounds_44 : decode cX8_saySounds 44 = .ok (.iaload, 1) := by decide +kernel
theorem dX8_saySounds_45 : decode cX8_saySounds 45 = .ok (.iconst 1, 1) := by decide +kernel
theorem dX8_saySounds_46 : decode cX8_saySounds 46 = .ok (.iadd, 1) := by decide +kernel
theorem dX8_saySounds_47 : decode cX8_saySounds 47 = .ok (.invokestatic 64, 3) := by decide +kernel
theorem dX8_saySounds_50 : decode cX8_saySounds 50 = .ok (.iastore, 1) := by decide +kernel
theorem dX8_saySounds_51 : decode cX8_saySounds 51 = .ok (.iinc 3 1, 3) := by decide +kernel
theorem dX8_saySounds_54 : decode cX8_saySounds 54 = .ok (.goto (-47), 3) := by decide +kernel
theorem dX8_saySounds_57 : decode cX8_saySounds 57 = .ok (.return_, 1) := by decide +kernel
theorem dX8_beginBehind_0 : decode cX8_beginBehind 0 = .ok (.iconst 0, 1) := by decide +kernel
theorem dX8_beginBehind_1 : decode cX8_beginBehind 1 = .ok (.istore_n 2, 1) := by decide +kernel
theorem dX8_beginBehind_2 : decode cX8_beginBehind 2 = .ok (.aload_n 0, 1) := by decide +kernel
theorem dX8_beginBehind_3 : decode cX8_beginBehind 3 = .ok (.getfield 22, 3) := by decide +kernel
theorem dX8_beginBehind_6 : decode cX8_beginBehind 6 = .ok (.iload_n 1, 1) := by decide +kernel
theorem dX8_beginBehind_7 : decode cX8_beginBehind 7 = .ok (.bipush 7, 2) := by decide +kernel
theorem dX8_beginBehind_9 : decode cX8_beginBehind 9 = .ok (.imul, 1) := by decide +kernel
theorem dX8_beginBehind_10 : decode cX8_beginBehind 10 = .ok (.aload_n 0, 1) := by decide +kernel
theorem dX8_beginBehind_11 : decode cX8_beginBehind 11 = .ok (.getfield 25, 3) := by decide +kernel
theorem dX8_beginBehind_14 : decode cX8_beginBehind 14 = .ok (.getfield 49, 3) := by decide +kernel
theorem dX8_beginBehind_17 : decode cX8_beginBehind 17 = .ok (.iload_n 1, 1) := by decide +kernel
theorem dX8_beginBehind_18 : decode cX8_beginBehind 18 = .ok (.iaload, 1) := by decide +kernel
theorem dX8_beginBehind_19 : decode cX8_beginBehind 19 = .ok (.iadd, 1) := by decide +kernel
theorem dX8_beginBehind_20 : decode cX8_beginBehind 20 = .ok (.iaload, 1) := by decide +kernel
theorem dX8_beginBehind_21 : decode cX8_beginBehind 21 = .ok (.istore_n 3, 1) := by decide +kernel
theorem dX8_beginBehind_22 : decode cX8_beginBehind 22 = .ok (.iconst 0, 1) := by decide +kernel
theorem dX8_beginBehind_23 : decode cX8_beginBehind 23 = .ok (.istore 4, 2) := by decide +kernel
theorem dX8_beginBehind_25 : decode cX8_beginBehind 25 = .ok (.iload 4, 2) := by decide +kernel
theorem dX8_beginBehind_27 : decode cX8_beginBehind 27 = .ok (.aload_n 0, 1) := by decide +kernel
theorem dX8_beginBehind_28 : decode cX8_beginBehind 28 = .ok (.getfield 25, 3) := by decide +kernel
theorem dX8_beginBehind_31 : decode cX8_beginBehind 31 = .ok (.getfield 39, 3) := by decide +kernel
theorem dX8_beginBehind_34 : decode cX8_beginBehind 34 = .ok (.if_icmp .ge 49, 3) := by decide +kernel
theorem dX8_beginBehind_37 : decode cX8_beginBehind 37 = .ok (.iload_n 3, 1) := by decide +kernel
theorem dX8_beginBehind_38 : decode cX8_beginBehind 38 = .ok (.aload_n 0, 1) := by decide +kernel
theorem dX8_beginBehind_39 : decode cX8_beginBehind 39 = .ok (.getfield 22, 3) := by decide +kernel
theorem dX8_beginBehind_42 : decode cX8_beginBehind 42 = .ok (.iload 4, 2) := by decide +kernel
theorem dX8_beginBehind_44 : decode cX8_beginBehind 44 = .ok (.bipush 7, 2) := by decide +kernel
theorem dX8_beginBehind_46 : decode cX8_beginBehind 46 = .ok (.imul, 1) := by decide +kernel
theorem dX8_beginBehind_47 : decode cX8_beginBehind 47 = .ok (.iaload, 1) := by decide +kernel
theorem dX8_beginBehind_48 : decode cX8_beginBehind 48 = .ok (.if_icmp .ge 29, 3) := by decide +kernel
theorem dX8_beginBehind_51 : decode cX8_beginBehind 51 = .ok (.aload_n 0, 1) := by decide +kernel
theorem dX8_beginBehind_52 : decode cX8_beginBehind 52 = .ok (.getfield 29, 3) := by decide +kernel
theorem dX8_beginBehind_55 : decode cX8_beginBehind 55 = .ok (.iload_n 1, 1) := by decide +kernel
theorem dX8_beginBehind_56 : decode cX8_beginBehind 56 = .ok (.iload 4, 2) := by decide +kernel
theorem dX8_beginBehind_58 : decode cX8_beginBehind 58 = .ok (.invokevirtual 58, 3) := by decide +kernel
theorem dX8_beginBehind_61 : decode cX8_beginBehind 61 = .ok (.ifCond .eq 16, 3) := by decide +kernel
theorem dX8_beginBehind_64 : decode cX8_beginBehind 64 = .ok (.aload_n 0, 1) := by decide +kernel
theorem dX8_beginBehind_65 : decode cX8_beginBehind 65 = .ok (.getfield 22, 3) := by decide +kernel
theorem dX8_beginBehind_68 : decode cX8_beginBehind 68 = .ok (.iload 4, 2) := by decide +kernel
theorem dX8_beginBehind_70 : decode cX8_beginBehind 70 = .ok (.bipush 7, 2) := by decide +kernel
theorem dX8_beginBehind_72 : decode cX8_beginBehind 72 = .ok (.imul, 1) := by decide +kernel
theorem dX8_beginBehind_73 : decode cX8_beginBehind 73 = .ok (.iload_n 3, 1) := by decide +kernel
theorem dX8_beginBehind_74 : decode cX8_beginBehind 74 = .ok (.iastore, 1) := by decide +kernel
theorem dX8_beginBehind_75 : decode cX8_beginBehind 75 = .ok (.iconst 1, 1) := by decide +kernel
theorem dX8_beginBehind_76 : decode cX8_beginBehind 76 = .ok (.istore_n 2, 1) := by decide +kernel
theorem dX8_beginBehind_77 : decode cX8_beginBehind 77 = .ok (.iinc 4 1, 3) := by decide +kernel
theorem dX8_beginBehind_80 : decode cX8_beginBehind 80 = .ok (.goto (-55), 3) := by decide +kernel
theorem dX8_beginBehind_83 : decode cX8_beginBehind 83 = .ok (.iload_n 2, 1) := by decide +kernel
theorem dX8_beginBehind_84 : decode cX8_beginBehind 84 = .ok (.ireturn, 1) := by decide +kernel
theorem dX8_sayMore_0 : decode cX8_sayMore 0 = .ok (.iconst 1, 1) := by decide +kernel
theorem dX8_sayMore_1 : decode cX8_sayMore 1 = .ok (.istore_n 1, 1) := by decide +kernel
theorem dX8_sayMore_2 : decode cX8_sayMore 2 = .ok (.iconst 0, 1) := by decide +kernel
theorem dX8_sayMore_3 : decode cX8_sayMore 3 = .ok (.istore_n 2, 1) := by decide +kernel
theorem dX8_sayMore_4 : decode cX8_sayMore 4 = .ok (.iload_n 1, 1) := by decide +kernel
theorem dX8_sayMore_5 : decode cX8_sayMore 5 = .ok (.ifCond .eq 73, 3) := by decide +kernel
theorem dX8_sayMore_8 : decode cX8_sayMore 8 = .ok (.iload_n 2, 1) := by decide +kernel
theorem dX8_sayMore_9 : decode cX8_sayMore 9 = .ok (.aload_n 0, 1) := by decide +kernel
theorem dX8_sayMore_10 : decode cX8_sayMore 10 = .ok (.getfield 25, 3) := by decide +kernel
theorem dX8_sayMore_13 : decode cX8_sayMore 13 = .ok (.getfield 39, 3) := by decide +kernel
theorem dX8_sayMore_16 : decode cX8_sayMore 16 = .ok (.if_icmp .gt 62, 3) := by decide +kernel
theorem dX8_sayMore_19 : decode cX8_sayMore 19 = .ok (.iconst 0, 1) := by decide +kernel
theorem dX8_sayMore_20 : decode cX8_sayMore 20 = .ok (.istore_n 3, 1) := by decide +kernel
theorem dX8_sayMore_21 : decode cX8_sayMore 21 = .ok (.iload_n 3, 1) := by decide +kernel
theorem dX8_sayMore_22 : decode cX8_sayMore 22 = .ok (.aload_n 0, 1) := by decide +kernel
theorem dX8_sayMore_23 : decode cX8_sayMore 23 = .ok (.getfield 25, 3) := by decide +kernel
theorem dX8_sayMore_26 : decode cX8_sayMore 26 = .ok (.getfield 39, 3) := by decide +kernel
theorem dX8_sayMore_29 : decode cX8_sayMore 29 = .ok (.if_icmp .ge 14, 3) := by decide +kernel
theorem dX8_sayMore_32 : decode cX8_sayMore 32 = .ok (.aload_n 0, 1) := by decide +kernel
theorem dX8_sayMore_33 : decode cX8_sayMore 33 = .ok (.iload_n 3, 1) := by decide +kernel
theorem dX8_sayMore_34 : decode cX8_sayMore 34 = .ok (.invokevirtual 112, 3) := by decide +kernel
theorem dX8_sayMore_37 : decode cX8_sayMore 37 = .ok (.iinc 3 1, 3) := by decide +kernel
theorem dX8_sayMore_40 : decode cX8_sayMore 40 = .ok (.goto (-19), 3) := by decide +kernel
theorem dX8_sayMore_43 : decode cX8_sayMore 43 = .ok (.iconst 0, 1) := by decide +kernel
theorem dX8_sayMore_44 : decode cX8_sayMore 44 = .ok (.istore_n 1, 1) := by decide +kernel
theorem dX8_sayMore_45 : decode cX8_sayMore 45 = .ok (.iconst 0, 1) := by decide +kernel
theorem dX8_sayMore_46 : decode cX8_sayMore 46 = .ok (.istore_n 3, 1) := by decide +kernel
theorem dX8_sayMore_47 : decode cX8_sayMore 47 = .ok (.iload_n 3, 1) := by decide +kernel
theorem dX8_sayMore_48 : decode cX8_sayMore 48 = .ok (.aload_n 0, 1) := by decide +kernel
theorem dX8_sayMore_49 : decode cX8_sayMore 49 = .ok (.getfield 25, 3) := by decide +kernel
theorem dX8_sayMore_52 : decode cX8_sayMore 52 = .ok (.getfield 39, 3) := by decide +kernel
theorem dX8_sayMore_55 : decode cX8_sayMore 55 = .ok (.if_icmp .ge 17, 3) := by decide +kernel
theorem dX8_sayMore_58 : decode cX8_sayMore 58 = .ok (.iload_n 1, 1) := by decide +kernel
theorem dX8_sayMore_59 : decode cX8_sayMore 59 = .ok (.aload_n 0, 1) := by decide +kernel
theorem dX8_sayMore_60 : decode cX8_sayMore 60 = .ok (.iload_n 3, 1) := by decide +kernel
theorem dX8_sayMore_61 : decode cX8_sayMore 61 = .ok (.invokevirtual 115, 3) := by decide +kernel
theorem dX8_sayMore_64 : decode cX8_sayMore 64 = .ok (.ior, 1) := by decide +kernel
theorem dX8_sayMore_65 : decode cX8_sayMore 65 = .ok (.istore_n 1, 1) := by decide +kernel
theorem dX8_sayMore_66 : decode cX8_sayMore 66 = .ok (.iinc 3 1, 3) := by decide +kernel
theorem dX8_sayMore_69 : decode cX8_sayMore 69 = .ok (.goto (-22), 3) := by decide +kernel
theorem dX8_sayMore_72 : decode cX8_sayMore 72 = .ok (.iinc 2 1, 3) := by decide +kernel
theorem dX8_sayMore_75 : decode cX8_sayMore 75 = .ok (.goto (-71), 3) := by decide +kernel
theorem dX8_sayMore_78 : decode cX8_sayMore 78 = .ok (.return_, 1) := by decide +kernel
theorem dX8_passSound_0 : decode cX8_passSound 0 = .ok (.iconst 0, 1) := by decide +kernel
theorem dX8_passSound_1 : decode cX8_passSound 1 = .ok (.istore_n 2, 1) := by decide +kernel
theorem dX8_passSound_2 : decode cX8_passSound 2 = .ok (.iload_n 2, 1) := by decide +kernel
theorem dX8_passSound_3 : decode cX8_passSound 3 = .ok (.aload_n 0, 1) := by decide +kernel
theorem dX8_passSound_4 : decode cX8_passSound 4 = .ok (.getfield 25, 3) := by decide +kernel
theorem dX8_passSound_7 : decode cX8_passSound 7 = .ok (.getfield 39, 3) := by decide +kernel
theorem dX8_passSound_10 : decode cX8_passSound 10 = .ok (.if_icmp .ge 128, 3) := by decide +kernel
theorem dX8_passSound_13 : decode cX8_passSound 13 = .ok (.iload_n 2, 1) := by decide +kernel
theorem dX8_passSound_14 : decode cX8_passSound 14 = .ok (.bipush 7, 2) := by decide +kernel
theorem dX8_passSound_16 : decode cX8_passSound 16 = .ok (.imul, 1) := by decide +kernel
theorem dX8_passSound_17 : decode cX8_passSound 17 = .ok (.istore_n 3, 1) := by decide +kernel
theorem dX8_passSound_18 : decode cX8_passSound 18 = .ok (.aload_n 0, 1) := by decide +kernel
theorem dX8_passSound_19 : decode cX8_passSound 19 = .ok (.getfield 25, 3) := by decide +kernel
theorem dX8_passSound_22 : decode cX8_passSound 22 = .ok (.getfield 49, 3) := by decide +kernel
theorem dX8_passSound_25 : decode cX8_passSound 25 = .ok (.iload_n 2, 1) := by decide +kernel
theorem dX8_passSound_26 : decode cX8_passSound 26 = .ok (.iaload, 1) := by decide +kernel
theorem dX8_passSound_27 : decode cX8_passSound 27 = .ok (.istore 4, 2) := by decide +kernel
theorem dX8_passSound_29 : decode cX8_passSound 29 = .ok (.iload 4, 2) := by decide +kernel
theorem dX8_passSound_31 : decode cX8_passSound 31 = .ok (.istore 5, 2) := by decide +kernel
theorem dX8_passSound_33 : decode cX8_passSound 33 = .ok (.iload 5, 2) := by decide +kernel
theorem dX8_passSound_35 : decode cX8_passSound 35 = .ok (.ifCond .le 87, 3) := by decide +kernel
theorem dX8_passSound_38 : decode cX8_passSound 38 = .ok (.aload_n 0, 1) := by decide +kernel
theorem dX8_passSound_39 : decode cX8_passSound 39 = .ok (.getfield 25, 3) := by decide +kernel
theorem dX8_passSound_42 : decode cX8_passSound 42 = .ok (.getfield 55, 3) := by decide +kernel
theorem dX8_passSound_45 : decode cX8_passSound 45 = .ok (.iload_n 2, 1) := by decide +kernel
theorem dX8_passSound_46 : decode cX8_passSound 46 = .ok (.iaload, 1) := by decide +kernel
theorem dX8_passSound_47 : decode cX8_passSound 47 = .ok (.iload 4, 2) := by decide +kernel
theorem dX8_passSound_49 : decode cX8_passSound 49 = .ok (.iload 5, 2) := by decide +kernel
theorem dX8_passSound_51 : decode cX8_passSound 51 = .ok (.iconst 1, 1) := by decide +kernel
theorem dX8_passSound_52 : decode cX8_passSound 52 = .ok (.isub, 1) := by decide +kernel
theorem dX8_passSound_53 : decode cX8_passSound 53 = .ok (.invokestatic 109, 3) := by decide +kernel
theorem dX8_passSound_56 : decode cX8_passSound 56 = .ok (.iload_n 1, 1) := by decide +kernel
theorem dX8_passSound_57 : decode cX8_passSound 57 = .ok (.if_icmp .ne 7, 3) := by decide +kernel
theorem dX8_passSound_60 : decode cX8_passSound 60 = .ok (.iconst 1, 1) := by decide +kernel
theorem dX8_passSound_61 : decode cX8_passSound 61 = .ok (.goto 4, 3) := by decide +kernel
theorem dX8_passSound_64 : decode cX8_passSound 64 = .ok (.iconst 0, 1) := by decide +kernel
theorem dX8_passSound_65 : decode cX8_passSound 65 = .ok (.istore 6, 2) := by decide +kernel
theorem dX8_passSound_67 : decode cX8_passSound 67 = .ok (.aload_n 0, 1) := by decide +kernel
theorem dX8_passSound_68 : decode cX8_passSound 68 = .ok (.getfield 22, 3) := by decide +kernel
theorem dX8_passSound_71 : decode cX8_passSound 71 = .ok (.iload_n 3, 1) := by decide +kernel
theorem dX8_passSound_72 : decode cX8_passSound 72 = .ok (.iload 5, 2) := by decide +kernel
theorem dX8_passSound_74 : decode cX8_passSound 74 = .ok (.iadd, 1) := by decide +kernel
theorem dX8_passSound_75 : decode cX8_passSound 75 = .ok (.iconst 1, 1) := by decide +kernel
theorem dX8_passSound_76 : decode cX8_passSound 76 = .ok (.isub, 1) := by decide +kernel
theorem dX8_passSound_77 : decode cX8_passSound 77 = .ok (.iaload, 1) := by decide +kernel
theorem dX8_passSound_78 : decode cX8_passSound 78 = .ok (.iload 6, 2) := by decide +kernel
theorem dX8_passSound_80 : decode cX8_passSound 80 = .ok (.ifCond .eq 7, 3) := by decide +kernel
theorem dX8_passSound_83 : decode cX8_passSound 83 = .ok (.iconst 0, 1) := by decide +kernel
theorem dX8_passSound_84 : decode cX8_passSound 84 = .ok (.goto 4, 3) := by decide +kernel
theorem dX8_passSound_87 : decode cX8_passSound 87 = .ok (.iconst 1, 1) := by decide +kernel
theorem dX8_passSound_88 : decode cX8_passSound 88 = .ok (.iadd, 1) := by decide +kernel
theorem dX8_passSound_89 : decode cX8_passSound 89 = .ok (.istore 7, 2) := by decide +kernel
theorem dX8_passSound_91 : decode cX8_passSound 91 = .ok (.aload_n 0, 1) := by decide +kernel
theorem dX8_passSound_92 : decode cX8_passSound 92 = .ok (.getfield 22, 3) := by decide +kernel
theorem dX8_passSound_95 : decode cX8_passSound 95 = .ok (.iload_n 3, 1) := by decide +kernel
theorem dX8_passSound_96 : decode cX8_passSound 96 = .ok (.iload 5, 2) := by decide +kernel
theorem dX8_passSound_98 : decode cX8_passSound 98 = .ok (.iadd, 1) := by decide +kernel
theorem dX8_passSound_99 : decode cX8_passSound 99 = .ok (.aload_n 0, 1) := by decide +kernel
theorem dX8_passSound_100 : decode cX8_passSound 100 = .ok (.getfield 22, 3) := by decide +kernel
theorem dX8_passSound_103 : decode cX8_passSound 103 = .ok (.iload_n 3, 1) := by decide +kernel
theorem dX8_passSound_104 : decode cX8_passSound 104 = .ok (.iload 5, 2) := by decide +kernel
theorem dX8_passSound_106 : decode cX8_passSound 106 = .ok (.iadd, 1) := by decide +kernel
theorem dX8_passSound_107 : decode cX8_passSound 107 = .ok (.iaload, 1) := by decide +kernel
theorem dX8_passSound_108 : decode cX8_passSound 108 = .ok (.iconst 1, 1) := by decide +kernel
theorem dX8_passSound_109 : decode cX8_passSound 109 = .ok (.iadd, 1) := by decide +kernel
theorem dX8_passSound_110 : decode cX8_passSound 110 = .ok (.iload 7, 2) := by decide +kernel
theorem dX8_passSound_112 : decode cX8_passSound 112 = .ok (.invokestatic 64, 3) := by decide +kernel
theorem dX8_passSound_115 : decode cX8_passSound 115 = .ok (.iastore, 1) := by decide +kernel
theorem dX8_passSound_116 : decode cX8_passSound 116 = .ok (.iinc 5 (-1), 3) := by decide +kernel
theorem dX8_passSound_119 : decode cX8_passSound 119 = .ok (.goto (-86), 3) := by decide +kernel
theorem dX8_passSound_122 : decode cX8_passSound 122 = .ok (.aload_n 0, 1) := by decide +kernel
theorem dX8_passSound_123 : decode cX8_passSound 123 = .ok (.getfield 22, 3) := by decide +kernel
theorem dX8_passSound_126 : decode cX8_passSound 126 = .ok (.iload_n 3, 1) := by decide +kernel
theorem dX8_passSound_127 : decode cX8_passSound 127 = .ok (.dup2, 1) := by decide +kernel
theorem dX8_passSound_128 : decode cX8_passSound 128 = .ok (.iaload, 1) := by decide +kernel
theorem dX8_passSound_129 : decode cX8_passSound 129 = .ok (.iconst 1, 1) := by decide +kernel
theorem dX8_passSound_130 : decode cX8_passSound 130 = .ok (.iadd, 1) := by decide +kernel
theorem dX8_passSound_131 : decode cX8_passSound 131 = .ok (.iastore, 1) := by decide +kernel
theorem dX8_passSound_132 : decode cX8_passSound 132 = .ok (.iinc 2 1, 3) := by decide +kernel
theorem dX8_passSound_135 : decode cX8_passSound 135 = .ok (.goto (-133), 3) := by decide +kernel
theorem dX8_passSound_138 : decode cX8_passSound 138 = .ok (.return_, 1) := by decide +kernel
theorem dX8_stepsToRead_0 : decode cX8_stepsToRead 0 = .ok (.iload_n 1, 1) := by decide +kernel
theorem dX8_stepsToRead_1 : decode cX8_stepsToRead 1 = .ok (.aload_n 0, 1) := by decide +kernel
theorem dX8_stepsToRead_2 : decode cX8_stepsToRead 2 = .ok (.getfield 19, 3) := by decide +kernel
theorem dX8_stepsToRead_5 : decode cX8_stepsToRead 5 = .ok (.invokestatic 91, 3) := by decide +kernel
theorem dX8_stepsToRead_8 : decode cX8_stepsToRead 8 = .ok (.istore_n 2, 1) := by decide +kernel
theorem dX8_stepsToRead_9 : decode cX8_stepsToRead 9 = .ok (.aload_n 0, 1) := by decide +kernel
theorem dX8_stepsToRead_10 : decode cX8_stepsToRead 10 = .ok (.getfield 22, 3) := by decide +kernel
theorem dX8_stepsToRead_13 : decode cX8_stepsToRead 13 = .ok (.ldc 95, 2) := by decide +kernel
theorem dX8_stepsToRead_15 : decode cX8_stepsToRead 15 = .ok (.invokestatic 96, 3) := by decide +kernel
theorem dX8_stepsToRead_18 : decode cX8_stepsToRead 18 = .ok (.iconst 0, 1) := by decide +kernel
theorem dX8_stepsToRead_19 : decode cX8_stepsToRead 19 = .ok (.istore_n 3, 1) := by decide +kernel
theorem dX8_stepsToRead_20 : decode cX8_stepsToRead 20 = .ok (.iload_n 3, 1) := by decide +kernel
theorem dX8_stepsToRead_21 : decode cX8_stepsToRead 21 = .ok (.aload_n 0, 1) := by decide +kernel
theorem dX8_stepsToRead_22 : decode cX8_stepsToRead 22 = .ok (.getfield 25, 3) := by decide +kernel
theorem dX8_stepsToRead_25 : decode cX8_stepsToRead 25 = .ok (.getfield 39, 3) := by decide +kernel
theorem dX8_stepsToRead_28 : decode cX8_stepsToRead 28 = .ok (.if_icmp .ge 19, 3) := by decide +kernel
theorem dX8_stepsToRead_31 : decode cX8_stepsToRead 31 = .ok (.aload_n 0, 1) := by decide +kernel
theorem dX8_stepsToRead_32 : decode cX8_stepsToRead 32 = .ok (.getfield 22, 3) := by decide +kernel
theorem dX8_stepsToRead_35 : decode cX8_stepsToRead 35 = .ok (.iload_n 3, 1) := by decide +kernel
theorem dX8_stepsToRead_36 : decode cX8_stepsToRead 36 = .ok (.bipush 7, 2) := by decide +kernel
theorem dX8_stepsToRead_38 : decode cX8_stepsToRead 38 = .ok (.imul, 1) := by decide +kernel
theorem dX8_stepsToRead_39 : decode cX8_stepsToRead 39 = .ok (.iconst 0, 1) := by decide +kernel
theorem dX8_stepsToRead_40 : decode cX8_stepsToRead 40 = .ok (.iastore, 1) := by decide +kernel
theorem dX8_stepsToRead_41 : decode cX8_stepsToRead 41 = .ok (.iinc 3 1, 3) := by decide +kernel
theorem dX8_stepsToRead_44 : decode cX8_stepsToRead 44 = .ok (.goto (-24), 3) := by decide +kernel
theorem dX8_stepsToRead_47 : decode cX8_stepsToRead 47 = .ok (.aload_n 0, 1) := by decide +kernel
theorem dX8_stepsToRead_48 : decode cX8_stepsToRead 48 = .ok (.invokevirtual 102, 3) := by decide +kernel
theorem dX8_stepsToRead_51 : decode cX8_stepsToRead 51 = .ok (.iconst 0, 1) := by decide +kernel
theorem dX8_stepsToRead_52 : decode cX8_stepsToRead 52 = .ok (.istore_n 3, 1) := by decide +kernel
theorem dX8_stepsToRead_53 : decode cX8_stepsToRead 53 = .ok (.iload_n 3, 1) := by decide +kernel
theorem dX8_stepsToRead_54 : decode cX8_stepsToRead 54 = .ok (.iload_n 2, 1) := by decide +kernel
theorem dX8_stepsToRead_55 : decode cX8_stepsToRead 55 = .ok (.if_icmp .ge 23, 3) := by decide +kernel
theorem dX8_stepsToRead_58 : decode cX8_stepsToRead 58 = .ok (.aload_n 0, 1) := by decide +kernel
theorem dX8_stepsToRead_59 : decode cX8_stepsToRead 59 = .ok (.aload_n 0, 1) := by decide +kernel
theorem dX8_stepsToRead_60 : decode cX8_stepsToRead 60 = .ok (.getfield 19, 3) := by decide +kernel
theorem dX8_stepsToRead_63 : decode cX8_stepsToRead 63 = .ok (.iload_n 3, 1) := by decide +kernel
theorem dX8_stepsToRead_64 : decode cX8_stepsToRead 64 = .ok (.iaload, 1) := by decide +kernel
theorem dX8_stepsToRead_65 : decode cX8_stepsToRead 65 = .ok (.invokevirtual 105, 3) := by decide +kernel
theorem dX8_stepsToRead_68 : decode cX8_stepsToRead 68 = .ok (.aload_n 0, 1) := by decide +kernel
theorem dX8_stepsToRead_69 : decode cX8_stepsToRead 69 = .ok (.invokevirtual 102, 3) := by decide +kernel
theorem dX8_stepsToRead_72 : decode cX8_stepsToRead 72 = .ok (.iinc 3 1, 3) := by decide +kernel
theorem dX8_stepsToRead_75 : decode cX8_stepsToRead 75 = .ok (.goto (-22), 3) := by decide +kernel
theorem dX8_stepsToRead_78 : decode cX8_stepsToRead 78 = .ok (.ldc 95, 2) := by decide +kernel
theorem dX8_stepsToRead_80 : decode cX8_stepsToRead 80 = .ok (.istore_n 3, 1) := by decide +kernel
theorem dX8_stepsToRead_81 : decode cX8_stepsToRead 81 = .ok (.iconst 0, 1) := by decide +kernel
theorem dX8_stepsToRead_82 : decode cX8_stepsToRead 82 = .ok (.istore 4, 2) := by decide +kernel
theorem dX8_stepsToRead_84 : decode cX8_stepsToRead 84 = .ok (.iload 4, 2) := by decide +kernel
theorem dX8_stepsToRead_86 : decode cX8_stepsToRead 86 = .ok (.aload_n 0, 1) := by decide +kernel
theorem dX8_stepsToRead_87 : decode cX8_stepsToRead 87 = .ok (.getfield 25, 3) := by decide +kernel
theorem dX8_stepsToRead_90 : decode cX8_stepsToRead 90 = .ok (.getfield 39, 3) := by decide +kernel
theorem dX8_stepsToRead_93 : decode cX8_stepsToRead 93 = .ok (.if_icmp .ge 35, 3) := by decide +kernel
theorem dX8_stepsToRead_96 : decode cX8_stepsToRead 96 = .ok (.iload_n 3, 1) := by decide +kernel
theorem dX8_stepsToRead_97 : decode cX8_stepsToRead 97 = .ok (.aload_n 0, 1) := by decide +kernel
theorem dX8_stepsToRead_98 : decode cX8_stepsToRead 98 = .ok (.getfield 22, 3) := by decide +kernel
theorem dX8_stepsToRead_101 : decode cX8_stepsToRead 101 = .ok (.iload 4, 2) := by decide +kernel
theorem dX8_stepsToRead_103 : decode cX8_stepsToRead 103 = .ok (.bipush 7, 2) := by decide +kernel
theorem dX8_stepsToRead_105 : decode cX8_stepsToRead 105 = .ok (.imul, 1) := by decide +kernel
theorem dX8_stepsToRead_106 : decode cX8_stepsToRead 106 = .ok (.aload_n 0, 1) := by decide +kernel
theorem dX8_stepsToRead_107 : decode cX8_stepsToRead 107 = .ok (.getfield 25, 3) := by decide +kernel
theorem dX8_stepsToRead_110 : decode cX8_stepsToRead 110 = .ok (.getfield 49, 3) := by decide +kernel
theorem dX8_stepsToRead_113 : decode cX8_stepsToRead 113 = .ok (.iload 4, 2) := by decide +kernel
theorem dX8_stepsToRead_115 : decode cX8_stepsToRead 115 = .ok (.iaload, 1) := by decide +kernel
theorem dX8_stepsToRead_116 : decode cX8_stepsToRead 116 = .ok (.iadd, 1) := by decide +kernel
theorem dX8_stepsToRead_117 : decode cX8_stepsToRead 117 = .ok (.iaload, 1) := by decide +kernel
theorem dX8_stepsToRead_118 : decode cX8_stepsToRead 118 = .ok (.invokestatic 64, 3) := by decide +kernel
theorem dX8_stepsToRead_121 : decode cX8_stepsToRead 121 = .ok (.istore_n 3, 1) := by decide +kernel
theorem dX8_stepsToRead_122 : decode cX8_stepsToRead 122 = .ok (.iinc 4 1, 3) := by decide +kernel
theorem dX8_stepsToRead_125 : decode cX8_stepsToRead 125 = .ok (.goto (-41), 3) := by decide +kernel
theorem dX8_stepsToRead_128 : decode cX8_stepsToRead 128 = .ok (.iload_n 3, 1) := by decide +kernel
theorem dX8_stepsToRead_129 : decode cX8_stepsToRead 129 = .ok (.ldc 95, 2) := by decide +kernel
theorem dX8_stepsToRead_131 : decode cX8_stepsToRead 131 = .ok (.if_icmp .ne 7, 3) := by decide +kernel
theorem dX8_stepsToRead_134 : decode cX8_stepsToRead 134 = .ok (.iconst (-1), 1) := by decide +kernel
theorem dX8_stepsToRead_135 : decode cX8_stepsToRead 135 = .ok (.goto 4, 3) := by decide +kernel
theorem dX8_stepsToRead_138 : decode cX8_stepsToRead 138 = .ok (.iload_n 3, 1) := by decide +kernel
theorem dX8_stepsToRead_139 : decode cX8_stepsToRead 139 = .ok (.ireturn, 1) := by decide +kernel
theorem dX8_layWorth_0 : decode cX8_layWorth 0 = .ok (.iload_n 1, 1) := by decide +kernel
theorem dX8_layWorth_1 : decode cX8_layWorth 1 = .ok (.bipush 10, 2) := by decide +kernel
theorem dX8_layWorth_3 : decode cX8_layWorth 3 = .ok (.imul, 1) := by decide +kernel
theorem dX8_layWorth_4 : decode cX8_layWorth 4 = .ok (.iload_n 2, 1) := by decide +kernel
theorem dX8_layWorth_5 : decode cX8_layWorth 5 = .ok (.iadd, 1) := by decide +kernel
theorem dX8_layWorth_6 : decode cX8_layWorth 6 = .ok (.istore_n 3, 1) := by decide +kernel
theorem dX8_layWorth_7 : decode cX8_layWorth 7 = .ok (.iload_n 1, 1) := by decide +kernel
theorem dX8_layWorth_8 : decode cX8_layWorth 8 = .ok (.aload_n 0, 1) := by decide +kernel
theorem dX8_layWorth_9 : decode cX8_layWorth 9 = .ok (.getfield 25, 3) := by decide +kernel
theorem dX8_layWorth_12 : decode cX8_layWorth 12 = .ok (.getfield 49, 3) := by decide +kernel
theorem dX8_layWorth_15 : decode cX8_layWorth 15 = .ok (.iload_n 2, 1) := by decide +kernel
theorem dX8_layWorth_16 : decode cX8_layWorth 16 = .ok (.iaload, 1) := by decide +kernel
theorem dX8_layWorth_17 : decode cX8_layWorth 17 = .ok (.isub, 1) := by decide +kernel
theorem dX8_layWorth_18 : decode cX8_layWorth 18 = .ok (.istore 4, 2) := by decide +kernel
theorem dX8_layWorth_20 : decode cX8_layWorth 20 = .ok (.aload_n 0, 1) := by decide +kernel
theorem dX8_layWorth_21 : decode cX8_layWorth 21 = .ok (.getfield 15, 3) := by decide +kernel
theorem dX8_layWorth_24 : decode cX8_layWorth 24 = .ok (.iload_n 3, 1) := by decide +kernel
theorem dX8_layWorth_25 : decode cX8_layWorth 25 = .ok (.iload 4, 2) := by decide +kernel
theorem dX8_layWorth_27 : decode cX8_layWorth 27 = .ok (.ifCond .ne 15, 3) := by decide +kernel
theorem dX8_layWorth_30 : decode cX8_layWorth 30 = .ok (.aload_n 0, 1) := by decide +kernel
theorem dX8_layWorth_31 : decode cX8_layWorth 31 = .ok (.getfield 25, 3) := by decide +kernel
theorem dX8_layWorth_34 : decode cX8_layWorth 34 = .ok (.getfield 88, 3) := by decide +kernel
theorem dX8_layWorth_37 : decode cX8_layWorth 37 = .ok (.iload_n 2, 1) := by decide +kernel
theorem dX8_layWorth_38 : decode cX8_layWorth 38 = .ok (.iaload, 1) := by decide +kernel
theorem dX8_layWorth_39 : decode cX8_layWorth 39 = .ok (.goto 4, 3) := by decide +kernel
theorem dX8_layWorth_42 : decode cX8_layWorth 42 = .ok (.iconst (-1), 1) := by decide +kernel
theorem dX8_layWorth_43 : decode cX8_layWorth 43 = .ok (.iastore, 1) := by decide +kernel
theorem dX8_layWorth_44 : decode cX8_layWorth 44 = .ok (.iconst 0, 1) := by decide +kernel
theorem dX8_layWorth_45 : decode cX8_layWorth 45 = .ok (.istore 5, 2) := by decide +kernel
theorem dX8_layWorth_47 : decode cX8_layWorth 47 = .ok (.iload 4, 2) := by decide +kernel
theorem dX8_layWorth_49 : decode cX8_layWorth 49 = .ok (.ifCond .le 82, 3) := by decide +kernel
theorem dX8_layWorth_52 : decode cX8_layWorth 52 = .ok (.iload 5, 2) := by decide +kernel
theorem dX8_layWorth_54 : decode cX8_layWorth 54 = .ok (.aload_n 0, 1) := by decide +kernel
theorem dX8_layWorth_55 : decode cX8_layWorth 55 = .ok (.getfield 25, 3) := by decide +kernel
theorem dX8_layWorth_58 : decode cX8_layWorth 58 = .ok (.getfield 39, 3) := by decide +kernel
theorem dX8_layWorth_61 : decode cX8_layWorth 61 = .ok (.if_icmp .ge 70, 3) := by decide +kernel
theorem dX8_layWorth_64 : decode cX8_layWorth 64 = .ok (.aload_n 0, 1) := by decide +kernel
theorem dX8_layWorth_65 : decode cX8_layWorth 65 = .ok (.getfield 15, 3) := by decide +kernel
theorem dX8_layWorth_68 : decode cX8_layWorth 68 = .ok (.iload 4, 2) := by decide +kernel
theorem dX8_layWorth_70 : decode cX8_layWorth 70 = .ok (.bipush 10, 2) := by decide +kernel
theorem dX8_layWorth_72 : decode cX8_layWorth 72 = .ok (.imul, 1) := by decide +kernel
theorem dX8_layWorth_73 : decode cX8_layWorth 73 = .ok (.iload 5, 2) := by decide +kernel
theorem dX8_layWorth_75 : decode cX8_layWorth 75 = .ok (.iadd, 1) := by decide +kernel
theorem dX8_layWorth_76 : decode cX8_layWorth 76 = .ok (.iaload, 1) := by decide +kernel
theorem dX8_layWorth_77 : decode cX8_layWorth 77 = .ok (.istore 6, 2) := by decide +kernel
theorem dX8_layWorth_79 : decode cX8_layWorth 79 = .ok (.iload 6, 2) := by decide +kernel
theorem dX8_layWorth_81 : decode cX8_layWorth 81 = .ok (.iconst (-1), 1) := by decide +kernel
theorem dX8_layWorth_82 : decode cX8_layWorth 82 = .ok (.if_icmp .eq 43, 3) := by decide +kernel
theorem dX8_layWorth_85 : decode cX8_layWorth 85 = .ok (.aload_n 0, 1) := by decide +kernel
theorem dX8_layWorth_86 : decode cX8_layWorth 86 = .ok (.getfield 29, 3) := by decide +kernel
theorem dX8_layWorth_89 : decode cX8_layWorth 89 = .ok (.iload_n 2, 1) := by decide +kernel
theorem dX8_layWorth_90 : decode cX8_layWorth 90 = .ok (.iload 5, 2) := by decide +kernel
theorem dX8_layWorth_92 : decode cX8_layWorth 92 = .ok (.invokevirtual 58, 3) := by decide +kernel
theorem dX8_layWorth_95 : decode cX8_layWorth 95 = .ok (.ifCond .eq 30, 3) := by decide +kernel
theorem dX8_layWorth_98 : decode cX8_layWorth 98 = .ok (.aload_n 0, 1) := by decide +kernel
theorem dX8_layWorth_99 : decode cX8_layWorth 99 = .ok (.getfield 15, 3) := by decide +kernel
theorem dX8_layWorth_102 : decode cX8_layWorth 102 = .ok (.iload_n 3, 1) := by decide +kernel
theorem dX8_layWorth_103 : decode cX8_layWorth 103 = .ok (.aload_n 0, 1) := by decide +kernel
theorem dX8_layWorth_104 : decode cX8_layWorth 104 = .ok (.getfield 15, 3) := by decide +kernel
theorem dX8_layWorth_107 : decode cX8_layWorth 107 = .ok (.iload_n 3, 1) := by decide +kernel
theorem dX8_layWorth_108 : decode cX8_layWorth 108 = .ok (.iaload, 1) := by decide +kernel
theorem dX8_layWorth_109 : decode cX8_layWorth 109 = .ok (.iload 6, 2) := by decide +kernel
theorem dX8_layWorth_111 : decode cX8_layWorth 111 = .ok (.aload_n 0, 1) := by decide +kernel
theorem dX8_layWorth_112 : decode cX8_layWorth 112 = .ok (.getfield 25, 3) := by decide +kernel
theorem dX8_layWorth_115 : decode cX8_layWorth 115 = .ok (.getfield 88, 3) := by decide +kernel
theorem dX8_layWorth_118 : decode cX8_layWorth 118 = .ok (.iload_n 2, 1) := by decide +kernel
theorem dX8_layWorth_119 : decode cX8_layWorth 119 = .ok (.iaload, 1) := by decide +kernel
theorem dX8_layWorth_120 : decode cX8_layWorth 120 = .ok (.iadd, 1) := by decide +kernel
theorem dX8_layWorth_121 : decode cX8_layWorth 121 = .ok (.invokestatic 85, 3) := by decide +kernel
theorem dX8_layWorth_124 : decode cX8_layWorth 124 = .ok (.iastore, 1) := by decide +kernel
theorem dX8_layWorth_125 : decode cX8_layWorth 125 = .ok (.iinc 5 1, 3) := by decide +kernel
theorem dX8_layWorth_128 : decode cX8_layWorth 128 = .ok (.goto (-81), 3) := by decide +kernel
theorem dX8_layWorth_131 : decode cX8_layWorth 131 = .ok (.return_, 1) := by decide +kernel
theorem dX8_mostWorth_0 : decode cX8_mostWorth 0 = .ok (.iconst 0, 1) := by decide +kernel
theorem dX8_mostWorth_1 : decode cX8_mostWorth 1 = .ok (.istore_n 2, 1) := by decide +kernel
theorem dX8_mostWorth_2 : decode cX8_mostWorth 2 = .ok (.iconst 1, 1) := by decide +kernel
theorem dX8_mostWorth_3 : decode cX8_mostWorth 3 = .ok (.istore_n 3, 1) := by decide +kernel
theorem dX8_mostWorth_4 : decode cX8_mostWorth 4 = .ok (.iload_n 3, 1) := by decide +kernel
theorem dX8_mostWorth_5 : decode cX8_mostWorth 5 = .ok (.iload_n 1, 1) := by decide +kernel
theorem dX8_mostWorth_6 : decode cX8_mostWorth 6 = .ok (.if_icmp .gt 54, 3) := by decide +kernel
theorem dX8_mostWorth_9 : decode cX8_mostWorth 9 = .ok (.iconst 0, 1) := by decide +kernel
theorem dX8_mostWorth_10 : decode cX8_mostWorth 10 = .ok (.istore 4, 2) := by decide +kernel
theorem dX8_mostWorth_12 : decode cX8_mostWorth 12 = .ok (.iload 4, 2) := by decide +kernel
theorem dX8_mostWorth_14 : decode cX8_mostWorth 14 = .ok (.aload_n 0, 1) := by decide +kernel
theorem dX8_mostWorth_15 : decode cX8_mostWorth 15 = .ok (.getfield 25, 3) := by decide +kernel
theorem dX8_mostWorth_18 : decode cX8_mostWorth 18 = .ok (.getfield 39, 3) := by decide +kernel
theorem dX8_mostWorth_21 : decode cX8_mostWorth 21 = .ok (.if_icmp .ge 33, 3) := by decide +kernel
theorem dX8_mostWorth_24 : decode cX8_mostWorth 24 = .ok (.aload_n 0, 1) := by decide +kernel
theorem dX8_mostWorth_25 : decode cX8_mostWorth 25 = .ok (.iload_n 3, 1) := by decide +kernel
theorem dX8_mostWorth_26 : decode cX8_mostWorth 26 = .ok (.iload 4, 2) := by decide +kernel
theorem dX8_mostWorth_28 : decode cX8_mostWorth 28 = .ok (.invokevirtual 82, 3) := by decide +kernel
theorem dX8_mostWorth_31 : decode cX8_mostWorth 31 = .ok (.iload_n 2, 1) := by decide +kernel
theorem dX8_mostWorth_32 : decode cX8_mostWorth 32 = .ok (.aload_n 0, 1) := by decide +kernel
theorem dX8_mostWorth_33 : decode cX8_mostWorth 33 = .ok (.getfield 15, 3) := by decide +kernel
theorem dX8_mostWorth_36 : decode cX8_mostWorth 36 = .ok (.iload_n 3, 1) := by decide +kernel
theorem dX8_mostWorth_37 : decode cX8_mostWorth 37 = .ok (.bipush 10, 2) := by decide +kernel
theorem dX8_mostWorth_39 : decode cX8_mostWorth 39 = .ok (.imul, 1) := by decide +kernel
theorem dX8_mostWorth_40 : decode cX8_mostWorth 40 = .ok (.iload 4, 2) := by decide +kernel
theorem dX8_mostWorth_42 : decode cX8_mostWorth 42 = .ok (.iadd, 1) := by decide +kernel
theorem dX8_mostWorth_43 : decode cX8_mostWorth 43 = .ok (.iaload, 1) := by decide +kernel
theorem dX8_mostWorth_44 : decode cX8_mostWorth 44 = .ok (.invokestatic 85, 3) := by decide +kernel
theorem dX8_mostWorth_47 : decode cX8_mostWorth 47 = .ok (.istore_n 2, 1) := by decide +kernel
theorem dX8_mostWorth_48 : decode cX8_mostWorth 48 = .ok (.iinc 4 1, 3) := by decide +kernel
theorem dX8_mostWorth_51 : decode cX8_mostWorth 51 = .ok (.goto (-39), 3) := by decide +kernel
theorem dX8_mostWorth_54 : decode cX8_mostWorth 54 = .ok (.iinc 3 1, 3) := by decide +kernel
theorem dX8_mostWorth_57 : decode cX8_mostWorth 57 = .ok (.goto (-53), 3) := by decide +kernel
theorem dX8_mostWorth_60 : decode cX8_mostWorth 60 = .ok (.iload_n 2, 1) := by decide +kernel
theorem dX8_mostWorth_61 : decode cX8_mostWorth 61 = .ok (.ireturn, 1) := by decide +kernel
theorem dX8_countRows_0 : decode cX8_countRows 0 = .ok (.iload_n 1, 1) := by decide +kernel
theorem dX8_countRows_1 : decode cX8_countRows 1 = .ok (.bipush 10, 2) := by decide +kernel
theorem dX8_countRows_3 : decode cX8_countRows 3 = .ok (.imul, 1) := by decide +kernel
theorem dX8_countRows_4 : decode cX8_countRows 4 = .ok (.iload_n 2, 1) := by decide +kernel
theorem dX8_countRows_5 : decode cX8_countRows 5 = .ok (.iadd, 1) := by decide +kernel
theorem dX8_countRows_6 : decode cX8_countRows 6 = .ok (.istore_n 3, 1) := by decide +kernel
theorem dX8_countRows_7 : decode cX8_countRows 7 = .ok (.iload_n 1, 1) := by decide +kernel
theorem dX8_countRows_8 : decode cX8_countRows 8 = .ok (.aload_n 0, 1) := by decide +kernel
theorem dX8_countRows_9 : decode cX8_countRows 9 = .ok (.getfield 25, 3) := by decide +kernel
theorem dX8_countRows_12 : decode cX8_countRows 12 = .ok (.getfield 49, 3) := by decide +kernel
theorem dX8_countRows_15 : decode cX8_countRows 15 = .ok (.iload_n 2, 1) := by decide +kernel
theorem dX8_countRows_16 : decode cX8_countRows 16 = .ok (.iaload, 1) := by decide +kernel
theorem dX8_countRows_17 : decode cX8_countRows 17 = .ok (.isub, 1) := by decide +kernel
theorem dX8_countRows_18 : decode cX8_countRows 18 = .ok (.istore 4, 2) := by decide +kernel
theorem dX8_countRows_20 : decode cX8_countRows 20 = .ok (.aload_n 0, 1) := by decide +kernel
theorem dX8_countRows_21 : decode cX8_countRows 21 = .ok (.getfield 9, 3) := by decide +kernel
theorem dX8_countRows_24 : decode cX8_countRows 24 = .ok (.iload_n 3, 1) := by decide +kernel
theorem dX8_countRows_25 : decode cX8_countRows 25 = .ok (.iload 4, 2) := by decide +kernel
theorem dX8_countRows_27 : decode cX8_countRows 27 = .ok (.ifCond .ne 7, 3) := by decide +kernel
theorem dX8_countRows_30 : decode cX8_countRows 30 = .ok (.lconst 1, 1) := by decide +kernel
theorem dX8_countRows_31 : decode cX8_countRows 31 = .ok (.goto 4, 3) := by decide +kernel
theorem dX8_countRows_34 : decode cX8_countRows 34 = .ok (.lconst 0, 1) := by decide +kernel
theorem dX8_countRows_35 : decode cX8_countRows 35 = .ok (.lastore, 1) := by decide +kernel
theorem dX8_countRows_36 : decode cX8_countRows 36 = .ok (.iconst 0, 1) := by decide +kernel
theorem dX8_countRows_37 : decode cX8_countRows 37 = .ok (.istore 5, 2) := by decide +kernel
theorem dX8_countRows_39 : decode cX8_countRows 39 = .ok (.iload 4, 2) := by decide +kernel
theorem dX8_countRows_41 : decode cX8_countRows 41 = .ok (.ifCond .le 74, 3) := by decide +kernel
theorem dX8_countRows_44 : decode cX8_countRows 44 = .ok (.iload 5, 2) := by decide +kernel
theorem dX8_countRows_46 : decode cX8_countRows 46 = .ok (.aload_n 0, 1) := by decide +kernel
theorem dX8_countRows_47 : decode cX8_countRows 47 = .ok (.getfield 25, 3) := by decide +kernel
theorem dX8_countRows_50 : decode cX8_countRows 50 = .ok (.getfield 39, 3) := by decide +kernel
theorem dX8_countRows_53 : decode cX8_countRows 53 = .ok (.if_icmp .ge 62, 3) := by decide +kernel
theorem dX8_countRows_56 : decode cX8_countRows 56 = .ok (.aload_n 0, 1) := by decide +kernel
theorem dX8_countRows_57 : decode cX8_countRows 57 = .ok (.getfield 9, 3) := by decide +kernel
theorem dX8_countRows_60 : decode cX8_countRows 60 = .ok (.iload 4, 2) := by decide +kernel
theorem dX8_countRows_62 : decode cX8_countRows 62 = .ok (.bipush 10, 2) := by decide +kernel
theorem dX8_countRows_64 : decode cX8_countRows 64 = .ok (.imul, 1) := by decide +kernel
theorem dX8_countRows_65 : decode cX8_countRows 65 = .ok (.iload 5, 2) := by decide +kernel
theorem dX8_countRows_67 : decode cX8_countRows 67 = .ok (.iadd, 1) := by decide +kernel
theorem dX8_countRows_68 : decode cX8_countRows 68 = .ok (.laload, 1) := by decide +kernel
theorem dX8_countRows_69 : decode cX8_countRows 69 = .ok (.lconst 0, 1) := by decide +kernel
theorem dX8_countRows_70 : decode cX8_countRows 70 = .ok (.lcmp, 1) := by decide +kernel
theorem dX8_countRows_71 : decode cX8_countRows 71 = .ok (.ifCond .le 38, 3) := by decide +kernel
theorem dX8_countRows_74 : decode cX8_countRows 74 = .ok (.aload_n 0, 1) := by decide +kernel
theorem dX8_countRows_75 : decode cX8_countRows 75 = .ok (.getfield 29, 3) := by decide +kernel
theorem dX8_countRows_78 : decode cX8_countRows 78 = .ok (.iload_n 2, 1) := by decide +kernel
theorem dX8_countRows_79 : decode cX8_countRows 79 = .ok (.iload 5, 2) := by decide +kernel
theorem dX8_countRows_81 : decode cX8_countRows 81 = .ok (.invokevirtual 58, 3) := by decide +kernel
theorem dX8_countRows_84 : decode cX8_countRows 84 = .ok (.ifCond .eq 25, 3) := by decide +kernel
theorem dX8_countRows_87 : decode cX8_countRows 87 = .ok (.aload_n 0, 1) := by decide +kernel
theorem dX8_countRows_88 : decode cX8_countRows 88 = .ok (.getfield 9, 3) := by decide +kernel
theorem dX8_countRows_91 : decode cX8_countRows 91 = .ok (.iload_n 3, 1) := by decide +kernel
theorem dX8_countRows_92 : decode cX8_countRows 92 = .ok (.dup2, 1) := by decide +kernel
theorem dX8_countRows_93 : decode cX8_countRows 93 = .ok (.laload, 1) := by decide +kernel
theorem dX8_countRows_94 : decode cX8_countRows 94 = .ok (.aload_n 0, 1) := by decide +kernel
theorem dX8_countRows_95 : decode cX8_countRows 95 = .ok (.getfield 9, 3) := by decide +kernel
theorem dX8_countRows_98 : decode cX8_countRows 98 = .ok (.iload 4, 2) := by decide +kernel
theorem dX8_countRows_100 : decode cX8_countRows 100 = .ok (.bipush 10, 2) := by decide +kernel
theorem dX8_countRows_102 : decode cX8_countRows 102 = .ok (.imul, 1) := by decide +kernel
theorem dX8_countRows_103 : decode cX8_countRows 103 = .ok (.iload 5, 2) := by decide +kernel
theorem dX8_countRows_105 : decode cX8_countRows 105 = .ok (.iadd, 1) := by decide +kernel
theorem dX8_countRows_106 : decode cX8_countRows 106 = .ok (.laload, 1) := by decide +kernel
theorem dX8_countRows_107 : decode cX8_countRows 107 = .ok (.ladd, 1) := by decide +kernel
theorem dX8_countRows_108 : decode cX8_countRows 108 = .ok (.lastore, 1) := by decide +kernel
theorem dX8_countRows_109 : decode cX8_countRows 109 = .ok (.iinc 5 1, 3) := by decide +kernel
theorem dX8_countRows_112 : decode cX8_countRows 112 = .ok (.goto (-73), 3) := by decide +kernel
theorem dX8_countRows_115 : decode cX8_countRows 115 = .ok (.return_, 1) := by decide +kernel
theorem dX8_rowsOf_0 : decode cX8_rowsOf 0 = .ok (.lconst 0, 1) := by decide +kernel
theorem dX8_rowsOf_1 : decode cX8_rowsOf 1 = .ok (.lstore_n 2, 1) := by decide +kernel
theorem dX8_rowsOf_2 : decode cX8_rowsOf 2 = .ok (.iconst 1, 1) := by decide +kernel
theorem dX8_rowsOf_3 : decode cX8_rowsOf 3 = .ok (.istore 4, 2) := by decide +kernel
theorem dX8_rowsOf_5 : decode cX8_rowsOf 5 = .ok (.iload 4, 2) := by decide +kernel
theorem dX8_rowsOf_7 : decode cX8_rowsOf 7 = .ok (.iload_n 1, 1) := by decide +kernel
theorem dX8_rowsOf_8 : decode cX8_rowsOf 8 = .ok (.if_icmp .gt 56, 3) := by decide +kernel
theorem dX8_rowsOf_11 : decode cX8_rowsOf 11 = .ok (.lconst 0, 1) := by decide +kernel
theorem dX8_rowsOf_12 : decode cX8_rowsOf 12 = .ok (.lstore_n 2, 1) := by decide +kernel
theorem dX8_rowsOf_13 : decode cX8_rowsOf 13 = .ok (.iconst 0, 1) := by decide +kernel
theorem dX8_rowsOf_14 : decode cX8_rowsOf 14 = .ok (.istore 5, 2) := by decide +kernel
theorem dX8_rowsOf_16 : decode cX8_rowsOf 16 = .ok (.iload 5, 2) := by decide +kernel
theorem dX8_rowsOf_18 : decode cX8_rowsOf 18 = .ok (.aload_n 0, 1) := by decide +kernel
theorem dX8_rowsOf_19 : decode cX8_rowsOf 19 = .ok (.getfield 25, 3) := by decide +kernel
theorem dX8_rowsOf_22 : decode cX8_rowsOf 22 = .ok (.getfield 39, 3) := by decide +kernel
theorem dX8_rowsOf_25 : decode cX8_rowsOf 25 = .ok (.if_icmp .ge 33, 3) := by decide +kernel
theorem dX8_rowsOf_28 : decode cX8_rowsOf 28 = .ok (.aload_n 0, 1) := by decide +kernel
theorem dX8_rowsOf_29 : decode cX8_rowsOf 29 = .ok (.iload 4, 2) := by decide +kernel
theorem dX8_rowsOf_31 : decode cX8_rowsOf 31 = .ok (.iload 5, 2) := by decide +kernel
theorem dX8_rowsOf_33 : decode cX8_rowsOf 33 = .ok (.invokevirtual 78, 3) := by decide +kernel
theorem dX8_rowsOf_36 : decode cX8_rowsOf 36 = .ok (.lload_n 2, 1) := by decide +kernel
theorem dX8_rowsOf_37 : decode cX8_rowsOf 37 = .ok (.aload_n 0, 1) := by decide +kernel
theorem dX8_rowsOf_38 : decode cX8_rowsOf 38 = .ok (.getfield 9, 3) := by decide +kernel
theorem dX8_rowsOf_41 : decode cX8_rowsOf 41 = .ok (.iload 4, 2) := by decide +kernel
theorem dX8_rowsOf_43 : decode cX8_rowsOf 43 = .ok (.bipush 10, 2) := by decide +kernel
theorem dX8_rowsOf_45 : decode cX8_rowsOf 45 = .ok (.imul, 1) := by decide +kernel
theorem dX8_rowsOf_46 : decode cX8_rowsOf 46 = .ok (.iload 5, 2) := by decide +kernel
theorem dX8_rowsOf_48 : decode cX8_rowsOf 48 = .ok (.iadd, 1) := by decide +kernel
theorem dX8_rowsOf_49 : decode cX8_rowsOf 49 = .ok (.laload, 1) := by decide +kernel
theorem dX8_rowsOf_50 : decode cX8_rowsOf 50 = .ok (.ladd, 1) := by decide +kernel
theorem dX8_rowsOf_51 : decode cX8_rowsOf 51 = .ok (.lstore_n 2, 1) := by decide +kernel
theorem dX8_rowsOf_52 : decode cX8_rowsOf 52 = .ok (.iinc 5 1, 3) := by decide +kernel
theorem dX8_rowsOf_55 : decode cX8_rowsOf 55 = .ok (.goto (-39), 3) := by decide +kernel
theorem dX8_rowsOf_58 : decode cX8_rowsOf 58 = .ok (.iinc 4 1, 3) := by decide +kernel
theorem dX8_rowsOf_61 : decode cX8_rowsOf 61 = .ok (.goto (-56), 3) := by decide +kernel
theorem dX8_rowsOf_64 : decode cX8_rowsOf 64 = .ok (.lload_n 2, 1) := by decide +kernel
theorem dX8_rowsOf_65 : decode cX8_rowsOf 65 = .ok (.lreturn, 1) := by decide +kernel
def jn_SP_layWord_66 (n : Nat) (μ : kbM) : Option (kbM) :=
  some μ
theorem jnR_SP_layWord_66 {l : Launch} (n : Nat)    (μ : kbM) {Q : kbQt} {P : kbM → Prop} (hr : ∀ z : kbM, P z → Q none z) (h : kbG (jn_SP_layWord_66 n μ) P) : kbR l MX8_layWord 4 Q 66 [none, none, none, none, none, none, none, none, none] [] μ := by
  unfold jn_SP_layWord_66 at h
  exact r_vret rfl dX8_layWord_66 (hr μ (kbG_some h))
def jn_SP_layWord_204 (n : Nat) (rec : Int32 → kbM → Option (kbM)) (v4 : Int32) (v5 : Int32) (v6 : Int32) (v7 : Int32) (μ : kbM) : Option (kbM) :=
  rec (v7 + 1) μ
theorem jnR_SP_layWord_204 {l : Launch} (n : Nat)   (v4 : Int32) (v5 : Int32) (v6 : Int32) (v7 : Int32) (μ : kbM) {Q : kbQt} {P : kbM → Prop} (hx : ∀ z : kbM, P (z) → kbR l MX8_layWord 4 Q 210 [none, none, none, none, none, none, none, none, none] [] z) {rec : Int32 → kbM → Option (kbM)} (hrec : ∀ (v7 : Int32) (μ : kbM), kbG (rec v7 μ) P → kbR l MX8_layWord 4 Q 93 [some (.ref 43), none, none, none, some (.int v4), some (.int v5), some (.int v6), some (.int v7), none] [] μ) (h : kbG (jn_SP_layWord_204 n rec v4 v5 v6 v7 μ) P) : kbR l MX8_layWord 4 Q 204 [some (.ref 43), none, none, none, some (.int v4), some (.int v5), some (.int v6), some (.int v7), none] [] μ := by
  unfold jn_SP_layWord_204 at h
  refine r_iinc 1 dX8_layWord_204 rfl (by decide) (Nat.le_of_ble_eq_true rfl) rfl ?_
  refine r_goto 93 dX8_layWord_207 (by decide) ?_
  refine r_le [some (.ref 43), none, none, none, some (.int v4), some (.int v5), some (.int v6), some (.int (v7 + 1)), none] ⟨rfl, ⟨rfl, ⟨rfl, ⟨rfl, ⟨rfl, trivial⟩⟩⟩⟩⟩ ?_
  exact hrec (v7 + 1) μ h
def jn_SP_layWord_203 (n : Nat) (rec : Int32 → kbM → Option (kbM)) (v4 : Int32) (v5 : Int32) (v6 : Int32) (v7 : Int32) (w1 : Int32) (w2 : Int32) (μ : kbM) : Option (kbM) :=
  kbIf (kbIn w1 130) <|
  jn_SP_layWord_204 n rec v4 v5 v6 v7 (kbW μ 45 w1.toNatClampNeg w2)
theorem jnR_SP_layWord_203 {l : Launch} (n : Nat)   (v4 : Int32) (v5 : Int32) (v6 : Int32) (v7 : Int32) (w1 : Int32) (w2 : Int32) (μ : kbM) {Q : kbQt} {P : kbM → Prop} (hx : ∀ z : kbM, P (z) → kbR l MX8_layWord 4 Q 210 [none, none, none, none, none, none, none, none, none] [] z) {rec : Int32 → kbM → Option (kbM)} (hrec : ∀ (v7 : Int32) (μ : kbM), kbG (rec v7 μ) P → kbR l MX8_layWord 4 Q 93 [some (.ref 43), none, none, none, some (.int v4), some (.int v5), some (.int v6), some (.int v7), none] [] μ) (h : kbG (jn_SP_layWord_203 n rec v4 v5 v6 v7 w1 w2 μ) P) : kbR l MX8_layWord 4 Q 203 [some (.ref 43), none, none, none, some (.int v4), some (.int v5), some (.int v6), some (.int v7), none] [.int w2, .int w1, .ref 45] μ := by
  unfold jn_SP_layWord_203 at h
  obtain ⟨hin, h⟩ := kbG_if h
  replace hin := kbIn_of hin
  refine q_iast w1.toNatClampNeg rfl sh45 hin dX8_layWord_203 ?_
  refine r_le [some (.ref 43), none, none, none, some (.int v4), some (.int v5), some (.int v6), some (.int v7), none] ⟨rfl, ⟨rfl, ⟨rfl, ⟨rfl, ⟨rfl, trivial⟩⟩⟩⟩⟩ ?_
  exact jnR_SP_layWord_204 n v4 v5 v6 v7 (kbW μ 45 w1.toNatClampNeg w2) (hx := hx) (hrec := hrec) h
def lp_SP_layWord_93 (n : Nat) (v4 : Int32) (v5 : Int32) (v6 : Int32) : Nat → Int32 → kbM → Option (kbM)
  | 0, _, _ => none
  | k + 1, v7, μ =>
    if (μ.1 13 4) ≤ v7 then
      some μ
    else
      kbIf (kbIn ((v6 * 10) + v7) 130) <|
      if (μ.1 45 (((v6 * 10) + v7).toNatClampNeg)) ≤ 0 then
        jn_SP_layWord_204 n (lp_SP_layWord_93 n v4 v5 v6 k) v4 v5 v6 v7 μ
      else
        (f_JO_mayFollow n v4 v7 μ).bind fun x2 =>
        if x2.1 = 0 then
          jn_SP_layWord_204 n (lp_SP_layWord_93 n v4 v5 v6 k) v4 v5 v6 v7 x2.2
        else
          kbIf (kbIn v5 130) <|
          kbIf (kbIn ((v6 * 10) + v7) 130) <|
          kbIf (kbIn v5 130) <|
          kbIf (kbIn v5 130) <|
          if ((kbX x2.2 44 v5.toNatClampNeg ((x2.2.2 44 v5.toNatClampNeg) + (x2.2.2 44 (((v6 * 10) + v7).toNatClampNeg)))).1 45 v5.toNatClampNeg) = 0 then
            kbIf (kbIn ((v6 * 10) + v7) 130) <|
            jn_SP_layWord_203 n (lp_SP_layWord_93 n v4 v5 v6 k) v4 v5 v6 v7 v5 (((kbX x2.2 44 v5.toNatClampNeg ((x2.2.2 44 v5.toNatClampNeg) + (x2.2.2 44 (((v6 * 10) + v7).toNatClampNeg)))).1 45 (((v6 * 10) + v7).toNatClampNeg)) + 1) (kbX x2.2 44 v5.toNatClampNeg ((x2.2.2 44 v5.toNatClampNeg) + (x2.2.2 44 (((v6 * 10) + v7).toNatClampNeg))))
          else
            kbIf (kbIn v5 130) <|
            kbIf (kbIn ((v6 * 10) + v7) 130) <|
            jn_SP_layWord_203 n (lp_SP_layWord_93 n v4 v5 v6 k) v4 v5 v6 v7 v5 (kbMin ((kbX x2.2 44 v5.toNatClampNeg ((x2.2.2 44 v5.toNatClampNeg) + (x2.2.2 44 (((v6 * 10) + v7).toNatClampNeg)))).1 45 v5.toNatClampNeg) (((kbX x2.2 44 v5.toNatClampNeg ((x2.2.2 44 v5.toNatClampNeg) + (x2.2.2 44 (((v6 * 10) + v7).toNatClampNeg)))).1 45 (((v6 * 10) + v7).toNatClampNeg)) + 1)) (kbX x2.2 44 v5.toNatClampNeg ((x2.2.2 44 v5.toNatClampNeg) + (x2.2.2 44 (((v6 * 10) + v7).toNatClampNeg))))
theorem lpR_SP_layWord_93 {l : Launch} (n : Nat) (v4 : Int32) (v5 : Int32) (v6 : Int32)  {Q : kbQt} {P : kbM → Prop} (hx : ∀ z : kbM, P (z) → kbR l MX8_layWord 4 Q 210 [none, none, none, none, none, none, none, none, none] [] z) : ∀ (k : Nat) (v7 : Int32) (μ : kbM), kbG (lp_SP_layWord_93 n v4 v5 v6 k v7 μ) P → kbR l MX8_layWord 4 Q 93 [some (.ref 43), none, none, none, some (.int v4), some (.int v5), some (.int v6), some (.int v7), none] [] μ := by
  intro k
  induction k with
  | zero => intro v7 μ h; exact absurd h kbG_none
  | succ k ih =>
    intro v7 μ h
    unfold lp_SP_layWord_93 at h
    refine r_iload dX8_layWord_93 rfl ?_
    refine r_aload_n dX8_layWord_95 rfl ?_
    refine r_getR flX8_25 sh43 rfl dX8_layWord_96 ?_
    refine r_getI flX8_39 sh13 rfl dX8_layWord_99 ?_
    refine r_icmp_ge 210 dX8_layWord_102 (by decide) (fun hc => ?_) (fun hc => ?_)
    · replace h := kbG_t hc h
      refine r_le [none, none, none, none, none, none, none, none, none] trivial ?_
      exact hx μ (kbG_some h)
    · replace h := kbG_f hc h
      refine r_iload dX8_layWord_105 rfl ?_
      refine r_bipush 10 dX8_layWord_107 (by decide) ?_
      refine r_imul dX8_layWord_109 ?_
      refine r_iload dX8_layWord_110 rfl ?_
      refine r_iadd dX8_layWord_112 ?_
      refine r_istore dX8_layWord_113 (Nat.le_of_ble_eq_true rfl) rfl ?_
      refine r_aload_n dX8_layWord_115 rfl ?_
      refine r_getR flX8_15 sh43 rfl dX8_layWord_116 ?_
      refine r_iload dX8_layWord_119 rfl ?_
      obtain ⟨hin, h⟩ := kbG_if h
      replace hin := kbIn_of hin
      refine q_iald (((v6 * 10) + v7).toNatClampNeg) rfl sh45 hin dX8_layWord_121 ?_
      refine r_if_le 204 dX8_layWord_122 (by decide) (fun hc => ?_) (fun hc => ?_)
      · replace h := kbG_t hc h
        refine r_le [some (.ref 43), none, none, none, some (.int v4), some (.int v5), some (.int v6), some (.int v7), none] ⟨rfl, ⟨rfl, ⟨rfl, ⟨rfl, ⟨rfl, trivial⟩⟩⟩⟩⟩ ?_
        exact jnR_SP_layWord_204 n v4 v5 v6 v7 μ (hx := hx) (hrec := ih) h
      · replace h := kbG_f hc h
        refine r_aload_n dX8_layWord_125 rfl ?_
        refine r_getR flX8_29 sh43 rfl dX8_layWord_126 ?_
        refine r_iload dX8_layWord_129 rfl ?_
        refine r_iload dX8_layWord_131 rfl ?_
        obtain ⟨x2, hx0, h⟩ := kbG_bind h
        refine r_invV_i cvX8_58 sh35 rfl (sp_JO_mayFollow n v4 v7 μ hx0) rfl rfl (Nat.le_of_ble_eq_true rfl) (Nat.le_of_ble_eq_true rfl) dX8_layWord_133 ?_
        refine r_if_eq 204 dX8_layWord_136 (by decide) (fun hc => ?_) (fun hc => ?_)
        · replace h := kbG_t hc h
          refine r_le [some (.ref 43), none, none, none, some (.int v4), some (.int v5), some (.int v6), some (.int v7), none] ⟨rfl, ⟨rfl, ⟨rfl, ⟨rfl, ⟨rfl, trivial⟩⟩⟩⟩⟩ ?_
          exact jnR_SP_layWord_204 n v4 v5 v6 v7 x2.2 (hx := hx) (hrec := ih) h
        · replace h := kbG_f hc h
          refine r_aload_n dX8_layWord_139 rfl ?_
          refine r_getR flX8_9 sh43 rfl dX8_layWord_140 ?_
          refine r_iload dX8_layWord_143 rfl ?_
          refine r_dup2 dX8_layWord_145 rfl rfl ?_
          obtain ⟨hin, h⟩ := kbG_if h
          replace hin := kbIn_of hin
          refine q_lald v5.toNatClampNeg rfl sh44 hin dX8_layWord_146 ?_
          refine r_aload_n dX8_layWord_147 rfl ?_
          refine r_getR flX8_9 sh43 rfl dX8_layWord_148 ?_
          refine r_iload dX8_layWord_151 rfl ?_
          obtain ⟨hin, h⟩ := kbG_if h
          replace hin := kbIn_of hin
          refine q_lald (((v6 * 10) + v7).toNatClampNeg) rfl sh44 hin dX8_layWord_153 ?_
          refine r_ladd dX8_layWord_154 ?_
          obtain ⟨hin, h⟩ := kbG_if h
          replace hin := kbIn_of hin
          refine q_last v5.toNatClampNeg rfl sh44 hin dX8_layWord_155 ?_
          refine r_aload_n dX8_layWord_156 rfl ?_
          refine r_getR flX8_15 sh43 rfl dX8_layWord_157 ?_
          refine r_iload dX8_layWord_160 rfl ?_
          refine r_aload_n dX8_layWord_162 rfl ?_
          refine r_getR flX8_15 sh43 rfl dX8_layWord_163 ?_
          refine r_iload dX8_layWord_166 rfl ?_
          obtain ⟨hin, h⟩ := kbG_if h
          replace hin := kbIn_of hin
          refine q_iald v5.toNatClampNeg rfl sh45 hin dX8_layWord_168 ?_
          refine r_if_ne 184 dX8_layWord_169 (by decide) (fun hc => ?_) (fun hc => ?_)
          · replace h := kbG_f hc h
            refine r_aload_n dX8_layWord_184 rfl ?_
            refine r_getR flX8_15 sh43 rfl dX8_layWord_185 ?_
            refine r_iload dX8_layWord_188 rfl ?_
            obtain ⟨hin, h⟩ := kbG_if h
            replace hin := kbIn_of hin
            refine q_iald v5.toNatClampNeg rfl sh45 hin dX8_layWord_190 ?_
            refine r_aload_n dX8_layWord_191 rfl ?_
            refine r_getR flX8_15 sh43 rfl dX8_layWord_192 ?_
            refine r_iload dX8_layWord_195 rfl ?_
            obtain ⟨hin, h⟩ := kbG_if h
            replace hin := kbIn_of hin
            refine q_iald (((v6 * 10) + v7).toNatClampNeg) rfl sh45 hin dX8_layWord_197 ?_
            refine r_iconst 1 dX8_layWord_198 (by decide) ?_
            refine r_iadd dX8_layWord_199 ?_
            refine r_min mlX8_64 (Nat.le_of_ble_eq_true rfl) (Nat.le_of_ble_eq_true rfl) dX8_layWord_200 ?_
            refine r_le [some (.ref 43), none, none, none, some (.int v4), some (.int v5), some (.int v6), some (.int v7), none] ⟨rfl, ⟨rfl, ⟨rfl, ⟨rfl, ⟨rfl, trivial⟩⟩⟩⟩⟩ ?_
            exact jnR_SP_layWord_203 n v4 v5 v6 v7 v5 (kbMin ((kbX x2.2 44 v5.toNatClampNeg ((x2.2.2 44 v5.toNatClampNeg) + (x2.2.2 44 (((v6 * 10) + v7).toNatClampNeg)))).1 45 v5.toNatClampNeg) (((kbX x2.2 44 v5.toNatClampNeg ((x2.2.2 44 v5.toNatClampNeg) + (x2.2.2 44 (((v6 * 10) + v7).toNatClampNeg)))).1 45 (((v6 * 10) + v7).toNatClampNeg)) + 1)) (kbX x2.2 44 v5.toNatClampNeg ((x2.2.2 44 v5.toNatClampNeg) + (x2.2.2 44 (((v6 * 10) + v7).toNatClampNeg)))) (hx := hx) (hrec := ih) h
          · replace h := kbG_t hc h
            refine r_aload_n dX8_layWord_172 rfl ?_
            refine r_getR flX8_15 sh43 rfl dX8_layWord_173 ?_
            refine r_iload dX8_layWord_176 rfl ?_
            obtain ⟨hin, h⟩ := kbG_if h
            replace hin := kbIn_of hin
            refine q_iald (((v6 * 10) + v7).toNatClampNeg) rfl sh45 hin dX8_layWord_178 ?_
            refine r_iconst 1 dX8_layWord_179 (by decide) ?_
            refine r_iadd dX8_layWord_180 ?_
            refine r_goto 203 dX8_layWord_181 (by decide) ?_
            refine r_le [some (.ref 43), none, none, none, some (.int v4), some (.int v5), some (.int v6), some (.int v7), none] ⟨rfl, ⟨rfl, ⟨rfl, ⟨rfl, ⟨rfl, trivial⟩⟩⟩⟩⟩ ?_
            exact jnR_SP_layWord_203 n v4 v5 v6 v7 v5 (((kbX x2.2 44 v5.toNatClampNeg ((x2.2.2 44 v5.toNatClampNeg) + (x2.2.2 44 (((v6 * 10) + v7).toNatClampNeg)))).1 45 (((v6 * 10) + v7).toNatClampNeg)) + 1) (kbX x2.2 44 v5.toNatClampNeg ((x2.2.2 44 v5.toNatClampNeg) + (x2.2.2 44 (((v6 * 10) + v7).toNatClampNeg)))) (hx := hx) (hrec := ih) h
def f_SP_layWord (n : Nat) (a1 : Int32) (a2 : Int32) (a3 : Int32) (a4 : Int32) (μ : kbM) : Option (kbM) :=
  kbIf (kbIn a4 10) <|
  kbIf (kbIn ((a3 * 10) + a4) 130) <|
  kbIf (kbIn ((a3 * 10) + a4) 130) <|
  if a2 < (a3 + (μ.1 15 a4.toNatClampNeg)) then
    jn_SP_layWord_66 n (kbW (kbX μ 44 (((a3 * 10) + a4).toNatClampNeg) 0) 45 (((a3 * 10) + a4).toNatClampNeg) 0)
  else
    (f_RO_slice a1 a2 a3 (a3 + (μ.1 15 a4.toNatClampNeg))).bind fun x1 =>
    kbIf (kbIn a4 10) <|
    if x1 = ((kbW (kbX μ 44 (((a3 * 10) + a4).toNatClampNeg) 0) 45 (((a3 * 10) + a4).toNatClampNeg) 0).1 14 a4.toNatClampNeg) then
      if (a3 + (μ.1 15 a4.toNatClampNeg)) = a2 then
        kbIf (kbIn ((a3 * 10) + a4) 130) <|
        kbIf (kbIn ((a3 * 10) + a4) 130) <|
        some (kbW (kbX (kbW (kbX μ 44 (((a3 * 10) + a4).toNatClampNeg) 0) 45 (((a3 * 10) + a4).toNatClampNeg) 0) 44 (((a3 * 10) + a4).toNatClampNeg) 1) 45 (((a3 * 10) + a4).toNatClampNeg) 1)
      else
        (lp_SP_layWord_93 n a4 ((a3 * 10) + a4) (a3 + (μ.1 15 a4.toNatClampNeg)) n 0 (kbW (kbX μ 44 (((a3 * 10) + a4).toNatClampNeg) 0) 45 (((a3 * 10) + a4).toNatClampNeg) 0)).bind fun x3 =>
        some x3
    else
      jn_SP_layWord_66 n (kbW (kbX μ 44 (((a3 * 10) + a4).toNatClampNeg) 0) 45 (((a3 * 10) + a4).toNatClampNeg) 0)
theorem sp_SP_layWord {l : Launch} (n : Nat) (a1 : Int32) (a2 : Int32) (a3 : Int32) (a4 : Int32) (μ : kbM)  {x : kbM} (h : f_SP_layWord n a1 a2 a3 a4 μ = some x) : kbS l MX8_layWord 4 [.ref 43, .int a1, .int a2, .int a3, .int a4] μ (kbQe none x) := by
  refine kb_enter 4 rfl rfl ?_
  suffices H : ∀ (Q : kbQt) (P : kbM → Prop), (∀ z : kbM, P z → Q none z) → kbG (f_SP_layWord n a1 a2 a3 a4 μ) P → kbR l MX8_layWord 4 Q 0 [some (.ref 43), some (.int a1), some (.int a2), some (.int a3), some (.int a4), none, none, none, none] [] μ from H _ (fun z => z = x) (fun z e => by subst e; exact ⟨rfl, rfl⟩) ⟨x, h, rfl⟩
  clear h
  intro Q P hr h
  unfold f_SP_layWord at h
  refine r_iload_n dX8_layWord_0 rfl ?_
  refine r_bipush 10 dX8_layWord_1 (by decide) ?_
  refine r_imul dX8_layWord_3 ?_
  refine r_iload dX8_layWord_4 rfl ?_
  refine r_iadd dX8_layWord_6 ?_
  refine r_istore dX8_layWord_7 (Nat.le_of_ble_eq_true rfl) rfl ?_
  refine r_iload_n dX8_layWord_9 rfl ?_
  refine r_aload_n dX8_layWord_10 rfl ?_
  refine r_getR flX8_25 sh43 rfl dX8_layWord_11 ?_
  refine r_getR flX8_49 sh13 rfl dX8_layWord_14 ?_
  refine r_iload dX8_layWord_17 rfl ?_
  obtain ⟨hin, h⟩ := kbG_if h
  replace hin := kbIn_of hin
  refine q_iald a4.toNatClampNeg rfl sh15 hin dX8_layWord_19 ?_
  refine r_iadd dX8_layWord_20 ?_
  refine r_istore dX8_layWord_21 (Nat.le_of_ble_eq_true rfl) rfl ?_
  refine r_aload_n dX8_layWord_23 rfl ?_
  refine r_getR flX8_9 sh43 rfl dX8_layWord_24 ?_
  refine r_iload dX8_layWord_27 rfl ?_
  refine r_lconst 0 dX8_layWord_29 (by decide) ?_
  obtain ⟨hin, h⟩ := kbG_if h
  replace hin := kbIn_of hin
  refine q_last (((a3 * 10) + a4).toNatClampNeg) rfl sh44 hin dX8_layWord_30 ?_
  refine r_aload_n dX8_layWord_31 rfl ?_
  refine r_getR flX8_15 sh43 rfl dX8_layWord_32 ?_
  refine r_iload dX8_layWord_35 rfl ?_
  refine r_iconst 0 dX8_layWord_37 (by decide) ?_
  obtain ⟨hin, h⟩ := kbG_if h
  replace hin := kbIn_of hin
  refine q_iast (((a3 * 10) + a4).toNatClampNeg) rfl sh45 hin dX8_layWord_38 ?_
  refine r_iload dX8_layWord_39 rfl ?_
  refine r_iload_n dX8_layWord_41 rfl ?_
  refine r_icmp_gt 66 dX8_layWord_42 (by decide) (fun hc => ?_) (fun hc => ?_)
  · replace h := kbG_t hc h
    refine r_le [none, none, none, none, none, none, none, none, none] trivial ?_
    exact jnR_SP_layWord_66 n  (kbW (kbX μ 44 (((a3 * 10) + a4).toNatClampNeg) 0) 45 (((a3 * 10) + a4).toNatClampNeg) 0) (hr := hr) h
  · replace h := kbG_f hc h
    refine r_iload_n dX8_layWord_45 rfl ?_
    refine r_iload_n dX8_layWord_46 rfl ?_
    refine r_iload_n dX8_layWord_47 rfl ?_
    refine r_iload dX8_layWord_48 rfl ?_
    obtain ⟨x1, hx0, h⟩ := kbG_bind h
    refine r_inv_i csX8_51 (sp_RO_slice a1 a2 a3 (a3 + (μ.1 15 a4.toNatClampNeg)) (kbW (kbX μ 44 (((a3 * 10) + a4).toNatClampNeg) 0) 45 (((a3 * 10) + a4).toNatClampNeg) 0) hx0) rfl rfl (Nat.le_of_ble_eq_true rfl) (Nat.le_of_ble_eq_true rfl) dX8_layWord_50 ?_
    refine r_aload_n dX8_layWord_53 rfl ?_
    refine r_getR flX8_25 sh43 rfl dX8_layWord_54 ?_
    refine r_getR flX8_55 sh13 rfl dX8_layWord_57 ?_
    refine r_iload dX8_layWord_60 rfl ?_
    obtain ⟨hin, h⟩ := kbG_if h
    replace hin := kbIn_of hin
    refine q_iald a4.toNatClampNeg rfl sh14 hin dX8_layWord_62 ?_
    refine r_icmp_eq 67 dX8_layWord_63 (by decide) (fun hc => ?_) (fun hc => ?_)
    · replace h := kbG_t hc h
      refine r_iload dX8_layWord_67 rfl ?_
      refine r_iload_n dX8_layWord_69 rfl ?_
      refine r_icmp_ne 90 dX8_layWord_70 (by decide) (fun hc => ?_) (fun hc => ?_)
      · replace h := kbG_f hc h
        refine r_iconst 0 dX8_layWord_90 (by decide) ?_
        refine r_istore dX8_layWord_91 (Nat.le_of_ble_eq_true rfl) rfl ?_
        refine r_le [some (.ref 43), none, none, none, some (.int a4), some (.int ((a3 * 10) + a4)), some (.int (a3 + (μ.1 15 a4.toNatClampNeg))), some (.int 0), none] ⟨rfl, ⟨rfl, ⟨rfl, ⟨rfl, ⟨rfl, trivial⟩⟩⟩⟩⟩ ?_
        obtain ⟨x3, hx0, h⟩ := kbG_bind h
        refine lpR_SP_layWord_93 n a4 ((a3 * 10) + a4) (a3 + (μ.1 15 a4.toNatClampNeg)) (P := fun z => x3 = z) (hx := fun z e => ?_) n _ _ ⟨_, hx0, rfl⟩
        subst e
        exact r_vret rfl dX8_layWord_210 (hr x3 (kbG_some h))
      · replace h := kbG_t hc h
        refine r_aload_n dX8_layWord_73 rfl ?_
        refine r_getR flX8_9 sh43 rfl dX8_layWord_74 ?_
        refine r_iload dX8_layWord_77 rfl ?_
        refine r_lconst 1 dX8_layWord_79 (by decide) ?_
        obtain ⟨hin, h⟩ := kbG_if h
        replace hin := kbIn_of hin
        refine q_last (((a3 * 10) + a4).toNatClampNeg) rfl sh44 hin dX8_layWord_80 ?_
        refine r_aload_n dX8_layWord_81 rfl ?_
        refine r_getR flX8_15 sh43 rfl dX8_layWord_82 ?_
        refine r_iload dX8_layWord_85 rfl ?_
        refine r_iconst 1 dX8_layWord_87 (by decide) ?_
        obtain ⟨hin, h⟩ := kbG_if h
        replace hin := kbIn_of hin
        refine q_iast (((a3 * 10) + a4).toNatClampNeg) rfl sh45 hin dX8_layWord_88 ?_
        exact r_vret rfl dX8_layWord_89 (hr (kbW (kbX (kbW (kbX μ 44 (((a3 * 10) + a4).toNatClampNeg) 0) 45 (((a3 * 10) + a4).toNatClampNeg) 0) 44 (((a3 * 10) + a4).toNatClampNeg) 1) 45 (((a3 * 10) + a4).toNatClampNeg) 1) (kbG_some h))
    · replace h := kbG_f hc h
      refine r_le [none, none, none, none, none, none, none, none, none] trivial ?_
      exact jnR_SP_layWord_66 n  (kbW (kbX μ 44 (((a3 * 10) + a4).toNatClampNeg) 0) 45 (((a3 * 10) + a4).toNatClampNeg) 0) (hr := hr) h
def lp_SP_lay_14 (n : Nat) (v1 : Int32) (v2 : Int32) (v3 : Int32) : Nat → Int32 → kbM → Option (kbM)
  | 0, _, _ => none
  | k + 1, v4, μ =>
    if (μ.1 13 4) ≤ v4 then
      some μ
    else
      (f_SP_layWord n v1 v2 v3 v4 μ).bind fun x2 =>
      lp_SP_lay_14 n v1 v2 v3 k (v4 + 1) x2
theorem lpR_SP_lay_14 {l : Launch} (n : Nat) (v1 : Int32) (v2 : Int32) (v3 : Int32)  {Q : kbQt} {P : kbM → Prop} (hx : ∀ z : kbM, P (z) → kbR l MX8_lay 5 Q 41 [some (.ref 43), some (.int v1), some (.int v2), some (.int v3), none] [] z) : ∀ (k : Nat) (v4 : Int32) (μ : kbM), kbG (lp_SP_lay_14 n v1 v2 v3 k v4 μ) P → kbR l MX8_lay 5 Q 14 [some (.ref 43), some (.int v1), some (.int v2), some (.int v3), some (.int v4)] [] μ := by
  intro k
  induction k with
  | zero => intro v4 μ h; exact absurd h kbG_none
  | succ k ih =>
    intro v4 μ h
    unfold lp_SP_lay_14 at h
    refine r_iload dX8_lay_14 rfl ?_
    refine r_aload_n dX8_lay_16 rfl ?_
    refine r_getR flX8_25 sh43 rfl dX8_lay_17 ?_
    refine r_getI flX8_39 sh13 rfl dX8_lay_20 ?_
    refine r_icmp_ge 41 dX8_lay_23 (by decide) (fun hc => ?_) (fun hc => ?_)
    · replace h := kbG_t hc h
      refine r_le [some (.ref 43), some (.int v1), some (.int v2), some (.int v3), none] ⟨rfl, ⟨rfl, ⟨rfl, ⟨rfl, trivial⟩⟩⟩⟩ ?_
      exact hx μ (kbG_some h)
    · replace h := kbG_f hc h
      refine r_aload_n dX8_lay_26 rfl ?_
      refine r_iload_n dX8_lay_27 rfl ?_
      refine r_iload_n dX8_lay_28 rfl ?_
      refine r_iload_n dX8_lay_29 rfl ?_
      refine r_iload dX8_lay_30 rfl ?_
      obtain ⟨x2, hx0, h⟩ := kbG_bind h
      refine r_invV_v cvX8_45 sh43 rfl (sp_SP_layWord n v1 v2 v3 v4 μ hx0) rfl rfl (Nat.le_of_ble_eq_true rfl) (Nat.le_of_ble_eq_true rfl) dX8_lay_32 ?_
      refine r_iinc 1 dX8_lay_35 rfl (by decide) (Nat.le_of_ble_eq_true rfl) rfl ?_
      refine r_goto 14 dX8_lay_38 (by decide) ?_
      refine r_le [some (.ref 43), some (.int v1), some (.int v2), some (.int v3), some (.int (v4 + 1))] ⟨rfl, ⟨rfl, ⟨rfl, ⟨rfl, ⟨rfl, trivial⟩⟩⟩⟩⟩ ?_
      exact ih (v4 + 1) x2 h
def lp_SP_lay_7 (n : Nat) (v1 : Int32) (v2 : Int32) : Nat → Int32 → kbM → Option (kbM)
  | 0, _, _ => none
  | k + 1, v3, μ =>
    if v3 < 0 then
      some μ
    else
      (lp_SP_lay_14 n v1 v2 v3 n 0 μ).bind fun x3 =>
      lp_SP_lay_7 n v1 v2 k (v3 + (-1)) x3
theorem lpR_SP_lay_7 {l : Launch} (n : Nat) (v1 : Int32) (v2 : Int32)  {Q : kbQt} {P : kbM → Prop} (hx : ∀ z : kbM, P (z) → kbR l MX8_lay 5 Q 47 [none, none, none, none, none] [] z) : ∀ (k : Nat) (v3 : Int32) (μ : kbM), kbG (lp_SP_lay_7 n v1 v2 k v3 μ) P → kbR l MX8_lay 5 Q 7 [some (.ref 43), some (.int v1), some (.int v2), some (.int v3), none] [] μ := by
  intro k
  induction k with
  | zero => intro v3 μ h; exact absurd h kbG_none
  | succ k ih =>
    intro v3 μ h
    unfold lp_SP_lay_7 at h
    refine r_iload_n dX8_lay_7 rfl ?_
    refine r_if_lt 47 dX8_lay_8 (by decide) (fun hc => ?_) (fun hc => ?_)
    · replace h := kbG_t hc h
      refine r_le [none, none, none, none, none] trivial ?_
      exact hx μ (kbG_some h)
    · replace h := kbG_f hc h
      refine r_iconst 0 dX8_lay_11 (by decide) ?_
      refine r_istore dX8_lay_12 (Nat.le_of_ble_eq_true rfl) rfl ?_
      refine r_le [some (.ref 43), some (.int v1), some (.int v2), some (.int v3), some (.int 0)] ⟨rfl, ⟨rfl, ⟨rfl, ⟨rfl, ⟨rfl, trivial⟩⟩⟩⟩⟩ ?_
      obtain ⟨x3, hx0, h⟩ := kbG_bind h
      refine lpR_SP_lay_14 n v1 v2 v3 (P := fun z => x3 = z) (hx := fun z e => ?_) n _ _ ⟨_, hx0, rfl⟩
      subst e
      refine r_iinc (-1) dX8_lay_41 rfl (by decide) (Nat.le_of_ble_eq_true rfl) rfl ?_
      refine r_goto 7 dX8_lay_44 (by decide) ?_
      refine r_le [some (.ref 43), some (.int v1), some (.int v2), some (.int (v3 + (-1))), none] ⟨rfl, ⟨rfl, ⟨rfl, ⟨rfl, trivial⟩⟩⟩⟩ ?_
      exact ih (v3 + (-1)) x3 h
def f_SP_lay (n : Nat) (a1 : Int32) (μ : kbM) : Option (kbM) :=
  (f_RO_size n a1).bind fun x1 =>
  (lp_SP_lay_7 n a1 x1 n x1 μ).bind fun x4 =>
  some x4
theorem sp_SP_lay {l : Launch} (n : Nat) (a1 : Int32) (μ : kbM)  {x : kbM} (h : f_SP_lay n a1 μ = some x) : kbS l MX8_lay 5 [.ref 43, .int a1] μ (kbQe none x) := by
  refine kb_enter 3 rfl rfl ?_
  suffices H : ∀ (Q : kbQt) (P : kbM → Prop), (∀ z : kbM, P z → Q none z) → kbG (f_SP_lay n a1 μ) P → kbR l MX8_lay 5 Q 0 [some (.ref 43), some (.int a1), none, none, none] [] μ from H _ (fun z => z = x) (fun z e => by subst e; exact ⟨rfl, rfl⟩) ⟨x, h, rfl⟩
  clear h
  intro Q P hr h
  unfold f_SP_lay at h
  refine r_iload_n dX8_lay_0 rfl ?_
  obtain ⟨x1, hx0, h⟩ := kbG_bind h
  refine r_inv_i csX8_33 (sp_RO_size n a1 μ hx0) rfl rfl (Nat.le_of_ble_eq_true rfl) (Nat.le_of_ble_eq_true rfl) dX8_lay_1 ?_
  refine r_istore_n dX8_lay_4 (Nat.le_of_ble_eq_true rfl) rfl ?_
  refine r_iload_n dX8_lay_5 rfl ?_
  refine r_istore_n dX8_lay_6 (Nat.le_of_ble_eq_true rfl) rfl ?_
  refine r_le [some (.ref 43), some (.int a1), some (.int x1), some (.int x1), none] ⟨rfl, ⟨rfl, ⟨rfl, ⟨rfl, trivial⟩⟩⟩⟩ ?_
  obtain ⟨x4, hx0, h⟩ := kbG_bind h
  refine lpR_SP_lay_7 n a1 x1 (P := fun z => x4 = z) (hx := fun z e => ?_) n _ _ ⟨_, hx0, rfl⟩
  subst e
  exact r_vret rfl dX8_lay_47 (hr x4 (kbG_some h))
def lp_SP_waysLaid_4 (n : Nat) (μ : kbM) : Nat → Int64 → Int32 → Option (Int64)
  | 0, _, _ => none
  | k + 1, v1, v3 =>
    if (μ.1 13 4) ≤ v3 then
      some v1
    else
      kbIf (kbIn v3 130) <|
      lp_SP_waysLaid_4 n μ k (v1 + (μ.2 44 v3.toNatClampNeg)) (v3 + 1)
theorem lpR_SP_waysLaid_4 {l : Launch} (n : Nat) (μ : kbM)  {Q : kbQt} {P : Int64 → Prop} (hx : ∀ z : Int64, P (z) → kbR l MX8_waysLaid 1 Q 30 [none, some (.long z), none, none] [] μ) : ∀ (k : Nat) (v1 : Int64) (v3 : Int32), kbG (lp_SP_waysLaid_4 n μ k v1 v3) P → kbR l MX8_waysLaid 1 Q 4 [some (.ref 43), some (.long v1), none, some (.int v3)] [] μ := by
  intro k
  induction k with
  | zero => intro v1 v3 h; exact absurd h kbG_none
  | succ k ih =>
    intro v1 v3 h
    unfold lp_SP_waysLaid_4 at h
    refine r_iload_n dX8_waysLaid_4 rfl ?_
    refine r_aload_n dX8_waysLaid_5 rfl ?_
    refine r_getR flX8_25 sh43 rfl dX8_waysLaid_6 ?_
    refine r_getI flX8_39 sh13 rfl dX8_waysLaid_9 ?_
    refine r_icmp_ge 30 dX8_waysLaid_12 (by decide) (fun hc => ?_) (fun hc => ?_)
    · replace h := kbG_t hc h
      refine r_le [none, some (.long v1), none, none] ⟨rfl, trivial⟩ ?_
      exact hx v1 (kbG_some h)
    · replace h := kbG_f hc h
      refine r_lload_n dX8_waysLaid_15 rfl ?_
      refine r_aload_n dX8_waysLaid_16 rfl ?_
      refine r_getR flX8_9 sh43 rfl dX8_waysLaid_17 ?_
      refine r_iload_n dX8_waysLaid_20 rfl ?_
      obtain ⟨hin, h⟩ := kbG_if h
      replace hin := kbIn_of hin
      refine q_lald v3.toNatClampNeg rfl sh44 hin dX8_waysLaid_21 ?_
      refine r_ladd dX8_waysLaid_22 ?_
      refine r_lstore_n dX8_waysLaid_23 (Nat.le_of_ble_eq_true rfl) rfl ?_
      refine r_iinc 1 dX8_waysLaid_24 rfl (by decide) (Nat.le_of_ble_eq_true rfl) rfl ?_
      refine r_goto 4 dX8_waysLaid_27 (by decide) ?_
      refine r_le [some (.ref 43), some (.long (v1 + (μ.2 44 v3.toNatClampNeg))), none, some (.int (v3 + 1))] ⟨rfl, ⟨rfl, ⟨rfl, trivial⟩⟩⟩ ?_
      exact ih (v1 + (μ.2 44 v3.toNatClampNeg)) (v3 + 1) h
def f_SP_waysLaid (n : Nat) (μ : kbM) : Option (Int64) :=
  (lp_SP_waysLaid_4 n μ n 0 0).bind fun x1 =>
  some x1
theorem sp_SP_waysLaid {l : Launch} (n : Nat) (μ : kbM)  {x : Int64} (h : f_SP_waysLaid n μ = some x) : kbS l MX8_waysLaid 1 [.ref 43] μ (kbQe (some (.long x)) μ) := by
  refine kb_enter 3 rfl rfl ?_
  suffices H : ∀ (Q : kbQt) (P : Int64 → Prop), (∀ z : Int64, P z → Q (some (.long z)) μ) → kbG (f_SP_waysLaid n μ) P → kbR l MX8_waysLaid 1 Q 0 [some (.ref 43), none, none, none] [] μ from H _ (fun z => z = x) (fun z e => by subst e; exact ⟨rfl, rfl⟩) ⟨x, h, rfl⟩
  clear h
  intro Q P hr h
  unfold f_SP_waysLaid at h
  refine r_lconst 0 dX8_waysLaid_0 (by decide) ?_
  refine r_lstore_n dX8_waysLaid_1 (Nat.le_of_ble_eq_true rfl) rfl ?_
  refine r_iconst 0 dX8_waysLaid_2 (by decide) ?_
  refine r_istore_n dX8_waysLaid_3 (Nat.le_of_ble_eq_true rfl) rfl ?_
  refine r_le [some (.ref 43), some (.long 0), none, some (.int 0)] ⟨rfl, ⟨rfl, ⟨rfl, trivial⟩⟩⟩ ?_
  obtain ⟨x1, hx0, h⟩ := kbG_bind h
  refine lpR_SP_waysLaid_4 n μ (P := fun z => x1 = z) (hx := fun z e => ?_) n _ _ ⟨_, hx0, rfl⟩
  subst e
  refine r_lload_n dX8_waysLaid_30 rfl ?_
  exact r_lret rfl dX8_waysLaid_31 (hr x1 (kbG_some h))
def jn_SP_fewestLaid_45 (n : Nat) (rec : Int32 → Int32 → Option (Int32)) (v1 : Int32) (v2 : Int32) (μ : kbM) : Option (Int32) :=
  rec v1 (v2 + 1)
theorem jnR_SP_fewestLaid_45 {l : Launch} (n : Nat)   (v1 : Int32) (v2 : Int32) (μ : kbM) {Q : kbQt} {P : Int32 → Prop} (hx : ∀ z : Int32, P (z) → kbR l MX8_fewestLaid 1 Q 51 [none, some (.int z), none] [] μ) {rec : Int32 → Int32 → Option (Int32)} (hrec : ∀ (v1 : Int32) (v2 : Int32), kbG (rec v1 v2) P → kbR l MX8_fewestLaid 1 Q 4 [some (.ref 43), some (.int v1), some (.int v2)] [] μ) (h : kbG (jn_SP_fewestLaid_45 n rec v1 v2 μ) P) : kbR l MX8_fewestLaid 1 Q 45 [some (.ref 43), some (.int v1), some (.int v2)] [] μ := by
  unfold jn_SP_fewestLaid_45 at h
  refine r_iinc 1 dX8_fewestLaid_45 rfl (by decide) (Nat.le_of_ble_eq_true rfl) rfl ?_
  refine r_goto 4 dX8_fewestLaid_48 (by decide) ?_
  refine r_le [some (.ref 43), some (.int v1), some (.int (v2 + 1))] ⟨rfl, ⟨rfl, ⟨rfl, trivial⟩⟩⟩ ?_
  exact hrec v1 (v2 + 1) h
def jn_SP_fewestLaid_38 (n : Nat) (rec : Int32 → Int32 → Option (Int32)) (v2 : Int32) (μ : kbM) : Option (Int32) :=
  kbIf (kbIn v2 130) <|
  jn_SP_fewestLaid_45 n rec (μ.1 45 v2.toNatClampNeg) v2 μ
theorem jnR_SP_fewestLaid_38 {l : Launch} (n : Nat)   (v2 : Int32) (μ : kbM) {Q : kbQt} {P : Int32 → Prop} (hx : ∀ z : Int32, P (z) → kbR l MX8_fewestLaid 1 Q 51 [none, some (.int z), none] [] μ) {rec : Int32 → Int32 → Option (Int32)} (hrec : ∀ (v1 : Int32) (v2 : Int32), kbG (rec v1 v2) P → kbR l MX8_fewestLaid 1 Q 4 [some (.ref 43), some (.int v1), some (.int v2)] [] μ) (h : kbG (jn_SP_fewestLaid_38 n rec v2 μ) P) : kbR l MX8_fewestLaid 1 Q 38 [some (.ref 43), none, some (.int v2)] [] μ := by
  unfold jn_SP_fewestLaid_38 at h
  refine r_aload_n dX8_fewestLaid_38 rfl ?_
  refine r_getR flX8_15 sh43 rfl dX8_fewestLaid_39 ?_
  refine r_iload_n dX8_fewestLaid_42 rfl ?_
  obtain ⟨hin, h⟩ := kbG_if h
  replace hin := kbIn_of hin
  refine q_iald v2.toNatClampNeg rfl sh45 hin dX8_fewestLaid_43 ?_
  refine r_istore_n dX8_fewestLaid_44 (Nat.le_of_ble_eq_true rfl) rfl ?_
  refine r_le [some (.ref 43), some (.int (μ.1 45 v2.toNatClampNeg)), some (.int v2)] ⟨rfl, ⟨rfl, ⟨rfl, trivial⟩⟩⟩ ?_
  exact jnR_SP_fewestLaid_45 n (μ.1 45 v2.toNatClampNeg) v2 μ (hx := hx) (hrec := hrec) h
def lp_SP_fewestLaid_4 (n : Nat) (μ : kbM) : Nat → Int32 → Int32 → Option (Int32)
  | 0, _, _ => none
  | k + 1, v1, v2 =>
    if (μ.1 13 4) ≤ v2 then
      some v1
    else
      kbIf (kbIn v2 130) <|
      if (μ.1 45 v2.toNatClampNeg) ≤ 0 then
        jn_SP_fewestLaid_45 n (lp_SP_fewestLaid_4 n μ k) v1 v2 μ
      else
        if v1 = 0 then
          jn_SP_fewestLaid_38 n (lp_SP_fewestLaid_4 n μ k) v2 μ
        else
          kbIf (kbIn v2 130) <|
          if v1 ≤ (μ.1 45 v2.toNatClampNeg) then
            jn_SP_fewestLaid_45 n (lp_SP_fewestLaid_4 n μ k) v1 v2 μ
          else
            jn_SP_fewestLaid_38 n (lp_SP_fewestLaid_4 n μ k) v2 μ
theorem lpR_SP_fewestLaid_4 {l : Launch} (n : Nat) (μ : kbM)  {Q : kbQt} {P : Int32 → Prop} (hx : ∀ z : Int32, P (z) → kbR l MX8_fewestLaid 1 Q 51 [none, some (.int z), none] [] μ) : ∀ (k : Nat) (v1 : Int32) (v2 : Int32), kbG (lp_SP_fewestLaid_4 n μ k v1 v2) P → kbR l MX8_fewestLaid 1 Q 4 [some (.ref 43), some (.int v1), some (.int v2)] [] μ := by
  intro k
  induction k with
  | zero => intro v1 v2 h; exact absurd h kbG_none
  | succ k ih =>
    intro v1 v2 h
    unfold lp_SP_fewestLaid_4 at h
    refine r_iload_n dX8_fewestLaid_4 rfl ?_
    refine r_aload_n dX8_fewestLaid_5 rfl ?_
    refine r_getR flX8_25 sh43 rfl dX8_fewestLaid_6 ?_
    refine r_getI flX8_39 sh13 rfl dX8_fewestLaid_9 ?_
    refine r_icmp_ge 51 dX8_fewestLaid_12 (by decide) (fun hc => ?_) (fun hc => ?_)
    · replace h := kbG_t hc h
      refine r_le [none, some (.int v1), none] ⟨rfl, trivial⟩ ?_
      exact hx v1 (kbG_some h)
    · replace h := kbG_f hc h
      refine r_aload_n dX8_fewestLaid_15 rfl ?_
      refine r_getR flX8_15 sh43 rfl dX8_fewestLaid_16 ?_
      refine r_iload_n dX8_fewestLaid_19 rfl ?_
      obtain ⟨hin, h⟩ := kbG_if h
      replace hin := kbIn_of hin
      refine q_iald v2.toNatClampNeg rfl sh45 hin dX8_fewestLaid_20 ?_
      refine r_if_le 45 dX8_fewestLaid_21 (by decide) (fun hc => ?_) (fun hc => ?_)
      · replace h := kbG_t hc h
        refine r_le [some (.ref 43), some (.int v1), some (.int v2)] ⟨rfl, ⟨rfl, ⟨rfl, trivial⟩⟩⟩ ?_
        exact jnR_SP_fewestLaid_45 n v1 v2 μ (hx := hx) (hrec := ih) h
      · replace h := kbG_f hc h
        refine r_iload_n dX8_fewestLaid_24 rfl ?_
        refine r_if_eq 38 dX8_fewestLaid_25 (by decide) (fun hc => ?_) (fun hc => ?_)
        · replace h := kbG_t hc h
          refine r_le [some (.ref 43), none, some (.int v2)] ⟨rfl, ⟨rfl, trivial⟩⟩ ?_
          exact jnR_SP_fewestLaid_38 n v2 μ (hx := hx) (hrec := ih) h
        · replace h := kbG_f hc h
          refine r_aload_n dX8_fewestLaid_28 rfl ?_
          refine r_getR flX8_15 sh43 rfl dX8_fewestLaid_29 ?_
          refine r_iload_n dX8_fewestLaid_32 rfl ?_
          obtain ⟨hin, h⟩ := kbG_if h
          replace hin := kbIn_of hin
          refine q_iald v2.toNatClampNeg rfl sh45 hin dX8_fewestLaid_33 ?_
          refine r_iload_n dX8_fewestLaid_34 rfl ?_
          refine r_icmp_ge 45 dX8_fewestLaid_35 (by decide) (fun hc => ?_) (fun hc => ?_)
          · replace h := kbG_t hc h
            refine r_le [some (.ref 43), some (.int v1), some (.int v2)] ⟨rfl, ⟨rfl, ⟨rfl, trivial⟩⟩⟩ ?_
            exact jnR_SP_fewestLaid_45 n v1 v2 μ (hx := hx) (hrec := ih) h
          · replace h := kbG_f hc h
            refine r_le [some (.ref 43), none, some (.int v2)] ⟨rfl, ⟨rfl, trivial⟩⟩ ?_
            exact jnR_SP_fewestLaid_38 n v2 μ (hx := hx) (hrec := ih) h
def f_SP_fewestLaid (n : Nat) (μ : kbM) : Option (Int32) :=
  (lp_SP_fewestLaid_4 n μ n 0 0).bind fun x1 =>
  some x1
theorem sp_SP_fewestLaid {l : Launch} (n : Nat) (μ : kbM)  {x : Int32} (h : f_SP_fewestLaid n μ = some x) : kbS l MX8_fewestLaid 1 [.ref 43] μ (kbQe (some (.int x)) μ) := by
  refine kb_enter 2 rfl rfl ?_
  suffices H : ∀ (Q : kbQt) (P : Int32 → Prop), (∀ z : Int32, P z → Q (some (.int z)) μ) → kbG (f_SP_fewestLaid n μ) P → kbR l MX8_fewestLaid 1 Q 0 [some (.ref 43), none, none] [] μ from H _ (fun z => z = x) (fun z e => by subst e; exact ⟨rfl, rfl⟩) ⟨x, h, rfl⟩
  clear h
  intro Q P hr h
  unfold f_SP_fewestLaid at h
  refine r_iconst 0 dX8_fewestLaid_0 (by decide) ?_
  refine r_istore_n dX8_fewestLaid_1 (Nat.le_of_ble_eq_true rfl) rfl ?_
  refine r_iconst 0 dX8_fewestLaid_2 (by decide) ?_
  refine r_istore_n dX8_fewestLaid_3 (Nat.le_of_ble_eq_true rfl) rfl ?_
  refine r_le [some (.ref 43), some (.int 0), some (.int 0)] ⟨rfl, ⟨rfl, ⟨rfl, trivial⟩⟩⟩ ?_
  obtain ⟨x1, hx0, h⟩ := kbG_bind h
  refine lpR_SP_fewestLaid_4 n μ (P := fun z => x1 = z) (hx := fun z e => ?_) n _ _ ⟨_, hx0, rfl⟩
  subst e
  refine r_iload_n dX8_fewestLaid_51 rfl ?_
  exact r_iret rfl dX8_fewestLaid_52 (hr x1 (kbG_some h))
def jn_SP_firstLaid_70 (n : Nat) (rec : Int32 → kbM → Option ((Int32 × kbM) ⊕ (kbM))) (v1 : Int32) (v2 : Int32) (v3 : Int32) (v4 : Int32) (μ : kbM) : Option ((Int32 × kbM) ⊕ (kbM)) :=
  rec (v4 + 1) μ
theorem jnR_SP_firstLaid_70 {l : Launch} (n : Nat)   (v1 : Int32) (v2 : Int32) (v3 : Int32) (v4 : Int32) (μ : kbM) {Q : kbQt} {P : (Int32 × kbM) ⊕ (kbM) → Prop} (hr : ∀ z : Int32 × kbM, P (.inl z) → Q (some (.int z.1)) z.2) (hx : ∀ z : kbM, P (.inr z) → kbR l MX8_firstLaid 4 Q 76 [none, none, none, none, none, none] [] z) {rec : Int32 → kbM → Option ((Int32 × kbM) ⊕ (kbM))} (hrec : ∀ (v4 : Int32) (μ : kbM), kbG (rec v4 μ) P → kbR l MX8_firstLaid 4 Q 3 [some (.ref 43), some (.int v1), some (.int v2), some (.int v3), some (.int v4), none] [] μ) (h : kbG (jn_SP_firstLaid_70 n rec v1 v2 v3 v4 μ) P) : kbR l MX8_firstLaid 4 Q 70 [some (.ref 43), some (.int v1), some (.int v2), some (.int v3), some (.int v4), none] [] μ := by
  unfold jn_SP_firstLaid_70 at h
  refine r_iinc 1 dX8_firstLaid_70 rfl (by decide) (Nat.le_of_ble_eq_true rfl) rfl ?_
  refine r_goto 3 dX8_firstLaid_73 (by decide) ?_
  refine r_le [some (.ref 43), some (.int v1), some (.int v2), some (.int v3), some (.int (v4 + 1)), none] ⟨rfl, ⟨rfl, ⟨rfl, ⟨rfl, ⟨rfl, trivial⟩⟩⟩⟩⟩ ?_
  exact hrec (v4 + 1) μ h
def jn_SP_firstLaid_67 (n : Nat) (rec : Int32 → kbM → Option ((Int32 × kbM) ⊕ (kbM))) (v4 : Int32) (μ : kbM) : Option ((Int32 × kbM) ⊕ (kbM)) :=
  some (.inl ((v4, μ)))
theorem jnR_SP_firstLaid_67 {l : Launch} (n : Nat)   {v1 : Int32} {v2 : Int32} {v3 : Int32} (v4 : Int32) (μ : kbM) {Q : kbQt} {P : (Int32 × kbM) ⊕ (kbM) → Prop} (hr : ∀ z : Int32 × kbM, P (.inl z) → Q (some (.int z.1)) z.2) (hx : ∀ z : kbM, P (.inr z) → kbR l MX8_firstLaid 4 Q 76 [none, none, none, none, none, none] [] z) {rec : Int32 → kbM → Option ((Int32 × kbM) ⊕ (kbM))} (hrec : ∀ (v4 : Int32) (μ : kbM), kbG (rec v4 μ) P → kbR l MX8_firstLaid 4 Q 3 [some (.ref 43), some (.int v1), some (.int v2), some (.int v3), some (.int v4), none] [] μ) (h : kbG (jn_SP_firstLaid_67 n rec v4 μ) P) : kbR l MX8_firstLaid 4 Q 67 [none, none, none, none, some (.int v4), none] [] μ := by
  unfold jn_SP_firstLaid_67 at h
  refine r_iload dX8_firstLaid_67 rfl ?_
  exact r_iret rfl dX8_firstLaid_69 (hr ((v4, μ)) (kbG_some h))
def jn_SP_firstLaid_42 (n : Nat) (rec : Int32 → kbM → Option ((Int32 × kbM) ⊕ (kbM))) (v1 : Int32) (v2 : Int32) (v3 : Int32) (v4 : Int32) (w0 : Int32) (μ : kbM) : Option ((Int32 × kbM) ⊕ (kbM)) :=
  if w0 = 0 then
    jn_SP_firstLaid_70 n rec v1 v2 v3 v4 μ
  else
    if v2 = (-1) then
      jn_SP_firstLaid_67 n rec v4 μ
    else
      (f_JO_mayFollow n v2 v4 μ).bind fun x1 =>
      if x1.1 = 0 then
        jn_SP_firstLaid_70 n rec v1 v2 v3 v4 x1.2
      else
        jn_SP_firstLaid_67 n rec v4 x1.2
theorem jnR_SP_firstLaid_42 {l : Launch} (n : Nat)   (v1 : Int32) (v2 : Int32) (v3 : Int32) (v4 : Int32) (w0 : Int32) (μ : kbM) {Q : kbQt} {P : (Int32 × kbM) ⊕ (kbM) → Prop} (hr : ∀ z : Int32 × kbM, P (.inl z) → Q (some (.int z.1)) z.2) (hx : ∀ z : kbM, P (.inr z) → kbR l MX8_firstLaid 4 Q 76 [none, none, none, none, none, none] [] z) {rec : Int32 → kbM → Option ((Int32 × kbM) ⊕ (kbM))} (hrec : ∀ (v4 : Int32) (μ : kbM), kbG (rec v4 μ) P → kbR l MX8_firstLaid 4 Q 3 [some (.ref 43), some (.int v1), some (.int v2), some (.int v3), some (.int v4), none] [] μ) (h : kbG (jn_SP_firstLaid_42 n rec v1 v2 v3 v4 w0 μ) P) : kbR l MX8_firstLaid 4 Q 42 [some (.ref 43), some (.int v1), some (.int v2), some (.int v3), some (.int v4), none] [.int w0] μ := by
  unfold jn_SP_firstLaid_42 at h
  refine r_istore dX8_firstLaid_42 (Nat.le_of_ble_eq_true rfl) rfl ?_
  refine r_iload dX8_firstLaid_44 rfl ?_
  refine r_if_eq 70 dX8_firstLaid_46 (by decide) (fun hc => ?_) (fun hc => ?_)
  · replace h := kbG_t hc h
    refine r_le [some (.ref 43), some (.int v1), some (.int v2), some (.int v3), some (.int v4), none] ⟨rfl, ⟨rfl, ⟨rfl, ⟨rfl, ⟨rfl, trivial⟩⟩⟩⟩⟩ ?_
    exact jnR_SP_firstLaid_70 n v1 v2 v3 v4 μ (hr := hr) (hx := hx) (hrec := hrec) h
  · replace h := kbG_f hc h
    refine r_iload_n dX8_firstLaid_49 rfl ?_
    refine r_iconst (-1) dX8_firstLaid_50 (by decide) ?_
    refine r_icmp_eq 67 dX8_firstLaid_51 (by decide) (fun hc => ?_) (fun hc => ?_)
    · replace h := kbG_t hc h
      refine r_le [none, none, none, none, some (.int v4), none] ⟨rfl, trivial⟩ ?_
      exact jnR_SP_firstLaid_67 n v4 μ (hr := hr) (hx := hx) (hrec := hrec) h
    · replace h := kbG_f hc h
      refine r_aload_n dX8_firstLaid_54 rfl ?_
      refine r_getR flX8_29 sh43 rfl dX8_firstLaid_55 ?_
      refine r_iload_n dX8_firstLaid_58 rfl ?_
      refine r_iload dX8_firstLaid_59 rfl ?_
      obtain ⟨x1, hx0, h⟩ := kbG_bind h
      refine r_invV_i cvX8_58 sh35 rfl (sp_JO_mayFollow n v2 v4 μ hx0) rfl rfl (Nat.le_of_ble_eq_true rfl) (Nat.le_of_ble_eq_true rfl) dX8_firstLaid_61 ?_
      refine r_if_eq 70 dX8_firstLaid_64 (by decide) (fun hc => ?_) (fun hc => ?_)
      · replace h := kbG_t hc h
        refine r_le [some (.ref 43), some (.int v1), some (.int v2), some (.int v3), some (.int v4), none] ⟨rfl, ⟨rfl, ⟨rfl, ⟨rfl, ⟨rfl, trivial⟩⟩⟩⟩⟩ ?_
        exact jnR_SP_firstLaid_70 n v1 v2 v3 v4 x1.2 (hr := hr) (hx := hx) (hrec := hrec) h
      · replace h := kbG_f hc h
        refine r_le [none, none, none, none, some (.int v4), none] ⟨rfl, trivial⟩ ?_
        exact jnR_SP_firstLaid_67 n v4 x1.2 (hr := hr) (hx := hx) (hrec := hrec) h
def lp_SP_firstLaid_3 (n : Nat) (v1 : Int32) (v2 : Int32) (v3 : Int32) : Nat → Int32 → kbM → Option ((Int32 × kbM) ⊕ (kbM))
  | 0, _, _ => none
  | k + 1, v4, μ =>
    if 12 < v1 then
      some (.inr μ)
    else
      if (μ.1 13 4) ≤ v4 then
        some (.inr μ)
      else
        kbIf (kbIn ((v1 * 10) + v4) 130) <|
        if (μ.1 45 (((v1 * 10) + v4).toNatClampNeg)) = v3 then
          jn_SP_firstLaid_42 n (lp_SP_firstLaid_3 n v1 v2 v3 k) v1 v2 v3 v4 1 μ
        else
          jn_SP_firstLaid_42 n (lp_SP_firstLaid_3 n v1 v2 v3 k) v1 v2 v3 v4 0 μ
theorem lpR_SP_firstLaid_3 {l : Launch} (n : Nat) (v1 : Int32) (v2 : Int32) (v3 : Int32)  {Q : kbQt} {P : (Int32 × kbM) ⊕ (kbM) → Prop} (hr : ∀ z : Int32 × kbM, P (.inl z) → Q (some (.int z.1)) z.2) (hx : ∀ z : kbM, P (.inr z) → kbR l MX8_firstLaid 4 Q 76 [none, none, none, none, none, none] [] z) : ∀ (k : Nat) (v4 : Int32) (μ : kbM), kbG (lp_SP_firstLaid_3 n v1 v2 v3 k v4 μ) P → kbR l MX8_firstLaid 4 Q 3 [some (.ref 43), some (.int v1), some (.int v2), some (.int v3), some (.int v4), none] [] μ := by
  intro k
  induction k with
  | zero => intro v4 μ h; exact absurd h kbG_none
  | succ k ih =>
    intro v4 μ h
    unfold lp_SP_firstLaid_3 at h
    refine r_iload_n dX8_firstLaid_3 rfl ?_
    refine r_bipush 12 dX8_firstLaid_4 (by decide) ?_
    refine r_icmp_gt 76 dX8_firstLaid_6 (by decide) (fun hc => ?_) (fun hc => ?_)
    · replace h := kbG_t hc h
      refine r_le [none, none, none, none, none, none] trivial ?_
      exact hx μ (kbG_some h)
    · replace h := kbG_f hc h
      refine r_iload dX8_firstLaid_9 rfl ?_
      refine r_aload_n dX8_firstLaid_11 rfl ?_
      refine r_getR flX8_25 sh43 rfl dX8_firstLaid_12 ?_
      refine r_getI flX8_39 sh13 rfl dX8_firstLaid_15 ?_
      refine r_icmp_ge 76 dX8_firstLaid_18 (by decide) (fun hc => ?_) (fun hc => ?_)
      · replace h := kbG_t hc h
        refine r_le [none, none, none, none, none, none] trivial ?_
        exact hx μ (kbG_some h)
      · replace h := kbG_f hc h
        refine r_aload_n dX8_firstLaid_21 rfl ?_
        refine r_getR flX8_15 sh43 rfl dX8_firstLaid_22 ?_
        refine r_iload_n dX8_firstLaid_25 rfl ?_
        refine r_bipush 10 dX8_firstLaid_26 (by decide) ?_
        refine r_imul dX8_firstLaid_28 ?_
        refine r_iload dX8_firstLaid_29 rfl ?_
        refine r_iadd dX8_firstLaid_31 ?_
        obtain ⟨hin, h⟩ := kbG_if h
        replace hin := kbIn_of hin
        refine q_iald (((v1 * 10) + v4).toNatClampNeg) rfl sh45 hin dX8_firstLaid_32 ?_
        refine r_iload_n dX8_firstLaid_33 rfl ?_
        refine r_icmp_ne 41 dX8_firstLaid_34 (by decide) (fun hc => ?_) (fun hc => ?_)
        · replace h := kbG_f hc h
          refine r_iconst 0 dX8_firstLaid_41 (by decide) ?_
          refine r_le [some (.ref 43), some (.int v1), some (.int v2), some (.int v3), some (.int v4), none] ⟨rfl, ⟨rfl, ⟨rfl, ⟨rfl, ⟨rfl, trivial⟩⟩⟩⟩⟩ ?_
          exact jnR_SP_firstLaid_42 n v1 v2 v3 v4 0 μ (hr := hr) (hx := hx) (hrec := ih) h
        · replace h := kbG_t hc h
          refine r_iconst 1 dX8_firstLaid_37 (by decide) ?_
          refine r_goto 42 dX8_firstLaid_38 (by decide) ?_
          refine r_le [some (.ref 43), some (.int v1), some (.int v2), some (.int v3), some (.int v4), none] ⟨rfl, ⟨rfl, ⟨rfl, ⟨rfl, ⟨rfl, trivial⟩⟩⟩⟩⟩ ?_
          exact jnR_SP_firstLaid_42 n v1 v2 v3 v4 1 μ (hr := hr) (hx := hx) (hrec := ih) h
def jn_SP_firstLaid_76 (n : Nat) (μ : kbM) : Option (Int32 × kbM) :=
  some (((-1), μ))
theorem jnR_SP_firstLaid_76 {l : Launch} (n : Nat)    (μ : kbM) {Q : kbQt} {P : Int32 × kbM → Prop} (hr : ∀ z : Int32 × kbM, P z → Q (some (.int z.1)) z.2) (h : kbG (jn_SP_firstLaid_76 n μ) P) : kbR l MX8_firstLaid 4 Q 76 [none, none, none, none, none, none] [] μ := by
  unfold jn_SP_firstLaid_76 at h
  refine r_iconst (-1) dX8_firstLaid_76 (by decide) ?_
  exact r_iret rfl dX8_firstLaid_77 (hr (((-1), μ)) (kbG_some h))
def f_SP_firstLaid (n : Nat) (a1 : Int32) (a2 : Int32) (a3 : Int32) (μ : kbM) : Option (Int32 × kbM) :=
  kbOr (lp_SP_firstLaid_3 n a1 a2 a3 n 0 μ) (fun r3 => some r3) fun x2 =>
  jn_SP_firstLaid_76 n x2
theorem sp_SP_firstLaid {l : Launch} (n : Nat) (a1 : Int32) (a2 : Int32) (a3 : Int32) (μ : kbM)  {x : Int32 × kbM} (h : f_SP_firstLaid n a1 a2 a3 μ = some x) : kbS l MX8_firstLaid 4 [.ref 43, .int a1, .int a2, .int a3] μ (kbQe (some (.int x.1)) x.2) := by
  refine kb_enter 2 rfl rfl ?_
  suffices H : ∀ (Q : kbQt) (P : Int32 × kbM → Prop), (∀ z : Int32 × kbM, P z → Q (some (.int z.1)) z.2) → kbG (f_SP_firstLaid n a1 a2 a3 μ) P → kbR l MX8_firstLaid 4 Q 0 [some (.ref 43), some (.int a1), some (.int a2), some (.int a3), none, none] [] μ from H _ (fun z => z = x) (fun z e => by subst e; exact ⟨rfl, rfl⟩) ⟨x, h, rfl⟩
  clear h
  intro Q P hr h
  unfold f_SP_firstLaid at h
  refine r_iconst 0 dX8_firstLaid_0 (by decide) ?_
  refine r_istore dX8_firstLaid_1 (Nat.le_of_ble_eq_true rfl) rfl ?_
  refine r_le [some (.ref 43), some (.int a1), some (.int a2), some (.int a3), some (.int 0), none] ⟨rfl, ⟨rfl, ⟨rfl, ⟨rfl, ⟨rfl, trivial⟩⟩⟩⟩⟩ ?_
  rcases kbG_or h with ⟨r3, hx0, h⟩ | ⟨x2, hx0, h⟩
  · exact lpR_SP_firstLaid_3 n a1 a2 a3 (P := fun z => .inl r3 = z) (hr := fun z e => by cases e; exact hr _ (kbG_some h)) (hx := fun z e => by cases e) n _ _ ⟨_, hx0, rfl⟩
  · refine lpR_SP_firstLaid_3 n a1 a2 a3 (P := fun z => .inr x2 = z) (hr := fun z e => by cases e) (hx := fun z e => ?_) n _ _ ⟨_, hx0, rfl⟩
    cases e
    refine r_le [none, none, none, none, none, none] trivial ?_
    exact jnR_SP_firstLaid_76 n  x2 (hr := hr) h
def lp_SP_wordLaid_13 (n : Nat) (v1 : Int32) (v2 : Int32) : Nat → Int32 → Int32 → Int32 → kbM → Option ((Int32 × kbM) ⊕ (Int32 × kbM))
  | 0, _, _, _, _ => none
  | k + 1, v3, v4, v5, μ =>
    if v1 < v5 then
      some (.inr ((v4, μ)))
    else
      if 12 ≤ v5 then
        some (.inr ((v4, μ)))
      else
        (f_SP_firstLaid n v3 v4 (v2 - v5) μ).bind fun x2 =>
        if x2.1 = (-1) then
          some (.inl (((-1), x2.2)))
        else
          kbIf (kbIn x2.1 10) <|
          lp_SP_wordLaid_13 n v1 v2 k (v3 + (x2.2.1 15 x2.1.toNatClampNeg)) x2.1 (v5 + 1) x2.2
theorem lpR_SP_wordLaid_13 {l : Launch} (n : Nat) (v1 : Int32) (v2 : Int32)  {Q : kbQt} {P : (Int32 × kbM) ⊕ (Int32 × kbM) → Prop} (hr : ∀ z : Int32 × kbM, P (.inl z) → Q (some (.int z.1)) z.2) (hx : ∀ z : Int32 × kbM, P (.inr z) → kbR l MX8_wordLaid 5 Q 66 [none, none, none, none, some (.int z.1), none] [] z.2) : ∀ (k : Nat) (v3 : Int32) (v4 : Int32) (v5 : Int32) (μ : kbM), kbG (lp_SP_wordLaid_13 n v1 v2 k v3 v4 v5 μ) P → kbR l MX8_wordLaid 5 Q 13 [some (.ref 43), some (.int v1), some (.int v2), some (.int v3), some (.int v4), some (.int v5)] [] μ := by
  intro k
  induction k with
  | zero => intro v3 v4 v5 μ h; exact absurd h kbG_none
  | succ k ih =>
    intro v3 v4 v5 μ h
    unfold lp_SP_wordLaid_13 at h
    refine r_iload dX8_wordLaid_13 rfl ?_
    refine r_iload_n dX8_wordLaid_15 rfl ?_
    refine r_icmp_gt 66 dX8_wordLaid_16 (by decide) (fun hc => ?_) (fun hc => ?_)
    · replace h := kbG_t hc h
      refine r_le [none, none, none, none, some (.int v4), none] ⟨rfl, trivial⟩ ?_
      exact hx ((v4, μ)) (kbG_some h)
    · replace h := kbG_f hc h
      refine r_iload dX8_wordLaid_19 rfl ?_
      refine r_bipush 12 dX8_wordLaid_21 (by decide) ?_
      refine r_icmp_ge 66 dX8_wordLaid_23 (by decide) (fun hc => ?_) (fun hc => ?_)
      · replace h := kbG_t hc h
        refine r_le [none, none, none, none, some (.int v4), none] ⟨rfl, trivial⟩ ?_
        exact hx ((v4, μ)) (kbG_some h)
      · replace h := kbG_f hc h
        refine r_aload_n dX8_wordLaid_26 rfl ?_
        refine r_iload_n dX8_wordLaid_27 rfl ?_
        refine r_iload dX8_wordLaid_28 rfl ?_
        refine r_iload_n dX8_wordLaid_30 rfl ?_
        refine r_iload dX8_wordLaid_31 rfl ?_
        refine r_isub dX8_wordLaid_33 ?_
        obtain ⟨x2, hx0, h⟩ := kbG_bind h
        refine r_invV_i cvX8_74 sh43 rfl (sp_SP_firstLaid n v3 v4 (v2 - v5) μ hx0) rfl rfl (Nat.le_of_ble_eq_true rfl) (Nat.le_of_ble_eq_true rfl) dX8_wordLaid_34 ?_
        refine r_istore dX8_wordLaid_37 (Nat.le_of_ble_eq_true rfl) rfl ?_
        refine r_iload dX8_wordLaid_39 rfl ?_
        refine r_iconst (-1) dX8_wordLaid_41 (by decide) ?_
        refine r_icmp_ne 47 dX8_wordLaid_42 (by decide) (fun hc => ?_) (fun hc => ?_)
        · replace h := kbG_f hc h
          refine r_iload_n dX8_wordLaid_47 rfl ?_
          refine r_aload_n dX8_wordLaid_48 rfl ?_
          refine r_getR flX8_25 sh43 rfl dX8_wordLaid_49 ?_
          refine r_getR flX8_49 sh13 rfl dX8_wordLaid_52 ?_
          refine r_iload dX8_wordLaid_55 rfl ?_
          obtain ⟨hin, h⟩ := kbG_if h
          replace hin := kbIn_of hin
          refine q_iald x2.1.toNatClampNeg rfl sh15 hin dX8_wordLaid_57 ?_
          refine r_iadd dX8_wordLaid_58 ?_
          refine r_istore_n dX8_wordLaid_59 (Nat.le_of_ble_eq_true rfl) rfl ?_
          refine r_iinc 1 dX8_wordLaid_60 rfl (by decide) (Nat.le_of_ble_eq_true rfl) rfl ?_
          refine r_goto 13 dX8_wordLaid_63 (by decide) ?_
          refine r_le [some (.ref 43), some (.int v1), some (.int v2), some (.int (v3 + (x2.2.1 15 x2.1.toNatClampNeg))), some (.int x2.1), some (.int (v5 + 1))] ⟨rfl, ⟨rfl, ⟨rfl, ⟨rfl, ⟨rfl, ⟨rfl, trivial⟩⟩⟩⟩⟩⟩ ?_
          exact ih (v3 + (x2.2.1 15 x2.1.toNatClampNeg)) x2.1 (v5 + 1) x2.2 h
        · replace h := kbG_t hc h
          refine r_iconst (-1) dX8_wordLaid_45 (by decide) ?_
          exact r_iret rfl dX8_wordLaid_46 (hr (((-1), x2.2)) (kbG_some h))
def jn_SP_wordLaid_66 (n : Nat) (v4 : Int32) (μ : kbM) : Option (Int32 × kbM) :=
  some ((v4, μ))
theorem jnR_SP_wordLaid_66 {l : Launch} (n : Nat)   (v4 : Int32) (μ : kbM) {Q : kbQt} {P : Int32 × kbM → Prop} (hr : ∀ z : Int32 × kbM, P z → Q (some (.int z.1)) z.2) (h : kbG (jn_SP_wordLaid_66 n v4 μ) P) : kbR l MX8_wordLaid 5 Q 66 [none, none, none, none, some (.int v4), none] [] μ := by
  unfold jn_SP_wordLaid_66 at h
  refine r_iload dX8_wordLaid_66 rfl ?_
  exact r_iret rfl dX8_wordLaid_68 (hr ((v4, μ)) (kbG_some h))
def f_SP_wordLaid (n : Nat) (a1 : Int32) (μ : kbM) : Option (Int32 × kbM) :=
  (f_SP_fewestLaid n μ).bind fun x1 =>
  kbOr (lp_SP_wordLaid_13 n a1 x1 n 0 (-1) 0 μ) (fun r4 => some r4) fun x3 =>
  jn_SP_wordLaid_66 n x3.1 x3.2
theorem sp_SP_wordLaid {l : Launch} (n : Nat) (a1 : Int32) (μ : kbM)  {x : Int32 × kbM} (h : f_SP_wordLaid n a1 μ = some x) : kbS l MX8_wordLaid 5 [.ref 43, .int a1] μ (kbQe (some (.int x.1)) x.2) := by
  refine kb_enter 4 rfl rfl ?_
  suffices H : ∀ (Q : kbQt) (P : Int32 × kbM → Prop), (∀ z : Int32 × kbM, P z → Q (some (.int z.1)) z.2) → kbG (f_SP_wordLaid n a1 μ) P → kbR l MX8_wordLaid 5 Q 0 [some (.ref 43), some (.int a1), none, none, none, none] [] μ from H _ (fun z => z = x) (fun z e => by subst e; exact ⟨rfl, rfl⟩) ⟨x, h, rfl⟩
  clear h
  intro Q P hr h
  unfold f_SP_wordLaid at h
  refine r_aload_n dX8_wordLaid_0 rfl ?_
  obtain ⟨x1, hx0, h⟩ := kbG_bind h
  refine r_invV_i cvX8_70 sh43 rfl (sp_SP_fewestLaid n μ hx0) rfl rfl (Nat.le_of_ble_eq_true rfl) (Nat.le_of_ble_eq_true rfl) dX8_wordLaid_1 ?_
  refine r_istore_n dX8_wordLaid_4 (Nat.le_of_ble_eq_true rfl) rfl ?_
  refine r_iconst 0 dX8_wordLaid_5 (by decide) ?_
  refine r_istore_n dX8_wordLaid_6 (Nat.le_of_ble_eq_true rfl) rfl ?_
  refine r_iconst (-1) dX8_wordLaid_7 (by decide) ?_
  refine r_istore dX8_wordLaid_8 (Nat.le_of_ble_eq_true rfl) rfl ?_
  refine r_iconst 0 dX8_wordLaid_10 (by decide) ?_
  refine r_istore dX8_wordLaid_11 (Nat.le_of_ble_eq_true rfl) rfl ?_
  refine r_le [some (.ref 43), some (.int a1), some (.int x1), some (.int 0), some (.int (-1)), some (.int 0)] ⟨rfl, ⟨rfl, ⟨rfl, ⟨rfl, ⟨rfl, ⟨rfl, trivial⟩⟩⟩⟩⟩⟩ ?_
  rcases kbG_or h with ⟨r4, hx0, h⟩ | ⟨x3, hx0, h⟩
  · exact lpR_SP_wordLaid_13 n a1 x1 (P := fun z => .inl r4 = z) (hr := fun z e => by cases e; exact hr _ (kbG_some h)) (hx := fun z e => by cases e) n _ _ _ _ ⟨_, hx0, rfl⟩
  · refine lpR_SP_wordLaid_13 n a1 x1 (P := fun z => .inr x3 = z) (hr := fun z e => by cases e) (hx := fun z e => ?_) n _ _ _ _ ⟨_, hx0, rfl⟩
    cases e
    refine r_le [none, none, none, none, some (.int x3.1), none] ⟨rfl, trivial⟩ ?_
    exact jnR_SP_wordLaid_66 n x3.1 x3.2 (hr := hr) h
def lp_SP_saySounds_7 (n : Nat) (v1 : Int32) (v2 : Int32) : Nat → Int32 → kbM → Option (kbM)
  | 0, _, _ => none
  | k + 1, v3, μ =>
    kbIf (kbIn v1 10) <|
    if (μ.1 15 v1.toNatClampNeg) < v3 then
      some μ
    else
      kbIf (kbIn (v2 + v3) 70) <|
      kbIf (kbIn ((v2 + v3) - 1) 70) <|
      kbIf (kbIn (v2 + v3) 70) <|
      lp_SP_saySounds_7 n v1 v2 k (v3 + 1) (kbW μ 47 ((v2 + v3).toNatClampNeg) (kbMin (μ.1 47 ((v2 + v3).toNatClampNeg)) ((μ.1 47 (((v2 + v3) - 1).toNatClampNeg)) + 1)))
theorem lpR_SP_saySounds_7 {l : Launch} (n : Nat) (v1 : Int32) (v2 : Int32)  {Q : kbQt} {P : kbM → Prop} (hx : ∀ z : kbM, P (z) → kbR l MX8_saySounds 1 Q 57 [none, none, none, none] [] z) : ∀ (k : Nat) (v3 : Int32) (μ : kbM), kbG (lp_SP_saySounds_7 n v1 v2 k v3 μ) P → kbR l MX8_saySounds 1 Q 7 [some (.ref 43), some (.int v1), some (.int v2), some (.int v3)] [] μ := by
  intro k
  induction k with
  | zero => intro v3 μ h; exact absurd h kbG_none
  | succ k ih =>
    intro v3 μ h
    unfold lp_SP_saySounds_7 at h
    refine r_iload_n dX8_saySounds_7 rfl ?_
    refine r_aload_n dX8_saySounds_8 rfl ?_
    refine r_getR flX8_25 sh43 rfl dX8_saySounds_9 ?_
    refine r_getR flX8_49 sh13 rfl dX8_saySounds_12 ?_
    refine r_iload_n dX8_saySounds_15 rfl ?_
    obtain ⟨hin, h⟩ := kbG_if h
    replace hin := kbIn_of hin
    refine q_iald v1.toNatClampNeg rfl sh15 hin dX8_saySounds_16 ?_
    refine r_icmp_gt 57 dX8_saySounds_17 (by decide) (fun hc => ?_) (fun hc => ?_)
    · replace h := kbG_t hc h
      refine r_le [none, none, none, none] trivial ?_
      exact hx μ (kbG_some h)
    · replace h := kbG_f hc h
      refine r_aload_n dX8_saySounds_20 rfl ?_
      refine r_getR flX8_22 sh43 rfl dX8_saySounds_21 ?_
      refine r_iload_n dX8_saySounds_24 rfl ?_
      refine r_iload_n dX8_saySounds_25 rfl ?_
      refine r_iadd dX8_saySounds_26 ?_
      refine r_aload_n dX8_saySounds_27 rfl ?_
      refine r_getR flX8_22 sh43 rfl dX8_saySounds_28 ?_
      refine r_iload_n dX8_saySounds_31 rfl ?_
      refine r_iload_n dX8_saySounds_32 rfl ?_
      refine r_iadd dX8_saySounds_33 ?_
      obtain ⟨hin, h⟩ := kbG_if h
      replace hin := kbIn_of hin
      refine q_iald ((v2 + v3).toNatClampNeg) rfl sh47 hin dX8_saySounds_34 ?_
      refine r_aload_n dX8_saySounds_35 rfl ?_
      refine r_getR flX8_22 sh43 rfl dX8_saySounds_36 ?_
      refine r_iload_n dX8_saySounds_39 rfl ?_
      refine r_iload_n dX8_saySounds_40 rfl ?_
      refine r_iadd dX8_saySounds_41 ?_
      refine r_iconst 1 dX8_saySounds_42 (by decide) ?_
      refine r_isub dX8_saySounds_43 ?_
      obtain ⟨hin, h⟩ := kbG_if h
      replace hin := kbIn_of hin
      refine q_iald (((v2 + v3) - 1).toNatClampNeg) rfl sh47 hin dX8_saySounds_44 ?_
      refine r_iconst 1 dX8_saySounds_45 (by decide) ?_
      refine r_iadd dX8_saySounds_46 ?_
      refine r_min mlX8_64 (Nat.le_of_ble_eq_true rfl) (Nat.le_of_ble_eq_true rfl) dX8_saySounds_47 ?_
      obtain ⟨hin, h⟩ := kbG_if h
      replace hin := kbIn_of hin
      refine q_iast ((v2 + v3).toNatClampNeg) rfl sh47 hin dX8_saySounds_50 ?_
      refine r_iinc 1 dX8_saySounds_51 rfl (by decide) (Nat.le_of_ble_eq_true rfl) rfl ?_
      refine r_goto 7 dX8_saySounds_54 (by decide) ?_
      refine r_le [some (.ref 43), some (.int v1), some (.int v2), some (.int (v3 + 1))] ⟨rfl, ⟨rfl, ⟨rfl, ⟨rfl, trivial⟩⟩⟩⟩ ?_
      exact ih (v3 + 1) (kbW μ 47 ((v2 + v3).toNatClampNeg) (kbMin (μ.1 47 ((v2 + v3).toNatClampNeg)) ((μ.1 47 (((v2 + v3) - 1).toNatClampNeg)) + 1))) h
def f_SP_saySounds (n : Nat) (a1 : Int32) (μ : kbM) : Option (kbM) :=
  (lp_SP_saySounds_7 n a1 (a1 * 7) n 1 μ).bind fun x1 =>
  some x1
theorem sp_SP_saySounds {l : Launch} (n : Nat) (a1 : Int32) (μ : kbM)  {x : kbM} (h : f_SP_saySounds n a1 μ = some x) : kbS l MX8_saySounds 1 [.ref 43, .int a1] μ (kbQe none x) := by
  refine kb_enter 2 rfl rfl ?_
  suffices H : ∀ (Q : kbQt) (P : kbM → Prop), (∀ z : kbM, P z → Q none z) → kbG (f_SP_saySounds n a1 μ) P → kbR l MX8_saySounds 1 Q 0 [some (.ref 43), some (.int a1), none, none] [] μ from H _ (fun z => z = x) (fun z e => by subst e; exact ⟨rfl, rfl⟩) ⟨x, h, rfl⟩
  clear h
  intro Q P hr h
  unfold f_SP_saySounds at h
  refine r_iload_n dX8_saySounds_0 rfl ?_
  refine r_bipush 7 dX8_saySounds_1 (by decide) ?_
  refine r_imul dX8_saySounds_3 ?_
  refine r_istore_n dX8_saySounds_4 (Nat.le_of_ble_eq_true rfl) rfl ?_
  refine r_iconst 1 dX8_saySounds_5 (by decide) ?_
  refine r_istore_n dX8_saySounds_6 (Nat.le_of_ble_eq_true rfl) rfl ?_
  refine r_le [some (.ref 43), some (.int a1), some (.int (a1 * 7)), some (.int 1)] ⟨rfl, ⟨rfl, ⟨rfl, ⟨rfl, trivial⟩⟩⟩⟩ ?_
  obtain ⟨x1, hx0, h⟩ := kbG_bind h
  refine lpR_SP_saySounds_7 n a1 (a1 * 7) (P := fun z => x1 = z) (hx := fun z e => ?_) n _ _ ⟨_, hx0, rfl⟩
  subst e
  exact r_vret rfl dX8_saySounds_57 (hr x1 (kbG_some h))
def jn_SP_beginBehind_77 (n : Nat) (rec : Int32 → Int32 → kbM → Option (Int32 × kbM)) (v1 : Int32) (v2 : Int32) (v3 : Int32) (v4 : Int32) (μ : kbM) : Option (Int32 × kbM) :=
  rec v2 (v4 + 1) μ
theorem jnR_SP_beginBehind_77 {l : Launch} (n : Nat)   (v1 : Int32) (v2 : Int32) (v3 : Int32) (v4 : Int32) (μ : kbM) {Q : kbQt} {P : Int32 × kbM → Prop} (hx : ∀ z : Int32 × kbM, P (z) → kbR l MX8_beginBehind 4 Q 83 [none, none, some (.int z.1), none, none] [] z.2) {rec : Int32 → Int32 → kbM → Option (Int32 × kbM)} (hrec : ∀ (v2 : Int32) (v4 : Int32) (μ : kbM), kbG (rec v2 v4 μ) P → kbR l MX8_beginBehind 4 Q 25 [some (.ref 43), some (.int v1), some (.int v2), some (.int v3), some (.int v4)] [] μ) (h : kbG (jn_SP_beginBehind_77 n rec v1 v2 v3 v4 μ) P) : kbR l MX8_beginBehind 4 Q 77 [some (.ref 43), some (.int v1), some (.int v2), some (.int v3), some (.int v4)] [] μ := by
  unfold jn_SP_beginBehind_77 at h
  refine r_iinc 1 dX8_beginBehind_77 rfl (by decide) (Nat.le_of_ble_eq_true rfl) rfl ?_
  refine r_goto 25 dX8_beginBehind_80 (by decide) ?_
  refine r_le [some (.ref 43), some (.int v1), some (.int v2), some (.int v3), some (.int (v4 + 1))] ⟨rfl, ⟨rfl, ⟨rfl, ⟨rfl, ⟨rfl, trivial⟩⟩⟩⟩⟩ ?_
  exact hrec v2 (v4 + 1) μ h
def lp_SP_beginBehind_25 (n : Nat) (v1 : Int32) (v3 : Int32) : Nat → Int32 → Int32 → kbM → Option (Int32 × kbM)
  | 0, _, _, _ => none
  | k + 1, v2, v4, μ =>
    if (μ.1 13 4) ≤ v4 then
      some ((v2, μ))
    else
      kbIf (kbIn (v4 * 7) 70) <|
      if (μ.1 47 ((v4 * 7).toNatClampNeg)) ≤ v3 then
        jn_SP_beginBehind_77 n (lp_SP_beginBehind_25 n v1 v3 k) v1 v2 v3 v4 μ
      else
        (f_JO_mayFollow n v1 v4 μ).bind fun x1 =>
        if x1.1 = 0 then
          jn_SP_beginBehind_77 n (lp_SP_beginBehind_25 n v1 v3 k) v1 v2 v3 v4 x1.2
        else
          kbIf (kbIn (v4 * 7) 70) <|
          jn_SP_beginBehind_77 n (lp_SP_beginBehind_25 n v1 v3 k) v1 1 v3 v4 (kbW x1.2 47 ((v4 * 7).toNatClampNeg) v3)
theorem lpR_SP_beginBehind_25 {l : Launch} (n : Nat) (v1 : Int32) (v3 : Int32)  {Q : kbQt} {P : Int32 × kbM → Prop} (hx : ∀ z : Int32 × kbM, P (z) → kbR l MX8_beginBehind 4 Q 83 [none, none, some (.int z.1), none, none] [] z.2) : ∀ (k : Nat) (v2 : Int32) (v4 : Int32) (μ : kbM), kbG (lp_SP_beginBehind_25 n v1 v3 k v2 v4 μ) P → kbR l MX8_beginBehind 4 Q 25 [some (.ref 43), some (.int v1), some (.int v2), some (.int v3), some (.int v4)] [] μ := by
  intro k
  induction k with
  | zero => intro v2 v4 μ h; exact absurd h kbG_none
  | succ k ih =>
    intro v2 v4 μ h
    unfold lp_SP_beginBehind_25 at h
    refine r_iload dX8_beginBehind_25 rfl ?_
    refine r_aload_n dX8_beginBehind_27 rfl ?_
    refine r_getR flX8_25 sh43 rfl dX8_beginBehind_28 ?_
    refine r_getI flX8_39 sh13 rfl dX8_beginBehind_31 ?_
    refine r_icmp_ge 83 dX8_beginBehind_34 (by decide) (fun hc => ?_) (fun hc => ?_)
    · replace h := kbG_t hc h
      refine r_le [none, none, some (.int v2), none, none] ⟨rfl, trivial⟩ ?_
      exact hx ((v2, μ)) (kbG_some h)
    · replace h := kbG_f hc h
      refine r_iload_n dX8_beginBehind_37 rfl ?_
      refine r_aload_n dX8_beginBehind_38 rfl ?_
      refine r_getR flX8_22 sh43 rfl dX8_beginBehind_39 ?_
      refine r_iload dX8_beginBehind_42 rfl ?_
      refine r_bipush 7 dX8_beginBehind_44 (by decide) ?_
      refine r_imul dX8_beginBehind_46 ?_
      obtain ⟨hin, h⟩ := kbG_if h
      replace hin := kbIn_of hin
      refine q_iald ((v4 * 7).toNatClampNeg) rfl sh47 hin dX8_beginBehind_47 ?_
      refine r_icmp_ge 77 dX8_beginBehind_48 (by decide) (fun hc => ?_) (fun hc => ?_)
      · replace h := kbG_t hc h
        refine r_le [some (.ref 43), some (.int v1), some (.int v2), some (.int v3), some (.int v4)] ⟨rfl, ⟨rfl, ⟨rfl, ⟨rfl, ⟨rfl, trivial⟩⟩⟩⟩⟩ ?_
        exact jnR_SP_beginBehind_77 n v1 v2 v3 v4 μ (hx := hx) (hrec := ih) h
      · replace h := kbG_f hc h
        refine r_aload_n dX8_beginBehind_51 rfl ?_
        refine r_getR flX8_29 sh43 rfl dX8_beginBehind_52 ?_
        refine r_iload_n dX8_beginBehind_55 rfl ?_
        refine r_iload dX8_beginBehind_56 rfl ?_
        obtain ⟨x1, hx0, h⟩ := kbG_bind h
        refine r_invV_i cvX8_58 sh35 rfl (sp_JO_mayFollow n v1 v4 μ hx0) rfl rfl (Nat.le_of_ble_eq_true rfl) (Nat.le_of_ble_eq_true rfl) dX8_beginBehind_58 ?_
        refine r_if_eq 77 dX8_beginBehind_61 (by decide) (fun hc => ?_) (fun hc => ?_)
        · replace h := kbG_t hc h
          refine r_le [some (.ref 43), some (.int v1), some (.int v2), some (.int v3), some (.int v4)] ⟨rfl, ⟨rfl, ⟨rfl, ⟨rfl, ⟨rfl, trivial⟩⟩⟩⟩⟩ ?_
          exact jnR_SP_beginBehind_77 n v1 v2 v3 v4 x1.2 (hx := hx) (hrec := ih) h
        · replace h := kbG_f hc h
          refine r_aload_n dX8_beginBehind_64 rfl ?_
          refine r_getR flX8_22 sh43 rfl dX8_beginBehind_65 ?_
          refine r_iload dX8_beginBehind_68 rfl ?_
          refine r_bipush 7 dX8_beginBehind_70 (by decide) ?_
          refine r_imul dX8_beginBehind_72 ?_
          refine r_iload_n dX8_beginBehind_73 rfl ?_
          obtain ⟨hin, h⟩ := kbG_if h
          replace hin := kbIn_of hin
          refine q_iast ((v4 * 7).toNatClampNeg) rfl sh47 hin dX8_beginBehind_74 ?_
          refine r_iconst 1 dX8_beginBehind_75 (by decide) ?_
          refine r_istore_n dX8_beginBehind_76 (Nat.le_of_ble_eq_true rfl) rfl ?_
          refine r_le [some (.ref 43), some (.int v1), some (.int 1), some (.int v3), some (.int v4)] ⟨rfl, ⟨rfl, ⟨rfl, ⟨rfl, ⟨rfl, trivial⟩⟩⟩⟩⟩ ?_
          exact jnR_SP_beginBehind_77 n v1 1 v3 v4 (kbW x1.2 47 ((v4 * 7).toNatClampNeg) v3) (hx := hx) (hrec := ih) h
def f_SP_beginBehind (n : Nat) (a1 : Int32) (μ : kbM) : Option (Int32 × kbM) :=
  kbIf (kbIn a1 10) <|
  kbIf (kbIn ((a1 * 7) + (μ.1 15 a1.toNatClampNeg)) 70) <|
  (lp_SP_beginBehind_25 n a1 (μ.1 47 (((a1 * 7) + (μ.1 15 a1.toNatClampNeg)).toNatClampNeg)) n 0 0 μ).bind fun x2 =>
  kbIf (decide (x2.1 = 0 ∨ x2.1 = 1)) <|
  some ((x2.1, x2.2))
theorem sp_SP_beginBehind {l : Launch} (n : Nat) (a1 : Int32) (μ : kbM)  {x : Int32 × kbM} (h : f_SP_beginBehind n a1 μ = some x) : kbS l MX8_beginBehind 4 [.ref 43, .int a1] μ (kbQe (some (.int x.1)) x.2) := by
  refine kb_enter 3 rfl rfl ?_
  suffices H : ∀ (Q : kbQt) (P : Int32 × kbM → Prop), (∀ z : Int32 × kbM, P z → Q (some (.int z.1)) z.2) → kbG (f_SP_beginBehind n a1 μ) P → kbR l MX8_beginBehind 4 Q 0 [some (.ref 43), some (.int a1), none, none, none] [] μ from H _ (fun z => z = x) (fun z e => by subst e; exact ⟨rfl, rfl⟩) ⟨x, h, rfl⟩
  clear h
  intro Q P hr h
  unfold f_SP_beginBehind at h
  refine r_iconst 0 dX8_beginBehind_0 (by decide) ?_
  refine r_istore_n dX8_beginBehind_1 (Nat.le_of_ble_eq_true rfl) rfl ?_
  refine r_aload_n dX8_beginBehind_2 rfl ?_
  refine r_getR flX8_22 sh43 rfl dX8_beginBehind_3 ?_
  refine r_iload_n dX8_beginBehind_6 rfl ?_
  refine r_bipush 7 dX8_beginBehind_7 (by decide) ?_
  refine r_imul dX8_beginBehind_9 ?_
  refine r_aload_n dX8_beginBehind_10 rfl ?_
  refine r_getR flX8_25 sh43 rfl dX8_beginBehind_11 ?_
  refine r_getR flX8_49 sh13 rfl dX8_beginBehind_14 ?_
  refine r_iload_n dX8_beginBehind_17 rfl ?_
  obtain ⟨hin, h⟩ := kbG_if h
  replace hin := kbIn_of hin
  refine q_iald a1.toNatClampNeg rfl sh15 hin dX8_beginBehind_18 ?_
  refine r_iadd dX8_beginBehind_19 ?_
  obtain ⟨hin, h⟩ := kbG_if h
  replace hin := kbIn_of hin
  refine q_iald (((a1 * 7) + (μ.1 15 a1.toNatClampNeg)).toNatClampNeg) rfl sh47 hin dX8_beginBehind_20 ?_
  refine r_istore_n dX8_beginBehind_21 (Nat.le_of_ble_eq_true rfl) rfl ?_
  refine r_iconst 0 dX8_beginBehind_22 (by decide) ?_
  refine r_istore dX8_beginBehind_23 (Nat.le_of_ble_eq_true rfl) rfl ?_
  refine r_le [some (.ref 43), some (.int a1), some (.int 0), some (.int (μ.1 47 (((a1 * 7) + (μ.1 15 a1.toNatClampNeg)).toNatClampNeg))), some (.int 0)] ⟨rfl, ⟨rfl, ⟨rfl, ⟨rfl, ⟨rfl, trivial⟩⟩⟩⟩⟩ ?_
  obtain ⟨x2, hx0, h⟩ := kbG_bind h
  refine lpR_SP_beginBehind_25 n a1 (μ.1 47 (((a1 * 7) + (μ.1 15 a1.toNatClampNeg)).toNatClampNeg)) (P := fun z => x2 = z) (hx := fun z e => ?_) n _ _ _ ⟨_, hx0, rfl⟩
  subst e
  refine r_iload_n dX8_beginBehind_83 rfl ?_
  obtain ⟨hz, h⟩ := kbG_if h
  exact r_zret rfl (kb_z01 (of_decide_eq_true hz)) dX8_beginBehind_84 (hr ((x2.1, x2.2)) (kbG_some h))
def lp_SP_sayMore_21 (n : Nat) (v2 : Int32) : Nat → Int32 → kbM → Option (kbM)
  | 0, _, _ => none
  | k + 1, v3, μ =>
    if (μ.1 13 4) ≤ v3 then
      some μ
    else
      (f_SP_saySounds n v3 μ).bind fun x1 =>
      lp_SP_sayMore_21 n v2 k (v3 + 1) x1
theorem lpR_SP_sayMore_21 {l : Launch} (n : Nat) (v2 : Int32)  {Q : kbQt} {P : kbM → Prop} (hx : ∀ z : kbM, P (z) → kbR l MX8_sayMore 5 Q 43 [some (.ref 43), none, some (.int v2), none] [] z) : ∀ (k : Nat) (v3 : Int32) (μ : kbM), kbG (lp_SP_sayMore_21 n v2 k v3 μ) P → kbR l MX8_sayMore 5 Q 21 [some (.ref 43), none, some (.int v2), some (.int v3)] [] μ := by
  intro k
  induction k with
  | zero => intro v3 μ h; exact absurd h kbG_none
  | succ k ih =>
    intro v3 μ h
    unfold lp_SP_sayMore_21 at h
    refine r_iload_n dX8_sayMore_21 rfl ?_
    refine r_aload_n dX8_sayMore_22 rfl ?_
    refine r_getR flX8_25 sh43 rfl dX8_sayMore_23 ?_
    refine r_getI flX8_39 sh13 rfl dX8_sayMore_26 ?_
    refine r_icmp_ge 43 dX8_sayMore_29 (by decide) (fun hc => ?_) (fun hc => ?_)
    · replace h := kbG_t hc h
      refine r_le [some (.ref 43), none, some (.int v2), none] ⟨rfl, ⟨rfl, trivial⟩⟩ ?_
      exact hx μ (kbG_some h)
    · replace h := kbG_f hc h
      refine r_aload_n dX8_sayMore_32 rfl ?_
      refine r_iload_n dX8_sayMore_33 rfl ?_
      obtain ⟨x1, hx0, h⟩ := kbG_bind h
      refine r_invV_v cvX8_112 sh43 rfl (sp_SP_saySounds n v3 μ hx0) rfl rfl (Nat.le_of_ble_eq_true rfl) (Nat.le_of_ble_eq_true rfl) dX8_sayMore_34 ?_
      refine r_iinc 1 dX8_sayMore_37 rfl (by decide) (Nat.le_of_ble_eq_true rfl) rfl ?_
      refine r_goto 21 dX8_sayMore_40 (by decide) ?_
      refine r_le [some (.ref 43), none, some (.int v2), some (.int (v3 + 1))] ⟨rfl, ⟨rfl, ⟨rfl, trivial⟩⟩⟩ ?_
      exact ih (v3 + 1) x1 h
def lp_SP_sayMore_47 (n : Nat) (v2 : Int32) : Nat → Int32 → Int32 → kbM → Option (Int32 × kbM)
  | 0, _, _, _ => none
  | k + 1, v1, v3, μ =>
    if (μ.1 13 4) ≤ v3 then
      some ((v1, μ))
    else
      (f_SP_beginBehind n v3 μ).bind fun x3 =>
      lp_SP_sayMore_47 n v2 k (v1 ||| x3.1) (v3 + 1) x3.2
theorem lpR_SP_sayMore_47 {l : Launch} (n : Nat) (v2 : Int32)  {Q : kbQt} {P : Int32 × kbM → Prop} (hx : ∀ z : Int32 × kbM, P (z) → kbR l MX8_sayMore 5 Q 72 [some (.ref 43), some (.int z.1), some (.int v2), none] [] z.2) : ∀ (k : Nat) (v1 : Int32) (v3 : Int32) (μ : kbM), kbG (lp_SP_sayMore_47 n v2 k v1 v3 μ) P → kbR l MX8_sayMore 5 Q 47 [some (.ref 43), some (.int v1), some (.int v2), some (.int v3)] [] μ := by
  intro k
  induction k with
  | zero => intro v1 v3 μ h; exact absurd h kbG_none
  | succ k ih =>
    intro v1 v3 μ h
    unfold lp_SP_sayMore_47 at h
    refine r_iload_n dX8_sayMore_47 rfl ?_
    refine r_aload_n dX8_sayMore_48 rfl ?_
    refine r_getR flX8_25 sh43 rfl dX8_sayMore_49 ?_
    refine r_getI flX8_39 sh13 rfl dX8_sayMore_52 ?_
    refine r_icmp_ge 72 dX8_sayMore_55 (by decide) (fun hc => ?_) (fun hc => ?_)
    · replace h := kbG_t hc h
      refine r_le [some (.ref 43), some (.int v1), some (.int v2), none] ⟨rfl, ⟨rfl, ⟨rfl, trivial⟩⟩⟩ ?_
      exact hx ((v1, μ)) (kbG_some h)
    · replace h := kbG_f hc h
      refine r_iload_n dX8_sayMore_58 rfl ?_
      refine r_aload_n dX8_sayMore_59 rfl ?_
      refine r_iload_n dX8_sayMore_60 rfl ?_
      obtain ⟨x3, hx0, h⟩ := kbG_bind h
      refine r_invV_i cvX8_115 sh43 rfl (sp_SP_beginBehind n v3 μ hx0) rfl rfl (Nat.le_of_ble_eq_true rfl) (Nat.le_of_ble_eq_true rfl) dX8_sayMore_61 ?_
      refine r_ior dX8_sayMore_64 ?_
      refine r_istore_n dX8_sayMore_65 (Nat.le_of_ble_eq_true rfl) rfl ?_
      refine r_iinc 1 dX8_sayMore_66 rfl (by decide) (Nat.le_of_ble_eq_true rfl) rfl ?_
      refine r_goto 47 dX8_sayMore_69 (by decide) ?_
      refine r_le [some (.ref 43), some (.int (v1 ||| x3.1)), some (.int v2), some (.int (v3 + 1))] ⟨rfl, ⟨rfl, ⟨rfl, ⟨rfl, trivial⟩⟩⟩⟩ ?_
      exact ih (v1 ||| x3.1) (v3 + 1) x3.2 h
def lp_SP_sayMore_4 (n : Nat) : Nat → Int32 → Int32 → kbM → Option (kbM)
  | 0, _, _, _ => none
  | k + 1, v1, v2, μ =>
    if v1 = 0 then
      some μ
    else
      if (μ.1 13 4) < v2 then
        some μ
      else
        (lp_SP_sayMore_21 n v2 n 0 μ).bind fun x2 =>
        (lp_SP_sayMore_47 n v2 n 0 0 x2).bind fun x4 =>
        lp_SP_sayMore_4 n k x4.1 (v2 + 1) x4.2
theorem lpR_SP_sayMore_4 {l : Launch} (n : Nat)   {Q : kbQt} {P : kbM → Prop} (hx : ∀ z : kbM, P (z) → kbR l MX8_sayMore 5 Q 78 [none, none, none, none] [] z) : ∀ (k : Nat) (v1 : Int32) (v2 : Int32) (μ : kbM), kbG (lp_SP_sayMore_4 n k v1 v2 μ) P → kbR l MX8_sayMore 5 Q 4 [some (.ref 43), some (.int v1), some (.int v2), none] [] μ := by
  intro k
  induction k with
  | zero => intro v1 v2 μ h; exact absurd h kbG_none
  | succ k ih =>
    intro v1 v2 μ h
    unfold lp_SP_sayMore_4 at h
    refine r_iload_n dX8_sayMore_4 rfl ?_
    refine r_if_eq 78 dX8_sayMore_5 (by decide) (fun hc => ?_) (fun hc => ?_)
    · replace h := kbG_t hc h
      refine r_le [none, none, none, none] trivial ?_
      exact hx μ (kbG_some h)
    · replace h := kbG_f hc h
      refine r_iload_n dX8_sayMore_8 rfl ?_
      refine r_aload_n dX8_sayMore_9 rfl ?_
      refine r_getR flX8_25 sh43 rfl dX8_sayMore_10 ?_
      refine r_getI flX8_39 sh13 rfl dX8_sayMore_13 ?_
      refine r_icmp_gt 78 dX8_sayMore_16 (by decide) (fun hc => ?_) (fun hc => ?_)
      · replace h := kbG_t hc h
        refine r_le [none, none, none, none] trivial ?_
        exact hx μ (kbG_some h)
      · replace h := kbG_f hc h
        refine r_iconst 0 dX8_sayMore_19 (by decide) ?_
        refine r_istore_n dX8_sayMore_20 (Nat.le_of_ble_eq_true rfl) rfl ?_
        refine r_le [some (.ref 43), none, some (.int v2), some (.int 0)] ⟨rfl, ⟨rfl, ⟨rfl, trivial⟩⟩⟩ ?_
        obtain ⟨x2, hx0, h⟩ := kbG_bind h
        refine lpR_SP_sayMore_21 n v2 (P := fun z => x2 = z) (hx := fun z e => ?_) n _ _ ⟨_, hx0, rfl⟩
        subst e
        refine r_iconst 0 dX8_sayMore_43 (by decide) ?_
        refine r_istore_n dX8_sayMore_44 (Nat.le_of_ble_eq_true rfl) rfl ?_
        refine r_iconst 0 dX8_sayMore_45 (by decide) ?_
        refine r_istore_n dX8_sayMore_46 (Nat.le_of_ble_eq_true rfl) rfl ?_
        refine r_le [some (.ref 43), some (.int 0), some (.int v2), some (.int 0)] ⟨rfl, ⟨rfl, ⟨rfl, ⟨rfl, trivial⟩⟩⟩⟩ ?_
        obtain ⟨x4, hx0, h⟩ := kbG_bind h
        refine lpR_SP_sayMore_47 n v2 (P := fun z => x4 = z) (hx := fun z e => ?_) n _ _ _ ⟨_, hx0, rfl⟩
        subst e
        refine r_iinc 1 dX8_sayMore_72 rfl (by decide) (Nat.le_of_ble_eq_true rfl) rfl ?_
        refine r_goto 4 dX8_sayMore_75 (by decide) ?_
        refine r_le [some (.ref 43), some (.int x4.1), some (.int (v2 + 1)), none] ⟨rfl, ⟨rfl, ⟨rfl, trivial⟩⟩⟩ ?_
        exact ih x4.1 (v2 + 1) x4.2 h
def jn_SP_sayMore_78 (n : Nat) (μ : kbM) : Option (kbM) :=
  some μ
theorem jnR_SP_sayMore_78 {l : Launch} (n : Nat)    (μ : kbM) {Q : kbQt} {P : kbM → Prop} (hr : ∀ z : kbM, P z → Q none z) (h : kbG (jn_SP_sayMore_78 n μ) P) : kbR l MX8_sayMore 5 Q 78 [none, none, none, none] [] μ := by
  unfold jn_SP_sayMore_78 at h
  exact r_vret rfl dX8_sayMore_78 (hr μ (kbG_some h))
def f_SP_sayMore (n : Nat) (μ : kbM) : Option (kbM) :=
  (lp_SP_sayMore_4 n n 1 0 μ).bind fun x5 =>
  jn_SP_sayMore_78 n x5
theorem sp_SP_sayMore {l : Launch} (n : Nat) (μ : kbM)  {x : kbM} (h : f_SP_sayMore n μ = some x) : kbS l MX8_sayMore 5 [.ref 43] μ (kbQe none x) := by
  refine kb_enter 3 rfl rfl ?_
  suffices H : ∀ (Q : kbQt) (P : kbM → Prop), (∀ z : kbM, P z → Q none z) → kbG (f_SP_sayMore n μ) P → kbR l MX8_sayMore 5 Q 0 [some (.ref 43), none, none, none] [] μ from H _ (fun z => z = x) (fun z e => by subst e; exact ⟨rfl, rfl⟩) ⟨x, h, rfl⟩
  clear h
  intro Q P hr h
  unfold f_SP_sayMore at h
  refine r_iconst 1 dX8_sayMore_0 (by decide) ?_
  refine r_istore_n dX8_sayMore_1 (Nat.le_of_ble_eq_true rfl) rfl ?_
  refine r_iconst 0 dX8_sayMore_2 (by decide) ?_
  refine r_istore_n dX8_sayMore_3 (Nat.le_of_ble_eq_true rfl) rfl ?_
  refine r_le [some (.ref 43), some (.int 1), some (.int 0), none] ⟨rfl, ⟨rfl, ⟨rfl, trivial⟩⟩⟩ ?_
  obtain ⟨x5, hx0, h⟩ := kbG_bind h
  refine lpR_SP_sayMore_4 n (P := fun z => x5 = z) (hx := fun z e => ?_) n _ _ _ ⟨_, hx0, rfl⟩
  subst e
  refine r_le [none, none, none, none] trivial ?_
  exact jnR_SP_sayMore_78 n  x5 (hr := hr) h
def jn_SP_passSound_88 (n : Nat) (rec : Int32 → kbM → Option (kbM)) (v1 : Int32) (v2 : Int32) (v3 : Int32) (v4 : Int32) (v5 : Int32) (w0 : Int32) (w1 : Int32) (μ : kbM) : Option (kbM) :=
  kbIf (kbIn (v3 + v5) 70) <|
  kbIf (kbIn (v3 + v5) 70) <|
  rec (v5 + (-1)) (kbW μ 47 ((v3 + v5).toNatClampNeg) (kbMin ((μ.1 47 ((v3 + v5).toNatClampNeg)) + 1) (w0 + w1)))
theorem jnR_SP_passSound_88 {l : Launch} (n : Nat)   (v1 : Int32) (v2 : Int32) (v3 : Int32) (v4 : Int32) (v5 : Int32) (w0 : Int32) (w1 : Int32) (μ : kbM) {Q : kbQt} {P : kbM → Prop} (hx : ∀ z : kbM, P (z) → kbR l MX8_passSound 3 Q 122 [some (.ref 43), some (.int v1), some (.int v2), some (.int v3), none, none, none, none] [] z) {rec : Int32 → kbM → Option (kbM)} (hrec : ∀ (v5 : Int32) (μ : kbM), kbG (rec v5 μ) P → kbR l MX8_passSound 3 Q 33 [some (.ref 43), some (.int v1), some (.int v2), some (.int v3), some (.int v4), some (.int v5), none, none] [] μ) (h : kbG (jn_SP_passSound_88 n rec v1 v2 v3 v4 v5 w0 w1 μ) P) : kbR l MX8_passSound 3 Q 88 [some (.ref 43), some (.int v1), some (.int v2), some (.int v3), some (.int v4), some (.int v5), none, none] [.int w1, .int w0] μ := by
  unfold jn_SP_passSound_88 at h
  refine r_iadd dX8_passSound_88 ?_
  refine r_istore dX8_passSound_89 (Nat.le_of_ble_eq_true rfl) rfl ?_
  refine r_aload_n dX8_passSound_91 rfl ?_
  refine r_getR flX8_22 sh43 rfl dX8_passSound_92 ?_
  refine r_iload_n dX8_passSound_95 rfl ?_
  refine r_iload dX8_passSound_96 rfl ?_
  refine r_iadd dX8_passSound_98 ?_
  refine r_aload_n dX8_passSound_99 rfl ?_
  refine r_getR flX8_22 sh43 rfl dX8_passSound_100 ?_
  refine r_iload_n dX8_passSound_103 rfl ?_
  refine r_iload dX8_passSound_104 rfl ?_
  refine r_iadd dX8_passSound_106 ?_
  obtain ⟨hin, h⟩ := kbG_if h
  replace hin := kbIn_of hin
  refine q_iald ((v3 + v5).toNatClampNeg) rfl sh47 hin dX8_passSound_107 ?_
  refine r_iconst 1 dX8_passSound_108 (by decide) ?_
  refine r_iadd dX8_passSound_109 ?_
  refine r_iload dX8_passSound_110 rfl ?_
  refine r_min mlX8_64 (Nat.le_of_ble_eq_true rfl) (Nat.le_of_ble_eq_true rfl) dX8_passSound_112 ?_
  obtain ⟨hin, h⟩ := kbG_if h
  replace hin := kbIn_of hin
  refine q_iast ((v3 + v5).toNatClampNeg) rfl sh47 hin dX8_passSound_115 ?_
  refine r_iinc (-1) dX8_passSound_116 rfl (by decide) (Nat.le_of_ble_eq_true rfl) rfl ?_
  refine r_goto 33 dX8_passSound_119 (by decide) ?_
  refine r_le [some (.ref 43), some (.int v1), some (.int v2), some (.int v3), some (.int v4), some (.int (v5 + (-1))), none, none] ⟨rfl, ⟨rfl, ⟨rfl, ⟨rfl, ⟨rfl, ⟨rfl, trivial⟩⟩⟩⟩⟩⟩ ?_
  exact hrec (v5 + (-1)) (kbW μ 47 ((v3 + v5).toNatClampNeg) (kbMin ((μ.1 47 ((v3 + v5).toNatClampNeg)) + 1) (w0 + w1))) h
def jn_SP_passSound_65 (n : Nat) (rec : Int32 → kbM → Option (kbM)) (v1 : Int32) (v2 : Int32) (v3 : Int32) (v4 : Int32) (v5 : Int32) (w0 : Int32) (μ : kbM) : Option (kbM) :=
  kbIf (kbIn ((v3 + v5) - 1) 70) <|
  if w0 = 0 then
    jn_SP_passSound_88 n rec v1 v2 v3 v4 v5 (μ.1 47 (((v3 + v5) - 1).toNatClampNeg)) 1 μ
  else
    jn_SP_passSound_88 n rec v1 v2 v3 v4 v5 (μ.1 47 (((v3 + v5) - 1).toNatClampNeg)) 0 μ
theorem jnR_SP_passSound_65 {l : Launch} (n : Nat)   (v1 : Int32) (v2 : Int32) (v3 : Int32) (v4 : Int32) (v5 : Int32) (w0 : Int32) (μ : kbM) {Q : kbQt} {P : kbM → Prop} (hx : ∀ z : kbM, P (z) → kbR l MX8_passSound 3 Q 122 [some (.ref 43), some (.int v1), some (.int v2), some (.int v3), none, none, none, none] [] z) {rec : Int32 → kbM → Option (kbM)} (hrec : ∀ (v5 : Int32) (μ : kbM), kbG (rec v5 μ) P → kbR l MX8_passSound 3 Q 33 [some (.ref 43), some (.int v1), some (.int v2), some (.int v3), some (.int v4), some (.int v5), none, none] [] μ) (h : kbG (jn_SP_passSound_65 n rec v1 v2 v3 v4 v5 w0 μ) P) : kbR l MX8_passSound 3 Q 65 [some (.ref 43), some (.int v1), some (.int v2), some (.int v3), some (.int v4), some (.int v5), none, none] [.int w0] μ := by
  unfold jn_SP_passSound_65 at h
  refine r_istore dX8_passSound_65 (Nat.le_of_ble_eq_true rfl) rfl ?_
  refine r_aload_n dX8_passSound_67 rfl ?_
  refine r_getR flX8_22 sh43 rfl dX8_passSound_68 ?_
  refine r_iload_n dX8_passSound_71 rfl ?_
  refine r_iload dX8_passSound_72 rfl ?_
  refine r_iadd dX8_passSound_74 ?_
  refine r_iconst 1 dX8_passSound_75 (by decide) ?_
  refine r_isub dX8_passSound_76 ?_
  obtain ⟨hin, h⟩ := kbG_if h
  replace hin := kbIn_of hin
  refine q_iald (((v3 + v5) - 1).toNatClampNeg) rfl sh47 hin dX8_passSound_77 ?_
  refine r_iload dX8_passSound_78 rfl ?_
  refine r_if_eq 87 dX8_passSound_80 (by decide) (fun hc => ?_) (fun hc => ?_)
  · replace h := kbG_t hc h
    refine r_iconst 1 dX8_passSound_87 (by decide) ?_
    refine r_le [some (.ref 43), some (.int v1), some (.int v2), some (.int v3), some (.int v4), some (.int v5), none, none] ⟨rfl, ⟨rfl, ⟨rfl, ⟨rfl, ⟨rfl, ⟨rfl, trivial⟩⟩⟩⟩⟩⟩ ?_
    exact jnR_SP_passSound_88 n v1 v2 v3 v4 v5 (μ.1 47 (((v3 + v5) - 1).toNatClampNeg)) 1 μ (hx := hx) (hrec := hrec) h
  · replace h := kbG_f hc h
    refine r_iconst 0 dX8_passSound_83 (by decide) ?_
    refine r_goto 88 dX8_passSound_84 (by decide) ?_
    refine r_le [some (.ref 43), some (.int v1), some (.int v2), some (.int v3), some (.int v4), some (.int v5), none, none] ⟨rfl, ⟨rfl, ⟨rfl, ⟨rfl, ⟨rfl, ⟨rfl, trivial⟩⟩⟩⟩⟩⟩ ?_
    exact jnR_SP_passSound_88 n v1 v2 v3 v4 v5 (μ.1 47 (((v3 + v5) - 1).toNatClampNeg)) 0 μ (hx := hx) (hrec := hrec) h
def lp_SP_passSound_33 (n : Nat) (v1 : Int32) (v2 : Int32) (v3 : Int32) (v4 : Int32) : Nat → Int32 → kbM → Option (kbM)
  | 0, _, _ => none
  | k + 1, v5, μ =>
    if v5 ≤ 0 then
      some μ
    else
      kbIf (kbIn v2 10) <|
      (f_RO_soundAt (μ.1 14 v2.toNatClampNeg) v4 (v5 - 1)).bind fun x1 =>
      if x1 = v1 then
        jn_SP_passSound_65 n (lp_SP_passSound_33 n v1 v2 v3 v4 k) v1 v2 v3 v4 v5 1 μ
      else
        jn_SP_passSound_65 n (lp_SP_passSound_33 n v1 v2 v3 v4 k) v1 v2 v3 v4 v5 0 μ
theorem lpR_SP_passSound_33 {l : Launch} (n : Nat) (v1 : Int32) (v2 : Int32) (v3 : Int32) (v4 : Int32)  {Q : kbQt} {P : kbM → Prop} (hx : ∀ z : kbM, P (z) → kbR l MX8_passSound 3 Q 122 [some (.ref 43), some (.int v1), some (.int v2), some (.int v3), none, none, none, none] [] z) : ∀ (k : Nat) (v5 : Int32) (μ : kbM), kbG (lp_SP_passSound_33 n v1 v2 v3 v4 k v5 μ) P → kbR l MX8_passSound 3 Q 33 [some (.ref 43), some (.int v1), some (.int v2), some (.int v3), some (.int v4), some (.int v5), none, none] [] μ := by
  intro k
  induction k with
  | zero => intro v5 μ h; exact absurd h kbG_none
  | succ k ih =>
    intro v5 μ h
    unfold lp_SP_passSound_33 at h
    refine r_iload dX8_passSound_33 rfl ?_
    refine r_if_le 122 dX8_passSound_35 (by decide) (fun hc => ?_) (fun hc => ?_)
    · replace h := kbG_t hc h
      refine r_le [some (.ref 43), some (.int v1), some (.int v2), some (.int v3), none, none, none, none] ⟨rfl, ⟨rfl, ⟨rfl, ⟨rfl, trivial⟩⟩⟩⟩ ?_
      exact hx μ (kbG_some h)
    · replace h := kbG_f hc h
      refine r_aload_n dX8_passSound_38 rfl ?_
      refine r_getR flX8_25 sh43 rfl dX8_passSound_39 ?_
      refine r_getR flX8_55 sh13 rfl dX8_passSound_42 ?_
      refine r_iload_n dX8_passSound_45 rfl ?_
      obtain ⟨hin, h⟩ := kbG_if h
      replace hin := kbIn_of hin
      refine q_iald v2.toNatClampNeg rfl sh14 hin dX8_passSound_46 ?_
      refine r_iload dX8_passSound_47 rfl ?_
      refine r_iload dX8_passSound_49 rfl ?_
      refine r_iconst 1 dX8_passSound_51 (by decide) ?_
      refine r_isub dX8_passSound_52 ?_
      obtain ⟨x1, hx0, h⟩ := kbG_bind h
      refine r_inv_i csX8_109 (sp_RO_soundAt (μ.1 14 v2.toNatClampNeg) v4 (v5 - 1) μ hx0) rfl rfl (Nat.le_of_ble_eq_true rfl) (Nat.le_of_ble_eq_true rfl) dX8_passSound_53 ?_
      refine r_iload_n dX8_passSound_56 rfl ?_
      refine r_icmp_ne 64 dX8_passSound_57 (by decide) (fun hc => ?_) (fun hc => ?_)
      · replace h := kbG_f hc h
        refine r_iconst 0 dX8_passSound_64 (by decide) ?_
        refine r_le [some (.ref 43), some (.int v1), some (.int v2), some (.int v3), some (.int v4), some (.int v5), none, none] ⟨rfl, ⟨rfl, ⟨rfl, ⟨rfl, ⟨rfl, ⟨rfl, trivial⟩⟩⟩⟩⟩⟩ ?_
        exact jnR_SP_passSound_65 n v1 v2 v3 v4 v5 0 μ (hx := hx) (hrec := ih) h
      · replace h := kbG_t hc h
        refine r_iconst 1 dX8_passSound_60 (by decide) ?_
        refine r_goto 65 dX8_passSound_61 (by decide) ?_
        refine r_le [some (.ref 43), some (.int v1), some (.int v2), some (.int v3), some (.int v4), some (.int v5), none, none] ⟨rfl, ⟨rfl, ⟨rfl, ⟨rfl, ⟨rfl, ⟨rfl, trivial⟩⟩⟩⟩⟩⟩ ?_
        exact jnR_SP_passSound_65 n v1 v2 v3 v4 v5 1 μ (hx := hx) (hrec := ih) h
def lp_SP_passSound_2 (n : Nat) (v1 : Int32) : Nat → Int32 → kbM → Option (kbM)
  | 0, _, _ => none
  | k + 1, v2, μ =>
    if (μ.1 13 4) ≤ v2 then
      some μ
    else
      kbIf (kbIn v2 10) <|
      (lp_SP_passSound_33 n v1 v2 (v2 * 7) (μ.1 15 v2.toNatClampNeg) n (μ.1 15 v2.toNatClampNeg) μ).bind fun x2 =>
      kbIf (kbIn (v2 * 7) 70) <|
      kbIf (kbIn (v2 * 7) 70) <|
      lp_SP_passSound_2 n v1 k (v2 + 1) (kbW x2 47 ((v2 * 7).toNatClampNeg) ((x2.1 47 ((v2 * 7).toNatClampNeg)) + 1))
theorem lpR_SP_passSound_2 {l : Launch} (n : Nat) (v1 : Int32)  {Q : kbQt} {P : kbM → Prop} (hx : ∀ z : kbM, P (z) → kbR l MX8_passSound 3 Q 138 [none, none, none, none, none, none, none, none] [] z) : ∀ (k : Nat) (v2 : Int32) (μ : kbM), kbG (lp_SP_passSound_2 n v1 k v2 μ) P → kbR l MX8_passSound 3 Q 2 [some (.ref 43), some (.int v1), some (.int v2), none, none, none, none, none] [] μ := by
  intro k
  induction k with
  | zero => intro v2 μ h; exact absurd h kbG_none
  | succ k ih =>
    intro v2 μ h
    unfold lp_SP_passSound_2 at h
    refine r_iload_n dX8_passSound_2 rfl ?_
    refine r_aload_n dX8_passSound_3 rfl ?_
    refine r_getR flX8_25 sh43 rfl dX8_passSound_4 ?_
    refine r_getI flX8_39 sh13 rfl dX8_passSound_7 ?_
    refine r_icmp_ge 138 dX8_passSound_10 (by decide) (fun hc => ?_) (fun hc => ?_)
    · replace h := kbG_t hc h
      refine r_le [none, none, none, none, none, none, none, none] trivial ?_
      exact hx μ (kbG_some h)
    · replace h := kbG_f hc h
      refine r_iload_n dX8_passSound_13 rfl ?_
      refine r_bipush 7 dX8_passSound_14 (by decide) ?_
      refine r_imul dX8_passSound_16 ?_
      refine r_istore_n dX8_passSound_17 (Nat.le_of_ble_eq_true rfl) rfl ?_
      refine r_aload_n dX8_passSound_18 rfl ?_
      refine r_getR flX8_25 sh43 rfl dX8_passSound_19 ?_
      refine r_getR flX8_49 sh13 rfl dX8_passSound_22 ?_
      refine r_iload_n dX8_passSound_25 rfl ?_
      obtain ⟨hin, h⟩ := kbG_if h
      replace hin := kbIn_of hin
      refine q_iald v2.toNatClampNeg rfl sh15 hin dX8_passSound_26 ?_
      refine r_istore dX8_passSound_27 (Nat.le_of_ble_eq_true rfl) rfl ?_
      refine r_iload dX8_passSound_29 rfl ?_
      refine r_istore dX8_passSound_31 (Nat.le_of_ble_eq_true rfl) rfl ?_
      refine r_le [some (.ref 43), some (.int v1), some (.int v2), some (.int (v2 * 7)), some (.int (μ.1 15 v2.toNatClampNeg)), some (.int (μ.1 15 v2.toNatClampNeg)), none, none] ⟨rfl, ⟨rfl, ⟨rfl, ⟨rfl, ⟨rfl, ⟨rfl, trivial⟩⟩⟩⟩⟩⟩ ?_
      obtain ⟨x2, hx0, h⟩ := kbG_bind h
      refine lpR_SP_passSound_33 n v1 v2 (v2 * 7) (μ.1 15 v2.toNatClampNeg) (P := fun z => x2 = z) (hx := fun z e => ?_) n _ _ ⟨_, hx0, rfl⟩
      subst e
      refine r_aload_n dX8_passSound_122 rfl ?_
      refine r_getR flX8_22 sh43 rfl dX8_passSound_123 ?_
      refine r_iload_n dX8_passSound_126 rfl ?_
      refine r_dup2 dX8_passSound_127 rfl rfl ?_
      obtain ⟨hin, h⟩ := kbG_if h
      replace hin := kbIn_of hin
      refine q_iald ((v2 * 7).toNatClampNeg) rfl sh47 hin dX8_passSound_128 ?_
      refine r_iconst 1 dX8_passSound_129 (by decide) ?_
      refine r_iadd dX8_passSound_130 ?_
      obtain ⟨hin, h⟩ := kbG_if h
      replace hin := kbIn_of hin
      refine q_iast ((v2 * 7).toNatClampNeg) rfl sh47 hin dX8_passSound_131 ?_
      refine r_iinc 1 dX8_passSound_132 rfl (by decide) (Nat.le_of_ble_eq_true rfl) rfl ?_
      refine r_goto 2 dX8_passSound_135 (by decide) ?_
      refine r_le [some (.ref 43), some (.int v1), some (.int (v2 + 1)), none, none, none, none, none] ⟨rfl, ⟨rfl, ⟨rfl, trivial⟩⟩⟩ ?_
      exact ih (v2 + 1) (kbW x2 47 ((v2 * 7).toNatClampNeg) ((x2.1 47 ((v2 * 7).toNatClampNeg)) + 1)) h
def f_SP_passSound (n : Nat) (a1 : Int32) (μ : kbM) : Option (kbM) :=
  (lp_SP_passSound_2 n a1 n 0 μ).bind fun x3 =>
  some x3
theorem sp_SP_passSound {l : Launch} (n : Nat) (a1 : Int32) (μ : kbM)  {x : kbM} (h : f_SP_passSound n a1 μ = some x) : kbS l MX8_passSound 3 [.ref 43, .int a1] μ (kbQe none x) := by
  refine kb_enter 6 rfl rfl ?_
  suffices H : ∀ (Q : kbQt) (P : kbM → Prop), (∀ z : kbM, P z → Q none z) → kbG (f_SP_passSound n a1 μ) P → kbR l MX8_passSound 3 Q 0 [some (.ref 43), some (.int a1), none, none, none, none, none, none] [] μ from H _ (fun z => z = x) (fun z e => by subst e; exact ⟨rfl, rfl⟩) ⟨x, h, rfl⟩
  clear h
  intro Q P hr h
  unfold f_SP_passSound at h
  refine r_iconst 0 dX8_passSound_0 (by decide) ?_
  refine r_istore_n dX8_passSound_1 (Nat.le_of_ble_eq_true rfl) rfl ?_
  refine r_le [some (.ref 43), some (.int a1), some (.int 0), none, none, none, none, none] ⟨rfl, ⟨rfl, ⟨rfl, trivial⟩⟩⟩ ?_
  obtain ⟨x3, hx0, h⟩ := kbG_bind h
  refine lpR_SP_passSound_2 n a1 (P := fun z => x3 = z) (hx := fun z e => ?_) n _ _ ⟨_, hx0, rfl⟩
  subst e
  exact r_vret rfl dX8_passSound_138 (hr x3 (kbG_some h))
def lp_SP_stepsToRead_20 (n : Nat) (v2 : Int32) : Nat → Int32 → kbM → Option (kbM)
  | 0, _, _ => none
  | k + 1, v3, μ =>
    if (μ.1 13 4) ≤ v3 then
      some μ
    else
      kbIf (kbIn (v3 * 7) 70) <|
      lp_SP_stepsToRead_20 n v2 k (v3 + 1) (kbW μ 47 ((v3 * 7).toNatClampNeg) 0)
theorem lpR_SP_stepsToRead_20 {l : Launch} (n : Nat) (v2 : Int32)  {Q : kbQt} {P : kbM → Prop} (hx : ∀ z : kbM, P (z) → kbR l MX8_stepsToRead 6 Q 47 [some (.ref 43), none, some (.int v2), none, none] [] z) : ∀ (k : Nat) (v3 : Int32) (μ : kbM), kbG (lp_SP_stepsToRead_20 n v2 k v3 μ) P → kbR l MX8_stepsToRead 6 Q 20 [some (.ref 43), none, some (.int v2), some (.int v3), none] [] μ := by
  intro k
  induction k with
  | zero => intro v3 μ h; exact absurd h kbG_none
  | succ k ih =>
    intro v3 μ h
    unfold lp_SP_stepsToRead_20 at h
    refine r_iload_n dX8_stepsToRead_20 rfl ?_
    refine r_aload_n dX8_stepsToRead_21 rfl ?_
    refine r_getR flX8_25 sh43 rfl dX8_stepsToRead_22 ?_
    refine r_getI flX8_39 sh13 rfl dX8_stepsToRead_25 ?_
    refine r_icmp_ge 47 dX8_stepsToRead_28 (by decide) (fun hc => ?_) (fun hc => ?_)
    · replace h := kbG_t hc h
      refine r_le [some (.ref 43), none, some (.int v2), none, none] ⟨rfl, ⟨rfl, trivial⟩⟩ ?_
      exact hx μ (kbG_some h)
    · replace h := kbG_f hc h
      refine r_aload_n dX8_stepsToRead_31 rfl ?_
      refine r_getR flX8_22 sh43 rfl dX8_stepsToRead_32 ?_
      refine r_iload_n dX8_stepsToRead_35 rfl ?_
      refine r_bipush 7 dX8_stepsToRead_36 (by decide) ?_
      refine r_imul dX8_stepsToRead_38 ?_
      refine r_iconst 0 dX8_stepsToRead_39 (by decide) ?_
      obtain ⟨hin, h⟩ := kbG_if h
      replace hin := kbIn_of hin
      refine q_iast ((v3 * 7).toNatClampNeg) rfl sh47 hin dX8_stepsToRead_40 ?_
      refine r_iinc 1 dX8_stepsToRead_41 rfl (by decide) (Nat.le_of_ble_eq_true rfl) rfl ?_
      refine r_goto 20 dX8_stepsToRead_44 (by decide) ?_
      refine r_le [some (.ref 43), none, some (.int v2), some (.int (v3 + 1)), none] ⟨rfl, ⟨rfl, ⟨rfl, trivial⟩⟩⟩ ?_
      exact ih (v3 + 1) (kbW μ 47 ((v3 * 7).toNatClampNeg) 0) h
def lp_SP_stepsToRead_53 (n : Nat) (v2 : Int32) : Nat → Int32 → kbM → Option (kbM)
  | 0, _, _ => none
  | k + 1, v3, μ =>
    if v2 ≤ v3 then
      some μ
    else
      kbIf (kbIn v3 12) <|
      (f_SP_passSound n (μ.1 46 v3.toNatClampNeg) μ).bind fun x4 =>
      (f_SP_sayMore n x4).bind fun x5 =>
      lp_SP_stepsToRead_53 n v2 k (v3 + 1) x5
theorem lpR_SP_stepsToRead_53 {l : Launch} (n : Nat) (v2 : Int32)  {Q : kbQt} {P : kbM → Prop} (hx : ∀ z : kbM, P (z) → kbR l MX8_stepsToRead 6 Q 78 [some (.ref 43), none, none, none, none] [] z) : ∀ (k : Nat) (v3 : Int32) (μ : kbM), kbG (lp_SP_stepsToRead_53 n v2 k v3 μ) P → kbR l MX8_stepsToRead 6 Q 53 [some (.ref 43), none, some (.int v2), some (.int v3), none] [] μ := by
  intro k
  induction k with
  | zero => intro v3 μ h; exact absurd h kbG_none
  | succ k ih =>
    intro v3 μ h
    unfold lp_SP_stepsToRead_53 at h
    refine r_iload_n dX8_stepsToRead_53 rfl ?_
    refine r_iload_n dX8_stepsToRead_54 rfl ?_
    refine r_icmp_ge 78 dX8_stepsToRead_55 (by decide) (fun hc => ?_) (fun hc => ?_)
    · replace h := kbG_t hc h
      refine r_le [some (.ref 43), none, none, none, none] ⟨rfl, trivial⟩ ?_
      exact hx μ (kbG_some h)
    · replace h := kbG_f hc h
      refine r_aload_n dX8_stepsToRead_58 rfl ?_
      refine r_aload_n dX8_stepsToRead_59 rfl ?_
      refine r_getR flX8_19 sh43 rfl dX8_stepsToRead_60 ?_
      refine r_iload_n dX8_stepsToRead_63 rfl ?_
      obtain ⟨hin, h⟩ := kbG_if h
      replace hin := kbIn_of hin
      refine q_iald v3.toNatClampNeg rfl sh46 hin dX8_stepsToRead_64 ?_
      obtain ⟨x4, hx0, h⟩ := kbG_bind h
      refine r_invV_v cvX8_105 sh43 rfl (sp_SP_passSound n (μ.1 46 v3.toNatClampNeg) μ hx0) rfl rfl (Nat.le_of_ble_eq_true rfl) (Nat.le_of_ble_eq_true rfl) dX8_stepsToRead_65 ?_
      refine r_aload_n dX8_stepsToRead_68 rfl ?_
      obtain ⟨x5, hx0, h⟩ := kbG_bind h
      refine r_invV_v cvX8_102 sh43 rfl (sp_SP_sayMore n x4 hx0) rfl rfl (Nat.le_of_ble_eq_true rfl) (Nat.le_of_ble_eq_true rfl) dX8_stepsToRead_69 ?_
      refine r_iinc 1 dX8_stepsToRead_72 rfl (by decide) (Nat.le_of_ble_eq_true rfl) rfl ?_
      refine r_goto 53 dX8_stepsToRead_75 (by decide) ?_
      refine r_le [some (.ref 43), none, some (.int v2), some (.int (v3 + 1)), none] ⟨rfl, ⟨rfl, ⟨rfl, trivial⟩⟩⟩ ?_
      exact ih (v3 + 1) x5 h
def lp_SP_stepsToRead_84 (n : Nat) (μ : kbM) : Nat → Int32 → Int32 → Option (Int32)
  | 0, _, _ => none
  | k + 1, v3, v4 =>
    if (μ.1 13 4) ≤ v4 then
      some v3
    else
      kbIf (kbIn v4 10) <|
      kbIf (kbIn ((v4 * 7) + (μ.1 15 v4.toNatClampNeg)) 70) <|
      lp_SP_stepsToRead_84 n μ k (kbMin v3 (μ.1 47 (((v4 * 7) + (μ.1 15 v4.toNatClampNeg)).toNatClampNeg))) (v4 + 1)
theorem lpR_SP_stepsToRead_84 {l : Launch} (n : Nat) (μ : kbM)  {Q : kbQt} {P : Int32 → Prop} (hx : ∀ z : Int32, P (z) → kbR l MX8_stepsToRead 6 Q 128 [none, none, none, some (.int z), none] [] μ) : ∀ (k : Nat) (v3 : Int32) (v4 : Int32), kbG (lp_SP_stepsToRead_84 n μ k v3 v4) P → kbR l MX8_stepsToRead 6 Q 84 [some (.ref 43), none, none, some (.int v3), some (.int v4)] [] μ := by
  intro k
  induction k with
  | zero => intro v3 v4 h; exact absurd h kbG_none
  | succ k ih =>
    intro v3 v4 h
    unfold lp_SP_stepsToRead_84 at h
    refine r_iload dX8_stepsToRead_84 rfl ?_
    refine r_aload_n dX8_stepsToRead_86 rfl ?_
    refine r_getR flX8_25 sh43 rfl dX8_stepsToRead_87 ?_
    refine r_getI flX8_39 sh13 rfl dX8_stepsToRead_90 ?_
    refine r_icmp_ge 128 dX8_stepsToRead_93 (by decide) (fun hc => ?_) (fun hc => ?_)
    · replace h := kbG_t hc h
      refine r_le [none, none, none, some (.int v3), none] ⟨rfl, trivial⟩ ?_
      exact hx v3 (kbG_some h)
    · replace h := kbG_f hc h
      refine r_iload_n dX8_stepsToRead_96 rfl ?_
      refine r_aload_n dX8_stepsToRead_97 rfl ?_
      refine r_getR flX8_22 sh43 rfl dX8_stepsToRead_98 ?_
      refine r_iload dX8_stepsToRead_101 rfl ?_
      refine r_bipush 7 dX8_stepsToRead_103 (by decide) ?_
      refine r_imul dX8_stepsToRead_105 ?_
      refine r_aload_n dX8_stepsToRead_106 rfl ?_
      refine r_getR flX8_25 sh43 rfl dX8_stepsToRead_107 ?_
      refine r_getR flX8_49 sh13 rfl dX8_stepsToRead_110 ?_
      refine r_iload dX8_stepsToRead_113 rfl ?_
      obtain ⟨hin, h⟩ := kbG_if h
      replace hin := kbIn_of hin
      refine q_iald v4.toNatClampNeg rfl sh15 hin dX8_stepsToRead_115 ?_
      refine r_iadd dX8_stepsToRead_116 ?_
      obtain ⟨hin, h⟩ := kbG_if h
      replace hin := kbIn_of hin
      refine q_iald (((v4 * 7) + (μ.1 15 v4.toNatClampNeg)).toNatClampNeg) rfl sh47 hin dX8_stepsToRead_117 ?_
      refine r_min mlX8_64 (Nat.le_of_ble_eq_true rfl) (Nat.le_of_ble_eq_true rfl) dX8_stepsToRead_118 ?_
      refine r_istore_n dX8_stepsToRead_121 (Nat.le_of_ble_eq_true rfl) rfl ?_
      refine r_iinc 1 dX8_stepsToRead_122 rfl (by decide) (Nat.le_of_ble_eq_true rfl) rfl ?_
      refine r_goto 84 dX8_stepsToRead_125 (by decide) ?_
      refine r_le [some (.ref 43), none, none, some (.int (kbMin v3 (μ.1 47 (((v4 * 7) + (μ.1 15 v4.toNatClampNeg)).toNatClampNeg)))), some (.int (v4 + 1))] ⟨rfl, ⟨rfl, ⟨rfl, trivial⟩⟩⟩ ?_
      exact ih (kbMin v3 (μ.1 47 (((v4 * 7) + (μ.1 15 v4.toNatClampNeg)).toNatClampNeg))) (v4 + 1) h
def jn_SP_stepsToRead_139 (n : Nat) (w0 : Int32) (μ : kbM) : Option (Int32 × kbM) :=
  some ((w0, μ))
theorem jnR_SP_stepsToRead_139 {l : Launch} (n : Nat)   (w0 : Int32) (μ : kbM) {Q : kbQt} {P : Int32 × kbM → Prop} (hr : ∀ z : Int32 × kbM, P z → Q (some (.int z.1)) z.2) (h : kbG (jn_SP_stepsToRead_139 n w0 μ) P) : kbR l MX8_stepsToRead 6 Q 139 [none, none, none, none, none] [.int w0] μ := by
  unfold jn_SP_stepsToRead_139 at h
  exact r_iret rfl dX8_stepsToRead_139 (hr ((w0, μ)) (kbG_some h))
def f_SP_stepsToRead (n : Nat) (a1 : Int32) (μ : kbM) : Option (Int32 × kbM) :=
  (f_RO_spread_46 n a1 μ).bind fun x1 =>
  (lp_SP_stepsToRead_20 n x1.1 n 0 (kbA x1.2 47 (kbFill (x1.2.1 47) 70 1000000))).bind fun x2 =>
  (f_SP_sayMore n x2).bind fun x3 =>
  (lp_SP_stepsToRead_53 n x1.1 n 0 x3).bind fun x6 =>
  (lp_SP_stepsToRead_84 n x6 n 1000000 0).bind fun x7 =>
  if x7 = 1000000 then
    jn_SP_stepsToRead_139 n (-1) x6
  else
    jn_SP_stepsToRead_139 n x7 x6
theorem sp_SP_stepsToRead {l : Launch} (n : Nat) (a1 : Int32) (μ : kbM)  {x : Int32 × kbM} (h : f_SP_stepsToRead n a1 μ = some x) : kbS l MX8_stepsToRead 6 [.ref 43, .int a1] μ (kbQe (some (.int x.1)) x.2) := by
  refine kb_enter 3 rfl rfl ?_
  suffices H : ∀ (Q : kbQt) (P : Int32 × kbM → Prop), (∀ z : Int32 × kbM, P z → Q (some (.int z.1)) z.2) → kbG (f_SP_stepsToRead n a1 μ) P → kbR l MX8_stepsToRead 6 Q 0 [some (.ref 43), some (.int a1), none, none, none] [] μ from H _ (fun z => z = x) (fun z e => by subst e; exact ⟨rfl, rfl⟩) ⟨x, h, rfl⟩
  clear h
  intro Q P hr h
  unfold f_SP_stepsToRead at h
  refine r_iload_n dX8_stepsToRead_0 rfl ?_
  refine r_aload_n dX8_stepsToRead_1 rfl ?_
  refine r_getR flX8_19 sh43 rfl dX8_stepsToRead_2 ?_
  obtain ⟨x1, hx0, h⟩ := kbG_bind h
  refine r_inv_i csX8_91 (sp_RO_spread_46 n a1 μ hx0) rfl rfl (Nat.le_of_ble_eq_true rfl) (Nat.le_of_ble_eq_true rfl) dX8_stepsToRead_5 ?_
  refine r_istore_n dX8_stepsToRead_8 (Nat.le_of_ble_eq_true rfl) rfl ?_
  refine r_aload_n dX8_stepsToRead_9 rfl ?_
  refine r_getR flX8_22 sh43 rfl dX8_stepsToRead_10 ?_
  refine r_ldc 1000000 liX8_95 dX8_stepsToRead_13 ?_
  refine r_inv_v csX8_96 (sp_fill sh47 (by decide) 1000000 _) rfl rfl (Nat.le_of_ble_eq_true rfl) (Nat.le_of_ble_eq_true rfl) dX8_stepsToRead_15 ?_
  refine r_iconst 0 dX8_stepsToRead_18 (by decide) ?_
  refine r_istore_n dX8_stepsToRead_19 (Nat.le_of_ble_eq_true rfl) rfl ?_
  refine r_le [some (.ref 43), none, some (.int x1.1), some (.int 0), none] ⟨rfl, ⟨rfl, ⟨rfl, trivial⟩⟩⟩ ?_
  obtain ⟨x2, hx0, h⟩ := kbG_bind h
  refine lpR_SP_stepsToRead_20 n x1.1 (P := fun z => x2 = z) (hx := fun z e => ?_) n _ _ ⟨_, hx0, rfl⟩
  subst e
  refine r_aload_n dX8_stepsToRead_47 rfl ?_
  obtain ⟨x3, hx0, h⟩ := kbG_bind h
  refine r_invV_v cvX8_102 sh43 rfl (sp_SP_sayMore n x2 hx0) rfl rfl (Nat.le_of_ble_eq_true rfl) (Nat.le_of_ble_eq_true rfl) dX8_stepsToRead_48 ?_
  refine r_iconst 0 dX8_stepsToRead_51 (by decide) ?_
  refine r_istore_n dX8_stepsToRead_52 (Nat.le_of_ble_eq_true rfl) rfl ?_
  refine r_le [some (.ref 43), none, some (.int x1.1), some (.int 0), none] ⟨rfl, ⟨rfl, ⟨rfl, trivial⟩⟩⟩ ?_
  obtain ⟨x6, hx0, h⟩ := kbG_bind h
  refine lpR_SP_stepsToRead_53 n x1.1 (P := fun z => x6 = z) (hx := fun z e => ?_) n _ _ ⟨_, hx0, rfl⟩
  subst e
  refine r_ldc 1000000 liX8_95 dX8_stepsToRead_78 ?_
  refine r_istore_n dX8_stepsToRead_80 (Nat.le_of_ble_eq_true rfl) rfl ?_
  refine r_iconst 0 dX8_stepsToRead_81 (by decide) ?_
  refine r_istore dX8_stepsToRead_82 (Nat.le_of_ble_eq_true rfl) rfl ?_
  refine r_le [some (.ref 43), none, none, some (.int 1000000), some (.int 0)] ⟨rfl, ⟨rfl, ⟨rfl, trivial⟩⟩⟩ ?_
  obtain ⟨x7, hx0, h⟩ := kbG_bind h
  refine lpR_SP_stepsToRead_84 n x6 (P := fun z => x7 = z) (hx := fun z e => ?_) n _ _ ⟨_, hx0, rfl⟩
  subst e
  refine r_iload_n dX8_stepsToRead_128 rfl ?_
  refine r_ldc 1000000 liX8_95 dX8_stepsToRead_129 ?_
  refine r_icmp_ne 138 dX8_stepsToRead_131 (by decide) (fun hc => ?_) (fun hc => ?_)
  · replace h := kbG_f hc h
    refine r_iload_n dX8_stepsToRead_138 rfl ?_
    refine r_le [none, none, none, none, none] trivial ?_
    exact jnR_SP_stepsToRead_139 n x7 x6 (hr := hr) h
  · replace h := kbG_t hc h
    refine r_iconst (-1) dX8_stepsToRead_134 (by decide) ?_
    refine r_goto 139 dX8_stepsToRead_135 (by decide) ?_
    refine r_le [none, none, none, none, none] trivial ?_
    exact jnR_SP_stepsToRead_139 n (-1) x6 (hr := hr) h
def jn_SP_layWorth_125 (n : Nat) (rec : Int32 → kbM → Option (kbM)) (v2 : Int32) (v3 : Int32) (v4 : Int32) (v5 : Int32) (μ : kbM) : Option (kbM) :=
  rec (v5 + 1) μ
theorem jnR_SP_layWorth_125 {l : Launch} (n : Nat)   (v2 : Int32) (v3 : Int32) (v4 : Int32) (v5 : Int32) (μ : kbM) {Q : kbQt} {P : kbM → Prop} (hx : ∀ z : kbM, P (z) → kbR l MX8_layWorth 4 Q 131 [none, none, none, none, none, none, none] [] z) {rec : Int32 → kbM → Option (kbM)} (hrec : ∀ (v5 : Int32) (μ : kbM), kbG (rec v5 μ) P → kbR l MX8_layWorth 4 Q 47 [some (.ref 43), none, some (.int v2), some (.int v3), some (.int v4), some (.int v5), none] [] μ) (h : kbG (jn_SP_layWorth_125 n rec v2 v3 v4 v5 μ) P) : kbR l MX8_layWorth 4 Q 125 [some (.ref 43), none, some (.int v2), some (.int v3), some (.int v4), some (.int v5), none] [] μ := by
  unfold jn_SP_layWorth_125 at h
  refine r_iinc 1 dX8_layWorth_125 rfl (by decide) (Nat.le_of_ble_eq_true rfl) rfl ?_
  refine r_goto 47 dX8_layWorth_128 (by decide) ?_
  refine r_le [some (.ref 43), none, some (.int v2), some (.int v3), some (.int v4), some (.int (v5 + 1)), none] ⟨rfl, ⟨rfl, ⟨rfl, ⟨rfl, ⟨rfl, trivial⟩⟩⟩⟩⟩ ?_
  exact hrec (v5 + 1) μ h
def lp_SP_layWorth_47 (n : Nat) (v2 : Int32) (v3 : Int32) (v4 : Int32) : Nat → Int32 → kbM → Option (kbM)
  | 0, _, _ => none
  | k + 1, v5, μ =>
    if v4 ≤ 0 then
      some μ
    else
      if (μ.1 13 4) ≤ v5 then
        some μ
      else
        kbIf (kbIn ((v4 * 10) + v5) 130) <|
        if (μ.1 45 (((v4 * 10) + v5).toNatClampNeg)) = (-1) then
          jn_SP_layWorth_125 n (lp_SP_layWorth_47 n v2 v3 v4 k) v2 v3 v4 v5 μ
        else
          (f_JO_mayFollow n v2 v5 μ).bind fun x1 =>
          if x1.1 = 0 then
            jn_SP_layWorth_125 n (lp_SP_layWorth_47 n v2 v3 v4 k) v2 v3 v4 v5 x1.2
          else
            kbIf (kbIn v3 130) <|
            kbIf (kbIn v2 10) <|
            kbIf (kbIn v3 130) <|
            jn_SP_layWorth_125 n (lp_SP_layWorth_47 n v2 v3 v4 k) v2 v3 v4 v5 (kbW x1.2 45 v3.toNatClampNeg (kbMax (x1.2.1 45 v3.toNatClampNeg) ((μ.1 45 (((v4 * 10) + v5).toNatClampNeg)) + (x1.2.1 17 v2.toNatClampNeg))))
theorem lpR_SP_layWorth_47 {l : Launch} (n : Nat) (v2 : Int32) (v3 : Int32) (v4 : Int32)  {Q : kbQt} {P : kbM → Prop} (hx : ∀ z : kbM, P (z) → kbR l MX8_layWorth 4 Q 131 [none, none, none, none, none, none, none] [] z) : ∀ (k : Nat) (v5 : Int32) (μ : kbM), kbG (lp_SP_layWorth_47 n v2 v3 v4 k v5 μ) P → kbR l MX8_layWorth 4 Q 47 [some (.ref 43), none, some (.int v2), some (.int v3), some (.int v4), some (.int v5), none] [] μ := by
  intro k
  induction k with
  | zero => intro v5 μ h; exact absurd h kbG_none
  | succ k ih =>
    intro v5 μ h
    unfold lp_SP_layWorth_47 at h
    refine r_iload dX8_layWorth_47 rfl ?_
    refine r_if_le 131 dX8_layWorth_49 (by decide) (fun hc => ?_) (fun hc => ?_)
    · replace h := kbG_t hc h
      refine r_le [none, none, none, none, none, none, none] trivial ?_
      exact hx μ (kbG_some h)
    · replace h := kbG_f hc h
      refine r_iload dX8_layWorth_52 rfl ?_
      refine r_aload_n dX8_layWorth_54 rfl ?_
      refine r_getR flX8_25 sh43 rfl dX8_layWorth_55 ?_
      refine r_getI flX8_39 sh13 rfl dX8_layWorth_58 ?_
      refine r_icmp_ge 131 dX8_layWorth_61 (by decide) (fun hc => ?_) (fun hc => ?_)
      · replace h := kbG_t hc h
        refine r_le [none, none, none, none, none, none, none] trivial ?_
        exact hx μ (kbG_some h)
      · replace h := kbG_f hc h
        refine r_aload_n dX8_layWorth_64 rfl ?_
        refine r_getR flX8_15 sh43 rfl dX8_layWorth_65 ?_
        refine r_iload dX8_layWorth_68 rfl ?_
        refine r_bipush 10 dX8_layWorth_70 (by decide) ?_
        refine r_imul dX8_layWorth_72 ?_
        refine r_iload dX8_layWorth_73 rfl ?_
        refine r_iadd dX8_layWorth_75 ?_
        obtain ⟨hin, h⟩ := kbG_if h
        replace hin := kbIn_of hin
        refine q_iald (((v4 * 10) + v5).toNatClampNeg) rfl sh45 hin dX8_layWorth_76 ?_
        refine r_istore dX8_layWorth_77 (Nat.le_of_ble_eq_true rfl) rfl ?_
        refine r_iload dX8_layWorth_79 rfl ?_
        refine r_iconst (-1) dX8_layWorth_81 (by decide) ?_
        refine r_icmp_eq 125 dX8_layWorth_82 (by decide) (fun hc => ?_) (fun hc => ?_)
        · replace h := kbG_t hc h
          refine r_le [some (.ref 43), none, some (.int v2), some (.int v3), some (.int v4), some (.int v5), none] ⟨rfl, ⟨rfl, ⟨rfl, ⟨rfl, ⟨rfl, trivial⟩⟩⟩⟩⟩ ?_
          exact jnR_SP_layWorth_125 n v2 v3 v4 v5 μ (hx := hx) (hrec := ih) h
        · replace h := kbG_f hc h
          refine r_aload_n dX8_layWorth_85 rfl ?_
          refine r_getR flX8_29 sh43 rfl dX8_layWorth_86 ?_
          refine r_iload_n dX8_layWorth_89 rfl ?_
          refine r_iload dX8_layWorth_90 rfl ?_
          obtain ⟨x1, hx0, h⟩ := kbG_bind h
          refine r_invV_i cvX8_58 sh35 rfl (sp_JO_mayFollow n v2 v5 μ hx0) rfl rfl (Nat.le_of_ble_eq_true rfl) (Nat.le_of_ble_eq_true rfl) dX8_layWorth_92 ?_
          refine r_if_eq 125 dX8_layWorth_95 (by decide) (fun hc => ?_) (fun hc => ?_)
          · replace h := kbG_t hc h
            refine r_le [some (.ref 43), none, some (.int v2), some (.int v3), some (.int v4), some (.int v5), none] ⟨rfl, ⟨rfl, ⟨rfl, ⟨rfl, ⟨rfl, trivial⟩⟩⟩⟩⟩ ?_
            exact jnR_SP_layWorth_125 n v2 v3 v4 v5 x1.2 (hx := hx) (hrec := ih) h
          · replace h := kbG_f hc h
            refine r_aload_n dX8_layWorth_98 rfl ?_
            refine r_getR flX8_15 sh43 rfl dX8_layWorth_99 ?_
            refine r_iload_n dX8_layWorth_102 rfl ?_
            refine r_aload_n dX8_layWorth_103 rfl ?_
            refine r_getR flX8_15 sh43 rfl dX8_layWorth_104 ?_
            refine r_iload_n dX8_layWorth_107 rfl ?_
            obtain ⟨hin, h⟩ := kbG_if h
            replace hin := kbIn_of hin
            refine q_iald v3.toNatClampNeg rfl sh45 hin dX8_layWorth_108 ?_
            refine r_iload dX8_layWorth_109 rfl ?_
            refine r_aload_n dX8_layWorth_111 rfl ?_
            refine r_getR flX8_25 sh43 rfl dX8_layWorth_112 ?_
            refine r_getR flX8_88 sh13 rfl dX8_layWorth_115 ?_
            refine r_iload_n dX8_layWorth_118 rfl ?_
            obtain ⟨hin, h⟩ := kbG_if h
            replace hin := kbIn_of hin
            refine q_iald v2.toNatClampNeg rfl sh17 hin dX8_layWorth_119 ?_
            refine r_iadd dX8_layWorth_120 ?_
            refine r_max mlX8_85 (Nat.le_of_ble_eq_true rfl) (Nat.le_of_ble_eq_true rfl) dX8_layWorth_121 ?_
            obtain ⟨hin, h⟩ := kbG_if h
            replace hin := kbIn_of hin
            refine q_iast v3.toNatClampNeg rfl sh45 hin dX8_layWorth_124 ?_
            refine r_le [some (.ref 43), none, some (.int v2), some (.int v3), some (.int v4), some (.int v5), none] ⟨rfl, ⟨rfl, ⟨rfl, ⟨rfl, ⟨rfl, trivial⟩⟩⟩⟩⟩ ?_
            exact jnR_SP_layWorth_125 n v2 v3 v4 v5 (kbW x1.2 45 v3.toNatClampNeg (kbMax (x1.2.1 45 v3.toNatClampNeg) ((μ.1 45 (((v4 * 10) + v5).toNatClampNeg)) + (x1.2.1 17 v2.toNatClampNeg)))) (hx := hx) (hrec := ih) h
def jn_SP_layWorth_131 (n : Nat) (μ : kbM) : Option (kbM) :=
  some μ
theorem jnR_SP_layWorth_131 {l : Launch} (n : Nat)    (μ : kbM) {Q : kbQt} {P : kbM → Prop} (hr : ∀ z : kbM, P z → Q none z) (h : kbG (jn_SP_layWorth_131 n μ) P) : kbR l MX8_layWorth 4 Q 131 [none, none, none, none, none, none, none] [] μ := by
  unfold jn_SP_layWorth_131 at h
  exact r_vret rfl dX8_layWorth_131 (hr μ (kbG_some h))
def jn_SP_layWorth_43 (n : Nat) (v2 : Int32) (v3 : Int32) (v4 : Int32) (w1 : Int32) (w2 : Int32) (μ : kbM) : Option (kbM) :=
  kbIf (kbIn w1 130) <|
  (lp_SP_layWorth_47 n v2 v3 v4 n 0 (kbW μ 45 w1.toNatClampNeg w2)).bind fun x2 =>
  jn_SP_layWorth_131 n x2
theorem jnR_SP_layWorth_43 {l : Launch} (n : Nat)   (v2 : Int32) (v3 : Int32) (v4 : Int32) (w1 : Int32) (w2 : Int32) (μ : kbM) {Q : kbQt} {P : kbM → Prop} (hr : ∀ z : kbM, P z → Q none z) (h : kbG (jn_SP_layWorth_43 n v2 v3 v4 w1 w2 μ) P) : kbR l MX8_layWorth 4 Q 43 [some (.ref 43), none, some (.int v2), some (.int v3), some (.int v4), none, none] [.int w2, .int w1, .ref 45] μ := by
  unfold jn_SP_layWorth_43 at h
  obtain ⟨hin, h⟩ := kbG_if h
  replace hin := kbIn_of hin
  refine q_iast w1.toNatClampNeg rfl sh45 hin dX8_layWorth_43 ?_
  refine r_iconst 0 dX8_layWorth_44 (by decide) ?_
  refine r_istore dX8_layWorth_45 (Nat.le_of_ble_eq_true rfl) rfl ?_
  refine r_le [some (.ref 43), none, some (.int v2), some (.int v3), some (.int v4), some (.int 0), none] ⟨rfl, ⟨rfl, ⟨rfl, ⟨rfl, ⟨rfl, trivial⟩⟩⟩⟩⟩ ?_
  obtain ⟨x2, hx0, h⟩ := kbG_bind h
  refine lpR_SP_layWorth_47 n v2 v3 v4 (P := fun z => x2 = z) (hx := fun z e => ?_) n _ _ ⟨_, hx0, rfl⟩
  subst e
  refine r_le [none, none, none, none, none, none, none] trivial ?_
  exact jnR_SP_layWorth_131 n  x2 (hr := hr) h
def f_SP_layWorth (n : Nat) (a1 : Int32) (a2 : Int32) (μ : kbM) : Option (kbM) :=
  kbIf (kbIn a2 10) <|
  if (a1 - (μ.1 15 a2.toNatClampNeg)) = 0 then
    kbIf (kbIn a2 10) <|
    jn_SP_layWorth_43 n a2 ((a1 * 10) + a2) (a1 - (μ.1 15 a2.toNatClampNeg)) ((a1 * 10) + a2) (μ.1 17 a2.toNatClampNeg) μ
  else
    jn_SP_layWorth_43 n a2 ((a1 * 10) + a2) (a1 - (μ.1 15 a2.toNatClampNeg)) ((a1 * 10) + a2) (-1) μ
theorem sp_SP_layWorth {l : Launch} (n : Nat) (a1 : Int32) (a2 : Int32) (μ : kbM)  {x : kbM} (h : f_SP_layWorth n a1 a2 μ = some x) : kbS l MX8_layWorth 4 [.ref 43, .int a1, .int a2] μ (kbQe none x) := by
  refine kb_enter 4 rfl rfl ?_
  suffices H : ∀ (Q : kbQt) (P : kbM → Prop), (∀ z : kbM, P z → Q none z) → kbG (f_SP_layWorth n a1 a2 μ) P → kbR l MX8_layWorth 4 Q 0 [some (.ref 43), some (.int a1), some (.int a2), none, none, none, none] [] μ from H _ (fun z => z = x) (fun z e => by subst e; exact ⟨rfl, rfl⟩) ⟨x, h, rfl⟩
  clear h
  intro Q P hr h
  unfold f_SP_layWorth at h
  refine r_iload_n dX8_layWorth_0 rfl ?_
  refine r_bipush 10 dX8_layWorth_1 (by decide) ?_
  refine r_imul dX8_layWorth_3 ?_
  refine r_iload_n dX8_layWorth_4 rfl ?_
  refine r_iadd dX8_layWorth_5 ?_
  refine r_istore_n dX8_layWorth_6 (Nat.le_of_ble_eq_true rfl) rfl ?_
  refine r_iload_n dX8_layWorth_7 rfl ?_
  refine r_aload_n dX8_layWorth_8 rfl ?_
  refine r_getR flX8_25 sh43 rfl dX8_layWorth_9 ?_
  refine r_getR flX8_49 sh13 rfl dX8_layWorth_12 ?_
  refine r_iload_n dX8_layWorth_15 rfl ?_
  obtain ⟨hin, h⟩ := kbG_if h
  replace hin := kbIn_of hin
  refine q_iald a2.toNatClampNeg rfl sh15 hin dX8_layWorth_16 ?_
  refine r_isub dX8_layWorth_17 ?_
  refine r_istore dX8_layWorth_18 (Nat.le_of_ble_eq_true rfl) rfl ?_
  refine r_aload_n dX8_layWorth_20 rfl ?_
  refine r_getR flX8_15 sh43 rfl dX8_layWorth_21 ?_
  refine r_iload_n dX8_layWorth_24 rfl ?_
  refine r_iload dX8_layWorth_25 rfl ?_
  refine r_if_ne 42 dX8_layWorth_27 (by decide) (fun hc => ?_) (fun hc => ?_)
  · replace h := kbG_f hc h
    refine r_iconst (-1) dX8_layWorth_42 (by decide) ?_
    refine r_le [some (.ref 43), none, some (.int a2), some (.int ((a1 * 10) + a2)), some (.int (a1 - (μ.1 15 a2.toNatClampNeg))), none, none] ⟨rfl, ⟨rfl, ⟨rfl, ⟨rfl, trivial⟩⟩⟩⟩ ?_
    exact jnR_SP_layWorth_43 n a2 ((a1 * 10) + a2) (a1 - (μ.1 15 a2.toNatClampNeg)) ((a1 * 10) + a2) (-1) μ (hr := hr) h
  · replace h := kbG_t hc h
    refine r_aload_n dX8_layWorth_30 rfl ?_
    refine r_getR flX8_25 sh43 rfl dX8_layWorth_31 ?_
    refine r_getR flX8_88 sh13 rfl dX8_layWorth_34 ?_
    refine r_iload_n dX8_layWorth_37 rfl ?_
    obtain ⟨hin, h⟩ := kbG_if h
    replace hin := kbIn_of hin
    refine q_iald a2.toNatClampNeg rfl sh17 hin dX8_layWorth_38 ?_
    refine r_goto 43 dX8_layWorth_39 (by decide) ?_
    refine r_le [some (.ref 43), none, some (.int a2), some (.int ((a1 * 10) + a2)), some (.int (a1 - (μ.1 15 a2.toNatClampNeg))), none, none] ⟨rfl, ⟨rfl, ⟨rfl, ⟨rfl, trivial⟩⟩⟩⟩ ?_
    exact jnR_SP_layWorth_43 n a2 ((a1 * 10) + a2) (a1 - (μ.1 15 a2.toNatClampNeg)) ((a1 * 10) + a2) (μ.1 17 a2.toNatClampNeg) μ (hr := hr) h
def lp_SP_mostWorth_12 (n : Nat) (v1 : Int32) (v3 : Int32) : Nat → Int32 → Int32 → kbM → Option (Int32 × kbM)
  | 0, _, _, _ => none
  | k + 1, v2, v4, μ =>
    if (μ.1 13 4) ≤ v4 then
      some ((v2, μ))
    else
      (f_SP_layWorth n v3 v4 μ).bind fun x1 =>
      kbIf (kbIn ((v3 * 10) + v4) 130) <|
      lp_SP_mostWorth_12 n v1 v3 k (kbMax v2 (x1.1 45 (((v3 * 10) + v4).toNatClampNeg))) (v4 + 1) x1
theorem lpR_SP_mostWorth_12 {l : Launch} (n : Nat) (v1 : Int32) (v3 : Int32)  {Q : kbQt} {P : Int32 × kbM → Prop} (hx : ∀ z : Int32 × kbM, P (z) → kbR l MX8_mostWorth 5 Q 54 [some (.ref 43), some (.int v1), some (.int z.1), some (.int v3), none] [] z.2) : ∀ (k : Nat) (v2 : Int32) (v4 : Int32) (μ : kbM), kbG (lp_SP_mostWorth_12 n v1 v3 k v2 v4 μ) P → kbR l MX8_mostWorth 5 Q 12 [some (.ref 43), some (.int v1), some (.int v2), some (.int v3), some (.int v4)] [] μ := by
  intro k
  induction k with
  | zero => intro v2 v4 μ h; exact absurd h kbG_none
  | succ k ih =>
    intro v2 v4 μ h
    unfold lp_SP_mostWorth_12 at h
    refine r_iload dX8_mostWorth_12 rfl ?_
    refine r_aload_n dX8_mostWorth_14 rfl ?_
    refine r_getR flX8_25 sh43 rfl dX8_mostWorth_15 ?_
    refine r_getI flX8_39 sh13 rfl dX8_mostWorth_18 ?_
    refine r_icmp_ge 54 dX8_mostWorth_21 (by decide) (fun hc => ?_) (fun hc => ?_)
    · replace h := kbG_t hc h
      refine r_le [some (.ref 43), some (.int v1), some (.int v2), some (.int v3), none] ⟨rfl, ⟨rfl, ⟨rfl, ⟨rfl, trivial⟩⟩⟩⟩ ?_
      exact hx ((v2, μ)) (kbG_some h)
    · replace h := kbG_f hc h
      refine r_aload_n dX8_mostWorth_24 rfl ?_
      refine r_iload_n dX8_mostWorth_25 rfl ?_
      refine r_iload dX8_mostWorth_26 rfl ?_
      obtain ⟨x1, hx0, h⟩ := kbG_bind h
      refine r_invV_v cvX8_82 sh43 rfl (sp_SP_layWorth n v3 v4 μ hx0) rfl rfl (Nat.le_of_ble_eq_true rfl) (Nat.le_of_ble_eq_true rfl) dX8_mostWorth_28 ?_
      refine r_iload_n dX8_mostWorth_31 rfl ?_
      refine r_aload_n dX8_mostWorth_32 rfl ?_
      refine r_getR flX8_15 sh43 rfl dX8_mostWorth_33 ?_
      refine r_iload_n dX8_mostWorth_36 rfl ?_
      refine r_bipush 10 dX8_mostWorth_37 (by decide) ?_
      refine r_imul dX8_mostWorth_39 ?_
      refine r_iload dX8_mostWorth_40 rfl ?_
      refine r_iadd dX8_mostWorth_42 ?_
      obtain ⟨hin, h⟩ := kbG_if h
      replace hin := kbIn_of hin
      refine q_iald (((v3 * 10) + v4).toNatClampNeg) rfl sh45 hin dX8_mostWorth_43 ?_
      refine r_max mlX8_85 (Nat.le_of_ble_eq_true rfl) (Nat.le_of_ble_eq_true rfl) dX8_mostWorth_44 ?_
      refine r_istore_n dX8_mostWorth_47 (Nat.le_of_ble_eq_true rfl) rfl ?_
      refine r_iinc 1 dX8_mostWorth_48 rfl (by decide) (Nat.le_of_ble_eq_true rfl) rfl ?_
      refine r_goto 12 dX8_mostWorth_51 (by decide) ?_
      refine r_le [some (.ref 43), some (.int v1), some (.int (kbMax v2 (x1.1 45 (((v3 * 10) + v4).toNatClampNeg)))), some (.int v3), some (.int (v4 + 1))] ⟨rfl, ⟨rfl, ⟨rfl, ⟨rfl, ⟨rfl, trivial⟩⟩⟩⟩⟩ ?_
      exact ih (kbMax v2 (x1.1 45 (((v3 * 10) + v4).toNatClampNeg))) (v4 + 1) x1 h
def lp_SP_mostWorth_4 (n : Nat) (v1 : Int32) : Nat → Int32 → Int32 → kbM → Option (Int32 × kbM)
  | 0, _, _, _ => none
  | k + 1, v2, v3, μ =>
    if v1 < v3 then
      some ((v2, μ))
    else
      (lp_SP_mostWorth_12 n v1 v3 n v2 0 μ).bind fun x2 =>
      lp_SP_mostWorth_4 n v1 k x2.1 (v3 + 1) x2.2
theorem lpR_SP_mostWorth_4 {l : Launch} (n : Nat) (v1 : Int32)  {Q : kbQt} {P : Int32 × kbM → Prop} (hx : ∀ z : Int32 × kbM, P (z) → kbR l MX8_mostWorth 5 Q 60 [none, none, some (.int z.1), none, none] [] z.2) : ∀ (k : Nat) (v2 : Int32) (v3 : Int32) (μ : kbM), kbG (lp_SP_mostWorth_4 n v1 k v2 v3 μ) P → kbR l MX8_mostWorth 5 Q 4 [some (.ref 43), some (.int v1), some (.int v2), some (.int v3), none] [] μ := by
  intro k
  induction k with
  | zero => intro v2 v3 μ h; exact absurd h kbG_none
  | succ k ih =>
    intro v2 v3 μ h
    unfold lp_SP_mostWorth_4 at h
    refine r_iload_n dX8_mostWorth_4 rfl ?_
    refine r_iload_n dX8_mostWorth_5 rfl ?_
    refine r_icmp_gt 60 dX8_mostWorth_6 (by decide) (fun hc => ?_) (fun hc => ?_)
    · replace h := kbG_t hc h
      refine r_le [none, none, some (.int v2), none, none] ⟨rfl, trivial⟩ ?_
      exact hx ((v2, μ)) (kbG_some h)
    · replace h := kbG_f hc h
      refine r_iconst 0 dX8_mostWorth_9 (by decide) ?_
      refine r_istore dX8_mostWorth_10 (Nat.le_of_ble_eq_true rfl) rfl ?_
      refine r_le [some (.ref 43), some (.int v1), some (.int v2), some (.int v3), some (.int 0)] ⟨rfl, ⟨rfl, ⟨rfl, ⟨rfl, ⟨rfl, trivial⟩⟩⟩⟩⟩ ?_
      obtain ⟨x2, hx0, h⟩ := kbG_bind h
      refine lpR_SP_mostWorth_12 n v1 v3 (P := fun z => x2 = z) (hx := fun z e => ?_) n _ _ _ ⟨_, hx0, rfl⟩
      subst e
      refine r_iinc 1 dX8_mostWorth_54 rfl (by decide) (Nat.le_of_ble_eq_true rfl) rfl ?_
      refine r_goto 4 dX8_mostWorth_57 (by decide) ?_
      refine r_le [some (.ref 43), some (.int v1), some (.int x2.1), some (.int (v3 + 1)), none] ⟨rfl, ⟨rfl, ⟨rfl, ⟨rfl, trivial⟩⟩⟩⟩ ?_
      exact ih x2.1 (v3 + 1) x2.2 h
def f_SP_mostWorth (n : Nat) (a1 : Int32) (μ : kbM) : Option (Int32 × kbM) :=
  (lp_SP_mostWorth_4 n a1 n 0 1 μ).bind fun x3 =>
  some ((x3.1, x3.2))
theorem sp_SP_mostWorth {l : Launch} (n : Nat) (a1 : Int32) (μ : kbM)  {x : Int32 × kbM} (h : f_SP_mostWorth n a1 μ = some x) : kbS l MX8_mostWorth 5 [.ref 43, .int a1] μ (kbQe (some (.int x.1)) x.2) := by
  refine kb_enter 3 rfl rfl ?_
  suffices H : ∀ (Q : kbQt) (P : Int32 × kbM → Prop), (∀ z : Int32 × kbM, P z → Q (some (.int z.1)) z.2) → kbG (f_SP_mostWorth n a1 μ) P → kbR l MX8_mostWorth 5 Q 0 [some (.ref 43), some (.int a1), none, none, none] [] μ from H _ (fun z => z = x) (fun z e => by subst e; exact ⟨rfl, rfl⟩) ⟨x, h, rfl⟩
  clear h
  intro Q P hr h
  unfold f_SP_mostWorth at h
  refine r_iconst 0 dX8_mostWorth_0 (by decide) ?_
  refine r_istore_n dX8_mostWorth_1 (Nat.le_of_ble_eq_true rfl) rfl ?_
  refine r_iconst 1 dX8_mostWorth_2 (by decide) ?_
  refine r_istore_n dX8_mostWorth_3 (Nat.le_of_ble_eq_true rfl) rfl ?_
  refine r_le [some (.ref 43), some (.int a1), some (.int 0), some (.int 1), none] ⟨rfl, ⟨rfl, ⟨rfl, ⟨rfl, trivial⟩⟩⟩⟩ ?_
  obtain ⟨x3, hx0, h⟩ := kbG_bind h
  refine lpR_SP_mostWorth_4 n a1 (P := fun z => x3 = z) (hx := fun z e => ?_) n _ _ _ ⟨_, hx0, rfl⟩
  subst e
  refine r_iload_n dX8_mostWorth_60 rfl ?_
  exact r_iret rfl dX8_mostWorth_61 (hr ((x3.1, x3.2)) (kbG_some h))
def jn_SP_countRows_109 (n : Nat) (rec : Int32 → kbM → Option (kbM)) (v2 : Int32) (v3 : Int32) (v4 : Int32) (v5 : Int32) (μ : kbM) : Option (kbM) :=
  rec (v5 + 1) μ
theorem jnR_SP_countRows_109 {l : Launch} (n : Nat)   (v2 : Int32) (v3 : Int32) (v4 : Int32) (v5 : Int32) (μ : kbM) {Q : kbQt} {P : kbM → Prop} (hx : ∀ z : kbM, P (z) → kbR l MX8_countRows 4 Q 115 [none, none, none, none, none, none] [] z) {rec : Int32 → kbM → Option (kbM)} (hrec : ∀ (v5 : Int32) (μ : kbM), kbG (rec v5 μ) P → kbR l MX8_countRows 4 Q 39 [some (.ref 43), none, some (.int v2), some (.int v3), some (.int v4), some (.int v5)] [] μ) (h : kbG (jn_SP_countRows_109 n rec v2 v3 v4 v5 μ) P) : kbR l MX8_countRows 4 Q 109 [some (.ref 43), none, some (.int v2), some (.int v3), some (.int v4), some (.int v5)] [] μ := by
  unfold jn_SP_countRows_109 at h
  refine r_iinc 1 dX8_countRows_109 rfl (by decide) (Nat.le_of_ble_eq_true rfl) rfl ?_
  refine r_goto 39 dX8_countRows_112 (by decide) ?_
  refine r_le [some (.ref 43), none, some (.int v2), some (.int v3), some (.int v4), some (.int (v5 + 1))] ⟨rfl, ⟨rfl, ⟨rfl, ⟨rfl, ⟨rfl, trivial⟩⟩⟩⟩⟩ ?_
  exact hrec (v5 + 1) μ h
def lp_SP_countRows_39 (n : Nat) (v2 : Int32) (v3 : Int32) (v4 : Int32) : Nat → Int32 → kbM → Option (kbM)
  | 0, _, _ => none
  | k + 1, v5, μ =>
    if v4 ≤ 0 then
      some μ
    else
      if (μ.1 13 4) ≤ v5 then
        some μ
      else
        kbIf (kbIn ((v4 * 10) + v5) 130) <|
        if (lg_cmp (μ.2 44 (((v4 * 10) + v5).toNatClampNeg)) 0) ≤ 0 then
          jn_SP_countRows_109 n (lp_SP_countRows_39 n v2 v3 v4 k) v2 v3 v4 v5 μ
        else
          (f_JO_mayFollow n v2 v5 μ).bind fun x1 =>
          if x1.1 = 0 then
            jn_SP_countRows_109 n (lp_SP_countRows_39 n v2 v3 v4 k) v2 v3 v4 v5 x1.2
          else
            kbIf (kbIn v3 130) <|
            kbIf (kbIn ((v4 * 10) + v5) 130) <|
            kbIf (kbIn v3 130) <|
            jn_SP_countRows_109 n (lp_SP_countRows_39 n v2 v3 v4 k) v2 v3 v4 v5 (kbX x1.2 44 v3.toNatClampNeg ((x1.2.2 44 v3.toNatClampNeg) + (x1.2.2 44 (((v4 * 10) + v5).toNatClampNeg))))
theorem lpR_SP_countRows_39 {l : Launch} (n : Nat) (v2 : Int32) (v3 : Int32) (v4 : Int32)  {Q : kbQt} {P : kbM → Prop} (hx : ∀ z : kbM, P (z) → kbR l MX8_countRows 4 Q 115 [none, none, none, none, none, none] [] z) : ∀ (k : Nat) (v5 : Int32) (μ : kbM), kbG (lp_SP_countRows_39 n v2 v3 v4 k v5 μ) P → kbR l MX8_countRows 4 Q 39 [some (.ref 43), none, some (.int v2), some (.int v3), some (.int v4), some (.int v5)] [] μ := by
  intro k
  induction k with
  | zero => intro v5 μ h; exact absurd h kbG_none
  | succ k ih =>
    intro v5 μ h
    unfold lp_SP_countRows_39 at h
    refine r_iload dX8_countRows_39 rfl ?_
    refine r_if_le 115 dX8_countRows_41 (by decide) (fun hc => ?_) (fun hc => ?_)
    · replace h := kbG_t hc h
      refine r_le [none, none, none, none, none, none] trivial ?_
      exact hx μ (kbG_some h)
    · replace h := kbG_f hc h
      refine r_iload dX8_countRows_44 rfl ?_
      refine r_aload_n dX8_countRows_46 rfl ?_
      refine r_getR flX8_25 sh43 rfl dX8_countRows_47 ?_
      refine r_getI flX8_39 sh13 rfl dX8_countRows_50 ?_
      refine r_icmp_ge 115 dX8_countRows_53 (by decide) (fun hc => ?_) (fun hc => ?_)
      · replace h := kbG_t hc h
        refine r_le [none, none, none, none, none, none] trivial ?_
        exact hx μ (kbG_some h)
      · replace h := kbG_f hc h
        refine r_aload_n dX8_countRows_56 rfl ?_
        refine r_getR flX8_9 sh43 rfl dX8_countRows_57 ?_
        refine r_iload dX8_countRows_60 rfl ?_
        refine r_bipush 10 dX8_countRows_62 (by decide) ?_
        refine r_imul dX8_countRows_64 ?_
        refine r_iload dX8_countRows_65 rfl ?_
        refine r_iadd dX8_countRows_67 ?_
        obtain ⟨hin, h⟩ := kbG_if h
        replace hin := kbIn_of hin
        refine q_lald (((v4 * 10) + v5).toNatClampNeg) rfl sh44 hin dX8_countRows_68 ?_
        refine r_lconst 0 dX8_countRows_69 (by decide) ?_
        refine r_lcmp dX8_countRows_70 ?_
        refine r_if_le 109 dX8_countRows_71 (by decide) (fun hc => ?_) (fun hc => ?_)
        · replace h := kbG_t hc h
          refine r_le [some (.ref 43), none, some (.int v2), some (.int v3), some (.int v4), some (.int v5)] ⟨rfl, ⟨rfl, ⟨rfl, ⟨rfl, ⟨rfl, trivial⟩⟩⟩⟩⟩ ?_
          exact jnR_SP_countRows_109 n v2 v3 v4 v5 μ (hx := hx) (hrec := ih) h
        · replace h := kbG_f hc h
          refine r_aload_n dX8_countRows_74 rfl ?_
          refine r_getR flX8_29 sh43 rfl dX8_countRows_75 ?_
          refine r_iload_n dX8_countRows_78 rfl ?_
          refine r_iload dX8_countRows_79 rfl ?_
          obtain ⟨x1, hx0, h⟩ := kbG_bind h
          refine r_invV_i cvX8_58 sh35 rfl (sp_JO_mayFollow n v2 v5 μ hx0) rfl rfl (Nat.le_of_ble_eq_true rfl) (Nat.le_of_ble_eq_true rfl) dX8_countRows_81 ?_
          refine r_if_eq 109 dX8_countRows_84 (by decide) (fun hc => ?_) (fun hc => ?_)
          · replace h := kbG_t hc h
            refine r_le [some (.ref 43), none, some (.int v2), some (.int v3), some (.int v4), some (.int v5)] ⟨rfl, ⟨rfl, ⟨rfl, ⟨rfl, ⟨rfl, trivial⟩⟩⟩⟩⟩ ?_
            exact jnR_SP_countRows_109 n v2 v3 v4 v5 x1.2 (hx := hx) (hrec := ih) h
          · replace h := kbG_f hc h
            refine r_aload_n dX8_countRows_87 rfl ?_
            refine r_getR flX8_9 sh43 rfl dX8_countRows_88 ?_
            refine r_iload_n dX8_countRows_91 rfl ?_
            refine r_dup2 dX8_countRows_92 rfl rfl ?_
            obtain ⟨hin, h⟩ := kbG_if h
            replace hin := kbIn_of hin
            refine q_lald v3.toNatClampNeg rfl sh44 hin dX8_countRows_93 ?_
            refine r_aload_n dX8_countRows_94 rfl ?_
            refine r_getR flX8_9 sh43 rfl dX8_countRows_95 ?_
            refine r_iload dX8_countRows_98 rfl ?_
            refine r_bipush 10 dX8_countRows_100 (by decide) ?_
            refine r_imul dX8_countRows_102 ?_
            refine r_iload dX8_countRows_103 rfl ?_
            refine r_iadd dX8_countRows_105 ?_
            obtain ⟨hin, h⟩ := kbG_if h
            replace hin := kbIn_of hin
            refine q_lald (((v4 * 10) + v5).toNatClampNeg) rfl sh44 hin dX8_countRows_106 ?_
            refine r_ladd dX8_countRows_107 ?_
            obtain ⟨hin, h⟩ := kbG_if h
            replace hin := kbIn_of hin
            refine q_last v3.toNatClampNeg rfl sh44 hin dX8_countRows_108 ?_
            refine r_le [some (.ref 43), none, some (.int v2), some (.int v3), some (.int v4), some (.int v5)] ⟨rfl, ⟨rfl, ⟨rfl, ⟨rfl, ⟨rfl, trivial⟩⟩⟩⟩⟩ ?_
            exact jnR_SP_countRows_109 n v2 v3 v4 v5 (kbX x1.2 44 v3.toNatClampNeg ((x1.2.2 44 v3.toNatClampNeg) + (x1.2.2 44 (((v4 * 10) + v5).toNatClampNeg)))) (hx := hx) (hrec := ih) h
def jn_SP_countRows_115 (n : Nat) (μ : kbM) : Option (kbM) :=
  some μ
theorem jnR_SP_countRows_115 {l : Launch} (n : Nat)    (μ : kbM) {Q : kbQt} {P : kbM → Prop} (hr : ∀ z : kbM, P z → Q none z) (h : kbG (jn_SP_countRows_115 n μ) P) : kbR l MX8_countRows 4 Q 115 [none, none, none, none, none, none] [] μ := by
  unfold jn_SP_countRows_115 at h
  exact r_vret rfl dX8_countRows_115 (hr μ (kbG_some h))
def jn_SP_countRows_35 (n : Nat) (v2 : Int32) (v3 : Int32) (v4 : Int32) (w1 : Int32) (w2 : Int64) (μ : kbM) : Option (kbM) :=
  kbIf (kbIn w1 130) <|
  (lp_SP_countRows_39 n v2 v3 v4 n 0 (kbX μ 44 w1.toNatClampNeg w2)).bind fun x2 =>
  jn_SP_countRows_115 n x2
theorem jnR_SP_countRows_35 {l : Launch} (n : Nat)   (v2 : Int32) (v3 : Int32) (v4 : Int32) (w1 : Int32) (w2 : Int64) (μ : kbM) {Q : kbQt} {P : kbM → Prop} (hr : ∀ z : kbM, P z → Q none z) (h : kbG (jn_SP_countRows_35 n v2 v3 v4 w1 w2 μ) P) : kbR l MX8_countRows 4 Q 35 [some (.ref 43), none, some (.int v2), some (.int v3), some (.int v4), none] [.long w2, .int w1, .ref 44] μ := by
  unfold jn_SP_countRows_35 at h
  obtain ⟨hin, h⟩ := kbG_if h
  replace hin := kbIn_of hin
  refine q_last w1.toNatClampNeg rfl sh44 hin dX8_countRows_35 ?_
  refine r_iconst 0 dX8_countRows_36 (by decide) ?_
  refine r_istore dX8_countRows_37 (Nat.le_of_ble_eq_true rfl) rfl ?_
  refine r_le [some (.ref 43), none, some (.int v2), some (.int v3), some (.int v4), some (.int 0)] ⟨rfl, ⟨rfl, ⟨rfl, ⟨rfl, ⟨rfl, trivial⟩⟩⟩⟩⟩ ?_
  obtain ⟨x2, hx0, h⟩ := kbG_bind h
  refine lpR_SP_countRows_39 n v2 v3 v4 (P := fun z => x2 = z) (hx := fun z e => ?_) n _ _ ⟨_, hx0, rfl⟩
  subst e
  refine r_le [none, none, none, none, none, none] trivial ?_
  exact jnR_SP_countRows_115 n  x2 (hr := hr) h
def f_SP_countRows (n : Nat) (a1 : Int32) (a2 : Int32) (μ : kbM) : Option (kbM) :=
  kbIf (kbIn a2 10) <|
  if (a1 - (μ.1 15 a2.toNatClampNeg)) = 0 then
    jn_SP_countRows_35 n a2 ((a1 * 10) + a2) (a1 - (μ.1 15 a2.toNatClampNeg)) ((a1 * 10) + a2) 1 μ
  else
    jn_SP_countRows_35 n a2 ((a1 * 10) + a2) (a1 - (μ.1 15 a2.toNatClampNeg)) ((a1 * 10) + a2) 0 μ
theorem sp_SP_countRows {l : Launch} (n : Nat) (a1 : Int32) (a2 : Int32) (μ : kbM)  {x : kbM} (h : f_SP_countRows n a1 a2 μ = some x) : kbS l MX8_countRows 4 [.ref 43, .int a1, .int a2] μ (kbQe none x) := by
  refine kb_enter 3 rfl rfl ?_
  suffices H : ∀ (Q : kbQt) (P : kbM → Prop), (∀ z : kbM, P z → Q none z) → kbG (f_SP_countRows n a1 a2 μ) P → kbR l MX8_countRows 4 Q 0 [some (.ref 43), some (.int a1), some (.int a2), none, none, none] [] μ from H _ (fun z => z = x) (fun z e => by subst e; exact ⟨rfl, rfl⟩) ⟨x, h, rfl⟩
  clear h
  intro Q P hr h
  unfold f_SP_countRows at h
  refine r_iload_n dX8_countRows_0 rfl ?_
  refine r_bipush 10 dX8_countRows_1 (by decide) ?_
  refine r_imul dX8_countRows_3 ?_
  refine r_iload_n dX8_countRows_4 rfl ?_
  refine r_iadd dX8_countRows_5 ?_
  refine r_istore_n dX8_countRows_6 (Nat.le_of_ble_eq_true rfl) rfl ?_
  refine r_iload_n dX8_countRows_7 rfl ?_
  refine r_aload_n dX8_countRows_8 rfl ?_
  refine r_getR flX8_25 sh43 rfl dX8_countRows_9 ?_
  refine r_getR flX8_49 sh13 rfl dX8_countRows_12 ?_
  refine r_iload_n dX8_countRows_15 rfl ?_
  obtain ⟨hin, h⟩ := kbG_if h
  replace hin := kbIn_of hin
  refine q_iald a2.toNatClampNeg rfl sh15 hin dX8_countRows_16 ?_
  refine r_isub dX8_countRows_17 ?_
  refine r_istore dX8_countRows_18 (Nat.le_of_ble_eq_true rfl) rfl ?_
  refine r_aload_n dX8_countRows_20 rfl ?_
  refine r_getR flX8_9 sh43 rfl dX8_countRows_21 ?_
  refine r_iload_n dX8_countRows_24 rfl ?_
  refine r_iload dX8_countRows_25 rfl ?_
  refine r_if_ne 34 dX8_countRows_27 (by decide) (fun hc => ?_) (fun hc => ?_)
  · replace h := kbG_f hc h
    refine r_lconst 0 dX8_countRows_34 (by decide) ?_
    refine r_le [some (.ref 43), none, some (.int a2), some (.int ((a1 * 10) + a2)), some (.int (a1 - (μ.1 15 a2.toNatClampNeg))), none] ⟨rfl, ⟨rfl, ⟨rfl, ⟨rfl, trivial⟩⟩⟩⟩ ?_
    exact jnR_SP_countRows_35 n a2 ((a1 * 10) + a2) (a1 - (μ.1 15 a2.toNatClampNeg)) ((a1 * 10) + a2) 0 μ (hr := hr) h
  · replace h := kbG_t hc h
    refine r_lconst 1 dX8_countRows_30 (by decide) ?_
    refine r_goto 35 dX8_countRows_31 (by decide) ?_
    refine r_le [some (.ref 43), none, some (.int a2), some (.int ((a1 * 10) + a2)), some (.int (a1 - (μ.1 15 a2.toNatClampNeg))), none] ⟨rfl, ⟨rfl, ⟨rfl, ⟨rfl, trivial⟩⟩⟩⟩ ?_
    exact jnR_SP_countRows_35 n a2 ((a1 * 10) + a2) (a1 - (μ.1 15 a2.toNatClampNeg)) ((a1 * 10) + a2) 1 μ (hr := hr) h
def lp_SP_rowsOf_16 (n : Nat) (v1 : Int32) (v4 : Int32) : Nat → Int64 → Int32 → kbM → Option (Int64 × kbM)
  | 0, _, _, _ => none
  | k + 1, v2, v5, μ =>
    if (μ.1 13 4) ≤ v5 then
      some ((v2, μ))
    else
      (f_SP_countRows n v4 v5 μ).bind fun x1 =>
      kbIf (kbIn ((v4 * 10) + v5) 130) <|
      lp_SP_rowsOf_16 n v1 v4 k (v2 + (x1.2 44 (((v4 * 10) + v5).toNatClampNeg))) (v5 + 1) x1
theorem lpR_SP_rowsOf_16 {l : Launch} (n : Nat) (v1 : Int32) (v4 : Int32)  {Q : kbQt} {P : Int64 × kbM → Prop} (hx : ∀ z : Int64 × kbM, P (z) → kbR l MX8_rowsOf 5 Q 58 [some (.ref 43), some (.int v1), some (.long z.1), none, some (.int v4), none] [] z.2) : ∀ (k : Nat) (v2 : Int64) (v5 : Int32) (μ : kbM), kbG (lp_SP_rowsOf_16 n v1 v4 k v2 v5 μ) P → kbR l MX8_rowsOf 5 Q 16 [some (.ref 43), some (.int v1), some (.long v2), none, some (.int v4), some (.int v5)] [] μ := by
  intro k
  induction k with
  | zero => intro v2 v5 μ h; exact absurd h kbG_none
  | succ k ih =>
    intro v2 v5 μ h
    unfold lp_SP_rowsOf_16 at h
    refine r_iload dX8_rowsOf_16 rfl ?_
    refine r_aload_n dX8_rowsOf_18 rfl ?_
    refine r_getR flX8_25 sh43 rfl dX8_rowsOf_19 ?_
    refine r_getI flX8_39 sh13 rfl dX8_rowsOf_22 ?_
    refine r_icmp_ge 58 dX8_rowsOf_25 (by decide) (fun hc => ?_) (fun hc => ?_)
    · replace h := kbG_t hc h
      refine r_le [some (.ref 43), some (.int v1), some (.long v2), none, some (.int v4), none] ⟨rfl, ⟨rfl, ⟨rfl, ⟨rfl, trivial⟩⟩⟩⟩ ?_
      exact hx ((v2, μ)) (kbG_some h)
    · replace h := kbG_f hc h
      refine r_aload_n dX8_rowsOf_28 rfl ?_
      refine r_iload dX8_rowsOf_29 rfl ?_
      refine r_iload dX8_rowsOf_31 rfl ?_
      obtain ⟨x1, hx0, h⟩ := kbG_bind h
      refine r_invV_v cvX8_78 sh43 rfl (sp_SP_countRows n v4 v5 μ hx0) rfl rfl (Nat.le_of_ble_eq_true rfl) (Nat.le_of_ble_eq_true rfl) dX8_rowsOf_33 ?_
      refine r_lload_n dX8_rowsOf_36 rfl ?_
      refine r_aload_n dX8_rowsOf_37 rfl ?_
      refine r_getR flX8_9 sh43 rfl dX8_rowsOf_38 ?_
      refine r_iload dX8_rowsOf_41 rfl ?_
      refine r_bipush 10 dX8_rowsOf_43 (by decide) ?_
      refine r_imul dX8_rowsOf_45 ?_
      refine r_iload dX8_rowsOf_46 rfl ?_
      refine r_iadd dX8_rowsOf_48 ?_
      obtain ⟨hin, h⟩ := kbG_if h
      replace hin := kbIn_of hin
      refine q_lald (((v4 * 10) + v5).toNatClampNeg) rfl sh44 hin dX8_rowsOf_49 ?_
      refine r_ladd dX8_rowsOf_50 ?_
      refine r_lstore_n dX8_rowsOf_51 (Nat.le_of_ble_eq_true rfl) rfl ?_
      refine r_iinc 1 dX8_rowsOf_52 rfl (by decide) (Nat.le_of_ble_eq_true rfl) rfl ?_
      refine r_goto 16 dX8_rowsOf_55 (by decide) ?_
      refine r_le [some (.ref 43), some (.int v1), some (.long (v2 + (x1.2 44 (((v4 * 10) + v5).toNatClampNeg)))), none, some (.int v4), some (.int (v5 + 1))] ⟨rfl, ⟨rfl, ⟨rfl, ⟨rfl, ⟨rfl, trivial⟩⟩⟩⟩⟩ ?_
      exact ih (v2 + (x1.2 44 (((v4 * 10) + v5).toNatClampNeg))) (v5 + 1) x1 h
def lp_SP_rowsOf_5 (n : Nat) (v1 : Int32) : Nat → Int64 → Int32 → kbM → Option (Int64 × kbM)
  | 0, _, _, _ => none
  | k + 1, v2, v4, μ =>
    if v1 < v4 then
      some ((v2, μ))
    else
      (lp_SP_rowsOf_16 n v1 v4 n 0 0 μ).bind fun x2 =>
      lp_SP_rowsOf_5 n v1 k x2.1 (v4 + 1) x2.2
theorem lpR_SP_rowsOf_5 {l : Launch} (n : Nat) (v1 : Int32)  {Q : kbQt} {P : Int64 × kbM → Prop} (hx : ∀ z : Int64 × kbM, P (z) → kbR l MX8_rowsOf 5 Q 64 [none, none, some (.long z.1), none, none, none] [] z.2) : ∀ (k : Nat) (v2 : Int64) (v4 : Int32) (μ : kbM), kbG (lp_SP_rowsOf_5 n v1 k v2 v4 μ) P → kbR l MX8_rowsOf 5 Q 5 [some (.ref 43), some (.int v1), some (.long v2), none, some (.int v4), none] [] μ := by
  intro k
  induction k with
  | zero => intro v2 v4 μ h; exact absurd h kbG_none
  | succ k ih =>
    intro v2 v4 μ h
    unfold lp_SP_rowsOf_5 at h
    refine r_iload dX8_rowsOf_5 rfl ?_
    refine r_iload_n dX8_rowsOf_7 rfl ?_
    refine r_icmp_gt 64 dX8_rowsOf_8 (by decide) (fun hc => ?_) (fun hc => ?_)
    · replace h := kbG_t hc h
      refine r_le [none, none, some (.long v2), none, none, none] ⟨rfl, trivial⟩ ?_
      exact hx ((v2, μ)) (kbG_some h)
    · replace h := kbG_f hc h
      refine r_lconst 0 dX8_rowsOf_11 (by decide) ?_
      refine r_lstore_n dX8_rowsOf_12 (Nat.le_of_ble_eq_true rfl) rfl ?_
      refine r_iconst 0 dX8_rowsOf_13 (by decide) ?_
      refine r_istore dX8_rowsOf_14 (Nat.le_of_ble_eq_true rfl) rfl ?_
      refine r_le [some (.ref 43), some (.int v1), some (.long 0), none, some (.int v4), some (.int 0)] ⟨rfl, ⟨rfl, ⟨rfl, ⟨rfl, ⟨rfl, trivial⟩⟩⟩⟩⟩ ?_
      obtain ⟨x2, hx0, h⟩ := kbG_bind h
      refine lpR_SP_rowsOf_16 n v1 v4 (P := fun z => x2 = z) (hx := fun z e => ?_) n _ _ _ ⟨_, hx0, rfl⟩
      subst e
      refine r_iinc 1 dX8_rowsOf_58 rfl (by decide) (Nat.le_of_ble_eq_true rfl) rfl ?_
      refine r_goto 5 dX8_rowsOf_61 (by decide) ?_
      refine r_le [some (.ref 43), some (.int v1), some (.long x2.1), none, some (.int (v4 + 1)), none] ⟨rfl, ⟨rfl, ⟨rfl, ⟨rfl, trivial⟩⟩⟩⟩ ?_
      exact ih x2.1 (v4 + 1) x2.2 h
def f_SP_rowsOf (n : Nat) (a1 : Int32) (μ : kbM) : Option (Int64 × kbM) :=
  (lp_SP_rowsOf_5 n a1 n 0 1 μ).bind fun x3 =>
  some ((x3.1, x3.2))
theorem sp_SP_rowsOf {l : Launch} (n : Nat) (a1 : Int32) (μ : kbM)  {x : Int64 × kbM} (h : f_SP_rowsOf n a1 μ = some x) : kbS l MX8_rowsOf 5 [.ref 43, .int a1] μ (kbQe (some (.long x.1)) x.2) := by
  refine kb_enter 4 rfl rfl ?_
  suffices H : ∀ (Q : kbQt) (P : Int64 × kbM → Prop), (∀ z : Int64 × kbM, P z → Q (some (.long z.1)) z.2) → kbG (f_SP_rowsOf n a1 μ) P → kbR l MX8_rowsOf 5 Q 0 [some (.ref 43), some (.int a1), none, none, none, none] [] μ from H _ (fun z => z = x) (fun z e => by subst e; exact ⟨rfl, rfl⟩) ⟨x, h, rfl⟩
  clear h
  intro Q P hr h
  unfold f_SP_rowsOf at h
  refine r_lconst 0 dX8_rowsOf_0 (by decide) ?_
  refine r_lstore_n dX8_rowsOf_1 (Nat.le_of_ble_eq_true rfl) rfl ?_
  refine r_iconst 1 dX8_rowsOf_2 (by decide) ?_
  refine r_istore dX8_rowsOf_3 (Nat.le_of_ble_eq_true rfl) rfl ?_
  refine r_le [some (.ref 43), some (.int a1), some (.long 0), none, some (.int 1), none] ⟨rfl, ⟨rfl, ⟨rfl, ⟨rfl, trivial⟩⟩⟩⟩ ?_
  obtain ⟨x3, hx0, h⟩ := kbG_bind h
  refine lpR_SP_rowsOf_5 n a1 (P := fun z => x3 = z) (hx := fun z e => ?_) n _ _ _ ⟨_, hx0, rfl⟩
  subst e
  refine r_lload_n dX8_rowsOf_64 rfl ?_
  exact r_lret rfl dX8_rowsOf_65 (hr ((x3.1, x3.2)) (kbG_some h))
