theorem dX7_stepsFromLeft_0 : decode cX7_stepsFromLeft 0 = .ok (.iload_n 2, 1) := by decide +kernel
theorem dX7_stepsFromLeft_1 : decode cX7_stepsFromLeft 1 = .ok (.aload_n 0, 1) := by decide +kernel
theorem dX7_stepsFromLeft_2 : decode cX7_stepsFromLeft 2 = .ok (.getfield 15, 3) := by decide +kernel
theorem dX7_stepsFromLeft_5 : decode cX7_stepsFromLeft 5 = .ok (.invokestatic 25, 3) := by decide +kernel
theorem dX7_stepsFromLeft_8 : decode cX7_stepsFromLeft 8 = .ok (.istore_n 3, 1) := by decide +kernel
theorem dX7_stepsFromLeft_9 : decode cX7_stepsFromLeft 9 = .ok (.iconst 0, 1) := by decide +kernel
theorem dX7_stepsFromLeft_10 : decode cX7_stepsFromLeft 10 = .ok (.istore 4, 2) := by decide +kernel
theorem dX7_stepsFromLeft_12 : decode cX7_stepsFromLeft 12 = .ok (.iload 4, 2) := by decide +kernel
theorem dX7_stepsFromLeft_14 : decode cX7_stepsFromLeft 14 = .ok (.iload_n 3, 1) := by decide +kernel
theorem dX7_stepsFromLeft_15 : decode cX7_stepsFromLeft 15 = .ok (.if_icmp .gt 18, 3) := by decide +kernel
theorem dX7_stepsFromLeft_18 : decode cX7_stepsFromLeft 18 = .ok (.aload_n 0, 1) := by decide +kernel
theorem dX7_stepsFromLeft_19 : decode cX7_stepsFromLeft 19 = .ok (.getfield 18, 3) := by decide +kernel
theorem dX7_stepsFromLeft_22 : decode cX7_stepsFromLeft 22 = .ok (.iload 4, 2) := by decide +kernel
theorem dX7_stepsFromLeft_24 : decode cX7_stepsFromLeft 24 = .ok (.iload 4, 2) := by decide +kernel
theorem dX7_stepsFromLeft_26 : decode cX7_stepsFromLeft 26 = .ok (.iastore, 1) := by decide +kernel
theorem dX7_stepsFromLeft_27 : decode cX7_stepsFromLeft 27 = .ok (.iinc 4 1, 3) := by decide +kernel
theorem dX7_stepsFromLeft_30 : decode cX7_stepsFromLeft 30 = .ok (.goto (-18), 3) := by decide +kernel
theorem dX7_stepsFromLeft_33 : decode cX7_stepsFromLeft 33 = .ok (.iconst 0, 1) := by decide +kernel
theorem dX7_stepsFromLeft_34 : decode cX7_stepsFromLeft 34 = .ok (.istore 4, 2) := by decide +kernel
theorem dX7_stepsFromLeft_36 : decode cX7_stepsFromLeft 36 = .ok (.iload 4, 2) := by decide +kernel
theorem dX7_stepsFromLeft_38 : decode cX7_stepsFromLeft 38 = .ok (.iload_n 1, 1) := by decide +kernel
theorem dX7_stepsFromLeft_39 : decode cX7_stepsFromLeft 39 = .ok (.if_icmp .ge 132, 3) := by decide +kernel
theorem dX7_stepsFromLeft_42 : decode cX7_stepsFromLeft 42 = .ok (.aload_n 0, 1) := by decide +kernel
theorem dX7_stepsFromLeft_43 : decode cX7_stepsFromLeft 43 = .ok (.getfield 18, 3) := by decide +kernel
theorem dX7_stepsFromLeft_46 : decode cX7_stepsFromLeft 46 = .ok (.iconst 0, 1) := by decide +kernel
theorem dX7_stepsFromLeft_47 : decode cX7_stepsFromLeft 47 = .ok (.iaload, 1) := by decide +kernel
theorem dX7_stepsFromLeft_48 : decode cX7_stepsFromLeft 48 = .ok (.istore 5, 2) := by decide +kernel
theorem dX7_stepsFromLeft_50 : decode cX7_stepsFromLeft 50 = .ok (.aload_n 0, 1) := by decide +kernel
theorem dX7_stepsFromLeft_51 : decode cX7_stepsFromLeft 51 = .ok (.getfield 18, 3) := by decide +kernel
theorem dX7_stepsFromLeft_54 : decode cX7_stepsFromLeft 54 = .ok (.iconst 0, 1) := by decide +kernel
theorem dX7_stepsFromLeft_55 : decode cX7_stepsFromLeft 55 = .ok (.iload 4, 2) := by decide +kernel
theorem dX7_stepsFromLeft_57 : decode cX7_stepsFromLeft 57 = .ok (.iconst 1, 1) := by decide +kernel
theorem dX7_stepsFromLeft_58 : decode cX7_stepsFromLeft 58 = .ok (.iadd, 1) := by decide +kernel
theorem dX7_stepsFromLeft_59 : decode cX7_stepsFromLeft 59 = .ok (.iastore, 1) := by decide +kernel
theorem dX7_stepsFromLeft_60 : decode cX7_stepsFromLeft 60 = .ok (.iconst 0, 1) := by decide +kernel
theorem dX7_stepsFromLeft_61 : decode cX7_stepsFromLeft 61 = .ok (.istore 6, 2) := by decide +kernel
theorem dX7_stepsFromLeft_63 : decode cX7_stepsFromLeft 63 = .ok (.iload 6, 2) := by decide +kernel
theorem dX7_stepsFromLeft_65 : decode cX7_stepsFromLeft 65 = .ok (.iload_n 3, 1) := by decide +kernel
theorem dX7_stepsFromLeft_66 : decode cX7_stepsFromLeft 66 = .ok (.if_icmp .ge 99, 3) := by decide +kernel
theorem dX7_stepsFromLeft_69 : decode cX7_stepsFromLeft 69 = .ok (.aload_n 0, 1) := by decide +kernel
theorem dX7_stepsFromLeft_70 : decode cX7_stepsFromLeft 70 = .ok (.getfield 9, 3) := by decide +kernel
theorem dX7_stepsFromLeft_73 : decode cX7_stepsFromLeft 73 = .ok (.iload 4, 2) := by decide +kernel
theorem dX7_stepsFromLeft_75 : decode cX7_stepsFromLeft 75 = .ok (.iaload, 1) := by decide +kernel
theorem dX7_stepsFromLeft_76 : decode cX7_stepsFromLeft 76 = .ok (.aload_n 0, 1) := by decide +kernel
theorem dX7_stepsFromLeft_77 : decode cX7_stepsFromLeft 77 = .ok (.getfield 15, 3) := by decide +kernel
theorem dX7_stepsFromLeft_80 : decode cX7_stepsFromLeft 80 = .ok (.iload 6, 2) := by decide +kernel
theorem dX7_stepsFromLeft_82 : decode cX7_stepsFromLeft 82 = .ok (.iaload, 1) := by decide +kernel
theorem dX7_stepsFromLeft_83 : decode cX7_stepsFromLeft 83 = .ok (.if_icmp .ne 8, 3) := by decide +kernel
theorem dX7_stepsFromLeft_86 : decode cX7_stepsFromLeft 86 = .ok (.iload 5, 2) := by decide +kernel
theorem dX7_stepsFromLeft_88 : decode cX7_stepsFromLeft 88 = .ok (.goto 7, 3) := by decide +kernel
theorem dX7_stepsFromLeft_91 : decode cX7_stepsFromLeft 91 = .ok (.iload 5, 2) := by decide +kernel
theorem dX7_stepsFromLeft_93 : decode cX7_stepsFromLeft 93 = .ok (.iconst 1, 1) := by decide +kernel
theorem dX7_stepsFromLeft_94 : decode cX7_stepsFromLeft 94 = .ok (.iadd, 1) := by decide +kernel
theorem dX7_stepsFromLeft_95 : decode cX7_stepsFromLeft 95 = .ok (.istore 7, 2) := by decide +kernel
theorem dX7_stepsFromLeft_97 : decode cX7_stepsFromLeft 97 = .ok (.aload_n 0, 1) := by decide +kernel
theorem dX7_stepsFromLeft_98 : decode cX7_stepsFromLeft 98 = .ok (.getfield 18, 3) := by decide +kernel
theorem dX7_stepsFromLeft_101 : decode cX7_stepsFromLeft 101 = .ok (.iload 6, 2) := by decide +kernel
theorem dX7_stepsFromLeft_103 : decode cX7_stepsFromLeft 103 = .ok (.iconst 1, 1) := by decide +kernel
theorem dX7_stepsFromLeft_104 : decode cX7_stepsFromLeft 104 = .ok (.iadd, 1) := by decide +kernel
theorem dX7_stepsFromLeft_105 : decode cX7_stepsFromLeft 105 = .ok (.iaload, 1) := by decide +kernel
theorem dX7_stepsFromLeft_106 : decode cX7_stepsFromLeft 106 = .ok (.istore 5, 2) := by decide +kernel
theorem dX7_stepsFromLeft_108 : decode cX7_stepsFromLeft 108 = .ok (.iload 5, 2) := by decide +kernel
theorem dX7_stepsFromLeft_110 : decode cX7_stepsFromLeft 110 = .ok (.aload_n 0, 1) := by decide +kernel
theorem dX7_stepsFromLeft_111 : decode cX7_stepsFromLeft 111 = .ok (.getfield 18, 3) := by decide +kernel
theorem dX7_stepsFromLeft_114 : decode cX7_stepsFromLeft 114 = .ok (.iload 6, 2) := by decide +kernel
theorem dX7_stepsFromLeft_116 : decode cX7_stepsFromLeft 116 = .ok (.iaload, 1) := by decide +kernel
theorem dX7_stepsFromLeft_117 : decode cX7_stepsFromLeft 117 = .ok (.if_icmp .ge 8, 3) := by decide +kernel
theorem dX7_stepsFromLeft_120 : decode cX7_stepsFromLeft 120 = .ok (.iload 5, 2) := by decide +kernel
theorem dX7_stepsFromLeft_122 : decode cX7_stepsFromLeft 122 = .ok (.goto 10, 3) := by decide +kernel
theorem dX7_stepsFromLeft_125 : decode cX7_stepsFromLeft 125 = .ok (.aload_n 0, 1) := by decide +kernel
theorem dX7_stepsFromLeft_126 : decode cX7_stepsFromLeft 126 = .ok (.getfield 18, 3) := by decide +kernel
theorem dX7_stepsFromLeft_129 : decode cX7_stepsFromLeft 129 = .ok (.iload 6, 2) := by decide +kernel
theorem dX7_stepsFromLeft_131 : decode cX7_stepsFromLeft 131 = .ok (.iaload, 1) := by decide +kernel
theorem dX7_stepsFromLeft_132 : decode cX7_stepsFromLeft 132 = .ok (.iconst 1, 1) := by decide +kernel
theorem dX7_stepsFromLeft_133 : decode cX7_stepsFromLeft 133 = .ok (.iadd, 1) := by decide +kernel
theorem dX7_stepsFromLeft_134 : decode cX7_stepsFromLeft 134 = .ok (.istore 8, 2) := by decide +kernel
theorem dX7_stepsFromLeft_136 : decode cX7_stepsFromLeft 136 = .ok (.aload_n 0, 1) := by decide +kernel
theorem dX7_stepsFromLeft_137 : decode cX7_stepsFromLeft 137 = .ok (.getfield 18, 3) := by decide +kernel
theorem dX7_stepsFromLeft_140 : decode cX7_stepsFromLeft 140 = .ok (.iload 6, 2) := by decide +kernel
theorem dX7_stepsFromLeft_142 : decode cX7_stepsFromLeft 142 = .ok (.iconst 1, 1) := by decide +kernel
theorem dX7_stepsFromLeft_143 : decode cX7_stepsFromLeft 143 = .ok (.iadd, 1) := by decide +kernel
theorem dX7_stepsFromLeft_144 : decode cX7_stepsFromLeft 144 = .ok (.iload 7, 2) := by decide +kernel
theorem dX7_stepsFromLeft_146 : decode cX7_stepsFromLeft 146 = .ok (.iload 8, 2) := by decide +kernel
theorem dX7_stepsFromLeft_148 : decode cX7_stepsFromLeft 148 = .ok (.if_icmp .ge 8, 3) := by decide +kernel
theorem dX7_stepsFromLeft_151 : decode cX7_stepsFromLeft 151 = .ok (.iload 7, 2) := by decide +kernel
theorem dX7_stepsFromLeft_153 : decode cX7_stepsFromLeft 153 = .ok (.goto 5, 3) := by decide +kernel
theorem dX7_stepsFromLeft_156 : decode cX7_stepsFromLeft 156 = .ok (.iload 8, 2) := by decide +kernel
theorem dX7_stepsFromLeft_158 : decode cX7_stepsFromLeft 158 = .ok (.iastore, 1) := by decide +kernel
theorem dX7_stepsFromLeft_159 : decode cX7_stepsFromLeft 159 = .ok (.iinc 6 1, 3) := by decide +kernel
theorem dX7_stepsFromLeft_162 : decode cX7_stepsFromLeft 162 = .ok (.goto (-99), 3) := by decide +kernel
theorem dX7_stepsFromLeft_165 : decode cX7_stepsFromLeft 165 = .ok (.iinc 4 1, 3) := by decide +kernel
theorem dX7_stepsFromLeft_168 : decode cX7_stepsFromLeft 168 = .ok (.goto (-132), 3) := by decide +kernel
theorem dX7_stepsFromLeft_171 : decode cX7_stepsFromLeft 171 = .ok (.aload_n 0, 1) := by decide +kernel
theorem dX7_stepsFromLeft_172 : decode cX7_stepsFromLeft 172 = .ok (.getfield 18, 3) := by decide +kernel
theorem dX7_stepsFromLeft_175 : decode cX7_stepsFromLeft 175 = .ok (.iload_n 3, 1) := by decide +kernel
theorem dX7_stepsFromLeft_176 : decode cX7_stepsFromLeft 176 = .ok (.iaload, 1) := by decide +kernel
theorem dX7_stepsFromLeft_177 : decode cX7_stepsFromLeft 177 = .ok (.ireturn, 1) := by decide +kernel
theorem dX7_steps_0 : decode cX7_steps 0 = .ok (.aload_n 0, 1) := by decide +kernel
theorem dX7_steps_1 : decode cX7_steps 1 = .ok (.iload_n 1, 1) := by decide +kernel
theorem dX7_steps_2 : decode cX7_steps 2 = .ok (.aload_n 0, 1) := by decide +kernel
theorem dX7_steps_3 : decode cX7_steps 3 = .ok (.getfield 9, 3) := by decide +kernel
theorem dX7_steps_6 : decode cX7_steps 6 = .ok (.invokestatic 25, 3) := by decide +kernel
theorem dX7_steps_9 : decode cX7_steps 9 = .ok (.iload_n 2, 1) := by decide +kernel
theorem dX7_steps_10 : decode cX7_steps 10 = .ok (.invokevirtual 31, 3) := by decide +kernel
theorem dX7_steps_13 : decode cX7_steps 13 = .ok (.ireturn, 1) := by decide +kernel
theorem dX7_nearestWord_0 : decode cX7_nearestWord 0 = .ok (.iload_n 1, 1) := by decide +kernel
theorem dX7_nearestWord_1 : decode cX7_nearestWord 1 = .ok (.aload_n 0, 1) := by decide +kernel
theorem dX7_nearestWord_2 : decode cX7_nearestWord 2 = .ok (.getfield 9, 3) := by decide +kernel
theorem dX7_nearestWord_5 : decode cX7_nearestWord 5 = .ok (.invokestatic 25, 3) := by decide +kernel
theorem dX7_nearestWord_8 : decode cX7_nearestWord 8 = .ok (.istore_n 2, 1) := by decide +kernel
theorem dX7_nearestWord_9 : decode cX7_nearestWord 9 = .ok (.iconst (-1), 1) := by decide +kernel
theorem dX7_nearestWord_10 : decode cX7_nearestWord 10 = .ok (.istore_n 3, 1) := by decide +kernel
theorem dX7_nearestWord_11 : decode cX7_nearestWord 11 = .ok (.ldc 35, 2) := by decide +kernel
theorem dX7_nearestWord_13 : decode cX7_nearestWord 13 = .ok (.istore 4, 2) := by decide +kernel
theorem dX7_nearestWord_15 : decode cX7_nearestWord 15 = .ok (.iconst 0, 1) := by decide +kernel
theorem dX7_nearestWord_16 : decode cX7_nearestWord 16 = .ok (.istore 5, 2) := by decide +kernel
theorem dX7_nearestWord_18 : decode cX7_nearestWord 18 = .ok (.iload 5, 2) := by decide +kernel
theorem dX7_nearestWord_20 : decode cX7_nearestWord 20 = .ok (.aload_n 0, 1) := by decide +kernel
theorem dX7_nearestWord_21 : decode cX7_nearestWord 21 = .ok (.getfield 21, 3) := by decide +kernel
theorem dX7_nearestWord_24 : decode cX7_nearestWord 24 = .ok (.getfield 36, 3) := by decide +kernel
theorem dX7_nearestWord_27 : decode cX7_nearestWord 27 = .ok (.if_icmp .ge 76, 3) := by decide +kernel
theorem dX7_nearestWord_30 : decode cX7_nearestWord 30 = .ok (.iload_n 2, 1) := by decide +kernel
theorem dX7_nearestWord_31 : decode cX7_nearestWord 31 = .ok (.aload_n 0, 1) := by decide +kernel
theorem dX7_nearestWord_32 : decode cX7_nearestWord 32 = .ok (.getfield 21, 3) := by decide +kernel
theorem dX7_nearestWord_35 : decode cX7_nearestWord 35 = .ok (.getfield 42, 3) := by decide +kernel
theorem dX7_nearestWord_38 : decode cX7_nearestWord 38 = .ok (.iload 5, 2) := by decide +kernel
theorem dX7_nearestWord_40 : decode cX7_nearestWord 40 = .ok (.iaload, 1) := by decide +kernel
theorem dX7_nearestWord_41 : decode cX7_nearestWord 41 = .ok (.isub, 1) := by decide +kernel
theorem dX7_nearestWord_42 : decode cX7_nearestWord 42 = .ok (.invokestatic 45, 3) := by decide +kernel
theorem dX7_nearestWord_45 : decode cX7_nearestWord 45 = .ok (.iload 4, 2) := by decide +kernel
theorem dX7_nearestWord_47 : decode cX7_nearestWord 47 = .ok (.if_icmp .ge 50, 3) := by decide +kernel
theorem dX7_nearestWord_50 : decode cX7_nearestWord 50 = .ok (.aload_n 0, 1) := by decide +kernel
theorem dX7_nearestWord_51 : decode cX7_nearestWord 51 = .ok (.iload_n 2, 1) := by decide +kernel
theorem dX7_nearestWord_52 : decode cX7_nearestWord 52 = .ok (.aload_n 0, 1) := by decide +kernel
theorem dX7_nearestWord_53 : decode cX7_nearestWord 53 = .ok (.getfield 21, 3) := by decide +kernel
theorem dX7_nearestWord_56 : decode cX7_nearestWord 56 = .ok (.getfield 51, 3) := by decide +kernel
theorem dX7_nearestWord_59 : decode cX7_nearestWord 59 = .ok (.iload 5, 2) := by decide +kernel
theorem dX7_nearestWord_61 : decode cX7_nearestWord 61 = .ok (.iaload, 1) := by decide +kernel
theorem dX7_nearestWord_62 : decode cX7_nearestWord 62 = .ok (.invokevirtual 31, 3) := by decide +kernel
theorem dX7_nearestWord_65 : decode cX7_nearestWord 65 = .ok (.istore 6, 2) := by decide +kernel
theorem dX7_nearestWord_67 : decode cX7_nearestWord 67 = .ok (.iload 6, 2) := by decide +kernel
theorem dX7_nearestWord_69 : decode cX7_nearestWord 69 = .ok (.iload 4, 2) := by decide +kernel
theorem dX7_nearestWord_71 : decode cX7_nearestWord 71 = .ok (.if_icmp .ge 8, 3) := by decide +kernel
theorem dX7_nearestWord_74 : decode cX7_nearestWord 74 = .ok (.iload 5, 2) := by decide +kernel
theorem dX7_nearestWord_76 : decode cX7_nearestWord 76 = .ok (.goto 4, 3) := by decide +kernel
theorem dX7_nearestWord_79 : decode cX7_nearestWord 79 = .ok (.iload_n 3, 1) := by decide +kernel
theorem dX7_nearestWord_80 : decode cX7_nearestWord 80 = .ok (.istore_n 3, 1) := by decide +kernel
theorem dX7_nearestWord_81 : decode cX7_nearestWord 81 = .ok (.iload 6, 2) := by decide +kernel
theorem dX7_nearestWord_83 : decode cX7_nearestWord 83 = .ok (.iload 4, 2) := by decide +kernel
theorem dX7_nearestWord_85 : decode cX7_nearestWord 85 = .ok (.if_icmp .ge 8, 3) := by decide +kernel
theorem dX7_nearestWord_88 : decode cX7_nearestWord 88 = .ok (.iload 6, 2) := by decide +kernel
theorem dX7_nearestWord_90 : decode cX7_nearestWord 90 = .ok (.goto 5, 3) := by decide +kernel
theorem dX7_nearestWord_93 : decode cX7_nearestWord 93 = .ok (.iload 4, 2) := by decide +kernel
theorem dX7_nearestWord_95 : decode cX7_nearestWord 95 = .ok (.istore 4, 2) := by decide +kernel
theorem dX7_nearestWord_97 : decode cX7_nearestWord 97 = .ok (.iinc 5 1, 3) := by decide +kernel
theorem dX7_nearestWord_100 : decode cX7_nearestWord 100 = .ok (.goto (-82), 3) := by decide +kernel
theorem dX7_nearestWord_103 : decode cX7_nearestWord 103 = .ok (.iload_n 3, 1) := by decide +kernel
theorem dX7_nearestWord_104 : decode cX7_nearestWord 104 = .ok (.ireturn, 1) := by decide +kernel
theorem dX7_closestCouple_0 : decode cX7_closestCouple 0 = .ok (.iconst (-1), 1) := by decide +kernel
theorem dX7_closestCouple_1 : decode cX7_closestCouple 1 = .ok (.istore_n 1, 1) := by decide +kernel
theorem dX7_closestCouple_2 : decode cX7_closestCouple 2 = .ok (.ldc 35, 2) := by decide +kernel
theorem dX7_closestCouple_4 : decode cX7_closestCouple 4 = .ok (.istore_n 2, 1) := by decide +kernel
theorem dX7_closestCouple_5 : decode cX7_closestCouple 5 = .ok (.iconst 0, 1) := by decide +kernel
theorem dX7_closestCouple_6 : decode cX7_closestCouple 6 = .ok (.istore_n 3, 1) := by decide +kernel
theorem dX7_closestCouple_7 : decode cX7_closestCouple 7 = .ok (.iload_n 3, 1) := by decide +kernel
theorem dX7_closestCouple_8 : decode cX7_closestCouple 8 = .ok (.aload_n 0, 1) := by decide +kernel
theorem dX7_closestCouple_9 : decode cX7_closestCouple 9 = .ok (.getfield 21, 3) := by decide +kernel
theorem dX7_closestCouple_12 : decode cX7_closestCouple 12 = .ok (.getfield 36, 3) := by decide +kernel
theorem dX7_closestCouple_15 : decode cX7_closestCouple 15 = .ok (.if_icmp .ge 85, 3) := by decide +kernel
theorem dX7_closestCouple_18 : decode cX7_closestCouple 18 = .ok (.aload_n 0, 1) := by decide +kernel
theorem dX7_closestCouple_19 : decode cX7_closestCouple 19 = .ok (.getfield 21, 3) := by decide +kernel
theorem dX7_closestCouple_22 : decode cX7_closestCouple 22 = .ok (.getfield 51, 3) := by decide +kernel
theorem dX7_closestCouple_25 : decode cX7_closestCouple 25 = .ok (.iload_n 3, 1) := by decide +kernel
theorem dX7_closestCouple_26 : decode cX7_closestCouple 26 = .ok (.iaload, 1) := by decide +kernel
theorem dX7_closestCouple_27 : decode cX7_closestCouple 27 = .ok (.aload_n 0, 1) := by decide +kernel
theorem dX7_closestCouple_28 : decode cX7_closestCouple 28 = .ok (.getfield 9, 3) := by decide +kernel
theorem dX7_closestCouple_31 : decode cX7_closestCouple 31 = .ok (.invokestatic 25, 3) := by decide +kernel
theorem dX7_closestCouple_34 : decode cX7_closestCouple 34 = .ok (.istore 4, 2) := by decide +kernel
theorem dX7_closestCouple_36 : decode cX7_closestCouple 36 = .ok (.iload_n 3, 1) := by decide +kernel
theorem dX7_closestCouple_37 : decode cX7_closestCouple 37 = .ok (.iconst 1, 1) := by decide +kernel
theorem dX7_closestCouple_38 : decode cX7_closestCouple 38 = .ok (.iadd, 1) := by decide +kernel
theorem dX7_closestCouple_39 : decode cX7_closestCouple 39 = .ok (.istore 5, 2) := by decide +kernel
theorem dX7_closestCouple_41 : decode cX7_closestCouple 41 = .ok (.iload 5, 2) := by decide +kernel
theorem dX7_closestCouple_43 : decode cX7_closestCouple 43 = .ok (.aload_n 0, 1) := by decide +kernel
theorem dX7_closestCouple_44 : decode cX7_closestCouple 44 = .ok (.getfield 21, 3) := by decide +kernel
theorem dX7_closestCouple_47 : decode cX7_closestCouple 47 = .ok (.getfield 36, 3) := by decide +kernel
theorem dX7_closestCouple_50 : decode cX7_closestCouple 50 = .ok (.if_icmp .ge 44, 3) := by decide +kernel
theorem dX7_closestCouple_53 : decode cX7_closestCouple 53 = .ok (.aload_n 0, 1) := by decide +kernel
theorem dX7_closestCouple_54 : decode cX7_closestCouple 54 = .ok (.iload 4, 2) := by decide +kernel
theorem dX7_closestCouple_56 : decode cX7_closestCouple 56 = .ok (.aload_n 0, 1) := by decide +kernel
theorem dX7_closestCouple_57 : decode cX7_closestCouple 57 = .ok (.getfield 21, 3) := by decide +kernel
theorem dX7_closestCouple_60 : decode cX7_closestCouple 60 = .ok (.getfield 51, 3) := by decide +kernel
theorem dX7_closestCouple_63 : decode cX7_closestCouple 63 = .ok (.iload 5, 2) := by decide +kernel
theorem dX7_closestCouple_65 : decode cX7_closestCouple 65 = .ok (.iaload, 1) := by decide +kernel
theorem dX7_closestCouple_66 : decode cX7_closestCouple 66 = .ok (.invokevirtual 31, 3) := by decide +kernel
theorem dX7_closestCouple_69 : decode cX7_closestCouple 69 = .ok (.istore 6, 2) := by decide +kernel
theorem dX7_closestCouple_71 : decode cX7_closestCouple 71 = .ok (.iload 6, 2) := by decide +kernel
theorem dX7_closestCouple_73 : decode cX7_closestCouple 73 = .ok (.iload_n 2, 1) := by decide +kernel
theorem dX7_closestCouple_74 : decode cX7_closestCouple 74 = .ok (.if_icmp .ge 14, 3) := by decide +kernel
theorem dX7_closestCouple_77 : decode cX7_closestCouple 77 = .ok (.iload 6, 2) := by decide +kernel
theorem dX7_closestCouple_79 : decode cX7_closestCouple 79 = .ok (.istore_n 2, 1) := by decide +kernel
theorem dX7_closestCouple_80 : decode cX7_closestCouple 80 = .ok (.bipush 10, 2) := by decide +kernel
theorem dX7_closestCouple_82 : decode cX7_closestCouple 82 = .ok (.iload_n 3, 1) := by decide +kernel
theorem dX7_closestCouple_83 : decode cX7_closestCouple 83 = .ok (.imul, 1) := by decide +kernel
theorem dX7_closestCouple_84 : decode cX7_closestCouple 84 = .ok (.iload 5, 2) := by decide +kernel
theorem dX7_closestCouple_86 : decode cX7_closestCouple 86 = .ok (.iadd, 1) := by decide +kernel
theorem dX7_closestCouple_87 : decode cX7_closestCouple 87 = .ok (.istore_n 1, 1) := by decide +kernel
theorem dX7_closestCouple_88 : decode cX7_closestCouple 88 = .ok (.iinc 5 1, 3) := by decide +kernel
theorem dX7_closestCouple_91 : decode cX7_closestCouple 91 = .ok (.goto (-50), 3) := by decide +kernel
theorem dX7_closestCouple_94 : decode cX7_closestCouple 94 = .ok (.iinc 3 1, 3) := by decide +kernel
theorem dX7_closestCouple_97 : decode cX7_closestCouple 97 = .ok (.goto (-90), 3) := by decide +kernel
theorem dX7_closestCouple_100 : decode cX7_closestCouple 100 = .ok (.iload_n 1, 1) := by decide +kernel
theorem dX7_closestCouple_101 : decode cX7_closestCouple 101 = .ok (.ireturn, 1) := by decide +kernel
def lp_RU_stepsFromLeft_12 (n : Nat) (v1 : Int32) (v3 : Int32) : Nat → Int32 → kbM → Option (kbM)
  | 0, _, _ => none
  | k + 1, v4, μ =>
    if v3 < v4 then
      some μ
    else
      kbIf (kbIn v4 13) <|
      lp_RU_stepsFromLeft_12 n v1 v3 k (v4 + 1) (kbW μ 42 v4.toNatClampNeg v4)
theorem lpR_RU_stepsFromLeft_12 {l : Launch} (n : Nat) (v1 : Int32) (v3 : Int32)  {Q : kbQt} {P : kbM → Prop} (hx : ∀ z : kbM, P (z) → kbR l MX7_stepsFromLeft 3 Q 33 [some (.ref 39), some (.int v1), none, some (.int v3), none, none, none, none, none] [] z) : ∀ (k : Nat) (v4 : Int32) (μ : kbM), kbG (lp_RU_stepsFromLeft_12 n v1 v3 k v4 μ) P → kbR l MX7_stepsFromLeft 3 Q 12 [some (.ref 39), some (.int v1), none, some (.int v3), some (.int v4), none, none, none, none] [] μ := by
  intro k
  induction k with
  | zero => intro v4 μ h; exact absurd h kbG_none
  | succ k ih =>
    intro v4 μ h
    unfold lp_RU_stepsFromLeft_12 at h
    refine r_iload dX7_stepsFromLeft_12 rfl ?_
    refine r_iload_n dX7_stepsFromLeft_14 rfl ?_
    refine r_icmp_gt 33 dX7_stepsFromLeft_15 (by decide) (fun hc => ?_) (fun hc => ?_)
    · replace h := kbG_t hc h
      refine r_le [some (.ref 39), some (.int v1), none, some (.int v3), none, none, none, none, none] ⟨rfl, ⟨rfl, ⟨rfl, trivial⟩⟩⟩ ?_
      exact hx μ (kbG_some h)
    · replace h := kbG_f hc h
      refine r_aload_n dX7_stepsFromLeft_18 rfl ?_
      refine r_getR flX7_18 sh39 rfl dX7_stepsFromLeft_19 ?_
      refine r_iload dX7_stepsFromLeft_22 rfl ?_
      refine r_iload dX7_stepsFromLeft_24 rfl ?_
      obtain ⟨hin, h⟩ := kbG_if h
      replace hin := kbIn_of hin
      refine q_iast v4.toNatClampNeg rfl sh42 hin dX7_stepsFromLeft_26 ?_
      refine r_iinc 1 dX7_stepsFromLeft_27 rfl (by decide) (Nat.le_of_ble_eq_true rfl) rfl ?_
      refine r_goto 12 dX7_stepsFromLeft_30 (by decide) ?_
      refine r_le [some (.ref 39), some (.int v1), none, some (.int v3), some (.int (v4 + 1)), none, none, none, none] ⟨rfl, ⟨rfl, ⟨rfl, ⟨rfl, trivial⟩⟩⟩⟩ ?_
      exact ih (v4 + 1) (kbW μ 42 v4.toNatClampNeg v4) h
def jn_RU_stepsFromLeft_158 (n : Nat) (rec : Int32 → Int32 → kbM → Option (kbM)) (v1 : Int32) (v3 : Int32) (v4 : Int32) (v5 : Int32) (v6 : Int32) (w1 : Int32) (w2 : Int32) (μ : kbM) : Option (kbM) :=
  kbIf (kbIn w1 13) <|
  rec v5 (v6 + 1) (kbW μ 42 w1.toNatClampNeg w2)
theorem jnR_RU_stepsFromLeft_158 {l : Launch} (n : Nat)   (v1 : Int32) (v3 : Int32) (v4 : Int32) (v5 : Int32) (v6 : Int32) (w1 : Int32) (w2 : Int32) (μ : kbM) {Q : kbQt} {P : kbM → Prop} (hx : ∀ z : kbM, P (z) → kbR l MX7_stepsFromLeft 3 Q 165 [some (.ref 39), some (.int v1), none, some (.int v3), some (.int v4), none, none, none, none] [] z) {rec : Int32 → Int32 → kbM → Option (kbM)} (hrec : ∀ (v5 : Int32) (v6 : Int32) (μ : kbM), kbG (rec v5 v6 μ) P → kbR l MX7_stepsFromLeft 3 Q 63 [some (.ref 39), some (.int v1), none, some (.int v3), some (.int v4), some (.int v5), some (.int v6), none, none] [] μ) (h : kbG (jn_RU_stepsFromLeft_158 n rec v1 v3 v4 v5 v6 w1 w2 μ) P) : kbR l MX7_stepsFromLeft 3 Q 158 [some (.ref 39), some (.int v1), none, some (.int v3), some (.int v4), some (.int v5), some (.int v6), none, none] [.int w2, .int w1, .ref 42] μ := by
  unfold jn_RU_stepsFromLeft_158 at h
  obtain ⟨hin, h⟩ := kbG_if h
  replace hin := kbIn_of hin
  refine q_iast w1.toNatClampNeg rfl sh42 hin dX7_stepsFromLeft_158 ?_
  refine r_iinc 1 dX7_stepsFromLeft_159 rfl (by decide) (Nat.le_of_ble_eq_true rfl) rfl ?_
  refine r_goto 63 dX7_stepsFromLeft_162 (by decide) ?_
  refine r_le [some (.ref 39), some (.int v1), none, some (.int v3), some (.int v4), some (.int v5), some (.int (v6 + 1)), none, none] ⟨rfl, ⟨rfl, ⟨rfl, ⟨rfl, ⟨rfl, ⟨rfl, trivial⟩⟩⟩⟩⟩⟩ ?_
  exact hrec v5 (v6 + 1) (kbW μ 42 w1.toNatClampNeg w2) h
def jn_RU_stepsFromLeft_132 (n : Nat) (rec : Int32 → Int32 → kbM → Option (kbM)) (v1 : Int32) (v3 : Int32) (v4 : Int32) (v5 : Int32) (v6 : Int32) (v7 : Int32) (w0 : Int32) (μ : kbM) : Option (kbM) :=
  if (w0 + 1) ≤ v7 then
    jn_RU_stepsFromLeft_158 n rec v1 v3 v4 v5 v6 (v6 + 1) (w0 + 1) μ
  else
    jn_RU_stepsFromLeft_158 n rec v1 v3 v4 v5 v6 (v6 + 1) v7 μ
theorem jnR_RU_stepsFromLeft_132 {l : Launch} (n : Nat)   (v1 : Int32) (v3 : Int32) (v4 : Int32) (v5 : Int32) (v6 : Int32) (v7 : Int32) (w0 : Int32) (μ : kbM) {Q : kbQt} {P : kbM → Prop} (hx : ∀ z : kbM, P (z) → kbR l MX7_stepsFromLeft 3 Q 165 [some (.ref 39), some (.int v1), none, some (.int v3), some (.int v4), none, none, none, none] [] z) {rec : Int32 → Int32 → kbM → Option (kbM)} (hrec : ∀ (v5 : Int32) (v6 : Int32) (μ : kbM), kbG (rec v5 v6 μ) P → kbR l MX7_stepsFromLeft 3 Q 63 [some (.ref 39), some (.int v1), none, some (.int v3), some (.int v4), some (.int v5), some (.int v6), none, none] [] μ) (h : kbG (jn_RU_stepsFromLeft_132 n rec v1 v3 v4 v5 v6 v7 w0 μ) P) : kbR l MX7_stepsFromLeft 3 Q 132 [some (.ref 39), some (.int v1), none, some (.int v3), some (.int v4), some (.int v5), some (.int v6), some (.int v7), none] [.int w0] μ := by
  unfold jn_RU_stepsFromLeft_132 at h
  refine r_iconst 1 dX7_stepsFromLeft_132 (by decide) ?_
  refine r_iadd dX7_stepsFromLeft_133 ?_
  refine r_istore dX7_stepsFromLeft_134 (Nat.le_of_ble_eq_true rfl) rfl ?_
  refine r_aload_n dX7_stepsFromLeft_136 rfl ?_
  refine r_getR flX7_18 sh39 rfl dX7_stepsFromLeft_137 ?_
  refine r_iload dX7_stepsFromLeft_140 rfl ?_
  refine r_iconst 1 dX7_stepsFromLeft_142 (by decide) ?_
  refine r_iadd dX7_stepsFromLeft_143 ?_
  refine r_iload dX7_stepsFromLeft_144 rfl ?_
  refine r_iload dX7_stepsFromLeft_146 rfl ?_
  refine r_icmp_ge 156 dX7_stepsFromLeft_148 (by decide) (fun hc => ?_) (fun hc => ?_)
  · replace h := kbG_t hc h
    refine r_iload dX7_stepsFromLeft_156 rfl ?_
    refine r_le [some (.ref 39), some (.int v1), none, some (.int v3), some (.int v4), some (.int v5), some (.int v6), none, none] ⟨rfl, ⟨rfl, ⟨rfl, ⟨rfl, ⟨rfl, ⟨rfl, trivial⟩⟩⟩⟩⟩⟩ ?_
    exact jnR_RU_stepsFromLeft_158 n v1 v3 v4 v5 v6 (v6 + 1) (w0 + 1) μ (hx := hx) (hrec := hrec) h
  · replace h := kbG_f hc h
    refine r_iload dX7_stepsFromLeft_151 rfl ?_
    refine r_goto 158 dX7_stepsFromLeft_153 (by decide) ?_
    refine r_le [some (.ref 39), some (.int v1), none, some (.int v3), some (.int v4), some (.int v5), some (.int v6), none, none] ⟨rfl, ⟨rfl, ⟨rfl, ⟨rfl, ⟨rfl, ⟨rfl, trivial⟩⟩⟩⟩⟩⟩ ?_
    exact jnR_RU_stepsFromLeft_158 n v1 v3 v4 v5 v6 (v6 + 1) v7 μ (hx := hx) (hrec := hrec) h
def jn_RU_stepsFromLeft_95 (n : Nat) (rec : Int32 → Int32 → kbM → Option (kbM)) (v1 : Int32) (v3 : Int32) (v4 : Int32) (v6 : Int32) (w0 : Int32) (μ : kbM) : Option (kbM) :=
  kbIf (kbIn (v6 + 1) 13) <|
  kbIf (kbIn v6 13) <|
  if (μ.1 42 v6.toNatClampNeg) ≤ (μ.1 42 ((v6 + 1).toNatClampNeg)) then
    kbIf (kbIn v6 13) <|
    jn_RU_stepsFromLeft_132 n rec v1 v3 v4 (μ.1 42 ((v6 + 1).toNatClampNeg)) v6 w0 (μ.1 42 v6.toNatClampNeg) μ
  else
    jn_RU_stepsFromLeft_132 n rec v1 v3 v4 (μ.1 42 ((v6 + 1).toNatClampNeg)) v6 w0 (μ.1 42 ((v6 + 1).toNatClampNeg)) μ
theorem jnR_RU_stepsFromLeft_95 {l : Launch} (n : Nat)   (v1 : Int32) (v3 : Int32) (v4 : Int32) (v6 : Int32) (w0 : Int32) (μ : kbM) {Q : kbQt} {P : kbM → Prop} (hx : ∀ z : kbM, P (z) → kbR l MX7_stepsFromLeft 3 Q 165 [some (.ref 39), some (.int v1), none, some (.int v3), some (.int v4), none, none, none, none] [] z) {rec : Int32 → Int32 → kbM → Option (kbM)} (hrec : ∀ (v5 : Int32) (v6 : Int32) (μ : kbM), kbG (rec v5 v6 μ) P → kbR l MX7_stepsFromLeft 3 Q 63 [some (.ref 39), some (.int v1), none, some (.int v3), some (.int v4), some (.int v5), some (.int v6), none, none] [] μ) (h : kbG (jn_RU_stepsFromLeft_95 n rec v1 v3 v4 v6 w0 μ) P) : kbR l MX7_stepsFromLeft 3 Q 95 [some (.ref 39), some (.int v1), none, some (.int v3), some (.int v4), none, some (.int v6), none, none] [.int w0] μ := by
  unfold jn_RU_stepsFromLeft_95 at h
  refine r_istore dX7_stepsFromLeft_95 (Nat.le_of_ble_eq_true rfl) rfl ?_
  refine r_aload_n dX7_stepsFromLeft_97 rfl ?_
  refine r_getR flX7_18 sh39 rfl dX7_stepsFromLeft_98 ?_
  refine r_iload dX7_stepsFromLeft_101 rfl ?_
  refine r_iconst 1 dX7_stepsFromLeft_103 (by decide) ?_
  refine r_iadd dX7_stepsFromLeft_104 ?_
  obtain ⟨hin, h⟩ := kbG_if h
  replace hin := kbIn_of hin
  refine q_iald ((v6 + 1).toNatClampNeg) rfl sh42 hin dX7_stepsFromLeft_105 ?_
  refine r_istore dX7_stepsFromLeft_106 (Nat.le_of_ble_eq_true rfl) rfl ?_
  refine r_iload dX7_stepsFromLeft_108 rfl ?_
  refine r_aload_n dX7_stepsFromLeft_110 rfl ?_
  refine r_getR flX7_18 sh39 rfl dX7_stepsFromLeft_111 ?_
  refine r_iload dX7_stepsFromLeft_114 rfl ?_
  obtain ⟨hin, h⟩ := kbG_if h
  replace hin := kbIn_of hin
  refine q_iald v6.toNatClampNeg rfl sh42 hin dX7_stepsFromLeft_116 ?_
  refine r_icmp_ge 125 dX7_stepsFromLeft_117 (by decide) (fun hc => ?_) (fun hc => ?_)
  · replace h := kbG_t hc h
    refine r_aload_n dX7_stepsFromLeft_125 rfl ?_
    refine r_getR flX7_18 sh39 rfl dX7_stepsFromLeft_126 ?_
    refine r_iload dX7_stepsFromLeft_129 rfl ?_
    obtain ⟨hin, h⟩ := kbG_if h
    replace hin := kbIn_of hin
    refine q_iald v6.toNatClampNeg rfl sh42 hin dX7_stepsFromLeft_131 ?_
    refine r_le [some (.ref 39), some (.int v1), none, some (.int v3), some (.int v4), some (.int (μ.1 42 ((v6 + 1).toNatClampNeg))), some (.int v6), some (.int w0), none] ⟨rfl, ⟨rfl, ⟨rfl, ⟨rfl, ⟨rfl, ⟨rfl, ⟨rfl, trivial⟩⟩⟩⟩⟩⟩⟩ ?_
    exact jnR_RU_stepsFromLeft_132 n v1 v3 v4 (μ.1 42 ((v6 + 1).toNatClampNeg)) v6 w0 (μ.1 42 v6.toNatClampNeg) μ (hx := hx) (hrec := hrec) h
  · replace h := kbG_f hc h
    refine r_iload dX7_stepsFromLeft_120 rfl ?_
    refine r_goto 132 dX7_stepsFromLeft_122 (by decide) ?_
    refine r_le [some (.ref 39), some (.int v1), none, some (.int v3), some (.int v4), some (.int (μ.1 42 ((v6 + 1).toNatClampNeg))), some (.int v6), some (.int w0), none] ⟨rfl, ⟨rfl, ⟨rfl, ⟨rfl, ⟨rfl, ⟨rfl, ⟨rfl, trivial⟩⟩⟩⟩⟩⟩⟩ ?_
    exact jnR_RU_stepsFromLeft_132 n v1 v3 v4 (μ.1 42 ((v6 + 1).toNatClampNeg)) v6 w0 (μ.1 42 ((v6 + 1).toNatClampNeg)) μ (hx := hx) (hrec := hrec) h
def lp_RU_stepsFromLeft_63 (n : Nat) (v1 : Int32) (v3 : Int32) (v4 : Int32) : Nat → Int32 → Int32 → kbM → Option (kbM)
  | 0, _, _, _ => none
  | k + 1, v5, v6, μ =>
    if v3 ≤ v6 then
      some μ
    else
      kbIf (kbIn v4 12) <|
      kbIf (kbIn v6 12) <|
      if (μ.1 40 v4.toNatClampNeg) = (μ.1 41 v6.toNatClampNeg) then
        jn_RU_stepsFromLeft_95 n (lp_RU_stepsFromLeft_63 n v1 v3 v4 k) v1 v3 v4 v6 v5 μ
      else
        jn_RU_stepsFromLeft_95 n (lp_RU_stepsFromLeft_63 n v1 v3 v4 k) v1 v3 v4 v6 (v5 + 1) μ
theorem lpR_RU_stepsFromLeft_63 {l : Launch} (n : Nat) (v1 : Int32) (v3 : Int32) (v4 : Int32)  {Q : kbQt} {P : kbM → Prop} (hx : ∀ z : kbM, P (z) → kbR l MX7_stepsFromLeft 3 Q 165 [some (.ref 39), some (.int v1), none, some (.int v3), some (.int v4), none, none, none, none] [] z) : ∀ (k : Nat) (v5 : Int32) (v6 : Int32) (μ : kbM), kbG (lp_RU_stepsFromLeft_63 n v1 v3 v4 k v5 v6 μ) P → kbR l MX7_stepsFromLeft 3 Q 63 [some (.ref 39), some (.int v1), none, some (.int v3), some (.int v4), some (.int v5), some (.int v6), none, none] [] μ := by
  intro k
  induction k with
  | zero => intro v5 v6 μ h; exact absurd h kbG_none
  | succ k ih =>
    intro v5 v6 μ h
    unfold lp_RU_stepsFromLeft_63 at h
    refine r_iload dX7_stepsFromLeft_63 rfl ?_
    refine r_iload_n dX7_stepsFromLeft_65 rfl ?_
    refine r_icmp_ge 165 dX7_stepsFromLeft_66 (by decide) (fun hc => ?_) (fun hc => ?_)
    · replace h := kbG_t hc h
      refine r_le [some (.ref 39), some (.int v1), none, some (.int v3), some (.int v4), none, none, none, none] ⟨rfl, ⟨rfl, ⟨rfl, ⟨rfl, trivial⟩⟩⟩⟩ ?_
      exact hx μ (kbG_some h)
    · replace h := kbG_f hc h
      refine r_aload_n dX7_stepsFromLeft_69 rfl ?_
      refine r_getR flX7_9 sh39 rfl dX7_stepsFromLeft_70 ?_
      refine r_iload dX7_stepsFromLeft_73 rfl ?_
      obtain ⟨hin, h⟩ := kbG_if h
      replace hin := kbIn_of hin
      refine q_iald v4.toNatClampNeg rfl sh40 hin dX7_stepsFromLeft_75 ?_
      refine r_aload_n dX7_stepsFromLeft_76 rfl ?_
      refine r_getR flX7_15 sh39 rfl dX7_stepsFromLeft_77 ?_
      refine r_iload dX7_stepsFromLeft_80 rfl ?_
      obtain ⟨hin, h⟩ := kbG_if h
      replace hin := kbIn_of hin
      refine q_iald v6.toNatClampNeg rfl sh41 hin dX7_stepsFromLeft_82 ?_
      refine r_icmp_ne 91 dX7_stepsFromLeft_83 (by decide) (fun hc => ?_) (fun hc => ?_)
      · replace h := kbG_f hc h
        refine r_iload dX7_stepsFromLeft_91 rfl ?_
        refine r_iconst 1 dX7_stepsFromLeft_93 (by decide) ?_
        refine r_iadd dX7_stepsFromLeft_94 ?_
        refine r_le [some (.ref 39), some (.int v1), none, some (.int v3), some (.int v4), none, some (.int v6), none, none] ⟨rfl, ⟨rfl, ⟨rfl, ⟨rfl, ⟨rfl, trivial⟩⟩⟩⟩⟩ ?_
        exact jnR_RU_stepsFromLeft_95 n v1 v3 v4 v6 (v5 + 1) μ (hx := hx) (hrec := ih) h
      · replace h := kbG_t hc h
        refine r_iload dX7_stepsFromLeft_86 rfl ?_
        refine r_goto 95 dX7_stepsFromLeft_88 (by decide) ?_
        refine r_le [some (.ref 39), some (.int v1), none, some (.int v3), some (.int v4), none, some (.int v6), none, none] ⟨rfl, ⟨rfl, ⟨rfl, ⟨rfl, ⟨rfl, trivial⟩⟩⟩⟩⟩ ?_
        exact jnR_RU_stepsFromLeft_95 n v1 v3 v4 v6 v5 μ (hx := hx) (hrec := ih) h
def lp_RU_stepsFromLeft_36 (n : Nat) (v1 : Int32) (v3 : Int32) : Nat → Int32 → kbM → Option (kbM)
  | 0, _, _ => none
  | k + 1, v4, μ =>
    if v1 ≤ v4 then
      some μ
    else
      (lp_RU_stepsFromLeft_63 n v1 v3 v4 n (μ.1 42 0) 0 (kbW μ 42 0 (v4 + 1))).bind fun x3 =>
      lp_RU_stepsFromLeft_36 n v1 v3 k (v4 + 1) x3
theorem lpR_RU_stepsFromLeft_36 {l : Launch} (n : Nat) (v1 : Int32) (v3 : Int32)  {Q : kbQt} {P : kbM → Prop} (hx : ∀ z : kbM, P (z) → kbR l MX7_stepsFromLeft 3 Q 171 [some (.ref 39), none, none, some (.int v3), none, none, none, none, none] [] z) : ∀ (k : Nat) (v4 : Int32) (μ : kbM), kbG (lp_RU_stepsFromLeft_36 n v1 v3 k v4 μ) P → kbR l MX7_stepsFromLeft 3 Q 36 [some (.ref 39), some (.int v1), none, some (.int v3), some (.int v4), none, none, none, none] [] μ := by
  intro k
  induction k with
  | zero => intro v4 μ h; exact absurd h kbG_none
  | succ k ih =>
    intro v4 μ h
    unfold lp_RU_stepsFromLeft_36 at h
    refine r_iload dX7_stepsFromLeft_36 rfl ?_
    refine r_iload_n dX7_stepsFromLeft_38 rfl ?_
    refine r_icmp_ge 171 dX7_stepsFromLeft_39 (by decide) (fun hc => ?_) (fun hc => ?_)
    · replace h := kbG_t hc h
      refine r_le [some (.ref 39), none, none, some (.int v3), none, none, none, none, none] ⟨rfl, ⟨rfl, trivial⟩⟩ ?_
      exact hx μ (kbG_some h)
    · replace h := kbG_f hc h
      refine r_aload_n dX7_stepsFromLeft_42 rfl ?_
      refine r_getR flX7_18 sh39 rfl dX7_stepsFromLeft_43 ?_
      refine r_iconst 0 dX7_stepsFromLeft_46 (by decide) ?_
      have hin : vp_in 0 13 := kbIn_of (by decide)
      refine q_iald 0 (by decide) sh42 hin dX7_stepsFromLeft_47 ?_
      refine r_istore dX7_stepsFromLeft_48 (Nat.le_of_ble_eq_true rfl) rfl ?_
      refine r_aload_n dX7_stepsFromLeft_50 rfl ?_
      refine r_getR flX7_18 sh39 rfl dX7_stepsFromLeft_51 ?_
      refine r_iconst 0 dX7_stepsFromLeft_54 (by decide) ?_
      refine r_iload dX7_stepsFromLeft_55 rfl ?_
      refine r_iconst 1 dX7_stepsFromLeft_57 (by decide) ?_
      refine r_iadd dX7_stepsFromLeft_58 ?_
      have hin : vp_in 0 13 := kbIn_of (by decide)
      refine q_iast 0 (by decide) sh42 hin dX7_stepsFromLeft_59 ?_
      refine r_iconst 0 dX7_stepsFromLeft_60 (by decide) ?_
      refine r_istore dX7_stepsFromLeft_61 (Nat.le_of_ble_eq_true rfl) rfl ?_
      refine r_le [some (.ref 39), some (.int v1), none, some (.int v3), some (.int v4), some (.int (μ.1 42 0)), some (.int 0), none, none] ⟨rfl, ⟨rfl, ⟨rfl, ⟨rfl, ⟨rfl, ⟨rfl, trivial⟩⟩⟩⟩⟩⟩ ?_
      obtain ⟨x3, hx0, h⟩ := kbG_bind h
      refine lpR_RU_stepsFromLeft_63 n v1 v3 v4 (P := fun z => x3 = z) (hx := fun z e => ?_) n _ _ _ ⟨_, hx0, rfl⟩
      subst e
      refine r_iinc 1 dX7_stepsFromLeft_165 rfl (by decide) (Nat.le_of_ble_eq_true rfl) rfl ?_
      refine r_goto 36 dX7_stepsFromLeft_168 (by decide) ?_
      refine r_le [some (.ref 39), some (.int v1), none, some (.int v3), some (.int (v4 + 1)), none, none, none, none] ⟨rfl, ⟨rfl, ⟨rfl, ⟨rfl, trivial⟩⟩⟩⟩ ?_
      exact ih (v4 + 1) x3 h
def f_RU_stepsFromLeft (n : Nat) (a1 : Int32) (a2 : Int32) (μ : kbM) : Option (Int32 × kbM) :=
  (f_RO_spread_41 n a2 μ).bind fun x1 =>
  (lp_RU_stepsFromLeft_12 n a1 x1.1 n 0 x1.2).bind fun x2 =>
  (lp_RU_stepsFromLeft_36 n a1 x1.1 n 0 x2).bind fun x4 =>
  kbIf (kbIn x1.1 13) <|
  some ((x4.1 42 x1.1.toNatClampNeg, x4))
theorem sp_RU_stepsFromLeft {l : Launch} (n : Nat) (a1 : Int32) (a2 : Int32) (μ : kbM)  {x : Int32 × kbM} (h : f_RU_stepsFromLeft n a1 a2 μ = some x) : kbS l MX7_stepsFromLeft 3 [.ref 39, .int a1, .int a2] μ (kbQe (some (.int x.1)) x.2) := by
  refine kb_enter 6 rfl rfl ?_
  suffices H : ∀ (Q : kbQt) (P : Int32 × kbM → Prop), (∀ z : Int32 × kbM, P z → Q (some (.int z.1)) z.2) → kbG (f_RU_stepsFromLeft n a1 a2 μ) P → kbR l MX7_stepsFromLeft 3 Q 0 [some (.ref 39), some (.int a1), some (.int a2), none, none, none, none, none, none] [] μ from H _ (fun z => z = x) (fun z e => by subst e; exact ⟨rfl, rfl⟩) ⟨x, h, rfl⟩
  clear h
  intro Q P hr h
  unfold f_RU_stepsFromLeft at h
  refine r_iload_n dX7_stepsFromLeft_0 rfl ?_
  refine r_aload_n dX7_stepsFromLeft_1 rfl ?_
  refine r_getR flX7_15 sh39 rfl dX7_stepsFromLeft_2 ?_
  obtain ⟨x1, hx0, h⟩ := kbG_bind h
  refine r_inv_i csX7_25 (sp_RO_spread_41 n a2 μ hx0) rfl rfl (Nat.le_of_ble_eq_true rfl) (Nat.le_of_ble_eq_true rfl) dX7_stepsFromLeft_5 ?_
  refine r_istore_n dX7_stepsFromLeft_8 (Nat.le_of_ble_eq_true rfl) rfl ?_
  refine r_iconst 0 dX7_stepsFromLeft_9 (by decide) ?_
  refine r_istore dX7_stepsFromLeft_10 (Nat.le_of_ble_eq_true rfl) rfl ?_
  refine r_le [some (.ref 39), some (.int a1), none, some (.int x1.1), some (.int 0), none, none, none, none] ⟨rfl, ⟨rfl, ⟨rfl, ⟨rfl, trivial⟩⟩⟩⟩ ?_
  obtain ⟨x2, hx0, h⟩ := kbG_bind h
  refine lpR_RU_stepsFromLeft_12 n a1 x1.1 (P := fun z => x2 = z) (hx := fun z e => ?_) n _ _ ⟨_, hx0, rfl⟩
  subst e
  refine r_iconst 0 dX7_stepsFromLeft_33 (by decide) ?_
  refine r_istore dX7_stepsFromLeft_34 (Nat.le_of_ble_eq_true rfl) rfl ?_
  refine r_le [some (.ref 39), some (.int a1), none, some (.int x1.1), some (.int 0), none, none, none, none] ⟨rfl, ⟨rfl, ⟨rfl, ⟨rfl, trivial⟩⟩⟩⟩ ?_
  obtain ⟨x4, hx0, h⟩ := kbG_bind h
  refine lpR_RU_stepsFromLeft_36 n a1 x1.1 (P := fun z => x4 = z) (hx := fun z e => ?_) n _ _ ⟨_, hx0, rfl⟩
  subst e
  refine r_aload_n dX7_stepsFromLeft_171 rfl ?_
  refine r_getR flX7_18 sh39 rfl dX7_stepsFromLeft_172 ?_
  refine r_iload_n dX7_stepsFromLeft_175 rfl ?_
  obtain ⟨hin, h⟩ := kbG_if h
  replace hin := kbIn_of hin
  refine q_iald x1.1.toNatClampNeg rfl sh42 hin dX7_stepsFromLeft_176 ?_
  exact r_iret rfl dX7_stepsFromLeft_177 (hr ((x4.1 42 x1.1.toNatClampNeg, x4)) (kbG_some h))
def f_RU_steps (n : Nat) (a1 : Int32) (a2 : Int32) (μ : kbM) : Option (Int32 × kbM) :=
  (f_RO_spread_40 n a1 μ).bind fun x1 =>
  (f_RU_stepsFromLeft n x1.1 a2 x1.2).bind fun x2 =>
  some ((x2.1, x2.2))
theorem sp_RU_steps {l : Launch} (n : Nat) (a1 : Int32) (a2 : Int32) (μ : kbM)  {x : Int32 × kbM} (h : f_RU_steps n a1 a2 μ = some x) : kbS l MX7_steps 4 [.ref 39, .int a1, .int a2] μ (kbQe (some (.int x.1)) x.2) := by
  refine kb_enter 0 rfl rfl ?_
  suffices H : ∀ (Q : kbQt) (P : Int32 × kbM → Prop), (∀ z : Int32 × kbM, P z → Q (some (.int z.1)) z.2) → kbG (f_RU_steps n a1 a2 μ) P → kbR l MX7_steps 4 Q 0 [some (.ref 39), some (.int a1), some (.int a2)] [] μ from H _ (fun z => z = x) (fun z e => by subst e; exact ⟨rfl, rfl⟩) ⟨x, h, rfl⟩
  clear h
  intro Q P hr h
  unfold f_RU_steps at h
  refine r_aload_n dX7_steps_0 rfl ?_
  refine r_iload_n dX7_steps_1 rfl ?_
  refine r_aload_n dX7_steps_2 rfl ?_
  refine r_getR flX7_9 sh39 rfl dX7_steps_3 ?_
  obtain ⟨x1, hx0, h⟩ := kbG_bind h
  refine r_inv_i csX7_25 (sp_RO_spread_40 n a1 μ hx0) rfl rfl (Nat.le_of_ble_eq_true rfl) (Nat.le_of_ble_eq_true rfl) dX7_steps_6 ?_
  refine r_iload_n dX7_steps_9 rfl ?_
  obtain ⟨x2, hx0, h⟩ := kbG_bind h
  refine r_invV_i cvX7_31 sh39 rfl (sp_RU_stepsFromLeft n x1.1 a2 x1.2 hx0) rfl rfl (Nat.le_of_ble_eq_true rfl) (Nat.le_of_ble_eq_true rfl) dX7_steps_10 ?_
  exact r_iret rfl dX7_steps_13 (hr ((x2.1, x2.2)) (kbG_some h))
def jn_RU_nearestWord_97 (n : Nat) (rec : Int32 → Int32 → Int32 → kbM → Option (Int32 × kbM)) (v2 : Int32) (v3 : Int32) (v4 : Int32) (v5 : Int32) (μ : kbM) : Option (Int32 × kbM) :=
  rec v3 v4 (v5 + 1) μ
theorem jnR_RU_nearestWord_97 {l : Launch} (n : Nat)   (v2 : Int32) (v3 : Int32) (v4 : Int32) (v5 : Int32) (μ : kbM) {Q : kbQt} {P : Int32 × kbM → Prop} (hx : ∀ z : Int32 × kbM, P (z) → kbR l MX7_nearestWord 4 Q 103 [none, none, none, some (.int z.1), none, none, none] [] z.2) {rec : Int32 → Int32 → Int32 → kbM → Option (Int32 × kbM)} (hrec : ∀ (v3 : Int32) (v4 : Int32) (v5 : Int32) (μ : kbM), kbG (rec v3 v4 v5 μ) P → kbR l MX7_nearestWord 4 Q 18 [some (.ref 39), none, some (.int v2), some (.int v3), some (.int v4), some (.int v5), none] [] μ) (h : kbG (jn_RU_nearestWord_97 n rec v2 v3 v4 v5 μ) P) : kbR l MX7_nearestWord 4 Q 97 [some (.ref 39), none, some (.int v2), some (.int v3), some (.int v4), some (.int v5), none] [] μ := by
  unfold jn_RU_nearestWord_97 at h
  refine r_iinc 1 dX7_nearestWord_97 rfl (by decide) (Nat.le_of_ble_eq_true rfl) rfl ?_
  refine r_goto 18 dX7_nearestWord_100 (by decide) ?_
  refine r_le [some (.ref 39), none, some (.int v2), some (.int v3), some (.int v4), some (.int (v5 + 1)), none] ⟨rfl, ⟨rfl, ⟨rfl, ⟨rfl, ⟨rfl, trivial⟩⟩⟩⟩⟩ ?_
  exact hrec v3 v4 (v5 + 1) μ h
def jn_RU_nearestWord_95 (n : Nat) (rec : Int32 → Int32 → Int32 → kbM → Option (Int32 × kbM)) (v2 : Int32) (v3 : Int32) (v5 : Int32) (w0 : Int32) (μ : kbM) : Option (Int32 × kbM) :=
  jn_RU_nearestWord_97 n rec v2 v3 w0 v5 μ
theorem jnR_RU_nearestWord_95 {l : Launch} (n : Nat)   (v2 : Int32) (v3 : Int32) (v5 : Int32) (w0 : Int32) (μ : kbM) {Q : kbQt} {P : Int32 × kbM → Prop} (hx : ∀ z : Int32 × kbM, P (z) → kbR l MX7_nearestWord 4 Q 103 [none, none, none, some (.int z.1), none, none, none] [] z.2) {rec : Int32 → Int32 → Int32 → kbM → Option (Int32 × kbM)} (hrec : ∀ (v3 : Int32) (v4 : Int32) (v5 : Int32) (μ : kbM), kbG (rec v3 v4 v5 μ) P → kbR l MX7_nearestWord 4 Q 18 [some (.ref 39), none, some (.int v2), some (.int v3), some (.int v4), some (.int v5), none] [] μ) (h : kbG (jn_RU_nearestWord_95 n rec v2 v3 v5 w0 μ) P) : kbR l MX7_nearestWord 4 Q 95 [some (.ref 39), none, some (.int v2), some (.int v3), none, some (.int v5), none] [.int w0] μ := by
  unfold jn_RU_nearestWord_95 at h
  refine r_istore dX7_nearestWord_95 (Nat.le_of_ble_eq_true rfl) rfl ?_
  refine r_le [some (.ref 39), none, some (.int v2), some (.int v3), some (.int w0), some (.int v5), none] ⟨rfl, ⟨rfl, ⟨rfl, ⟨rfl, ⟨rfl, trivial⟩⟩⟩⟩⟩ ?_
  exact jnR_RU_nearestWord_97 n v2 v3 w0 v5 μ (hx := hx) (hrec := hrec) h
def jn_RU_nearestWord_80 (n : Nat) (rec : Int32 → Int32 → Int32 → kbM → Option (Int32 × kbM)) (v2 : Int32) (v4 : Int32) (v5 : Int32) (v6 : Int32) (w0 : Int32) (μ : kbM) : Option (Int32 × kbM) :=
  if v4 ≤ v6 then
    jn_RU_nearestWord_95 n rec v2 w0 v5 v4 μ
  else
    jn_RU_nearestWord_95 n rec v2 w0 v5 v6 μ
theorem jnR_RU_nearestWord_80 {l : Launch} (n : Nat)   (v2 : Int32) (v4 : Int32) (v5 : Int32) (v6 : Int32) (w0 : Int32) (μ : kbM) {Q : kbQt} {P : Int32 × kbM → Prop} (hx : ∀ z : Int32 × kbM, P (z) → kbR l MX7_nearestWord 4 Q 103 [none, none, none, some (.int z.1), none, none, none] [] z.2) {rec : Int32 → Int32 → Int32 → kbM → Option (Int32 × kbM)} (hrec : ∀ (v3 : Int32) (v4 : Int32) (v5 : Int32) (μ : kbM), kbG (rec v3 v4 v5 μ) P → kbR l MX7_nearestWord 4 Q 18 [some (.ref 39), none, some (.int v2), some (.int v3), some (.int v4), some (.int v5), none] [] μ) (h : kbG (jn_RU_nearestWord_80 n rec v2 v4 v5 v6 w0 μ) P) : kbR l MX7_nearestWord 4 Q 80 [some (.ref 39), none, some (.int v2), none, some (.int v4), some (.int v5), some (.int v6)] [.int w0] μ := by
  unfold jn_RU_nearestWord_80 at h
  refine r_istore_n dX7_nearestWord_80 (Nat.le_of_ble_eq_true rfl) rfl ?_
  refine r_iload dX7_nearestWord_81 rfl ?_
  refine r_iload dX7_nearestWord_83 rfl ?_
  refine r_icmp_ge 93 dX7_nearestWord_85 (by decide) (fun hc => ?_) (fun hc => ?_)
  · replace h := kbG_t hc h
    refine r_iload dX7_nearestWord_93 rfl ?_
    refine r_le [some (.ref 39), none, some (.int v2), some (.int w0), none, some (.int v5), none] ⟨rfl, ⟨rfl, ⟨rfl, ⟨rfl, trivial⟩⟩⟩⟩ ?_
    exact jnR_RU_nearestWord_95 n v2 w0 v5 v4 μ (hx := hx) (hrec := hrec) h
  · replace h := kbG_f hc h
    refine r_iload dX7_nearestWord_88 rfl ?_
    refine r_goto 95 dX7_nearestWord_90 (by decide) ?_
    refine r_le [some (.ref 39), none, some (.int v2), some (.int w0), none, some (.int v5), none] ⟨rfl, ⟨rfl, ⟨rfl, ⟨rfl, trivial⟩⟩⟩⟩ ?_
    exact jnR_RU_nearestWord_95 n v2 w0 v5 v6 μ (hx := hx) (hrec := hrec) h
def lp_RU_nearestWord_18 (n : Nat) (v2 : Int32) : Nat → Int32 → Int32 → Int32 → kbM → Option (Int32 × kbM)
  | 0, _, _, _, _ => none
  | k + 1, v3, v4, v5, μ =>
    if (μ.1 13 4) ≤ v5 then
      some ((v3, μ))
    else
      kbIf (kbIn v5 10) <|
      if v4 ≤ (kbAbs (v2 - (μ.1 15 v5.toNatClampNeg))) then
        jn_RU_nearestWord_97 n (lp_RU_nearestWord_18 n v2 k) v2 v3 v4 v5 μ
      else
        kbIf (kbIn v5 10) <|
        (f_RU_stepsFromLeft n v2 (μ.1 14 v5.toNatClampNeg) μ).bind fun x2 =>
        if v4 ≤ x2.1 then
          jn_RU_nearestWord_80 n (lp_RU_nearestWord_18 n v2 k) v2 v4 v5 x2.1 v3 x2.2
        else
          jn_RU_nearestWord_80 n (lp_RU_nearestWord_18 n v2 k) v2 v4 v5 x2.1 v5 x2.2
theorem lpR_RU_nearestWord_18 {l : Launch} (n : Nat) (v2 : Int32)  {Q : kbQt} {P : Int32 × kbM → Prop} (hx : ∀ z : Int32 × kbM, P (z) → kbR l MX7_nearestWord 4 Q 103 [none, none, none, some (.int z.1), none, none, none] [] z.2) : ∀ (k : Nat) (v3 : Int32) (v4 : Int32) (v5 : Int32) (μ : kbM), kbG (lp_RU_nearestWord_18 n v2 k v3 v4 v5 μ) P → kbR l MX7_nearestWord 4 Q 18 [some (.ref 39), none, some (.int v2), some (.int v3), some (.int v4), some (.int v5), none] [] μ := by
  intro k
  induction k with
  | zero => intro v3 v4 v5 μ h; exact absurd h kbG_none
  | succ k ih =>
    intro v3 v4 v5 μ h
    unfold lp_RU_nearestWord_18 at h
    refine r_iload dX7_nearestWord_18 rfl ?_
    refine r_aload_n dX7_nearestWord_20 rfl ?_
    refine r_getR flX7_21 sh39 rfl dX7_nearestWord_21 ?_
    refine r_getI flX7_36 sh13 rfl dX7_nearestWord_24 ?_
    refine r_icmp_ge 103 dX7_nearestWord_27 (by decide) (fun hc => ?_) (fun hc => ?_)
    · replace h := kbG_t hc h
      refine r_le [none, none, none, some (.int v3), none, none, none] ⟨rfl, trivial⟩ ?_
      exact hx ((v3, μ)) (kbG_some h)
    · replace h := kbG_f hc h
      refine r_iload_n dX7_nearestWord_30 rfl ?_
      refine r_aload_n dX7_nearestWord_31 rfl ?_
      refine r_getR flX7_21 sh39 rfl dX7_nearestWord_32 ?_
      refine r_getR flX7_42 sh13 rfl dX7_nearestWord_35 ?_
      refine r_iload dX7_nearestWord_38 rfl ?_
      obtain ⟨hin, h⟩ := kbG_if h
      replace hin := kbIn_of hin
      refine q_iald v5.toNatClampNeg rfl sh15 hin dX7_nearestWord_40 ?_
      refine r_isub dX7_nearestWord_41 ?_
      refine r_abs mlX7_45 (Nat.le_of_ble_eq_true rfl) (Nat.le_of_ble_eq_true rfl) dX7_nearestWord_42 ?_
      refine r_iload dX7_nearestWord_45 rfl ?_
      refine r_icmp_ge 97 dX7_nearestWord_47 (by decide) (fun hc => ?_) (fun hc => ?_)
      · replace h := kbG_t hc h
        refine r_le [some (.ref 39), none, some (.int v2), some (.int v3), some (.int v4), some (.int v5), none] ⟨rfl, ⟨rfl, ⟨rfl, ⟨rfl, ⟨rfl, trivial⟩⟩⟩⟩⟩ ?_
        exact jnR_RU_nearestWord_97 n v2 v3 v4 v5 μ (hx := hx) (hrec := ih) h
      · replace h := kbG_f hc h
        refine r_aload_n dX7_nearestWord_50 rfl ?_
        refine r_iload_n dX7_nearestWord_51 rfl ?_
        refine r_aload_n dX7_nearestWord_52 rfl ?_
        refine r_getR flX7_21 sh39 rfl dX7_nearestWord_53 ?_
        refine r_getR flX7_51 sh13 rfl dX7_nearestWord_56 ?_
        refine r_iload dX7_nearestWord_59 rfl ?_
        obtain ⟨hin, h⟩ := kbG_if h
        replace hin := kbIn_of hin
        refine q_iald v5.toNatClampNeg rfl sh14 hin dX7_nearestWord_61 ?_
        obtain ⟨x2, hx0, h⟩ := kbG_bind h
        refine r_invV_i cvX7_31 sh39 rfl (sp_RU_stepsFromLeft n v2 (μ.1 14 v5.toNatClampNeg) μ hx0) rfl rfl (Nat.le_of_ble_eq_true rfl) (Nat.le_of_ble_eq_true rfl) dX7_nearestWord_62 ?_
        refine r_istore dX7_nearestWord_65 (Nat.le_of_ble_eq_true rfl) rfl ?_
        refine r_iload dX7_nearestWord_67 rfl ?_
        refine r_iload dX7_nearestWord_69 rfl ?_
        refine r_icmp_ge 79 dX7_nearestWord_71 (by decide) (fun hc => ?_) (fun hc => ?_)
        · replace h := kbG_t hc h
          refine r_iload_n dX7_nearestWord_79 rfl ?_
          refine r_le [some (.ref 39), none, some (.int v2), none, some (.int v4), some (.int v5), some (.int x2.1)] ⟨rfl, ⟨rfl, ⟨rfl, ⟨rfl, ⟨rfl, trivial⟩⟩⟩⟩⟩ ?_
          exact jnR_RU_nearestWord_80 n v2 v4 v5 x2.1 v3 x2.2 (hx := hx) (hrec := ih) h
        · replace h := kbG_f hc h
          refine r_iload dX7_nearestWord_74 rfl ?_
          refine r_goto 80 dX7_nearestWord_76 (by decide) ?_
          refine r_le [some (.ref 39), none, some (.int v2), none, some (.int v4), some (.int v5), some (.int x2.1)] ⟨rfl, ⟨rfl, ⟨rfl, ⟨rfl, ⟨rfl, trivial⟩⟩⟩⟩⟩ ?_
          exact jnR_RU_nearestWord_80 n v2 v4 v5 x2.1 v5 x2.2 (hx := hx) (hrec := ih) h
def f_RU_nearestWord (n : Nat) (a1 : Int32) (μ : kbM) : Option (Int32 × kbM) :=
  (f_RO_spread_40 n a1 μ).bind fun x1 =>
  (lp_RU_nearestWord_18 n x1.1 n (-1) 1000000 0 x1.2).bind fun x3 =>
  some ((x3.1, x3.2))
theorem sp_RU_nearestWord {l : Launch} (n : Nat) (a1 : Int32) (μ : kbM)  {x : Int32 × kbM} (h : f_RU_nearestWord n a1 μ = some x) : kbS l MX7_nearestWord 4 [.ref 39, .int a1] μ (kbQe (some (.int x.1)) x.2) := by
  refine kb_enter 5 rfl rfl ?_
  suffices H : ∀ (Q : kbQt) (P : Int32 × kbM → Prop), (∀ z : Int32 × kbM, P z → Q (some (.int z.1)) z.2) → kbG (f_RU_nearestWord n a1 μ) P → kbR l MX7_nearestWord 4 Q 0 [some (.ref 39), some (.int a1), none, none, none, none, none] [] μ from H _ (fun z => z = x) (fun z e => by subst e; exact ⟨rfl, rfl⟩) ⟨x, h, rfl⟩
  clear h
  intro Q P hr h
  unfold f_RU_nearestWord at h
  refine r_iload_n dX7_nearestWord_0 rfl ?_
  refine r_aload_n dX7_nearestWord_1 rfl ?_
  refine r_getR flX7_9 sh39 rfl dX7_nearestWord_2 ?_
  obtain ⟨x1, hx0, h⟩ := kbG_bind h
  refine r_inv_i csX7_25 (sp_RO_spread_40 n a1 μ hx0) rfl rfl (Nat.le_of_ble_eq_true rfl) (Nat.le_of_ble_eq_true rfl) dX7_nearestWord_5 ?_
  refine r_istore_n dX7_nearestWord_8 (Nat.le_of_ble_eq_true rfl) rfl ?_
  refine r_iconst (-1) dX7_nearestWord_9 (by decide) ?_
  refine r_istore_n dX7_nearestWord_10 (Nat.le_of_ble_eq_true rfl) rfl ?_
  refine r_ldc 1000000 liX7_35 dX7_nearestWord_11 ?_
  refine r_istore dX7_nearestWord_13 (Nat.le_of_ble_eq_true rfl) rfl ?_
  refine r_iconst 0 dX7_nearestWord_15 (by decide) ?_
  refine r_istore dX7_nearestWord_16 (Nat.le_of_ble_eq_true rfl) rfl ?_
  refine r_le [some (.ref 39), none, some (.int x1.1), some (.int (-1)), some (.int 1000000), some (.int 0), none] ⟨rfl, ⟨rfl, ⟨rfl, ⟨rfl, ⟨rfl, trivial⟩⟩⟩⟩⟩ ?_
  obtain ⟨x3, hx0, h⟩ := kbG_bind h
  refine lpR_RU_nearestWord_18 n x1.1 (P := fun z => x3 = z) (hx := fun z e => ?_) n _ _ _ _ ⟨_, hx0, rfl⟩
  subst e
  refine r_iload_n dX7_nearestWord_103 rfl ?_
  exact r_iret rfl dX7_nearestWord_104 (hr ((x3.1, x3.2)) (kbG_some h))
def jn_RU_closestCouple_88 (n : Nat) (rec : Int32 → Int32 → Int32 → kbM → Option (Int32 × Int32 × kbM)) (v1 : Int32) (v2 : Int32) (v3 : Int32) (v4 : Int32) (v5 : Int32) (μ : kbM) : Option (Int32 × Int32 × kbM) :=
  rec v1 v2 (v5 + 1) μ
theorem jnR_RU_closestCouple_88 {l : Launch} (n : Nat)   (v1 : Int32) (v2 : Int32) (v3 : Int32) (v4 : Int32) (v5 : Int32) (μ : kbM) {Q : kbQt} {P : Int32 × Int32 × kbM → Prop} (hx : ∀ z : Int32 × Int32 × kbM, P (z) → kbR l MX7_closestCouple 4 Q 94 [some (.ref 39), some (.int z.1), some (.int z.2.1), some (.int v3), none, none, none] [] z.2.2) {rec : Int32 → Int32 → Int32 → kbM → Option (Int32 × Int32 × kbM)} (hrec : ∀ (v1 : Int32) (v2 : Int32) (v5 : Int32) (μ : kbM), kbG (rec v1 v2 v5 μ) P → kbR l MX7_closestCouple 4 Q 41 [some (.ref 39), some (.int v1), some (.int v2), some (.int v3), some (.int v4), some (.int v5), none] [] μ) (h : kbG (jn_RU_closestCouple_88 n rec v1 v2 v3 v4 v5 μ) P) : kbR l MX7_closestCouple 4 Q 88 [some (.ref 39), some (.int v1), some (.int v2), some (.int v3), some (.int v4), some (.int v5), none] [] μ := by
  unfold jn_RU_closestCouple_88 at h
  refine r_iinc 1 dX7_closestCouple_88 rfl (by decide) (Nat.le_of_ble_eq_true rfl) rfl ?_
  refine r_goto 41 dX7_closestCouple_91 (by decide) ?_
  refine r_le [some (.ref 39), some (.int v1), some (.int v2), some (.int v3), some (.int v4), some (.int (v5 + 1)), none] ⟨rfl, ⟨rfl, ⟨rfl, ⟨rfl, ⟨rfl, ⟨rfl, trivial⟩⟩⟩⟩⟩⟩ ?_
  exact hrec v1 v2 (v5 + 1) μ h
def lp_RU_closestCouple_41 (n : Nat) (v3 : Int32) (v4 : Int32) : Nat → Int32 → Int32 → Int32 → kbM → Option (Int32 × Int32 × kbM)
  | 0, _, _, _, _ => none
  | k + 1, v1, v2, v5, μ =>
    if (μ.1 13 4) ≤ v5 then
      some ((v1, v2, μ))
    else
      kbIf (kbIn v5 10) <|
      (f_RU_stepsFromLeft n v4 (μ.1 14 v5.toNatClampNeg) μ).bind fun x2 =>
      if v2 ≤ x2.1 then
        jn_RU_closestCouple_88 n (lp_RU_closestCouple_41 n v3 v4 k) v1 v2 v3 v4 v5 x2.2
      else
        jn_RU_closestCouple_88 n (lp_RU_closestCouple_41 n v3 v4 k) ((10 * v3) + v5) x2.1 v3 v4 v5 x2.2
theorem lpR_RU_closestCouple_41 {l : Launch} (n : Nat) (v3 : Int32) (v4 : Int32)  {Q : kbQt} {P : Int32 × Int32 × kbM → Prop} (hx : ∀ z : Int32 × Int32 × kbM, P (z) → kbR l MX7_closestCouple 4 Q 94 [some (.ref 39), some (.int z.1), some (.int z.2.1), some (.int v3), none, none, none] [] z.2.2) : ∀ (k : Nat) (v1 : Int32) (v2 : Int32) (v5 : Int32) (μ : kbM), kbG (lp_RU_closestCouple_41 n v3 v4 k v1 v2 v5 μ) P → kbR l MX7_closestCouple 4 Q 41 [some (.ref 39), some (.int v1), some (.int v2), some (.int v3), some (.int v4), some (.int v5), none] [] μ := by
  intro k
  induction k with
  | zero => intro v1 v2 v5 μ h; exact absurd h kbG_none
  | succ k ih =>
    intro v1 v2 v5 μ h
    unfold lp_RU_closestCouple_41 at h
    refine r_iload dX7_closestCouple_41 rfl ?_
    refine r_aload_n dX7_closestCouple_43 rfl ?_
    refine r_getR flX7_21 sh39 rfl dX7_closestCouple_44 ?_
    refine r_getI flX7_36 sh13 rfl dX7_closestCouple_47 ?_
    refine r_icmp_ge 94 dX7_closestCouple_50 (by decide) (fun hc => ?_) (fun hc => ?_)
    · replace h := kbG_t hc h
      refine r_le [some (.ref 39), some (.int v1), some (.int v2), some (.int v3), none, none, none] ⟨rfl, ⟨rfl, ⟨rfl, ⟨rfl, trivial⟩⟩⟩⟩ ?_
      exact hx ((v1, v2, μ)) (kbG_some h)
    · replace h := kbG_f hc h
      refine r_aload_n dX7_closestCouple_53 rfl ?_
      refine r_iload dX7_closestCouple_54 rfl ?_
      refine r_aload_n dX7_closestCouple_56 rfl ?_
      refine r_getR flX7_21 sh39 rfl dX7_closestCouple_57 ?_
      refine r_getR flX7_51 sh13 rfl dX7_closestCouple_60 ?_
      refine r_iload dX7_closestCouple_63 rfl ?_
      obtain ⟨hin, h⟩ := kbG_if h
      replace hin := kbIn_of hin
      refine q_iald v5.toNatClampNeg rfl sh14 hin dX7_closestCouple_65 ?_
      obtain ⟨x2, hx0, h⟩ := kbG_bind h
      refine r_invV_i cvX7_31 sh39 rfl (sp_RU_stepsFromLeft n v4 (μ.1 14 v5.toNatClampNeg) μ hx0) rfl rfl (Nat.le_of_ble_eq_true rfl) (Nat.le_of_ble_eq_true rfl) dX7_closestCouple_66 ?_
      refine r_istore dX7_closestCouple_69 (Nat.le_of_ble_eq_true rfl) rfl ?_
      refine r_iload dX7_closestCouple_71 rfl ?_
      refine r_iload_n dX7_closestCouple_73 rfl ?_
      refine r_icmp_ge 88 dX7_closestCouple_74 (by decide) (fun hc => ?_) (fun hc => ?_)
      · replace h := kbG_t hc h
        refine r_le [some (.ref 39), some (.int v1), some (.int v2), some (.int v3), some (.int v4), some (.int v5), none] ⟨rfl, ⟨rfl, ⟨rfl, ⟨rfl, ⟨rfl, ⟨rfl, trivial⟩⟩⟩⟩⟩⟩ ?_
        exact jnR_RU_closestCouple_88 n v1 v2 v3 v4 v5 x2.2 (hx := hx) (hrec := ih) h
      · replace h := kbG_f hc h
        refine r_iload dX7_closestCouple_77 rfl ?_
        refine r_istore_n dX7_closestCouple_79 (Nat.le_of_ble_eq_true rfl) rfl ?_
        refine r_bipush 10 dX7_closestCouple_80 (by decide) ?_
        refine r_iload_n dX7_closestCouple_82 rfl ?_
        refine r_imul dX7_closestCouple_83 ?_
        refine r_iload dX7_closestCouple_84 rfl ?_
        refine r_iadd dX7_closestCouple_86 ?_
        refine r_istore_n dX7_closestCouple_87 (Nat.le_of_ble_eq_true rfl) rfl ?_
        refine r_le [some (.ref 39), some (.int ((10 * v3) + v5)), some (.int x2.1), some (.int v3), some (.int v4), some (.int v5), none] ⟨rfl, ⟨rfl, ⟨rfl, ⟨rfl, ⟨rfl, ⟨rfl, trivial⟩⟩⟩⟩⟩⟩ ?_
        exact jnR_RU_closestCouple_88 n ((10 * v3) + v5) x2.1 v3 v4 v5 x2.2 (hx := hx) (hrec := ih) h
def lp_RU_closestCouple_7 (n : Nat) : Nat → Int32 → Int32 → Int32 → kbM → Option (Int32 × kbM)
  | 0, _, _, _, _ => none
  | k + 1, v1, v2, v3, μ =>
    if (μ.1 13 4) ≤ v3 then
      some ((v1, μ))
    else
      kbIf (kbIn v3 10) <|
      (f_RO_spread_40 n (μ.1 14 v3.toNatClampNeg) μ).bind fun x1 =>
      (lp_RU_closestCouple_41 n v3 x1.1 n v1 v2 (v3 + 1) x1.2).bind fun x3 =>
      lp_RU_closestCouple_7 n k x3.1 x3.2.1 (v3 + 1) x3.2.2
theorem lpR_RU_closestCouple_7 {l : Launch} (n : Nat)   {Q : kbQt} {P : Int32 × kbM → Prop} (hx : ∀ z : Int32 × kbM, P (z) → kbR l MX7_closestCouple 4 Q 100 [none, some (.int z.1), none, none, none, none, none] [] z.2) : ∀ (k : Nat) (v1 : Int32) (v2 : Int32) (v3 : Int32) (μ : kbM), kbG (lp_RU_closestCouple_7 n k v1 v2 v3 μ) P → kbR l MX7_closestCouple 4 Q 7 [some (.ref 39), some (.int v1), some (.int v2), some (.int v3), none, none, none] [] μ := by
  intro k
  induction k with
  | zero => intro v1 v2 v3 μ h; exact absurd h kbG_none
  | succ k ih =>
    intro v1 v2 v3 μ h
    unfold lp_RU_closestCouple_7 at h
    refine r_iload_n dX7_closestCouple_7 rfl ?_
    refine r_aload_n dX7_closestCouple_8 rfl ?_
    refine r_getR flX7_21 sh39 rfl dX7_closestCouple_9 ?_
    refine r_getI flX7_36 sh13 rfl dX7_closestCouple_12 ?_
    refine r_icmp_ge 100 dX7_closestCouple_15 (by decide) (fun hc => ?_) (fun hc => ?_)
    · replace h := kbG_t hc h
      refine r_le [none, some (.int v1), none, none, none, none, none] ⟨rfl, trivial⟩ ?_
      exact hx ((v1, μ)) (kbG_some h)
    · replace h := kbG_f hc h
      refine r_aload_n dX7_closestCouple_18 rfl ?_
      refine r_getR flX7_21 sh39 rfl dX7_closestCouple_19 ?_
      refine r_getR flX7_51 sh13 rfl dX7_closestCouple_22 ?_
      refine r_iload_n dX7_closestCouple_25 rfl ?_
      obtain ⟨hin, h⟩ := kbG_if h
      replace hin := kbIn_of hin
      refine q_iald v3.toNatClampNeg rfl sh14 hin dX7_closestCouple_26 ?_
      refine r_aload_n dX7_closestCouple_27 rfl ?_
      refine r_getR flX7_9 sh39 rfl dX7_closestCouple_28 ?_
      obtain ⟨x1, hx0, h⟩ := kbG_bind h
      refine r_inv_i csX7_25 (sp_RO_spread_40 n (μ.1 14 v3.toNatClampNeg) μ hx0) rfl rfl (Nat.le_of_ble_eq_true rfl) (Nat.le_of_ble_eq_true rfl) dX7_closestCouple_31 ?_
      refine r_istore dX7_closestCouple_34 (Nat.le_of_ble_eq_true rfl) rfl ?_
      refine r_iload_n dX7_closestCouple_36 rfl ?_
      refine r_iconst 1 dX7_closestCouple_37 (by decide) ?_
      refine r_iadd dX7_closestCouple_38 ?_
      refine r_istore dX7_closestCouple_39 (Nat.le_of_ble_eq_true rfl) rfl ?_
      refine r_le [some (.ref 39), some (.int v1), some (.int v2), some (.int v3), some (.int x1.1), some (.int (v3 + 1)), none] ⟨rfl, ⟨rfl, ⟨rfl, ⟨rfl, ⟨rfl, ⟨rfl, trivial⟩⟩⟩⟩⟩⟩ ?_
      obtain ⟨x3, hx0, h⟩ := kbG_bind h
      refine lpR_RU_closestCouple_41 n v3 x1.1 (P := fun z => x3 = z) (hx := fun z e => ?_) n _ _ _ _ ⟨_, hx0, rfl⟩
      subst e
      refine r_iinc 1 dX7_closestCouple_94 rfl (by decide) (Nat.le_of_ble_eq_true rfl) rfl ?_
      refine r_goto 7 dX7_closestCouple_97 (by decide) ?_
      refine r_le [some (.ref 39), some (.int x3.1), some (.int x3.2.1), some (.int (v3 + 1)), none, none, none] ⟨rfl, ⟨rfl, ⟨rfl, ⟨rfl, trivial⟩⟩⟩⟩ ?_
      exact ih x3.1 x3.2.1 (v3 + 1) x3.2.2 h
def f_RU_closestCouple (n : Nat) (μ : kbM) : Option (Int32 × kbM) :=
  (lp_RU_closestCouple_7 n n (-1) 1000000 0 μ).bind fun x4 =>
  some ((x4.1, x4.2))
theorem sp_RU_closestCouple {l : Launch} (n : Nat) (μ : kbM)  {x : Int32 × kbM} (h : f_RU_closestCouple n μ = some x) : kbS l MX7_closestCouple 4 [.ref 39] μ (kbQe (some (.int x.1)) x.2) := by
  refine kb_enter 6 rfl rfl ?_
  suffices H : ∀ (Q : kbQt) (P : Int32 × kbM → Prop), (∀ z : Int32 × kbM, P z → Q (some (.int z.1)) z.2) → kbG (f_RU_closestCouple n μ) P → kbR l MX7_closestCouple 4 Q 0 [some (.ref 39), none, none, none, none, none, none] [] μ from H _ (fun z => z = x) (fun z e => by subst e; exact ⟨rfl, rfl⟩) ⟨x, h, rfl⟩
  clear h
  intro Q P hr h
  unfold f_RU_closestCouple at h
  refine r_iconst (-1) dX7_closestCouple_0 (by decide) ?_
  refine r_istore_n dX7_closestCouple_1 (Nat.le_of_ble_eq_true rfl) rfl ?_
  refine r_ldc 1000000 liX7_35 dX7_closestCouple_2 ?_
  refine r_istore_n dX7_closestCouple_4 (Nat.le_of_ble_eq_true rfl) rfl ?_
  refine r_iconst 0 dX7_closestCouple_5 (by decide) ?_
  refine r_istore_n dX7_closestCouple_6 (Nat.le_of_ble_eq_true rfl) rfl ?_
  refine r_le [some (.ref 39), some (.int (-1)), some (.int 1000000), some (.int 0), none, none, none] ⟨rfl, ⟨rfl, ⟨rfl, ⟨rfl, trivial⟩⟩⟩⟩ ?_
  obtain ⟨x4, hx0, h⟩ := kbG_bind h
  refine lpR_RU_closestCouple_7 n (P := fun z => x4 = z) (hx := fun z e => ?_) n _ _ _ _ ⟨_, hx0, rfl⟩
  subst e
  refine r_iload_n dX7_closestCouple_100 rfl ?_
  exact r_iret rfl dX7_closestCouple_101 (hr ((x4.1, x4.2)) (kbG_some h))
