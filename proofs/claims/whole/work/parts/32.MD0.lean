theorem dX12_thrown_0 : decode cX12_thrown 0 = .ok (.aload_n 0, 1) := by decide +kernel
theorem dX12_thrown_1 : decode cX12_thrown 1 = .ok (.getfield 159, 3) := by decide +kernel
theorem dX12_thrown_4 : decode cX12_thrown 4 = .ok (.ireturn, 1) := by decide +kernel
theorem dX12_feed_0 : decode cX12_feed 0 = .ok (.aload_n 0, 1) := by decide +kernel
theorem dX12_feed_1 : decode cX12_feed 1 = .ok (.iconst 0, 1) := by decide +kernel
theorem dX12_feed_2 : decode cX12_feed 2 = .ok (.putfield 159, 3) := by decide +kernel
theorem dX12_feed_5 : decode cX12_feed 5 = .ok (.aload_n 0, 1) := by decide +kernel
theorem dX12_feed_6 : decode cX12_feed 6 = .ok (.getfield 170, 3) := by decide +kernel
theorem dX12_feed_9 : decode cX12_feed 9 = .ok (.bipush 20, 2) := by decide +kernel
theorem dX12_feed_11 : decode cX12_feed 11 = .ok (.iadd, 1) := by decide +kernel
theorem dX12_feed_12 : decode cX12_feed 12 = .ok (.sipush 600, 3) := by decide +kernel
theorem dX12_feed_15 : decode cX12_feed 15 = .ok (.if_icmp .le 5, 3) := by decide +kernel
theorem dX12_feed_18 : decode cX12_feed 18 = .ok (.iconst (-1), 1) := by decide +kernel
theorem dX12_feed_19 : decode cX12_feed 19 = .ok (.ireturn, 1) := by decide +kernel
theorem dX12_feed_20 : decode cX12_feed 20 = .ok (.iconst 0, 1) := by decide +kernel
theorem dX12_feed_21 : decode cX12_feed 21 = .ok (.istore 6, 2) := by decide +kernel
theorem dX12_feed_23 : decode cX12_feed 23 = .ok (.iload 6, 2) := by decide +kernel
theorem dX12_feed_25 : decode cX12_feed 25 = .ok (.bipush 20, 2) := by decide +kernel
theorem dX12_feed_27 : decode cX12_feed 27 = .ok (.if_icmp .ge 93, 3) := by decide +kernel
theorem dX12_feed_30 : decode cX12_feed 30 = .ok (.iload 6, 2) := by decide +kernel
theorem dX12_feed_32 : decode cX12_feed 32 = .ok (.iconst 4, 1) := by decide +kernel
theorem dX12_feed_33 : decode cX12_feed 33 = .ok (.if_icmp .ge 7, 3) := by decide +kernel
theorem dX12_feed_36 : decode cX12_feed 36 = .ok (.iload_n 1, 1) := by decide +kernel
theorem dX12_feed_37 : decode cX12_feed 37 = .ok (.goto 39, 3) := by decide +kernel
theorem dX12_feed_40 : decode cX12_feed 40 = .ok (.iload 6, 2) := by decide +kernel
theorem dX12_feed_42 : decode cX12_feed 42 = .ok (.bipush 8, 2) := by decide +kernel
theorem dX12_feed_44 : decode cX12_feed 44 = .ok (.if_icmp .ge 7, 3) := by decide +kernel
theorem dX12_feed_47 : decode cX12_feed 47 = .ok (.iload_n 2, 1) := by decide +kernel
theorem dX12_feed_48 : decode cX12_feed 48 = .ok (.goto 28, 3) := by decide +kernel
theorem dX12_feed_51 : decode cX12_feed 51 = .ok (.iload 6, 2) := by decide +kernel
theorem dX12_feed_53 : decode cX12_feed 53 = .ok (.bipush 12, 2) := by decide +kernel
theorem dX12_feed_55 : decode cX12_feed 55 = .ok (.if_icmp .ge 7, 3) := by decide +kernel
theorem dX12_feed_58 : decode cX12_feed 58 = .ok (.iload_n 3, 1) := by decide +kernel
theorem dX12_feed_59 : decode cX12_feed 59 = .ok (.goto 17, 3) := by decide +kernel
theorem dX12_feed_62 : decode cX12_feed 62 = .ok (.iload 6, 2) := by decide +kernel
theorem dX12_feed_64 : decode cX12_feed 64 = .ok (.bipush 16, 2) := by decide +kernel
theorem dX12_feed_66 : decode cX12_feed 66 = .ok (.if_icmp .ge 8, 3) := by decide +kernel
theorem dX12_feed_69 : decode cX12_feed 69 = .ok (.iload 4, 2) := by decide +kernel
theorem dX12_feed_71 : decode cX12_feed 71 = .ok (.goto 5, 3) := by decide +kernel
theorem dX12_feed_74 : decode cX12_feed 74 = .ok (.iload 5, 2) := by decide +kernel
theorem dX12_feed_76 : decode cX12_feed 76 = .ok (.istore 7, 2) := by decide +kernel
theorem dX12_feed_78 : decode cX12_feed 78 = .ok (.aload_n 0, 1) := by decide +kernel
theorem dX12_feed_79 : decode cX12_feed 79 = .ok (.getfield 72, 3) := by decide +kernel
theorem dX12_feed_82 : decode cX12_feed 82 = .ok (.aload_n 0, 1) := by decide +kernel
theorem dX12_feed_83 : decode cX12_feed 83 = .ok (.getfield 170, 3) := by decide +kernel
theorem dX12_feed_86 : decode cX12_feed 86 = .ok (.iload 7, 2) := by decide +kernel
theorem dX12_feed_88 : decode cX12_feed 88 = .ok (.bipush 24, 2) := by decide +kernel
theorem dX12_feed_90 : decode cX12_feed 90 = .ok (.bipush 8, 2) := by decide +kernel
theorem dX12_feed_92 : decode cX12_feed 92 = .ok (.iload 6, 2) := by decide +kernel
theorem dX12_feed_94 : decode cX12_feed 94 = .ok (.iconst 4, 1) := by decide +kernel
theorem dX12_feed_95 : decode cX12_feed 95 = .ok (.irem, 1) := by decide +kernel
theorem dX12_feed_96 : decode cX12_feed 96 = .ok (.imul, 1) := by decide +kernel
theorem dX12_feed_97 : decode cX12_feed 97 = .ok (.isub, 1) := by decide +kernel
theorem dX12_feed_98 : decode cX12_feed 98 = .ok (.ishr, 1) := by decide +kernel
theorem dX12_feed_99 : decode cX12_feed 99 = .ok (.sipush 255, 3) := by decide +kernel
theorem dX12_feed_102 : decode cX12_feed 102 = .ok (.iand, 1) := by decide +kernel
theorem dX12_feed_103 : decode cX12_feed 103 = .ok (.iastore, 1) := by decide +kernel
theorem dX12_feed_104 : decode cX12_feed 104 = .ok (.aload_n 0, 1) := by decide +kernel
theorem dX12_feed_105 : decode cX12_feed 105 = .ok (.dup, 1) := by decide +kernel
theorem dX12_feed_106 : decode cX12_feed 106 = .ok (.getfield 170, 3) := by decide +kernel
theorem dX12_feed_109 : decode cX12_feed 109 = .ok (.iconst 1, 1) := by decide +kernel
theorem dX12_feed_110 : decode cX12_feed 110 = .ok (.iadd, 1) := by decide +kernel
theorem dX12_feed_111 : decode cX12_feed 111 = .ok (.putfield 170, 3) := by decide +kernel
theorem dX12_feed_114 : decode cX12_feed 114 = .ok (.iinc 6 1, 3) := by decide +kernel
theorem dX12_feed_117 : decode cX12_feed 117 = .ok (.goto (-94), 3) := by decide +kernel
theorem dX12_feed_120 : decode cX12_feed 120 = .ok (.aload_n 0, 1) := by decide +kernel
theorem dX12_feed_121 : decode cX12_feed 121 = .ok (.getfield 170, 3) := by decide +kernel
theorem dX12_feed_124 : decode cX12_feed 124 = .ok (.ireturn, 1) := by decide +kernel
theorem dX12_fail_0 : decode cX12_fail 0 = .ok (.aload_n 0, 1) := by decide +kernel
theorem dX12_fail_1 : decode cX12_fail 1 = .ok (.iload_n 1, 1) := by decide +kernel
theorem dX12_fail_2 : decode cX12_fail 2 = .ok (.putfield 159, 3) := by decide +kernel
theorem dX12_fail_5 : decode cX12_fail 5 = .ok (.iconst 0, 1) := by decide +kernel
theorem dX12_fail_6 : decode cX12_fail 6 = .ok (.ireturn, 1) := by decide +kernel
theorem dX12_byteAt_0 : decode cX12_byteAt 0 = .ok (.iload_n 1, 1) := by decide +kernel
theorem dX12_byteAt_1 : decode cX12_byteAt 1 = .ok (.aload_n 0, 1) := by decide +kernel
theorem dX12_byteAt_2 : decode cX12_byteAt 2 = .ok (.getfield 173, 3) := by decide +kernel
theorem dX12_byteAt_5 : decode cX12_byteAt 5 = .ok (.if_icmp .ge 12, 3) := by decide +kernel
theorem dX12_byteAt_8 : decode cX12_byteAt 8 = .ok (.aload_n 0, 1) := by decide +kernel
theorem dX12_byteAt_9 : decode cX12_byteAt 9 = .ok (.getfield 72, 3) := by decide +kernel
theorem dX12_byteAt_12 : decode cX12_byteAt 12 = .ok (.iload_n 1, 1) := by decide +kernel
theorem dX12_byteAt_13 : decode cX12_byteAt 13 = .ok (.iaload, 1) := by decide +kernel
theorem dX12_byteAt_14 : decode cX12_byteAt 14 = .ok (.goto 4, 3) := by decide +kernel
theorem dX12_byteAt_17 : decode cX12_byteAt 17 = .ok (.iconst (-1), 1) := by decide +kernel
theorem dX12_byteAt_18 : decode cX12_byteAt 18 = .ok (.ireturn, 1) := by decide +kernel
theorem dX12_isLetter_0 : decode cX12_isLetter 0 = .ok (.iload_n 0, 1) := by decide +kernel
theorem dX12_isLetter_1 : decode cX12_isLetter 1 = .ok (.bipush 97, 2) := by decide +kernel
theorem dX12_isLetter_3 : decode cX12_isLetter 3 = .ok (.if_icmp .lt 13, 3) := by decide +kernel
theorem dX12_isLetter_6 : decode cX12_isLetter 6 = .ok (.iload_n 0, 1) := by decide +kernel
theorem dX12_isLetter_7 : decode cX12_isLetter 7 = .ok (.bipush 122, 2) := by decide +kernel
theorem dX12_isLetter_9 : decode cX12_isLetter 9 = .ok (.if_icmp .gt 7, 3) := by decide +kernel
theorem dX12_isLetter_12 : decode cX12_isLetter 12 = .ok (.iconst 1, 1) := by decide +kernel
theorem dX12_isLetter_13 : decode cX12_isLetter 13 = .ok (.goto 4, 3) := by decide +kernel
theorem dX12_isLetter_16 : decode cX12_isLetter 16 = .ok (.iconst 0, 1) := by decide +kernel
theorem dX12_isLetter_17 : decode cX12_isLetter 17 = .ok (.ireturn, 1) := by decide +kernel
theorem dX12_isDigit_0 : decode cX12_isDigit 0 = .ok (.iload_n 0, 1) := by decide +kernel
theorem dX12_isDigit_1 : decode cX12_isDigit 1 = .ok (.bipush 48, 2) := by decide +kernel
theorem dX12_isDigit_3 : decode cX12_isDigit 3 = .ok (.if_icmp .lt 13, 3) := by decide +kernel
theorem dX12_isDigit_6 : decode cX12_isDigit 6 = .ok (.iload_n 0, 1) := by decide +kernel
theorem dX12_isDigit_7 : decode cX12_isDigit 7 = .ok (.bipush 57, 2) := by decide +kernel
theorem dX12_isDigit_9 : decode cX12_isDigit 9 = .ok (.if_icmp .gt 7, 3) := by decide +kernel
theorem dX12_isDigit_12 : decode cX12_isDigit 12 = .ok (.iconst 1, 1) := by decide +kernel
theorem dX12_isDigit_13 : decode cX12_isDigit 13 = .ok (.goto 4, 3) := by decide +kernel
theorem dX12_isDigit_16 : decode cX12_isDigit 16 = .ok (.iconst 0, 1) := by decide +kernel
theorem dX12_isDigit_17 : decode cX12_isDigit 17 = .ok (.ireturn, 1) := by decide +kernel
theorem dX12_isMark_0 : decode cX12_isMark 0 = .ok (.iload_n 0, 1) := by decide +kernel
theorem dX12_isMark_1 : decode cX12_isMark 1 = .ok (.bipush 59, 2) := by decide +kernel
theorem dX12_isMark_3 : decode cX12_isMark 3 = .ok (.if_icmp .eq 51, 3) := by decide +kernel
theorem dX12_isMark_6 : decode cX12_isMark 6 = .ok (.iload_n 0, 1) := by decide +kernel
theorem dX12_isMark_7 : decode cX12_isMark 7 = .ok (.bipush 40, 2) := by decide +kernel
theorem dX12_isMark_9 : decode cX12_isMark 9 = .ok (.if_icmp .eq 45, 3) := by decide +kernel
theorem dX12_isMark_12 : decode cX12_isMark 12 = .ok (.iload_n 0, 1) := by decide +kernel
theorem dX12_isMark_13 : decode cX12_isMark 13 = .ok (.bipush 41, 2) := by decide +kernel
theorem dX12_isMark_15 : decode cX12_isMark 15 = .ok (.if_icmp .eq 39, 3) := by decide +kernel
theorem dX12_isMark_18 : decode cX12_isMark 18 = .ok (.iload_n 0, 1) := by decide +kernel
theorem dX12_isMark_19 : decode cX12_isMark 19 = .ok (.bipush 43, 2) := by decide +kernel
theorem dX12_isMark_21 : decode cX12_isMark 21 = .ok (.if_icmp .eq 33, 3) := by decide +kernel
theorem dX12_isMark_24 : decode cX12_isMark 24 = .ok (.iload_n 0, 1) := by decide +kernel
theorem dX12_isMark_25 : decode cX12_isMark 25 = .ok (.bipush 45, 2) := by decide +kernel
theorem dX12_isMark_27 : decode cX12_isMark 27 = .ok (.if_icmp .eq 27, 3) := by decide +kernel
theorem dX12_isMark_30 : decode cX12_isMark 30 = .ok (.iload_n 0, 1) := by decide +kernel
theorem dX12_isMark_31 : decode cX12_isMark 31 = .ok (.bipush 42, 2) := by decide +kernel
theorem dX12_isMark_33 : decode cX12_isMark 33 = .ok (.if_icmp .eq 21, 3) := by decide +kernel
theorem dX12_isMark_36 : decode cX12_isMark 36 = .ok (.iload_n 0, 1) := by decide +kernel
theorem dX12_isMark_37 : decode cX12_isMark 37 = .ok (.bipush 47, 2) := by decide +kernel
theorem dX12_isMark_39 : decode cX12_isMark 39 = .ok (.if_icmp .eq 15, 3) := by decide +kernel
theorem dX12_isMark_42 : decode cX12_isMark 42 = .ok (.iload_n 0, 1) := by decide +kernel
theorem dX12_isMark_43 : decode cX12_isMark 43 = .ok (.bipush 60, 2) := by decide +kernel
theorem dX12_isMark_45 : decode cX12_isMark 45 = .ok (.if_icmp .eq 9, 3) := by decide +kernel
theorem dX12_isMark_48 : decode cX12_isMark 48 = .ok (.iload_n 0, 1) := by decide +kernel
theorem dX12_isMark_49 : decode cX12_isMark 49 = .ok (.bipush 61, 2) := by decide +kernel
theorem dX12_isMark_51 : decode cX12_isMark 51 = .ok (.if_icmp .ne 7, 3) := by decide +kernel
theorem dX12_isMark_54 : decode cX12_isMark 54 = .ok (.iconst 1, 1) := by decide +kernel
theorem dX12_isMark_55 : decode cX12_isMark 55 = .ok (.goto 4, 3) := by decide +kernel
theorem dX12_isMark_58 : decode cX12_isMark 58 = .ok (.iconst 0, 1) := by decide +kernel
theorem dX12_isMark_59 : decode cX12_isMark 59 = .ok (.ireturn, 1) := by decide +kernel
theorem dX12_stepOn_0 : decode cX12_stepOn 0 = .ok (.aload_n 0, 1) := by decide +kernel
theorem dX12_stepOn_1 : decode cX12_stepOn 1 = .ok (.aload_n 0, 1) := by decide +kernel
theorem dX12_stepOn_2 : decode cX12_stepOn 2 = .ok (.getfield 176, 3) := by decide +kernel
theorem dX12_stepOn_5 : decode cX12_stepOn 5 = .ok (.invokevirtual 179, 3) := by decide +kernel
theorem dX12_stepOn_8 : decode cX12_stepOn 8 = .ok (.bipush 32, 2) := by decide +kernel
theorem dX12_stepOn_10 : decode cX12_stepOn 10 = .ok (.if_icmp .eq 16, 3) := by decide +kernel
theorem dX12_stepOn_13 : decode cX12_stepOn 13 = .ok (.aload_n 0, 1) := by decide +kernel
theorem dX12_stepOn_14 : decode cX12_stepOn 14 = .ok (.aload_n 0, 1) := by decide +kernel
theorem dX12_stepOn_15 : decode cX12_stepOn 15 = .ok (.getfield 176, 3) := by decide +kernel
theorem dX12_stepOn_18 : decode cX12_stepOn 18 = .ok (.invokevirtual 179, 3) := by decide +kernel
theorem dX12_stepOn_21 : decode cX12_stepOn 21 = .ok (.bipush 10, 2) := by decide +kernel
theorem dX12_stepOn_23 : decode cX12_stepOn 23 = .ok (.if_icmp .ne 16, 3) := by decide +kernel
theorem dX12_stepOn_26 : decode cX12_stepOn 26 = .ok (.aload_n 0, 1) := by decide +kernel
theorem dX12_stepOn_27 : decode cX12_stepOn 27 = .ok (.dup, 1) := by decide +kernel
theorem dX12_stepOn_28 : decode cX12_stepOn 28 = .ok (.getfield 176, 3) := by decide +kernel
theorem dX12_stepOn_31 : decode cX12_stepOn 31 = .ok (.iconst 1, 1) := by decide +kernel
theorem dX12_stepOn_32 : decode cX12_stepOn 32 = .ok (.iadd, 1) := by decide +kernel
theorem dX12_stepOn_33 : decode cX12_stepOn 33 = .ok (.putfield 176, 3) := by decide +kernel
theorem dX12_stepOn_36 : decode cX12_stepOn 36 = .ok (.goto (-36), 3) := by decide +kernel
theorem dX12_stepOn_39 : decode cX12_stepOn 39 = .ok (.aload_n 0, 1) := by decide +kernel
theorem dX12_stepOn_40 : decode cX12_stepOn 40 = .ok (.aload_n 0, 1) := by decide +kernel
theorem dX12_stepOn_41 : decode cX12_stepOn 41 = .ok (.getfield 176, 3) := by decide +kernel
theorem dX12_stepOn_44 : decode cX12_stepOn 44 = .ok (.putfield 183, 3) := by decide +kernel
theorem dX12_stepOn_47 : decode cX12_stepOn 47 = .ok (.aload_n 0, 1) := by decide +kernel
theorem dX12_stepOn_48 : decode cX12_stepOn 48 = .ok (.aload_n 0, 1) := by decide +kernel
theorem dX12_stepOn_49 : decode cX12_stepOn 49 = .ok (.getfield 176, 3) := by decide +kernel
theorem dX12_stepOn_52 : decode cX12_stepOn 52 = .ok (.invokevirtual 179, 3) := by decide +kernel
theorem dX12_stepOn_55 : decode cX12_stepOn 55 = .ok (.istore_n 1, 1) := by decide +kernel
theorem dX12_stepOn_56 : decode cX12_stepOn 56 = .ok (.iload_n 1, 1) := by decide +kernel
theorem dX12_stepOn_57 : decode cX12_stepOn 57 = .ok (.iconst (-1), 1) := by decide +kernel
theorem dX12_stepOn_58 : decode cX12_stepOn 58 = .ok (.if_icmp .ne 11, 3) := by decide +kernel
theorem dX12_stepOn_61 : decode cX12_stepOn 61 = .ok (.aload_n 0, 1) := by decide +kernel
theorem dX12_stepOn_62 : decode cX12_stepOn 62 = .ok (.iconst 0, 1) := by decide +kernel
theorem dX12_stepOn_63 : decode cX12_stepOn 63 = .ok (.putfield 186, 3) := by decide +kernel
theorem dX12_stepOn_66 : decode cX12_stepOn 66 = .ok (.goto 146, 3) := by decide +kernel
theorem dX12_stepOn_69 : decode cX12_stepOn 69 = .ok (.iload_n 1, 1) := by decide +kernel
theorem dX12_stepOn_70 : decode cX12_stepOn 70 = .ok (.invokestatic 189, 3) := by decide +kernel
theorem dX12_stepOn_73 : decode cX12_stepOn 73 = .ok (.ifCond .eq 38, 3) := by decide +kernel
theorem dX12_stepOn_76 : decode cX12_stepOn 76 = .ok (.aload_n 0, 1) := by decide +kernel
theorem dX12_stepOn_77 : decode cX12_stepOn 77 = .ok (.aload_n 0, 1) := by decide +kernel
theorem dX12_stepOn_78 : decode cX12_stepOn 78 = .ok (.getfield 176, 3) := by decide +kernel
theorem dX12_stepOn_81 : decode cX12_stepOn 81 = .ok (.invokevirtual 179, 3) := by decide +kernel
theorem dX12_stepOn_84 : decode cX12_stepOn 84 = .ok (.invokestatic 189, 3) := by decide +kernel
theorem dX12_stepOn_87 : decode cX12_stepOn 87 = .ok (.ifCond .eq 16, 3) := by decide +kernel
theorem dX12_stepOn_90 : decode cX12_stepOn 90 = .ok (.aload_n 0, 1) := by decide +kernel
theorem dX12_stepOn_91 : decode cX12_stepOn 91 = .ok (.dup, 1) := by decide +kernel
theorem dX12_stepOn_92 : decode cX12_stepOn 92 = .ok (.getfield 176, 3) := by decide +kernel
theorem dX12_stepOn_95 : decode cX12_stepOn 95 = .ok (.iconst 1, 1) := by decide +kernel
theorem dX12_stepOn_96 : decode cX12_stepOn 96 = .ok (.iadd, 1) := by decide +kernel
theorem dX12_stepOn_97 : decode cX12_stepOn 97 = .ok (.putfield 176, 3) := by decide +kernel
theorem dX12_stepOn_100 : decode cX12_stepOn 100 = .ok (.goto (-24), 3) := by decide +kernel
theorem dX12_stepOn_103 : decode cX12_stepOn 103 = .ok (.aload_n 0, 1) := by decide +kernel
theorem dX12_stepOn_104 : decode cX12_stepOn 104 = .ok (.iconst 1, 1) := by decide +kernel
theorem dX12_stepOn_105 : decode cX12_stepOn 105 = .ok (.putfield 186, 3) := by decide +kernel
theorem dX12_stepOn_108 : decode cX12_stepOn 108 = .ok (.goto 104, 3) := by decide +kernel
theorem dX12_stepOn_111 : decode cX12_stepOn 111 = .ok (.iload_n 1, 1) := by decide +kernel
theorem dX12_stepOn_112 : decode cX12_stepOn 112 = .ok (.invokestatic 193, 3) := by decide +kernel
theorem dX12_stepOn_115 : decode cX12_stepOn 115 = .ok (.ifCond .eq 71, 3) := by decide +kernel
theorem dX12_stepOn_118 : decode cX12_stepOn 118 = .ok (.aload_n 0, 1) := by decide +kernel
theorem dX12_stepOn_119 : decode cX12_stepOn 119 = .ok (.iconst 0, 1) := by decide +kernel
theorem dX12_stepOn_120 : decode cX12_stepOn 120 = .ok (.putfield 196, 3) := by decide +kernel
theorem dX12_stepOn_123 : decode cX12_stepOn 123 = .ok (.aload_n 0, 1) := by decide +kernel
theorem dX12_stepOn_124 : decode cX12_stepOn 124 = .ok (.aload_n 0, 1) := by decide +kernel
theorem dX12_stepOn_125 : decode cX12_stepOn 125 = .ok (.getfield 176, 3) := by decide +kernel
theorem dX12_stepOn_128 : decode cX12_stepOn 128 = .ok (.invokevirtual 179, 3) := by decide +kernel
theorem dX12_stepOn_131 : decode cX12_stepOn 131 = .ok (.invokestatic 193, 3) := by decide +kernel
theorem dX12_stepOn_134 : decode cX12_stepOn 134 = .ok (.ifCond .eq 44, 3) := by decide +kernel
theorem dX12_stepOn_137 : decode cX12_stepOn 137 = .ok (.aload_n 0, 1) := by decide +kernel
theorem dX12_stepOn_138 : decode cX12_stepOn 138 = .ok (.ldc 199, 2) := by decide +kernel
theorem dX12_stepOn_140 : decode cX12_stepOn 140 = .ok (.bipush 10, 2) := by decide +kernel
theorem dX12_stepOn_142 : decode cX12_stepOn 142 = .ok (.aload_n 0, 1) := by decide +kernel
theorem dX12_stepOn_143 : decode cX12_stepOn 143 = .ok (.getfield 196, 3) := by decide +kernel
theorem dX12_stepOn_146 : decode cX12_stepOn 146 = .ok (.imul, 1) := by decide +kernel
theorem dX12_stepOn_147 : decode cX12_stepOn 147 = .ok (.aload_n 0, 1) := by decide +kernel
theorem dX12_stepOn_148 : decode cX12_stepOn 148 = .ok (.aload_n 0, 1) := by decide +kernel
theorem dX12_stepOn_149 : decode cX12_stepOn 149 = .ok (.getfield 176, 3) := by decide +kernel
theorem dX12_stepOn_152 : decode cX12_stepOn 152 = .ok (.invokevirtual 179, 3) := by decide +kernel
theorem dX12_stepOn_155 : decode cX12_stepOn 155 = .ok (.iadd, 1) := by decide +kernel
theorem dX12_stepOn_156 : decode cX12_stepOn 156 = .ok (.bipush 48, 2) := by decide +kernel
theorem dX12_stepOn_158 : decode cX12_stepOn 158 = .ok (.isub, 1) := by decide +kernel
theorem dX12_stepOn_159 : decode cX12_stepOn 159 = .ok (.invokestatic 200, 3) := by decide +kernel
theorem dX12_stepOn_162 : decode cX12_stepOn 162 = .ok (.putfield 196, 3) := by decide +kernel
theorem dX12_stepOn_165 : decode cX12_stepOn 165 = .ok (.aload_n 0, 1) := by decide +kernel
theorem dX12_stepOn_166 : decode cX12_stepOn 166 = .ok (.dup, 1) := by decide +kernel
theorem dX12_stepOn_167 : decode cX12_stepOn 167 = .ok (.getfield 176, 3) := by decide +kernel
theorem dX12_stepOn_170 : decode cX12_stepOn 170 = .ok (.iconst 1, 1) := by decide +kernel
theorem dX12_stepOn_171 : decode cX12_stepOn 171 = .ok (.iadd, 1) := by decide +kernel
theorem dX12_stepOn_172 : decode cX12_stepOn 172 = .ok (.putfield 176, 3) := by decide +kernel
theorem dX12_stepOn_175 : decode cX12_stepOn 175 = .ok (.goto (-52), 3) := by decide +kernel
theorem dX12_stepOn_178 : decode cX12_stepOn 178 = .ok (.aload_n 0, 1) := by decide +kernel
theorem dX12_stepOn_179 : decode cX12_stepOn 179 = .ok (.iconst 2, 1) := by decide +kernel
theorem dX12_stepOn_180 : decode cX12_stepOn 180 = .ok (.putfield 186, 3) := by decide +kernel
theorem dX12_stepOn_183 : decode cX12_stepOn 183 = .ok (.goto 29, 3) := by decide +kernel
theorem dX12_stepOn_186 : decode cX12_stepOn 186 = .ok (.aload_n 0, 1) := by decide +kernel
theorem dX12_stepOn_187 : decode cX12_stepOn 187 = .ok (.dup, 1) := by decide +kernel
theorem dX12_stepOn_188 : decode cX12_stepOn 188 = .ok (.getfield 176, 3) := by decide +kernel
theorem dX12_stepOn_191 : decode cX12_stepOn 191 = .ok (.iconst 1, 1) := by decide +kernel
theorem dX12_stepOn_192 : decode cX12_stepOn 192 = .ok (.iadd, 1) := by decide +kernel
theorem dX12_stepOn_193 : decode cX12_stepOn 193 = .ok (.putfield 176, 3) := by decide +kernel
theorem dX12_stepOn_196 : decode cX12_stepOn 196 = .ok (.aload_n 0, 1) := by decide +kernel
theorem dX12_stepOn_197 : decode cX12_stepOn 197 = .ok (.iload_n 1, 1) := by decide +kernel
theorem dX12_stepOn_198 : decode cX12_stepOn 198 = .ok (.invokestatic 206, 3) := by decide +kernel
theorem dX12_stepOn_201 : decode cX12_stepOn 201 = .ok (.ifCond .eq 7, 3) := by decide +kernel
theorem dX12_stepOn_204 : decode cX12_stepOn 204 = .ok (.iconst 3, 1) := by decide +kernel
theorem dX12_stepOn_205 : decode cX12_stepOn 205 = .ok (.goto 4, 3) := by decide +kernel
theorem dX12_stepOn_208 : decode cX12_stepOn 208 = .ok (.iconst 4, 1) := by decide +kernel
theorem dX12_stepOn_209 : decode cX12_stepOn 209 = .ok (.putfield 186, 3) := by decide +kernel
theorem dX12_stepOn_212 : decode cX12_stepOn 212 = .ok (.aload_n 0, 1) := by decide +kernel
theorem dX12_stepOn_213 : decode cX12_stepOn 213 = .ok (.aload_n 0, 1) := by decide +kernel
theorem dX12_stepOn_214 : decode cX12_stepOn 214 = .ok (.getfield 176, 3) := by decide +kernel
theorem dX12_stepOn_217 : decode cX12_stepOn 217 = .ok (.putfield 209, 3) := by decide +kernel
theorem dX12_stepOn_220 : decode cX12_stepOn 220 = .ok (.return_, 1) := by decide +kernel
theorem dX12_is_0 : decode cX12_is 0 = .ok (.aload_n 0, 1) := by decide +kernel
theorem dX12_is_1 : decode cX12_is 1 = .ok (.getfield 212, 3) := by decide +kernel
theorem dX12_is_4 : decode cX12_is 4 = .ok (.ifCond .ne 31, 3) := by decide +kernel
theorem dX12_is_7 : decode cX12_is 7 = .ok (.aload_n 0, 1) := by decide +kernel
theorem dX12_is_8 : decode cX12_is 8 = .ok (.getfield 186, 3) := by decide +kernel
theorem dX12_is_11 : decode cX12_is 11 = .ok (.iconst 1, 1) := by decide +kernel
theorem dX12_is_12 : decode cX12_is 12 = .ok (.if_icmp .ne 23, 3) := by decide +kernel
theorem dX12_is_15 : decode cX12_is 15 = .ok (.aload_n 1, 1) := by decide +kernel
theorem dX12_is_16 : decode cX12_is 16 = .ok (.invokevirtual 218, 3) := by decide +kernel
theorem dX12_is_19 : decode cX12_is 19 = .ok (.aload_n 0, 1) := by decide +kernel
theorem dX12_is_20 : decode cX12_is 20 = .ok (.getfield 209, 3) := by decide +kernel
theorem dX12_is_23 : decode cX12_is 23 = .ok (.aload_n 0, 1) := by decide +kernel
theorem dX12_is_24 : decode cX12_is 24 = .ok (.getfield 183, 3) := by decide +kernel
theorem dX12_is_27 : decode cX12_is 27 = .ok (.isub, 1) := by decide +kernel
theorem dX12_is_28 : decode cX12_is 28 = .ok (.if_icmp .ne 7, 3) := by decide +kernel
theorem dX12_is_31 : decode cX12_is 31 = .ok (.iconst 1, 1) := by decide +kernel
theorem dX12_is_32 : decode cX12_is 32 = .ok (.goto 4, 3) := by decide +kernel
theorem dX12_is_35 : decode cX12_is 35 = .ok (.iconst 0, 1) := by decide +kernel
theorem dX12_is_36 : decode cX12_is 36 = .ok (.istore_n 2, 1) := by decide +kernel
theorem dX12_is_37 : decode cX12_is 37 = .ok (.iconst 0, 1) := by decide +kernel
theorem dX12_is_38 : decode cX12_is 38 = .ok (.istore_n 3, 1) := by decide +kernel
theorem dX12_is_39 : decode cX12_is 39 = .ok (.iload_n 2, 1) := by decide +kernel
theorem dX12_is_40 : decode cX12_is 40 = .ok (.ifCond .eq 42, 3) := by decide +kernel
theorem dX12_is_43 : decode cX12_is 43 = .ok (.iload_n 3, 1) := by decide +kernel
theorem dX12_is_44 : decode cX12_is 44 = .ok (.aload_n 1, 1) := by decide +kernel
theorem dX12_is_45 : decode cX12_is 45 = .ok (.invokevirtual 218, 3) := by decide +kernel
theorem dX12_is_48 : decode cX12_is 48 = .ok (.if_icmp .ge 34, 3) := by decide +kernel
theorem dX12_is_51 : decode cX12_is 51 = .ok (.aload_n 1, 1) := by decide +kernel
theorem dX12_is_52 : decode cX12_is 52 = .ok (.iload_n 3, 1) := by decide +kernel
theorem dX12_is_53 : decode cX12_is 53 = .ok (.invokevirtual 222, 3) := by decide +kernel
theorem dX12_is_56 : decode cX12_is 56 = .ok (.aload_n 0, 1) := by decide +kernel
theorem dX12_is_57 : decode cX12_is 57 = .ok (.getfield 72, 3) := by decide +kernel
theorem dX12_is_60 : decode cX12_is 60 = .ok (.aload_n 0, 1) := by decide +kernel
theorem dX12_is_61 : decode cX12_is 61 = .ok (.getfield 183, 3) := by decide +kernel
theorem dX12_is_64 : decode cX12_is 64 = .ok (.iload_n 3, 1) := by decide +kernel
theorem dX12_is_65 : decode cX12_is 65 = .ok (.iadd, 1) := by decide +kernel
theorem dX12_is_66 : decode cX12_is 66 = .ok (.iaload, 1) := by decide +kernel
theorem dX12_is_67 : decode cX12_is 67 = .ok (.if_icmp .ne 7, 3) := by decide +kernel
theorem dX12_is_70 : decode cX12_is 70 = .ok (.iconst 1, 1) := by decide +kernel
theorem dX12_is_71 : decode cX12_is 71 = .ok (.goto 4, 3) := by decide +kernel
theorem dX12_is_74 : decode cX12_is 74 = .ok (.iconst 0, 1) := by decide +kernel
theorem dX12_is_75 : decode cX12_is 75 = .ok (.istore_n 2, 1) := by decide +kernel
theorem dX12_is_76 : decode cX12_is 76 = .ok (.iinc 3 1, 3) := by decide +kernel
theorem dX12_is_79 : decode cX12_is 79 = .ok (.goto (-40), 3) := by decide +kernel
theorem dX12_is_82 : decode cX12_is 82 = .ok (.iload_n 2, 1) := by decide +kernel
theorem dX12_is_83 : decode cX12_is 83 = .ok (.ireturn, 1) := by decide +kernel
theorem dX12_wordOf_0 : decode cX12_wordOf 0 = .ok (.iconst 0, 1) := by decide +kernel
theorem dX12_wordOf_1 : decode cX12_wordOf 1 = .ok (.istore_n 2, 1) := by decide +kernel
theorem dX12_wordOf_2 : decode cX12_wordOf 2 = .ok (.iload_n 2, 1) := by decide +kernel
theorem dX12_wordOf_3 : decode cX12_wordOf 3 = .ok (.aload_n 1, 1) := by decide +kernel
theorem dX12_wordOf_4 : decode cX12_wordOf 4 = .ok (.arraylength, 1) := by decide +kernel
theorem dX12_wordOf_5 : decode cX12_wordOf 5 = .ok (.if_icmp .ge 21, 3) := by decide +kernel
theorem dX12_wordOf_8 : decode cX12_wordOf 8 = .ok (.aload_n 0, 1) := by decide +kernel
theorem dX12_wordOf_9 : decode cX12_wordOf 9 = .ok (.aload_n 1, 1) := by decide +kernel
theorem dX12_wordOf_10 : decode cX12_wordOf 10 = .ok (.iload_n 2, 1) := by decide +kernel
theorem dX12_wordOf_11 : decode cX12_wordOf 11 = .ok (.aaload, 1) := by decide +kernel
theorem dX12_wordOf_12 : decode cX12_wordOf 12 = .ok (.invokevirtual 226, 3) := by decide +kernel
theorem dX12_wordOf_15 : decode cX12_wordOf 15 = .ok (.ifCond .eq 5, 3) := by decide +kernel
theorem dX12_wordOf_18 : decode cX12_wordOf 18 = .ok (.iload_n 2, 1) := by decide +kernel
theorem dX12_wordOf_19 : decode cX12_wordOf 19 = .ok (.ireturn, 1) := by decide +kernel
theorem dX12_wordOf_20 : decode cX12_wordOf 20 = .ok (.iinc 2 1, 3) := by decide +kernel
theorem dX12_wordOf_23 : decode cX12_wordOf 23 = .ok (.goto (-21), 3) := by decide +kernel
theorem dX12_wordOf_26 : decode cX12_wordOf 26 = .ok (.iconst (-1), 1) := by decide +kernel
theorem dX12_wordOf_27 : decode cX12_wordOf 27 = .ok (.ireturn, 1) := by decide +kernel
theorem dX12_wrong_0 : decode cX12_wrong 0 = .ok (.aload_n 0, 1) := by decide +kernel
theorem dX12_wrong_1 : decode cX12_wrong 1 = .ok (.getfield 212, 3) := by decide +kernel
theorem dX12_wrong_4 : decode cX12_wrong 4 = .ok (.ifCond .eq 4, 3) := by decide +kernel
theorem dX12_wrong_7 : decode cX12_wrong 7 = .ok (.return_, 1) := by decide +kernel
theorem dX12_wrong_8 : decode cX12_wrong 8 = .ok (.aload_n 0, 1) := by decide +kernel
theorem dX12_wrong_9 : decode cX12_wrong 9 = .ok (.iload_n 1, 1) := by decide +kernel
theorem dX12_wrong_10 : decode cX12_wrong 10 = .ok (.putfield 212, 3) := by decide +kernel
theorem dX12_wrong_13 : decode cX12_wrong 13 = .ok (.aload_n 0, 1) := by decide +kernel
theorem dX12_wrong_14 : decode cX12_wrong 14 = .ok (.aload_n 0, 1) := by decide +kernel
theorem dX12_wrong_15 : decode cX12_wrong 15 = .ok (.getfield 183, 3) := by decide +kernel
theorem dX12_wrong_18 : decode cX12_wrong 18 = .ok (.putfield 215, 3) := by decide +kernel
theorem dX12_wrong_21 : decode cX12_wrong 21 = .ok (.return_, 1) := by decide +kernel
theorem dX12_isMarked_0 : decode cX12_isMarked 0 = .ok (.aload_n 0, 1) := by decide +kernel
theorem dX12_isMarked_1 : decode cX12_isMarked 1 = .ok (.getfield 212, 3) := by decide +kernel
theorem dX12_isMarked_4 : decode cX12_isMarked 4 = .ok (.ifCond .ne 28, 3) := by decide +kernel
theorem dX12_isMarked_7 : decode cX12_isMarked 7 = .ok (.aload_n 0, 1) := by decide +kernel
theorem dX12_isMarked_8 : decode cX12_isMarked 8 = .ok (.getfield 186, 3) := by decide +kernel
theorem dX12_isMarked_11 : decode cX12_isMarked 11 = .ok (.iconst 3, 1) := by decide +kernel
theorem dX12_isMarked_12 : decode cX12_isMarked 12 = .ok (.if_icmp .ne 20, 3) := by decide +kernel
theorem dX12_isMarked_15 : decode cX12_isMarked 15 = .ok (.aload_n 0, 1) := by decide +kernel
theorem dX12_isMarked_16 : decode cX12_isMarked 16 = .ok (.getfield 72, 3) := by decide +kernel
theorem dX12_isMarked_19 : decode cX12_isMarked 19 = .ok (.aload_n 0, 1) := by decide +kernel
theorem dX12_isMarked_20 : decode cX12_isMarked 20 = .ok (.getfield 183, 3) := by decide +kernel
theorem dX12_isMarked_23 : decode cX12_isMarked 23 = .ok (.iaload, 1) := by decide +kernel
theorem dX12_isMarked_24 : decode cX12_isMarked 24 = .ok (.iload_n 1, 1) := by decide +kernel
theorem dX12_isMarked_25 : decode cX12_isMarked 25 = .ok (.if_icmp .ne 7, 3) := by decide +kernel
theorem dX12_isMarked_28 : decode cX12_isMarked 28 = .ok (.iconst 1, 1) := by decide +kernel
theorem dX12_isMarked_29 : decode cX12_isMarked 29 = .ok (.goto 4, 3) := by decide +kernel
theorem dX12_isMarked_32 : decode cX12_isMarked 32 = .ok (.iconst 0, 1) := by decide +kernel
theorem dX12_isMarked_33 : decode cX12_isMarked 33 = .ok (.ireturn, 1) := by decide +kernel
theorem dX12_mark_0 : decode cX12_mark 0 = .ok (.aload_n 0, 1) := by decide +kernel
theorem dX12_mark_1 : decode cX12_mark 1 = .ok (.getfield 212, 3) := by decide +kernel
theorem dX12_mark_4 : decode cX12_mark 4 = .ok (.ifCond .ne 16, 3) := by decide +kernel
theorem dX12_mark_7 : decode cX12_mark 7 = .ok (.aload_n 0, 1) := by decide +kernel
theorem dX12_mark_8 : decode cX12_mark 8 = .ok (.iload_n 1, 1) := by decide +kernel
theorem dX12_mark_9 : decode cX12_mark 9 = .ok (.invokevirtual 230, 3) := by decide +kernel
theorem dX12_mark_12 : decode cX12_mark 12 = .ok (.ifCond .ne 8, 3) := by decide +kernel
theorem dX12_mark_15 : decode cX12_mark 15 = .ok (.aload_n 0, 1) := by decide +kernel
theorem dX12_mark_16 : decode cX12_mark 16 = .ok (.iconst 1, 1) := by decide +kernel
theorem dX12_mark_17 : decode cX12_mark 17 = .ok (.invokevirtual 233, 3) := by decide +kernel
theorem dX12_mark_20 : decode cX12_mark 20 = .ok (.aload_n 0, 1) := by decide +kernel
theorem dX12_mark_21 : decode cX12_mark 21 = .ok (.getfield 212, 3) := by decide +kernel
theorem dX12_mark_24 : decode cX12_mark 24 = .ok (.ifCond .ne 7, 3) := by decide +kernel
theorem dX12_mark_27 : decode cX12_mark 27 = .ok (.aload_n 0, 1) := by decide +kernel
theorem dX12_mark_28 : decode cX12_mark 28 = .ok (.invokevirtual 237, 3) := by decide +kernel
theorem dX12_mark_31 : decode cX12_mark 31 = .ok (.return_, 1) := by decide +kernel
theorem dX12_soundOf_0 : decode cX12_soundOf 0 = .ok (.iload_n 0, 1) := by decide +kernel
theorem dX12_soundOf_1 : decode cX12_soundOf 1 = .ok (.bipush 107, 2) := by decide +kernel
theorem dX12_soundOf_3 : decode cX12_soundOf 3 = .ok (.if_icmp .ne 7, 3) := by decide +kernel
theorem dX12_soundOf_6 : decode cX12_soundOf 6 = .ok (.iconst 1, 1) := by decide +kernel
theorem dX12_soundOf_7 : decode cX12_soundOf 7 = .ok (.goto 34, 3) := by decide +kernel
theorem dX12_soundOf_10 : decode cX12_soundOf 10 = .ok (.iload_n 0, 1) := by decide +kernel
theorem dX12_soundOf_11 : decode cX12_soundOf 11 = .ok (.bipush 112, 2) := by decide +kernel
theorem dX12_soundOf_13 : decode cX12_soundOf 13 = .ok (.if_icmp .ne 7, 3) := by decide +kernel
theorem dX12_soundOf_16 : decode cX12_soundOf 16 = .ok (.iconst 2, 1) := by decide +kernel
theorem dX12_soundOf_17 : decode cX12_soundOf 17 = .ok (.goto 24, 3) := by decide +kernel
theorem dX12_soundOf_20 : decode cX12_soundOf 20 = .ok (.iload_n 0, 1) := by decide +kernel
theorem dX12_soundOf_21 : decode cX12_soundOf 21 = .ok (.bipush 114, 2) := by decide +kernel
theorem dX12_soundOf_23 : decode cX12_soundOf 23 = .ok (.if_icmp .ne 7, 3) := by decide +kernel
theorem dX12_soundOf_26 : decode cX12_soundOf 26 = .ok (.iconst 3, 1) := by decide +kernel
theorem dX12_soundOf_27 : decode cX12_soundOf 27 = .ok (.goto 14, 3) := by decide +kernel
theorem dX12_soundOf_30 : decode cX12_soundOf 30 = .ok (.iload_n 0, 1) := by decide +kernel
theorem dX12_soundOf_31 : decode cX12_soundOf 31 = .ok (.bipush 115, 2) := by decide +kernel
theorem dX12_soundOf_33 : decode cX12_soundOf 33 = .ok (.if_icmp .ne 7, 3) := by decide +kernel
theorem dX12_soundOf_36 : decode cX12_soundOf 36 = .ok (.iconst 4, 1) := by decide +kernel
theorem dX12_soundOf_37 : decode cX12_soundOf 37 = .ok (.goto 4, 3) := by decide +kernel
theorem dX12_soundOf_40 : decode cX12_soundOf 40 = .ok (.iconst 0, 1) := by decide +kernel
theorem dX12_soundOf_41 : decode cX12_soundOf 41 = .ok (.ireturn, 1) := by decide +kernel
theorem dX12_areSounds_0 : decode cX12_areSounds 0 = .ok (.aload_n 0, 1) := by decide +kernel
theorem dX12_areSounds_1 : decode cX12_areSounds 1 = .ok (.getfield 212, 3) := by decide +kernel
theorem dX12_areSounds_4 : decode cX12_areSounds 4 = .ok (.ifCond .ne 16, 3) := by decide +kernel
theorem dX12_areSounds_7 : decode cX12_areSounds 7 = .ok (.aload_n 0, 1) := by decide +kernel
theorem dX12_areSounds_8 : decode cX12_areSounds 8 = .ok (.getfield 186, 3) := by decide +kernel
theorem dX12_areSounds_11 : decode cX12_areSounds 11 = .ok (.iconst 1, 1) := by decide +kernel
theorem dX12_areSounds_12 : decode cX12_areSounds 12 = .ok (.if_icmp .eq 8, 3) := by decide +kernel
theorem dX12_areSounds_15 : decode cX12_areSounds 15 = .ok (.aload_n 0, 1) := by decide +kernel
theorem dX12_areSounds_16 : decode cX12_areSounds 16 = .ok (.iconst 1, 1) := by decide +kernel
theorem dX12_areSounds_17 : decode cX12_areSounds 17 = .ok (.invokevirtual 233, 3) := by decide +kernel
theorem dX12_areSounds_20 : decode cX12_areSounds 20 = .ok (.aload_n 0, 1) := by decide +kernel
theorem dX12_areSounds_21 : decode cX12_areSounds 21 = .ok (.getfield 183, 3) := by decide +kernel
theorem dX12_areSounds_24 : decode cX12_areSounds 24 = .ok (.istore_n 1, 1) := by decide +kernel
theorem dX12_areSounds_25 : decode cX12_areSounds 25 = .ok (.aload_n 0, 1) := by decide +kernel
theorem dX12_areSounds_26 : decode cX12_areSounds 26 = .ok (.getfield 212, 3) := by decide +kernel
theorem dX12_areSounds_29 : decode cX12_areSounds 29 = .ok (.ifCond .ne 34, 3) := by decide +kernel
theorem dX12_areSounds_32 : decode cX12_areSounds 32 = .ok (.iload_n 1, 1) := by decide +kernel
theorem dX12_areSounds_33 : decode cX12_areSounds 33 = .ok (.aload_n 0, 1) := by decide +kernel
theorem dX12_areSounds_34 : decode cX12_areSounds 34 = .ok (.getfield 209, 3) := by decide +kernel
theorem dX12_areSounds_37 : decode cX12_areSounds 37 = .ok (.if_icmp .ge 26, 3) := by decide +kernel
theorem dX12_areSounds_40 : decode cX12_areSounds 40 = .ok (.aload_n 0, 1) := by decide +kernel
theorem dX12_areSounds_41 : decode cX12_areSounds 41 = .ok (.getfield 72, 3) := by decide +kernel
theorem dX12_areSounds_44 : decode cX12_areSounds 44 = .ok (.iload_n 1, 1) := by decide +kernel
theorem dX12_areSounds_45 : decode cX12_areSounds 45 = .ok (.iaload, 1) := by decide +kernel
theorem dX12_areSounds_46 : decode cX12_areSounds 46 = .ok (.invokestatic 277, 3) := by decide +kernel
theorem dX12_areSounds_49 : decode cX12_areSounds 49 = .ok (.ifCond .ne 8, 3) := by decide +kernel
theorem dX12_areSounds_52 : decode cX12_areSounds 52 = .ok (.aload_n 0, 1) := by decide +kernel
theorem dX12_areSounds_53 : decode cX12_areSounds 53 = .ok (.iconst 3, 1) := by decide +kernel
theorem dX12_areSounds_54 : decode cX12_areSounds 54 = .ok (.invokevirtual 233, 3) := by decide +kernel
theorem dX12_areSounds_57 : decode cX12_areSounds 57 = .ok (.iinc 1 1, 3) := by decide +kernel
theorem dX12_areSounds_60 : decode cX12_areSounds 60 = .ok (.goto (-35), 3) := by decide +kernel
theorem dX12_areSounds_63 : decode cX12_areSounds 63 = .ok (.aload_n 0, 1) := by decide +kernel
theorem dX12_areSounds_64 : decode cX12_areSounds 64 = .ok (.getfield 212, 3) := by decide +kernel
theorem dX12_areSounds_67 : decode cX12_areSounds 67 = .ok (.ifCond .ne 7, 3) := by decide +kernel
theorem dX12_areSounds_70 : decode cX12_areSounds 70 = .ok (.iconst 1, 1) := by decide +kernel
theorem dX12_areSounds_71 : decode cX12_areSounds 71 = .ok (.goto 4, 3) := by decide +kernel
theorem dX12_areSounds_74 : decode cX12_areSounds 74 = .ok (.iconst 0, 1) := by decide +kernel
theorem dX12_areSounds_75 : decode cX12_areSounds 75 = .ok (.ireturn, 1) := by decide +kernel
theorem dX12_readDoor_0 : decode cX12_readDoor 0 = .ok (.aload_n 0, 1) := by decide +kernel
theorem dX12_readDoor_1 : decode cX12_readDoor 1 = .ok (.getfield 47, 3) := by decide +kernel
theorem dX12_readDoor_4 : decode cX12_readDoor 4 = .ok (.iconst 4, 1) := by decide +kernel
theorem dX12_readDoor_5 : decode cX12_readDoor 5 = .ok (.iaload, 1) := by decide +kernel
theorem dX12_readDoor_6 : decode cX12_readDoor 6 = .ok (.istore_n 2, 1) := by decide +kernel
theorem dX12_readDoor_7 : decode cX12_readDoor 7 = .ok (.iload_n 2, 1) := by decide +kernel
theorem dX12_readDoor_8 : decode cX12_readDoor 8 = .ok (.bipush 6, 2) := by decide +kernel
theorem dX12_readDoor_10 : decode cX12_readDoor 10 = .ok (.if_icmp .ne 8, 3) := by decide +kernel
theorem dX12_readDoor_13 : decode cX12_readDoor 13 = .ok (.aload_n 0, 1) := by decide +kernel
theorem dX12_readDoor_14 : decode cX12_readDoor 14 = .ok (.iconst 2, 1) := by decide +kernel
theorem dX12_readDoor_15 : decode cX12_readDoor 15 = .ok (.invokevirtual 233, 3) := by decide +kernel
theorem dX12_readDoor_18 : decode cX12_readDoor 18 = .ok (.aload_n 0, 1) := by decide +kernel
theorem dX12_readDoor_19 : decode cX12_readDoor 19 = .ok (.getfield 212, 3) := by decide +kernel
theorem dX12_readDoor_22 : decode cX12_readDoor 22 = .ok (.ifCond .eq 4, 3) := by decide +kernel
theorem dX12_readDoor_25 : decode cX12_readDoor 25 = .ok (.return_, 1) := by decide +kernel
theorem dX12_readDoor_26 : decode cX12_readDoor 26 = .ok (.aload_n 0, 1) := by decide +kernel
theorem dX12_readDoor_27 : decode cX12_readDoor 27 = .ok (.invokevirtual 237, 3) := by decide +kernel
theorem dX12_readDoor_30 : decode cX12_readDoor 30 = .ok (.aload_n 0, 1) := by decide +kernel
theorem dX12_readDoor_31 : decode cX12_readDoor 31 = .ok (.invokevirtual 280, 3) := by decide +kernel
theorem dX12_readDoor_34 : decode cX12_readDoor 34 = .ok (.ifCond .ne 4, 3) := by decide +kernel
theorem dX12_readDoor_37 : decode cX12_readDoor 37 = .ok (.return_, 1) := by decide +kernel
theorem dX12_readDoor_38 : decode cX12_readDoor 38 = .ok (.iconst 0, 1) := by decide +kernel
theorem dX12_readDoor_39 : decode cX12_readDoor 39 = .ok (.istore_n 3, 1) := by decide +kernel
theorem dX12_readDoor_40 : decode cX12_readDoor 40 = .ok (.aload_n 0, 1) := by decide +kernel
theorem dX12_readDoor_41 : decode cX12_readDoor 41 = .ok (.getfield 183, 3) := by decide +kernel
theorem dX12_readDoor_44 : decode cX12_readDoor 44 = .ok (.istore 4, 2) := by decide +kernel
theorem dX12_readDoor_46 : decode cX12_readDoor 46 = .ok (.aload_n 0, 1) := by decide +kernel
theorem dX12_readDoor_47 : decode cX12_readDoor 47 = .ok (.getfield 212, 3) := by decide +kernel
theorem dX12_readDoor_50 : decode cX12_readDoor 50 = .ok (.ifCond .ne 51, 3) := by decide +kernel
theorem dX12_readDoor_53 : decode cX12_readDoor 53 = .ok (.iload 4, 2) := by decide +kernel
theorem dX12_readDoor_55 : decode cX12_readDoor 55 = .ok (.aload_n 0, 1) := by decide +kernel
theorem dX12_readDoor_56 : decode cX12_readDoor 56 = .ok (.getfield 209, 3) := by decide +kernel
theorem dX12_readDoor_59 : decode cX12_readDoor 59 = .ok (.if_icmp .ge 42, 3) := by decide +kernel
theorem dX12_readDoor_62 : decode cX12_readDoor 62 = .ok (.iconst 1, 1) := by decide +kernel
theorem dX12_readDoor_63 : decode cX12_readDoor 63 = .ok (.aload_n 0, 1) := by decide +kernel
theorem dX12_readDoor_64 : decode cX12_readDoor 64 = .ok (.getfield 72, 3) := by decide +kernel
theorem dX12_readDoor_67 : decode cX12_readDoor 67 = .ok (.iload 4, 2) := by decide +kernel
theorem dX12_readDoor_69 : decode cX12_readDoor 69 = .ok (.iaload, 1) := by decide +kernel
theorem dX12_readDoor_70 : decode cX12_readDoor 70 = .ok (.invokestatic 277, 3) := by decide +kernel
theorem dX12_readDoor_73 : decode cX12_readDoor 73 = .ok (.iconst 1, 1) := by decide +kernel
theorem dX12_readDoor_74 : decode cX12_readDoor 74 = .ok (.isub, 1) := by decide +kernel
theorem dX12_readDoor_75 : decode cX12_readDoor 75 = .ok (.ishl, 1) := by decide +kernel
theorem dX12_readDoor_76 : decode cX12_readDoor 76 = .ok (.istore 5, 2) := by decide +kernel
theorem dX12_readDoor_78 : decode cX12_readDoor 78 = .ok (.iload_n 3, 1) := by decide +kernel
theorem dX12_readDoor_79 : decode cX12_readDoor 79 = .ok (.iload 5, 2) := by decide +kernel
theorem dX12_readDoor_81 : decode cX12_readDoor 81 = .ok (.iand, 1) := by decide +kernel
theorem dX12_readDoor_82 : decode cX12_readDoor 82 = .ok (.ifCond .eq 8, 3) := by decide +kernel
theorem dX12_readDoor_85 : decode cX12_readDoor 85 = .ok (.aload_n 0, 1) := by decide +kernel
theorem dX12_readDoor_86 : decode cX12_readDoor 86 = .ok (.iconst 4, 1) := by decide +kernel
theorem dX12_readDoor_87 : decode cX12_readDoor 87 = .ok (.invokevirtual 233, 3) := by decide +kernel
theorem dX12_readDoor_90 : decode cX12_readDoor 90 = .ok (.iload_n 3, 1) := by decide +kernel
theorem dX12_readDoor_91 : decode cX12_readDoor 91 = .ok (.iload 5, 2) := by decide +kernel
theorem dX12_readDoor_93 : decode cX12_readDoor 93 = .ok (.ior, 1) := by decide +kernel
theorem dX12_readDoor_94 : decode cX12_readDoor 94 = .ok (.istore_n 3, 1) := by decide +kernel
theorem dX12_readDoor_95 : decode cX12_readDoor 95 = .ok (.iinc 4 1, 3) := by decide +kernel
theorem dX12_readDoor_98 : decode cX12_readDoor 98 = .ok (.goto (-52), 3) := by decide +kernel
theorem dX12_readDoor_101 : decode cX12_readDoor 101 = .ok (.aload_n 0, 1) := by decide +kernel
theorem dX12_readDoor_102 : decode cX12_readDoor 102 = .ok (.getfield 212, 3) := by decide +kernel
theorem dX12_readDoor_105 : decode cX12_readDoor 105 = .ok (.ifCond .eq 4, 3) := by decide +kernel
theorem dX12_readDoor_108 : decode cX12_readDoor 108 = .ok (.return_, 1) := by decide +kernel
theorem dX12_readDoor_109 : decode cX12_readDoor 109 = .ok (.aload_n 0, 1) := by decide +kernel
theorem dX12_readDoor_110 : decode cX12_readDoor 110 = .ok (.invokevirtual 237, 3) := by decide +kernel
theorem dX12_readDoor_113 : decode cX12_readDoor 113 = .ok (.aload_n 0, 1) := by decide +kernel
theorem dX12_readDoor_114 : decode cX12_readDoor 114 = .ok (.getfield 60, 3) := by decide +kernel
theorem dX12_readDoor_117 : decode cX12_readDoor 117 = .ok (.bipush 6, 2) := by decide +kernel
theorem dX12_readDoor_119 : decode cX12_readDoor 119 = .ok (.iload_n 2, 1) := by decide +kernel
theorem dX12_readDoor_120 : decode cX12_readDoor 120 = .ok (.iadd, 1) := by decide +kernel
theorem dX12_readDoor_121 : decode cX12_readDoor 121 = .ok (.iload_n 1, 1) := by decide +kernel
theorem dX12_readDoor_122 : decode cX12_readDoor 122 = .ok (.iastore, 1) := by decide +kernel
theorem dX12_readDoor_123 : decode cX12_readDoor 123 = .ok (.aload_n 0, 1) := by decide +kernel
theorem dX12_readDoor_124 : decode cX12_readDoor 124 = .ok (.getfield 63, 3) := by decide +kernel
theorem dX12_readDoor_127 : decode cX12_readDoor 127 = .ok (.bipush 6, 2) := by decide +kernel
theorem dX12_readDoor_129 : decode cX12_readDoor 129 = .ok (.iload_n 2, 1) := by decide +kernel
theorem dX12_readDoor_130 : decode cX12_readDoor 130 = .ok (.iadd, 1) := by decide +kernel
theorem dX12_readDoor_131 : decode cX12_readDoor 131 = .ok (.iload_n 3, 1) := by decide +kernel
theorem dX12_readDoor_132 : decode cX12_readDoor 132 = .ok (.iastore, 1) := by decide +kernel
theorem dX12_readDoor_133 : decode cX12_readDoor 133 = .ok (.aload_n 0, 1) := by decide +kernel
theorem dX12_readDoor_134 : decode cX12_readDoor 134 = .ok (.getfield 47, 3) := by decide +kernel
theorem dX12_readDoor_137 : decode cX12_readDoor 137 = .ok (.iconst 4, 1) := by decide +kernel
theorem dX12_readDoor_138 : decode cX12_readDoor 138 = .ok (.dup2, 1) := by decide +kernel
theorem dX12_readDoor_139 : decode cX12_readDoor 139 = .ok (.iaload, 1) := by decide +kernel
theorem dX12_readDoor_140 : decode cX12_readDoor 140 = .ok (.iconst 1, 1) := by decide +kernel
theorem dX12_readDoor_141 : decode cX12_readDoor 141 = .ok (.iadd, 1) := by decide +kernel
theorem dX12_readDoor_142 : decode cX12_readDoor 142 = .ok (.iastore, 1) := by decide +kernel
theorem dX12_readDoor_143 : decode cX12_readDoor 143 = .ok (.return_, 1) := by decide +kernel
theorem dX12_readNumber_0 : decode cX12_readNumber 0 = .ok (.aload_n 0, 1) := by decide +kernel
theorem dX12_readNumber_1 : decode cX12_readNumber 1 = .ok (.getfield 212, 3) := by decide +kernel
theorem dX12_readNumber_4 : decode cX12_readNumber 4 = .ok (.ifCond .eq 5, 3) := by decide +kernel
theorem dX12_readNumber_7 : decode cX12_readNumber 7 = .ok (.iconst 0, 1) := by decide +kernel
theorem dX12_readNumber_8 : decode cX12_readNumber 8 = .ok (.ireturn, 1) := by decide +kernel
theorem dX12_readNumber_9 : decode cX12_readNumber 9 = .ok (.aload_n 0, 1) := by decide +kernel
theorem dX12_readNumber_10 : decode cX12_readNumber 10 = .ok (.getfield 186, 3) := by decide +kernel
theorem dX12_readNumber_13 : decode cX12_readNumber 13 = .ok (.iconst 2, 1) := by decide +kernel
theorem dX12_readNumber_14 : decode cX12_readNumber 14 = .ok (.if_icmp .eq 11, 3) := by decide +kernel
theorem dX12_readNumber_17 : decode cX12_readNumber 17 = .ok (.aload_n 0, 1) := by decide +kernel
theorem dX12_readNumber_18 : decode cX12_readNumber 18 = .ok (.iconst 1, 1) := by decide +kernel
theorem dX12_readNumber_19 : decode cX12_readNumber 19 = .ok (.invokevirtual 233, 3) := by decide +kernel
theorem dX12_readNumber_22 : decode cX12_readNumber 22 = .ok (.goto 37, 3) := by decide +kernel
theorem dX12_readNumber_25 : decode cX12_readNumber 25 = .ok (.aload_n 0, 1) := by decide +kernel
theorem dX12_readNumber_26 : decode cX12_readNumber 26 = .ok (.getfield 209, 3) := by decide +kernel
theorem dX12_readNumber_29 : decode cX12_readNumber 29 = .ok (.aload_n 0, 1) := by decide +kernel
theorem dX12_readNumber_30 : decode cX12_readNumber 30 = .ok (.getfield 183, 3) := by decide +kernel
theorem dX12_readNumber_33 : decode cX12_readNumber 33 = .ok (.isub, 1) := by decide +kernel
theorem dX12_readNumber_34 : decode cX12_readNumber 34 = .ok (.iconst 4, 1) := by decide +kernel
theorem dX12_readNumber_35 : decode cX12_readNumber 35 = .ok (.if_icmp .gt 19, 3) := by decide +kernel
theorem dX12_readNumber_38 : decode cX12_readNumber 38 = .ok (.aload_n 0, 1) := by decide +kernel
theorem dX12_readNumber_39 : decode cX12_readNumber 39 = .ok (.getfield 196, 3) := by decide +kernel
theorem dX12_readNumber_42 : decode cX12_readNumber 42 = .ok (.iload_n 1, 1) := by decide +kernel
theorem dX12_readNumber_43 : decode cX12_readNumber 43 = .ok (.if_icmp .lt 11, 3) := by decide +kernel
theorem dX12_readNumber_46 : decode cX12_readNumber 46 = .ok (.aload_n 0, 1) := by decide +kernel
theorem dX12_readNumber_47 : decode cX12_readNumber 47 = .ok (.getfield 196, 3) := by decide +kernel
theorem dX12_readNumber_50 : decode cX12_readNumber 50 = .ok (.iload_n 2, 1) := by decide +kernel
theorem dX12_readNumber_51 : decode cX12_readNumber 51 = .ok (.if_icmp .le 8, 3) := by decide +kernel
theorem dX12_readNumber_54 : decode cX12_readNumber 54 = .ok (.aload_n 0, 1) := by decide +kernel
theorem dX12_readNumber_55 : decode cX12_readNumber 55 = .ok (.iconst 2, 1) := by decide +kernel
theorem dX12_readNumber_56 : decode cX12_readNumber 56 = .ok (.invokevirtual 233, 3) := by decide +kernel
theorem dX12_readNumber_59 : decode cX12_readNumber 59 = .ok (.aload_n 0, 1) := by decide +kernel
theorem dX12_readNumber_60 : decode cX12_readNumber 60 = .ok (.getfield 212, 3) := by decide +kernel
theorem dX12_readNumber_63 : decode cX12_readNumber 63 = .ok (.ifCond .ne 10, 3) := by decide +kernel
theorem dX12_readNumber_66 : decode cX12_readNumber 66 = .ok (.aload_n 0, 1) := by decide +kernel
theorem dX12_readNumber_67 : decode cX12_readNumber 67 = .ok (.getfield 196, 3) := by decide +kernel
theorem dX12_readNumber_70 : decode cX12_readNumber 70 = .ok (.goto 4, 3) := by decide +kernel
theorem dX12_readNumber_73 : decode cX12_readNumber 73 = .ok (.iconst 0, 1) := by decide +kernel
theorem dX12_readNumber_74 : decode cX12_readNumber 74 = .ok (.istore_n 3, 1) := by decide +kernel
theorem dX12_readNumber_75 : decode cX12_readNumber 75 = .ok (.aload_n 0, 1) := by decide +kernel
theorem dX12_readNumber_76 : decode cX12_readNumber 76 = .ok (.getfield 212, 3) := by decide +kernel
theorem dX12_readNumber_79 : decode cX12_readNumber 79 = .ok (.ifCond .ne 7, 3) := by decide +kernel
theorem dX12_readNumber_82 : decode cX12_readNumber 82 = .ok (.aload_n 0, 1) := by decide +kernel
theorem dX12_readNumber_83 : decode cX12_readNumber 83 = .ok (.invokevirtual 237, 3) := by decide +kernel
theorem dX12_readNumber_86 : decode cX12_readNumber 86 = .ok (.iload_n 3, 1) := by decide +kernel
theorem dX12_readNumber_87 : decode cX12_readNumber 87 = .ok (.ireturn, 1) := by decide +kernel
def f_MD_thrown (μ : kbM) : Option (Int32) :=
  some (μ.1 57 3)
theorem sp_MD_thrown {l : Launch} (μ : kbM)  {x : Int32} (h : f_MD_thrown μ = some x) : kbS l MX12_thrown 1 [.ref 57] μ (kbQe (some (.int x)) μ) := by
  refine kb_enter 0 rfl rfl ?_
  suffices H : ∀ (Q : kbQt) (P : Int32 → Prop), (∀ z : Int32, P z → Q (some (.int z)) μ) → kbG (f_MD_thrown μ) P → kbR l MX12_thrown 1 Q 0 [some (.ref 57)] [] μ from H _ (fun z => z = x) (fun z e => by subst e; exact ⟨rfl, rfl⟩) ⟨x, h, rfl⟩
  clear h
  intro Q P hr h
  unfold f_MD_thrown at h
  refine r_aload_n dX12_thrown_0 rfl ?_
  refine r_getI flX12_159 sh57 rfl dX12_thrown_1 ?_
  exact r_iret rfl dX12_thrown_4 (hr (μ.1 57 3) (kbG_some h))
def jn_MD_feed_76 (n : Nat) (rec : Int32 → kbM → Option (kbM)) (v1 : Int32) (v2 : Int32) (v3 : Int32) (v4 : Int32) (v5 : Int32) (v6 : Int32) (w0 : Int32) (μ : kbM) : Option (kbM) :=
  kbIf (kbIn (μ.1 57 13) 600) <|
  rec (v6 + 1) (kbW (kbW μ 69 ((μ.1 57 13).toNatClampNeg) ((kbShr w0 (24 - (8 * (kbRem v6 4)))) &&& 255)) 57 13 (((kbW μ 69 ((μ.1 57 13).toNatClampNeg) ((kbShr w0 (24 - (8 * (kbRem v6 4)))) &&& 255)).1 57 13) + 1))
theorem jnR_MD_feed_76 {l : Launch} (n : Nat)   (v1 : Int32) (v2 : Int32) (v3 : Int32) (v4 : Int32) (v5 : Int32) (v6 : Int32) (w0 : Int32) (μ : kbM) {Q : kbQt} {P : kbM → Prop} (hx : ∀ z : kbM, P (z) → kbR l MX12_feed 1 Q 120 [some (.ref 57), none, none, none, none, none, none, none] [] z) {rec : Int32 → kbM → Option (kbM)} (hrec : ∀ (v6 : Int32) (μ : kbM), kbG (rec v6 μ) P → kbR l MX12_feed 1 Q 23 [some (.ref 57), some (.int v1), some (.int v2), some (.int v3), some (.int v4), some (.int v5), some (.int v6), none] [] μ) (h : kbG (jn_MD_feed_76 n rec v1 v2 v3 v4 v5 v6 w0 μ) P) : kbR l MX12_feed 1 Q 76 [some (.ref 57), some (.int v1), some (.int v2), some (.int v3), some (.int v4), some (.int v5), some (.int v6), none] [.int w0] μ := by
  unfold jn_MD_feed_76 at h
  refine r_istore dX12_feed_76 (Nat.le_of_ble_eq_true rfl) rfl ?_
  refine r_aload_n dX12_feed_78 rfl ?_
  refine r_getR flX12_72 sh57 rfl dX12_feed_79 ?_
  refine r_aload_n dX12_feed_82 rfl ?_
  refine r_getI flX12_170 sh57 rfl dX12_feed_83 ?_
  refine r_iload dX12_feed_86 rfl ?_
  refine r_bipush 24 dX12_feed_88 (by decide) ?_
  refine r_bipush 8 dX12_feed_90 (by decide) ?_
  refine r_iload dX12_feed_92 rfl ?_
  refine r_iconst 4 dX12_feed_94 (by decide) ?_
  refine r_rem dX12_feed_95 (by decide) ?_
  refine r_imul dX12_feed_96 ?_
  refine r_isub dX12_feed_97 ?_
  refine r_shr dX12_feed_98 ?_
  refine r_sipush 255 dX12_feed_99 (by decide) ?_
  refine r_iand dX12_feed_102 ?_
  obtain ⟨hin, h⟩ := kbG_if h
  replace hin := kbIn_of hin
  refine q_iast ((μ.1 57 13).toNatClampNeg) rfl sh69 hin dX12_feed_103 ?_
  refine r_aload_n dX12_feed_104 rfl ?_
  refine r_dup dX12_feed_105 rfl ?_
  refine r_getI flX12_170 sh57 rfl dX12_feed_106 ?_
  refine r_iconst 1 dX12_feed_109 (by decide) ?_
  refine r_iadd dX12_feed_110 ?_
  refine r_put flX12_170 sh57 rfl rfl rfl dX12_feed_111 ?_
  refine r_iinc 1 dX12_feed_114 rfl (by decide) (Nat.le_of_ble_eq_true rfl) rfl ?_
  refine r_goto 23 dX12_feed_117 (by decide) ?_
  refine r_le [some (.ref 57), some (.int v1), some (.int v2), some (.int v3), some (.int v4), some (.int v5), some (.int (v6 + 1)), none] ⟨rfl, ⟨rfl, ⟨rfl, ⟨rfl, ⟨rfl, ⟨rfl, ⟨rfl, trivial⟩⟩⟩⟩⟩⟩⟩ ?_
  exact hrec (v6 + 1) (kbW (kbW μ 69 ((μ.1 57 13).toNatClampNeg) ((kbShr w0 (24 - (8 * (kbRem v6 4)))) &&& 255)) 57 13 (((kbW μ 69 ((μ.1 57 13).toNatClampNeg) ((kbShr w0 (24 - (8 * (kbRem v6 4)))) &&& 255)).1 57 13) + 1)) h
def lp_MD_feed_23 (n : Nat) (v1 : Int32) (v2 : Int32) (v3 : Int32) (v4 : Int32) (v5 : Int32) : Nat → Int32 → kbM → Option (kbM)
  | 0, _, _ => none
  | k + 1, v6, μ =>
    if 20 ≤ v6 then
      some μ
    else
      if 4 ≤ v6 then
        if 8 ≤ v6 then
          if 12 ≤ v6 then
            if 16 ≤ v6 then
              jn_MD_feed_76 n (lp_MD_feed_23 n v1 v2 v3 v4 v5 k) v1 v2 v3 v4 v5 v6 v5 μ
            else
              jn_MD_feed_76 n (lp_MD_feed_23 n v1 v2 v3 v4 v5 k) v1 v2 v3 v4 v5 v6 v4 μ
          else
            jn_MD_feed_76 n (lp_MD_feed_23 n v1 v2 v3 v4 v5 k) v1 v2 v3 v4 v5 v6 v3 μ
        else
          jn_MD_feed_76 n (lp_MD_feed_23 n v1 v2 v3 v4 v5 k) v1 v2 v3 v4 v5 v6 v2 μ
      else
        jn_MD_feed_76 n (lp_MD_feed_23 n v1 v2 v3 v4 v5 k) v1 v2 v3 v4 v5 v6 v1 μ
theorem lpR_MD_feed_23 {l : Launch} (n : Nat) (v1 : Int32) (v2 : Int32) (v3 : Int32) (v4 : Int32) (v5 : Int32)  {Q : kbQt} {P : kbM → Prop} (hx : ∀ z : kbM, P (z) → kbR l MX12_feed 1 Q 120 [some (.ref 57), none, none, none, none, none, none, none] [] z) : ∀ (k : Nat) (v6 : Int32) (μ : kbM), kbG (lp_MD_feed_23 n v1 v2 v3 v4 v5 k v6 μ) P → kbR l MX12_feed 1 Q 23 [some (.ref 57), some (.int v1), some (.int v2), some (.int v3), some (.int v4), some (.int v5), some (.int v6), none] [] μ := by
  intro k
  induction k with
  | zero => intro v6 μ h; exact absurd h kbG_none
  | succ k ih =>
    intro v6 μ h
    unfold lp_MD_feed_23 at h
    refine r_iload dX12_feed_23 rfl ?_
    refine r_bipush 20 dX12_feed_25 (by decide) ?_
    refine r_icmp_ge 120 dX12_feed_27 (by decide) (fun hc => ?_) (fun hc => ?_)
    · replace h := kbG_t hc h
      refine r_le [some (.ref 57), none, none, none, none, none, none, none] ⟨rfl, trivial⟩ ?_
      exact hx μ (kbG_some h)
    · replace h := kbG_f hc h
      refine r_iload dX12_feed_30 rfl ?_
      refine r_iconst 4 dX12_feed_32 (by decide) ?_
      refine r_icmp_ge 40 dX12_feed_33 (by decide) (fun hc => ?_) (fun hc => ?_)
      · replace h := kbG_t hc h
        refine r_iload dX12_feed_40 rfl ?_
        refine r_bipush 8 dX12_feed_42 (by decide) ?_
        refine r_icmp_ge 51 dX12_feed_44 (by decide) (fun hc => ?_) (fun hc => ?_)
        · replace h := kbG_t hc h
          refine r_iload dX12_feed_51 rfl ?_
          refine r_bipush 12 dX12_feed_53 (by decide) ?_
          refine r_icmp_ge 62 dX12_feed_55 (by decide) (fun hc => ?_) (fun hc => ?_)
          · replace h := kbG_t hc h
            refine r_iload dX12_feed_62 rfl ?_
            refine r_bipush 16 dX12_feed_64 (by decide) ?_
            refine r_icmp_ge 74 dX12_feed_66 (by decide) (fun hc => ?_) (fun hc => ?_)
            · replace h := kbG_t hc h
              refine r_iload dX12_feed_74 rfl ?_
              refine r_le [some (.ref 57), some (.int v1), some (.int v2), some (.int v3), some (.int v4), some (.int v5), some (.int v6), none] ⟨rfl, ⟨rfl, ⟨rfl, ⟨rfl, ⟨rfl, ⟨rfl, ⟨rfl, trivial⟩⟩⟩⟩⟩⟩⟩ ?_
              exact jnR_MD_feed_76 n v1 v2 v3 v4 v5 v6 v5 μ (hx := hx) (hrec := ih) h
            · replace h := kbG_f hc h
              refine r_iload dX12_feed_69 rfl ?_
              refine r_goto 76 dX12_feed_71 (by decide) ?_
              refine r_le [some (.ref 57), some (.int v1), some (.int v2), some (.int v3), some (.int v4), some (.int v5), some (.int v6), none] ⟨rfl, ⟨rfl, ⟨rfl, ⟨rfl, ⟨rfl, ⟨rfl, ⟨rfl, trivial⟩⟩⟩⟩⟩⟩⟩ ?_
              exact jnR_MD_feed_76 n v1 v2 v3 v4 v5 v6 v4 μ (hx := hx) (hrec := ih) h
          · replace h := kbG_f hc h
            refine r_iload_n dX12_feed_58 rfl ?_
            refine r_goto 76 dX12_feed_59 (by decide) ?_
            refine r_le [some (.ref 57), some (.int v1), some (.int v2), some (.int v3), some (.int v4), some (.int v5), some (.int v6), none] ⟨rfl, ⟨rfl, ⟨rfl, ⟨rfl, ⟨rfl, ⟨rfl, ⟨rfl, trivial⟩⟩⟩⟩⟩⟩⟩ ?_
            exact jnR_MD_feed_76 n v1 v2 v3 v4 v5 v6 v3 μ (hx := hx) (hrec := ih) h
        · replace h := kbG_f hc h
          refine r_iload_n dX12_feed_47 rfl ?_
          refine r_goto 76 dX12_feed_48 (by decide) ?_
          refine r_le [some (.ref 57), some (.int v1), some (.int v2), some (.int v3), some (.int v4), some (.int v5), some (.int v6), none] ⟨rfl, ⟨rfl, ⟨rfl, ⟨rfl, ⟨rfl, ⟨rfl, ⟨rfl, trivial⟩⟩⟩⟩⟩⟩⟩ ?_
          exact jnR_MD_feed_76 n v1 v2 v3 v4 v5 v6 v2 μ (hx := hx) (hrec := ih) h
      · replace h := kbG_f hc h
        refine r_iload_n dX12_feed_36 rfl ?_
        refine r_goto 76 dX12_feed_37 (by decide) ?_
        refine r_le [some (.ref 57), some (.int v1), some (.int v2), some (.int v3), some (.int v4), some (.int v5), some (.int v6), none] ⟨rfl, ⟨rfl, ⟨rfl, ⟨rfl, ⟨rfl, ⟨rfl, ⟨rfl, trivial⟩⟩⟩⟩⟩⟩⟩ ?_
        exact jnR_MD_feed_76 n v1 v2 v3 v4 v5 v6 v1 μ (hx := hx) (hrec := ih) h
def f_MD_feed (n : Nat) (a1 : Int32) (a2 : Int32) (a3 : Int32) (a4 : Int32) (a5 : Int32) (μ : kbM) : Option (Int32 × kbM) :=
  if (((kbW μ 57 3 0).1 57 13) + 20) ≤ 600 then
    (lp_MD_feed_23 n a1 a2 a3 a4 a5 n 0 (kbW μ 57 3 0)).bind fun x1 =>
    some ((x1.1 57 13, x1))
  else
    some (((-1), kbW μ 57 3 0))
theorem sp_MD_feed {l : Launch} (n : Nat) (a1 : Int32) (a2 : Int32) (a3 : Int32) (a4 : Int32) (a5 : Int32) (μ : kbM)  {x : Int32 × kbM} (h : f_MD_feed n a1 a2 a3 a4 a5 μ = some x) : kbS l MX12_feed 1 [.ref 57, .int a1, .int a2, .int a3, .int a4, .int a5] μ (kbQe (some (.int x.1)) x.2) := by
  refine kb_enter 2 rfl rfl ?_
  suffices H : ∀ (Q : kbQt) (P : Int32 × kbM → Prop), (∀ z : Int32 × kbM, P z → Q (some (.int z.1)) z.2) → kbG (f_MD_feed n a1 a2 a3 a4 a5 μ) P → kbR l MX12_feed 1 Q 0 [some (.ref 57), some (.int a1), some (.int a2), some (.int a3), some (.int a4), some (.int a5), none, none] [] μ from H _ (fun z => z = x) (fun z e => by subst e; exact ⟨rfl, rfl⟩) ⟨x, h, rfl⟩
  clear h
  intro Q P hr h
  unfold f_MD_feed at h
  refine r_aload_n dX12_feed_0 rfl ?_
  refine r_iconst 0 dX12_feed_1 (by decide) ?_
  refine r_put flX12_159 sh57 rfl rfl rfl dX12_feed_2 ?_
  refine r_aload_n dX12_feed_5 rfl ?_
  refine r_getI flX12_170 sh57 rfl dX12_feed_6 ?_
  refine r_bipush 20 dX12_feed_9 (by decide) ?_
  refine r_iadd dX12_feed_11 ?_
  refine r_sipush 600 dX12_feed_12 (by decide) ?_
  refine r_icmp_le 20 dX12_feed_15 (by decide) (fun hc => ?_) (fun hc => ?_)
  · replace h := kbG_t hc h
    refine r_iconst 0 dX12_feed_20 (by decide) ?_
    refine r_istore dX12_feed_21 (Nat.le_of_ble_eq_true rfl) rfl ?_
    refine r_le [some (.ref 57), some (.int a1), some (.int a2), some (.int a3), some (.int a4), some (.int a5), some (.int 0), none] ⟨rfl, ⟨rfl, ⟨rfl, ⟨rfl, ⟨rfl, ⟨rfl, ⟨rfl, trivial⟩⟩⟩⟩⟩⟩⟩ ?_
    obtain ⟨x1, hx0, h⟩ := kbG_bind h
    refine lpR_MD_feed_23 n a1 a2 a3 a4 a5 (P := fun z => x1 = z) (hx := fun z e => ?_) n _ _ ⟨_, hx0, rfl⟩
    subst e
    refine r_aload_n dX12_feed_120 rfl ?_
    refine r_getI flX12_170 sh57 rfl dX12_feed_121 ?_
    exact r_iret rfl dX12_feed_124 (hr ((x1.1 57 13, x1)) (kbG_some h))
  · replace h := kbG_f hc h
    refine r_iconst (-1) dX12_feed_18 (by decide) ?_
    exact r_iret rfl dX12_feed_19 (hr (((-1), kbW μ 57 3 0)) (kbG_some h))
def f_MD_fail (a1 : Int32) (μ : kbM) : Option (Int32 × kbM) :=
  some ((0, kbW μ 57 3 a1))
theorem sp_MD_fail {l : Launch} (a1 : Int32) (μ : kbM)  {x : Int32 × kbM} (h : f_MD_fail a1 μ = some x) : kbS l MX12_fail 1 [.ref 57, .int a1] μ (kbQe (some (.int x.1)) x.2) := by
  refine kb_enter 0 rfl rfl ?_
  suffices H : ∀ (Q : kbQt) (P : Int32 × kbM → Prop), (∀ z : Int32 × kbM, P z → Q (some (.int z.1)) z.2) → kbG (f_MD_fail a1 μ) P → kbR l MX12_fail 1 Q 0 [some (.ref 57), some (.int a1)] [] μ from H _ (fun z => z = x) (fun z e => by subst e; exact ⟨rfl, rfl⟩) ⟨x, h, rfl⟩
  clear h
  intro Q P hr h
  unfold f_MD_fail at h
  refine r_aload_n dX12_fail_0 rfl ?_
  refine r_iload_n dX12_fail_1 rfl ?_
  refine r_put flX12_159 sh57 rfl rfl rfl dX12_fail_2 ?_
  refine r_iconst 0 dX12_fail_5 (by decide) ?_
  exact r_iret rfl dX12_fail_6 (hr ((0, kbW μ 57 3 a1)) (kbG_some h))
def jn_MD_byteAt_18 (w0 : Int32) (μ : kbM) : Option (Int32) :=
  some w0
theorem jnR_MD_byteAt_18 {l : Launch}   (w0 : Int32) (μ : kbM) {Q : kbQt} {P : Int32 → Prop} (hr : ∀ z : Int32, P z → Q (some (.int z)) μ) (h : kbG (jn_MD_byteAt_18 w0 μ) P) : kbR l MX12_byteAt 1 Q 18 [none, none] [.int w0] μ := by
  unfold jn_MD_byteAt_18 at h
  exact r_iret rfl dX12_byteAt_18 (hr w0 (kbG_some h))
def f_MD_byteAt (a1 : Int32) (μ : kbM) : Option (Int32) :=
  if (μ.1 57 15) ≤ a1 then
    jn_MD_byteAt_18 (-1) μ
  else
    kbIf (kbIn a1 600) <|
    jn_MD_byteAt_18 (μ.1 69 a1.toNatClampNeg) μ
theorem sp_MD_byteAt {l : Launch} (a1 : Int32) (μ : kbM)  {x : Int32} (h : f_MD_byteAt a1 μ = some x) : kbS l MX12_byteAt 1 [.ref 57, .int a1] μ (kbQe (some (.int x)) μ) := by
  refine kb_enter 0 rfl rfl ?_
  suffices H : ∀ (Q : kbQt) (P : Int32 → Prop), (∀ z : Int32, P z → Q (some (.int z)) μ) → kbG (f_MD_byteAt a1 μ) P → kbR l MX12_byteAt 1 Q 0 [some (.ref 57), some (.int a1)] [] μ from H _ (fun z => z = x) (fun z e => by subst e; exact ⟨rfl, rfl⟩) ⟨x, h, rfl⟩
  clear h
  intro Q P hr h
  unfold f_MD_byteAt at h
  refine r_iload_n dX12_byteAt_0 rfl ?_
  refine r_aload_n dX12_byteAt_1 rfl ?_
  refine r_getI flX12_173 sh57 rfl dX12_byteAt_2 ?_
  refine r_icmp_ge 17 dX12_byteAt_5 (by decide) (fun hc => ?_) (fun hc => ?_)
  · replace h := kbG_t hc h
    refine r_iconst (-1) dX12_byteAt_17 (by decide) ?_
    refine r_le [none, none] trivial ?_
    exact jnR_MD_byteAt_18 (-1) μ (hr := hr) h
  · replace h := kbG_f hc h
    refine r_aload_n dX12_byteAt_8 rfl ?_
    refine r_getR flX12_72 sh57 rfl dX12_byteAt_9 ?_
    refine r_iload_n dX12_byteAt_12 rfl ?_
    obtain ⟨hin, h⟩ := kbG_if h
    replace hin := kbIn_of hin
    refine q_iald a1.toNatClampNeg rfl sh69 hin dX12_byteAt_13 ?_
    refine r_goto 18 dX12_byteAt_14 (by decide) ?_
    refine r_le [none, none] trivial ?_
    exact jnR_MD_byteAt_18 (μ.1 69 a1.toNatClampNeg) μ (hr := hr) h
def jn_MD_isLetter_17 (w0 : Int32) : Option (Int32) :=
  kbIf (decide (w0 = 0 ∨ w0 = 1)) <|
  some w0
theorem jnR_MD_isLetter_17 {l : Launch}   (w0 : Int32) (μ : kbM) {Q : kbQt} {P : Int32 → Prop} (hr : ∀ z : Int32, P z → Q (some (.int z)) μ) (h : kbG (jn_MD_isLetter_17 w0) P) : kbR l MX12_isLetter 1 Q 17 [none] [.int w0] μ := by
  unfold jn_MD_isLetter_17 at h
  obtain ⟨hz, h⟩ := kbG_if h
  exact r_zret rfl (kb_z01 (of_decide_eq_true hz)) dX12_isLetter_17 (hr w0 (kbG_some h))
def jn_MD_isLetter_16  : Option (Int32) :=
  jn_MD_isLetter_17 0
theorem jnR_MD_isLetter_16 {l : Launch}    (μ : kbM) {Q : kbQt} {P : Int32 → Prop} (hr : ∀ z : Int32, P z → Q (some (.int z)) μ) (h : kbG (jn_MD_isLetter_16 ) P) : kbR l MX12_isLetter 1 Q 16 [none] [] μ := by
  unfold jn_MD_isLetter_16 at h
  refine r_iconst 0 dX12_isLetter_16 (by decide) ?_
  refine r_le [none] trivial ?_
  exact jnR_MD_isLetter_17 0 μ (hr := hr) h
def f_MD_isLetter (a0 : Int32) : Option (Int32) :=
  if a0 < 97 then
    jn_MD_isLetter_16 
  else
    if 122 < a0 then
      jn_MD_isLetter_16 
    else
      jn_MD_isLetter_17 1
theorem sp_MD_isLetter {l : Launch} (a0 : Int32) (μ : kbM)  {x : Int32} (h : f_MD_isLetter a0 = some x) : kbS l MX12_isLetter 1 [.int a0] μ (kbQe (some (.int x)) μ) := by
  refine kb_enter 0 rfl rfl ?_
  suffices H : ∀ (Q : kbQt) (P : Int32 → Prop), (∀ z : Int32, P z → Q (some (.int z)) μ) → kbG (f_MD_isLetter a0) P → kbR l MX12_isLetter 1 Q 0 [some (.int a0)] [] μ from H _ (fun z => z = x) (fun z e => by subst e; exact ⟨rfl, rfl⟩) ⟨x, h, rfl⟩
  clear h
  intro Q P hr h
  unfold f_MD_isLetter at h
  refine r_iload_n dX12_isLetter_0 rfl ?_
  refine r_bipush 97 dX12_isLetter_1 (by decide) ?_
  refine r_icmp_lt 16 dX12_isLetter_3 (by decide) (fun hc => ?_) (fun hc => ?_)
  · replace h := kbG_t hc h
    refine r_le [none] trivial ?_
    exact jnR_MD_isLetter_16  μ (hr := hr) h
  · replace h := kbG_f hc h
    refine r_iload_n dX12_isLetter_6 rfl ?_
    refine r_bipush 122 dX12_isLetter_7 (by decide) ?_
    refine r_icmp_gt 16 dX12_isLetter_9 (by decide) (fun hc => ?_) (fun hc => ?_)
    · replace h := kbG_t hc h
      refine r_le [none] trivial ?_
      exact jnR_MD_isLetter_16  μ (hr := hr) h
    · replace h := kbG_f hc h
      refine r_iconst 1 dX12_isLetter_12 (by decide) ?_
      refine r_goto 17 dX12_isLetter_13 (by decide) ?_
      refine r_le [none] trivial ?_
      exact jnR_MD_isLetter_17 1 μ (hr := hr) h
def jn_MD_isDigit_17 (w0 : Int32) : Option (Int32) :=
  kbIf (decide (w0 = 0 ∨ w0 = 1)) <|
  some w0
theorem jnR_MD_isDigit_17 {l : Launch}   (w0 : Int32) (μ : kbM) {Q : kbQt} {P : Int32 → Prop} (hr : ∀ z : Int32, P z → Q (some (.int z)) μ) (h : kbG (jn_MD_isDigit_17 w0) P) : kbR l MX12_isDigit 1 Q 17 [none] [.int w0] μ := by
  unfold jn_MD_isDigit_17 at h
  obtain ⟨hz, h⟩ := kbG_if h
  exact r_zret rfl (kb_z01 (of_decide_eq_true hz)) dX12_isDigit_17 (hr w0 (kbG_some h))
def jn_MD_isDigit_16  : Option (Int32) :=
  jn_MD_isDigit_17 0
theorem jnR_MD_isDigit_16 {l : Launch}    (μ : kbM) {Q : kbQt} {P : Int32 → Prop} (hr : ∀ z : Int32, P z → Q (some (.int z)) μ) (h : kbG (jn_MD_isDigit_16 ) P) : kbR l MX12_isDigit 1 Q 16 [none] [] μ := by
  unfold jn_MD_isDigit_16 at h
  refine r_iconst 0 dX12_isDigit_16 (by decide) ?_
  refine r_le [none] trivial ?_
  exact jnR_MD_isDigit_17 0 μ (hr := hr) h
def f_MD_isDigit (a0 : Int32) : Option (Int32) :=
  if a0 < 48 then
    jn_MD_isDigit_16 
  else
    if 57 < a0 then
      jn_MD_isDigit_16 
    else
      jn_MD_isDigit_17 1
theorem sp_MD_isDigit {l : Launch} (a0 : Int32) (μ : kbM)  {x : Int32} (h : f_MD_isDigit a0 = some x) : kbS l MX12_isDigit 1 [.int a0] μ (kbQe (some (.int x)) μ) := by
  refine kb_enter 0 rfl rfl ?_
  suffices H : ∀ (Q : kbQt) (P : Int32 → Prop), (∀ z : Int32, P z → Q (some (.int z)) μ) → kbG (f_MD_isDigit a0) P → kbR l MX12_isDigit 1 Q 0 [some (.int a0)] [] μ from H _ (fun z => z = x) (fun z e => by subst e; exact ⟨rfl, rfl⟩) ⟨x, h, rfl⟩
  clear h
  intro Q P hr h
  unfold f_MD_isDigit at h
  refine r_iload_n dX12_isDigit_0 rfl ?_
  refine r_bipush 48 dX12_isDigit_1 (by decide) ?_
  refine r_icmp_lt 16 dX12_isDigit_3 (by decide) (fun hc => ?_) (fun hc => ?_)
  · replace h := kbG_t hc h
    refine r_le [none] trivial ?_
    exact jnR_MD_isDigit_16  μ (hr := hr) h
  · replace h := kbG_f hc h
    refine r_iload_n dX12_isDigit_6 rfl ?_
    refine r_bipush 57 dX12_isDigit_7 (by decide) ?_
    refine r_icmp_gt 16 dX12_isDigit_9 (by decide) (fun hc => ?_) (fun hc => ?_)
    · replace h := kbG_t hc h
      refine r_le [none] trivial ?_
      exact jnR_MD_isDigit_16  μ (hr := hr) h
    · replace h := kbG_f hc h
      refine r_iconst 1 dX12_isDigit_12 (by decide) ?_
      refine r_goto 17 dX12_isDigit_13 (by decide) ?_
      refine r_le [none] trivial ?_
      exact jnR_MD_isDigit_17 1 μ (hr := hr) h
def jn_MD_isMark_59 (w0 : Int32) : Option (Int32) :=
  kbIf (decide (w0 = 0 ∨ w0 = 1)) <|
  some w0
theorem jnR_MD_isMark_59 {l : Launch}   (w0 : Int32) (μ : kbM) {Q : kbQt} {P : Int32 → Prop} (hr : ∀ z : Int32, P z → Q (some (.int z)) μ) (h : kbG (jn_MD_isMark_59 w0) P) : kbR l MX12_isMark 1 Q 59 [none] [.int w0] μ := by
  unfold jn_MD_isMark_59 at h
  obtain ⟨hz, h⟩ := kbG_if h
  exact r_zret rfl (kb_z01 (of_decide_eq_true hz)) dX12_isMark_59 (hr w0 (kbG_some h))
def jn_MD_isMark_54  : Option (Int32) :=
  jn_MD_isMark_59 1
theorem jnR_MD_isMark_54 {l : Launch}    (μ : kbM) {Q : kbQt} {P : Int32 → Prop} (hr : ∀ z : Int32, P z → Q (some (.int z)) μ) (h : kbG (jn_MD_isMark_54 ) P) : kbR l MX12_isMark 1 Q 54 [none] [] μ := by
  unfold jn_MD_isMark_54 at h
  refine r_iconst 1 dX12_isMark_54 (by decide) ?_
  refine r_goto 59 dX12_isMark_55 (by decide) ?_
  refine r_le [none] trivial ?_
  exact jnR_MD_isMark_59 1 μ (hr := hr) h
def f_MD_isMark (a0 : Int32) : Option (Int32) :=
  if a0 = 59 then
    jn_MD_isMark_54 
  else
    if a0 = 40 then
      jn_MD_isMark_54 
    else
      if a0 = 41 then
        jn_MD_isMark_54 
      else
        if a0 = 43 then
          jn_MD_isMark_54 
        else
          if a0 = 45 then
            jn_MD_isMark_54 
          else
            if a0 = 42 then
              jn_MD_isMark_54 
            else
              if a0 = 47 then
                jn_MD_isMark_54 
              else
                if a0 = 60 then
                  jn_MD_isMark_54 
                else
                  if a0 = 61 then
                    jn_MD_isMark_54 
                  else
                    jn_MD_isMark_59 0
theorem sp_MD_isMark {l : Launch} (a0 : Int32) (μ : kbM)  {x : Int32} (h : f_MD_isMark a0 = some x) : kbS l MX12_isMark 1 [.int a0] μ (kbQe (some (.int x)) μ) := by
  refine kb_enter 0 rfl rfl ?_
  suffices H : ∀ (Q : kbQt) (P : Int32 → Prop), (∀ z : Int32, P z → Q (some (.int z)) μ) → kbG (f_MD_isMark a0) P → kbR l MX12_isMark 1 Q 0 [some (.int a0)] [] μ from H _ (fun z => z = x) (fun z e => by subst e; exact ⟨rfl, rfl⟩) ⟨x, h, rfl⟩
  clear h
  intro Q P hr h
  unfold f_MD_isMark at h
  refine r_iload_n dX12_isMark_0 rfl ?_
  refine r_bipush 59 dX12_isMark_1 (by decide) ?_
  refine r_icmp_eq 54 dX12_isMark_3 (by decide) (fun hc => ?_) (fun hc => ?_)
  · replace h := kbG_t hc h
    refine r_le [none] trivial ?_
    exact jnR_MD_isMark_54  μ (hr := hr) h
  · replace h := kbG_f hc h
    refine r_iload_n dX12_isMark_6 rfl ?_
    refine r_bipush 40 dX12_isMark_7 (by decide) ?_
    refine r_icmp_eq 54 dX12_isMark_9 (by decide) (fun hc => ?_) (fun hc => ?_)
    · replace h := kbG_t hc h
      refine r_le [none] trivial ?_
      exact jnR_MD_isMark_54  μ (hr := hr) h
    · replace h := kbG_f hc h
      refine r_iload_n dX12_isMark_12 rfl ?_
      refine r_bipush 41 dX12_isMark_13 (by decide) ?_
      refine r_icmp_eq 54 dX12_isMark_15 (by decide) (fun hc => ?_) (fun hc => ?_)
      · replace h := kbG_t hc h
        refine r_le [none] trivial ?_
        exact jnR_MD_isMark_54  μ (hr := hr) h
      · replace h := kbG_f hc h
        refine r_iload_n dX12_isMark_18 rfl ?_
        refine r_bipush 43 dX12_isMark_19 (by decide) ?_
        refine r_icmp_eq 54 dX12_isMark_21 (by decide) (fun hc => ?_) (fun hc => ?_)
        · replace h := kbG_t hc h
          refine r_le [none] trivial ?_
          exact jnR_MD_isMark_54  μ (hr := hr) h
        · replace h := kbG_f hc h
          refine r_iload_n dX12_isMark_24 rfl ?_
          refine r_bipush 45 dX12_isMark_25 (by decide) ?_
          refine r_icmp_eq 54 dX12_isMark_27 (by decide) (fun hc => ?_) (fun hc => ?_)
          · replace h := kbG_t hc h
            refine r_le [none] trivial ?_
            exact jnR_MD_isMark_54  μ (hr := hr) h
          · replace h := kbG_f hc h
            refine r_iload_n dX12_isMark_30 rfl ?_
            refine r_bipush 42 dX12_isMark_31 (by decide) ?_
            refine r_icmp_eq 54 dX12_isMark_33 (by decide) (fun hc => ?_) (fun hc => ?_)
            · replace h := kbG_t hc h
              refine r_le [none] trivial ?_
              exact jnR_MD_isMark_54  μ (hr := hr) h
            · replace h := kbG_f hc h
              refine r_iload_n dX12_isMark_36 rfl ?_
              refine r_bipush 47 dX12_isMark_37 (by decide) ?_
              refine r_icmp_eq 54 dX12_isMark_39 (by decide) (fun hc => ?_) (fun hc => ?_)
              · replace h := kbG_t hc h
                refine r_le [none] trivial ?_
                exact jnR_MD_isMark_54  μ (hr := hr) h
              · replace h := kbG_f hc h
                refine r_iload_n dX12_isMark_42 rfl ?_
                refine r_bipush 60 dX12_isMark_43 (by decide) ?_
                refine r_icmp_eq 54 dX12_isMark_45 (by decide) (fun hc => ?_) (fun hc => ?_)
                · replace h := kbG_t hc h
                  refine r_le [none] trivial ?_
                  exact jnR_MD_isMark_54  μ (hr := hr) h
                · replace h := kbG_f hc h
                  refine r_iload_n dX12_isMark_48 rfl ?_
                  refine r_bipush 61 dX12_isMark_49 (by decide) ?_
                  refine r_icmp_ne 58 dX12_isMark_51 (by decide) (fun hc => ?_) (fun hc => ?_)
                  · replace h := kbG_f hc h
                    refine r_iconst 0 dX12_isMark_58 (by decide) ?_
                    refine r_le [none] trivial ?_
                    exact jnR_MD_isMark_59 0 μ (hr := hr) h
                  · replace h := kbG_t hc h
                    refine r_le [none] trivial ?_
                    exact jnR_MD_isMark_54  μ (hr := hr) h
def jn_MD_stepOn_26 (n : Nat) (rec : kbM → Option (kbM)) (μ : kbM) : Option (kbM) :=
  rec (kbW μ 57 14 ((μ.1 57 14) + 1))
theorem jnR_MD_stepOn_26 {l : Launch} (n : Nat)    (μ : kbM) {Q : kbQt} {P : kbM → Prop} (hx : ∀ z : kbM, P (z) → kbR l MX12_stepOn 2 Q 39 [some (.ref 57), none] [] z) {rec : kbM → Option (kbM)} (hrec : ∀ (μ : kbM), kbG (rec μ) P → kbR l MX12_stepOn 2 Q 0 [some (.ref 57), none] [] μ) (h : kbG (jn_MD_stepOn_26 n rec μ) P) : kbR l MX12_stepOn 2 Q 26 [some (.ref 57), none] [] μ := by
  unfold jn_MD_stepOn_26 at h
  refine r_aload_n dX12_stepOn_26 rfl ?_
  refine r_dup dX12_stepOn_27 rfl ?_
  refine r_getI flX12_176 sh57 rfl dX12_stepOn_28 ?_
  refine r_iconst 1 dX12_stepOn_31 (by decide) ?_
  refine r_iadd dX12_stepOn_32 ?_
  refine r_put flX12_176 sh57 rfl rfl rfl dX12_stepOn_33 ?_
  refine r_goto 0 dX12_stepOn_36 (by decide) ?_
  refine r_le [some (.ref 57), none] ⟨rfl, trivial⟩ ?_
  exact hrec (kbW μ 57 14 ((μ.1 57 14) + 1)) h
def lp_MD_stepOn_0 (n : Nat) : Nat → kbM → Option (kbM)
  | 0, _ => none
  | k + 1, μ =>
    (f_MD_byteAt (μ.1 57 14) μ).bind fun x1 =>
    if x1 = 32 then
      jn_MD_stepOn_26 n (lp_MD_stepOn_0 n k) μ
    else
      (f_MD_byteAt (μ.1 57 14) μ).bind fun x2 =>
      if x2 = 10 then
        jn_MD_stepOn_26 n (lp_MD_stepOn_0 n k) μ
      else
        some μ
theorem lpR_MD_stepOn_0 {l : Launch} (n : Nat)   {Q : kbQt} {P : kbM → Prop} (hx : ∀ z : kbM, P (z) → kbR l MX12_stepOn 2 Q 39 [some (.ref 57), none] [] z) : ∀ (k : Nat) (μ : kbM), kbG (lp_MD_stepOn_0 n k μ) P → kbR l MX12_stepOn 2 Q 0 [some (.ref 57), none] [] μ := by
  intro k
  induction k with
  | zero => intro μ h; exact absurd h kbG_none
  | succ k ih =>
    intro μ h
    unfold lp_MD_stepOn_0 at h
    refine r_aload_n dX12_stepOn_0 rfl ?_
    refine r_aload_n dX12_stepOn_1 rfl ?_
    refine r_getI flX12_176 sh57 rfl dX12_stepOn_2 ?_
    obtain ⟨x1, hx0, h⟩ := kbG_bind h
    refine r_invV_i cvX12_179 sh57 rfl (sp_MD_byteAt (μ.1 57 14) μ hx0) rfl rfl (Nat.le_of_ble_eq_true rfl) (Nat.le_of_ble_eq_true rfl) dX12_stepOn_5 ?_
    refine r_bipush 32 dX12_stepOn_8 (by decide) ?_
    refine r_icmp_eq 26 dX12_stepOn_10 (by decide) (fun hc => ?_) (fun hc => ?_)
    · replace h := kbG_t hc h
      refine r_le [some (.ref 57), none] ⟨rfl, trivial⟩ ?_
      exact jnR_MD_stepOn_26 n  μ (hx := hx) (hrec := ih) h
    · replace h := kbG_f hc h
      refine r_aload_n dX12_stepOn_13 rfl ?_
      refine r_aload_n dX12_stepOn_14 rfl ?_
      refine r_getI flX12_176 sh57 rfl dX12_stepOn_15 ?_
      obtain ⟨x2, hx0, h⟩ := kbG_bind h
      refine r_invV_i cvX12_179 sh57 rfl (sp_MD_byteAt (μ.1 57 14) μ hx0) rfl rfl (Nat.le_of_ble_eq_true rfl) (Nat.le_of_ble_eq_true rfl) dX12_stepOn_18 ?_
      refine r_bipush 10 dX12_stepOn_21 (by decide) ?_
      refine r_icmp_ne 39 dX12_stepOn_23 (by decide) (fun hc => ?_) (fun hc => ?_)
      · replace h := kbG_f hc h
        refine r_le [some (.ref 57), none] ⟨rfl, trivial⟩ ?_
        exact hx μ (kbG_some h)
      · replace h := kbG_t hc h
        refine r_le [some (.ref 57), none] ⟨rfl, trivial⟩ ?_
        exact jnR_MD_stepOn_26 n  μ (hx := hx) (hrec := ih) h
def jn_MD_stepOn_212 (n : Nat) (μ : kbM) : Option (kbM) :=
  some (kbW μ 57 19 (μ.1 57 14))
theorem jnR_MD_stepOn_212 {l : Launch} (n : Nat)    (μ : kbM) {Q : kbQt} {P : kbM → Prop} (hr : ∀ z : kbM, P z → Q none z) (h : kbG (jn_MD_stepOn_212 n μ) P) : kbR l MX12_stepOn 2 Q 212 [some (.ref 57), none] [] μ := by
  unfold jn_MD_stepOn_212 at h
  refine r_aload_n dX12_stepOn_212 rfl ?_
  refine r_aload_n dX12_stepOn_213 rfl ?_
  refine r_getI flX12_176 sh57 rfl dX12_stepOn_214 ?_
  refine r_put flX12_209 sh57 rfl rfl rfl dX12_stepOn_217 ?_
  exact r_vret rfl dX12_stepOn_220 (hr (kbW μ 57 19 (μ.1 57 14)) (kbG_some h))
def jn_MD_stepOn_209 (n : Nat) (w1 : Int32) (μ : kbM) : Option (kbM) :=
  jn_MD_stepOn_212 n (kbW μ 57 16 w1)
theorem jnR_MD_stepOn_209 {l : Launch} (n : Nat)   (w1 : Int32) (μ : kbM) {Q : kbQt} {P : kbM → Prop} (hr : ∀ z : kbM, P z → Q none z) (h : kbG (jn_MD_stepOn_209 n w1 μ) P) : kbR l MX12_stepOn 2 Q 209 [some (.ref 57), none] [.int w1, .ref 57] μ := by
  unfold jn_MD_stepOn_209 at h
  refine r_put flX12_186 sh57 rfl rfl rfl dX12_stepOn_209 ?_
  refine r_le [some (.ref 57), none] ⟨rfl, trivial⟩ ?_
  exact jnR_MD_stepOn_212 n  (kbW μ 57 16 w1) (hr := hr) h
def lp_MD_stepOn_123 (n : Nat) : Nat → kbM → Option (kbM)
  | 0, _ => none
  | k + 1, μ =>
    (f_MD_byteAt (μ.1 57 14) μ).bind fun x8 =>
    (f_MD_isDigit x8).bind fun x9 =>
    if x9 = 0 then
      some μ
    else
      (f_MD_byteAt (μ.1 57 14) μ).bind fun x10 =>
      lp_MD_stepOn_123 n k (kbW (kbW μ 57 17 (kbMin 100000 (((10 * (μ.1 57 17)) + x10) - 48))) 57 14 (((kbW μ 57 17 (kbMin 100000 (((10 * (μ.1 57 17)) + x10) - 48))).1 57 14) + 1))
theorem lpR_MD_stepOn_123 {l : Launch} (n : Nat)   {Q : kbQt} {P : kbM → Prop} (hx : ∀ z : kbM, P (z) → kbR l MX12_stepOn 2 Q 178 [some (.ref 57), none] [] z) : ∀ (k : Nat) (μ : kbM), kbG (lp_MD_stepOn_123 n k μ) P → kbR l MX12_stepOn 2 Q 123 [some (.ref 57), none] [] μ := by
  intro k
  induction k with
  | zero => intro μ h; exact absurd h kbG_none
  | succ k ih =>
    intro μ h
    unfold lp_MD_stepOn_123 at h
    refine r_aload_n dX12_stepOn_123 rfl ?_
    refine r_aload_n dX12_stepOn_124 rfl ?_
    refine r_getI flX12_176 sh57 rfl dX12_stepOn_125 ?_
    obtain ⟨x8, hx0, h⟩ := kbG_bind h
    refine r_invV_i cvX12_179 sh57 rfl (sp_MD_byteAt (μ.1 57 14) μ hx0) rfl rfl (Nat.le_of_ble_eq_true rfl) (Nat.le_of_ble_eq_true rfl) dX12_stepOn_128 ?_
    obtain ⟨x9, hx0, h⟩ := kbG_bind h
    refine r_inv_i csX12_193 (sp_MD_isDigit x8 μ hx0) rfl rfl (Nat.le_of_ble_eq_true rfl) (Nat.le_of_ble_eq_true rfl) dX12_stepOn_131 ?_
    refine r_if_eq 178 dX12_stepOn_134 (by decide) (fun hc => ?_) (fun hc => ?_)
    · replace h := kbG_t hc h
      refine r_le [some (.ref 57), none] ⟨rfl, trivial⟩ ?_
      exact hx μ (kbG_some h)
    · replace h := kbG_f hc h
      refine r_aload_n dX12_stepOn_137 rfl ?_
      refine r_ldc 100000 liX12_199 dX12_stepOn_138 ?_
      refine r_bipush 10 dX12_stepOn_140 (by decide) ?_
      refine r_aload_n dX12_stepOn_142 rfl ?_
      refine r_getI flX12_196 sh57 rfl dX12_stepOn_143 ?_
      refine r_imul dX12_stepOn_146 ?_
      refine r_aload_n dX12_stepOn_147 rfl ?_
      refine r_aload_n dX12_stepOn_148 rfl ?_
      refine r_getI flX12_176 sh57 rfl dX12_stepOn_149 ?_
      obtain ⟨x10, hx0, h⟩ := kbG_bind h
      refine r_invV_i cvX12_179 sh57 rfl (sp_MD_byteAt (μ.1 57 14) μ hx0) rfl rfl (Nat.le_of_ble_eq_true rfl) (Nat.le_of_ble_eq_true rfl) dX12_stepOn_152 ?_
      refine r_iadd dX12_stepOn_155 ?_
      refine r_bipush 48 dX12_stepOn_156 (by decide) ?_
      refine r_isub dX12_stepOn_158 ?_
      refine r_min mlX12_200 (Nat.le_of_ble_eq_true rfl) (Nat.le_of_ble_eq_true rfl) dX12_stepOn_159 ?_
      refine r_put flX12_196 sh57 rfl rfl rfl dX12_stepOn_162 ?_
      refine r_aload_n dX12_stepOn_165 rfl ?_
      refine r_dup dX12_stepOn_166 rfl ?_
      refine r_getI flX12_176 sh57 rfl dX12_stepOn_167 ?_
      refine r_iconst 1 dX12_stepOn_170 (by decide) ?_
      refine r_iadd dX12_stepOn_171 ?_
      refine r_put flX12_176 sh57 rfl rfl rfl dX12_stepOn_172 ?_
      refine r_goto 123 dX12_stepOn_175 (by decide) ?_
      refine r_le [some (.ref 57), none] ⟨rfl, trivial⟩ ?_
      exact ih (kbW (kbW μ 57 17 (kbMin 100000 (((10 * (μ.1 57 17)) + x10) - 48))) 57 14 (((kbW μ 57 17 (kbMin 100000 (((10 * (μ.1 57 17)) + x10) - 48))).1 57 14) + 1)) h
def lp_MD_stepOn_76 (n : Nat) : Nat → kbM → Option (kbM)
  | 0, _ => none
  | k + 1, μ =>
    (f_MD_byteAt (μ.1 57 14) μ).bind fun x12 =>
    (f_MD_isLetter x12).bind fun x13 =>
    if x13 = 0 then
      some μ
    else
      lp_MD_stepOn_76 n k (kbW μ 57 14 ((μ.1 57 14) + 1))
theorem lpR_MD_stepOn_76 {l : Launch} (n : Nat)   {Q : kbQt} {P : kbM → Prop} (hx : ∀ z : kbM, P (z) → kbR l MX12_stepOn 2 Q 103 [some (.ref 57), none] [] z) : ∀ (k : Nat) (μ : kbM), kbG (lp_MD_stepOn_76 n k μ) P → kbR l MX12_stepOn 2 Q 76 [some (.ref 57), none] [] μ := by
  intro k
  induction k with
  | zero => intro μ h; exact absurd h kbG_none
  | succ k ih =>
    intro μ h
    unfold lp_MD_stepOn_76 at h
    refine r_aload_n dX12_stepOn_76 rfl ?_
    refine r_aload_n dX12_stepOn_77 rfl ?_
    refine r_getI flX12_176 sh57 rfl dX12_stepOn_78 ?_
    obtain ⟨x12, hx0, h⟩ := kbG_bind h
    refine r_invV_i cvX12_179 sh57 rfl (sp_MD_byteAt (μ.1 57 14) μ hx0) rfl rfl (Nat.le_of_ble_eq_true rfl) (Nat.le_of_ble_eq_true rfl) dX12_stepOn_81 ?_
    obtain ⟨x13, hx0, h⟩ := kbG_bind h
    refine r_inv_i csX12_189 (sp_MD_isLetter x12 μ hx0) rfl rfl (Nat.le_of_ble_eq_true rfl) (Nat.le_of_ble_eq_true rfl) dX12_stepOn_84 ?_
    refine r_if_eq 103 dX12_stepOn_87 (by decide) (fun hc => ?_) (fun hc => ?_)
    · replace h := kbG_t hc h
      refine r_le [some (.ref 57), none] ⟨rfl, trivial⟩ ?_
      exact hx μ (kbG_some h)
    · replace h := kbG_f hc h
      refine r_aload_n dX12_stepOn_90 rfl ?_
      refine r_dup dX12_stepOn_91 rfl ?_
      refine r_getI flX12_176 sh57 rfl dX12_stepOn_92 ?_
      refine r_iconst 1 dX12_stepOn_95 (by decide) ?_
      refine r_iadd dX12_stepOn_96 ?_
      refine r_put flX12_176 sh57 rfl rfl rfl dX12_stepOn_97 ?_
      refine r_goto 76 dX12_stepOn_100 (by decide) ?_
      refine r_le [some (.ref 57), none] ⟨rfl, trivial⟩ ?_
      exact ih (kbW μ 57 14 ((μ.1 57 14) + 1)) h
def f_MD_stepOn (n : Nat) (μ : kbM) : Option (kbM) :=
  (lp_MD_stepOn_0 n n μ).bind fun x3 =>
  (f_MD_byteAt ((kbW x3 57 18 (x3.1 57 14)).1 57 14) (kbW x3 57 18 (x3.1 57 14))).bind fun x4 =>
  if x4 = (-1) then
    jn_MD_stepOn_212 n (kbW (kbW x3 57 18 (x3.1 57 14)) 57 16 0)
  else
    (f_MD_isLetter x4).bind fun x5 =>
    if x5 = 0 then
      (f_MD_isDigit x4).bind fun x6 =>
      if x6 = 0 then
        (f_MD_isMark x4).bind fun x7 =>
        if x7 = 0 then
          jn_MD_stepOn_209 n 4 (kbW (kbW x3 57 18 (x3.1 57 14)) 57 14 (((kbW x3 57 18 (x3.1 57 14)).1 57 14) + 1))
        else
          jn_MD_stepOn_209 n 3 (kbW (kbW x3 57 18 (x3.1 57 14)) 57 14 (((kbW x3 57 18 (x3.1 57 14)).1 57 14) + 1))
      else
        (lp_MD_stepOn_123 n n (kbW (kbW x3 57 18 (x3.1 57 14)) 57 17 0)).bind fun x11 =>
        jn_MD_stepOn_212 n (kbW x11 57 16 2)
    else
      (lp_MD_stepOn_76 n n (kbW x3 57 18 (x3.1 57 14))).bind fun x14 =>
      jn_MD_stepOn_212 n (kbW x14 57 16 1)
theorem sp_MD_stepOn {l : Launch} (n : Nat) (μ : kbM)  {x : kbM} (h : f_MD_stepOn n μ = some x) : kbS l MX12_stepOn 2 [.ref 57] μ (kbQe none x) := by
  refine kb_enter 1 rfl rfl ?_
  suffices H : ∀ (Q : kbQt) (P : kbM → Prop), (∀ z : kbM, P z → Q none z) → kbG (f_MD_stepOn n μ) P → kbR l MX12_stepOn 2 Q 0 [some (.ref 57), none] [] μ from H _ (fun z => z = x) (fun z e => by subst e; exact ⟨rfl, rfl⟩) ⟨x, h, rfl⟩
  clear h
  intro Q P hr h
  unfold f_MD_stepOn at h
  refine r_le [some (.ref 57), none] ⟨rfl, trivial⟩ ?_
  obtain ⟨x3, hx0, h⟩ := kbG_bind h
  refine lpR_MD_stepOn_0 n (P := fun z => x3 = z) (hx := fun z e => ?_) n _ ⟨_, hx0, rfl⟩
  subst e
  refine r_aload_n dX12_stepOn_39 rfl ?_
  refine r_aload_n dX12_stepOn_40 rfl ?_
  refine r_getI flX12_176 sh57 rfl dX12_stepOn_41 ?_
  refine r_put flX12_183 sh57 rfl rfl rfl dX12_stepOn_44 ?_
  refine r_aload_n dX12_stepOn_47 rfl ?_
  refine r_aload_n dX12_stepOn_48 rfl ?_
  refine r_getI flX12_176 sh57 rfl dX12_stepOn_49 ?_
  obtain ⟨x4, hx0, h⟩ := kbG_bind h
  refine r_invV_i cvX12_179 sh57 rfl (sp_MD_byteAt ((kbW x3 57 18 (x3.1 57 14)).1 57 14) (kbW x3 57 18 (x3.1 57 14)) hx0) rfl rfl (Nat.le_of_ble_eq_true rfl) (Nat.le_of_ble_eq_true rfl) dX12_stepOn_52 ?_
  refine r_istore_n dX12_stepOn_55 (Nat.le_of_ble_eq_true rfl) rfl ?_
  refine r_iload_n dX12_stepOn_56 rfl ?_
  refine r_iconst (-1) dX12_stepOn_57 (by decide) ?_
  refine r_icmp_ne 69 dX12_stepOn_58 (by decide) (fun hc => ?_) (fun hc => ?_)
  · replace h := kbG_f hc h
    refine r_iload_n dX12_stepOn_69 rfl ?_
    obtain ⟨x5, hx0, h⟩ := kbG_bind h
    refine r_inv_i csX12_189 (sp_MD_isLetter x4 (kbW x3 57 18 (x3.1 57 14)) hx0) rfl rfl (Nat.le_of_ble_eq_true rfl) (Nat.le_of_ble_eq_true rfl) dX12_stepOn_70 ?_
    refine r_if_eq 111 dX12_stepOn_73 (by decide) (fun hc => ?_) (fun hc => ?_)
    · replace h := kbG_t hc h
      refine r_iload_n dX12_stepOn_111 rfl ?_
      obtain ⟨x6, hx0, h⟩ := kbG_bind h
      refine r_inv_i csX12_193 (sp_MD_isDigit x4 (kbW x3 57 18 (x3.1 57 14)) hx0) rfl rfl (Nat.le_of_ble_eq_true rfl) (Nat.le_of_ble_eq_true rfl) dX12_stepOn_112 ?_
      refine r_if_eq 186 dX12_stepOn_115 (by decide) (fun hc => ?_) (fun hc => ?_)
      · replace h := kbG_t hc h
        refine r_aload_n dX12_stepOn_186 rfl ?_
        refine r_dup dX12_stepOn_187 rfl ?_
        refine r_getI flX12_176 sh57 rfl dX12_stepOn_188 ?_
        refine r_iconst 1 dX12_stepOn_191 (by decide) ?_
        refine r_iadd dX12_stepOn_192 ?_
        refine r_put flX12_176 sh57 rfl rfl rfl dX12_stepOn_193 ?_
        refine r_aload_n dX12_stepOn_196 rfl ?_
        refine r_iload_n dX12_stepOn_197 rfl ?_
        obtain ⟨x7, hx0, h⟩ := kbG_bind h
        refine r_inv_i csX12_206 (sp_MD_isMark x4 (kbW (kbW x3 57 18 (x3.1 57 14)) 57 14 (((kbW x3 57 18 (x3.1 57 14)).1 57 14) + 1)) hx0) rfl rfl (Nat.le_of_ble_eq_true rfl) (Nat.le_of_ble_eq_true rfl) dX12_stepOn_198 ?_
        refine r_if_eq 208 dX12_stepOn_201 (by decide) (fun hc => ?_) (fun hc => ?_)
        · replace h := kbG_t hc h
          refine r_iconst 4 dX12_stepOn_208 (by decide) ?_
          refine r_le [some (.ref 57), none] ⟨rfl, trivial⟩ ?_
          exact jnR_MD_stepOn_209 n 4 (kbW (kbW x3 57 18 (x3.1 57 14)) 57 14 (((kbW x3 57 18 (x3.1 57 14)).1 57 14) + 1)) (hr := hr) h
        · replace h := kbG_f hc h
          refine r_iconst 3 dX12_stepOn_204 (by decide) ?_
          refine r_goto 209 dX12_stepOn_205 (by decide) ?_
          refine r_le [some (.ref 57), none] ⟨rfl, trivial⟩ ?_
          exact jnR_MD_stepOn_209 n 3 (kbW (kbW x3 57 18 (x3.1 57 14)) 57 14 (((kbW x3 57 18 (x3.1 57 14)).1 57 14) + 1)) (hr := hr) h
      · replace h := kbG_f hc h
        refine r_aload_n dX12_stepOn_118 rfl ?_
        refine r_iconst 0 dX12_stepOn_119 (by decide) ?_
        refine r_put flX12_196 sh57 rfl rfl rfl dX12_stepOn_120 ?_
        refine r_le [some (.ref 57), none] ⟨rfl, trivial⟩ ?_
        obtain ⟨x11, hx0, h⟩ := kbG_bind h
        refine lpR_MD_stepOn_123 n (P := fun z => x11 = z) (hx := fun z e => ?_) n _ ⟨_, hx0, rfl⟩
        subst e
        refine r_aload_n dX12_stepOn_178 rfl ?_
        refine r_iconst 2 dX12_stepOn_179 (by decide) ?_
        refine r_put flX12_186 sh57 rfl rfl rfl dX12_stepOn_180 ?_
        refine r_goto 212 dX12_stepOn_183 (by decide) ?_
        refine r_le [some (.ref 57), none] ⟨rfl, trivial⟩ ?_
        exact jnR_MD_stepOn_212 n  (kbW x11 57 16 2) (hr := hr) h
    · replace h := kbG_f hc h
      refine r_le [some (.ref 57), none] ⟨rfl, trivial⟩ ?_
      obtain ⟨x14, hx0, h⟩ := kbG_bind h
      refine lpR_MD_stepOn_76 n (P := fun z => x14 = z) (hx := fun z e => ?_) n _ ⟨_, hx0, rfl⟩
      subst e
      refine r_aload_n dX12_stepOn_103 rfl ?_
      refine r_iconst 1 dX12_stepOn_104 (by decide) ?_
      refine r_put flX12_186 sh57 rfl rfl rfl dX12_stepOn_105 ?_
      refine r_goto 212 dX12_stepOn_108 (by decide) ?_
      refine r_le [some (.ref 57), none] ⟨rfl, trivial⟩ ?_
      exact jnR_MD_stepOn_212 n  (kbW x14 57 16 1) (hr := hr) h
  · replace h := kbG_t hc h
    refine r_aload_n dX12_stepOn_61 rfl ?_
    refine r_iconst 0 dX12_stepOn_62 (by decide) ?_
    refine r_put flX12_186 sh57 rfl rfl rfl dX12_stepOn_63 ?_
    refine r_goto 212 dX12_stepOn_66 (by decide) ?_
    refine r_le [some (.ref 57), none] ⟨rfl, trivial⟩ ?_
    exact jnR_MD_stepOn_212 n  (kbW (kbW x3 57 18 (x3.1 57 14)) 57 16 0) (hr := hr) h
def jn_MD_is_75 (n : Nat) (sid : Nat) (rec : Int32 → Int32 → Option (Int32)) (v3 : Int32) (w0 : Int32) (μ : kbM) : Option (Int32) :=
  rec w0 (v3 + 1)
theorem jnR_MD_is_75 {l : Launch} (n : Nat) (sid : Nat) (hid : sid < kbTx.length) (v3 : Int32) (w0 : Int32) (μ : kbM) {Q : kbQt} {P : Int32 → Prop} (hx : ∀ z : Int32, P (z) → kbR l MX12_is 5 Q 82 [none, none, some (.int z), none] [] μ) {rec : Int32 → Int32 → Option (Int32)} (hrec : ∀ (v2 : Int32) (v3 : Int32), kbG (rec v2 v3) P → kbR l MX12_is 5 Q 39 [some (.ref 57), some (.ref (1000 + sid)), some (.int v2), some (.int v3)] [] μ) (h : kbG (jn_MD_is_75 n sid rec v3 w0 μ) P) : kbR l MX12_is 5 Q 75 [some (.ref 57), some (.ref (1000 + sid)), none, some (.int v3)] [.int w0] μ := by
  unfold jn_MD_is_75 at h
  refine r_istore_n dX12_is_75 (Nat.le_of_ble_eq_true rfl) rfl ?_
  refine r_iinc 1 dX12_is_76 rfl (by decide) (Nat.le_of_ble_eq_true rfl) rfl ?_
  refine r_goto 39 dX12_is_79 (by decide) ?_
  refine r_le [some (.ref 57), some (.ref (1000 + sid)), some (.int w0), some (.int (v3 + 1))] ⟨rfl, ⟨rfl, ⟨rfl, ⟨rfl, trivial⟩⟩⟩⟩ ?_
  exact hrec w0 (v3 + 1) h
def lp_MD_is_39 (n : Nat) (sid : Nat) (μ : kbM) : Nat → Int32 → Int32 → Option (Int32)
  | 0, _, _ => none
  | k + 1, v2, v3 =>
    if v2 = 0 then
      some v2
    else
      if (kbSlen sid) ≤ v3 then
        some v2
      else
        kbIf (kbIn v3 (kbTx.getD sid []).length) <|
        kbIf (kbIn ((μ.1 57 18) + v3) 600) <|
        if (kbSchar sid v3) = (μ.1 69 (((μ.1 57 18) + v3).toNatClampNeg)) then
          jn_MD_is_75 n sid (lp_MD_is_39 n sid μ k) v3 1 μ
        else
          jn_MD_is_75 n sid (lp_MD_is_39 n sid μ k) v3 0 μ
theorem lpR_MD_is_39 {l : Launch} (n : Nat) (sid : Nat) (μ : kbM) (hid : sid < kbTx.length) {Q : kbQt} {P : Int32 → Prop} (hx : ∀ z : Int32, P (z) → kbR l MX12_is 5 Q 82 [none, none, some (.int z), none] [] μ) : ∀ (k : Nat) (v2 : Int32) (v3 : Int32), kbG (lp_MD_is_39 n sid μ k v2 v3) P → kbR l MX12_is 5 Q 39 [some (.ref 57), some (.ref (1000 + sid)), some (.int v2), some (.int v3)] [] μ := by
  intro k
  induction k with
  | zero => intro v2 v3 h; exact absurd h kbG_none
  | succ k ih =>
    intro v2 v3 h
    unfold lp_MD_is_39 at h
    refine r_iload_n dX12_is_39 rfl ?_
    refine r_if_eq 82 dX12_is_40 (by decide) (fun hc => ?_) (fun hc => ?_)
    · replace h := kbG_t hc h
      refine r_le [none, none, some (.int v2), none] ⟨rfl, trivial⟩ ?_
      exact hx v2 (kbG_some h)
    · replace h := kbG_f hc h
      refine r_iload_n dX12_is_43 rfl ?_
      refine r_aload_n dX12_is_44 rfl ?_
      refine r_invS_i cvX12_218 hid rfl (sp_slen sid hid _) rfl rfl (Nat.le_of_ble_eq_true rfl) (Nat.le_of_ble_eq_true rfl) dX12_is_45 ?_
      refine r_icmp_ge 82 dX12_is_48 (by decide) (fun hc => ?_) (fun hc => ?_)
      · replace h := kbG_t hc h
        refine r_le [none, none, some (.int v2), none] ⟨rfl, trivial⟩ ?_
        exact hx v2 (kbG_some h)
      · replace h := kbG_f hc h
        refine r_aload_n dX12_is_51 rfl ?_
        refine r_iload_n dX12_is_52 rfl ?_
        obtain ⟨hin, h⟩ := kbG_if h
        replace hin := kbIn_of hin
        refine r_invS_i cvX12_222 hid rfl (sp_schar sid hid v3 hin _) rfl rfl (Nat.le_of_ble_eq_true rfl) (Nat.le_of_ble_eq_true rfl) dX12_is_53 ?_
        refine r_aload_n dX12_is_56 rfl ?_
        refine r_getR flX12_72 sh57 rfl dX12_is_57 ?_
        refine r_aload_n dX12_is_60 rfl ?_
        refine r_getI flX12_183 sh57 rfl dX12_is_61 ?_
        refine r_iload_n dX12_is_64 rfl ?_
        refine r_iadd dX12_is_65 ?_
        obtain ⟨hin, h⟩ := kbG_if h
        replace hin := kbIn_of hin
        refine q_iald (((μ.1 57 18) + v3).toNatClampNeg) rfl sh69 hin dX12_is_66 ?_
        refine r_icmp_ne 74 dX12_is_67 (by decide) (fun hc => ?_) (fun hc => ?_)
        · replace h := kbG_f hc h
          refine r_iconst 0 dX12_is_74 (by decide) ?_
          refine r_le [some (.ref 57), some (.ref (1000 + sid)), none, some (.int v3)] ⟨rfl, ⟨rfl, ⟨rfl, trivial⟩⟩⟩ ?_
          exact jnR_MD_is_75 n sid hid v3 0 μ (hx := hx) (hrec := ih) h
        · replace h := kbG_t hc h
          refine r_iconst 1 dX12_is_70 (by decide) ?_
          refine r_goto 75 dX12_is_71 (by decide) ?_
          refine r_le [some (.ref 57), some (.ref (1000 + sid)), none, some (.int v3)] ⟨rfl, ⟨rfl, ⟨rfl, trivial⟩⟩⟩ ?_
          exact jnR_MD_is_75 n sid hid v3 1 μ (hx := hx) (hrec := ih) h
def jn_MD_is_82 (n : Nat) (sid : Nat) (v2 : Int32) (μ : kbM) : Option (Int32) :=
  kbIf (decide (v2 = 0 ∨ v2 = 1)) <|
  some v2
theorem jnR_MD_is_82 {l : Launch} (n : Nat) (sid : Nat) (hid : sid < kbTx.length) (v2 : Int32) (μ : kbM) {Q : kbQt} {P : Int32 → Prop} (hr : ∀ z : Int32, P z → Q (some (.int z)) μ) (h : kbG (jn_MD_is_82 n sid v2 μ) P) : kbR l MX12_is 5 Q 82 [none, none, some (.int v2), none] [] μ := by
  unfold jn_MD_is_82 at h
  refine r_iload_n dX12_is_82 rfl ?_
  obtain ⟨hz, h⟩ := kbG_if h
  exact r_zret rfl (kb_z01 (of_decide_eq_true hz)) dX12_is_83 (hr v2 (kbG_some h))
def jn_MD_is_36 (n : Nat) (sid : Nat) (w0 : Int32) (μ : kbM) : Option (Int32) :=
  (lp_MD_is_39 n sid μ n w0 0).bind fun x1 =>
  jn_MD_is_82 n sid x1 μ
theorem jnR_MD_is_36 {l : Launch} (n : Nat) (sid : Nat) (hid : sid < kbTx.length) (w0 : Int32) (μ : kbM) {Q : kbQt} {P : Int32 → Prop} (hr : ∀ z : Int32, P z → Q (some (.int z)) μ) (h : kbG (jn_MD_is_36 n sid w0 μ) P) : kbR l MX12_is 5 Q 36 [some (.ref 57), some (.ref (1000 + sid)), none, none] [.int w0] μ := by
  unfold jn_MD_is_36 at h
  refine r_istore_n dX12_is_36 (Nat.le_of_ble_eq_true rfl) rfl ?_
  refine r_iconst 0 dX12_is_37 (by decide) ?_
  refine r_istore_n dX12_is_38 (Nat.le_of_ble_eq_true rfl) rfl ?_
  refine r_le [some (.ref 57), some (.ref (1000 + sid)), some (.int w0), some (.int 0)] ⟨rfl, ⟨rfl, ⟨rfl, ⟨rfl, trivial⟩⟩⟩⟩ ?_
  obtain ⟨x1, hx0, h⟩ := kbG_bind h
  refine lpR_MD_is_39 n sid μ hid (P := fun z => x1 = z) (hx := fun z e => ?_) n _ _ ⟨_, hx0, rfl⟩
  subst e
  refine r_le [none, none, some (.int x1), none] ⟨rfl, trivial⟩ ?_
  exact jnR_MD_is_82 n sid hid x1 μ (hr := hr) h
def jn_MD_is_35 (n : Nat) (sid : Nat) (μ : kbM) : Option (Int32) :=
  jn_MD_is_36 n sid 0 μ
theorem jnR_MD_is_35 {l : Launch} (n : Nat) (sid : Nat) (hid : sid < kbTx.length)  (μ : kbM) {Q : kbQt} {P : Int32 → Prop} (hr : ∀ z : Int32, P z → Q (some (.int z)) μ) (h : kbG (jn_MD_is_35 n sid μ) P) : kbR l MX12_is 5 Q 35 [some (.ref 57), some (.ref (1000 + sid)), none, none] [] μ := by
  unfold jn_MD_is_35 at h
  refine r_iconst 0 dX12_is_35 (by decide) ?_
  refine r_le [some (.ref 57), some (.ref (1000 + sid)), none, none] ⟨rfl, ⟨rfl, trivial⟩⟩ ?_
  exact jnR_MD_is_36 n sid hid 0 μ (hr := hr) h
def f_MD_is (n : Nat) (sid : Nat) (μ : kbM) : Option (Int32) :=
  if (μ.1 57 20) = 0 then
    if (μ.1 57 16) = 1 then
      if (kbSlen sid) = ((μ.1 57 19) - (μ.1 57 18)) then
        jn_MD_is_36 n sid 1 μ
      else
        jn_MD_is_35 n sid μ
    else
      jn_MD_is_35 n sid μ
  else
    jn_MD_is_35 n sid μ
theorem sp_MD_is {l : Launch} (n : Nat) (sid : Nat) (μ : kbM) (hid : sid < kbTx.length) {x : Int32} (h : f_MD_is n sid μ = some x) : kbS l MX12_is 5 [.ref 57, .ref (1000 + sid)] μ (kbQe (some (.int x)) μ) := by
  refine kb_enter 2 rfl rfl ?_
  suffices H : ∀ (Q : kbQt) (P : Int32 → Prop), (∀ z : Int32, P z → Q (some (.int z)) μ) → kbG (f_MD_is n sid μ) P → kbR l MX12_is 5 Q 0 [some (.ref 57), some (.ref (1000 + sid)), none, none] [] μ from H _ (fun z => z = x) (fun z e => by subst e; exact ⟨rfl, rfl⟩) ⟨x, h, rfl⟩
  clear h
  intro Q P hr h
  unfold f_MD_is at h
  refine r_aload_n dX12_is_0 rfl ?_
  refine r_getI flX12_212 sh57 rfl dX12_is_1 ?_
  refine r_if_ne 35 dX12_is_4 (by decide) (fun hc => ?_) (fun hc => ?_)
  · replace h := kbG_f hc h
    refine r_le [some (.ref 57), some (.ref (1000 + sid)), none, none] ⟨rfl, ⟨rfl, trivial⟩⟩ ?_
    exact jnR_MD_is_35 n sid hid  μ (hr := hr) h
  · replace h := kbG_t hc h
    refine r_aload_n dX12_is_7 rfl ?_
    refine r_getI flX12_186 sh57 rfl dX12_is_8 ?_
    refine r_iconst 1 dX12_is_11 (by decide) ?_
    refine r_icmp_ne 35 dX12_is_12 (by decide) (fun hc => ?_) (fun hc => ?_)
    · replace h := kbG_f hc h
      refine r_le [some (.ref 57), some (.ref (1000 + sid)), none, none] ⟨rfl, ⟨rfl, trivial⟩⟩ ?_
      exact jnR_MD_is_35 n sid hid  μ (hr := hr) h
    · replace h := kbG_t hc h
      refine r_aload_n dX12_is_15 rfl ?_
      refine r_invS_i cvX12_218 hid rfl (sp_slen sid hid _) rfl rfl (Nat.le_of_ble_eq_true rfl) (Nat.le_of_ble_eq_true rfl) dX12_is_16 ?_
      refine r_aload_n dX12_is_19 rfl ?_
      refine r_getI flX12_209 sh57 rfl dX12_is_20 ?_
      refine r_aload_n dX12_is_23 rfl ?_
      refine r_getI flX12_183 sh57 rfl dX12_is_24 ?_
      refine r_isub dX12_is_27 ?_
      refine r_icmp_ne 35 dX12_is_28 (by decide) (fun hc => ?_) (fun hc => ?_)
      · replace h := kbG_f hc h
        refine r_le [some (.ref 57), some (.ref (1000 + sid)), none, none] ⟨rfl, ⟨rfl, trivial⟩⟩ ?_
        exact jnR_MD_is_35 n sid hid  μ (hr := hr) h
      · replace h := kbG_t hc h
        refine r_iconst 1 dX12_is_31 (by decide) ?_
        refine r_goto 36 dX12_is_32 (by decide) ?_
        refine r_le [some (.ref 57), some (.ref (1000 + sid)), none, none] ⟨rfl, ⟨rfl, trivial⟩⟩ ?_
        exact jnR_MD_is_36 n sid hid 1 μ (hr := hr) h
def lp_MD_wordOf_58_2 (n : Nat) (μ : kbM) : Nat → Int32 → Option ((Int32) ⊕ (Unit))
  | 0, _ => none
  | k + 1, v2 =>
    if 3 ≤ v2 then
      some (.inr (()))
    else
      kbIf (kbIn v2 3) <|
      (f_MD_is n ((0 + v2.toNatClampNeg)) μ).bind fun x1 =>
      if x1 = 0 then
        lp_MD_wordOf_58_2 n μ k (v2 + 1)
      else
        some (.inl v2)
theorem lpR_MD_wordOf_58_2 {l : Launch} (n : Nat) (μ : kbM)  {Q : kbQt} {P : (Int32) ⊕ (Unit) → Prop} (hr : ∀ z : Int32, P (.inl z) → Q (some (.int z)) μ) (hx : ∀ z : Unit, P (.inr z) → kbR l MX12_wordOf 6 Q 26 [none, none, none] [] μ) : ∀ (k : Nat) (v2 : Int32), kbG (lp_MD_wordOf_58_2 n μ k v2) P → kbR l MX12_wordOf 6 Q 2 [some (.ref 57), some (.ref 58), some (.int v2)] [] μ := by
  intro k
  induction k with
  | zero => intro v2 h; exact absurd h kbG_none
  | succ k ih =>
    intro v2 h
    unfold lp_MD_wordOf_58_2 at h
    refine r_iload_n dX12_wordOf_2 rfl ?_
    refine r_aload_n dX12_wordOf_3 rfl ?_
    refine r_alen 3 sh58 (by decide) (by decide) dX12_wordOf_4 ?_
    refine r_icmp_ge 26 dX12_wordOf_5 (by decide) (fun hc => ?_) (fun hc => ?_)
    · replace h := kbG_t hc h
      refine r_le [none, none, none] trivial ?_
      exact hx (()) (kbG_some h)
    · replace h := kbG_f hc h
      refine r_aload_n dX12_wordOf_8 rfl ?_
      refine r_aload_n dX12_wordOf_9 rfl ?_
      refine r_iload_n dX12_wordOf_10 rfl ?_
      obtain ⟨hin, h⟩ := kbG_if h
      replace hin := kbIn_of hin
      refine r_aald sh58 hin (rs58 _ hin) dX12_wordOf_11 ?_
      obtain ⟨x1, hx0, h⟩ := kbG_bind h
      refine r_invV_i cvX12_226 sh57 rfl (sp_MD_is n ((0 + v2.toNatClampNeg)) μ (rh58 _ hin) hx0) rfl rfl (Nat.le_of_ble_eq_true rfl) (Nat.le_of_ble_eq_true rfl) dX12_wordOf_12 ?_
      refine r_if_eq 20 dX12_wordOf_15 (by decide) (fun hc => ?_) (fun hc => ?_)
      · replace h := kbG_t hc h
        refine r_iinc 1 dX12_wordOf_20 rfl (by decide) (Nat.le_of_ble_eq_true rfl) rfl ?_
        refine r_goto 2 dX12_wordOf_23 (by decide) ?_
        refine r_le [some (.ref 57), some (.ref 58), some (.int (v2 + 1))] ⟨rfl, ⟨rfl, ⟨rfl, trivial⟩⟩⟩ ?_
        exact ih (v2 + 1) h
      · replace h := kbG_f hc h
        refine r_iload_n dX12_wordOf_18 rfl ?_
        exact r_iret rfl dX12_wordOf_19 (hr v2 (kbG_some h))
def f_MD_wordOf_58 (n : Nat) (μ : kbM) : Option (Int32) :=
  kbOr (lp_MD_wordOf_58_2 n μ n 0) (fun r3 => some r3) fun x2 =>
  some (-1)
theorem sp_MD_wordOf_58 {l : Launch} (n : Nat) (μ : kbM)  {x : Int32} (h : f_MD_wordOf_58 n μ = some x) : kbS l MX12_wordOf 6 [.ref 57, .ref 58] μ (kbQe (some (.int x)) μ) := by
  refine kb_enter 1 rfl rfl ?_
  suffices H : ∀ (Q : kbQt) (P : Int32 → Prop), (∀ z : Int32, P z → Q (some (.int z)) μ) → kbG (f_MD_wordOf_58 n μ) P → kbR l MX12_wordOf 6 Q 0 [some (.ref 57), some (.ref 58), none] [] μ from H _ (fun z => z = x) (fun z e => by subst e; exact ⟨rfl, rfl⟩) ⟨x, h, rfl⟩
  clear h
  intro Q P hr h
  unfold f_MD_wordOf_58 at h
  refine r_iconst 0 dX12_wordOf_0 (by decide) ?_
  refine r_istore_n dX12_wordOf_1 (Nat.le_of_ble_eq_true rfl) rfl ?_
  refine r_le [some (.ref 57), some (.ref 58), some (.int 0)] ⟨rfl, ⟨rfl, ⟨rfl, trivial⟩⟩⟩ ?_
  rcases kbG_or h with ⟨r3, hx0, h⟩ | ⟨x2, hx0, h⟩
  · exact lpR_MD_wordOf_58_2 n μ (P := fun z => .inl r3 = z) (hr := fun z e => by cases e; exact hr _ (kbG_some h)) (hx := fun z e => by cases e) n _ ⟨_, hx0, rfl⟩
  · refine lpR_MD_wordOf_58_2 n μ (P := fun z => .inr x2 = z) (hr := fun z e => by cases e) (hx := fun z e => ?_) n _ ⟨_, hx0, rfl⟩
    cases e
    refine r_iconst (-1) dX12_wordOf_26 (by decide) ?_
    exact r_iret rfl dX12_wordOf_27 (hr (-1) (kbG_some h))
def lp_MD_wordOf_59_2 (n : Nat) (μ : kbM) : Nat → Int32 → Option ((Int32) ⊕ (Unit))
  | 0, _ => none
  | k + 1, v2 =>
    if 4 ≤ v2 then
      some (.inr (()))
    else
      kbIf (kbIn v2 4) <|
      (f_MD_is n ((3 + v2.toNatClampNeg)) μ).bind fun x1 =>
      if x1 = 0 then
        lp_MD_wordOf_59_2 n μ k (v2 + 1)
      else
        some (.inl v2)
theorem lpR_MD_wordOf_59_2 {l : Launch} (n : Nat) (μ : kbM)  {Q : kbQt} {P : (Int32) ⊕ (Unit) → Prop} (hr : ∀ z : Int32, P (.inl z) → Q (some (.int z)) μ) (hx : ∀ z : Unit, P (.inr z) → kbR l MX12_wordOf 6 Q 26 [none, none, none] [] μ) : ∀ (k : Nat) (v2 : Int32), kbG (lp_MD_wordOf_59_2 n μ k v2) P → kbR l MX12_wordOf 6 Q 2 [some (.ref 57), some (.ref 59), some (.int v2)] [] μ := by
  intro k
  induction k with
  | zero => intro v2 h; exact absurd h kbG_none
  | succ k ih =>
    intro v2 h
    unfold lp_MD_wordOf_59_2 at h
    refine r_iload_n dX12_wordOf_2 rfl ?_
    refine r_aload_n dX12_wordOf_3 rfl ?_
    refine r_alen 4 sh59 (by decide) (by decide) dX12_wordOf_4 ?_
    refine r_icmp_ge 26 dX12_wordOf_5 (by decide) (fun hc => ?_) (fun hc => ?_)
    · replace h := kbG_t hc h
      refine r_le [none, none, none] trivial ?_
      exact hx (()) (kbG_some h)
    · replace h := kbG_f hc h
      refine r_aload_n dX12_wordOf_8 rfl ?_
      refine r_aload_n dX12_wordOf_9 rfl ?_
      refine r_iload_n dX12_wordOf_10 rfl ?_
      obtain ⟨hin, h⟩ := kbG_if h
      replace hin := kbIn_of hin
      refine r_aald sh59 hin (rs59 _ hin) dX12_wordOf_11 ?_
      obtain ⟨x1, hx0, h⟩ := kbG_bind h
      refine r_invV_i cvX12_226 sh57 rfl (sp_MD_is n ((3 + v2.toNatClampNeg)) μ (rh59 _ hin) hx0) rfl rfl (Nat.le_of_ble_eq_true rfl) (Nat.le_of_ble_eq_true rfl) dX12_wordOf_12 ?_
      refine r_if_eq 20 dX12_wordOf_15 (by decide) (fun hc => ?_) (fun hc => ?_)
      · replace h := kbG_t hc h
        refine r_iinc 1 dX12_wordOf_20 rfl (by decide) (Nat.le_of_ble_eq_true rfl) rfl ?_
        refine r_goto 2 dX12_wordOf_23 (by decide) ?_
        refine r_le [some (.ref 57), some (.ref 59), some (.int (v2 + 1))] ⟨rfl, ⟨rfl, ⟨rfl, trivial⟩⟩⟩ ?_
        exact ih (v2 + 1) h
      · replace h := kbG_f hc h
        refine r_iload_n dX12_wordOf_18 rfl ?_
        exact r_iret rfl dX12_wordOf_19 (hr v2 (kbG_some h))
def f_MD_wordOf_59 (n : Nat) (μ : kbM) : Option (Int32) :=
  kbOr (lp_MD_wordOf_59_2 n μ n 0) (fun r3 => some r3) fun x2 =>
  some (-1)
theorem sp_MD_wordOf_59 {l : Launch} (n : Nat) (μ : kbM)  {x : Int32} (h : f_MD_wordOf_59 n μ = some x) : kbS l MX12_wordOf 6 [.ref 57, .ref 59] μ (kbQe (some (.int x)) μ) := by
  refine kb_enter 1 rfl rfl ?_
  suffices H : ∀ (Q : kbQt) (P : Int32 → Prop), (∀ z : Int32, P z → Q (some (.int z)) μ) → kbG (f_MD_wordOf_59 n μ) P → kbR l MX12_wordOf 6 Q 0 [some (.ref 57), some (.ref 59), none] [] μ from H _ (fun z => z = x) (fun z e => by subst e; exact ⟨rfl, rfl⟩) ⟨x, h, rfl⟩
  clear h
  intro Q P hr h
  unfold f_MD_wordOf_59 at h
  refine r_iconst 0 dX12_wordOf_0 (by decide) ?_
  refine r_istore_n dX12_wordOf_1 (Nat.le_of_ble_eq_true rfl) rfl ?_
  refine r_le [some (.ref 57), some (.ref 59), some (.int 0)] ⟨rfl, ⟨rfl, ⟨rfl, trivial⟩⟩⟩ ?_
  rcases kbG_or h with ⟨r3, hx0, h⟩ | ⟨x2, hx0, h⟩
  · exact lpR_MD_wordOf_59_2 n μ (P := fun z => .inl r3 = z) (hr := fun z e => by cases e; exact hr _ (kbG_some h)) (hx := fun z e => by cases e) n _ ⟨_, hx0, rfl⟩
  · refine lpR_MD_wordOf_59_2 n μ (P := fun z => .inr x2 = z) (hr := fun z e => by cases e) (hx := fun z e => ?_) n _ ⟨_, hx0, rfl⟩
    cases e
    refine r_iconst (-1) dX12_wordOf_26 (by decide) ?_
    exact r_iret rfl dX12_wordOf_27 (hr (-1) (kbG_some h))
def f_MD_wrong (a1 : Int32) (μ : kbM) : Option (kbM) :=
  if (μ.1 57 20) = 0 then
    some (kbW (kbW μ 57 20 a1) 57 21 ((kbW μ 57 20 a1).1 57 18))
  else
    some μ
theorem sp_MD_wrong {l : Launch} (a1 : Int32) (μ : kbM)  {x : kbM} (h : f_MD_wrong a1 μ = some x) : kbS l MX12_wrong 1 [.ref 57, .int a1] μ (kbQe none x) := by
  refine kb_enter 0 rfl rfl ?_
  suffices H : ∀ (Q : kbQt) (P : kbM → Prop), (∀ z : kbM, P z → Q none z) → kbG (f_MD_wrong a1 μ) P → kbR l MX12_wrong 1 Q 0 [some (.ref 57), some (.int a1)] [] μ from H _ (fun z => z = x) (fun z e => by subst e; exact ⟨rfl, rfl⟩) ⟨x, h, rfl⟩
  clear h
  intro Q P hr h
  unfold f_MD_wrong at h
  refine r_aload_n dX12_wrong_0 rfl ?_
  refine r_getI flX12_212 sh57 rfl dX12_wrong_1 ?_
  refine r_if_eq 8 dX12_wrong_4 (by decide) (fun hc => ?_) (fun hc => ?_)
  · replace h := kbG_t hc h
    refine r_aload_n dX12_wrong_8 rfl ?_
    refine r_iload_n dX12_wrong_9 rfl ?_
    refine r_put flX12_212 sh57 rfl rfl rfl dX12_wrong_10 ?_
    refine r_aload_n dX12_wrong_13 rfl ?_
    refine r_aload_n dX12_wrong_14 rfl ?_
    refine r_getI flX12_183 sh57 rfl dX12_wrong_15 ?_
    refine r_put flX12_215 sh57 rfl rfl rfl dX12_wrong_18 ?_
    exact r_vret rfl dX12_wrong_21 (hr (kbW (kbW μ 57 20 a1) 57 21 ((kbW μ 57 20 a1).1 57 18)) (kbG_some h))
  · replace h := kbG_f hc h
    exact r_vret rfl dX12_wrong_7 (hr μ (kbG_some h))
def jn_MD_isMarked_33 (w0 : Int32) (μ : kbM) : Option (Int32) :=
  kbIf (decide (w0 = 0 ∨ w0 = 1)) <|
  some w0
theorem jnR_MD_isMarked_33 {l : Launch}   (w0 : Int32) (μ : kbM) {Q : kbQt} {P : Int32 → Prop} (hr : ∀ z : Int32, P z → Q (some (.int z)) μ) (h : kbG (jn_MD_isMarked_33 w0 μ) P) : kbR l MX12_isMarked 1 Q 33 [none, none] [.int w0] μ := by
  unfold jn_MD_isMarked_33 at h
  obtain ⟨hz, h⟩ := kbG_if h
  exact r_zret rfl (kb_z01 (of_decide_eq_true hz)) dX12_isMarked_33 (hr w0 (kbG_some h))
def jn_MD_isMarked_32 (μ : kbM) : Option (Int32) :=
  jn_MD_isMarked_33 0 μ
theorem jnR_MD_isMarked_32 {l : Launch}    (μ : kbM) {Q : kbQt} {P : Int32 → Prop} (hr : ∀ z : Int32, P z → Q (some (.int z)) μ) (h : kbG (jn_MD_isMarked_32 μ) P) : kbR l MX12_isMarked 1 Q 32 [none, none] [] μ := by
  unfold jn_MD_isMarked_32 at h
  refine r_iconst 0 dX12_isMarked_32 (by decide) ?_
  refine r_le [none, none] trivial ?_
  exact jnR_MD_isMarked_33 0 μ (hr := hr) h
def f_MD_isMarked (a1 : Int32) (μ : kbM) : Option (Int32) :=
  if (μ.1 57 20) = 0 then
    if (μ.1 57 16) = 3 then
      kbIf (kbIn (μ.1 57 18) 600) <|
      if (μ.1 69 ((μ.1 57 18).toNatClampNeg)) = a1 then
        jn_MD_isMarked_33 1 μ
      else
        jn_MD_isMarked_32 μ
    else
      jn_MD_isMarked_32 μ
  else
    jn_MD_isMarked_32 μ
theorem sp_MD_isMarked {l : Launch} (a1 : Int32) (μ : kbM)  {x : Int32} (h : f_MD_isMarked a1 μ = some x) : kbS l MX12_isMarked 1 [.ref 57, .int a1] μ (kbQe (some (.int x)) μ) := by
  refine kb_enter 0 rfl rfl ?_
  suffices H : ∀ (Q : kbQt) (P : Int32 → Prop), (∀ z : Int32, P z → Q (some (.int z)) μ) → kbG (f_MD_isMarked a1 μ) P → kbR l MX12_isMarked 1 Q 0 [some (.ref 57), some (.int a1)] [] μ from H _ (fun z => z = x) (fun z e => by subst e; exact ⟨rfl, rfl⟩) ⟨x, h, rfl⟩
  clear h
  intro Q P hr h
  unfold f_MD_isMarked at h
  refine r_aload_n dX12_isMarked_0 rfl ?_
  refine r_getI flX12_212 sh57 rfl dX12_isMarked_1 ?_
  refine r_if_ne 32 dX12_isMarked_4 (by decide) (fun hc => ?_) (fun hc => ?_)
  · replace h := kbG_f hc h
    refine r_le [none, none] trivial ?_
    exact jnR_MD_isMarked_32  μ (hr := hr) h
  · replace h := kbG_t hc h
    refine r_aload_n dX12_isMarked_7 rfl ?_
    refine r_getI flX12_186 sh57 rfl dX12_isMarked_8 ?_
    refine r_iconst 3 dX12_isMarked_11 (by decide) ?_
    refine r_icmp_ne 32 dX12_isMarked_12 (by decide) (fun hc => ?_) (fun hc => ?_)
    · replace h := kbG_f hc h
      refine r_le [none, none] trivial ?_
      exact jnR_MD_isMarked_32  μ (hr := hr) h
    · replace h := kbG_t hc h
      refine r_aload_n dX12_isMarked_15 rfl ?_
      refine r_getR flX12_72 sh57 rfl dX12_isMarked_16 ?_
      refine r_aload_n dX12_isMarked_19 rfl ?_
      refine r_getI flX12_183 sh57 rfl dX12_isMarked_20 ?_
      obtain ⟨hin, h⟩ := kbG_if h
      replace hin := kbIn_of hin
      refine q_iald ((μ.1 57 18).toNatClampNeg) rfl sh69 hin dX12_isMarked_23 ?_
      refine r_iload_n dX12_isMarked_24 rfl ?_
      refine r_icmp_ne 32 dX12_isMarked_25 (by decide) (fun hc => ?_) (fun hc => ?_)
      · replace h := kbG_f hc h
        refine r_le [none, none] trivial ?_
        exact jnR_MD_isMarked_32  μ (hr := hr) h
      · replace h := kbG_t hc h
        refine r_iconst 1 dX12_isMarked_28 (by decide) ?_
        refine r_goto 33 dX12_isMarked_29 (by decide) ?_
        refine r_le [none, none] trivial ?_
        exact jnR_MD_isMarked_33 1 μ (hr := hr) h
def jn_MD_mark_31 (n : Nat) (μ : kbM) : Option (kbM) :=
  some μ
theorem jnR_MD_mark_31 {l : Launch} (n : Nat)    (μ : kbM) {Q : kbQt} {P : kbM → Prop} (hr : ∀ z : kbM, P z → Q none z) (h : kbG (jn_MD_mark_31 n μ) P) : kbR l MX12_mark 3 Q 31 [none, none] [] μ := by
  unfold jn_MD_mark_31 at h
  exact r_vret rfl dX12_mark_31 (hr μ (kbG_some h))
def jn_MD_mark_20 (n : Nat) (μ : kbM) : Option (kbM) :=
  if (μ.1 57 20) = 0 then
    (f_MD_stepOn n μ).bind fun x1 =>
    jn_MD_mark_31 n x1
  else
    jn_MD_mark_31 n μ
theorem jnR_MD_mark_20 {l : Launch} (n : Nat)    (μ : kbM) {Q : kbQt} {P : kbM → Prop} (hr : ∀ z : kbM, P z → Q none z) (h : kbG (jn_MD_mark_20 n μ) P) : kbR l MX12_mark 3 Q 20 [some (.ref 57), none] [] μ := by
  unfold jn_MD_mark_20 at h
  refine r_aload_n dX12_mark_20 rfl ?_
  refine r_getI flX12_212 sh57 rfl dX12_mark_21 ?_
  refine r_if_ne 31 dX12_mark_24 (by decide) (fun hc => ?_) (fun hc => ?_)
  · replace h := kbG_f hc h
    refine r_le [none, none] trivial ?_
    exact jnR_MD_mark_31 n  μ (hr := hr) h
  · replace h := kbG_t hc h
    refine r_aload_n dX12_mark_27 rfl ?_
    obtain ⟨x1, hx0, h⟩ := kbG_bind h
    refine r_invV_v cvX12_237 sh57 rfl (sp_MD_stepOn n μ hx0) rfl rfl (Nat.le_of_ble_eq_true rfl) (Nat.le_of_ble_eq_true rfl) dX12_mark_28 ?_
    refine r_le [none, none] trivial ?_
    exact jnR_MD_mark_31 n  x1 (hr := hr) h
def f_MD_mark (n : Nat) (a1 : Int32) (μ : kbM) : Option (kbM) :=
  if (μ.1 57 20) = 0 then
    (f_MD_isMarked a1 μ).bind fun x2 =>
    if x2 = 0 then
      (f_MD_wrong 1 μ).bind fun x3 =>
      jn_MD_mark_20 n x3
    else
      jn_MD_mark_20 n μ
  else
    jn_MD_mark_20 n μ
theorem sp_MD_mark {l : Launch} (n : Nat) (a1 : Int32) (μ : kbM)  {x : kbM} (h : f_MD_mark n a1 μ = some x) : kbS l MX12_mark 3 [.ref 57, .int a1] μ (kbQe none x) := by
  refine kb_enter 0 rfl rfl ?_
  suffices H : ∀ (Q : kbQt) (P : kbM → Prop), (∀ z : kbM, P z → Q none z) → kbG (f_MD_mark n a1 μ) P → kbR l MX12_mark 3 Q 0 [some (.ref 57), some (.int a1)] [] μ from H _ (fun z => z = x) (fun z e => by subst e; exact ⟨rfl, rfl⟩) ⟨x, h, rfl⟩
  clear h
  intro Q P hr h
  unfold f_MD_mark at h
  refine r_aload_n dX12_mark_0 rfl ?_
  refine r_getI flX12_212 sh57 rfl dX12_mark_1 ?_
  refine r_if_ne 20 dX12_mark_4 (by decide) (fun hc => ?_) (fun hc => ?_)
  · replace h := kbG_f hc h
    refine r_le [some (.ref 57), none] ⟨rfl, trivial⟩ ?_
    exact jnR_MD_mark_20 n  μ (hr := hr) h
  · replace h := kbG_t hc h
    refine r_aload_n dX12_mark_7 rfl ?_
    refine r_iload_n dX12_mark_8 rfl ?_
    obtain ⟨x2, hx0, h⟩ := kbG_bind h
    refine r_invV_i cvX12_230 sh57 rfl (sp_MD_isMarked a1 μ hx0) rfl rfl (Nat.le_of_ble_eq_true rfl) (Nat.le_of_ble_eq_true rfl) dX12_mark_9 ?_
    refine r_if_ne 20 dX12_mark_12 (by decide) (fun hc => ?_) (fun hc => ?_)
    · replace h := kbG_f hc h
      refine r_le [some (.ref 57), none] ⟨rfl, trivial⟩ ?_
      exact jnR_MD_mark_20 n  μ (hr := hr) h
    · replace h := kbG_t hc h
      refine r_aload_n dX12_mark_15 rfl ?_
      refine r_iconst 1 dX12_mark_16 (by decide) ?_
      obtain ⟨x3, hx0, h⟩ := kbG_bind h
      refine r_invV_v cvX12_233 sh57 rfl (sp_MD_wrong 1 μ hx0) rfl rfl (Nat.le_of_ble_eq_true rfl) (Nat.le_of_ble_eq_true rfl) dX12_mark_17 ?_
      refine r_le [some (.ref 57), none] ⟨rfl, trivial⟩ ?_
      exact jnR_MD_mark_20 n  x3 (hr := hr) h
def jn_MD_soundOf_41 (w0 : Int32) : Option (Int32) :=
  some w0
theorem jnR_MD_soundOf_41 {l : Launch}   (w0 : Int32) (μ : kbM) {Q : kbQt} {P : Int32 → Prop} (hr : ∀ z : Int32, P z → Q (some (.int z)) μ) (h : kbG (jn_MD_soundOf_41 w0) P) : kbR l MX12_soundOf 1 Q 41 [none] [.int w0] μ := by
  unfold jn_MD_soundOf_41 at h
  exact r_iret rfl dX12_soundOf_41 (hr w0 (kbG_some h))
def f_MD_soundOf (a0 : Int32) : Option (Int32) :=
  if a0 = 107 then
    jn_MD_soundOf_41 1
  else
    if a0 = 112 then
      jn_MD_soundOf_41 2
    else
      if a0 = 114 then
        jn_MD_soundOf_41 3
      else
        if a0 = 115 then
          jn_MD_soundOf_41 4
        else
          jn_MD_soundOf_41 0
theorem sp_MD_soundOf {l : Launch} (a0 : Int32) (μ : kbM)  {x : Int32} (h : f_MD_soundOf a0 = some x) : kbS l MX12_soundOf 1 [.int a0] μ (kbQe (some (.int x)) μ) := by
  refine kb_enter 0 rfl rfl ?_
  suffices H : ∀ (Q : kbQt) (P : Int32 → Prop), (∀ z : Int32, P z → Q (some (.int z)) μ) → kbG (f_MD_soundOf a0) P → kbR l MX12_soundOf 1 Q 0 [some (.int a0)] [] μ from H _ (fun z => z = x) (fun z e => by subst e; exact ⟨rfl, rfl⟩) ⟨x, h, rfl⟩
  clear h
  intro Q P hr h
  unfold f_MD_soundOf at h
  refine r_iload_n dX12_soundOf_0 rfl ?_
  refine r_bipush 107 dX12_soundOf_1 (by decide) ?_
  refine r_icmp_ne 10 dX12_soundOf_3 (by decide) (fun hc => ?_) (fun hc => ?_)
  · replace h := kbG_f hc h
    refine r_iload_n dX12_soundOf_10 rfl ?_
    refine r_bipush 112 dX12_soundOf_11 (by decide) ?_
    refine r_icmp_ne 20 dX12_soundOf_13 (by decide) (fun hc => ?_) (fun hc => ?_)
    · replace h := kbG_f hc h
      refine r_iload_n dX12_soundOf_20 rfl ?_
      refine r_bipush 114 dX12_soundOf_21 (by decide) ?_
      refine r_icmp_ne 30 dX12_soundOf_23 (by decide) (fun hc => ?_) (fun hc => ?_)
      · replace h := kbG_f hc h
        refine r_iload_n dX12_soundOf_30 rfl ?_
        refine r_bipush 115 dX12_soundOf_31 (by decide) ?_
        refine r_icmp_ne 40 dX12_soundOf_33 (by decide) (fun hc => ?_) (fun hc => ?_)
        · replace h := kbG_f hc h
          refine r_iconst 0 dX12_soundOf_40 (by decide) ?_
          refine r_le [none] trivial ?_
          exact jnR_MD_soundOf_41 0 μ (hr := hr) h
        · replace h := kbG_t hc h
          refine r_iconst 4 dX12_soundOf_36 (by decide) ?_
          refine r_goto 41 dX12_soundOf_37 (by decide) ?_
          refine r_le [none] trivial ?_
          exact jnR_MD_soundOf_41 4 μ (hr := hr) h
      · replace h := kbG_t hc h
        refine r_iconst 3 dX12_soundOf_26 (by decide) ?_
        refine r_goto 41 dX12_soundOf_27 (by decide) ?_
        refine r_le [none] trivial ?_
        exact jnR_MD_soundOf_41 3 μ (hr := hr) h
    · replace h := kbG_t hc h
      refine r_iconst 2 dX12_soundOf_16 (by decide) ?_
      refine r_goto 41 dX12_soundOf_17 (by decide) ?_
      refine r_le [none] trivial ?_
      exact jnR_MD_soundOf_41 2 μ (hr := hr) h
  · replace h := kbG_t hc h
    refine r_iconst 1 dX12_soundOf_6 (by decide) ?_
    refine r_goto 41 dX12_soundOf_7 (by decide) ?_
    refine r_le [none] trivial ?_
    exact jnR_MD_soundOf_41 1 μ (hr := hr) h
def jn_MD_areSounds_57 (n : Nat) (rec : Int32 → kbM → Option (kbM)) (v1 : Int32) (μ : kbM) : Option (kbM) :=
  rec (v1 + 1) μ
theorem jnR_MD_areSounds_57 {l : Launch} (n : Nat)   (v1 : Int32) (μ : kbM) {Q : kbQt} {P : kbM → Prop} (hx : ∀ z : kbM, P (z) → kbR l MX12_areSounds 2 Q 63 [some (.ref 57), none] [] z) {rec : Int32 → kbM → Option (kbM)} (hrec : ∀ (v1 : Int32) (μ : kbM), kbG (rec v1 μ) P → kbR l MX12_areSounds 2 Q 25 [some (.ref 57), some (.int v1)] [] μ) (h : kbG (jn_MD_areSounds_57 n rec v1 μ) P) : kbR l MX12_areSounds 2 Q 57 [some (.ref 57), some (.int v1)] [] μ := by
  unfold jn_MD_areSounds_57 at h
  refine r_iinc 1 dX12_areSounds_57 rfl (by decide) (Nat.le_of_ble_eq_true rfl) rfl ?_
  refine r_goto 25 dX12_areSounds_60 (by decide) ?_
  refine r_le [some (.ref 57), some (.int (v1 + 1))] ⟨rfl, ⟨rfl, trivial⟩⟩ ?_
  exact hrec (v1 + 1) μ h
def lp_MD_areSounds_25 (n : Nat) : Nat → Int32 → kbM → Option (kbM)
  | 0, _, _ => none
  | k + 1, v1, μ =>
    if (μ.1 57 20) = 0 then
      if (μ.1 57 19) ≤ v1 then
        some μ
      else
        kbIf (kbIn v1 600) <|
        (f_MD_soundOf (μ.1 69 v1.toNatClampNeg)).bind fun x1 =>
        if x1 = 0 then
          (f_MD_wrong 3 μ).bind fun x2 =>
          jn_MD_areSounds_57 n (lp_MD_areSounds_25 n k) v1 x2
        else
          jn_MD_areSounds_57 n (lp_MD_areSounds_25 n k) v1 μ
    else
      some μ
theorem lpR_MD_areSounds_25 {l : Launch} (n : Nat)   {Q : kbQt} {P : kbM → Prop} (hx : ∀ z : kbM, P (z) → kbR l MX12_areSounds 2 Q 63 [some (.ref 57), none] [] z) : ∀ (k : Nat) (v1 : Int32) (μ : kbM), kbG (lp_MD_areSounds_25 n k v1 μ) P → kbR l MX12_areSounds 2 Q 25 [some (.ref 57), some (.int v1)] [] μ := by
  intro k
  induction k with
  | zero => intro v1 μ h; exact absurd h kbG_none
  | succ k ih =>
    intro v1 μ h
    unfold lp_MD_areSounds_25 at h
    refine r_aload_n dX12_areSounds_25 rfl ?_
    refine r_getI flX12_212 sh57 rfl dX12_areSounds_26 ?_
    refine r_if_ne 63 dX12_areSounds_29 (by decide) (fun hc => ?_) (fun hc => ?_)
    · replace h := kbG_f hc h
      refine r_le [some (.ref 57), none] ⟨rfl, trivial⟩ ?_
      exact hx μ (kbG_some h)
    · replace h := kbG_t hc h
      refine r_iload_n dX12_areSounds_32 rfl ?_
      refine r_aload_n dX12_areSounds_33 rfl ?_
      refine r_getI flX12_209 sh57 rfl dX12_areSounds_34 ?_
      refine r_icmp_ge 63 dX12_areSounds_37 (by decide) (fun hc => ?_) (fun hc => ?_)
      · replace h := kbG_t hc h
        refine r_le [some (.ref 57), none] ⟨rfl, trivial⟩ ?_
        exact hx μ (kbG_some h)
      · replace h := kbG_f hc h
        refine r_aload_n dX12_areSounds_40 rfl ?_
        refine r_getR flX12_72 sh57 rfl dX12_areSounds_41 ?_
        refine r_iload_n dX12_areSounds_44 rfl ?_
        obtain ⟨hin, h⟩ := kbG_if h
        replace hin := kbIn_of hin
        refine q_iald v1.toNatClampNeg rfl sh69 hin dX12_areSounds_45 ?_
        obtain ⟨x1, hx0, h⟩ := kbG_bind h
        refine r_inv_i csX12_277 (sp_MD_soundOf (μ.1 69 v1.toNatClampNeg) μ hx0) rfl rfl (Nat.le_of_ble_eq_true rfl) (Nat.le_of_ble_eq_true rfl) dX12_areSounds_46 ?_
        refine r_if_ne 57 dX12_areSounds_49 (by decide) (fun hc => ?_) (fun hc => ?_)
        · replace h := kbG_f hc h
          refine r_le [some (.ref 57), some (.int v1)] ⟨rfl, ⟨rfl, trivial⟩⟩ ?_
          exact jnR_MD_areSounds_57 n v1 μ (hx := hx) (hrec := ih) h
        · replace h := kbG_t hc h
          refine r_aload_n dX12_areSounds_52 rfl ?_
          refine r_iconst 3 dX12_areSounds_53 (by decide) ?_
          obtain ⟨x2, hx0, h⟩ := kbG_bind h
          refine r_invV_v cvX12_233 sh57 rfl (sp_MD_wrong 3 μ hx0) rfl rfl (Nat.le_of_ble_eq_true rfl) (Nat.le_of_ble_eq_true rfl) dX12_areSounds_54 ?_
          refine r_le [some (.ref 57), some (.int v1)] ⟨rfl, ⟨rfl, trivial⟩⟩ ?_
          exact jnR_MD_areSounds_57 n v1 x2 (hx := hx) (hrec := ih) h
def jn_MD_areSounds_75 (n : Nat) (w0 : Int32) (μ : kbM) : Option (Int32 × kbM) :=
  kbIf (decide (w0 = 0 ∨ w0 = 1)) <|
  some ((w0, μ))
theorem jnR_MD_areSounds_75 {l : Launch} (n : Nat)   (w0 : Int32) (μ : kbM) {Q : kbQt} {P : Int32 × kbM → Prop} (hr : ∀ z : Int32 × kbM, P z → Q (some (.int z.1)) z.2) (h : kbG (jn_MD_areSounds_75 n w0 μ) P) : kbR l MX12_areSounds 2 Q 75 [none, none] [.int w0] μ := by
  unfold jn_MD_areSounds_75 at h
  obtain ⟨hz, h⟩ := kbG_if h
  exact r_zret rfl (kb_z01 (of_decide_eq_true hz)) dX12_areSounds_75 (hr ((w0, μ)) (kbG_some h))
def jn_MD_areSounds_63 (n : Nat) (μ : kbM) : Option (Int32 × kbM) :=
  if (μ.1 57 20) = 0 then
    jn_MD_areSounds_75 n 1 μ
  else
    jn_MD_areSounds_75 n 0 μ
theorem jnR_MD_areSounds_63 {l : Launch} (n : Nat)    (μ : kbM) {Q : kbQt} {P : Int32 × kbM → Prop} (hr : ∀ z : Int32 × kbM, P z → Q (some (.int z.1)) z.2) (h : kbG (jn_MD_areSounds_63 n μ) P) : kbR l MX12_areSounds 2 Q 63 [some (.ref 57), none] [] μ := by
  unfold jn_MD_areSounds_63 at h
  refine r_aload_n dX12_areSounds_63 rfl ?_
  refine r_getI flX12_212 sh57 rfl dX12_areSounds_64 ?_
  refine r_if_ne 74 dX12_areSounds_67 (by decide) (fun hc => ?_) (fun hc => ?_)
  · replace h := kbG_f hc h
    refine r_iconst 0 dX12_areSounds_74 (by decide) ?_
    refine r_le [none, none] trivial ?_
    exact jnR_MD_areSounds_75 n 0 μ (hr := hr) h
  · replace h := kbG_t hc h
    refine r_iconst 1 dX12_areSounds_70 (by decide) ?_
    refine r_goto 75 dX12_areSounds_71 (by decide) ?_
    refine r_le [none, none] trivial ?_
    exact jnR_MD_areSounds_75 n 1 μ (hr := hr) h
def jn_MD_areSounds_20 (n : Nat) (μ : kbM) : Option (Int32 × kbM) :=
  (lp_MD_areSounds_25 n n (μ.1 57 18) μ).bind fun x3 =>
  jn_MD_areSounds_63 n x3
theorem jnR_MD_areSounds_20 {l : Launch} (n : Nat)    (μ : kbM) {Q : kbQt} {P : Int32 × kbM → Prop} (hr : ∀ z : Int32 × kbM, P z → Q (some (.int z.1)) z.2) (h : kbG (jn_MD_areSounds_20 n μ) P) : kbR l MX12_areSounds 2 Q 20 [some (.ref 57), none] [] μ := by
  unfold jn_MD_areSounds_20 at h
  refine r_aload_n dX12_areSounds_20 rfl ?_
  refine r_getI flX12_183 sh57 rfl dX12_areSounds_21 ?_
  refine r_istore_n dX12_areSounds_24 (Nat.le_of_ble_eq_true rfl) rfl ?_
  refine r_le [some (.ref 57), some (.int (μ.1 57 18))] ⟨rfl, ⟨rfl, trivial⟩⟩ ?_
  obtain ⟨x3, hx0, h⟩ := kbG_bind h
  refine lpR_MD_areSounds_25 n (P := fun z => x3 = z) (hx := fun z e => ?_) n _ _ ⟨_, hx0, rfl⟩
  subst e
  refine r_le [some (.ref 57), none] ⟨rfl, trivial⟩ ?_
  exact jnR_MD_areSounds_63 n  x3 (hr := hr) h
def f_MD_areSounds (n : Nat) (μ : kbM) : Option (Int32 × kbM) :=
  if (μ.1 57 20) = 0 then
    if (μ.1 57 16) = 1 then
      jn_MD_areSounds_20 n μ
    else
      (f_MD_wrong 1 μ).bind fun x4 =>
      jn_MD_areSounds_20 n x4
  else
    jn_MD_areSounds_20 n μ
theorem sp_MD_areSounds {l : Launch} (n : Nat) (μ : kbM)  {x : Int32 × kbM} (h : f_MD_areSounds n μ = some x) : kbS l MX12_areSounds 2 [.ref 57] μ (kbQe (some (.int x.1)) x.2) := by
  refine kb_enter 1 rfl rfl ?_
  suffices H : ∀ (Q : kbQt) (P : Int32 × kbM → Prop), (∀ z : Int32 × kbM, P z → Q (some (.int z.1)) z.2) → kbG (f_MD_areSounds n μ) P → kbR l MX12_areSounds 2 Q 0 [some (.ref 57), none] [] μ from H _ (fun z => z = x) (fun z e => by subst e; exact ⟨rfl, rfl⟩) ⟨x, h, rfl⟩
  clear h
  intro Q P hr h
  unfold f_MD_areSounds at h
  refine r_aload_n dX12_areSounds_0 rfl ?_
  refine r_getI flX12_212 sh57 rfl dX12_areSounds_1 ?_
  refine r_if_ne 20 dX12_areSounds_4 (by decide) (fun hc => ?_) (fun hc => ?_)
  · replace h := kbG_f hc h
    refine r_le [some (.ref 57), none] ⟨rfl, trivial⟩ ?_
    exact jnR_MD_areSounds_20 n  μ (hr := hr) h
  · replace h := kbG_t hc h
    refine r_aload_n dX12_areSounds_7 rfl ?_
    refine r_getI flX12_186 sh57 rfl dX12_areSounds_8 ?_
    refine r_iconst 1 dX12_areSounds_11 (by decide) ?_
    refine r_icmp_eq 20 dX12_areSounds_12 (by decide) (fun hc => ?_) (fun hc => ?_)
    · replace h := kbG_t hc h
      refine r_le [some (.ref 57), none] ⟨rfl, trivial⟩ ?_
      exact jnR_MD_areSounds_20 n  μ (hr := hr) h
    · replace h := kbG_f hc h
      refine r_aload_n dX12_areSounds_15 rfl ?_
      refine r_iconst 1 dX12_areSounds_16 (by decide) ?_
      obtain ⟨x4, hx0, h⟩ := kbG_bind h
      refine r_invV_v cvX12_233 sh57 rfl (sp_MD_wrong 1 μ hx0) rfl rfl (Nat.le_of_ble_eq_true rfl) (Nat.le_of_ble_eq_true rfl) dX12_areSounds_17 ?_
      refine r_le [some (.ref 57), none] ⟨rfl, trivial⟩ ?_
      exact jnR_MD_areSounds_20 n  x4 (hr := hr) h
def jn_MD_readDoor_90 (n : Nat) (rec : Int32 → Int32 → kbM → Option (Int32 × kbM)) (v1 : Int32) (v2 : Int32) (v3 : Int32) (v4 : Int32) (v5 : Int32) (μ : kbM) : Option (Int32 × kbM) :=
  rec (v3 ||| v5) (v4 + 1) μ
theorem jnR_MD_readDoor_90 {l : Launch} (n : Nat)   (v1 : Int32) (v2 : Int32) (v3 : Int32) (v4 : Int32) (v5 : Int32) (μ : kbM) {Q : kbQt} {P : Int32 × kbM → Prop} (hx : ∀ z : Int32 × kbM, P (z) → kbR l MX12_readDoor 3 Q 101 [some (.ref 57), some (.int v1), some (.int v2), some (.int z.1), none, none] [] z.2) {rec : Int32 → Int32 → kbM → Option (Int32 × kbM)} (hrec : ∀ (v3 : Int32) (v4 : Int32) (μ : kbM), kbG (rec v3 v4 μ) P → kbR l MX12_readDoor 3 Q 46 [some (.ref 57), some (.int v1), some (.int v2), some (.int v3), some (.int v4), none] [] μ) (h : kbG (jn_MD_readDoor_90 n rec v1 v2 v3 v4 v5 μ) P) : kbR l MX12_readDoor 3 Q 90 [some (.ref 57), some (.int v1), some (.int v2), some (.int v3), some (.int v4), some (.int v5)] [] μ := by
  unfold jn_MD_readDoor_90 at h
  refine r_iload_n dX12_readDoor_90 rfl ?_
  refine r_iload dX12_readDoor_91 rfl ?_
  refine r_ior dX12_readDoor_93 ?_
  refine r_istore_n dX12_readDoor_94 (Nat.le_of_ble_eq_true rfl) rfl ?_
  refine r_iinc 1 dX12_readDoor_95 rfl (by decide) (Nat.le_of_ble_eq_true rfl) rfl ?_
  refine r_goto 46 dX12_readDoor_98 (by decide) ?_
  refine r_le [some (.ref 57), some (.int v1), some (.int v2), some (.int (v3 ||| v5)), some (.int (v4 + 1)), none] ⟨rfl, ⟨rfl, ⟨rfl, ⟨rfl, ⟨rfl, trivial⟩⟩⟩⟩⟩ ?_
  exact hrec (v3 ||| v5) (v4 + 1) μ h
def lp_MD_readDoor_46 (n : Nat) (v1 : Int32) (v2 : Int32) : Nat → Int32 → Int32 → kbM → Option (Int32 × kbM)
  | 0, _, _, _ => none
  | k + 1, v3, v4, μ =>
    if (μ.1 57 20) = 0 then
      if (μ.1 57 19) ≤ v4 then
        some ((v3, μ))
      else
        kbIf (kbIn v4 600) <|
        (f_MD_soundOf (μ.1 69 v4.toNatClampNeg)).bind fun x3 =>
        if (v3 &&& (kbShl 1 (x3 - 1))) = 0 then
          jn_MD_readDoor_90 n (lp_MD_readDoor_46 n v1 v2 k) v1 v2 v3 v4 (kbShl 1 (x3 - 1)) μ
        else
          (f_MD_wrong 4 μ).bind fun x4 =>
          jn_MD_readDoor_90 n (lp_MD_readDoor_46 n v1 v2 k) v1 v2 v3 v4 (kbShl 1 (x3 - 1)) x4
    else
      some ((v3, μ))
theorem lpR_MD_readDoor_46 {l : Launch} (n : Nat) (v1 : Int32) (v2 : Int32)  {Q : kbQt} {P : Int32 × kbM → Prop} (hx : ∀ z : Int32 × kbM, P (z) → kbR l MX12_readDoor 3 Q 101 [some (.ref 57), some (.int v1), some (.int v2), some (.int z.1), none, none] [] z.2) : ∀ (k : Nat) (v3 : Int32) (v4 : Int32) (μ : kbM), kbG (lp_MD_readDoor_46 n v1 v2 k v3 v4 μ) P → kbR l MX12_readDoor 3 Q 46 [some (.ref 57), some (.int v1), some (.int v2), some (.int v3), some (.int v4), none] [] μ := by
  intro k
  induction k with
  | zero => intro v3 v4 μ h; exact absurd h kbG_none
  | succ k ih =>
    intro v3 v4 μ h
    unfold lp_MD_readDoor_46 at h
    refine r_aload_n dX12_readDoor_46 rfl ?_
    refine r_getI flX12_212 sh57 rfl dX12_readDoor_47 ?_
    refine r_if_ne 101 dX12_readDoor_50 (by decide) (fun hc => ?_) (fun hc => ?_)
    · replace h := kbG_f hc h
      refine r_le [some (.ref 57), some (.int v1), some (.int v2), some (.int v3), none, none] ⟨rfl, ⟨rfl, ⟨rfl, ⟨rfl, trivial⟩⟩⟩⟩ ?_
      exact hx ((v3, μ)) (kbG_some h)
    · replace h := kbG_t hc h
      refine r_iload dX12_readDoor_53 rfl ?_
      refine r_aload_n dX12_readDoor_55 rfl ?_
      refine r_getI flX12_209 sh57 rfl dX12_readDoor_56 ?_
      refine r_icmp_ge 101 dX12_readDoor_59 (by decide) (fun hc => ?_) (fun hc => ?_)
      · replace h := kbG_t hc h
        refine r_le [some (.ref 57), some (.int v1), some (.int v2), some (.int v3), none, none] ⟨rfl, ⟨rfl, ⟨rfl, ⟨rfl, trivial⟩⟩⟩⟩ ?_
        exact hx ((v3, μ)) (kbG_some h)
      · replace h := kbG_f hc h
        refine r_iconst 1 dX12_readDoor_62 (by decide) ?_
        refine r_aload_n dX12_readDoor_63 rfl ?_
        refine r_getR flX12_72 sh57 rfl dX12_readDoor_64 ?_
        refine r_iload dX12_readDoor_67 rfl ?_
        obtain ⟨hin, h⟩ := kbG_if h
        replace hin := kbIn_of hin
        refine q_iald v4.toNatClampNeg rfl sh69 hin dX12_readDoor_69 ?_
        obtain ⟨x3, hx0, h⟩ := kbG_bind h
        refine r_inv_i csX12_277 (sp_MD_soundOf (μ.1 69 v4.toNatClampNeg) μ hx0) rfl rfl (Nat.le_of_ble_eq_true rfl) (Nat.le_of_ble_eq_true rfl) dX12_readDoor_70 ?_
        refine r_iconst 1 dX12_readDoor_73 (by decide) ?_
        refine r_isub dX12_readDoor_74 ?_
        refine r_shl dX12_readDoor_75 ?_
        refine r_istore dX12_readDoor_76 (Nat.le_of_ble_eq_true rfl) rfl ?_
        refine r_iload_n dX12_readDoor_78 rfl ?_
        refine r_iload dX12_readDoor_79 rfl ?_
        refine r_iand dX12_readDoor_81 ?_
        refine r_if_eq 90 dX12_readDoor_82 (by decide) (fun hc => ?_) (fun hc => ?_)
        · replace h := kbG_t hc h
          refine r_le [some (.ref 57), some (.int v1), some (.int v2), some (.int v3), some (.int v4), some (.int (kbShl 1 (x3 - 1)))] ⟨rfl, ⟨rfl, ⟨rfl, ⟨rfl, ⟨rfl, ⟨rfl, trivial⟩⟩⟩⟩⟩⟩ ?_
          exact jnR_MD_readDoor_90 n v1 v2 v3 v4 (kbShl 1 (x3 - 1)) μ (hx := hx) (hrec := ih) h
        · replace h := kbG_f hc h
          refine r_aload_n dX12_readDoor_85 rfl ?_
          refine r_iconst 4 dX12_readDoor_86 (by decide) ?_
          obtain ⟨x4, hx0, h⟩ := kbG_bind h
          refine r_invV_v cvX12_233 sh57 rfl (sp_MD_wrong 4 μ hx0) rfl rfl (Nat.le_of_ble_eq_true rfl) (Nat.le_of_ble_eq_true rfl) dX12_readDoor_87 ?_
          refine r_le [some (.ref 57), some (.int v1), some (.int v2), some (.int v3), some (.int v4), some (.int (kbShl 1 (x3 - 1)))] ⟨rfl, ⟨rfl, ⟨rfl, ⟨rfl, ⟨rfl, ⟨rfl, trivial⟩⟩⟩⟩⟩⟩ ?_
          exact jnR_MD_readDoor_90 n v1 v2 v3 v4 (kbShl 1 (x3 - 1)) x4 (hx := hx) (hrec := ih) h
def jn_MD_readDoor_101 (n : Nat) (v1 : Int32) (v2 : Int32) (v3 : Int32) (μ : kbM) : Option (kbM) :=
  if (μ.1 57 20) = 0 then
    (f_MD_stepOn n μ).bind fun x6 =>
    kbIf (kbIn (6 + v2) 12) <|
    kbIf (kbIn (6 + v2) 12) <|
    some (kbW (kbW (kbW x6 65 ((6 + v2).toNatClampNeg) v1) 66 ((6 + v2).toNatClampNeg) v3) 61 4 (((kbW (kbW x6 65 ((6 + v2).toNatClampNeg) v1) 66 ((6 + v2).toNatClampNeg) v3).1 61 4) + 1))
  else
    some μ
theorem jnR_MD_readDoor_101 {l : Launch} (n : Nat)   (v1 : Int32) (v2 : Int32) (v3 : Int32) (μ : kbM) {Q : kbQt} {P : kbM → Prop} (hr : ∀ z : kbM, P z → Q none z) (h : kbG (jn_MD_readDoor_101 n v1 v2 v3 μ) P) : kbR l MX12_readDoor 3 Q 101 [some (.ref 57), some (.int v1), some (.int v2), some (.int v3), none, none] [] μ := by
  unfold jn_MD_readDoor_101 at h
  refine r_aload_n dX12_readDoor_101 rfl ?_
  refine r_getI flX12_212 sh57 rfl dX12_readDoor_102 ?_
  refine r_if_eq 109 dX12_readDoor_105 (by decide) (fun hc => ?_) (fun hc => ?_)
  · replace h := kbG_t hc h
    refine r_aload_n dX12_readDoor_109 rfl ?_
    obtain ⟨x6, hx0, h⟩ := kbG_bind h
    refine r_invV_v cvX12_237 sh57 rfl (sp_MD_stepOn n μ hx0) rfl rfl (Nat.le_of_ble_eq_true rfl) (Nat.le_of_ble_eq_true rfl) dX12_readDoor_110 ?_
    refine r_aload_n dX12_readDoor_113 rfl ?_
    refine r_getR flX12_60 sh57 rfl dX12_readDoor_114 ?_
    refine r_bipush 6 dX12_readDoor_117 (by decide) ?_
    refine r_iload_n dX12_readDoor_119 rfl ?_
    refine r_iadd dX12_readDoor_120 ?_
    refine r_iload_n dX12_readDoor_121 rfl ?_
    obtain ⟨hin, h⟩ := kbG_if h
    replace hin := kbIn_of hin
    refine q_iast ((6 + v2).toNatClampNeg) rfl sh65 hin dX12_readDoor_122 ?_
    refine r_aload_n dX12_readDoor_123 rfl ?_
    refine r_getR flX12_63 sh57 rfl dX12_readDoor_124 ?_
    refine r_bipush 6 dX12_readDoor_127 (by decide) ?_
    refine r_iload_n dX12_readDoor_129 rfl ?_
    refine r_iadd dX12_readDoor_130 ?_
    refine r_iload_n dX12_readDoor_131 rfl ?_
    obtain ⟨hin, h⟩ := kbG_if h
    replace hin := kbIn_of hin
    refine q_iast ((6 + v2).toNatClampNeg) rfl sh66 hin dX12_readDoor_132 ?_
    refine r_aload_n dX12_readDoor_133 rfl ?_
    refine r_getR flX12_47 sh57 rfl dX12_readDoor_134 ?_
    refine r_iconst 4 dX12_readDoor_137 (by decide) ?_
    refine r_dup2 dX12_readDoor_138 rfl rfl ?_
    have hin : vp_in 4 6 := kbIn_of (by decide)
    refine q_iald 4 (by decide) sh61 hin dX12_readDoor_139 ?_
    refine r_iconst 1 dX12_readDoor_140 (by decide) ?_
    refine r_iadd dX12_readDoor_141 ?_
    have hin : vp_in 4 6 := kbIn_of (by decide)
    refine q_iast 4 (by decide) sh61 hin dX12_readDoor_142 ?_
    exact r_vret rfl dX12_readDoor_143 (hr (kbW (kbW (kbW x6 65 ((6 + v2).toNatClampNeg) v1) 66 ((6 + v2).toNatClampNeg) v3) 61 4 (((kbW (kbW x6 65 ((6 + v2).toNatClampNeg) v1) 66 ((6 + v2).toNatClampNeg) v3).1 61 4) + 1)) (kbG_some h))
  · replace h := kbG_f hc h
    exact r_vret rfl dX12_readDoor_108 (hr μ (kbG_some h))
def jn_MD_readDoor_18 (n : Nat) (v1 : Int32) (v2 : Int32) (μ : kbM) : Option (kbM) :=
  if (μ.1 57 20) = 0 then
    (f_MD_stepOn n μ).bind fun x1 =>
    (f_MD_areSounds n x1).bind fun x2 =>
    if x2.1 = 0 then
      some x2.2
    else
      (lp_MD_readDoor_46 n v1 v2 n 0 (x2.2.1 57 18) x2.2).bind fun x5 =>
      jn_MD_readDoor_101 n v1 v2 x5.1 x5.2
  else
    some μ
theorem jnR_MD_readDoor_18 {l : Launch} (n : Nat)   (v1 : Int32) (v2 : Int32) (μ : kbM) {Q : kbQt} {P : kbM → Prop} (hr : ∀ z : kbM, P z → Q none z) (h : kbG (jn_MD_readDoor_18 n v1 v2 μ) P) : kbR l MX12_readDoor 3 Q 18 [some (.ref 57), some (.int v1), some (.int v2), none, none, none] [] μ := by
  unfold jn_MD_readDoor_18 at h
  refine r_aload_n dX12_readDoor_18 rfl ?_
  refine r_getI flX12_212 sh57 rfl dX12_readDoor_19 ?_
  refine r_if_eq 26 dX12_readDoor_22 (by decide) (fun hc => ?_) (fun hc => ?_)
  · replace h := kbG_t hc h
    refine r_aload_n dX12_readDoor_26 rfl ?_
    obtain ⟨x1, hx0, h⟩ := kbG_bind h
    refine r_invV_v cvX12_237 sh57 rfl (sp_MD_stepOn n μ hx0) rfl rfl (Nat.le_of_ble_eq_true rfl) (Nat.le_of_ble_eq_true rfl) dX12_readDoor_27 ?_
    refine r_aload_n dX12_readDoor_30 rfl ?_
    obtain ⟨x2, hx0, h⟩ := kbG_bind h
    refine r_invV_i cvX12_280 sh57 rfl (sp_MD_areSounds n x1 hx0) rfl rfl (Nat.le_of_ble_eq_true rfl) (Nat.le_of_ble_eq_true rfl) dX12_readDoor_31 ?_
    refine r_if_ne 38 dX12_readDoor_34 (by decide) (fun hc => ?_) (fun hc => ?_)
    · replace h := kbG_f hc h
      refine r_iconst 0 dX12_readDoor_38 (by decide) ?_
      refine r_istore_n dX12_readDoor_39 (Nat.le_of_ble_eq_true rfl) rfl ?_
      refine r_aload_n dX12_readDoor_40 rfl ?_
      refine r_getI flX12_183 sh57 rfl dX12_readDoor_41 ?_
      refine r_istore dX12_readDoor_44 (Nat.le_of_ble_eq_true rfl) rfl ?_
      refine r_le [some (.ref 57), some (.int v1), some (.int v2), some (.int 0), some (.int (x2.2.1 57 18)), none] ⟨rfl, ⟨rfl, ⟨rfl, ⟨rfl, ⟨rfl, trivial⟩⟩⟩⟩⟩ ?_
      obtain ⟨x5, hx0, h⟩ := kbG_bind h
      refine lpR_MD_readDoor_46 n v1 v2 (P := fun z => x5 = z) (hx := fun z e => ?_) n _ _ _ ⟨_, hx0, rfl⟩
      subst e
      refine r_le [some (.ref 57), some (.int v1), some (.int v2), some (.int x5.1), none, none] ⟨rfl, ⟨rfl, ⟨rfl, ⟨rfl, trivial⟩⟩⟩⟩ ?_
      exact jnR_MD_readDoor_101 n v1 v2 x5.1 x5.2 (hr := hr) h
    · replace h := kbG_t hc h
      exact r_vret rfl dX12_readDoor_37 (hr x2.2 (kbG_some h))
  · replace h := kbG_f hc h
    exact r_vret rfl dX12_readDoor_25 (hr μ (kbG_some h))
def f_MD_readDoor (n : Nat) (a1 : Int32) (μ : kbM) : Option (kbM) :=
  if (μ.1 61 4) = 6 then
    (f_MD_wrong 2 μ).bind fun x7 =>
    jn_MD_readDoor_18 n a1 (μ.1 61 4) x7
  else
    jn_MD_readDoor_18 n a1 (μ.1 61 4) μ
theorem sp_MD_readDoor {l : Launch} (n : Nat) (a1 : Int32) (μ : kbM)  {x : kbM} (h : f_MD_readDoor n a1 μ = some x) : kbS l MX12_readDoor 3 [.ref 57, .int a1] μ (kbQe none x) := by
  refine kb_enter 4 rfl rfl ?_
  suffices H : ∀ (Q : kbQt) (P : kbM → Prop), (∀ z : kbM, P z → Q none z) → kbG (f_MD_readDoor n a1 μ) P → kbR l MX12_readDoor 3 Q 0 [some (.ref 57), some (.int a1), none, none, none, none] [] μ from H _ (fun z => z = x) (fun z e => by subst e; exact ⟨rfl, rfl⟩) ⟨x, h, rfl⟩
  clear h
  intro Q P hr h
  unfold f_MD_readDoor at h
  refine r_aload_n dX12_readDoor_0 rfl ?_
  refine r_getR flX12_47 sh57 rfl dX12_readDoor_1 ?_
  refine r_iconst 4 dX12_readDoor_4 (by decide) ?_
  have hin : vp_in 4 6 := kbIn_of (by decide)
  refine q_iald 4 (by decide) sh61 hin dX12_readDoor_5 ?_
  refine r_istore_n dX12_readDoor_6 (Nat.le_of_ble_eq_true rfl) rfl ?_
  refine r_iload_n dX12_readDoor_7 rfl ?_
  refine r_bipush 6 dX12_readDoor_8 (by decide) ?_
  refine r_icmp_ne 18 dX12_readDoor_10 (by decide) (fun hc => ?_) (fun hc => ?_)
  · replace h := kbG_f hc h
    refine r_le [some (.ref 57), some (.int a1), some (.int (μ.1 61 4)), none, none, none] ⟨rfl, ⟨rfl, ⟨rfl, trivial⟩⟩⟩ ?_
    exact jnR_MD_readDoor_18 n a1 (μ.1 61 4) μ (hr := hr) h
  · replace h := kbG_t hc h
    refine r_aload_n dX12_readDoor_13 rfl ?_
    refine r_iconst 2 dX12_readDoor_14 (by decide) ?_
    obtain ⟨x7, hx0, h⟩ := kbG_bind h
    refine r_invV_v cvX12_233 sh57 rfl (sp_MD_wrong 2 μ hx0) rfl rfl (Nat.le_of_ble_eq_true rfl) (Nat.le_of_ble_eq_true rfl) dX12_readDoor_15 ?_
    refine r_le [some (.ref 57), some (.int a1), some (.int (μ.1 61 4)), none, none, none] ⟨rfl, ⟨rfl, ⟨rfl, trivial⟩⟩⟩ ?_
    exact jnR_MD_readDoor_18 n a1 (μ.1 61 4) x7 (hr := hr) h
def jn_MD_readNumber_86 (n : Nat) (v3 : Int32) (μ : kbM) : Option (Int32 × kbM) :=
  some ((v3, μ))
theorem jnR_MD_readNumber_86 {l : Launch} (n : Nat)   (v3 : Int32) (μ : kbM) {Q : kbQt} {P : Int32 × kbM → Prop} (hr : ∀ z : Int32 × kbM, P z → Q (some (.int z.1)) z.2) (h : kbG (jn_MD_readNumber_86 n v3 μ) P) : kbR l MX12_readNumber 3 Q 86 [none, none, none, some (.int v3)] [] μ := by
  unfold jn_MD_readNumber_86 at h
  refine r_iload_n dX12_readNumber_86 rfl ?_
  exact r_iret rfl dX12_readNumber_87 (hr ((v3, μ)) (kbG_some h))
def jn_MD_readNumber_74 (n : Nat) (w0 : Int32) (μ : kbM) : Option (Int32 × kbM) :=
  if (μ.1 57 20) = 0 then
    (f_MD_stepOn n μ).bind fun x2 =>
    jn_MD_readNumber_86 n w0 x2
  else
    jn_MD_readNumber_86 n w0 μ
theorem jnR_MD_readNumber_74 {l : Launch} (n : Nat)   (w0 : Int32) (μ : kbM) {Q : kbQt} {P : Int32 × kbM → Prop} (hr : ∀ z : Int32 × kbM, P z → Q (some (.int z.1)) z.2) (h : kbG (jn_MD_readNumber_74 n w0 μ) P) : kbR l MX12_readNumber 3 Q 74 [some (.ref 57), none, none, none] [.int w0] μ := by
  unfold jn_MD_readNumber_74 at h
  refine r_istore_n dX12_readNumber_74 (Nat.le_of_ble_eq_true rfl) rfl ?_
  refine r_aload_n dX12_readNumber_75 rfl ?_
  refine r_getI flX12_212 sh57 rfl dX12_readNumber_76 ?_
  refine r_if_ne 86 dX12_readNumber_79 (by decide) (fun hc => ?_) (fun hc => ?_)
  · replace h := kbG_f hc h
    refine r_le [none, none, none, some (.int w0)] ⟨rfl, trivial⟩ ?_
    exact jnR_MD_readNumber_86 n w0 μ (hr := hr) h
  · replace h := kbG_t hc h
    refine r_aload_n dX12_readNumber_82 rfl ?_
    obtain ⟨x2, hx0, h⟩ := kbG_bind h
    refine r_invV_v cvX12_237 sh57 rfl (sp_MD_stepOn n μ hx0) rfl rfl (Nat.le_of_ble_eq_true rfl) (Nat.le_of_ble_eq_true rfl) dX12_readNumber_83 ?_
    refine r_le [none, none, none, some (.int w0)] ⟨rfl, trivial⟩ ?_
    exact jnR_MD_readNumber_86 n w0 x2 (hr := hr) h
def jn_MD_readNumber_59 (n : Nat) (μ : kbM) : Option (Int32 × kbM) :=
  if (μ.1 57 20) = 0 then
    jn_MD_readNumber_74 n (μ.1 57 17) μ
  else
    jn_MD_readNumber_74 n 0 μ
theorem jnR_MD_readNumber_59 {l : Launch} (n : Nat)    (μ : kbM) {Q : kbQt} {P : Int32 × kbM → Prop} (hr : ∀ z : Int32 × kbM, P z → Q (some (.int z.1)) z.2) (h : kbG (jn_MD_readNumber_59 n μ) P) : kbR l MX12_readNumber 3 Q 59 [some (.ref 57), none, none, none] [] μ := by
  unfold jn_MD_readNumber_59 at h
  refine r_aload_n dX12_readNumber_59 rfl ?_
  refine r_getI flX12_212 sh57 rfl dX12_readNumber_60 ?_
  refine r_if_ne 73 dX12_readNumber_63 (by decide) (fun hc => ?_) (fun hc => ?_)
  · replace h := kbG_f hc h
    refine r_iconst 0 dX12_readNumber_73 (by decide) ?_
    refine r_le [some (.ref 57), none, none, none] ⟨rfl, trivial⟩ ?_
    exact jnR_MD_readNumber_74 n 0 μ (hr := hr) h
  · replace h := kbG_t hc h
    refine r_aload_n dX12_readNumber_66 rfl ?_
    refine r_getI flX12_196 sh57 rfl dX12_readNumber_67 ?_
    refine r_goto 74 dX12_readNumber_70 (by decide) ?_
    refine r_le [some (.ref 57), none, none, none] ⟨rfl, trivial⟩ ?_
    exact jnR_MD_readNumber_74 n (μ.1 57 17) μ (hr := hr) h
def jn_MD_readNumber_54 (n : Nat) (μ : kbM) : Option (Int32 × kbM) :=
  (f_MD_wrong 2 μ).bind fun x1 =>
  jn_MD_readNumber_59 n x1
theorem jnR_MD_readNumber_54 {l : Launch} (n : Nat)    (μ : kbM) {Q : kbQt} {P : Int32 × kbM → Prop} (hr : ∀ z : Int32 × kbM, P z → Q (some (.int z.1)) z.2) (h : kbG (jn_MD_readNumber_54 n μ) P) : kbR l MX12_readNumber 3 Q 54 [some (.ref 57), none, none, none] [] μ := by
  unfold jn_MD_readNumber_54 at h
  refine r_aload_n dX12_readNumber_54 rfl ?_
  refine r_iconst 2 dX12_readNumber_55 (by decide) ?_
  obtain ⟨x1, hx0, h⟩ := kbG_bind h
  refine r_invV_v cvX12_233 sh57 rfl (sp_MD_wrong 2 μ hx0) rfl rfl (Nat.le_of_ble_eq_true rfl) (Nat.le_of_ble_eq_true rfl) dX12_readNumber_56 ?_
  refine r_le [some (.ref 57), none, none, none] ⟨rfl, trivial⟩ ?_
  exact jnR_MD_readNumber_59 n  x1 (hr := hr) h
def f_MD_readNumber (n : Nat) (a1 : Int32) (a2 : Int32) (μ : kbM) : Option (Int32 × kbM) :=
  if (μ.1 57 20) = 0 then
    if (μ.1 57 16) = 2 then
      if 4 < ((μ.1 57 19) - (μ.1 57 18)) then
        jn_MD_readNumber_54 n μ
      else
        if (μ.1 57 17) < a1 then
          jn_MD_readNumber_54 n μ
        else
          if (μ.1 57 17) ≤ a2 then
            jn_MD_readNumber_59 n μ
          else
            jn_MD_readNumber_54 n μ
    else
      (f_MD_wrong 1 μ).bind fun x3 =>
      jn_MD_readNumber_59 n x3
  else
    some ((0, μ))
theorem sp_MD_readNumber {l : Launch} (n : Nat) (a1 : Int32) (a2 : Int32) (μ : kbM)  {x : Int32 × kbM} (h : f_MD_readNumber n a1 a2 μ = some x) : kbS l MX12_readNumber 3 [.ref 57, .int a1, .int a2] μ (kbQe (some (.int x.1)) x.2) := by
  refine kb_enter 1 rfl rfl ?_
  suffices H : ∀ (Q : kbQt) (P : Int32 × kbM → Prop), (∀ z : Int32 × kbM, P z → Q (some (.int z.1)) z.2) → kbG (f_MD_readNumber n a1 a2 μ) P → kbR l MX12_readNumber 3 Q 0 [some (.ref 57), some (.int a1), some (.int a2), none] [] μ from H _ (fun z => z = x) (fun z e => by subst e; exact ⟨rfl, rfl⟩) ⟨x, h, rfl⟩
  clear h
  intro Q P hr h
  unfold f_MD_readNumber at h
  refine r_aload_n dX12_readNumber_0 rfl ?_
  refine r_getI flX12_212 sh57 rfl dX12_readNumber_1 ?_
  refine r_if_eq 9 dX12_readNumber_4 (by decide) (fun hc => ?_) (fun hc => ?_)
  · replace h := kbG_t hc h
    refine r_aload_n dX12_readNumber_9 rfl ?_
    refine r_getI flX12_186 sh57 rfl dX12_readNumber_10 ?_
    refine r_iconst 2 dX12_readNumber_13 (by decide) ?_
    refine r_icmp_eq 25 dX12_readNumber_14 (by decide) (fun hc => ?_) (fun hc => ?_)
    · replace h := kbG_t hc h
      refine r_aload_n dX12_readNumber_25 rfl ?_
      refine r_getI flX12_209 sh57 rfl dX12_readNumber_26 ?_
      refine r_aload_n dX12_readNumber_29 rfl ?_
      refine r_getI flX12_183 sh57 rfl dX12_readNumber_30 ?_
      refine r_isub dX12_readNumber_33 ?_
      refine r_iconst 4 dX12_readNumber_34 (by decide) ?_
      refine r_icmp_gt 54 dX12_readNumber_35 (by decide) (fun hc => ?_) (fun hc => ?_)
      · replace h := kbG_t hc h
        refine r_le [some (.ref 57), none, none, none] ⟨rfl, trivial⟩ ?_
        exact jnR_MD_readNumber_54 n  μ (hr := hr) h
      · replace h := kbG_f hc h
        refine r_aload_n dX12_readNumber_38 rfl ?_
        refine r_getI flX12_196 sh57 rfl dX12_readNumber_39 ?_
        refine r_iload_n dX12_readNumber_42 rfl ?_
        refine r_icmp_lt 54 dX12_readNumber_43 (by decide) (fun hc => ?_) (fun hc => ?_)
        · replace h := kbG_t hc h
          refine r_le [some (.ref 57), none, none, none] ⟨rfl, trivial⟩ ?_
          exact jnR_MD_readNumber_54 n  μ (hr := hr) h
        · replace h := kbG_f hc h
          refine r_aload_n dX12_readNumber_46 rfl ?_
          refine r_getI flX12_196 sh57 rfl dX12_readNumber_47 ?_
          refine r_iload_n dX12_readNumber_50 rfl ?_
          refine r_icmp_le 59 dX12_readNumber_51 (by decide) (fun hc => ?_) (fun hc => ?_)
          · replace h := kbG_t hc h
            refine r_le [some (.ref 57), none, none, none] ⟨rfl, trivial⟩ ?_
            exact jnR_MD_readNumber_59 n  μ (hr := hr) h
          · replace h := kbG_f hc h
            refine r_le [some (.ref 57), none, none, none] ⟨rfl, trivial⟩ ?_
            exact jnR_MD_readNumber_54 n  μ (hr := hr) h
    · replace h := kbG_f hc h
      refine r_aload_n dX12_readNumber_17 rfl ?_
      refine r_iconst 1 dX12_readNumber_18 (by decide) ?_
      obtain ⟨x3, hx0, h⟩ := kbG_bind h
      refine r_invV_v cvX12_233 sh57 rfl (sp_MD_wrong 1 μ hx0) rfl rfl (Nat.le_of_ble_eq_true rfl) (Nat.le_of_ble_eq_true rfl) dX12_readNumber_19 ?_
      refine r_goto 59 dX12_readNumber_22 (by decide) ?_
      refine r_le [some (.ref 57), none, none, none] ⟨rfl, trivial⟩ ?_
      exact jnR_MD_readNumber_59 n  x3 (hr := hr) h
  · replace h := kbG_f hc h
    refine r_iconst 0 dX12_readNumber_7 (by decide) ?_
    exact r_iret rfl dX12_readNumber_8 (hr ((0, μ)) (kbG_some h))
