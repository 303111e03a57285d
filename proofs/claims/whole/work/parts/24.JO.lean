theorem dX4_renew_0 : decode cX4_renew 0 = .ok (.aload_n 0, 1) := by decide +kernel
theorem dX4_renew_1 : decode cX4_renew 1 = .ok (.getfield 18, 3) := by decide +kernel
theorem dX4_renew_4 : decode cX4_renew 4 = .ok (.iconst 0, 1) := by decide +kernel
theorem dX4_renew_5 : decode cX4_renew 5 = .ok (.invokestatic 44, 3) := by decide +kernel
theorem dX4_renew_8 : decode cX4_renew 8 = .ok (.return_, 1) := by decide +kernel
theorem dX4_adopt_0 : decode cX4_adopt 0 = .ok (.iload_n 2, 1) := by decide +kernel
theorem dX4_adopt_1 : decode cX4_adopt 1 = .ok (.aload_n 1, 1) := by decide +kernel
theorem dX4_adopt_2 : decode cX4_adopt 2 = .ok (.arraylength, 1) := by decide +kernel
theorem dX4_adopt_3 : decode cX4_adopt 3 = .ok (.sipush 600, 3) := by decide +kernel
theorem dX4_adopt_6 : decode cX4_adopt 6 = .ok (.invokestatic 25, 3) := by decide +kernel
theorem dX4_adopt_9 : decode cX4_adopt 9 = .ok (.invokestatic 25, 3) := by decide +kernel
theorem dX4_adopt_12 : decode cX4_adopt 12 = .ok (.istore_n 3, 1) := by decide +kernel
theorem dX4_adopt_13 : decode cX4_adopt 13 = .ok (.aload_n 1, 1) := by decide +kernel
theorem dX4_adopt_14 : decode cX4_adopt 14 = .ok (.iconst 0, 1) := by decide +kernel
theorem dX4_adopt_15 : decode cX4_adopt 15 = .ok (.aload_n 0, 1) := by decide +kernel
theorem dX4_adopt_16 : decode cX4_adopt 16 = .ok (.getfield 9, 3) := by decide +kernel
theorem dX4_adopt_19 : decode cX4_adopt 19 = .ok (.iconst 0, 1) := by decide +kernel
theorem dX4_adopt_20 : decode cX4_adopt 20 = .ok (.iload_n 3, 1) := by decide +kernel
theorem dX4_adopt_21 : decode cX4_adopt 21 = .ok (.invokestatic 31, 3) := by decide +kernel
theorem dX4_adopt_24 : decode cX4_adopt 24 = .ok (.aload_n 0, 1) := by decide +kernel
theorem dX4_adopt_25 : decode cX4_adopt 25 = .ok (.iload_n 3, 1) := by decide +kernel
theorem dX4_adopt_26 : decode cX4_adopt 26 = .ok (.putfield 37, 3) := by decide +kernel
theorem dX4_adopt_29 : decode cX4_adopt 29 = .ok (.aload_n 0, 1) := by decide +kernel
theorem dX4_adopt_30 : decode cX4_adopt 30 = .ok (.invokevirtual 41, 3) := by decide +kernel
theorem dX4_adopt_33 : decode cX4_adopt 33 = .ok (.return_, 1) := by decide +kernel
theorem dX4_joined_0 : decode cX4_joined 0 = .ok (.iload_n 0, 1) := by decide +kernel
theorem dX4_joined_1 : decode cX4_joined 1 = .ok (.tableswitch 105 (-14) (-8) #[101, 97, 93, 82, 71, 57, 43], 43) := by decide +kernel
theorem dX4_joined_44 : decode cX4_joined 44 = .ok (.iload_n 1, 1) := by decide +kernel
theorem dX4_joined_45 : decode cX4_joined 45 = .ok (.ifCond .ne 7, 3) := by decide +kernel
theorem dX4_joined_48 : decode cX4_joined 48 = .ok (.iload_n 2, 1) := by decide +kernel
theorem dX4_joined_49 : decode cX4_joined 49 = .ok (.ifCond .eq 7, 3) := by decide +kernel
theorem dX4_joined_52 : decode cX4_joined 52 = .ok (.iconst 1, 1) := by decide +kernel
theorem dX4_joined_53 : decode cX4_joined 53 = .ok (.goto 4, 3) := by decide +kernel
theorem dX4_joined_56 : decode cX4_joined 56 = .ok (.iconst 0, 1) := by decide +kernel
theorem dX4_joined_57 : decode cX4_joined 57 = .ok (.ireturn, 1) := by decide +kernel
theorem dX4_joined_58 : decode cX4_joined 58 = .ok (.iload_n 1, 1) := by decide +kernel
theorem dX4_joined_59 : decode cX4_joined 59 = .ok (.ifCond .eq 11, 3) := by decide +kernel
theorem dX4_joined_62 : decode cX4_joined 62 = .ok (.iload_n 2, 1) := by decide +kernel
theorem dX4_joined_63 : decode cX4_joined 63 = .ok (.ifCond .eq 7, 3) := by decide +kernel
theorem dX4_joined_66 : decode cX4_joined 66 = .ok (.iconst 1, 1) := by decide +kernel
theorem dX4_joined_67 : decode cX4_joined 67 = .ok (.goto 4, 3) := by decide +kernel
theorem dX4_joined_70 : decode cX4_joined 70 = .ok (.iconst 0, 1) := by decide +kernel
theorem dX4_joined_71 : decode cX4_joined 71 = .ok (.ireturn, 1) := by decide +kernel
theorem dX4_joined_72 : decode cX4_joined 72 = .ok (.iload_n 1, 1) := by decide +kernel
theorem dX4_joined_73 : decode cX4_joined 73 = .ok (.iload_n 2, 1) := by decide +kernel
theorem dX4_joined_74 : decode cX4_joined 74 = .ok (.if_icmp .ge 7, 3) := by decide +kernel
theorem dX4_joined_77 : decode cX4_joined 77 = .ok (.iconst 1, 1) := by decide +kernel
theorem dX4_joined_78 : decode cX4_joined 78 = .ok (.goto 4, 3) := by decide +kernel
theorem dX4_joined_81 : decode cX4_joined 81 = .ok (.iconst 0, 1) := by decide +kernel
theorem dX4_joined_82 : decode cX4_joined 82 = .ok (.ireturn, 1) := by decide +kernel
theorem dX4_joined_83 : decode cX4_joined 83 = .ok (.iload_n 1, 1) := by decide +kernel
theorem dX4_joined_84 : decode cX4_joined 84 = .ok (.iload_n 2, 1) := by decide +kernel
theorem dX4_joined_85 : decode cX4_joined 85 = .ok (.if_icmp .ne 7, 3) := by decide +kernel
theorem dX4_joined_88 : decode cX4_joined 88 = .ok (.iconst 1, 1) := by decide +kernel
theorem dX4_joined_89 : decode cX4_joined 89 = .ok (.goto 4, 3) := by decide +kernel
theorem dX4_joined_92 : decode cX4_joined 92 = .ok (.iconst 0, 1) := by decide +kernel
theorem dX4_joined_93 : decode cX4_joined 93 = .ok (.ireturn, 1) := by decide +kernel
theorem dX4_joined_94 : decode cX4_joined 94 = .ok (.iload_n 1, 1) := by decide +kernel
theorem dX4_joined_95 : decode cX4_joined 95 = .ok (.iload_n 2, 1) := by decide +kernel
theorem dX4_joined_96 : decode cX4_joined 96 = .ok (.iadd, 1) := by decide +kernel
theorem dX4_joined_97 : decode cX4_joined 97 = .ok (.ireturn, 1) := by decide +kernel
theorem dX4_joined_98 : decode cX4_joined 98 = .ok (.iload_n 1, 1) := by decide +kernel
theorem dX4_joined_99 : decode cX4_joined 99 = .ok (.iload_n 2, 1) := by decide +kernel
theorem dX4_joined_100 : decode cX4_joined 100 = .ok (.isub, 1) := by decide +kernel
theorem dX4_joined_101 : decode cX4_joined 101 = .ok (.ireturn, 1) := by decide +kernel
theorem dX4_joined_102 : decode cX4_joined 102 = .ok (.iload_n 1, 1) := by decide +kernel
theorem dX4_joined_103 : decode cX4_joined 103 = .ok (.iload_n 2, 1) := by decide +kernel
theorem dX4_joined_104 : decode cX4_joined 104 = .ok (.imul, 1) := by decide +kernel
theorem dX4_joined_105 : decode cX4_joined 105 = .ok (.ireturn, 1) := by decide +kernel
theorem dX4_joined_106 : decode cX4_joined 106 = .ok (.iload_n 2, 1) := by decide +kernel
theorem dX4_joined_107 : decode cX4_joined 107 = .ok (.ifCond .ne 7, 3) := by decide +kernel
theorem dX4_joined_110 : decode cX4_joined 110 = .ok (.iconst 0, 1) := by decide +kernel
theorem dX4_joined_111 : decode cX4_joined 111 = .ok (.goto 6, 3) := by decide +kernel
theorem dX4_joined_114 : decode cX4_joined 114 = .ok (.iload_n 1, 1) := by decide +kernel
theorem dX4_joined_115 : decode cX4_joined 115 = .ok (.iload_n 2, 1) := by decide +kernel
theorem dX4_joined_116 : decode cX4_joined 116 = .ok (.idiv, 1) := by decide +kernel
theorem dX4_joined_117 : decode cX4_joined 117 = .ok (.ireturn, 1) := by decide +kernel
theorem dX4_valueOf_0 : decode cX4_valueOf 0 = .ok (.iload_n 1, 1) := by decide +kernel
theorem dX4_valueOf_1 : decode cX4_valueOf 1 = .ok (.tableswitch 85 (-5) (-1) #[75, 65, 55, 45, 35], 35) := by decide +kernel
theorem dX4_valueOf_36 : decode cX4_valueOf 36 = .ok (.aload_n 0, 1) := by decide +kernel
theorem dX4_valueOf_37 : decode cX4_valueOf 37 = .ok (.getfield 21, 3) := by decide +kernel
theorem dX4_valueOf_40 : decode cX4_valueOf 40 = .ok (.getfield 60, 3) := by decide +kernel
theorem dX4_valueOf_43 : decode cX4_valueOf 43 = .ok (.iload_n 2, 1) := by decide +kernel
theorem dX4_valueOf_44 : decode cX4_valueOf 44 = .ok (.iaload, 1) := by decide +kernel
theorem dX4_valueOf_45 : decode cX4_valueOf 45 = .ok (.ireturn, 1) := by decide +kernel
theorem dX4_valueOf_46 : decode cX4_valueOf 46 = .ok (.aload_n 0, 1) := by decide +kernel
theorem dX4_valueOf_47 : decode cX4_valueOf 47 = .ok (.getfield 21, 3) := by decide +kernel
theorem dX4_valueOf_50 : decode cX4_valueOf 50 = .ok (.getfield 60, 3) := by decide +kernel
theorem dX4_valueOf_53 : decode cX4_valueOf 53 = .ok (.iload_n 3, 1) := by decide +kernel
theorem dX4_valueOf_54 : decode cX4_valueOf 54 = .ok (.iaload, 1) := by decide +kernel
theorem dX4_valueOf_55 : decode cX4_valueOf 55 = .ok (.ireturn, 1) := by decide +kernel
theorem dX4_valueOf_56 : decode cX4_valueOf 56 = .ok (.aload_n 0, 1) := by decide +kernel
theorem dX4_valueOf_57 : decode cX4_valueOf 57 = .ok (.getfield 21, 3) := by decide +kernel
theorem dX4_valueOf_60 : decode cX4_valueOf 60 = .ok (.getfield 65, 3) := by decide +kernel
theorem dX4_valueOf_63 : decode cX4_valueOf 63 = .ok (.iload_n 2, 1) := by decide +kernel
theorem dX4_valueOf_64 : decode cX4_valueOf 64 = .ok (.iaload, 1) := by decide +kernel
theorem dX4_valueOf_65 : decode cX4_valueOf 65 = .ok (.ireturn, 1) := by decide +kernel
theorem dX4_valueOf_66 : decode cX4_valueOf 66 = .ok (.aload_n 0, 1) := by decide +kernel
theorem dX4_valueOf_67 : decode cX4_valueOf 67 = .ok (.getfield 21, 3) := by decide +kernel
theorem dX4_valueOf_70 : decode cX4_valueOf 70 = .ok (.getfield 65, 3) := by decide +kernel
theorem dX4_valueOf_73 : decode cX4_valueOf 73 = .ok (.iload_n 3, 1) := by decide +kernel
theorem dX4_valueOf_74 : decode cX4_valueOf 74 = .ok (.iaload, 1) := by decide +kernel
theorem dX4_valueOf_75 : decode cX4_valueOf 75 = .ok (.ireturn, 1) := by decide +kernel
theorem dX4_valueOf_76 : decode cX4_valueOf 76 = .ok (.aload_n 0, 1) := by decide +kernel
theorem dX4_valueOf_77 : decode cX4_valueOf 77 = .ok (.getfield 21, 3) := by decide +kernel
theorem dX4_valueOf_80 : decode cX4_valueOf 80 = .ok (.getfield 68, 3) := by decide +kernel
theorem dX4_valueOf_83 : decode cX4_valueOf 83 = .ok (.iload_n 3, 1) := by decide +kernel
theorem dX4_valueOf_84 : decode cX4_valueOf 84 = .ok (.iaload, 1) := by decide +kernel
theorem dX4_valueOf_85 : decode cX4_valueOf 85 = .ok (.ireturn, 1) := by decide +kernel
theorem dX4_valueOf_86 : decode cX4_valueOf 86 = .ok (.iload_n 2, 1) := by decide +kernel
theorem dX4_valueOf_87 : decode cX4_valueOf 87 = .ok (.iload_n 3, 1) := by decide +kernel
theorem dX4_valueOf_88 : decode cX4_valueOf 88 = .ok (.if_icmp .ne 7, 3) := by decide +kernel
theorem dX4_valueOf_91 : decode cX4_valueOf 91 = .ok (.iconst 1, 1) := by decide +kernel
theorem dX4_valueOf_92 : decode cX4_valueOf 92 = .ok (.goto 4, 3) := by decide +kernel
theorem dX4_valueOf_95 : decode cX4_valueOf 95 = .ok (.iconst 0, 1) := by decide +kernel
theorem dX4_valueOf_96 : decode cX4_valueOf 96 = .ok (.ireturn, 1) := by decide +kernel
theorem dX4_value_0 : decode cX4_value 0 = .ok (.iconst 0, 1) := by decide +kernel
theorem dX4_value_1 : decode cX4_value 1 = .ok (.istore_n 3, 1) := by decide +kernel
theorem dX4_value_2 : decode cX4_value 2 = .ok (.iconst 0, 1) := by decide +kernel
theorem dX4_value_3 : decode cX4_value 3 = .ok (.istore 4, 2) := by decide +kernel
theorem dX4_value_5 : decode cX4_value 5 = .ok (.iload 4, 2) := by decide +kernel
theorem dX4_value_7 : decode cX4_value 7 = .ok (.aload_n 0, 1) := by decide +kernel
theorem dX4_value_8 : decode cX4_value 8 = .ok (.getfield 37, 3) := by decide +kernel
theorem dX4_value_11 : decode cX4_value 11 = .ok (.if_icmp .ge 135, 3) := by decide +kernel
theorem dX4_value_14 : decode cX4_value 14 = .ok (.aload_n 0, 1) := by decide +kernel
theorem dX4_value_15 : decode cX4_value 15 = .ok (.getfield 9, 3) := by decide +kernel
theorem dX4_value_18 : decode cX4_value 18 = .ok (.iload 4, 2) := by decide +kernel
theorem dX4_value_20 : decode cX4_value 20 = .ok (.iaload, 1) := by decide +kernel
theorem dX4_value_21 : decode cX4_value 21 = .ok (.istore 5, 2) := by decide +kernel
theorem dX4_value_23 : decode cX4_value 23 = .ok (.iload 5, 2) := by decide +kernel
theorem dX4_value_25 : decode cX4_value 25 = .ok (.bipush (-6), 2) := by decide +kernel
theorem dX4_value_27 : decode cX4_value 27 = .ok (.if_icmp .lt 39, 3) := by decide +kernel
theorem dX4_value_30 : decode cX4_value 30 = .ok (.iload_n 3, 1) := by decide +kernel
theorem dX4_value_31 : decode cX4_value 31 = .ok (.bipush 64, 2) := by decide +kernel
theorem dX4_value_33 : decode cX4_value 33 = .ok (.if_icmp .ge 107, 3) := by decide +kernel
theorem dX4_value_36 : decode cX4_value 36 = .ok (.aload_n 0, 1) := by decide +kernel
theorem dX4_value_37 : decode cX4_value 37 = .ok (.getfield 15, 3) := by decide +kernel
theorem dX4_value_40 : decode cX4_value 40 = .ok (.iload_n 3, 1) := by decide +kernel
theorem dX4_value_41 : decode cX4_value 41 = .ok (.iload 5, 2) := by decide +kernel
theorem dX4_value_43 : decode cX4_value 43 = .ok (.ifCond .lt 8, 3) := by decide +kernel
theorem dX4_value_46 : decode cX4_value 46 = .ok (.iload 5, 2) := by decide +kernel
theorem dX4_value_48 : decode cX4_value 48 = .ok (.goto 11, 3) := by decide +kernel
theorem dX4_value_51 : decode cX4_value 51 = .ok (.aload_n 0, 1) := by decide +kernel
theorem dX4_value_52 : decode cX4_value 52 = .ok (.iload 5, 2) := by decide +kernel
theorem dX4_value_54 : decode cX4_value 54 = .ok (.iload_n 1, 1) := by decide +kernel
theorem dX4_value_55 : decode cX4_value 55 = .ok (.iload_n 2, 1) := by decide +kernel
theorem dX4_value_56 : decode cX4_value 56 = .ok (.invokevirtual 53, 3) := by decide +kernel
theorem dX4_value_59 : decode cX4_value 59 = .ok (.iastore, 1) := by decide +kernel
theorem dX4_value_60 : decode cX4_value 60 = .ok (.iinc 3 1, 3) := by decide +kernel
theorem dX4_value_63 : decode cX4_value 63 = .ok (.goto 77, 3) := by decide +kernel
theorem dX4_value_66 : decode cX4_value 66 = .ok (.iload 5, 2) := by decide +kernel
theorem dX4_value_68 : decode cX4_value 68 = .ok (.bipush (-7), 2) := by decide +kernel
theorem dX4_value_70 : decode cX4_value 70 = .ok (.if_icmp .ne 35, 3) := by decide +kernel
theorem dX4_value_73 : decode cX4_value 73 = .ok (.iload_n 3, 1) := by decide +kernel
theorem dX4_value_74 : decode cX4_value 74 = .ok (.iconst 1, 1) := by decide +kernel
theorem dX4_value_75 : decode cX4_value 75 = .ok (.if_icmp .lt 65, 3) := by decide +kernel
theorem dX4_value_78 : decode cX4_value 78 = .ok (.aload_n 0, 1) := by decide +kernel
theorem dX4_value_79 : decode cX4_value 79 = .ok (.getfield 15, 3) := by decide +kernel
theorem dX4_value_82 : decode cX4_value 82 = .ok (.iload_n 3, 1) := by decide +kernel
theorem dX4_value_83 : decode cX4_value 83 = .ok (.iconst 1, 1) := by decide +kernel
theorem dX4_value_84 : decode cX4_value 84 = .ok (.isub, 1) := by decide +kernel
theorem dX4_value_85 : decode cX4_value 85 = .ok (.aload_n 0, 1) := by decide +kernel
theorem dX4_value_86 : decode cX4_value 86 = .ok (.getfield 15, 3) := by decide +kernel
theorem dX4_value_89 : decode cX4_value 89 = .ok (.iload_n 3, 1) := by decide +kernel
theorem dX4_value_90 : decode cX4_value 90 = .ok (.iconst 1, 1) := by decide +kernel
theorem dX4_value_91 : decode cX4_value 91 = .ok (.isub, 1) := by decide +kernel
theorem dX4_value_92 : decode cX4_value 92 = .ok (.iaload, 1) := by decide +kernel
theorem dX4_value_93 : decode cX4_value 93 = .ok (.ifCond .ne 7, 3) := by decide +kernel
theorem dX4_value_96 : decode cX4_value 96 = .ok (.iconst 1, 1) := by decide +kernel
theorem dX4_value_97 : decode cX4_value 97 = .ok (.goto 4, 3) := by decide +kernel
theorem dX4_value_100 : decode cX4_value 100 = .ok (.iconst 0, 1) := by decide +kernel
theorem dX4_value_101 : decode cX4_value 101 = .ok (.iastore, 1) := by decide +kernel
theorem dX4_value_102 : decode cX4_value 102 = .ok (.goto 38, 3) := by decide +kernel
theorem dX4_value_105 : decode cX4_value 105 = .ok (.iload_n 3, 1) := by decide +kernel
theorem dX4_value_106 : decode cX4_value 106 = .ok (.iconst 2, 1) := by decide +kernel
theorem dX4_value_107 : decode cX4_value 107 = .ok (.if_icmp .lt 33, 3) := by decide +kernel
theorem dX4_value_110 : decode cX4_value 110 = .ok (.iinc 3 (-1), 3) := by decide +kernel
theorem dX4_value_113 : decode cX4_value 113 = .ok (.aload_n 0, 1) := by decide +kernel
theorem dX4_value_114 : decode cX4_value 114 = .ok (.getfield 15, 3) := by decide +kernel
theorem dX4_value_117 : decode cX4_value 117 = .ok (.iload_n 3, 1) := by decide +kernel
theorem dX4_value_118 : decode cX4_value 118 = .ok (.iconst 1, 1) := by decide +kernel
theorem dX4_value_119 : decode cX4_value 119 = .ok (.isub, 1) := by decide +kernel
theorem dX4_value_120 : decode cX4_value 120 = .ok (.iload 5, 2) := by decide +kernel
theorem dX4_value_122 : decode cX4_value 122 = .ok (.aload_n 0, 1) := by decide +kernel
theorem dX4_value_123 : decode cX4_value 123 = .ok (.getfield 15, 3) := by decide +kernel
theorem dX4_value_126 : decode cX4_value 126 = .ok (.iload_n 3, 1) := by decide +kernel
theorem dX4_value_127 : decode cX4_value 127 = .ok (.iconst 1, 1) := by decide +kernel
theorem dX4_value_128 : decode cX4_value 128 = .ok (.isub, 1) := by decide +kernel
theorem dX4_value_129 : decode cX4_value 129 = .ok (.iaload, 1) := by decide +kernel
theorem dX4_value_130 : decode cX4_value 130 = .ok (.aload_n 0, 1) := by decide +kernel
theorem dX4_value_131 : decode cX4_value 131 = .ok (.getfield 15, 3) := by decide +kernel
theorem dX4_value_134 : decode cX4_value 134 = .ok (.iload_n 3, 1) := by decide +kernel
theorem dX4_value_135 : decode cX4_value 135 = .ok (.iaload, 1) := by decide +kernel
theorem dX4_value_136 : decode cX4_value 136 = .ok (.invokestatic 57, 3) := by decide +kernel
theorem dX4_value_139 : decode cX4_value 139 = .ok (.iastore, 1) := by decide +kernel
theorem dX4_value_140 : decode cX4_value 140 = .ok (.iinc 4 1, 3) := by decide +kernel
theorem dX4_value_143 : decode cX4_value 143 = .ok (.goto (-138), 3) := by decide +kernel
theorem dX4_value_146 : decode cX4_value 146 = .ok (.iload_n 3, 1) := by decide +kernel
theorem dX4_value_147 : decode cX4_value 147 = .ok (.iconst 1, 1) := by decide +kernel
theorem dX4_value_148 : decode cX4_value 148 = .ok (.if_icmp .lt 14, 3) := by decide +kernel
theorem dX4_value_151 : decode cX4_value 151 = .ok (.aload_n 0, 1) := by decide +kernel
theorem dX4_value_152 : decode cX4_value 152 = .ok (.getfield 15, 3) := by decide +kernel
theorem dX4_value_155 : decode cX4_value 155 = .ok (.iload_n 3, 1) := by decide +kernel
theorem dX4_value_156 : decode cX4_value 156 = .ok (.iconst 1, 1) := by decide +kernel
theorem dX4_value_157 : decode cX4_value 157 = .ok (.isub, 1) := by decide +kernel
theorem dX4_value_158 : decode cX4_value 158 = .ok (.iaload, 1) := by decide +kernel
theorem dX4_value_159 : decode cX4_value 159 = .ok (.goto 4, 3) := by decide +kernel
theorem dX4_value_162 : decode cX4_value 162 = .ok (.iconst 0, 1) := by decide +kernel
theorem dX4_value_163 : decode cX4_value 163 = .ok (.ireturn, 1) := by decide +kernel
theorem dX4_mayFollow_0 : decode cX4_mayFollow 0 = .ok (.aload_n 0, 1) := by decide +kernel
theorem dX4_mayFollow_1 : decode cX4_mayFollow 1 = .ok (.getfield 37, 3) := by decide +kernel
theorem dX4_mayFollow_4 : decode cX4_mayFollow 4 = .ok (.ifCond .ne 5, 3) := by decide +kernel
theorem dX4_mayFollow_7 : decode cX4_mayFollow 7 = .ok (.iconst 1, 1) := by decide +kernel
theorem dX4_mayFollow_8 : decode cX4_mayFollow 8 = .ok (.ireturn, 1) := by decide +kernel
theorem dX4_mayFollow_9 : decode cX4_mayFollow 9 = .ok (.iload_n 1, 1) := by decide +kernel
theorem dX4_mayFollow_10 : decode cX4_mayFollow 10 = .ok (.bipush 10, 2) := by decide +kernel
theorem dX4_mayFollow_12 : decode cX4_mayFollow 12 = .ok (.imul, 1) := by decide +kernel
theorem dX4_mayFollow_13 : decode cX4_mayFollow 13 = .ok (.iload_n 2, 1) := by decide +kernel
theorem dX4_mayFollow_14 : decode cX4_mayFollow 14 = .ok (.iadd, 1) := by decide +kernel
theorem dX4_mayFollow_15 : decode cX4_mayFollow 15 = .ok (.istore_n 3, 1) := by decide +kernel
theorem dX4_mayFollow_16 : decode cX4_mayFollow 16 = .ok (.aload_n 0, 1) := by decide +kernel
theorem dX4_mayFollow_17 : decode cX4_mayFollow 17 = .ok (.getfield 18, 3) := by decide +kernel
theorem dX4_mayFollow_20 : decode cX4_mayFollow 20 = .ok (.iload_n 3, 1) := by decide +kernel
theorem dX4_mayFollow_21 : decode cX4_mayFollow 21 = .ok (.iaload, 1) := by decide +kernel
theorem dX4_mayFollow_22 : decode cX4_mayFollow 22 = .ok (.ifCond .ne 23, 3) := by decide +kernel
theorem dX4_mayFollow_25 : decode cX4_mayFollow 25 = .ok (.aload_n 0, 1) := by decide +kernel
theorem dX4_mayFollow_26 : decode cX4_mayFollow 26 = .ok (.getfield 18, 3) := by decide +kernel
theorem dX4_mayFollow_29 : decode cX4_mayFollow 29 = .ok (.iload_n 3, 1) := by decide +kernel
theorem dX4_mayFollow_30 : decode cX4_mayFollow 30 = .ok (.aload_n 0, 1) := by decide +kernel
theorem dX4_mayFollow_31 : decode cX4_mayFollow 31 = .ok (.iload_n 1, 1) := by decide +kernel
theorem dX4_mayFollow_32 : decode cX4_mayFollow 32 = .ok (.iload_n 2, 1) := by decide +kernel
theorem dX4_mayFollow_33 : decode cX4_mayFollow 33 = .ok (.invokevirtual 50, 3) := by decide +kernel
theorem dX4_mayFollow_36 : decode cX4_mayFollow 36 = .ok (.ifCond .eq 7, 3) := by decide +kernel
theorem dX4_mayFollow_39 : decode cX4_mayFollow 39 = .ok (.iconst 1, 1) := by decide +kernel
theorem dX4_mayFollow_40 : decode cX4_mayFollow 40 = .ok (.goto 4, 3) := by decide +kernel
theorem dX4_mayFollow_43 : decode cX4_mayFollow 43 = .ok (.iconst 2, 1) := by decide +kernel
theorem dX4_mayFollow_44 : decode cX4_mayFollow 44 = .ok (.iastore, 1) := by decide +kernel
theorem dX4_mayFollow_45 : decode cX4_mayFollow 45 = .ok (.aload_n 0, 1) := by decide +kernel
theorem dX4_mayFollow_46 : decode cX4_mayFollow 46 = .ok (.getfield 18, 3) := by decide +kernel
theorem dX4_mayFollow_49 : decode cX4_mayFollow 49 = .ok (.iload_n 3, 1) := by decide +kernel
theorem dX4_mayFollow_50 : decode cX4_mayFollow 50 = .ok (.iaload, 1) := by decide +kernel
theorem dX4_mayFollow_51 : decode cX4_mayFollow 51 = .ok (.iconst 1, 1) := by decide +kernel
theorem dX4_mayFollow_52 : decode cX4_mayFollow 52 = .ok (.if_icmp .ne 7, 3) := by decide +kernel
theorem dX4_mayFollow_55 : decode cX4_mayFollow 55 = .ok (.iconst 1, 1) := by decide +kernel
theorem dX4_mayFollow_56 : decode cX4_mayFollow 56 = .ok (.goto 4, 3) := by decide +kernel
theorem dX4_mayFollow_59 : decode cX4_mayFollow 59 = .ok (.iconst 0, 1) := by decide +kernel
theorem dX4_mayFollow_60 : decode cX4_mayFollow 60 = .ok (.ireturn, 1) := by decide +kernel
def f_JO_renew (μ : kbM) : Option (kbM) :=
  some (kbA μ 38 (kbFill (μ.1 38) 100 0))
theorem sp_JO_renew {l : Launch} (μ : kbM)  {x : kbM} (h : f_JO_renew μ = some x) : kbS l MX4_renew 2 [.ref 35] μ (kbQe none x) := by
  refine kb_enter 0 rfl rfl ?_
  suffices H : ∀ (Q : kbQt) (P : kbM → Prop), (∀ z : kbM, P z → Q none z) → kbG (f_JO_renew μ) P → kbR l MX4_renew 2 Q 0 [some (.ref 35)] [] μ from H _ (fun z => z = x) (fun z e => by subst e; exact ⟨rfl, rfl⟩) ⟨x, h, rfl⟩
  clear h
  intro Q P hr h
  unfold f_JO_renew at h
  refine r_aload_n dX4_renew_0 rfl ?_
  refine r_getR flX4_18 sh35 rfl dX4_renew_1 ?_
  refine r_iconst 0 dX4_renew_4 (by decide) ?_
  refine r_inv_v csX4_44 (sp_fill sh38 (by decide) 0 _) rfl rfl (Nat.le_of_ble_eq_true rfl) (Nat.le_of_ble_eq_true rfl) dX4_renew_5 ?_
  exact r_vret rfl dX4_renew_8 (hr (kbA μ 38 (kbFill (μ.1 38) 100 0)) (kbG_some h))
def f_JO_adopt_11 (a2 : Int32) (μ : kbM) : Option (kbM) :=
  kbIf (kbCp 0 0 (kbMin a2 (kbMin 600 600)) 600 600) <|
  (f_JO_renew (kbW (kbA μ 36 (va_cpy (μ.1 11) (μ.1 36) 0 0 ((kbMin a2 (kbMin 600 600)).toNatClampNeg))) 35 4 (kbMin a2 (kbMin 600 600)))).bind fun x1 =>
  some x1
theorem sp_JO_adopt_11 {l : Launch} (a2 : Int32) (μ : kbM)  {x : kbM} (h : f_JO_adopt_11 a2 μ = some x) : kbS l MX4_adopt 3 [.ref 35, .ref 11, .int a2] μ (kbQe none x) := by
  refine kb_enter 1 rfl rfl ?_
  suffices H : ∀ (Q : kbQt) (P : kbM → Prop), (∀ z : kbM, P z → Q none z) → kbG (f_JO_adopt_11 a2 μ) P → kbR l MX4_adopt 3 Q 0 [some (.ref 35), some (.ref 11), some (.int a2), none] [] μ from H _ (fun z => z = x) (fun z e => by subst e; exact ⟨rfl, rfl⟩) ⟨x, h, rfl⟩
  clear h
  intro Q P hr h
  unfold f_JO_adopt_11 at h
  refine r_iload_n dX4_adopt_0 rfl ?_
  refine r_aload_n dX4_adopt_1 rfl ?_
  refine r_alen 600 sh11 (by decide) (by decide) dX4_adopt_2 ?_
  refine r_sipush 600 dX4_adopt_3 (by decide) ?_
  refine r_min mlX4_25 (Nat.le_of_ble_eq_true rfl) (Nat.le_of_ble_eq_true rfl) dX4_adopt_6 ?_
  refine r_min mlX4_25 (Nat.le_of_ble_eq_true rfl) (Nat.le_of_ble_eq_true rfl) dX4_adopt_9 ?_
  refine r_istore_n dX4_adopt_12 (Nat.le_of_ble_eq_true rfl) rfl ?_
  refine r_aload_n dX4_adopt_13 rfl ?_
  refine r_iconst 0 dX4_adopt_14 (by decide) ?_
  refine r_aload_n dX4_adopt_15 rfl ?_
  refine r_getR flX4_9 sh35 rfl dX4_adopt_16 ?_
  refine r_iconst 0 dX4_adopt_19 (by decide) ?_
  refine r_iload_n dX4_adopt_20 rfl ?_
  obtain ⟨hcp, h⟩ := kbG_if h
  refine q_copy 0 0 ((kbMin a2 (kbMin 600 600)).toNatClampNeg) (by decide) (by decide) rfl mlX4_31 sh11 sh36 hcp (Nat.le_of_ble_eq_true rfl) (Nat.le_of_ble_eq_true rfl) dX4_adopt_21 ?_
  refine r_aload_n dX4_adopt_24 rfl ?_
  refine r_iload_n dX4_adopt_25 rfl ?_
  refine r_put flX4_37 sh35 rfl rfl rfl dX4_adopt_26 ?_
  refine r_aload_n dX4_adopt_29 rfl ?_
  obtain ⟨x1, hx0, h⟩ := kbG_bind h
  refine r_invV_v cvX4_41 sh35 rfl (sp_JO_renew (kbW (kbA μ 36 (va_cpy (μ.1 11) (μ.1 36) 0 0 ((kbMin a2 (kbMin 600 600)).toNatClampNeg))) 35 4 (kbMin a2 (kbMin 600 600))) hx0) rfl rfl (Nat.le_of_ble_eq_true rfl) (Nat.le_of_ble_eq_true rfl) dX4_adopt_30 ?_
  exact r_vret rfl dX4_adopt_33 (hr x1 (kbG_some h))
def jn_JO_joined_117 (w0 : Int32) : Option (Int32) :=
  some w0
theorem jnR_JO_joined_117 {l : Launch}   (w0 : Int32) (μ : kbM) {Q : kbQt} {P : Int32 → Prop} (hr : ∀ z : Int32, P z → Q (some (.int z)) μ) (h : kbG (jn_JO_joined_117 w0) P) : kbR l MX4_joined 1 Q 117 [none, none, none] [.int w0] μ := by
  unfold jn_JO_joined_117 at h
  exact r_iret rfl dX4_joined_117 (hr w0 (kbG_some h))
def jn_JO_joined_93 (w0 : Int32) : Option (Int32) :=
  some w0
theorem jnR_JO_joined_93 {l : Launch}   (w0 : Int32) (μ : kbM) {Q : kbQt} {P : Int32 → Prop} (hr : ∀ z : Int32, P z → Q (some (.int z)) μ) (h : kbG (jn_JO_joined_93 w0) P) : kbR l MX4_joined 1 Q 93 [none, none, none] [.int w0] μ := by
  unfold jn_JO_joined_93 at h
  exact r_iret rfl dX4_joined_93 (hr w0 (kbG_some h))
def jn_JO_joined_82 (w0 : Int32) : Option (Int32) :=
  some w0
theorem jnR_JO_joined_82 {l : Launch}   (w0 : Int32) (μ : kbM) {Q : kbQt} {P : Int32 → Prop} (hr : ∀ z : Int32, P z → Q (some (.int z)) μ) (h : kbG (jn_JO_joined_82 w0) P) : kbR l MX4_joined 1 Q 82 [none, none, none] [.int w0] μ := by
  unfold jn_JO_joined_82 at h
  exact r_iret rfl dX4_joined_82 (hr w0 (kbG_some h))
def jn_JO_joined_71 (w0 : Int32) : Option (Int32) :=
  some w0
theorem jnR_JO_joined_71 {l : Launch}   (w0 : Int32) (μ : kbM) {Q : kbQt} {P : Int32 → Prop} (hr : ∀ z : Int32, P z → Q (some (.int z)) μ) (h : kbG (jn_JO_joined_71 w0) P) : kbR l MX4_joined 1 Q 71 [none, none, none] [.int w0] μ := by
  unfold jn_JO_joined_71 at h
  exact r_iret rfl dX4_joined_71 (hr w0 (kbG_some h))
def jn_JO_joined_70  : Option (Int32) :=
  jn_JO_joined_71 0
theorem jnR_JO_joined_70 {l : Launch}    (μ : kbM) {Q : kbQt} {P : Int32 → Prop} (hr : ∀ z : Int32, P z → Q (some (.int z)) μ) (h : kbG (jn_JO_joined_70 ) P) : kbR l MX4_joined 1 Q 70 [none, none, none] [] μ := by
  unfold jn_JO_joined_70 at h
  refine r_iconst 0 dX4_joined_70 (by decide) ?_
  refine r_le [none, none, none] trivial ?_
  exact jnR_JO_joined_71 0 μ (hr := hr) h
def jn_JO_joined_57 (w0 : Int32) : Option (Int32) :=
  some w0
theorem jnR_JO_joined_57 {l : Launch}   (w0 : Int32) (μ : kbM) {Q : kbQt} {P : Int32 → Prop} (hr : ∀ z : Int32, P z → Q (some (.int z)) μ) (h : kbG (jn_JO_joined_57 w0) P) : kbR l MX4_joined 1 Q 57 [none, none, none] [.int w0] μ := by
  unfold jn_JO_joined_57 at h
  exact r_iret rfl dX4_joined_57 (hr w0 (kbG_some h))
def jn_JO_joined_52  : Option (Int32) :=
  jn_JO_joined_57 1
theorem jnR_JO_joined_52 {l : Launch}    (μ : kbM) {Q : kbQt} {P : Int32 → Prop} (hr : ∀ z : Int32, P z → Q (some (.int z)) μ) (h : kbG (jn_JO_joined_52 ) P) : kbR l MX4_joined 1 Q 52 [none, none, none] [] μ := by
  unfold jn_JO_joined_52 at h
  refine r_iconst 1 dX4_joined_52 (by decide) ?_
  refine r_goto 57 dX4_joined_53 (by decide) ?_
  refine r_le [none, none, none] trivial ?_
  exact jnR_JO_joined_57 1 μ (hr := hr) h
def f_JO_joined (a0 : Int32) (a1 : Int32) (a2 : Int32) : Option (Int32) :=
  if a0 = (-14) then
    some (a1 * a2)
  else if a0 = (-13) then
    some (a1 - a2)
  else if a0 = (-12) then
    some (a1 + a2)
  else if a0 = (-11) then
    if a1 = a2 then
      jn_JO_joined_93 1
    else
      jn_JO_joined_93 0
  else if a0 = (-10) then
    if a2 ≤ a1 then
      jn_JO_joined_82 0
    else
      jn_JO_joined_82 1
  else if a0 = (-9) then
    if a1 = 0 then
      jn_JO_joined_70 
    else
      if a2 = 0 then
        jn_JO_joined_70 
      else
        jn_JO_joined_71 1
  else if a0 = (-8) then
    if a1 = 0 then
      if a2 = 0 then
        jn_JO_joined_57 0
      else
        jn_JO_joined_52 
    else
      jn_JO_joined_52 
  else
    if a2 = 0 then
      jn_JO_joined_117 0
    else
      kbIf (decide (¬ a2 = 0)) <|
      jn_JO_joined_117 (a1 / a2)
theorem sp_JO_joined {l : Launch} (a0 : Int32) (a1 : Int32) (a2 : Int32) (μ : kbM)  {x : Int32} (h : f_JO_joined a0 a1 a2 = some x) : kbS l MX4_joined 1 [.int a0, .int a1, .int a2] μ (kbQe (some (.int x)) μ) := by
  refine kb_enter 0 rfl rfl ?_
  suffices H : ∀ (Q : kbQt) (P : Int32 → Prop), (∀ z : Int32, P z → Q (some (.int z)) μ) → kbG (f_JO_joined a0 a1 a2) P → kbR l MX4_joined 1 Q 0 [some (.int a0), some (.int a1), some (.int a2)] [] μ from H _ (fun z => z = x) (fun z e => by subst e; exact ⟨rfl, rfl⟩) ⟨x, h, rfl⟩
  clear h
  intro Q P hr h
  unfold f_JO_joined at h
  refine r_iload_n dX4_joined_0 rfl ?_
  by_cases hc0 : a0 = (-14)
  · replace h := kbG_t hc0 h
    refine r_tabIn 102 dX4_joined_1 (by rw [hc0]; decide) (by rw [hc0]; decide) (by rw [hc0]; rfl) (by decide) ?_
    refine r_iload_n dX4_joined_102 rfl ?_
    refine r_iload_n dX4_joined_103 rfl ?_
    refine r_imul dX4_joined_104 ?_
    exact r_iret rfl dX4_joined_105 (hr (a1 * a2) (kbG_some h))
  replace h := kbG_f hc0 h
  by_cases hc1 : a0 = (-13)
  · replace h := kbG_t hc1 h
    refine r_tabIn 98 dX4_joined_1 (by rw [hc1]; decide) (by rw [hc1]; decide) (by rw [hc1]; rfl) (by decide) ?_
    refine r_iload_n dX4_joined_98 rfl ?_
    refine r_iload_n dX4_joined_99 rfl ?_
    refine r_isub dX4_joined_100 ?_
    exact r_iret rfl dX4_joined_101 (hr (a1 - a2) (kbG_some h))
  replace h := kbG_f hc1 h
  by_cases hc2 : a0 = (-12)
  · replace h := kbG_t hc2 h
    refine r_tabIn 94 dX4_joined_1 (by rw [hc2]; decide) (by rw [hc2]; decide) (by rw [hc2]; rfl) (by decide) ?_
    refine r_iload_n dX4_joined_94 rfl ?_
    refine r_iload_n dX4_joined_95 rfl ?_
    refine r_iadd dX4_joined_96 ?_
    exact r_iret rfl dX4_joined_97 (hr (a1 + a2) (kbG_some h))
  replace h := kbG_f hc2 h
  by_cases hc3 : a0 = (-11)
  · replace h := kbG_t hc3 h
    refine r_tabIn 83 dX4_joined_1 (by rw [hc3]; decide) (by rw [hc3]; decide) (by rw [hc3]; rfl) (by decide) ?_
    refine r_iload_n dX4_joined_83 rfl ?_
    refine r_iload_n dX4_joined_84 rfl ?_
    refine r_icmp_ne 92 dX4_joined_85 (by decide) (fun hc => ?_) (fun hc => ?_)
    · replace h := kbG_f hc h
      refine r_iconst 0 dX4_joined_92 (by decide) ?_
      refine r_le [none, none, none] trivial ?_
      exact jnR_JO_joined_93 0 μ (hr := hr) h
    · replace h := kbG_t hc h
      refine r_iconst 1 dX4_joined_88 (by decide) ?_
      refine r_goto 93 dX4_joined_89 (by decide) ?_
      refine r_le [none, none, none] trivial ?_
      exact jnR_JO_joined_93 1 μ (hr := hr) h
  replace h := kbG_f hc3 h
  by_cases hc4 : a0 = (-10)
  · replace h := kbG_t hc4 h
    refine r_tabIn 72 dX4_joined_1 (by rw [hc4]; decide) (by rw [hc4]; decide) (by rw [hc4]; rfl) (by decide) ?_
    refine r_iload_n dX4_joined_72 rfl ?_
    refine r_iload_n dX4_joined_73 rfl ?_
    refine r_icmp_ge 81 dX4_joined_74 (by decide) (fun hc => ?_) (fun hc => ?_)
    · replace h := kbG_t hc h
      refine r_iconst 0 dX4_joined_81 (by decide) ?_
      refine r_le [none, none, none] trivial ?_
      exact jnR_JO_joined_82 0 μ (hr := hr) h
    · replace h := kbG_f hc h
      refine r_iconst 1 dX4_joined_77 (by decide) ?_
      refine r_goto 82 dX4_joined_78 (by decide) ?_
      refine r_le [none, none, none] trivial ?_
      exact jnR_JO_joined_82 1 μ (hr := hr) h
  replace h := kbG_f hc4 h
  by_cases hc5 : a0 = (-9)
  · replace h := kbG_t hc5 h
    refine r_tabIn 58 dX4_joined_1 (by rw [hc5]; decide) (by rw [hc5]; decide) (by rw [hc5]; rfl) (by decide) ?_
    refine r_iload_n dX4_joined_58 rfl ?_
    refine r_if_eq 70 dX4_joined_59 (by decide) (fun hc => ?_) (fun hc => ?_)
    · replace h := kbG_t hc h
      refine r_le [none, none, none] trivial ?_
      exact jnR_JO_joined_70  μ (hr := hr) h
    · replace h := kbG_f hc h
      refine r_iload_n dX4_joined_62 rfl ?_
      refine r_if_eq 70 dX4_joined_63 (by decide) (fun hc => ?_) (fun hc => ?_)
      · replace h := kbG_t hc h
        refine r_le [none, none, none] trivial ?_
        exact jnR_JO_joined_70  μ (hr := hr) h
      · replace h := kbG_f hc h
        refine r_iconst 1 dX4_joined_66 (by decide) ?_
        refine r_goto 71 dX4_joined_67 (by decide) ?_
        refine r_le [none, none, none] trivial ?_
        exact jnR_JO_joined_71 1 μ (hr := hr) h
  replace h := kbG_f hc5 h
  by_cases hc6 : a0 = (-8)
  · replace h := kbG_t hc6 h
    refine r_tabIn 44 dX4_joined_1 (by rw [hc6]; decide) (by rw [hc6]; decide) (by rw [hc6]; rfl) (by decide) ?_
    refine r_iload_n dX4_joined_44 rfl ?_
    refine r_if_ne 52 dX4_joined_45 (by decide) (fun hc => ?_) (fun hc => ?_)
    · replace h := kbG_f hc h
      refine r_le [none, none, none] trivial ?_
      exact jnR_JO_joined_52  μ (hr := hr) h
    · replace h := kbG_t hc h
      refine r_iload_n dX4_joined_48 rfl ?_
      refine r_if_eq 56 dX4_joined_49 (by decide) (fun hc => ?_) (fun hc => ?_)
      · replace h := kbG_t hc h
        refine r_iconst 0 dX4_joined_56 (by decide) ?_
        refine r_le [none, none, none] trivial ?_
        exact jnR_JO_joined_57 0 μ (hr := hr) h
      · replace h := kbG_f hc h
        refine r_le [none, none, none] trivial ?_
        exact jnR_JO_joined_52  μ (hr := hr) h
  replace h := kbG_f hc6 h
  have hD : kbR l MX4_joined 1 Q 106 [some (.int a0), some (.int a1), some (.int a2)] [] μ := by
    refine r_iload_n dX4_joined_106 rfl ?_
    refine r_if_ne 114 dX4_joined_107 (by decide) (fun hc => ?_) (fun hc => ?_)
    · replace h := kbG_f hc h
      refine r_iload_n dX4_joined_114 rfl ?_
      refine r_iload_n dX4_joined_115 rfl ?_
      obtain ⟨hz, h⟩ := kbG_if h
      refine r_idiv dX4_joined_116 (of_decide_eq_true hz) ?_
      refine r_le [none, none, none] trivial ?_
      exact jnR_JO_joined_117 (a1 / a2) μ (hr := hr) h
    · replace h := kbG_t hc h
      refine r_iconst 0 dX4_joined_110 (by decide) ?_
      refine r_goto 117 dX4_joined_111 (by decide) ?_
      refine r_le [none, none, none] trivial ?_
      exact jnR_JO_joined_117 0 μ (hr := hr) h
  exact r_tabOut 106 dX4_joined_1 (kb_out fun q q1 q2 => by
    have hq : q = (-14) ∨ q = (-13) ∨ q = (-12) ∨ q = (-11) ∨ q = (-10) ∨ q = (-9) ∨ q = (-8) := by omega
    rcases hq with rfl | rfl | rfl | rfl | rfl | rfl | rfl
    · exact hc0
    · exact hc1
    · exact hc2
    · exact hc3
    · exact hc4
    · exact hc5
    · exact hc6) (by decide) hD
def jn_JO_valueOf_96 (w0 : Int32) (μ : kbM) : Option (Int32) :=
  some w0
theorem jnR_JO_valueOf_96 {l : Launch}   (w0 : Int32) (μ : kbM) {Q : kbQt} {P : Int32 → Prop} (hr : ∀ z : Int32, P z → Q (some (.int z)) μ) (h : kbG (jn_JO_valueOf_96 w0 μ) P) : kbR l MX4_valueOf 1 Q 96 [none, none, none, none] [.int w0] μ := by
  unfold jn_JO_valueOf_96 at h
  exact r_iret rfl dX4_valueOf_96 (hr w0 (kbG_some h))
def f_JO_valueOf (a1 : Int32) (a2 : Int32) (a3 : Int32) (μ : kbM) : Option (Int32) :=
  if a1 = (-5) then
    kbIf (kbIn a3 10) <|
    some (μ.1 15 a3.toNatClampNeg)
  else if a1 = (-4) then
    kbIf (kbIn a3 10) <|
    some (μ.1 17 a3.toNatClampNeg)
  else if a1 = (-3) then
    kbIf (kbIn a2 10) <|
    some (μ.1 17 a2.toNatClampNeg)
  else if a1 = (-2) then
    kbIf (kbIn a3 10) <|
    some (μ.1 16 a3.toNatClampNeg)
  else if a1 = (-1) then
    kbIf (kbIn a2 10) <|
    some (μ.1 16 a2.toNatClampNeg)
  else
    if a2 = a3 then
      jn_JO_valueOf_96 1 μ
    else
      jn_JO_valueOf_96 0 μ
theorem sp_JO_valueOf {l : Launch} (a1 : Int32) (a2 : Int32) (a3 : Int32) (μ : kbM)  {x : Int32} (h : f_JO_valueOf a1 a2 a3 μ = some x) : kbS l MX4_valueOf 1 [.ref 35, .int a1, .int a2, .int a3] μ (kbQe (some (.int x)) μ) := by
  refine kb_enter 0 rfl rfl ?_
  suffices H : ∀ (Q : kbQt) (P : Int32 → Prop), (∀ z : Int32, P z → Q (some (.int z)) μ) → kbG (f_JO_valueOf a1 a2 a3 μ) P → kbR l MX4_valueOf 1 Q 0 [some (.ref 35), some (.int a1), some (.int a2), some (.int a3)] [] μ from H _ (fun z => z = x) (fun z e => by subst e; exact ⟨rfl, rfl⟩) ⟨x, h, rfl⟩
  clear h
  intro Q P hr h
  unfold f_JO_valueOf at h
  refine r_iload_n dX4_valueOf_0 rfl ?_
  by_cases hc0 : a1 = (-5)
  · replace h := kbG_t hc0 h
    refine r_tabIn 76 dX4_valueOf_1 (by rw [hc0]; decide) (by rw [hc0]; decide) (by rw [hc0]; rfl) (by decide) ?_
    refine r_aload_n dX4_valueOf_76 rfl ?_
    refine r_getR flX4_21 sh35 rfl dX4_valueOf_77 ?_
    refine r_getR flX4_68 sh13 rfl dX4_valueOf_80 ?_
    refine r_iload_n dX4_valueOf_83 rfl ?_
    obtain ⟨hin, h⟩ := kbG_if h
    replace hin := kbIn_of hin
    refine q_iald a3.toNatClampNeg rfl sh15 hin dX4_valueOf_84 ?_
    exact r_iret rfl dX4_valueOf_85 (hr (μ.1 15 a3.toNatClampNeg) (kbG_some h))
  replace h := kbG_f hc0 h
  by_cases hc1 : a1 = (-4)
  · replace h := kbG_t hc1 h
    refine r_tabIn 66 dX4_valueOf_1 (by rw [hc1]; decide) (by rw [hc1]; decide) (by rw [hc1]; rfl) (by decide) ?_
    refine r_aload_n dX4_valueOf_66 rfl ?_
    refine r_getR flX4_21 sh35 rfl dX4_valueOf_67 ?_
    refine r_getR flX4_65 sh13 rfl dX4_valueOf_70 ?_
    refine r_iload_n dX4_valueOf_73 rfl ?_
    obtain ⟨hin, h⟩ := kbG_if h
    replace hin := kbIn_of hin
    refine q_iald a3.toNatClampNeg rfl sh17 hin dX4_valueOf_74 ?_
    exact r_iret rfl dX4_valueOf_75 (hr (μ.1 17 a3.toNatClampNeg) (kbG_some h))
  replace h := kbG_f hc1 h
  by_cases hc2 : a1 = (-3)
  · replace h := kbG_t hc2 h
    refine r_tabIn 56 dX4_valueOf_1 (by rw [hc2]; decide) (by rw [hc2]; decide) (by rw [hc2]; rfl) (by decide) ?_
    refine r_aload_n dX4_valueOf_56 rfl ?_
    refine r_getR flX4_21 sh35 rfl dX4_valueOf_57 ?_
    refine r_getR flX4_65 sh13 rfl dX4_valueOf_60 ?_
    refine r_iload_n dX4_valueOf_63 rfl ?_
    obtain ⟨hin, h⟩ := kbG_if h
    replace hin := kbIn_of hin
    refine q_iald a2.toNatClampNeg rfl sh17 hin dX4_valueOf_64 ?_
    exact r_iret rfl dX4_valueOf_65 (hr (μ.1 17 a2.toNatClampNeg) (kbG_some h))
  replace h := kbG_f hc2 h
  by_cases hc3 : a1 = (-2)
  · replace h := kbG_t hc3 h
    refine r_tabIn 46 dX4_valueOf_1 (by rw [hc3]; decide) (by rw [hc3]; decide) (by rw [hc3]; rfl) (by decide) ?_
    refine r_aload_n dX4_valueOf_46 rfl ?_
    refine r_getR flX4_21 sh35 rfl dX4_valueOf_47 ?_
    refine r_getR flX4_60 sh13 rfl dX4_valueOf_50 ?_
    refine r_iload_n dX4_valueOf_53 rfl ?_
    obtain ⟨hin, h⟩ := kbG_if h
    replace hin := kbIn_of hin
    refine q_iald a3.toNatClampNeg rfl sh16 hin dX4_valueOf_54 ?_
    exact r_iret rfl dX4_valueOf_55 (hr (μ.1 16 a3.toNatClampNeg) (kbG_some h))
  replace h := kbG_f hc3 h
  by_cases hc4 : a1 = (-1)
  · replace h := kbG_t hc4 h
    refine r_tabIn 36 dX4_valueOf_1 (by rw [hc4]; decide) (by rw [hc4]; decide) (by rw [hc4]; rfl) (by decide) ?_
    refine r_aload_n dX4_valueOf_36 rfl ?_
    refine r_getR flX4_21 sh35 rfl dX4_valueOf_37 ?_
    refine r_getR flX4_60 sh13 rfl dX4_valueOf_40 ?_
    refine r_iload_n dX4_valueOf_43 rfl ?_
    obtain ⟨hin, h⟩ := kbG_if h
    replace hin := kbIn_of hin
    refine q_iald a2.toNatClampNeg rfl sh16 hin dX4_valueOf_44 ?_
    exact r_iret rfl dX4_valueOf_45 (hr (μ.1 16 a2.toNatClampNeg) (kbG_some h))
  replace h := kbG_f hc4 h
  have hD : kbR l MX4_valueOf 1 Q 86 [some (.ref 35), some (.int a1), some (.int a2), some (.int a3)] [] μ := by
    refine r_iload_n dX4_valueOf_86 rfl ?_
    refine r_iload_n dX4_valueOf_87 rfl ?_
    refine r_icmp_ne 95 dX4_valueOf_88 (by decide) (fun hc => ?_) (fun hc => ?_)
    · replace h := kbG_f hc h
      refine r_iconst 0 dX4_valueOf_95 (by decide) ?_
      refine r_le [none, none, none, none] trivial ?_
      exact jnR_JO_valueOf_96 0 μ (hr := hr) h
    · replace h := kbG_t hc h
      refine r_iconst 1 dX4_valueOf_91 (by decide) ?_
      refine r_goto 96 dX4_valueOf_92 (by decide) ?_
      refine r_le [none, none, none, none] trivial ?_
      exact jnR_JO_valueOf_96 1 μ (hr := hr) h
  exact r_tabOut 86 dX4_valueOf_1 (kb_out fun q q1 q2 => by
    have hq : q = (-5) ∨ q = (-4) ∨ q = (-3) ∨ q = (-2) ∨ q = (-1) := by omega
    rcases hq with rfl | rfl | rfl | rfl | rfl
    · exact hc0
    · exact hc1
    · exact hc2
    · exact hc3
    · exact hc4) (by decide) hD
def jn_JO_value_140 (n : Nat) (rec : Int32 → Int32 → kbM → Option (Int32 × kbM)) (v1 : Int32) (v2 : Int32) (v3 : Int32) (v4 : Int32) (μ : kbM) : Option (Int32 × kbM) :=
  rec v3 (v4 + 1) μ
theorem jnR_JO_value_140 {l : Launch} (n : Nat)   (v1 : Int32) (v2 : Int32) (v3 : Int32) (v4 : Int32) (μ : kbM) {Q : kbQt} {P : Int32 × kbM → Prop} (hx : ∀ z : Int32 × kbM, P (z) → kbR l MX4_value 2 Q 146 [some (.ref 35), none, none, some (.int z.1), none, none] [] z.2) {rec : Int32 → Int32 → kbM → Option (Int32 × kbM)} (hrec : ∀ (v3 : Int32) (v4 : Int32) (μ : kbM), kbG (rec v3 v4 μ) P → kbR l MX4_value 2 Q 5 [some (.ref 35), some (.int v1), some (.int v2), some (.int v3), some (.int v4), none] [] μ) (h : kbG (jn_JO_value_140 n rec v1 v2 v3 v4 μ) P) : kbR l MX4_value 2 Q 140 [some (.ref 35), some (.int v1), some (.int v2), some (.int v3), some (.int v4), none] [] μ := by
  unfold jn_JO_value_140 at h
  refine r_iinc 1 dX4_value_140 rfl (by decide) (Nat.le_of_ble_eq_true rfl) rfl ?_
  refine r_goto 5 dX4_value_143 (by decide) ?_
  refine r_le [some (.ref 35), some (.int v1), some (.int v2), some (.int v3), some (.int (v4 + 1)), none] ⟨rfl, ⟨rfl, ⟨rfl, ⟨rfl, ⟨rfl, trivial⟩⟩⟩⟩⟩ ?_
  exact hrec v3 (v4 + 1) μ h
def jn_JO_value_101 (n : Nat) (rec : Int32 → Int32 → kbM → Option (Int32 × kbM)) (v1 : Int32) (v2 : Int32) (v3 : Int32) (v4 : Int32) (w1 : Int32) (w2 : Int32) (μ : kbM) : Option (Int32 × kbM) :=
  kbIf (kbIn w1 64) <|
  jn_JO_value_140 n rec v1 v2 v3 v4 (kbW μ 37 w1.toNatClampNeg w2)
theorem jnR_JO_value_101 {l : Launch} (n : Nat)   (v1 : Int32) (v2 : Int32) (v3 : Int32) (v4 : Int32) (w1 : Int32) (w2 : Int32) (μ : kbM) {Q : kbQt} {P : Int32 × kbM → Prop} (hx : ∀ z : Int32 × kbM, P (z) → kbR l MX4_value 2 Q 146 [some (.ref 35), none, none, some (.int z.1), none, none] [] z.2) {rec : Int32 → Int32 → kbM → Option (Int32 × kbM)} (hrec : ∀ (v3 : Int32) (v4 : Int32) (μ : kbM), kbG (rec v3 v4 μ) P → kbR l MX4_value 2 Q 5 [some (.ref 35), some (.int v1), some (.int v2), some (.int v3), some (.int v4), none] [] μ) (h : kbG (jn_JO_value_101 n rec v1 v2 v3 v4 w1 w2 μ) P) : kbR l MX4_value 2 Q 101 [some (.ref 35), some (.int v1), some (.int v2), some (.int v3), some (.int v4), none] [.int w2, .int w1, .ref 37] μ := by
  unfold jn_JO_value_101 at h
  obtain ⟨hin, h⟩ := kbG_if h
  replace hin := kbIn_of hin
  refine q_iast w1.toNatClampNeg rfl sh37 hin dX4_value_101 ?_
  refine r_goto 140 dX4_value_102 (by decide) ?_
  refine r_le [some (.ref 35), some (.int v1), some (.int v2), some (.int v3), some (.int v4), none] ⟨rfl, ⟨rfl, ⟨rfl, ⟨rfl, ⟨rfl, trivial⟩⟩⟩⟩⟩ ?_
  exact jnR_JO_value_140 n v1 v2 v3 v4 (kbW μ 37 w1.toNatClampNeg w2) (hx := hx) (hrec := hrec) h
def jn_JO_value_59 (n : Nat) (rec : Int32 → Int32 → kbM → Option (Int32 × kbM)) (v1 : Int32) (v2 : Int32) (v3 : Int32) (v4 : Int32) (w1 : Int32) (w2 : Int32) (μ : kbM) : Option (Int32 × kbM) :=
  kbIf (kbIn w1 64) <|
  jn_JO_value_140 n rec v1 v2 (v3 + 1) v4 (kbW μ 37 w1.toNatClampNeg w2)
theorem jnR_JO_value_59 {l : Launch} (n : Nat)   (v1 : Int32) (v2 : Int32) (v3 : Int32) (v4 : Int32) (w1 : Int32) (w2 : Int32) (μ : kbM) {Q : kbQt} {P : Int32 × kbM → Prop} (hx : ∀ z : Int32 × kbM, P (z) → kbR l MX4_value 2 Q 146 [some (.ref 35), none, none, some (.int z.1), none, none] [] z.2) {rec : Int32 → Int32 → kbM → Option (Int32 × kbM)} (hrec : ∀ (v3 : Int32) (v4 : Int32) (μ : kbM), kbG (rec v3 v4 μ) P → kbR l MX4_value 2 Q 5 [some (.ref 35), some (.int v1), some (.int v2), some (.int v3), some (.int v4), none] [] μ) (h : kbG (jn_JO_value_59 n rec v1 v2 v3 v4 w1 w2 μ) P) : kbR l MX4_value 2 Q 59 [some (.ref 35), some (.int v1), some (.int v2), some (.int v3), some (.int v4), none] [.int w2, .int w1, .ref 37] μ := by
  unfold jn_JO_value_59 at h
  obtain ⟨hin, h⟩ := kbG_if h
  replace hin := kbIn_of hin
  refine q_iast w1.toNatClampNeg rfl sh37 hin dX4_value_59 ?_
  refine r_iinc 1 dX4_value_60 rfl (by decide) (Nat.le_of_ble_eq_true rfl) rfl ?_
  refine r_goto 140 dX4_value_63 (by decide) ?_
  refine r_le [some (.ref 35), some (.int v1), some (.int v2), some (.int (v3 + 1)), some (.int v4), none] ⟨rfl, ⟨rfl, ⟨rfl, ⟨rfl, ⟨rfl, trivial⟩⟩⟩⟩⟩ ?_
  exact jnR_JO_value_140 n v1 v2 (v3 + 1) v4 (kbW μ 37 w1.toNatClampNeg w2) (hx := hx) (hrec := hrec) h
def lp_JO_value_5 (n : Nat) (v1 : Int32) (v2 : Int32) : Nat → Int32 → Int32 → kbM → Option (Int32 × kbM)
  | 0, _, _, _ => none
  | k + 1, v3, v4, μ =>
    if (μ.1 35 4) ≤ v4 then
      some ((v3, μ))
    else
      kbIf (kbIn v4 600) <|
      if (μ.1 36 v4.toNatClampNeg) < (-6) then
        if (μ.1 36 v4.toNatClampNeg) = (-7) then
          if v3 < 1 then
            jn_JO_value_140 n (lp_JO_value_5 n v1 v2 k) v1 v2 v3 v4 μ
          else
            kbIf (kbIn (v3 - 1) 64) <|
            if (μ.1 37 ((v3 - 1).toNatClampNeg)) = 0 then
              jn_JO_value_101 n (lp_JO_value_5 n v1 v2 k) v1 v2 v3 v4 (v3 - 1) 1 μ
            else
              jn_JO_value_101 n (lp_JO_value_5 n v1 v2 k) v1 v2 v3 v4 (v3 - 1) 0 μ
        else
          if v3 < 2 then
            jn_JO_value_140 n (lp_JO_value_5 n v1 v2 k) v1 v2 v3 v4 μ
          else
            kbIf (kbIn ((v3 + (-1)) - 1) 64) <|
            kbIf (kbIn (v3 + (-1)) 64) <|
            (f_JO_joined (μ.1 36 v4.toNatClampNeg) (μ.1 37 (((v3 + (-1)) - 1).toNatClampNeg)) (μ.1 37 ((v3 + (-1)).toNatClampNeg))).bind fun x1 =>
            kbIf (kbIn ((v3 + (-1)) - 1) 64) <|
            jn_JO_value_140 n (lp_JO_value_5 n v1 v2 k) v1 v2 (v3 + (-1)) v4 (kbW μ 37 (((v3 + (-1)) - 1).toNatClampNeg) x1)
      else
        if 64 ≤ v3 then
          jn_JO_value_140 n (lp_JO_value_5 n v1 v2 k) v1 v2 v3 v4 μ
        else
          if (μ.1 36 v4.toNatClampNeg) < 0 then
            (f_JO_valueOf (μ.1 36 v4.toNatClampNeg) v1 v2 μ).bind fun x2 =>
            jn_JO_value_59 n (lp_JO_value_5 n v1 v2 k) v1 v2 v3 v4 v3 x2 μ
          else
            jn_JO_value_59 n (lp_JO_value_5 n v1 v2 k) v1 v2 v3 v4 v3 (μ.1 36 v4.toNatClampNeg) μ
theorem lpR_JO_value_5 {l : Launch} (n : Nat) (v1 : Int32) (v2 : Int32)  {Q : kbQt} {P : Int32 × kbM → Prop} (hx : ∀ z : Int32 × kbM, P (z) → kbR l MX4_value 2 Q 146 [some (.ref 35), none, none, some (.int z.1), none, none] [] z.2) : ∀ (k : Nat) (v3 : Int32) (v4 : Int32) (μ : kbM), kbG (lp_JO_value_5 n v1 v2 k v3 v4 μ) P → kbR l MX4_value 2 Q 5 [some (.ref 35), some (.int v1), some (.int v2), some (.int v3), some (.int v4), none] [] μ := by
  intro k
  induction k with
  | zero => intro v3 v4 μ h; exact absurd h kbG_none
  | succ k ih =>
    intro v3 v4 μ h
    unfold lp_JO_value_5 at h
    refine r_iload dX4_value_5 rfl ?_
    refine r_aload_n dX4_value_7 rfl ?_
    refine r_getI flX4_37 sh35 rfl dX4_value_8 ?_
    refine r_icmp_ge 146 dX4_value_11 (by decide) (fun hc => ?_) (fun hc => ?_)
    · replace h := kbG_t hc h
      refine r_le [some (.ref 35), none, none, some (.int v3), none, none] ⟨rfl, ⟨rfl, trivial⟩⟩ ?_
      exact hx ((v3, μ)) (kbG_some h)
    · replace h := kbG_f hc h
      refine r_aload_n dX4_value_14 rfl ?_
      refine r_getR flX4_9 sh35 rfl dX4_value_15 ?_
      refine r_iload dX4_value_18 rfl ?_
      obtain ⟨hin, h⟩ := kbG_if h
      replace hin := kbIn_of hin
      refine q_iald v4.toNatClampNeg rfl sh36 hin dX4_value_20 ?_
      refine r_istore dX4_value_21 (Nat.le_of_ble_eq_true rfl) rfl ?_
      refine r_iload dX4_value_23 rfl ?_
      refine r_bipush (-6) dX4_value_25 (by decide) ?_
      refine r_icmp_lt 66 dX4_value_27 (by decide) (fun hc => ?_) (fun hc => ?_)
      · replace h := kbG_t hc h
        refine r_iload dX4_value_66 rfl ?_
        refine r_bipush (-7) dX4_value_68 (by decide) ?_
        refine r_icmp_ne 105 dX4_value_70 (by decide) (fun hc => ?_) (fun hc => ?_)
        · replace h := kbG_f hc h
          refine r_iload_n dX4_value_105 rfl ?_
          refine r_iconst 2 dX4_value_106 (by decide) ?_
          refine r_icmp_lt 140 dX4_value_107 (by decide) (fun hc => ?_) (fun hc => ?_)
          · replace h := kbG_t hc h
            refine r_le [some (.ref 35), some (.int v1), some (.int v2), some (.int v3), some (.int v4), none] ⟨rfl, ⟨rfl, ⟨rfl, ⟨rfl, ⟨rfl, trivial⟩⟩⟩⟩⟩ ?_
            exact jnR_JO_value_140 n v1 v2 v3 v4 μ (hx := hx) (hrec := ih) h
          · replace h := kbG_f hc h
            refine r_iinc (-1) dX4_value_110 rfl (by decide) (Nat.le_of_ble_eq_true rfl) rfl ?_
            refine r_aload_n dX4_value_113 rfl ?_
            refine r_getR flX4_15 sh35 rfl dX4_value_114 ?_
            refine r_iload_n dX4_value_117 rfl ?_
            refine r_iconst 1 dX4_value_118 (by decide) ?_
            refine r_isub dX4_value_119 ?_
            refine r_iload dX4_value_120 rfl ?_
            refine r_aload_n dX4_value_122 rfl ?_
            refine r_getR flX4_15 sh35 rfl dX4_value_123 ?_
            refine r_iload_n dX4_value_126 rfl ?_
            refine r_iconst 1 dX4_value_127 (by decide) ?_
            refine r_isub dX4_value_128 ?_
            obtain ⟨hin, h⟩ := kbG_if h
            replace hin := kbIn_of hin
            refine q_iald (((v3 + (-1)) - 1).toNatClampNeg) rfl sh37 hin dX4_value_129 ?_
            refine r_aload_n dX4_value_130 rfl ?_
            refine r_getR flX4_15 sh35 rfl dX4_value_131 ?_
            refine r_iload_n dX4_value_134 rfl ?_
            obtain ⟨hin, h⟩ := kbG_if h
            replace hin := kbIn_of hin
            refine q_iald ((v3 + (-1)).toNatClampNeg) rfl sh37 hin dX4_value_135 ?_
            obtain ⟨x1, hx0, h⟩ := kbG_bind h
            refine r_inv_i csX4_57 (sp_JO_joined (μ.1 36 v4.toNatClampNeg) (μ.1 37 (((v3 + (-1)) - 1).toNatClampNeg)) (μ.1 37 ((v3 + (-1)).toNatClampNeg)) μ hx0) rfl rfl (Nat.le_of_ble_eq_true rfl) (Nat.le_of_ble_eq_true rfl) dX4_value_136 ?_
            obtain ⟨hin, h⟩ := kbG_if h
            replace hin := kbIn_of hin
            refine q_iast (((v3 + (-1)) - 1).toNatClampNeg) rfl sh37 hin dX4_value_139 ?_
            refine r_le [some (.ref 35), some (.int v1), some (.int v2), some (.int (v3 + (-1))), some (.int v4), none] ⟨rfl, ⟨rfl, ⟨rfl, ⟨rfl, ⟨rfl, trivial⟩⟩⟩⟩⟩ ?_
            exact jnR_JO_value_140 n v1 v2 (v3 + (-1)) v4 (kbW μ 37 (((v3 + (-1)) - 1).toNatClampNeg) x1) (hx := hx) (hrec := ih) h
        · replace h := kbG_t hc h
          refine r_iload_n dX4_value_73 rfl ?_
          refine r_iconst 1 dX4_value_74 (by decide) ?_
          refine r_icmp_lt 140 dX4_value_75 (by decide) (fun hc => ?_) (fun hc => ?_)
          · replace h := kbG_t hc h
            refine r_le [some (.ref 35), some (.int v1), some (.int v2), some (.int v3), some (.int v4), none] ⟨rfl, ⟨rfl, ⟨rfl, ⟨rfl, ⟨rfl, trivial⟩⟩⟩⟩⟩ ?_
            exact jnR_JO_value_140 n v1 v2 v3 v4 μ (hx := hx) (hrec := ih) h
          · replace h := kbG_f hc h
            refine r_aload_n dX4_value_78 rfl ?_
            refine r_getR flX4_15 sh35 rfl dX4_value_79 ?_
            refine r_iload_n dX4_value_82 rfl ?_
            refine r_iconst 1 dX4_value_83 (by decide) ?_
            refine r_isub dX4_value_84 ?_
            refine r_aload_n dX4_value_85 rfl ?_
            refine r_getR flX4_15 sh35 rfl dX4_value_86 ?_
            refine r_iload_n dX4_value_89 rfl ?_
            refine r_iconst 1 dX4_value_90 (by decide) ?_
            refine r_isub dX4_value_91 ?_
            obtain ⟨hin, h⟩ := kbG_if h
            replace hin := kbIn_of hin
            refine q_iald ((v3 - 1).toNatClampNeg) rfl sh37 hin dX4_value_92 ?_
            refine r_if_ne 100 dX4_value_93 (by decide) (fun hc => ?_) (fun hc => ?_)
            · replace h := kbG_f hc h
              refine r_iconst 0 dX4_value_100 (by decide) ?_
              refine r_le [some (.ref 35), some (.int v1), some (.int v2), some (.int v3), some (.int v4), none] ⟨rfl, ⟨rfl, ⟨rfl, ⟨rfl, ⟨rfl, trivial⟩⟩⟩⟩⟩ ?_
              exact jnR_JO_value_101 n v1 v2 v3 v4 (v3 - 1) 0 μ (hx := hx) (hrec := ih) h
            · replace h := kbG_t hc h
              refine r_iconst 1 dX4_value_96 (by decide) ?_
              refine r_goto 101 dX4_value_97 (by decide) ?_
              refine r_le [some (.ref 35), some (.int v1), some (.int v2), some (.int v3), some (.int v4), none] ⟨rfl, ⟨rfl, ⟨rfl, ⟨rfl, ⟨rfl, trivial⟩⟩⟩⟩⟩ ?_
              exact jnR_JO_value_101 n v1 v2 v3 v4 (v3 - 1) 1 μ (hx := hx) (hrec := ih) h
      · replace h := kbG_f hc h
        refine r_iload_n dX4_value_30 rfl ?_
        refine r_bipush 64 dX4_value_31 (by decide) ?_
        refine r_icmp_ge 140 dX4_value_33 (by decide) (fun hc => ?_) (fun hc => ?_)
        · replace h := kbG_t hc h
          refine r_le [some (.ref 35), some (.int v1), some (.int v2), some (.int v3), some (.int v4), none] ⟨rfl, ⟨rfl, ⟨rfl, ⟨rfl, ⟨rfl, trivial⟩⟩⟩⟩⟩ ?_
          exact jnR_JO_value_140 n v1 v2 v3 v4 μ (hx := hx) (hrec := ih) h
        · replace h := kbG_f hc h
          refine r_aload_n dX4_value_36 rfl ?_
          refine r_getR flX4_15 sh35 rfl dX4_value_37 ?_
          refine r_iload_n dX4_value_40 rfl ?_
          refine r_iload dX4_value_41 rfl ?_
          refine r_if_lt 51 dX4_value_43 (by decide) (fun hc => ?_) (fun hc => ?_)
          · replace h := kbG_t hc h
            refine r_aload_n dX4_value_51 rfl ?_
            refine r_iload dX4_value_52 rfl ?_
            refine r_iload_n dX4_value_54 rfl ?_
            refine r_iload_n dX4_value_55 rfl ?_
            obtain ⟨x2, hx0, h⟩ := kbG_bind h
            refine r_invV_i cvX4_53 sh35 rfl (sp_JO_valueOf (μ.1 36 v4.toNatClampNeg) v1 v2 μ hx0) rfl rfl (Nat.le_of_ble_eq_true rfl) (Nat.le_of_ble_eq_true rfl) dX4_value_56 ?_
            refine r_le [some (.ref 35), some (.int v1), some (.int v2), some (.int v3), some (.int v4), none] ⟨rfl, ⟨rfl, ⟨rfl, ⟨rfl, ⟨rfl, trivial⟩⟩⟩⟩⟩ ?_
            exact jnR_JO_value_59 n v1 v2 v3 v4 v3 x2 μ (hx := hx) (hrec := ih) h
          · replace h := kbG_f hc h
            refine r_iload dX4_value_46 rfl ?_
            refine r_goto 59 dX4_value_48 (by decide) ?_
            refine r_le [some (.ref 35), some (.int v1), some (.int v2), some (.int v3), some (.int v4), none] ⟨rfl, ⟨rfl, ⟨rfl, ⟨rfl, ⟨rfl, trivial⟩⟩⟩⟩⟩ ?_
            exact jnR_JO_value_59 n v1 v2 v3 v4 v3 (μ.1 36 v4.toNatClampNeg) μ (hx := hx) (hrec := ih) h
def jn_JO_value_163 (n : Nat) (w0 : Int32) (μ : kbM) : Option (Int32 × kbM) :=
  some ((w0, μ))
theorem jnR_JO_value_163 {l : Launch} (n : Nat)   (w0 : Int32) (μ : kbM) {Q : kbQt} {P : Int32 × kbM → Prop} (hr : ∀ z : Int32 × kbM, P z → Q (some (.int z.1)) z.2) (h : kbG (jn_JO_value_163 n w0 μ) P) : kbR l MX4_value 2 Q 163 [none, none, none, none, none, none] [.int w0] μ := by
  unfold jn_JO_value_163 at h
  exact r_iret rfl dX4_value_163 (hr ((w0, μ)) (kbG_some h))
def f_JO_value (n : Nat) (a1 : Int32) (a2 : Int32) (μ : kbM) : Option (Int32 × kbM) :=
  (lp_JO_value_5 n a1 a2 n 0 0 μ).bind fun x3 =>
  if x3.1 < 1 then
    jn_JO_value_163 n 0 x3.2
  else
    kbIf (kbIn (x3.1 - 1) 64) <|
    jn_JO_value_163 n (x3.2.1 37 ((x3.1 - 1).toNatClampNeg)) x3.2
theorem sp_JO_value {l : Launch} (n : Nat) (a1 : Int32) (a2 : Int32) (μ : kbM)  {x : Int32 × kbM} (h : f_JO_value n a1 a2 μ = some x) : kbS l MX4_value 2 [.ref 35, .int a1, .int a2] μ (kbQe (some (.int x.1)) x.2) := by
  refine kb_enter 3 rfl rfl ?_
  suffices H : ∀ (Q : kbQt) (P : Int32 × kbM → Prop), (∀ z : Int32 × kbM, P z → Q (some (.int z.1)) z.2) → kbG (f_JO_value n a1 a2 μ) P → kbR l MX4_value 2 Q 0 [some (.ref 35), some (.int a1), some (.int a2), none, none, none] [] μ from H _ (fun z => z = x) (fun z e => by subst e; exact ⟨rfl, rfl⟩) ⟨x, h, rfl⟩
  clear h
  intro Q P hr h
  unfold f_JO_value at h
  refine r_iconst 0 dX4_value_0 (by decide) ?_
  refine r_istore_n dX4_value_1 (Nat.le_of_ble_eq_true rfl) rfl ?_
  refine r_iconst 0 dX4_value_2 (by decide) ?_
  refine r_istore dX4_value_3 (Nat.le_of_ble_eq_true rfl) rfl ?_
  refine r_le [some (.ref 35), some (.int a1), some (.int a2), some (.int 0), some (.int 0), none] ⟨rfl, ⟨rfl, ⟨rfl, ⟨rfl, ⟨rfl, trivial⟩⟩⟩⟩⟩ ?_
  obtain ⟨x3, hx0, h⟩ := kbG_bind h
  refine lpR_JO_value_5 n a1 a2 (P := fun z => x3 = z) (hx := fun z e => ?_) n _ _ _ ⟨_, hx0, rfl⟩
  subst e
  refine r_iload_n dX4_value_146 rfl ?_
  refine r_iconst 1 dX4_value_147 (by decide) ?_
  refine r_icmp_lt 162 dX4_value_148 (by decide) (fun hc => ?_) (fun hc => ?_)
  · replace h := kbG_t hc h
    refine r_iconst 0 dX4_value_162 (by decide) ?_
    refine r_le [none, none, none, none, none, none] trivial ?_
    exact jnR_JO_value_163 n 0 x3.2 (hr := hr) h
  · replace h := kbG_f hc h
    refine r_aload_n dX4_value_151 rfl ?_
    refine r_getR flX4_15 sh35 rfl dX4_value_152 ?_
    refine r_iload_n dX4_value_155 rfl ?_
    refine r_iconst 1 dX4_value_156 (by decide) ?_
    refine r_isub dX4_value_157 ?_
    obtain ⟨hin, h⟩ := kbG_if h
    replace hin := kbIn_of hin
    refine q_iald ((x3.1 - 1).toNatClampNeg) rfl sh37 hin dX4_value_158 ?_
    refine r_goto 163 dX4_value_159 (by decide) ?_
    refine r_le [none, none, none, none, none, none] trivial ?_
    exact jnR_JO_value_163 n (x3.2.1 37 ((x3.1 - 1).toNatClampNeg)) x3.2 (hr := hr) h
def jn_JO_mayFollow_60 (n : Nat) (w0 : Int32) (μ : kbM) : Option (Int32 × kbM) :=
  kbIf (decide (w0 = 0 ∨ w0 = 1)) <|
  some ((w0, μ))
theorem jnR_JO_mayFollow_60 {l : Launch} (n : Nat)   (w0 : Int32) (μ : kbM) {Q : kbQt} {P : Int32 × kbM → Prop} (hr : ∀ z : Int32 × kbM, P z → Q (some (.int z.1)) z.2) (h : kbG (jn_JO_mayFollow_60 n w0 μ) P) : kbR l MX4_mayFollow 3 Q 60 [none, none, none, none] [.int w0] μ := by
  unfold jn_JO_mayFollow_60 at h
  obtain ⟨hz, h⟩ := kbG_if h
  exact r_zret rfl (kb_z01 (of_decide_eq_true hz)) dX4_mayFollow_60 (hr ((w0, μ)) (kbG_some h))
def jn_JO_mayFollow_45 (n : Nat) (v3 : Int32) (μ : kbM) : Option (Int32 × kbM) :=
  kbIf (kbIn v3 100) <|
  if (μ.1 38 v3.toNatClampNeg) = 1 then
    jn_JO_mayFollow_60 n 1 μ
  else
    jn_JO_mayFollow_60 n 0 μ
theorem jnR_JO_mayFollow_45 {l : Launch} (n : Nat)   (v3 : Int32) (μ : kbM) {Q : kbQt} {P : Int32 × kbM → Prop} (hr : ∀ z : Int32 × kbM, P z → Q (some (.int z.1)) z.2) (h : kbG (jn_JO_mayFollow_45 n v3 μ) P) : kbR l MX4_mayFollow 3 Q 45 [some (.ref 35), none, none, some (.int v3)] [] μ := by
  unfold jn_JO_mayFollow_45 at h
  refine r_aload_n dX4_mayFollow_45 rfl ?_
  refine r_getR flX4_18 sh35 rfl dX4_mayFollow_46 ?_
  refine r_iload_n dX4_mayFollow_49 rfl ?_
  obtain ⟨hin, h⟩ := kbG_if h
  replace hin := kbIn_of hin
  refine q_iald v3.toNatClampNeg rfl sh38 hin dX4_mayFollow_50 ?_
  refine r_iconst 1 dX4_mayFollow_51 (by decide) ?_
  refine r_icmp_ne 59 dX4_mayFollow_52 (by decide) (fun hc => ?_) (fun hc => ?_)
  · replace h := kbG_f hc h
    refine r_iconst 0 dX4_mayFollow_59 (by decide) ?_
    refine r_le [none, none, none, none] trivial ?_
    exact jnR_JO_mayFollow_60 n 0 μ (hr := hr) h
  · replace h := kbG_t hc h
    refine r_iconst 1 dX4_mayFollow_55 (by decide) ?_
    refine r_goto 60 dX4_mayFollow_56 (by decide) ?_
    refine r_le [none, none, none, none] trivial ?_
    exact jnR_JO_mayFollow_60 n 1 μ (hr := hr) h
def jn_JO_mayFollow_44 (n : Nat) (v3 : Int32) (w1 : Int32) (w2 : Int32) (μ : kbM) : Option (Int32 × kbM) :=
  kbIf (kbIn w1 100) <|
  jn_JO_mayFollow_45 n v3 (kbW μ 38 w1.toNatClampNeg w2)
theorem jnR_JO_mayFollow_44 {l : Launch} (n : Nat)   (v3 : Int32) (w1 : Int32) (w2 : Int32) (μ : kbM) {Q : kbQt} {P : Int32 × kbM → Prop} (hr : ∀ z : Int32 × kbM, P z → Q (some (.int z.1)) z.2) (h : kbG (jn_JO_mayFollow_44 n v3 w1 w2 μ) P) : kbR l MX4_mayFollow 3 Q 44 [some (.ref 35), none, none, some (.int v3)] [.int w2, .int w1, .ref 38] μ := by
  unfold jn_JO_mayFollow_44 at h
  obtain ⟨hin, h⟩ := kbG_if h
  replace hin := kbIn_of hin
  refine q_iast w1.toNatClampNeg rfl sh38 hin dX4_mayFollow_44 ?_
  refine r_le [some (.ref 35), none, none, some (.int v3)] ⟨rfl, ⟨rfl, trivial⟩⟩ ?_
  exact jnR_JO_mayFollow_45 n v3 (kbW μ 38 w1.toNatClampNeg w2) (hr := hr) h
def f_JO_mayFollow (n : Nat) (a1 : Int32) (a2 : Int32) (μ : kbM) : Option (Int32 × kbM) :=
  if (μ.1 35 4) = 0 then
    some ((1, μ))
  else
    kbIf (kbIn ((a1 * 10) + a2) 100) <|
    if (μ.1 38 (((a1 * 10) + a2).toNatClampNeg)) = 0 then
      (f_JO_value n a1 a2 μ).bind fun x1 =>
      if x1.1 = 0 then
        jn_JO_mayFollow_44 n ((a1 * 10) + a2) ((a1 * 10) + a2) 2 x1.2
      else
        jn_JO_mayFollow_44 n ((a1 * 10) + a2) ((a1 * 10) + a2) 1 x1.2
    else
      jn_JO_mayFollow_45 n ((a1 * 10) + a2) μ
theorem sp_JO_mayFollow {l : Launch} (n : Nat) (a1 : Int32) (a2 : Int32) (μ : kbM)  {x : Int32 × kbM} (h : f_JO_mayFollow n a1 a2 μ = some x) : kbS l MX4_mayFollow 3 [.ref 35, .int a1, .int a2] μ (kbQe (some (.int x.1)) x.2) := by
  refine kb_enter 1 rfl rfl ?_
  suffices H : ∀ (Q : kbQt) (P : Int32 × kbM → Prop), (∀ z : Int32 × kbM, P z → Q (some (.int z.1)) z.2) → kbG (f_JO_mayFollow n a1 a2 μ) P → kbR l MX4_mayFollow 3 Q 0 [some (.ref 35), some (.int a1), some (.int a2), none] [] μ from H _ (fun z => z = x) (fun z e => by subst e; exact ⟨rfl, rfl⟩) ⟨x, h, rfl⟩
  clear h
  intro Q P hr h
  unfold f_JO_mayFollow at h
  refine r_aload_n dX4_mayFollow_0 rfl ?_
  refine r_getI flX4_37 sh35 rfl dX4_mayFollow_1 ?_
  refine r_if_ne 9 dX4_mayFollow_4 (by decide) (fun hc => ?_) (fun hc => ?_)
  · replace h := kbG_f hc h
    refine r_iload_n dX4_mayFollow_9 rfl ?_
    refine r_bipush 10 dX4_mayFollow_10 (by decide) ?_
    refine r_imul dX4_mayFollow_12 ?_
    refine r_iload_n dX4_mayFollow_13 rfl ?_
    refine r_iadd dX4_mayFollow_14 ?_
    refine r_istore_n dX4_mayFollow_15 (Nat.le_of_ble_eq_true rfl) rfl ?_
    refine r_aload_n dX4_mayFollow_16 rfl ?_
    refine r_getR flX4_18 sh35 rfl dX4_mayFollow_17 ?_
    refine r_iload_n dX4_mayFollow_20 rfl ?_
    obtain ⟨hin, h⟩ := kbG_if h
    replace hin := kbIn_of hin
    refine q_iald (((a1 * 10) + a2).toNatClampNeg) rfl sh38 hin dX4_mayFollow_21 ?_
    refine r_if_ne 45 dX4_mayFollow_22 (by decide) (fun hc => ?_) (fun hc => ?_)
    · replace h := kbG_f hc h
      refine r_le [some (.ref 35), none, none, some (.int ((a1 * 10) + a2))] ⟨rfl, ⟨rfl, trivial⟩⟩ ?_
      exact jnR_JO_mayFollow_45 n ((a1 * 10) + a2) μ (hr := hr) h
    · replace h := kbG_t hc h
      refine r_aload_n dX4_mayFollow_25 rfl ?_
      refine r_getR flX4_18 sh35 rfl dX4_mayFollow_26 ?_
      refine r_iload_n dX4_mayFollow_29 rfl ?_
      refine r_aload_n dX4_mayFollow_30 rfl ?_
      refine r_iload_n dX4_mayFollow_31 rfl ?_
      refine r_iload_n dX4_mayFollow_32 rfl ?_
      obtain ⟨x1, hx0, h⟩ := kbG_bind h
      refine r_invV_i cvX4_50 sh35 rfl (sp_JO_value n a1 a2 μ hx0) rfl rfl (Nat.le_of_ble_eq_true rfl) (Nat.le_of_ble_eq_true rfl) dX4_mayFollow_33 ?_
      refine r_if_eq 43 dX4_mayFollow_36 (by decide) (fun hc => ?_) (fun hc => ?_)
      · replace h := kbG_t hc h
        refine r_iconst 2 dX4_mayFollow_43 (by decide) ?_
        refine r_le [some (.ref 35), none, none, some (.int ((a1 * 10) + a2))] ⟨rfl, ⟨rfl, trivial⟩⟩ ?_
        exact jnR_JO_mayFollow_44 n ((a1 * 10) + a2) ((a1 * 10) + a2) 2 x1.2 (hr := hr) h
      · replace h := kbG_f hc h
        refine r_iconst 1 dX4_mayFollow_39 (by decide) ?_
        refine r_goto 44 dX4_mayFollow_40 (by decide) ?_
        refine r_le [some (.ref 35), none, none, some (.int ((a1 * 10) + a2))] ⟨rfl, ⟨rfl, trivial⟩⟩ ?_
        exact jnR_JO_mayFollow_44 n ((a1 * 10) + a2) ((a1 * 10) + a2) 1 x1.2 (hr := hr) h
  · replace h := kbG_t hc h
    refine r_iconst 1 dX4_mayFollow_7 (by decide) ?_
    exact r_zret rfl rfl dX4_mayFollow_8 (hr ((1, μ)) (kbG_some h))
