theorem dX5_isUnderstood_0 : decode cX5_isUnderstood 0 = .ok (.aload_n 0, 1) := by decide +kernel
theorem dX5_isUnderstood_1 : decode cX5_isUnderstood 1 = .ok (.getfield 22, 3) := by decide +kernel
theorem dX5_isUnderstood_4 : decode cX5_isUnderstood 4 = .ok (.aload_n 0, 1) := by decide +kernel
theorem dX5_isUnderstood_5 : decode cX5_isUnderstood 5 = .ok (.getfield 18, 3) := by decide +kernel
theorem dX5_isUnderstood_8 : decode cX5_isUnderstood 8 = .ok (.iload_n 2, 1) := by decide +kernel
theorem dX5_isUnderstood_9 : decode cX5_isUnderstood 9 = .ok (.aload_n 0, 1) := by decide +kernel
theorem dX5_isUnderstood_10 : decode cX5_isUnderstood 10 = .ok (.getfield 32, 3) := by decide +kernel
theorem dX5_isUnderstood_13 : decode cX5_isUnderstood 13 = .ok (.getfield 46, 3) := by decide +kernel
theorem dX5_isUnderstood_16 : decode cX5_isUnderstood 16 = .ok (.iload_n 1, 1) := by decide +kernel
theorem dX5_isUnderstood_17 : decode cX5_isUnderstood 17 = .ok (.iaload, 1) := by decide +kernel
theorem dX5_isUnderstood_18 : decode cX5_isUnderstood 18 = .ok (.invokevirtual 49, 3) := by decide +kernel
theorem dX5_isUnderstood_21 : decode cX5_isUnderstood 21 = .ok (.invokevirtual 53, 3) := by decide +kernel
theorem dX5_isUnderstood_24 : decode cX5_isUnderstood 24 = .ok (.iload_n 1, 1) := by decide +kernel
theorem dX5_isUnderstood_25 : decode cX5_isUnderstood 25 = .ok (.if_icmp .ne 7, 3) := by decide +kernel
theorem dX5_isUnderstood_28 : decode cX5_isUnderstood 28 = .ok (.iconst 1, 1) := by decide +kernel
theorem dX5_isUnderstood_29 : decode cX5_isUnderstood 29 = .ok (.goto 4, 3) := by decide +kernel
theorem dX5_isUnderstood_32 : decode cX5_isUnderstood 32 = .ok (.iconst 0, 1) := by decide +kernel
theorem dX5_isUnderstood_33 : decode cX5_isUnderstood 33 = .ok (.ireturn, 1) := by decide +kernel
theorem dX5_passing_0 : decode cX5_passing 0 = .ok (.iconst 0, 1) := by decide +kernel
theorem dX5_passing_1 : decode cX5_passing 1 = .ok (.istore_n 3, 1) := by decide +kernel
theorem dX5_passing_2 : decode cX5_passing 2 = .ok (.iconst 0, 1) := by decide +kernel
theorem dX5_passing_3 : decode cX5_passing 3 = .ok (.istore 4, 2) := by decide +kernel
theorem dX5_passing_5 : decode cX5_passing 5 = .ok (.iload 4, 2) := by decide +kernel
theorem dX5_passing_7 : decode cX5_passing 7 = .ok (.aload_n 0, 1) := by decide +kernel
theorem dX5_passing_8 : decode cX5_passing 8 = .ok (.getfield 32, 3) := by decide +kernel
theorem dX5_passing_11 : decode cX5_passing 11 = .ok (.getfield 33, 3) := by decide +kernel
theorem dX5_passing_14 : decode cX5_passing 14 = .ok (.if_icmp .ge 43, 3) := by decide +kernel
theorem dX5_passing_17 : decode cX5_passing 17 = .ok (.iload_n 3, 1) := by decide +kernel
theorem dX5_passing_18 : decode cX5_passing 18 = .ok (.aload_n 0, 1) := by decide +kernel
theorem dX5_passing_19 : decode cX5_passing 19 = .ok (.getfield 18, 3) := by decide +kernel
theorem dX5_passing_22 : decode cX5_passing 22 = .ok (.iload_n 1, 1) := by decide +kernel
theorem dX5_passing_23 : decode cX5_passing 23 = .ok (.iload 4, 2) := by decide +kernel
theorem dX5_passing_25 : decode cX5_passing 25 = .ok (.invokevirtual 39, 3) := by decide +kernel
theorem dX5_passing_28 : decode cX5_passing 28 = .ok (.ifCond .eq 20, 3) := by decide +kernel
theorem dX5_passing_31 : decode cX5_passing 31 = .ok (.aload_n 0, 1) := by decide +kernel
theorem dX5_passing_32 : decode cX5_passing 32 = .ok (.iload 4, 2) := by decide +kernel
theorem dX5_passing_34 : decode cX5_passing 34 = .ok (.iload_n 2, 1) := by decide +kernel
theorem dX5_passing_35 : decode cX5_passing 35 = .ok (.invokevirtual 43, 3) := by decide +kernel
theorem dX5_passing_38 : decode cX5_passing 38 = .ok (.ifCond .eq 10, 3) := by decide +kernel
theorem dX5_passing_41 : decode cX5_passing 41 = .ok (.iconst 1, 1) := by decide +kernel
theorem dX5_passing_42 : decode cX5_passing 42 = .ok (.iload 4, 2) := by decide +kernel
theorem dX5_passing_44 : decode cX5_passing 44 = .ok (.ishl, 1) := by decide +kernel
theorem dX5_passing_45 : decode cX5_passing 45 = .ok (.goto 4, 3) := by decide +kernel
theorem dX5_passing_48 : decode cX5_passing 48 = .ok (.iconst 0, 1) := by decide +kernel
theorem dX5_passing_49 : decode cX5_passing 49 = .ok (.ior, 1) := by decide +kernel
theorem dX5_passing_50 : decode cX5_passing 50 = .ok (.istore_n 3, 1) := by decide +kernel
theorem dX5_passing_51 : decode cX5_passing 51 = .ok (.iinc 4 1, 3) := by decide +kernel
theorem dX5_passing_54 : decode cX5_passing 54 = .ok (.goto (-49), 3) := by decide +kernel
theorem dX5_passing_57 : decode cX5_passing 57 = .ok (.iload_n 3, 1) := by decide +kernel
theorem dX5_passing_58 : decode cX5_passing 58 = .ok (.ireturn, 1) := by decide +kernel
theorem dX5_layGains_0 : decode cX5_layGains 0 = .ok (.iconst 0, 1) := by decide +kernel
theorem dX5_layGains_1 : decode cX5_layGains 1 = .ok (.istore 4, 2) := by decide +kernel
theorem dX5_layGains_3 : decode cX5_layGains 3 = .ok (.iload 4, 2) := by decide +kernel
theorem dX5_layGains_5 : decode cX5_layGains 5 = .ok (.aload_n 0, 1) := by decide +kernel
theorem dX5_layGains_6 : decode cX5_layGains 6 = .ok (.getfield 32, 3) := by decide +kernel
theorem dX5_layGains_9 : decode cX5_layGains 9 = .ok (.getfield 33, 3) := by decide +kernel
theorem dX5_layGains_12 : decode cX5_layGains 12 = .ok (.if_icmp .ge 58, 3) := by decide +kernel
theorem dX5_layGains_15 : decode cX5_layGains 15 = .ok (.aload_n 0, 1) := by decide +kernel
theorem dX5_layGains_16 : decode cX5_layGains 16 = .ok (.getfield 18, 3) := by decide +kernel
theorem dX5_layGains_19 : decode cX5_layGains 19 = .ok (.iload_n 1, 1) := by decide +kernel
theorem dX5_layGains_20 : decode cX5_layGains 20 = .ok (.iload 4, 2) := by decide +kernel
theorem dX5_layGains_22 : decode cX5_layGains 22 = .ok (.invokevirtual 39, 3) := by decide +kernel
theorem dX5_layGains_25 : decode cX5_layGains 25 = .ok (.ifCond .eq 34, 3) := by decide +kernel
theorem dX5_layGains_28 : decode cX5_layGains 28 = .ok (.aload_n 3, 1) := by decide +kernel
theorem dX5_layGains_29 : decode cX5_layGains 29 = .ok (.iload 4, 2) := by decide +kernel
theorem dX5_layGains_31 : decode cX5_layGains 31 = .ok (.aload_n 0, 1) := by decide +kernel
theorem dX5_layGains_32 : decode cX5_layGains 32 = .ok (.iload 4, 2) := by decide +kernel
theorem dX5_layGains_34 : decode cX5_layGains 34 = .ok (.iload_n 2, 1) := by decide +kernel
theorem dX5_layGains_35 : decode cX5_layGains 35 = .ok (.invokevirtual 43, 3) := by decide +kernel
theorem dX5_layGains_38 : decode cX5_layGains 38 = .ok (.ifCond .eq 16, 3) := by decide +kernel
theorem dX5_layGains_41 : decode cX5_layGains 41 = .ok (.aload_n 0, 1) := by decide +kernel
theorem dX5_layGains_42 : decode cX5_layGains 42 = .ok (.getfield 32, 3) := by decide +kernel
theorem dX5_layGains_45 : decode cX5_layGains 45 = .ok (.getfield 73, 3) := by decide +kernel
theorem dX5_layGains_48 : decode cX5_layGains 48 = .ok (.iload 4, 2) := by decide +kernel
theorem dX5_layGains_50 : decode cX5_layGains 50 = .ok (.iaload, 1) := by decide +kernel
theorem dX5_layGains_51 : decode cX5_layGains 51 = .ok (.goto 4, 3) := by decide +kernel
theorem dX5_layGains_54 : decode cX5_layGains 54 = .ok (.iconst 0, 1) := by decide +kernel
theorem dX5_layGains_55 : decode cX5_layGains 55 = .ok (.iastore, 1) := by decide +kernel
theorem dX5_layGains_56 : decode cX5_layGains 56 = .ok (.goto 8, 3) := by decide +kernel
theorem dX5_layGains_59 : decode cX5_layGains 59 = .ok (.aload_n 3, 1) := by decide +kernel
theorem dX5_layGains_60 : decode cX5_layGains 60 = .ok (.iload 4, 2) := by decide +kernel
theorem dX5_layGains_62 : decode cX5_layGains 62 = .ok (.iconst (-1), 1) := by decide +kernel
theorem dX5_layGains_63 : decode cX5_layGains 63 = .ok (.iastore, 1) := by decide +kernel
theorem dX5_layGains_64 : decode cX5_layGains 64 = .ok (.iinc 4 1, 3) := by decide +kernel
theorem dX5_layGains_67 : decode cX5_layGains 67 = .ok (.goto (-64), 3) := by decide +kernel
theorem dX5_layGains_70 : decode cX5_layGains 70 = .ok (.return_, 1) := by decide +kernel
theorem dX5_net_0 : decode cX5_net 0 = .ok (.aload_n 0, 1) := by decide +kernel
theorem dX5_net_1 : decode cX5_net 1 = .ok (.iload_n 1, 1) := by decide +kernel
theorem dX5_net_2 : decode cX5_net 2 = .ok (.iaload, 1) := by decide +kernel
theorem dX5_net_3 : decode cX5_net 3 = .ok (.iload_n 1, 1) := by decide +kernel
theorem dX5_net_4 : decode cX5_net 4 = .ok (.iload_n 2, 1) := by decide +kernel
theorem dX5_net_5 : decode cX5_net 5 = .ok (.if_icmp .ne 8, 3) := by decide +kernel
theorem dX5_net_8 : decode cX5_net 8 = .ok (.bipush 20, 2) := by decide +kernel
theorem dX5_net_10 : decode cX5_net 10 = .ok (.goto 4, 3) := by decide +kernel
theorem dX5_net_13 : decode cX5_net 13 = .ok (.iconst 0, 1) := by decide +kernel
theorem dX5_net_14 : decode cX5_net 14 = .ok (.isub, 1) := by decide +kernel
theorem dX5_net_15 : decode cX5_net 15 = .ok (.ireturn, 1) := by decide +kernel
theorem dX5_rests_0 : decode cX5_rests 0 = .ok (.aload_n 1, 1) := by decide +kernel
theorem dX5_rests_1 : decode cX5_rests 1 = .ok (.iload_n 2, 1) := by decide +kernel
theorem dX5_rests_2 : decode cX5_rests 2 = .ok (.iaload, 1) := by decide +kernel
theorem dX5_rests_3 : decode cX5_rests 3 = .ok (.iconst (-1), 1) := by decide +kernel
theorem dX5_rests_4 : decode cX5_rests 4 = .ok (.if_icmp .ne 5, 3) := by decide +kernel
theorem dX5_rests_7 : decode cX5_rests 7 = .ok (.iconst 0, 1) := by decide +kernel
theorem dX5_rests_8 : decode cX5_rests 8 = .ok (.ireturn, 1) := by decide +kernel
theorem dX5_rests_9 : decode cX5_rests 9 = .ok (.iconst 0, 1) := by decide +kernel
theorem dX5_rests_10 : decode cX5_rests 10 = .ok (.istore 4, 2) := by decide +kernel
theorem dX5_rests_12 : decode cX5_rests 12 = .ok (.iload 4, 2) := by decide +kernel
theorem dX5_rests_14 : decode cX5_rests 14 = .ok (.aload_n 0, 1) := by decide +kernel
theorem dX5_rests_15 : decode cX5_rests 15 = .ok (.getfield 32, 3) := by decide +kernel
theorem dX5_rests_18 : decode cX5_rests 18 = .ok (.getfield 33, 3) := by decide +kernel
theorem dX5_rests_21 : decode cX5_rests 21 = .ok (.if_icmp .ge 35, 3) := by decide +kernel
theorem dX5_rests_24 : decode cX5_rests 24 = .ok (.aload_n 1, 1) := by decide +kernel
theorem dX5_rests_25 : decode cX5_rests 25 = .ok (.iload 4, 2) := by decide +kernel
theorem dX5_rests_27 : decode cX5_rests 27 = .ok (.iaload, 1) := by decide +kernel
theorem dX5_rests_28 : decode cX5_rests 28 = .ok (.iconst (-1), 1) := by decide +kernel
theorem dX5_rests_29 : decode cX5_rests 29 = .ok (.if_icmp .eq 21, 3) := by decide +kernel
theorem dX5_rests_32 : decode cX5_rests 32 = .ok (.aload_n 1, 1) := by decide +kernel
theorem dX5_rests_33 : decode cX5_rests 33 = .ok (.iload 4, 2) := by decide +kernel
theorem dX5_rests_35 : decode cX5_rests 35 = .ok (.iload_n 3, 1) := by decide +kernel
theorem dX5_rests_36 : decode cX5_rests 36 = .ok (.invokestatic 76, 3) := by decide +kernel
theorem dX5_rests_39 : decode cX5_rests 39 = .ok (.aload_n 1, 1) := by decide +kernel
theorem dX5_rests_40 : decode cX5_rests 40 = .ok (.iload_n 2, 1) := by decide +kernel
theorem dX5_rests_41 : decode cX5_rests 41 = .ok (.iload_n 3, 1) := by decide +kernel
theorem dX5_rests_42 : decode cX5_rests 42 = .ok (.invokestatic 76, 3) := by decide +kernel
theorem dX5_rests_45 : decode cX5_rests 45 = .ok (.if_icmp .le 5, 3) := by decide +kernel
theorem dX5_rests_48 : decode cX5_rests 48 = .ok (.iconst 0, 1) := by decide +kernel
theorem dX5_rests_49 : decode cX5_rests 49 = .ok (.ireturn, 1) := by decide +kernel
theorem dX5_rests_50 : decode cX5_rests 50 = .ok (.iinc 4 1, 3) := by decide +kernel
theorem dX5_rests_53 : decode cX5_rests 53 = .ok (.goto (-41), 3) := by decide +kernel
theorem dX5_rests_56 : decode cX5_rests 56 = .ok (.iconst 1, 1) := by decide +kernel
theorem dX5_rests_57 : decode cX5_rests 57 = .ok (.ireturn, 1) := by decide +kernel
theorem dX5_settle_0 : decode cX5_settle 0 = .ok (.aload_n 0, 1) := by decide +kernel
theorem dX5_settle_1 : decode cX5_settle 1 = .ok (.iload_n 1, 1) := by decide +kernel
theorem dX5_settle_2 : decode cX5_settle 2 = .ok (.iload_n 2, 1) := by decide +kernel
theorem dX5_settle_3 : decode cX5_settle 3 = .ok (.aload_n 0, 1) := by decide +kernel
theorem dX5_settle_4 : decode cX5_settle 4 = .ok (.getfield 9, 3) := by decide +kernel
theorem dX5_settle_7 : decode cX5_settle 7 = .ok (.invokevirtual 59, 3) := by decide +kernel
theorem dX5_settle_10 : decode cX5_settle 10 = .ok (.aload_n 0, 1) := by decide +kernel
theorem dX5_settle_11 : decode cX5_settle 11 = .ok (.iload_n 2, 1) := by decide +kernel
theorem dX5_settle_12 : decode cX5_settle 12 = .ok (.iload_n 1, 1) := by decide +kernel
theorem dX5_settle_13 : decode cX5_settle 13 = .ok (.aload_n 0, 1) := by decide +kernel
theorem dX5_settle_14 : decode cX5_settle 14 = .ok (.getfield 15, 3) := by decide +kernel
theorem dX5_settle_17 : decode cX5_settle 17 = .ok (.invokevirtual 59, 3) := by decide +kernel
theorem dX5_settle_20 : decode cX5_settle 20 = .ok (.aload_n 0, 1) := by decide +kernel
theorem dX5_settle_21 : decode cX5_settle 21 = .ok (.iconst 0, 1) := by decide +kernel
theorem dX5_settle_22 : decode cX5_settle 22 = .ok (.putfield 63, 3) := by decide +kernel
theorem dX5_settle_25 : decode cX5_settle 25 = .ok (.aload_n 0, 1) := by decide +kernel
theorem dX5_settle_26 : decode cX5_settle 26 = .ok (.iconst (-1), 1) := by decide +kernel
theorem dX5_settle_27 : decode cX5_settle 27 = .ok (.putfield 66, 3) := by decide +kernel
theorem dX5_settle_30 : decode cX5_settle 30 = .ok (.iconst 0, 1) := by decide +kernel
theorem dX5_settle_31 : decode cX5_settle 31 = .ok (.istore_n 3, 1) := by decide +kernel
theorem dX5_settle_32 : decode cX5_settle 32 = .ok (.iload_n 3, 1) := by decide +kernel
theorem dX5_settle_33 : decode cX5_settle 33 = .ok (.aload_n 0, 1) := by decide +kernel
theorem dX5_settle_34 : decode cX5_settle 34 = .ok (.getfield 32, 3) := by decide +kernel
theorem dX5_settle_37 : decode cX5_settle 37 = .ok (.getfield 33, 3) := by decide +kernel
theorem dX5_settle_40 : decode cX5_settle 40 = .ok (.if_icmp .ge 93, 3) := by decide +kernel
theorem dX5_settle_43 : decode cX5_settle 43 = .ok (.iconst 0, 1) := by decide +kernel
theorem dX5_settle_44 : decode cX5_settle 44 = .ok (.istore 4, 2) := by decide +kernel
theorem dX5_settle_46 : decode cX5_settle 46 = .ok (.iload 4, 2) := by decide +kernel
theorem dX5_settle_48 : decode cX5_settle 48 = .ok (.aload_n 0, 1) := by decide +kernel
theorem dX5_settle_49 : decode cX5_settle 49 = .ok (.getfield 32, 3) := by decide +kernel
theorem dX5_settle_52 : decode cX5_settle 52 = .ok (.getfield 33, 3) := by decide +kernel
theorem dX5_settle_55 : decode cX5_settle 55 = .ok (.if_icmp .ge 72, 3) := by decide +kernel
theorem dX5_settle_58 : decode cX5_settle 58 = .ok (.aload_n 0, 1) := by decide +kernel
theorem dX5_settle_59 : decode cX5_settle 59 = .ok (.aload_n 0, 1) := by decide +kernel
theorem dX5_settle_60 : decode cX5_settle 60 = .ok (.getfield 9, 3) := by decide +kernel
theorem dX5_settle_63 : decode cX5_settle 63 = .ok (.iload_n 3, 1) := by decide +kernel
theorem dX5_settle_64 : decode cX5_settle 64 = .ok (.iload 4, 2) := by decide +kernel
theorem dX5_settle_66 : decode cX5_settle 66 = .ok (.invokevirtual 69, 3) := by decide +kernel
theorem dX5_settle_69 : decode cX5_settle 69 = .ok (.ifCond .eq 52, 3) := by decide +kernel
theorem dX5_settle_72 : decode cX5_settle 72 = .ok (.aload_n 0, 1) := by decide +kernel
theorem dX5_settle_73 : decode cX5_settle 73 = .ok (.aload_n 0, 1) := by decide +kernel
theorem dX5_settle_74 : decode cX5_settle 74 = .ok (.getfield 15, 3) := by decide +kernel
theorem dX5_settle_77 : decode cX5_settle 77 = .ok (.iload 4, 2) := by decide +kernel
theorem dX5_settle_79 : decode cX5_settle 79 = .ok (.iload_n 3, 1) := by decide +kernel
theorem dX5_settle_80 : decode cX5_settle 80 = .ok (.invokevirtual 69, 3) := by decide +kernel
theorem dX5_settle_83 : decode cX5_settle 83 = .ok (.ifCond .eq 38, 3) := by decide +kernel
theorem dX5_settle_86 : decode cX5_settle 86 = .ok (.aload_n 0, 1) := by decide +kernel
theorem dX5_settle_87 : decode cX5_settle 87 = .ok (.aload_n 0, 1) := by decide +kernel
theorem dX5_settle_88 : decode cX5_settle 88 = .ok (.getfield 63, 3) := by decide +kernel
theorem dX5_settle_91 : decode cX5_settle 91 = .ok (.ifCond .ne 13, 3) := by decide +kernel
theorem dX5_settle_94 : decode cX5_settle 94 = .ok (.bipush 10, 2) := by decide +kernel
theorem dX5_settle_96 : decode cX5_settle 96 = .ok (.iload_n 3, 1) := by decide +kernel
theorem dX5_settle_97 : decode cX5_settle 97 = .ok (.imul, 1) := by decide +kernel
theorem dX5_settle_98 : decode cX5_settle 98 = .ok (.iload 4, 2) := by decide +kernel
theorem dX5_settle_100 : decode cX5_settle 100 = .ok (.iadd, 1) := by decide +kernel
theorem dX5_settle_101 : decode cX5_settle 101 = .ok (.goto 7, 3) := by decide +kernel
theorem dX5_settle_104 : decode cX5_settle 104 = .ok (.aload_n 0, 1) := by decide +kernel
theorem dX5_settle_105 : decode cX5_settle 105 = .ok (.getfield 66, 3) := by decide +kernel
theorem dX5_settle_108 : decode cX5_settle 108 = .ok (.putfield 66, 3) := by decide +kernel
theorem dX5_settle_111 : decode cX5_settle 111 = .ok (.aload_n 0, 1) := by decide +kernel
theorem dX5_settle_112 : decode cX5_settle 112 = .ok (.dup, 1) := by decide +kernel
theorem dX5_settle_113 : decode cX5_settle 113 = .ok (.getfield 63, 3) := by decide +kernel
theorem dX5_settle_116 : decode cX5_settle 116 = .ok (.iconst 1, 1) := by decide +kernel
theorem dX5_settle_117 : decode cX5_settle 117 = .ok (.iadd, 1) := by decide +kernel
theorem dX5_settle_118 : decode cX5_settle 118 = .ok (.putfield 63, 3) := by decide +kernel
theorem dX5_settle_121 : decode cX5_settle 121 = .ok (.iinc 4 1, 3) := by decide +kernel
theorem dX5_settle_124 : decode cX5_settle 124 = .ok (.goto (-78), 3) := by decide +kernel
theorem dX5_settle_127 : decode cX5_settle 127 = .ok (.iinc 3 1, 3) := by decide +kernel
theorem dX5_settle_130 : decode cX5_settle 130 = .ok (.goto (-98), 3) := by decide +kernel
theorem dX5_settle_133 : decode cX5_settle 133 = .ok (.return_, 1) := by decide +kernel
theorem dX5_draw_0 : decode cX5_draw 0 = .ok (.aload_n 0, 1) := by decide +kernel
theorem dX5_draw_1 : decode cX5_draw 1 = .ok (.aload_n 0, 1) := by decide +kernel
theorem dX5_draw_2 : decode cX5_draw 2 = .ok (.getfield 80, 3) := by decide +kernel
theorem dX5_draw_5 : decode cX5_draw 5 = .ok (.ldc 105, 2) := by decide +kernel
theorem dX5_draw_7 : decode cX5_draw 7 = .ok (.imul, 1) := by decide +kernel
theorem dX5_draw_8 : decode cX5_draw 8 = .ok (.sipush 12345, 3) := by decide +kernel
theorem dX5_draw_11 : decode cX5_draw 11 = .ok (.iadd, 1) := by decide +kernel
theorem dX5_draw_12 : decode cX5_draw 12 = .ok (.putfield 80, 3) := by decide +kernel
theorem dX5_draw_15 : decode cX5_draw 15 = .ok (.iload_n 1, 1) := by decide +kernel
theorem dX5_draw_16 : decode cX5_draw 16 = .ok (.ifCond .gt 7, 3) := by decide +kernel
theorem dX5_draw_19 : decode cX5_draw 19 = .ok (.iconst 0, 1) := by decide +kernel
theorem dX5_draw_20 : decode cX5_draw 20 = .ok (.goto 16, 3) := by decide +kernel
theorem dX5_draw_23 : decode cX5_draw 23 = .ok (.aload_n 0, 1) := by decide +kernel
theorem dX5_draw_24 : decode cX5_draw 24 = .ok (.getfield 80, 3) := by decide +kernel
theorem dX5_draw_27 : decode cX5_draw 27 = .ok (.bipush 16, 2) := by decide +kernel
theorem dX5_draw_29 : decode cX5_draw 29 = .ok (.iushr, 1) := by decide +kernel
theorem dX5_draw_30 : decode cX5_draw 30 = .ok (.sipush 32767, 3) := by decide +kernel
theorem dX5_draw_33 : decode cX5_draw 33 = .ok (.iand, 1) := by decide +kernel
theorem dX5_draw_34 : decode cX5_draw 34 = .ok (.iload_n 1, 1) := by decide +kernel
theorem dX5_draw_35 : decode cX5_draw 35 = .ok (.irem, 1) := by decide +kernel
theorem dX5_draw_36 : decode cX5_draw 36 = .ok (.ireturn, 1) := by decide +kernel
theorem dX5_frozen_0 : decode cX5_frozen 0 = .ok (.iload_n 1, 1) := by decide +kernel
theorem dX5_frozen_1 : decode cX5_frozen 1 = .ok (.tableswitch 43 0 2 #[27, 32, 37], 27) := by decide +kernel
theorem dX5_frozen_28 : decode cX5_frozen 28 = .ok (.iload_n 0, 1) := by decide +kernel
theorem dX5_frozen_29 : decode cX5_frozen 29 = .ok (.invokestatic 106, 3) := by decide +kernel
theorem dX5_frozen_32 : decode cX5_frozen 32 = .ok (.ireturn, 1) := by decide +kernel
theorem dX5_frozen_33 : decode cX5_frozen 33 = .ok (.iload_n 0, 1) := by decide +kernel
theorem dX5_frozen_34 : decode cX5_frozen 34 = .ok (.invokestatic 111, 3) := by decide +kernel
theorem dX5_frozen_37 : decode cX5_frozen 37 = .ok (.ireturn, 1) := by decide +kernel
theorem dX5_frozen_38 : decode cX5_frozen 38 = .ok (.iload_n 0, 1) := by decide +kernel
theorem dX5_frozen_39 : decode cX5_frozen 39 = .ok (.iconst 4, 1) := by decide +kernel
theorem dX5_frozen_40 : decode cX5_frozen 40 = .ok (.invokestatic 114, 3) := by decide +kernel
theorem dX5_frozen_43 : decode cX5_frozen 43 = .ok (.ireturn, 1) := by decide +kernel
theorem dX5_frozen_44 : decode cX5_frozen 44 = .ok (.iload_n 0, 1) := by decide +kernel
theorem dX5_frozen_45 : decode cX5_frozen 45 = .ok (.ireturn, 1) := by decide +kernel
theorem dX5_freeze_0 : decode cX5_freeze 0 = .ok (.aload_n 0, 1) := by decide +kernel
theorem dX5_freeze_1 : decode cX5_freeze 1 = .ok (.iload_n 1, 1) := by decide +kernel
theorem dX5_freeze_2 : decode cX5_freeze 2 = .ok (.putfield 80, 3) := by decide +kernel
theorem dX5_freeze_5 : decode cX5_freeze 5 = .ok (.aload_n 0, 1) := by decide +kernel
theorem dX5_freeze_6 : decode cX5_freeze 6 = .ok (.iconst 0, 1) := by decide +kernel
theorem dX5_freeze_7 : decode cX5_freeze 7 = .ok (.putfield 83, 3) := by decide +kernel
theorem dX5_freeze_10 : decode cX5_freeze 10 = .ok (.aload_n 0, 1) := by decide +kernel
theorem dX5_freeze_11 : decode cX5_freeze 11 = .ok (.iconst 0, 1) := by decide +kernel
theorem dX5_freeze_12 : decode cX5_freeze 12 = .ok (.putfield 86, 3) := by decide +kernel
theorem dX5_freeze_15 : decode cX5_freeze 15 = .ok (.aload_n 0, 1) := by decide +kernel
theorem dX5_freeze_16 : decode cX5_freeze 16 = .ok (.iconst 0, 1) := by decide +kernel
theorem dX5_freeze_17 : decode cX5_freeze 17 = .ok (.putfield 89, 3) := by decide +kernel
theorem dX5_freeze_20 : decode cX5_freeze 20 = .ok (.aload_n 0, 1) := by decide +kernel
theorem dX5_freeze_21 : decode cX5_freeze 21 = .ok (.getfield 18, 3) := by decide +kernel
theorem dX5_freeze_24 : decode cX5_freeze 24 = .ok (.getfield 92, 3) := by decide +kernel
theorem dX5_freeze_27 : decode cX5_freeze 27 = .ok (.getfield 96, 3) := by decide +kernel
theorem dX5_freeze_30 : decode cX5_freeze 30 = .ok (.ifCond .eq 13, 3) := by decide +kernel
theorem dX5_freeze_33 : decode cX5_freeze 33 = .ok (.aload_n 0, 1) := by decide +kernel
theorem dX5_freeze_34 : decode cX5_freeze 34 = .ok (.getfield 32, 3) := by decide +kernel
theorem dX5_freeze_37 : decode cX5_freeze 37 = .ok (.getfield 33, 3) := by decide +kernel
theorem dX5_freeze_40 : decode cX5_freeze 40 = .ok (.ifCond .ne 4, 3) := by decide +kernel
theorem dX5_freeze_43 : decode cX5_freeze 43 = .ok (.return_, 1) := by decide +kernel
theorem dX5_freeze_44 : decode cX5_freeze 44 = .ok (.iconst 0, 1) := by decide +kernel
theorem dX5_freeze_45 : decode cX5_freeze 45 = .ok (.istore_n 3, 1) := by decide +kernel
theorem dX5_freeze_46 : decode cX5_freeze 46 = .ok (.iload_n 3, 1) := by decide +kernel
theorem dX5_freeze_47 : decode cX5_freeze 47 = .ok (.iload_n 2, 1) := by decide +kernel
theorem dX5_freeze_48 : decode cX5_freeze 48 = .ok (.if_icmp .ge 129, 3) := by decide +kernel
theorem dX5_freeze_51 : decode cX5_freeze 51 = .ok (.aload_n 0, 1) := by decide +kernel
theorem dX5_freeze_52 : decode cX5_freeze 52 = .ok (.aload_n 0, 1) := by decide +kernel
theorem dX5_freeze_53 : decode cX5_freeze 53 = .ok (.getfield 18, 3) := by decide +kernel
theorem dX5_freeze_56 : decode cX5_freeze 56 = .ok (.getfield 92, 3) := by decide +kernel
theorem dX5_freeze_59 : decode cX5_freeze 59 = .ok (.getfield 96, 3) := by decide +kernel
theorem dX5_freeze_62 : decode cX5_freeze 62 = .ok (.invokevirtual 99, 3) := by decide +kernel
theorem dX5_freeze_65 : decode cX5_freeze 65 = .ok (.istore 4, 2) := by decide +kernel
theorem dX5_freeze_67 : decode cX5_freeze 67 = .ok (.aload_n 0, 1) := by decide +kernel
theorem dX5_freeze_68 : decode cX5_freeze 68 = .ok (.aload_n 0, 1) := by decide +kernel
theorem dX5_freeze_69 : decode cX5_freeze 69 = .ok (.getfield 32, 3) := by decide +kernel
theorem dX5_freeze_72 : decode cX5_freeze 72 = .ok (.getfield 33, 3) := by decide +kernel
theorem dX5_freeze_75 : decode cX5_freeze 75 = .ok (.invokevirtual 99, 3) := by decide +kernel
theorem dX5_freeze_78 : decode cX5_freeze 78 = .ok (.istore 5, 2) := by decide +kernel
theorem dX5_freeze_80 : decode cX5_freeze 80 = .ok (.aload_n 0, 1) := by decide +kernel
theorem dX5_freeze_81 : decode cX5_freeze 81 = .ok (.getfield 18, 3) := by decide +kernel
theorem dX5_freeze_84 : decode cX5_freeze 84 = .ok (.iload 4, 2) := by decide +kernel
theorem dX5_freeze_86 : decode cX5_freeze 86 = .ok (.aload_n 0, 1) := by decide +kernel
theorem dX5_freeze_87 : decode cX5_freeze 87 = .ok (.getfield 32, 3) := by decide +kernel
theorem dX5_freeze_90 : decode cX5_freeze 90 = .ok (.getfield 46, 3) := by decide +kernel
theorem dX5_freeze_93 : decode cX5_freeze 93 = .ok (.iload 5, 2) := by decide +kernel
theorem dX5_freeze_95 : decode cX5_freeze 95 = .ok (.iaload, 1) := by decide +kernel
theorem dX5_freeze_96 : decode cX5_freeze 96 = .ok (.invokevirtual 49, 3) := by decide +kernel
theorem dX5_freeze_99 : decode cX5_freeze 99 = .ok (.aload_n 0, 1) := by decide +kernel
theorem dX5_freeze_100 : decode cX5_freeze 100 = .ok (.iconst 4, 1) := by decide +kernel
theorem dX5_freeze_101 : decode cX5_freeze 101 = .ok (.invokevirtual 99, 3) := by decide +kernel
theorem dX5_freeze_104 : decode cX5_freeze 104 = .ok (.invokestatic 102, 3) := by decide +kernel
theorem dX5_freeze_107 : decode cX5_freeze 107 = .ok (.istore 6, 2) := by decide +kernel
theorem dX5_freeze_109 : decode cX5_freeze 109 = .ok (.aload_n 0, 1) := by decide +kernel
theorem dX5_freeze_110 : decode cX5_freeze 110 = .ok (.getfield 22, 3) := by decide +kernel
theorem dX5_freeze_113 : decode cX5_freeze 113 = .ok (.iload 6, 2) := by decide +kernel
theorem dX5_freeze_115 : decode cX5_freeze 115 = .ok (.invokevirtual 53, 3) := by decide +kernel
theorem dX5_freeze_118 : decode cX5_freeze 118 = .ok (.iload 5, 2) := by decide +kernel
theorem dX5_freeze_120 : decode cX5_freeze 120 = .ok (.if_icmp .ne 32, 3) := by decide +kernel
theorem dX5_freeze_123 : decode cX5_freeze 123 = .ok (.aload_n 0, 1) := by decide +kernel
theorem dX5_freeze_124 : decode cX5_freeze 124 = .ok (.dup, 1) := by decide +kernel
theorem dX5_freeze_125 : decode cX5_freeze 125 = .ok (.getfield 83, 3) := by decide +kernel
theorem dX5_freeze_128 : decode cX5_freeze 128 = .ok (.iconst 1, 1) := by decide +kernel
theorem dX5_freeze_129 : decode cX5_freeze 129 = .ok (.iadd, 1) := by decide +kernel
theorem dX5_freeze_130 : decode cX5_freeze 130 = .ok (.putfield 83, 3) := by decide +kernel
theorem dX5_freeze_133 : decode cX5_freeze 133 = .ok (.aload_n 0, 1) := by decide +kernel
theorem dX5_freeze_134 : decode cX5_freeze 134 = .ok (.dup, 1) := by decide +kernel
theorem dX5_freeze_135 : decode cX5_freeze 135 = .ok (.getfield 86, 3) := by decide +kernel
theorem dX5_freeze_138 : decode cX5_freeze 138 = .ok (.aload_n 0, 1) := by decide +kernel
theorem dX5_freeze_139 : decode cX5_freeze 139 = .ok (.getfield 32, 3) := by decide +kernel
theorem dX5_freeze_142 : decode cX5_freeze 142 = .ok (.getfield 73, 3) := by decide +kernel
theorem dX5_freeze_145 : decode cX5_freeze 145 = .ok (.iload 5, 2) := by decide +kernel
theorem dX5_freeze_147 : decode cX5_freeze 147 = .ok (.iaload, 1) := by decide +kernel
theorem dX5_freeze_148 : decode cX5_freeze 148 = .ok (.iadd, 1) := by decide +kernel
theorem dX5_freeze_149 : decode cX5_freeze 149 = .ok (.putfield 86, 3) := by decide +kernel
theorem dX5_freeze_152 : decode cX5_freeze 152 = .ok (.aload_n 0, 1) := by decide +kernel
theorem dX5_freeze_153 : decode cX5_freeze 153 = .ok (.dup, 1) := by decide +kernel
theorem dX5_freeze_154 : decode cX5_freeze 154 = .ok (.getfield 89, 3) := by decide +kernel
theorem dX5_freeze_157 : decode cX5_freeze 157 = .ok (.iload 6, 2) := by decide +kernel
theorem dX5_freeze_159 : decode cX5_freeze 159 = .ok (.ifCond .ne 7, 3) := by decide +kernel
theorem dX5_freeze_162 : decode cX5_freeze 162 = .ok (.iconst 1, 1) := by decide +kernel
theorem dX5_freeze_163 : decode cX5_freeze 163 = .ok (.goto 4, 3) := by decide +kernel
theorem dX5_freeze_166 : decode cX5_freeze 166 = .ok (.iconst 0, 1) := by decide +kernel
theorem dX5_freeze_167 : decode cX5_freeze 167 = .ok (.iadd, 1) := by decide +kernel
theorem dX5_freeze_168 : decode cX5_freeze 168 = .ok (.putfield 89, 3) := by decide +kernel
theorem dX5_freeze_171 : decode cX5_freeze 171 = .ok (.iinc 3 1, 3) := by decide +kernel
theorem dX5_freeze_174 : decode cX5_freeze 174 = .ok (.goto (-128), 3) := by decide +kernel
theorem dX5_freeze_177 : decode cX5_freeze 177 = .ok (.return_, 1) := by decide +kernel
def jn_PL_isUnderstood_33 (n : Nat) (w0 : Int32) (μ : kbM) : Option (Int32 × kbM) :=
  kbIf (decide (w0 = 0 ∨ w0 = 1)) <|
  some ((w0, μ))
theorem jnR_PL_isUnderstood_33 {l : Launch} (n : Nat)   (w0 : Int32) (μ : kbM) {Q : kbQt} {P : Int32 × kbM → Prop} (hr : ∀ z : Int32 × kbM, P z → Q (some (.int z.1)) z.2) (h : kbG (jn_PL_isUnderstood_33 n w0 μ) P) : kbR l MX5_isUnderstood 5 Q 33 [none, none, none] [.int w0] μ := by
  unfold jn_PL_isUnderstood_33 at h
  obtain ⟨hz, h⟩ := kbG_if h
  exact r_zret rfl (kb_z01 (of_decide_eq_true hz)) dX5_isUnderstood_33 (hr ((w0, μ)) (kbG_some h))
def f_PL_isUnderstood (n : Nat) (a1 : Int32) (a2 : Int32) (μ : kbM) : Option (Int32 × kbM) :=
  kbIf (kbIn a1 10) <|
  (f_HO_hearing n a2 (μ.1 14 a1.toNatClampNeg) μ).bind fun x1 =>
  (f_RU_nearestWord n x1 μ).bind fun x2 =>
  if x2.1 = a1 then
    jn_PL_isUnderstood_33 n 1 x2.2
  else
    jn_PL_isUnderstood_33 n 0 x2.2
theorem sp_PL_isUnderstood {l : Launch} (n : Nat) (a1 : Int32) (a2 : Int32) (μ : kbM)  {x : Int32 × kbM} (h : f_PL_isUnderstood n a1 a2 μ = some x) : kbS l MX5_isUnderstood 5 [.ref 54, .int a1, .int a2] μ (kbQe (some (.int x.1)) x.2) := by
  refine kb_enter 0 rfl rfl ?_
  suffices H : ∀ (Q : kbQt) (P : Int32 × kbM → Prop), (∀ z : Int32 × kbM, P z → Q (some (.int z.1)) z.2) → kbG (f_PL_isUnderstood n a1 a2 μ) P → kbR l MX5_isUnderstood 5 Q 0 [some (.ref 54), some (.int a1), some (.int a2)] [] μ from H _ (fun z => z = x) (fun z e => by subst e; exact ⟨rfl, rfl⟩) ⟨x, h, rfl⟩
  clear h
  intro Q P hr h
  unfold f_PL_isUnderstood at h
  refine r_aload_n dX5_isUnderstood_0 rfl ?_
  refine r_getR flX5_22 sh54 rfl dX5_isUnderstood_1 ?_
  refine r_aload_n dX5_isUnderstood_4 rfl ?_
  refine r_getR flX5_18 sh54 rfl dX5_isUnderstood_5 ?_
  refine r_iload_n dX5_isUnderstood_8 rfl ?_
  refine r_aload_n dX5_isUnderstood_9 rfl ?_
  refine r_getR flX5_32 sh54 rfl dX5_isUnderstood_10 ?_
  refine r_getR flX5_46 sh13 rfl dX5_isUnderstood_13 ?_
  refine r_iload_n dX5_isUnderstood_16 rfl ?_
  obtain ⟨hin, h⟩ := kbG_if h
  replace hin := kbIn_of hin
  refine q_iald a1.toNatClampNeg rfl sh14 hin dX5_isUnderstood_17 ?_
  obtain ⟨x1, hx0, h⟩ := kbG_bind h
  refine r_invV_i cvX5_49 sh51 rfl (sp_HO_hearing n a2 (μ.1 14 a1.toNatClampNeg) μ hx0) rfl rfl (Nat.le_of_ble_eq_true rfl) (Nat.le_of_ble_eq_true rfl) dX5_isUnderstood_18 ?_
  obtain ⟨x2, hx0, h⟩ := kbG_bind h
  refine r_invV_i cvX5_53 sh39 rfl (sp_RU_nearestWord n x1 μ hx0) rfl rfl (Nat.le_of_ble_eq_true rfl) (Nat.le_of_ble_eq_true rfl) dX5_isUnderstood_21 ?_
  refine r_iload_n dX5_isUnderstood_24 rfl ?_
  refine r_icmp_ne 32 dX5_isUnderstood_25 (by decide) (fun hc => ?_) (fun hc => ?_)
  · replace h := kbG_f hc h
    refine r_iconst 0 dX5_isUnderstood_32 (by decide) ?_
    refine r_le [none, none, none] trivial ?_
    exact jnR_PL_isUnderstood_33 n 0 x2.2 (hr := hr) h
  · replace h := kbG_t hc h
    refine r_iconst 1 dX5_isUnderstood_28 (by decide) ?_
    refine r_goto 33 dX5_isUnderstood_29 (by decide) ?_
    refine r_le [none, none, none] trivial ?_
    exact jnR_PL_isUnderstood_33 n 1 x2.2 (hr := hr) h
def jn_PL_passing_49 (n : Nat) (rec : Int32 → Int32 → kbM → Option (Int32 × kbM)) (v1 : Int32) (v2 : Int32) (v4 : Int32) (w0 : Int32) (w1 : Int32) (μ : kbM) : Option (Int32 × kbM) :=
  rec (w0 ||| w1) (v4 + 1) μ
theorem jnR_PL_passing_49 {l : Launch} (n : Nat)   (v1 : Int32) (v2 : Int32) (v4 : Int32) (w0 : Int32) (w1 : Int32) (μ : kbM) {Q : kbQt} {P : Int32 × kbM → Prop} (hx : ∀ z : Int32 × kbM, P (z) → kbR l MX5_passing 6 Q 57 [none, none, none, some (.int z.1), none] [] z.2) {rec : Int32 → Int32 → kbM → Option (Int32 × kbM)} (hrec : ∀ (v3 : Int32) (v4 : Int32) (μ : kbM), kbG (rec v3 v4 μ) P → kbR l MX5_passing 6 Q 5 [some (.ref 54), some (.int v1), some (.int v2), some (.int v3), some (.int v4)] [] μ) (h : kbG (jn_PL_passing_49 n rec v1 v2 v4 w0 w1 μ) P) : kbR l MX5_passing 6 Q 49 [some (.ref 54), some (.int v1), some (.int v2), none, some (.int v4)] [.int w1, .int w0] μ := by
  unfold jn_PL_passing_49 at h
  refine r_ior dX5_passing_49 ?_
  refine r_istore_n dX5_passing_50 (Nat.le_of_ble_eq_true rfl) rfl ?_
  refine r_iinc 1 dX5_passing_51 rfl (by decide) (Nat.le_of_ble_eq_true rfl) rfl ?_
  refine r_goto 5 dX5_passing_54 (by decide) ?_
  refine r_le [some (.ref 54), some (.int v1), some (.int v2), some (.int (w0 ||| w1)), some (.int (v4 + 1))] ⟨rfl, ⟨rfl, ⟨rfl, ⟨rfl, ⟨rfl, trivial⟩⟩⟩⟩⟩ ?_
  exact hrec (w0 ||| w1) (v4 + 1) μ h
def jn_PL_passing_48 (n : Nat) (rec : Int32 → Int32 → kbM → Option (Int32 × kbM)) (v1 : Int32) (v2 : Int32) (v4 : Int32) (w0 : Int32) (μ : kbM) : Option (Int32 × kbM) :=
  jn_PL_passing_49 n rec v1 v2 v4 w0 0 μ
theorem jnR_PL_passing_48 {l : Launch} (n : Nat)   (v1 : Int32) (v2 : Int32) (v4 : Int32) (w0 : Int32) (μ : kbM) {Q : kbQt} {P : Int32 × kbM → Prop} (hx : ∀ z : Int32 × kbM, P (z) → kbR l MX5_passing 6 Q 57 [none, none, none, some (.int z.1), none] [] z.2) {rec : Int32 → Int32 → kbM → Option (Int32 × kbM)} (hrec : ∀ (v3 : Int32) (v4 : Int32) (μ : kbM), kbG (rec v3 v4 μ) P → kbR l MX5_passing 6 Q 5 [some (.ref 54), some (.int v1), some (.int v2), some (.int v3), some (.int v4)] [] μ) (h : kbG (jn_PL_passing_48 n rec v1 v2 v4 w0 μ) P) : kbR l MX5_passing 6 Q 48 [some (.ref 54), some (.int v1), some (.int v2), none, some (.int v4)] [.int w0] μ := by
  unfold jn_PL_passing_48 at h
  refine r_iconst 0 dX5_passing_48 (by decide) ?_
  refine r_le [some (.ref 54), some (.int v1), some (.int v2), none, some (.int v4)] ⟨rfl, ⟨rfl, ⟨rfl, ⟨rfl, trivial⟩⟩⟩⟩ ?_
  exact jnR_PL_passing_49 n v1 v2 v4 w0 0 μ (hx := hx) (hrec := hrec) h
def lp_PL_passing_5 (n : Nat) (v1 : Int32) (v2 : Int32) : Nat → Int32 → Int32 → kbM → Option (Int32 × kbM)
  | 0, _, _, _ => none
  | k + 1, v3, v4, μ =>
    if (μ.1 13 4) ≤ v4 then
      some ((v3, μ))
    else
      (f_HO_can n v1 v4 μ).bind fun x1 =>
      if x1 = 0 then
        jn_PL_passing_48 n (lp_PL_passing_5 n v1 v2 k) v1 v2 v4 v3 μ
      else
        (f_PL_isUnderstood n v4 v2 μ).bind fun x2 =>
        if x2.1 = 0 then
          jn_PL_passing_48 n (lp_PL_passing_5 n v1 v2 k) v1 v2 v4 v3 x2.2
        else
          jn_PL_passing_49 n (lp_PL_passing_5 n v1 v2 k) v1 v2 v4 v3 (kbShl 1 v4) x2.2
theorem lpR_PL_passing_5 {l : Launch} (n : Nat) (v1 : Int32) (v2 : Int32)  {Q : kbQt} {P : Int32 × kbM → Prop} (hx : ∀ z : Int32 × kbM, P (z) → kbR l MX5_passing 6 Q 57 [none, none, none, some (.int z.1), none] [] z.2) : ∀ (k : Nat) (v3 : Int32) (v4 : Int32) (μ : kbM), kbG (lp_PL_passing_5 n v1 v2 k v3 v4 μ) P → kbR l MX5_passing 6 Q 5 [some (.ref 54), some (.int v1), some (.int v2), some (.int v3), some (.int v4)] [] μ := by
  intro k
  induction k with
  | zero => intro v3 v4 μ h; exact absurd h kbG_none
  | succ k ih =>
    intro v3 v4 μ h
    unfold lp_PL_passing_5 at h
    refine r_iload dX5_passing_5 rfl ?_
    refine r_aload_n dX5_passing_7 rfl ?_
    refine r_getR flX5_32 sh54 rfl dX5_passing_8 ?_
    refine r_getI flX5_33 sh13 rfl dX5_passing_11 ?_
    refine r_icmp_ge 57 dX5_passing_14 (by decide) (fun hc => ?_) (fun hc => ?_)
    · replace h := kbG_t hc h
      refine r_le [none, none, none, some (.int v3), none] ⟨rfl, trivial⟩ ?_
      exact hx ((v3, μ)) (kbG_some h)
    · replace h := kbG_f hc h
      refine r_iload_n dX5_passing_17 rfl ?_
      refine r_aload_n dX5_passing_18 rfl ?_
      refine r_getR flX5_18 sh54 rfl dX5_passing_19 ?_
      refine r_iload_n dX5_passing_22 rfl ?_
      refine r_iload dX5_passing_23 rfl ?_
      obtain ⟨x1, hx0, h⟩ := kbG_bind h
      refine r_invV_i cvX5_39 sh51 rfl (sp_HO_can n v1 v4 μ hx0) rfl rfl (Nat.le_of_ble_eq_true rfl) (Nat.le_of_ble_eq_true rfl) dX5_passing_25 ?_
      refine r_if_eq 48 dX5_passing_28 (by decide) (fun hc => ?_) (fun hc => ?_)
      · replace h := kbG_t hc h
        refine r_le [some (.ref 54), some (.int v1), some (.int v2), none, some (.int v4)] ⟨rfl, ⟨rfl, ⟨rfl, ⟨rfl, trivial⟩⟩⟩⟩ ?_
        exact jnR_PL_passing_48 n v1 v2 v4 v3 μ (hx := hx) (hrec := ih) h
      · replace h := kbG_f hc h
        refine r_aload_n dX5_passing_31 rfl ?_
        refine r_iload dX5_passing_32 rfl ?_
        refine r_iload_n dX5_passing_34 rfl ?_
        obtain ⟨x2, hx0, h⟩ := kbG_bind h
        refine r_invV_i cvX5_43 sh54 rfl (sp_PL_isUnderstood n v4 v2 μ hx0) rfl rfl (Nat.le_of_ble_eq_true rfl) (Nat.le_of_ble_eq_true rfl) dX5_passing_35 ?_
        refine r_if_eq 48 dX5_passing_38 (by decide) (fun hc => ?_) (fun hc => ?_)
        · replace h := kbG_t hc h
          refine r_le [some (.ref 54), some (.int v1), some (.int v2), none, some (.int v4)] ⟨rfl, ⟨rfl, ⟨rfl, ⟨rfl, trivial⟩⟩⟩⟩ ?_
          exact jnR_PL_passing_48 n v1 v2 v4 v3 x2.2 (hx := hx) (hrec := ih) h
        · replace h := kbG_f hc h
          refine r_iconst 1 dX5_passing_41 (by decide) ?_
          refine r_iload dX5_passing_42 rfl ?_
          refine r_shl dX5_passing_44 ?_
          refine r_goto 49 dX5_passing_45 (by decide) ?_
          refine r_le [some (.ref 54), some (.int v1), some (.int v2), none, some (.int v4)] ⟨rfl, ⟨rfl, ⟨rfl, ⟨rfl, trivial⟩⟩⟩⟩ ?_
          exact jnR_PL_passing_49 n v1 v2 v4 v3 (kbShl 1 v4) x2.2 (hx := hx) (hrec := ih) h
def f_PL_passing (n : Nat) (a1 : Int32) (a2 : Int32) (μ : kbM) : Option (Int32 × kbM) :=
  (lp_PL_passing_5 n a1 a2 n 0 0 μ).bind fun x3 =>
  some ((x3.1, x3.2))
theorem sp_PL_passing {l : Launch} (n : Nat) (a1 : Int32) (a2 : Int32) (μ : kbM)  {x : Int32 × kbM} (h : f_PL_passing n a1 a2 μ = some x) : kbS l MX5_passing 6 [.ref 54, .int a1, .int a2] μ (kbQe (some (.int x.1)) x.2) := by
  refine kb_enter 2 rfl rfl ?_
  suffices H : ∀ (Q : kbQt) (P : Int32 × kbM → Prop), (∀ z : Int32 × kbM, P z → Q (some (.int z.1)) z.2) → kbG (f_PL_passing n a1 a2 μ) P → kbR l MX5_passing 6 Q 0 [some (.ref 54), some (.int a1), some (.int a2), none, none] [] μ from H _ (fun z => z = x) (fun z e => by subst e; exact ⟨rfl, rfl⟩) ⟨x, h, rfl⟩
  clear h
  intro Q P hr h
  unfold f_PL_passing at h
  refine r_iconst 0 dX5_passing_0 (by decide) ?_
  refine r_istore_n dX5_passing_1 (Nat.le_of_ble_eq_true rfl) rfl ?_
  refine r_iconst 0 dX5_passing_2 (by decide) ?_
  refine r_istore dX5_passing_3 (Nat.le_of_ble_eq_true rfl) rfl ?_
  refine r_le [some (.ref 54), some (.int a1), some (.int a2), some (.int 0), some (.int 0)] ⟨rfl, ⟨rfl, ⟨rfl, ⟨rfl, ⟨rfl, trivial⟩⟩⟩⟩⟩ ?_
  obtain ⟨x3, hx0, h⟩ := kbG_bind h
  refine lpR_PL_passing_5 n a1 a2 (P := fun z => x3 = z) (hx := fun z e => ?_) n _ _ _ ⟨_, hx0, rfl⟩
  subst e
  refine r_iload_n dX5_passing_57 rfl ?_
  exact r_iret rfl dX5_passing_58 (hr ((x3.1, x3.2)) (kbG_some h))
def jn_PL_layGains_55_64 (n : Nat) (rec : Int32 → kbM → Option (kbM)) (v1 : Int32) (v2 : Int32) (v4 : Int32) (μ : kbM) : Option (kbM) :=
  rec (v4 + 1) μ
theorem jnR_PL_layGains_55_64 {l : Launch} (n : Nat)   (v1 : Int32) (v2 : Int32) (v4 : Int32) (μ : kbM) {Q : kbQt} {P : kbM → Prop} (hx : ∀ z : kbM, P (z) → kbR l MX5_layGains 6 Q 70 [none, none, none, none, none] [] z) {rec : Int32 → kbM → Option (kbM)} (hrec : ∀ (v4 : Int32) (μ : kbM), kbG (rec v4 μ) P → kbR l MX5_layGains 6 Q 3 [some (.ref 54), some (.int v1), some (.int v2), some (.ref 55), some (.int v4)] [] μ) (h : kbG (jn_PL_layGains_55_64 n rec v1 v2 v4 μ) P) : kbR l MX5_layGains 6 Q 64 [some (.ref 54), some (.int v1), some (.int v2), some (.ref 55), some (.int v4)] [] μ := by
  unfold jn_PL_layGains_55_64 at h
  refine r_iinc 1 dX5_layGains_64 rfl (by decide) (Nat.le_of_ble_eq_true rfl) rfl ?_
  refine r_goto 3 dX5_layGains_67 (by decide) ?_
  refine r_le [some (.ref 54), some (.int v1), some (.int v2), some (.ref 55), some (.int (v4 + 1))] ⟨rfl, ⟨rfl, ⟨rfl, ⟨rfl, ⟨rfl, trivial⟩⟩⟩⟩⟩ ?_
  exact hrec (v4 + 1) μ h
def jn_PL_layGains_55_55 (n : Nat) (rec : Int32 → kbM → Option (kbM)) (v1 : Int32) (v2 : Int32) (v4 : Int32) (w1 : Int32) (w2 : Int32) (μ : kbM) : Option (kbM) :=
  kbIf (kbIn w1 10) <|
  jn_PL_layGains_55_64 n rec v1 v2 v4 (kbW μ 55 w1.toNatClampNeg w2)
theorem jnR_PL_layGains_55_55 {l : Launch} (n : Nat)   (v1 : Int32) (v2 : Int32) (v4 : Int32) (w1 : Int32) (w2 : Int32) (μ : kbM) {Q : kbQt} {P : kbM → Prop} (hx : ∀ z : kbM, P (z) → kbR l MX5_layGains 6 Q 70 [none, none, none, none, none] [] z) {rec : Int32 → kbM → Option (kbM)} (hrec : ∀ (v4 : Int32) (μ : kbM), kbG (rec v4 μ) P → kbR l MX5_layGains 6 Q 3 [some (.ref 54), some (.int v1), some (.int v2), some (.ref 55), some (.int v4)] [] μ) (h : kbG (jn_PL_layGains_55_55 n rec v1 v2 v4 w1 w2 μ) P) : kbR l MX5_layGains 6 Q 55 [some (.ref 54), some (.int v1), some (.int v2), some (.ref 55), some (.int v4)] [.int w2, .int w1, .ref 55] μ := by
  unfold jn_PL_layGains_55_55 at h
  obtain ⟨hin, h⟩ := kbG_if h
  replace hin := kbIn_of hin
  refine q_iast w1.toNatClampNeg rfl sh55 hin dX5_layGains_55 ?_
  refine r_goto 64 dX5_layGains_56 (by decide) ?_
  refine r_le [some (.ref 54), some (.int v1), some (.int v2), some (.ref 55), some (.int v4)] ⟨rfl, ⟨rfl, ⟨rfl, ⟨rfl, ⟨rfl, trivial⟩⟩⟩⟩⟩ ?_
  exact jnR_PL_layGains_55_64 n v1 v2 v4 (kbW μ 55 w1.toNatClampNeg w2) (hx := hx) (hrec := hrec) h
def lp_PL_layGains_55_3 (n : Nat) (v1 : Int32) (v2 : Int32) : Nat → Int32 → kbM → Option (kbM)
  | 0, _, _ => none
  | k + 1, v4, μ =>
    if (μ.1 13 4) ≤ v4 then
      some μ
    else
      (f_HO_can n v1 v4 μ).bind fun x1 =>
      if x1 = 0 then
        kbIf (kbIn v4 10) <|
        jn_PL_layGains_55_64 n (lp_PL_layGains_55_3 n v1 v2 k) v1 v2 v4 (kbW μ 55 v4.toNatClampNeg (-1))
      else
        (f_PL_isUnderstood n v4 v2 μ).bind fun x2 =>
        if x2.1 = 0 then
          jn_PL_layGains_55_55 n (lp_PL_layGains_55_3 n v1 v2 k) v1 v2 v4 v4 0 x2.2
        else
          kbIf (kbIn v4 10) <|
          jn_PL_layGains_55_55 n (lp_PL_layGains_55_3 n v1 v2 k) v1 v2 v4 v4 (x2.2.1 17 v4.toNatClampNeg) x2.2
theorem lpR_PL_layGains_55_3 {l : Launch} (n : Nat) (v1 : Int32) (v2 : Int32)  {Q : kbQt} {P : kbM → Prop} (hx : ∀ z : kbM, P (z) → kbR l MX5_layGains 6 Q 70 [none, none, none, none, none] [] z) : ∀ (k : Nat) (v4 : Int32) (μ : kbM), kbG (lp_PL_layGains_55_3 n v1 v2 k v4 μ) P → kbR l MX5_layGains 6 Q 3 [some (.ref 54), some (.int v1), some (.int v2), some (.ref 55), some (.int v4)] [] μ := by
  intro k
  induction k with
  | zero => intro v4 μ h; exact absurd h kbG_none
  | succ k ih =>
    intro v4 μ h
    unfold lp_PL_layGains_55_3 at h
    refine r_iload dX5_layGains_3 rfl ?_
    refine r_aload_n dX5_layGains_5 rfl ?_
    refine r_getR flX5_32 sh54 rfl dX5_layGains_6 ?_
    refine r_getI flX5_33 sh13 rfl dX5_layGains_9 ?_
    refine r_icmp_ge 70 dX5_layGains_12 (by decide) (fun hc => ?_) (fun hc => ?_)
    · replace h := kbG_t hc h
      refine r_le [none, none, none, none, none] trivial ?_
      exact hx μ (kbG_some h)
    · replace h := kbG_f hc h
      refine r_aload_n dX5_layGains_15 rfl ?_
      refine r_getR flX5_18 sh54 rfl dX5_layGains_16 ?_
      refine r_iload_n dX5_layGains_19 rfl ?_
      refine r_iload dX5_layGains_20 rfl ?_
      obtain ⟨x1, hx0, h⟩ := kbG_bind h
      refine r_invV_i cvX5_39 sh51 rfl (sp_HO_can n v1 v4 μ hx0) rfl rfl (Nat.le_of_ble_eq_true rfl) (Nat.le_of_ble_eq_true rfl) dX5_layGains_22 ?_
      refine r_if_eq 59 dX5_layGains_25 (by decide) (fun hc => ?_) (fun hc => ?_)
      · replace h := kbG_t hc h
        refine r_aload_n dX5_layGains_59 rfl ?_
        refine r_iload dX5_layGains_60 rfl ?_
        refine r_iconst (-1) dX5_layGains_62 (by decide) ?_
        obtain ⟨hin, h⟩ := kbG_if h
        replace hin := kbIn_of hin
        refine q_iast v4.toNatClampNeg rfl sh55 hin dX5_layGains_63 ?_
        refine r_le [some (.ref 54), some (.int v1), some (.int v2), some (.ref 55), some (.int v4)] ⟨rfl, ⟨rfl, ⟨rfl, ⟨rfl, ⟨rfl, trivial⟩⟩⟩⟩⟩ ?_
        exact jnR_PL_layGains_55_64 n v1 v2 v4 (kbW μ 55 v4.toNatClampNeg (-1)) (hx := hx) (hrec := ih) h
      · replace h := kbG_f hc h
        refine r_aload_n dX5_layGains_28 rfl ?_
        refine r_iload dX5_layGains_29 rfl ?_
        refine r_aload_n dX5_layGains_31 rfl ?_
        refine r_iload dX5_layGains_32 rfl ?_
        refine r_iload_n dX5_layGains_34 rfl ?_
        obtain ⟨x2, hx0, h⟩ := kbG_bind h
        refine r_invV_i cvX5_43 sh54 rfl (sp_PL_isUnderstood n v4 v2 μ hx0) rfl rfl (Nat.le_of_ble_eq_true rfl) (Nat.le_of_ble_eq_true rfl) dX5_layGains_35 ?_
        refine r_if_eq 54 dX5_layGains_38 (by decide) (fun hc => ?_) (fun hc => ?_)
        · replace h := kbG_t hc h
          refine r_iconst 0 dX5_layGains_54 (by decide) ?_
          refine r_le [some (.ref 54), some (.int v1), some (.int v2), some (.ref 55), some (.int v4)] ⟨rfl, ⟨rfl, ⟨rfl, ⟨rfl, ⟨rfl, trivial⟩⟩⟩⟩⟩ ?_
          exact jnR_PL_layGains_55_55 n v1 v2 v4 v4 0 x2.2 (hx := hx) (hrec := ih) h
        · replace h := kbG_f hc h
          refine r_aload_n dX5_layGains_41 rfl ?_
          refine r_getR flX5_32 sh54 rfl dX5_layGains_42 ?_
          refine r_getR flX5_73 sh13 rfl dX5_layGains_45 ?_
          refine r_iload dX5_layGains_48 rfl ?_
          obtain ⟨hin, h⟩ := kbG_if h
          replace hin := kbIn_of hin
          refine q_iald v4.toNatClampNeg rfl sh17 hin dX5_layGains_50 ?_
          refine r_goto 55 dX5_layGains_51 (by decide) ?_
          refine r_le [some (.ref 54), some (.int v1), some (.int v2), some (.ref 55), some (.int v4)] ⟨rfl, ⟨rfl, ⟨rfl, ⟨rfl, ⟨rfl, trivial⟩⟩⟩⟩⟩ ?_
          exact jnR_PL_layGains_55_55 n v1 v2 v4 v4 (x2.2.1 17 v4.toNatClampNeg) x2.2 (hx := hx) (hrec := ih) h
def f_PL_layGains_55 (n : Nat) (a1 : Int32) (a2 : Int32) (μ : kbM) : Option (kbM) :=
  (lp_PL_layGains_55_3 n a1 a2 n 0 μ).bind fun x3 =>
  some x3
theorem sp_PL_layGains_55 {l : Launch} (n : Nat) (a1 : Int32) (a2 : Int32) (μ : kbM)  {x : kbM} (h : f_PL_layGains_55 n a1 a2 μ = some x) : kbS l MX5_layGains 6 [.ref 54, .int a1, .int a2, .ref 55] μ (kbQe none x) := by
  refine kb_enter 1 rfl rfl ?_
  suffices H : ∀ (Q : kbQt) (P : kbM → Prop), (∀ z : kbM, P z → Q none z) → kbG (f_PL_layGains_55 n a1 a2 μ) P → kbR l MX5_layGains 6 Q 0 [some (.ref 54), some (.int a1), some (.int a2), some (.ref 55), none] [] μ from H _ (fun z => z = x) (fun z e => by subst e; exact ⟨rfl, rfl⟩) ⟨x, h, rfl⟩
  clear h
  intro Q P hr h
  unfold f_PL_layGains_55 at h
  refine r_iconst 0 dX5_layGains_0 (by decide) ?_
  refine r_istore dX5_layGains_1 (Nat.le_of_ble_eq_true rfl) rfl ?_
  refine r_le [some (.ref 54), some (.int a1), some (.int a2), some (.ref 55), some (.int 0)] ⟨rfl, ⟨rfl, ⟨rfl, ⟨rfl, ⟨rfl, trivial⟩⟩⟩⟩⟩ ?_
  obtain ⟨x3, hx0, h⟩ := kbG_bind h
  refine lpR_PL_layGains_55_3 n a1 a2 (P := fun z => x3 = z) (hx := fun z e => ?_) n _ _ ⟨_, hx0, rfl⟩
  subst e
  exact r_vret rfl dX5_layGains_70 (hr x3 (kbG_some h))
def jn_PL_layGains_56_64 (n : Nat) (rec : Int32 → kbM → Option (kbM)) (v1 : Int32) (v2 : Int32) (v4 : Int32) (μ : kbM) : Option (kbM) :=
  rec (v4 + 1) μ
theorem jnR_PL_layGains_56_64 {l : Launch} (n : Nat)   (v1 : Int32) (v2 : Int32) (v4 : Int32) (μ : kbM) {Q : kbQt} {P : kbM → Prop} (hx : ∀ z : kbM, P (z) → kbR l MX5_layGains 6 Q 70 [none, none, none, none, none] [] z) {rec : Int32 → kbM → Option (kbM)} (hrec : ∀ (v4 : Int32) (μ : kbM), kbG (rec v4 μ) P → kbR l MX5_layGains 6 Q 3 [some (.ref 54), some (.int v1), some (.int v2), some (.ref 56), some (.int v4)] [] μ) (h : kbG (jn_PL_layGains_56_64 n rec v1 v2 v4 μ) P) : kbR l MX5_layGains 6 Q 64 [some (.ref 54), some (.int v1), some (.int v2), some (.ref 56), some (.int v4)] [] μ := by
  unfold jn_PL_layGains_56_64 at h
  refine r_iinc 1 dX5_layGains_64 rfl (by decide) (Nat.le_of_ble_eq_true rfl) rfl ?_
  refine r_goto 3 dX5_layGains_67 (by decide) ?_
  refine r_le [some (.ref 54), some (.int v1), some (.int v2), some (.ref 56), some (.int (v4 + 1))] ⟨rfl, ⟨rfl, ⟨rfl, ⟨rfl, ⟨rfl, trivial⟩⟩⟩⟩⟩ ?_
  exact hrec (v4 + 1) μ h
def jn_PL_layGains_56_55 (n : Nat) (rec : Int32 → kbM → Option (kbM)) (v1 : Int32) (v2 : Int32) (v4 : Int32) (w1 : Int32) (w2 : Int32) (μ : kbM) : Option (kbM) :=
  kbIf (kbIn w1 10) <|
  jn_PL_layGains_56_64 n rec v1 v2 v4 (kbW μ 56 w1.toNatClampNeg w2)
theorem jnR_PL_layGains_56_55 {l : Launch} (n : Nat)   (v1 : Int32) (v2 : Int32) (v4 : Int32) (w1 : Int32) (w2 : Int32) (μ : kbM) {Q : kbQt} {P : kbM → Prop} (hx : ∀ z : kbM, P (z) → kbR l MX5_layGains 6 Q 70 [none, none, none, none, none] [] z) {rec : Int32 → kbM → Option (kbM)} (hrec : ∀ (v4 : Int32) (μ : kbM), kbG (rec v4 μ) P → kbR l MX5_layGains 6 Q 3 [some (.ref 54), some (.int v1), some (.int v2), some (.ref 56), some (.int v4)] [] μ) (h : kbG (jn_PL_layGains_56_55 n rec v1 v2 v4 w1 w2 μ) P) : kbR l MX5_layGains 6 Q 55 [some (.ref 54), some (.int v1), some (.int v2), some (.ref 56), some (.int v4)] [.int w2, .int w1, .ref 56] μ := by
  unfold jn_PL_layGains_56_55 at h
  obtain ⟨hin, h⟩ := kbG_if h
  replace hin := kbIn_of hin
  refine q_iast w1.toNatClampNeg rfl sh56 hin dX5_layGains_55 ?_
  refine r_goto 64 dX5_layGains_56 (by decide) ?_
  refine r_le [some (.ref 54), some (.int v1), some (.int v2), some (.ref 56), some (.int v4)] ⟨rfl, ⟨rfl, ⟨rfl, ⟨rfl, ⟨rfl, trivial⟩⟩⟩⟩⟩ ?_
  exact jnR_PL_layGains_56_64 n v1 v2 v4 (kbW μ 56 w1.toNatClampNeg w2) (hx := hx) (hrec := hrec) h
def lp_PL_layGains_56_3 (n : Nat) (v1 : Int32) (v2 : Int32) : Nat → Int32 → kbM → Option (kbM)
  | 0, _, _ => none
  | k + 1, v4, μ =>
    if (μ.1 13 4) ≤ v4 then
      some μ
    else
      (f_HO_can n v1 v4 μ).bind fun x1 =>
      if x1 = 0 then
        kbIf (kbIn v4 10) <|
        jn_PL_layGains_56_64 n (lp_PL_layGains_56_3 n v1 v2 k) v1 v2 v4 (kbW μ 56 v4.toNatClampNeg (-1))
      else
        (f_PL_isUnderstood n v4 v2 μ).bind fun x2 =>
        if x2.1 = 0 then
          jn_PL_layGains_56_55 n (lp_PL_layGains_56_3 n v1 v2 k) v1 v2 v4 v4 0 x2.2
        else
          kbIf (kbIn v4 10) <|
          jn_PL_layGains_56_55 n (lp_PL_layGains_56_3 n v1 v2 k) v1 v2 v4 v4 (x2.2.1 17 v4.toNatClampNeg) x2.2
theorem lpR_PL_layGains_56_3 {l : Launch} (n : Nat) (v1 : Int32) (v2 : Int32)  {Q : kbQt} {P : kbM → Prop} (hx : ∀ z : kbM, P (z) → kbR l MX5_layGains 6 Q 70 [none, none, none, none, none] [] z) : ∀ (k : Nat) (v4 : Int32) (μ : kbM), kbG (lp_PL_layGains_56_3 n v1 v2 k v4 μ) P → kbR l MX5_layGains 6 Q 3 [some (.ref 54), some (.int v1), some (.int v2), some (.ref 56), some (.int v4)] [] μ := by
  intro k
  induction k with
  | zero => intro v4 μ h; exact absurd h kbG_none
  | succ k ih =>
    intro v4 μ h
    unfold lp_PL_layGains_56_3 at h
    refine r_iload dX5_layGains_3 rfl ?_
    refine r_aload_n dX5_layGains_5 rfl ?_
    refine r_getR flX5_32 sh54 rfl dX5_layGains_6 ?_
    refine r_getI flX5_33 sh13 rfl dX5_layGains_9 ?_
    refine r_icmp_ge 70 dX5_layGains_12 (by decide) (fun hc => ?_) (fun hc => ?_)
    · replace h := kbG_t hc h
      refine r_le [none, none, none, none, none] trivial ?_
      exact hx μ (kbG_some h)
    · replace h := kbG_f hc h
      refine r_aload_n dX5_layGains_15 rfl ?_
      refine r_getR flX5_18 sh54 rfl dX5_layGains_16 ?_
      refine r_iload_n dX5_layGains_19 rfl ?_
      refine r_iload dX5_layGains_20 rfl ?_
      obtain ⟨x1, hx0, h⟩ := kbG_bind h
      refine r_invV_i cvX5_39 sh51 rfl (sp_HO_can n v1 v4 μ hx0) rfl rfl (Nat.le_of_ble_eq_true rfl) (Nat.le_of_ble_eq_true rfl) dX5_layGains_22 ?_
      refine r_if_eq 59 dX5_layGains_25 (by decide) (fun hc => ?_) (fun hc => ?_)
      · replace h := kbG_t hc h
        refine r_aload_n dX5_layGains_59 rfl ?_
        refine r_iload dX5_layGains_60 rfl ?_
        refine r_iconst (-1) dX5_layGains_62 (by decide) ?_
        obtain ⟨hin, h⟩ := kbG_if h
        replace hin := kbIn_of hin
        refine q_iast v4.toNatClampNeg rfl sh56 hin dX5_layGains_63 ?_
        refine r_le [some (.ref 54), some (.int v1), some (.int v2), some (.ref 56), some (.int v4)] ⟨rfl, ⟨rfl, ⟨rfl, ⟨rfl, ⟨rfl, trivial⟩⟩⟩⟩⟩ ?_
        exact jnR_PL_layGains_56_64 n v1 v2 v4 (kbW μ 56 v4.toNatClampNeg (-1)) (hx := hx) (hrec := ih) h
      · replace h := kbG_f hc h
        refine r_aload_n dX5_layGains_28 rfl ?_
        refine r_iload dX5_layGains_29 rfl ?_
        refine r_aload_n dX5_layGains_31 rfl ?_
        refine r_iload dX5_layGains_32 rfl ?_
        refine r_iload_n dX5_layGains_34 rfl ?_
        obtain ⟨x2, hx0, h⟩ := kbG_bind h
        refine r_invV_i cvX5_43 sh54 rfl (sp_PL_isUnderstood n v4 v2 μ hx0) rfl rfl (Nat.le_of_ble_eq_true rfl) (Nat.le_of_ble_eq_true rfl) dX5_layGains_35 ?_
        refine r_if_eq 54 dX5_layGains_38 (by decide) (fun hc => ?_) (fun hc => ?_)
        · replace h := kbG_t hc h
          refine r_iconst 0 dX5_layGains_54 (by decide) ?_
          refine r_le [some (.ref 54), some (.int v1), some (.int v2), some (.ref 56), some (.int v4)] ⟨rfl, ⟨rfl, ⟨rfl, ⟨rfl, ⟨rfl, trivial⟩⟩⟩⟩⟩ ?_
          exact jnR_PL_layGains_56_55 n v1 v2 v4 v4 0 x2.2 (hx := hx) (hrec := ih) h
        · replace h := kbG_f hc h
          refine r_aload_n dX5_layGains_41 rfl ?_
          refine r_getR flX5_32 sh54 rfl dX5_layGains_42 ?_
          refine r_getR flX5_73 sh13 rfl dX5_layGains_45 ?_
          refine r_iload dX5_layGains_48 rfl ?_
          obtain ⟨hin, h⟩ := kbG_if h
          replace hin := kbIn_of hin
          refine q_iald v4.toNatClampNeg rfl sh17 hin dX5_layGains_50 ?_
          refine r_goto 55 dX5_layGains_51 (by decide) ?_
          refine r_le [some (.ref 54), some (.int v1), some (.int v2), some (.ref 56), some (.int v4)] ⟨rfl, ⟨rfl, ⟨rfl, ⟨rfl, ⟨rfl, trivial⟩⟩⟩⟩⟩ ?_
          exact jnR_PL_layGains_56_55 n v1 v2 v4 v4 (x2.2.1 17 v4.toNatClampNeg) x2.2 (hx := hx) (hrec := ih) h
def f_PL_layGains_56 (n : Nat) (a1 : Int32) (a2 : Int32) (μ : kbM) : Option (kbM) :=
  (lp_PL_layGains_56_3 n a1 a2 n 0 μ).bind fun x3 =>
  some x3
theorem sp_PL_layGains_56 {l : Launch} (n : Nat) (a1 : Int32) (a2 : Int32) (μ : kbM)  {x : kbM} (h : f_PL_layGains_56 n a1 a2 μ = some x) : kbS l MX5_layGains 6 [.ref 54, .int a1, .int a2, .ref 56] μ (kbQe none x) := by
  refine kb_enter 1 rfl rfl ?_
  suffices H : ∀ (Q : kbQt) (P : kbM → Prop), (∀ z : kbM, P z → Q none z) → kbG (f_PL_layGains_56 n a1 a2 μ) P → kbR l MX5_layGains 6 Q 0 [some (.ref 54), some (.int a1), some (.int a2), some (.ref 56), none] [] μ from H _ (fun z => z = x) (fun z e => by subst e; exact ⟨rfl, rfl⟩) ⟨x, h, rfl⟩
  clear h
  intro Q P hr h
  unfold f_PL_layGains_56 at h
  refine r_iconst 0 dX5_layGains_0 (by decide) ?_
  refine r_istore dX5_layGains_1 (Nat.le_of_ble_eq_true rfl) rfl ?_
  refine r_le [some (.ref 54), some (.int a1), some (.int a2), some (.ref 56), some (.int 0)] ⟨rfl, ⟨rfl, ⟨rfl, ⟨rfl, ⟨rfl, trivial⟩⟩⟩⟩⟩ ?_
  obtain ⟨x3, hx0, h⟩ := kbG_bind h
  refine lpR_PL_layGains_56_3 n a1 a2 (P := fun z => x3 = z) (hx := fun z e => ?_) n _ _ ⟨_, hx0, rfl⟩
  subst e
  exact r_vret rfl dX5_layGains_70 (hr x3 (kbG_some h))
def jn_PL_net_55_14 (w0 : Int32) (w1 : Int32) (μ : kbM) : Option (Int32) :=
  some (w0 - w1)
theorem jnR_PL_net_55_14 {l : Launch}   (w0 : Int32) (w1 : Int32) (μ : kbM) {Q : kbQt} {P : Int32 → Prop} (hr : ∀ z : Int32, P z → Q (some (.int z)) μ) (h : kbG (jn_PL_net_55_14 w0 w1 μ) P) : kbR l MX5_net 1 Q 14 [none, none, none] [.int w1, .int w0] μ := by
  unfold jn_PL_net_55_14 at h
  refine r_isub dX5_net_14 ?_
  exact r_iret rfl dX5_net_15 (hr (w0 - w1) (kbG_some h))
def f_PL_net_55 (a1 : Int32) (a2 : Int32) (μ : kbM) : Option (Int32) :=
  kbIf (kbIn a1 10) <|
  if a1 = a2 then
    jn_PL_net_55_14 (μ.1 55 a1.toNatClampNeg) 20 μ
  else
    jn_PL_net_55_14 (μ.1 55 a1.toNatClampNeg) 0 μ
theorem sp_PL_net_55 {l : Launch} (a1 : Int32) (a2 : Int32) (μ : kbM)  {x : Int32} (h : f_PL_net_55 a1 a2 μ = some x) : kbS l MX5_net 1 [.ref 55, .int a1, .int a2] μ (kbQe (some (.int x)) μ) := by
  refine kb_enter 0 rfl rfl ?_
  suffices H : ∀ (Q : kbQt) (P : Int32 → Prop), (∀ z : Int32, P z → Q (some (.int z)) μ) → kbG (f_PL_net_55 a1 a2 μ) P → kbR l MX5_net 1 Q 0 [some (.ref 55), some (.int a1), some (.int a2)] [] μ from H _ (fun z => z = x) (fun z e => by subst e; exact ⟨rfl, rfl⟩) ⟨x, h, rfl⟩
  clear h
  intro Q P hr h
  unfold f_PL_net_55 at h
  refine r_aload_n dX5_net_0 rfl ?_
  refine r_iload_n dX5_net_1 rfl ?_
  obtain ⟨hin, h⟩ := kbG_if h
  replace hin := kbIn_of hin
  refine q_iald a1.toNatClampNeg rfl sh55 hin dX5_net_2 ?_
  refine r_iload_n dX5_net_3 rfl ?_
  refine r_iload_n dX5_net_4 rfl ?_
  refine r_icmp_ne 13 dX5_net_5 (by decide) (fun hc => ?_) (fun hc => ?_)
  · replace h := kbG_f hc h
    refine r_iconst 0 dX5_net_13 (by decide) ?_
    refine r_le [none, none, none] trivial ?_
    exact jnR_PL_net_55_14 (μ.1 55 a1.toNatClampNeg) 0 μ (hr := hr) h
  · replace h := kbG_t hc h
    refine r_bipush 20 dX5_net_8 (by decide) ?_
    refine r_goto 14 dX5_net_10 (by decide) ?_
    refine r_le [none, none, none] trivial ?_
    exact jnR_PL_net_55_14 (μ.1 55 a1.toNatClampNeg) 20 μ (hr := hr) h
def jn_PL_rests_55_50 (n : Nat) (rec : Int32 → Option ((Int32) ⊕ (Unit))) (v2 : Int32) (v3 : Int32) (v4 : Int32) (μ : kbM) : Option ((Int32) ⊕ (Unit)) :=
  rec (v4 + 1)
theorem jnR_PL_rests_55_50 {l : Launch} (n : Nat)   (v2 : Int32) (v3 : Int32) (v4 : Int32) (μ : kbM) {Q : kbQt} {P : (Int32) ⊕ (Unit) → Prop} (hr : ∀ z : Int32, P (.inl z) → Q (some (.int z)) μ) (hx : ∀ z : Unit, P (.inr z) → kbR l MX5_rests 2 Q 56 [none, none, none, none, none] [] μ) {rec : Int32 → Option ((Int32) ⊕ (Unit))} (hrec : ∀ (v4 : Int32), kbG (rec v4) P → kbR l MX5_rests 2 Q 12 [some (.ref 54), some (.ref 55), some (.int v2), some (.int v3), some (.int v4)] [] μ) (h : kbG (jn_PL_rests_55_50 n rec v2 v3 v4 μ) P) : kbR l MX5_rests 2 Q 50 [some (.ref 54), some (.ref 55), some (.int v2), some (.int v3), some (.int v4)] [] μ := by
  unfold jn_PL_rests_55_50 at h
  refine r_iinc 1 dX5_rests_50 rfl (by decide) (Nat.le_of_ble_eq_true rfl) rfl ?_
  refine r_goto 12 dX5_rests_53 (by decide) ?_
  refine r_le [some (.ref 54), some (.ref 55), some (.int v2), some (.int v3), some (.int (v4 + 1))] ⟨rfl, ⟨rfl, ⟨rfl, ⟨rfl, ⟨rfl, trivial⟩⟩⟩⟩⟩ ?_
  exact hrec (v4 + 1) h
def lp_PL_rests_55_12 (n : Nat) (v2 : Int32) (v3 : Int32) (μ : kbM) : Nat → Int32 → Option ((Int32) ⊕ (Unit))
  | 0, _ => none
  | k + 1, v4 =>
    if (μ.1 13 4) ≤ v4 then
      some (.inr (()))
    else
      kbIf (kbIn v4 10) <|
      if (μ.1 55 v4.toNatClampNeg) = (-1) then
        jn_PL_rests_55_50 n (lp_PL_rests_55_12 n v2 v3 μ k) v2 v3 v4 μ
      else
        (f_PL_net_55 v4 v3 μ).bind fun x1 =>
        (f_PL_net_55 v2 v3 μ).bind fun x2 =>
        if x1 ≤ x2 then
          jn_PL_rests_55_50 n (lp_PL_rests_55_12 n v2 v3 μ k) v2 v3 v4 μ
        else
          some (.inl 0)
theorem lpR_PL_rests_55_12 {l : Launch} (n : Nat) (v2 : Int32) (v3 : Int32) (μ : kbM)  {Q : kbQt} {P : (Int32) ⊕ (Unit) → Prop} (hr : ∀ z : Int32, P (.inl z) → Q (some (.int z)) μ) (hx : ∀ z : Unit, P (.inr z) → kbR l MX5_rests 2 Q 56 [none, none, none, none, none] [] μ) : ∀ (k : Nat) (v4 : Int32), kbG (lp_PL_rests_55_12 n v2 v3 μ k v4) P → kbR l MX5_rests 2 Q 12 [some (.ref 54), some (.ref 55), some (.int v2), some (.int v3), some (.int v4)] [] μ := by
  intro k
  induction k with
  | zero => intro v4 h; exact absurd h kbG_none
  | succ k ih =>
    intro v4 h
    unfold lp_PL_rests_55_12 at h
    refine r_iload dX5_rests_12 rfl ?_
    refine r_aload_n dX5_rests_14 rfl ?_
    refine r_getR flX5_32 sh54 rfl dX5_rests_15 ?_
    refine r_getI flX5_33 sh13 rfl dX5_rests_18 ?_
    refine r_icmp_ge 56 dX5_rests_21 (by decide) (fun hc => ?_) (fun hc => ?_)
    · replace h := kbG_t hc h
      refine r_le [none, none, none, none, none] trivial ?_
      exact hx (()) (kbG_some h)
    · replace h := kbG_f hc h
      refine r_aload_n dX5_rests_24 rfl ?_
      refine r_iload dX5_rests_25 rfl ?_
      obtain ⟨hin, h⟩ := kbG_if h
      replace hin := kbIn_of hin
      refine q_iald v4.toNatClampNeg rfl sh55 hin dX5_rests_27 ?_
      refine r_iconst (-1) dX5_rests_28 (by decide) ?_
      refine r_icmp_eq 50 dX5_rests_29 (by decide) (fun hc => ?_) (fun hc => ?_)
      · replace h := kbG_t hc h
        refine r_le [some (.ref 54), some (.ref 55), some (.int v2), some (.int v3), some (.int v4)] ⟨rfl, ⟨rfl, ⟨rfl, ⟨rfl, ⟨rfl, trivial⟩⟩⟩⟩⟩ ?_
        exact jnR_PL_rests_55_50 n v2 v3 v4 μ (hr := hr) (hx := hx) (hrec := ih) h
      · replace h := kbG_f hc h
        refine r_aload_n dX5_rests_32 rfl ?_
        refine r_iload dX5_rests_33 rfl ?_
        refine r_iload_n dX5_rests_35 rfl ?_
        obtain ⟨x1, hx0, h⟩ := kbG_bind h
        refine r_inv_i csX5_76 (sp_PL_net_55 v4 v3 μ hx0) rfl rfl (Nat.le_of_ble_eq_true rfl) (Nat.le_of_ble_eq_true rfl) dX5_rests_36 ?_
        refine r_aload_n dX5_rests_39 rfl ?_
        refine r_iload_n dX5_rests_40 rfl ?_
        refine r_iload_n dX5_rests_41 rfl ?_
        obtain ⟨x2, hx0, h⟩ := kbG_bind h
        refine r_inv_i csX5_76 (sp_PL_net_55 v2 v3 μ hx0) rfl rfl (Nat.le_of_ble_eq_true rfl) (Nat.le_of_ble_eq_true rfl) dX5_rests_42 ?_
        refine r_icmp_le 50 dX5_rests_45 (by decide) (fun hc => ?_) (fun hc => ?_)
        · replace h := kbG_t hc h
          refine r_le [some (.ref 54), some (.ref 55), some (.int v2), some (.int v3), some (.int v4)] ⟨rfl, ⟨rfl, ⟨rfl, ⟨rfl, ⟨rfl, trivial⟩⟩⟩⟩⟩ ?_
          exact jnR_PL_rests_55_50 n v2 v3 v4 μ (hr := hr) (hx := hx) (hrec := ih) h
        · replace h := kbG_f hc h
          refine r_iconst 0 dX5_rests_48 (by decide) ?_
          exact r_zret rfl rfl dX5_rests_49 (hr 0 (kbG_some h))
def f_PL_rests_55 (n : Nat) (a2 : Int32) (a3 : Int32) (μ : kbM) : Option (Int32) :=
  kbIf (kbIn a2 10) <|
  if (μ.1 55 a2.toNatClampNeg) = (-1) then
    some 0
  else
    kbOr (lp_PL_rests_55_12 n a2 a3 μ n 0) (fun r4 => some r4) fun x3 =>
    some 1
theorem sp_PL_rests_55 {l : Launch} (n : Nat) (a2 : Int32) (a3 : Int32) (μ : kbM)  {x : Int32} (h : f_PL_rests_55 n a2 a3 μ = some x) : kbS l MX5_rests 2 [.ref 54, .ref 55, .int a2, .int a3] μ (kbQe (some (.int x)) μ) := by
  refine kb_enter 1 rfl rfl ?_
  suffices H : ∀ (Q : kbQt) (P : Int32 → Prop), (∀ z : Int32, P z → Q (some (.int z)) μ) → kbG (f_PL_rests_55 n a2 a3 μ) P → kbR l MX5_rests 2 Q 0 [some (.ref 54), some (.ref 55), some (.int a2), some (.int a3), none] [] μ from H _ (fun z => z = x) (fun z e => by subst e; exact ⟨rfl, rfl⟩) ⟨x, h, rfl⟩
  clear h
  intro Q P hr h
  unfold f_PL_rests_55 at h
  refine r_aload_n dX5_rests_0 rfl ?_
  refine r_iload_n dX5_rests_1 rfl ?_
  obtain ⟨hin, h⟩ := kbG_if h
  replace hin := kbIn_of hin
  refine q_iald a2.toNatClampNeg rfl sh55 hin dX5_rests_2 ?_
  refine r_iconst (-1) dX5_rests_3 (by decide) ?_
  refine r_icmp_ne 9 dX5_rests_4 (by decide) (fun hc => ?_) (fun hc => ?_)
  · replace h := kbG_f hc h
    refine r_iconst 0 dX5_rests_9 (by decide) ?_
    refine r_istore dX5_rests_10 (Nat.le_of_ble_eq_true rfl) rfl ?_
    refine r_le [some (.ref 54), some (.ref 55), some (.int a2), some (.int a3), some (.int 0)] ⟨rfl, ⟨rfl, ⟨rfl, ⟨rfl, ⟨rfl, trivial⟩⟩⟩⟩⟩ ?_
    rcases kbG_or h with ⟨r4, hx0, h⟩ | ⟨x3, hx0, h⟩
    · exact lpR_PL_rests_55_12 n a2 a3 μ (P := fun z => .inl r4 = z) (hr := fun z e => by cases e; exact hr _ (kbG_some h)) (hx := fun z e => by cases e) n _ ⟨_, hx0, rfl⟩
    · refine lpR_PL_rests_55_12 n a2 a3 μ (P := fun z => .inr x3 = z) (hr := fun z e => by cases e) (hx := fun z e => ?_) n _ ⟨_, hx0, rfl⟩
      cases e
      refine r_iconst 1 dX5_rests_56 (by decide) ?_
      exact r_zret rfl rfl dX5_rests_57 (hr 1 (kbG_some h))
  · replace h := kbG_t hc h
    refine r_iconst 0 dX5_rests_7 (by decide) ?_
    exact r_zret rfl rfl dX5_rests_8 (hr 0 (kbG_some h))
def jn_PL_net_56_14 (w0 : Int32) (w1 : Int32) (μ : kbM) : Option (Int32) :=
  some (w0 - w1)
theorem jnR_PL_net_56_14 {l : Launch}   (w0 : Int32) (w1 : Int32) (μ : kbM) {Q : kbQt} {P : Int32 → Prop} (hr : ∀ z : Int32, P z → Q (some (.int z)) μ) (h : kbG (jn_PL_net_56_14 w0 w1 μ) P) : kbR l MX5_net 1 Q 14 [none, none, none] [.int w1, .int w0] μ := by
  unfold jn_PL_net_56_14 at h
  refine r_isub dX5_net_14 ?_
  exact r_iret rfl dX5_net_15 (hr (w0 - w1) (kbG_some h))
def f_PL_net_56 (a1 : Int32) (a2 : Int32) (μ : kbM) : Option (Int32) :=
  kbIf (kbIn a1 10) <|
  if a1 = a2 then
    jn_PL_net_56_14 (μ.1 56 a1.toNatClampNeg) 20 μ
  else
    jn_PL_net_56_14 (μ.1 56 a1.toNatClampNeg) 0 μ
theorem sp_PL_net_56 {l : Launch} (a1 : Int32) (a2 : Int32) (μ : kbM)  {x : Int32} (h : f_PL_net_56 a1 a2 μ = some x) : kbS l MX5_net 1 [.ref 56, .int a1, .int a2] μ (kbQe (some (.int x)) μ) := by
  refine kb_enter 0 rfl rfl ?_
  suffices H : ∀ (Q : kbQt) (P : Int32 → Prop), (∀ z : Int32, P z → Q (some (.int z)) μ) → kbG (f_PL_net_56 a1 a2 μ) P → kbR l MX5_net 1 Q 0 [some (.ref 56), some (.int a1), some (.int a2)] [] μ from H _ (fun z => z = x) (fun z e => by subst e; exact ⟨rfl, rfl⟩) ⟨x, h, rfl⟩
  clear h
  intro Q P hr h
  unfold f_PL_net_56 at h
  refine r_aload_n dX5_net_0 rfl ?_
  refine r_iload_n dX5_net_1 rfl ?_
  obtain ⟨hin, h⟩ := kbG_if h
  replace hin := kbIn_of hin
  refine q_iald a1.toNatClampNeg rfl sh56 hin dX5_net_2 ?_
  refine r_iload_n dX5_net_3 rfl ?_
  refine r_iload_n dX5_net_4 rfl ?_
  refine r_icmp_ne 13 dX5_net_5 (by decide) (fun hc => ?_) (fun hc => ?_)
  · replace h := kbG_f hc h
    refine r_iconst 0 dX5_net_13 (by decide) ?_
    refine r_le [none, none, none] trivial ?_
    exact jnR_PL_net_56_14 (μ.1 56 a1.toNatClampNeg) 0 μ (hr := hr) h
  · replace h := kbG_t hc h
    refine r_bipush 20 dX5_net_8 (by decide) ?_
    refine r_goto 14 dX5_net_10 (by decide) ?_
    refine r_le [none, none, none] trivial ?_
    exact jnR_PL_net_56_14 (μ.1 56 a1.toNatClampNeg) 20 μ (hr := hr) h
def jn_PL_rests_56_50 (n : Nat) (rec : Int32 → Option ((Int32) ⊕ (Unit))) (v2 : Int32) (v3 : Int32) (v4 : Int32) (μ : kbM) : Option ((Int32) ⊕ (Unit)) :=
  rec (v4 + 1)
theorem jnR_PL_rests_56_50 {l : Launch} (n : Nat)   (v2 : Int32) (v3 : Int32) (v4 : Int32) (μ : kbM) {Q : kbQt} {P : (Int32) ⊕ (Unit) → Prop} (hr : ∀ z : Int32, P (.inl z) → Q (some (.int z)) μ) (hx : ∀ z : Unit, P (.inr z) → kbR l MX5_rests 2 Q 56 [none, none, none, none, none] [] μ) {rec : Int32 → Option ((Int32) ⊕ (Unit))} (hrec : ∀ (v4 : Int32), kbG (rec v4) P → kbR l MX5_rests 2 Q 12 [some (.ref 54), some (.ref 56), some (.int v2), some (.int v3), some (.int v4)] [] μ) (h : kbG (jn_PL_rests_56_50 n rec v2 v3 v4 μ) P) : kbR l MX5_rests 2 Q 50 [some (.ref 54), some (.ref 56), some (.int v2), some (.int v3), some (.int v4)] [] μ := by
  unfold jn_PL_rests_56_50 at h
  refine r_iinc 1 dX5_rests_50 rfl (by decide) (Nat.le_of_ble_eq_true rfl) rfl ?_
  refine r_goto 12 dX5_rests_53 (by decide) ?_
  refine r_le [some (.ref 54), some (.ref 56), some (.int v2), some (.int v3), some (.int (v4 + 1))] ⟨rfl, ⟨rfl, ⟨rfl, ⟨rfl, ⟨rfl, trivial⟩⟩⟩⟩⟩ ?_
  exact hrec (v4 + 1) h
def lp_PL_rests_56_12 (n : Nat) (v2 : Int32) (v3 : Int32) (μ : kbM) : Nat → Int32 → Option ((Int32) ⊕ (Unit))
  | 0, _ => none
  | k + 1, v4 =>
    if (μ.1 13 4) ≤ v4 then
      some (.inr (()))
    else
      kbIf (kbIn v4 10) <|
      if (μ.1 56 v4.toNatClampNeg) = (-1) then
        jn_PL_rests_56_50 n (lp_PL_rests_56_12 n v2 v3 μ k) v2 v3 v4 μ
      else
        (f_PL_net_56 v4 v3 μ).bind fun x1 =>
        (f_PL_net_56 v2 v3 μ).bind fun x2 =>
        if x1 ≤ x2 then
          jn_PL_rests_56_50 n (lp_PL_rests_56_12 n v2 v3 μ k) v2 v3 v4 μ
        else
          some (.inl 0)
theorem lpR_PL_rests_56_12 {l : Launch} (n : Nat) (v2 : Int32) (v3 : Int32) (μ : kbM)  {Q : kbQt} {P : (Int32) ⊕ (Unit) → Prop} (hr : ∀ z : Int32, P (.inl z) → Q (some (.int z)) μ) (hx : ∀ z : Unit, P (.inr z) → kbR l MX5_rests 2 Q 56 [none, none, none, none, none] [] μ) : ∀ (k : Nat) (v4 : Int32), kbG (lp_PL_rests_56_12 n v2 v3 μ k v4) P → kbR l MX5_rests 2 Q 12 [some (.ref 54), some (.ref 56), some (.int v2), some (.int v3), some (.int v4)] [] μ := by
  intro k
  induction k with
  | zero => intro v4 h; exact absurd h kbG_none
  | succ k ih =>
    intro v4 h
    unfold lp_PL_rests_56_12 at h
    refine r_iload dX5_rests_12 rfl ?_
    refine r_aload_n dX5_rests_14 rfl ?_
    refine r_getR flX5_32 sh54 rfl dX5_rests_15 ?_
    refine r_getI flX5_33 sh13 rfl dX5_rests_18 ?_
    refine r_icmp_ge 56 dX5_rests_21 (by decide) (fun hc => ?_) (fun hc => ?_)
    · replace h := kbG_t hc h
      refine r_le [none, none, none, none, none] trivial ?_
      exact hx (()) (kbG_some h)
    · replace h := kbG_f hc h
      refine r_aload_n dX5_rests_24 rfl ?_
      refine r_iload dX5_rests_25 rfl ?_
      obtain ⟨hin, h⟩ := kbG_if h
      replace hin := kbIn_of hin
      refine q_iald v4.toNatClampNeg rfl sh56 hin dX5_rests_27 ?_
      refine r_iconst (-1) dX5_rests_28 (by decide) ?_
      refine r_icmp_eq 50 dX5_rests_29 (by decide) (fun hc => ?_) (fun hc => ?_)
      · replace h := kbG_t hc h
        refine r_le [some (.ref 54), some (.ref 56), some (.int v2), some (.int v3), some (.int v4)] ⟨rfl, ⟨rfl, ⟨rfl, ⟨rfl, ⟨rfl, trivial⟩⟩⟩⟩⟩ ?_
        exact jnR_PL_rests_56_50 n v2 v3 v4 μ (hr := hr) (hx := hx) (hrec := ih) h
      · replace h := kbG_f hc h
        refine r_aload_n dX5_rests_32 rfl ?_
        refine r_iload dX5_rests_33 rfl ?_
        refine r_iload_n dX5_rests_35 rfl ?_
        obtain ⟨x1, hx0, h⟩ := kbG_bind h
        refine r_inv_i csX5_76 (sp_PL_net_56 v4 v3 μ hx0) rfl rfl (Nat.le_of_ble_eq_true rfl) (Nat.le_of_ble_eq_true rfl) dX5_rests_36 ?_
        refine r_aload_n dX5_rests_39 rfl ?_
        refine r_iload_n dX5_rests_40 rfl ?_
        refine r_iload_n dX5_rests_41 rfl ?_
        obtain ⟨x2, hx0, h⟩ := kbG_bind h
        refine r_inv_i csX5_76 (sp_PL_net_56 v2 v3 μ hx0) rfl rfl (Nat.le_of_ble_eq_true rfl) (Nat.le_of_ble_eq_true rfl) dX5_rests_42 ?_
        refine r_icmp_le 50 dX5_rests_45 (by decide) (fun hc => ?_) (fun hc => ?_)
        · replace h := kbG_t hc h
          refine r_le [some (.ref 54), some (.ref 56), some (.int v2), some (.int v3), some (.int v4)] ⟨rfl, ⟨rfl, ⟨rfl, ⟨rfl, ⟨rfl, trivial⟩⟩⟩⟩⟩ ?_
          exact jnR_PL_rests_56_50 n v2 v3 v4 μ (hr := hr) (hx := hx) (hrec := ih) h
        · replace h := kbG_f hc h
          refine r_iconst 0 dX5_rests_48 (by decide) ?_
          exact r_zret rfl rfl dX5_rests_49 (hr 0 (kbG_some h))
def f_PL_rests_56 (n : Nat) (a2 : Int32) (a3 : Int32) (μ : kbM) : Option (Int32) :=
  kbIf (kbIn a2 10) <|
  if (μ.1 56 a2.toNatClampNeg) = (-1) then
    some 0
  else
    kbOr (lp_PL_rests_56_12 n a2 a3 μ n 0) (fun r4 => some r4) fun x3 =>
    some 1
theorem sp_PL_rests_56 {l : Launch} (n : Nat) (a2 : Int32) (a3 : Int32) (μ : kbM)  {x : Int32} (h : f_PL_rests_56 n a2 a3 μ = some x) : kbS l MX5_rests 2 [.ref 54, .ref 56, .int a2, .int a3] μ (kbQe (some (.int x)) μ) := by
  refine kb_enter 1 rfl rfl ?_
  suffices H : ∀ (Q : kbQt) (P : Int32 → Prop), (∀ z : Int32, P z → Q (some (.int z)) μ) → kbG (f_PL_rests_56 n a2 a3 μ) P → kbR l MX5_rests 2 Q 0 [some (.ref 54), some (.ref 56), some (.int a2), some (.int a3), none] [] μ from H _ (fun z => z = x) (fun z e => by subst e; exact ⟨rfl, rfl⟩) ⟨x, h, rfl⟩
  clear h
  intro Q P hr h
  unfold f_PL_rests_56 at h
  refine r_aload_n dX5_rests_0 rfl ?_
  refine r_iload_n dX5_rests_1 rfl ?_
  obtain ⟨hin, h⟩ := kbG_if h
  replace hin := kbIn_of hin
  refine q_iald a2.toNatClampNeg rfl sh56 hin dX5_rests_2 ?_
  refine r_iconst (-1) dX5_rests_3 (by decide) ?_
  refine r_icmp_ne 9 dX5_rests_4 (by decide) (fun hc => ?_) (fun hc => ?_)
  · replace h := kbG_f hc h
    refine r_iconst 0 dX5_rests_9 (by decide) ?_
    refine r_istore dX5_rests_10 (Nat.le_of_ble_eq_true rfl) rfl ?_
    refine r_le [some (.ref 54), some (.ref 56), some (.int a2), some (.int a3), some (.int 0)] ⟨rfl, ⟨rfl, ⟨rfl, ⟨rfl, ⟨rfl, trivial⟩⟩⟩⟩⟩ ?_
    rcases kbG_or h with ⟨r4, hx0, h⟩ | ⟨x3, hx0, h⟩
    · exact lpR_PL_rests_56_12 n a2 a3 μ (P := fun z => .inl r4 = z) (hr := fun z e => by cases e; exact hr _ (kbG_some h)) (hx := fun z e => by cases e) n _ ⟨_, hx0, rfl⟩
    · refine lpR_PL_rests_56_12 n a2 a3 μ (P := fun z => .inr x3 = z) (hr := fun z e => by cases e) (hx := fun z e => ?_) n _ ⟨_, hx0, rfl⟩
      cases e
      refine r_iconst 1 dX5_rests_56 (by decide) ?_
      exact r_zret rfl rfl dX5_rests_57 (hr 1 (kbG_some h))
  · replace h := kbG_t hc h
    refine r_iconst 0 dX5_rests_7 (by decide) ?_
    exact r_zret rfl rfl dX5_rests_8 (hr 0 (kbG_some h))
def jn_PL_settle_121 (n : Nat) (rec : Int32 → kbM → Option (kbM)) (v3 : Int32) (v4 : Int32) (μ : kbM) : Option (kbM) :=
  rec (v4 + 1) μ
theorem jnR_PL_settle_121 {l : Launch} (n : Nat)   (v3 : Int32) (v4 : Int32) (μ : kbM) {Q : kbQt} {P : kbM → Prop} (hx : ∀ z : kbM, P (z) → kbR l MX5_settle 7 Q 127 [some (.ref 54), none, none, some (.int v3), none] [] z) {rec : Int32 → kbM → Option (kbM)} (hrec : ∀ (v4 : Int32) (μ : kbM), kbG (rec v4 μ) P → kbR l MX5_settle 7 Q 46 [some (.ref 54), none, none, some (.int v3), some (.int v4)] [] μ) (h : kbG (jn_PL_settle_121 n rec v3 v4 μ) P) : kbR l MX5_settle 7 Q 121 [some (.ref 54), none, none, some (.int v3), some (.int v4)] [] μ := by
  unfold jn_PL_settle_121 at h
  refine r_iinc 1 dX5_settle_121 rfl (by decide) (Nat.le_of_ble_eq_true rfl) rfl ?_
  refine r_goto 46 dX5_settle_124 (by decide) ?_
  refine r_le [some (.ref 54), none, none, some (.int v3), some (.int (v4 + 1))] ⟨rfl, ⟨rfl, ⟨rfl, trivial⟩⟩⟩ ?_
  exact hrec (v4 + 1) μ h
def jn_PL_settle_108 (n : Nat) (rec : Int32 → kbM → Option (kbM)) (v3 : Int32) (v4 : Int32) (w1 : Int32) (μ : kbM) : Option (kbM) :=
  jn_PL_settle_121 n rec v3 v4 (kbW (kbW μ 54 6 w1) 54 5 (((kbW μ 54 6 w1).1 54 5) + 1))
theorem jnR_PL_settle_108 {l : Launch} (n : Nat)   (v3 : Int32) (v4 : Int32) (w1 : Int32) (μ : kbM) {Q : kbQt} {P : kbM → Prop} (hx : ∀ z : kbM, P (z) → kbR l MX5_settle 7 Q 127 [some (.ref 54), none, none, some (.int v3), none] [] z) {rec : Int32 → kbM → Option (kbM)} (hrec : ∀ (v4 : Int32) (μ : kbM), kbG (rec v4 μ) P → kbR l MX5_settle 7 Q 46 [some (.ref 54), none, none, some (.int v3), some (.int v4)] [] μ) (h : kbG (jn_PL_settle_108 n rec v3 v4 w1 μ) P) : kbR l MX5_settle 7 Q 108 [some (.ref 54), none, none, some (.int v3), some (.int v4)] [.int w1, .ref 54] μ := by
  unfold jn_PL_settle_108 at h
  refine r_put flX5_66 sh54 rfl rfl rfl dX5_settle_108 ?_
  refine r_aload_n dX5_settle_111 rfl ?_
  refine r_dup dX5_settle_112 rfl ?_
  refine r_getI flX5_63 sh54 rfl dX5_settle_113 ?_
  refine r_iconst 1 dX5_settle_116 (by decide) ?_
  refine r_iadd dX5_settle_117 ?_
  refine r_put flX5_63 sh54 rfl rfl rfl dX5_settle_118 ?_
  refine r_le [some (.ref 54), none, none, some (.int v3), some (.int v4)] ⟨rfl, ⟨rfl, ⟨rfl, trivial⟩⟩⟩ ?_
  exact jnR_PL_settle_121 n v3 v4 (kbW (kbW μ 54 6 w1) 54 5 (((kbW μ 54 6 w1).1 54 5) + 1)) (hx := hx) (hrec := hrec) h
def lp_PL_settle_46 (n : Nat) (v3 : Int32) : Nat → Int32 → kbM → Option (kbM)
  | 0, _, _ => none
  | k + 1, v4, μ =>
    if (μ.1 13 4) ≤ v4 then
      some μ
    else
      (f_PL_rests_55 n v3 v4 μ).bind fun x3 =>
      if x3 = 0 then
        jn_PL_settle_121 n (lp_PL_settle_46 n v3 k) v3 v4 μ
      else
        (f_PL_rests_56 n v4 v3 μ).bind fun x4 =>
        if x4 = 0 then
          jn_PL_settle_121 n (lp_PL_settle_46 n v3 k) v3 v4 μ
        else
          if (μ.1 54 5) = 0 then
            jn_PL_settle_108 n (lp_PL_settle_46 n v3 k) v3 v4 ((10 * v3) + v4) μ
          else
            jn_PL_settle_108 n (lp_PL_settle_46 n v3 k) v3 v4 (μ.1 54 6) μ
theorem lpR_PL_settle_46 {l : Launch} (n : Nat) (v3 : Int32)  {Q : kbQt} {P : kbM → Prop} (hx : ∀ z : kbM, P (z) → kbR l MX5_settle 7 Q 127 [some (.ref 54), none, none, some (.int v3), none] [] z) : ∀ (k : Nat) (v4 : Int32) (μ : kbM), kbG (lp_PL_settle_46 n v3 k v4 μ) P → kbR l MX5_settle 7 Q 46 [some (.ref 54), none, none, some (.int v3), some (.int v4)] [] μ := by
  intro k
  induction k with
  | zero => intro v4 μ h; exact absurd h kbG_none
  | succ k ih =>
    intro v4 μ h
    unfold lp_PL_settle_46 at h
    refine r_iload dX5_settle_46 rfl ?_
    refine r_aload_n dX5_settle_48 rfl ?_
    refine r_getR flX5_32 sh54 rfl dX5_settle_49 ?_
    refine r_getI flX5_33 sh13 rfl dX5_settle_52 ?_
    refine r_icmp_ge 127 dX5_settle_55 (by decide) (fun hc => ?_) (fun hc => ?_)
    · replace h := kbG_t hc h
      refine r_le [some (.ref 54), none, none, some (.int v3), none] ⟨rfl, ⟨rfl, trivial⟩⟩ ?_
      exact hx μ (kbG_some h)
    · replace h := kbG_f hc h
      refine r_aload_n dX5_settle_58 rfl ?_
      refine r_aload_n dX5_settle_59 rfl ?_
      refine r_getR flX5_9 sh54 rfl dX5_settle_60 ?_
      refine r_iload_n dX5_settle_63 rfl ?_
      refine r_iload dX5_settle_64 rfl ?_
      obtain ⟨x3, hx0, h⟩ := kbG_bind h
      refine r_invV_i cvX5_69 sh54 rfl (sp_PL_rests_55 n v3 v4 μ hx0) rfl rfl (Nat.le_of_ble_eq_true rfl) (Nat.le_of_ble_eq_true rfl) dX5_settle_66 ?_
      refine r_if_eq 121 dX5_settle_69 (by decide) (fun hc => ?_) (fun hc => ?_)
      · replace h := kbG_t hc h
        refine r_le [some (.ref 54), none, none, some (.int v3), some (.int v4)] ⟨rfl, ⟨rfl, ⟨rfl, trivial⟩⟩⟩ ?_
        exact jnR_PL_settle_121 n v3 v4 μ (hx := hx) (hrec := ih) h
      · replace h := kbG_f hc h
        refine r_aload_n dX5_settle_72 rfl ?_
        refine r_aload_n dX5_settle_73 rfl ?_
        refine r_getR flX5_15 sh54 rfl dX5_settle_74 ?_
        refine r_iload dX5_settle_77 rfl ?_
        refine r_iload_n dX5_settle_79 rfl ?_
        obtain ⟨x4, hx0, h⟩ := kbG_bind h
        refine r_invV_i cvX5_69 sh54 rfl (sp_PL_rests_56 n v4 v3 μ hx0) rfl rfl (Nat.le_of_ble_eq_true rfl) (Nat.le_of_ble_eq_true rfl) dX5_settle_80 ?_
        refine r_if_eq 121 dX5_settle_83 (by decide) (fun hc => ?_) (fun hc => ?_)
        · replace h := kbG_t hc h
          refine r_le [some (.ref 54), none, none, some (.int v3), some (.int v4)] ⟨rfl, ⟨rfl, ⟨rfl, trivial⟩⟩⟩ ?_
          exact jnR_PL_settle_121 n v3 v4 μ (hx := hx) (hrec := ih) h
        · replace h := kbG_f hc h
          refine r_aload_n dX5_settle_86 rfl ?_
          refine r_aload_n dX5_settle_87 rfl ?_
          refine r_getI flX5_63 sh54 rfl dX5_settle_88 ?_
          refine r_if_ne 104 dX5_settle_91 (by decide) (fun hc => ?_) (fun hc => ?_)
          · replace h := kbG_f hc h
            refine r_aload_n dX5_settle_104 rfl ?_
            refine r_getI flX5_66 sh54 rfl dX5_settle_105 ?_
            refine r_le [some (.ref 54), none, none, some (.int v3), some (.int v4)] ⟨rfl, ⟨rfl, ⟨rfl, trivial⟩⟩⟩ ?_
            exact jnR_PL_settle_108 n v3 v4 (μ.1 54 6) μ (hx := hx) (hrec := ih) h
          · replace h := kbG_t hc h
            refine r_bipush 10 dX5_settle_94 (by decide) ?_
            refine r_iload_n dX5_settle_96 rfl ?_
            refine r_imul dX5_settle_97 ?_
            refine r_iload dX5_settle_98 rfl ?_
            refine r_iadd dX5_settle_100 ?_
            refine r_goto 108 dX5_settle_101 (by decide) ?_
            refine r_le [some (.ref 54), none, none, some (.int v3), some (.int v4)] ⟨rfl, ⟨rfl, ⟨rfl, trivial⟩⟩⟩ ?_
            exact jnR_PL_settle_108 n v3 v4 ((10 * v3) + v4) μ (hx := hx) (hrec := ih) h
def lp_PL_settle_32 (n : Nat) : Nat → Int32 → kbM → Option (kbM)
  | 0, _, _ => none
  | k + 1, v3, μ =>
    if (μ.1 13 4) ≤ v3 then
      some μ
    else
      (lp_PL_settle_46 n v3 n 0 μ).bind fun x5 =>
      lp_PL_settle_32 n k (v3 + 1) x5
theorem lpR_PL_settle_32 {l : Launch} (n : Nat)   {Q : kbQt} {P : kbM → Prop} (hx : ∀ z : kbM, P (z) → kbR l MX5_settle 7 Q 133 [none, none, none, none, none] [] z) : ∀ (k : Nat) (v3 : Int32) (μ : kbM), kbG (lp_PL_settle_32 n k v3 μ) P → kbR l MX5_settle 7 Q 32 [some (.ref 54), none, none, some (.int v3), none] [] μ := by
  intro k
  induction k with
  | zero => intro v3 μ h; exact absurd h kbG_none
  | succ k ih =>
    intro v3 μ h
    unfold lp_PL_settle_32 at h
    refine r_iload_n dX5_settle_32 rfl ?_
    refine r_aload_n dX5_settle_33 rfl ?_
    refine r_getR flX5_32 sh54 rfl dX5_settle_34 ?_
    refine r_getI flX5_33 sh13 rfl dX5_settle_37 ?_
    refine r_icmp_ge 133 dX5_settle_40 (by decide) (fun hc => ?_) (fun hc => ?_)
    · replace h := kbG_t hc h
      refine r_le [none, none, none, none, none] trivial ?_
      exact hx μ (kbG_some h)
    · replace h := kbG_f hc h
      refine r_iconst 0 dX5_settle_43 (by decide) ?_
      refine r_istore dX5_settle_44 (Nat.le_of_ble_eq_true rfl) rfl ?_
      refine r_le [some (.ref 54), none, none, some (.int v3), some (.int 0)] ⟨rfl, ⟨rfl, ⟨rfl, trivial⟩⟩⟩ ?_
      obtain ⟨x5, hx0, h⟩ := kbG_bind h
      refine lpR_PL_settle_46 n v3 (P := fun z => x5 = z) (hx := fun z e => ?_) n _ _ ⟨_, hx0, rfl⟩
      subst e
      refine r_iinc 1 dX5_settle_127 rfl (by decide) (Nat.le_of_ble_eq_true rfl) rfl ?_
      refine r_goto 32 dX5_settle_130 (by decide) ?_
      refine r_le [some (.ref 54), none, none, some (.int (v3 + 1)), none] ⟨rfl, ⟨rfl, trivial⟩⟩ ?_
      exact ih (v3 + 1) x5 h
def f_PL_settle (n : Nat) (a1 : Int32) (a2 : Int32) (μ : kbM) : Option (kbM) :=
  (f_PL_layGains_55 n a1 a2 μ).bind fun x1 =>
  (f_PL_layGains_56 n a2 a1 x1).bind fun x2 =>
  (lp_PL_settle_32 n n 0 (kbW (kbW x2 54 5 0) 54 6 (-1))).bind fun x6 =>
  some x6
theorem sp_PL_settle {l : Launch} (n : Nat) (a1 : Int32) (a2 : Int32) (μ : kbM)  {x : kbM} (h : f_PL_settle n a1 a2 μ = some x) : kbS l MX5_settle 7 [.ref 54, .int a1, .int a2] μ (kbQe none x) := by
  refine kb_enter 2 rfl rfl ?_
  suffices H : ∀ (Q : kbQt) (P : kbM → Prop), (∀ z : kbM, P z → Q none z) → kbG (f_PL_settle n a1 a2 μ) P → kbR l MX5_settle 7 Q 0 [some (.ref 54), some (.int a1), some (.int a2), none, none] [] μ from H _ (fun z => z = x) (fun z e => by subst e; exact ⟨rfl, rfl⟩) ⟨x, h, rfl⟩
  clear h
  intro Q P hr h
  unfold f_PL_settle at h
  refine r_aload_n dX5_settle_0 rfl ?_
  refine r_iload_n dX5_settle_1 rfl ?_
  refine r_iload_n dX5_settle_2 rfl ?_
  refine r_aload_n dX5_settle_3 rfl ?_
  refine r_getR flX5_9 sh54 rfl dX5_settle_4 ?_
  obtain ⟨x1, hx0, h⟩ := kbG_bind h
  refine r_invV_v cvX5_59 sh54 rfl (sp_PL_layGains_55 n a1 a2 μ hx0) rfl rfl (Nat.le_of_ble_eq_true rfl) (Nat.le_of_ble_eq_true rfl) dX5_settle_7 ?_
  refine r_aload_n dX5_settle_10 rfl ?_
  refine r_iload_n dX5_settle_11 rfl ?_
  refine r_iload_n dX5_settle_12 rfl ?_
  refine r_aload_n dX5_settle_13 rfl ?_
  refine r_getR flX5_15 sh54 rfl dX5_settle_14 ?_
  obtain ⟨x2, hx0, h⟩ := kbG_bind h
  refine r_invV_v cvX5_59 sh54 rfl (sp_PL_layGains_56 n a2 a1 x1 hx0) rfl rfl (Nat.le_of_ble_eq_true rfl) (Nat.le_of_ble_eq_true rfl) dX5_settle_17 ?_
  refine r_aload_n dX5_settle_20 rfl ?_
  refine r_iconst 0 dX5_settle_21 (by decide) ?_
  refine r_put flX5_63 sh54 rfl rfl rfl dX5_settle_22 ?_
  refine r_aload_n dX5_settle_25 rfl ?_
  refine r_iconst (-1) dX5_settle_26 (by decide) ?_
  refine r_put flX5_66 sh54 rfl rfl rfl dX5_settle_27 ?_
  refine r_iconst 0 dX5_settle_30 (by decide) ?_
  refine r_istore_n dX5_settle_31 (Nat.le_of_ble_eq_true rfl) rfl ?_
  refine r_le [some (.ref 54), none, none, some (.int 0), none] ⟨rfl, ⟨rfl, trivial⟩⟩ ?_
  obtain ⟨x6, hx0, h⟩ := kbG_bind h
  refine lpR_PL_settle_32 n (P := fun z => x6 = z) (hx := fun z e => ?_) n _ _ ⟨_, hx0, rfl⟩
  subst e
  exact r_vret rfl dX5_settle_133 (hr x6 (kbG_some h))
def jn_PL_draw_36 (w0 : Int32) (μ : kbM) : Option (Int32 × kbM) :=
  some ((w0, μ))
theorem jnR_PL_draw_36 {l : Launch}   (w0 : Int32) (μ : kbM) {Q : kbQt} {P : Int32 × kbM → Prop} (hr : ∀ z : Int32 × kbM, P z → Q (some (.int z.1)) z.2) (h : kbG (jn_PL_draw_36 w0 μ) P) : kbR l MX5_draw 1 Q 36 [none, none] [.int w0] μ := by
  unfold jn_PL_draw_36 at h
  exact r_iret rfl dX5_draw_36 (hr ((w0, μ)) (kbG_some h))
def f_PL_draw (a1 : Int32) (μ : kbM) : Option (Int32 × kbM) :=
  if 0 < a1 then
    kbIf (decide (¬ a1 = 0)) <|
    jn_PL_draw_36 (kbRem ((kbUsh ((kbW μ 54 7 (((μ.1 54 7) * 1103515245) + 12345)).1 54 7) 16) &&& 32767) a1) (kbW μ 54 7 (((μ.1 54 7) * 1103515245) + 12345))
  else
    jn_PL_draw_36 0 (kbW μ 54 7 (((μ.1 54 7) * 1103515245) + 12345))
theorem sp_PL_draw {l : Launch} (a1 : Int32) (μ : kbM)  {x : Int32 × kbM} (h : f_PL_draw a1 μ = some x) : kbS l MX5_draw 1 [.ref 54, .int a1] μ (kbQe (some (.int x.1)) x.2) := by
  refine kb_enter 0 rfl rfl ?_
  suffices H : ∀ (Q : kbQt) (P : Int32 × kbM → Prop), (∀ z : Int32 × kbM, P z → Q (some (.int z.1)) z.2) → kbG (f_PL_draw a1 μ) P → kbR l MX5_draw 1 Q 0 [some (.ref 54), some (.int a1)] [] μ from H _ (fun z => z = x) (fun z e => by subst e; exact ⟨rfl, rfl⟩) ⟨x, h, rfl⟩
  clear h
  intro Q P hr h
  unfold f_PL_draw at h
  refine r_aload_n dX5_draw_0 rfl ?_
  refine r_aload_n dX5_draw_1 rfl ?_
  refine r_getI flX5_80 sh54 rfl dX5_draw_2 ?_
  refine r_ldc 1103515245 liX5_105 dX5_draw_5 ?_
  refine r_imul dX5_draw_7 ?_
  refine r_sipush 12345 dX5_draw_8 (by decide) ?_
  refine r_iadd dX5_draw_11 ?_
  refine r_put flX5_80 sh54 rfl rfl rfl dX5_draw_12 ?_
  refine r_iload_n dX5_draw_15 rfl ?_
  refine r_if_gt 23 dX5_draw_16 (by decide) (fun hc => ?_) (fun hc => ?_)
  · replace h := kbG_t hc h
    refine r_aload_n dX5_draw_23 rfl ?_
    refine r_getI flX5_80 sh54 rfl dX5_draw_24 ?_
    refine r_bipush 16 dX5_draw_27 (by decide) ?_
    refine r_ush dX5_draw_29 ?_
    refine r_sipush 32767 dX5_draw_30 (by decide) ?_
    refine r_iand dX5_draw_33 ?_
    refine r_iload_n dX5_draw_34 rfl ?_
    obtain ⟨hz, h⟩ := kbG_if h
    refine r_rem dX5_draw_35 (of_decide_eq_true hz) ?_
    refine r_le [none, none] trivial ?_
    exact jnR_PL_draw_36 (kbRem ((kbUsh ((kbW μ 54 7 (((μ.1 54 7) * 1103515245) + 12345)).1 54 7) 16) &&& 32767) a1) (kbW μ 54 7 (((μ.1 54 7) * 1103515245) + 12345)) (hr := hr) h
  · replace h := kbG_f hc h
    refine r_iconst 0 dX5_draw_19 (by decide) ?_
    refine r_goto 36 dX5_draw_20 (by decide) ?_
    refine r_le [none, none] trivial ?_
    exact jnR_PL_draw_36 0 (kbW μ 54 7 (((μ.1 54 7) * 1103515245) + 12345)) (hr := hr) h
def f_PL_frozen (n : Nat) (a0 : Int32) (a1 : Int32) : Option (Int32) :=
  if a1 = 0 then
    (f_RO_withoutFirst n a0).bind fun x1 =>
    some x1
  else if a1 = 1 then
    (f_RO_withoutLast a0).bind fun x2 =>
    some x2
  else if a1 = 2 then
    (f_RO_withFirst n a0 4).bind fun x3 =>
    some x3
  else
    some a0
theorem sp_PL_frozen {l : Launch} (n : Nat) (a0 : Int32) (a1 : Int32) (μ : kbM)  {x : Int32} (h : f_PL_frozen n a0 a1 = some x) : kbS l MX5_frozen 3 [.int a0, .int a1] μ (kbQe (some (.int x)) μ) := by
  refine kb_enter 0 rfl rfl ?_
  suffices H : ∀ (Q : kbQt) (P : Int32 → Prop), (∀ z : Int32, P z → Q (some (.int z)) μ) → kbG (f_PL_frozen n a0 a1) P → kbR l MX5_frozen 3 Q 0 [some (.int a0), some (.int a1)] [] μ from H _ (fun z => z = x) (fun z e => by subst e; exact ⟨rfl, rfl⟩) ⟨x, h, rfl⟩
  clear h
  intro Q P hr h
  unfold f_PL_frozen at h
  refine r_iload_n dX5_frozen_0 rfl ?_
  by_cases hc0 : a1 = 0
  · replace h := kbG_t hc0 h
    refine r_tabIn 28 dX5_frozen_1 (by rw [hc0]; decide) (by rw [hc0]; decide) (by rw [hc0]; rfl) (by decide) ?_
    refine r_iload_n dX5_frozen_28 rfl ?_
    obtain ⟨x1, hx0, h⟩ := kbG_bind h
    refine r_inv_i csX5_106 (sp_RO_withoutFirst n a0 μ hx0) rfl rfl (Nat.le_of_ble_eq_true rfl) (Nat.le_of_ble_eq_true rfl) dX5_frozen_29 ?_
    exact r_iret rfl dX5_frozen_32 (hr x1 (kbG_some h))
  replace h := kbG_f hc0 h
  by_cases hc1 : a1 = 1
  · replace h := kbG_t hc1 h
    refine r_tabIn 33 dX5_frozen_1 (by rw [hc1]; decide) (by rw [hc1]; decide) (by rw [hc1]; rfl) (by decide) ?_
    refine r_iload_n dX5_frozen_33 rfl ?_
    obtain ⟨x2, hx0, h⟩ := kbG_bind h
    refine r_inv_i csX5_111 (sp_RO_withoutLast a0 μ hx0) rfl rfl (Nat.le_of_ble_eq_true rfl) (Nat.le_of_ble_eq_true rfl) dX5_frozen_34 ?_
    exact r_iret rfl dX5_frozen_37 (hr x2 (kbG_some h))
  replace h := kbG_f hc1 h
  by_cases hc2 : a1 = 2
  · replace h := kbG_t hc2 h
    refine r_tabIn 38 dX5_frozen_1 (by rw [hc2]; decide) (by rw [hc2]; decide) (by rw [hc2]; rfl) (by decide) ?_
    refine r_iload_n dX5_frozen_38 rfl ?_
    refine r_iconst 4 dX5_frozen_39 (by decide) ?_
    obtain ⟨x3, hx0, h⟩ := kbG_bind h
    refine r_inv_i csX5_114 (sp_RO_withFirst n a0 4 μ hx0) rfl rfl (Nat.le_of_ble_eq_true rfl) (Nat.le_of_ble_eq_true rfl) dX5_frozen_40 ?_
    exact r_iret rfl dX5_frozen_43 (hr x3 (kbG_some h))
  replace h := kbG_f hc2 h
  have hD : kbR l MX5_frozen 3 Q 44 [some (.int a0), some (.int a1)] [] μ := by
    refine r_iload_n dX5_frozen_44 rfl ?_
    exact r_iret rfl dX5_frozen_45 (hr a0 (kbG_some h))
  exact r_tabOut 44 dX5_frozen_1 (kb_out fun q q1 q2 => by
    have hq : q = 0 ∨ q = 1 ∨ q = 2 := by omega
    rcases hq with rfl | rfl | rfl
    · exact hc0
    · exact hc1
    · exact hc2) (by decide) hD
def jn_PL_freeze_43 (n : Nat) (μ : kbM) : Option (kbM) :=
  some μ
theorem jnR_PL_freeze_43 {l : Launch} (n : Nat)    (μ : kbM) {Q : kbQt} {P : kbM → Prop} (hr : ∀ z : kbM, P z → Q none z) (h : kbG (jn_PL_freeze_43 n μ) P) : kbR l MX5_freeze 5 Q 43 [none, none, none, none, none, none, none] [] μ := by
  unfold jn_PL_freeze_43 at h
  exact r_vret rfl dX5_freeze_43 (hr μ (kbG_some h))
def jn_PL_freeze_167 (n : Nat) (rec : Int32 → kbM → Option (kbM)) (v2 : Int32) (v3 : Int32) (w1 : Int32) (w2 : Int32) (μ : kbM) : Option (kbM) :=
  rec (v3 + 1) (kbW μ 54 10 (w1 + w2))
theorem jnR_PL_freeze_167 {l : Launch} (n : Nat)   (v2 : Int32) (v3 : Int32) (w1 : Int32) (w2 : Int32) (μ : kbM) {Q : kbQt} {P : kbM → Prop} (hx : ∀ z : kbM, P (z) → kbR l MX5_freeze 5 Q 177 [none, none, none, none, none, none, none] [] z) {rec : Int32 → kbM → Option (kbM)} (hrec : ∀ (v3 : Int32) (μ : kbM), kbG (rec v3 μ) P → kbR l MX5_freeze 5 Q 46 [some (.ref 54), none, some (.int v2), some (.int v3), none, none, none] [] μ) (h : kbG (jn_PL_freeze_167 n rec v2 v3 w1 w2 μ) P) : kbR l MX5_freeze 5 Q 167 [some (.ref 54), none, some (.int v2), some (.int v3), none, none, none] [.int w2, .int w1, .ref 54] μ := by
  unfold jn_PL_freeze_167 at h
  refine r_iadd dX5_freeze_167 ?_
  refine r_put flX5_89 sh54 rfl rfl rfl dX5_freeze_168 ?_
  refine r_iinc 1 dX5_freeze_171 rfl (by decide) (Nat.le_of_ble_eq_true rfl) rfl ?_
  refine r_goto 46 dX5_freeze_174 (by decide) ?_
  refine r_le [some (.ref 54), none, some (.int v2), some (.int (v3 + 1)), none, none, none] ⟨rfl, ⟨rfl, ⟨rfl, trivial⟩⟩⟩ ?_
  exact hrec (v3 + 1) (kbW μ 54 10 (w1 + w2)) h
def jn_PL_freeze_152 (n : Nat) (rec : Int32 → kbM → Option (kbM)) (v2 : Int32) (v3 : Int32) (v6 : Int32) (μ : kbM) : Option (kbM) :=
  if v6 = 0 then
    jn_PL_freeze_167 n rec v2 v3 (μ.1 54 10) 1 μ
  else
    jn_PL_freeze_167 n rec v2 v3 (μ.1 54 10) 0 μ
theorem jnR_PL_freeze_152 {l : Launch} (n : Nat)   (v2 : Int32) (v3 : Int32) (v6 : Int32) (μ : kbM) {Q : kbQt} {P : kbM → Prop} (hx : ∀ z : kbM, P (z) → kbR l MX5_freeze 5 Q 177 [none, none, none, none, none, none, none] [] z) {rec : Int32 → kbM → Option (kbM)} (hrec : ∀ (v3 : Int32) (μ : kbM), kbG (rec v3 μ) P → kbR l MX5_freeze 5 Q 46 [some (.ref 54), none, some (.int v2), some (.int v3), none, none, none] [] μ) (h : kbG (jn_PL_freeze_152 n rec v2 v3 v6 μ) P) : kbR l MX5_freeze 5 Q 152 [some (.ref 54), none, some (.int v2), some (.int v3), none, none, some (.int v6)] [] μ := by
  unfold jn_PL_freeze_152 at h
  refine r_aload_n dX5_freeze_152 rfl ?_
  refine r_dup dX5_freeze_153 rfl ?_
  refine r_getI flX5_89 sh54 rfl dX5_freeze_154 ?_
  refine r_iload dX5_freeze_157 rfl ?_
  refine r_if_ne 166 dX5_freeze_159 (by decide) (fun hc => ?_) (fun hc => ?_)
  · replace h := kbG_f hc h
    refine r_iconst 0 dX5_freeze_166 (by decide) ?_
    refine r_le [some (.ref 54), none, some (.int v2), some (.int v3), none, none, none] ⟨rfl, ⟨rfl, ⟨rfl, trivial⟩⟩⟩ ?_
    exact jnR_PL_freeze_167 n v2 v3 (μ.1 54 10) 0 μ (hx := hx) (hrec := hrec) h
  · replace h := kbG_t hc h
    refine r_iconst 1 dX5_freeze_162 (by decide) ?_
    refine r_goto 167 dX5_freeze_163 (by decide) ?_
    refine r_le [some (.ref 54), none, some (.int v2), some (.int v3), none, none, none] ⟨rfl, ⟨rfl, ⟨rfl, trivial⟩⟩⟩ ?_
    exact jnR_PL_freeze_167 n v2 v3 (μ.1 54 10) 1 μ (hx := hx) (hrec := hrec) h
def lp_PL_freeze_46 (n : Nat) (v2 : Int32) : Nat → Int32 → kbM → Option (kbM)
  | 0, _, _ => none
  | k + 1, v3, μ =>
    if v2 ≤ v3 then
      some μ
    else
      (f_PL_draw (μ.1 32 2) μ).bind fun x1 =>
      (f_PL_draw (x1.2.1 13 4) x1.2).bind fun x2 =>
      kbIf (kbIn x2.1 10) <|
      (f_HO_hearing n x1.1 (x2.2.1 14 x2.1.toNatClampNeg) x2.2).bind fun x3 =>
      (f_PL_draw 4 x2.2).bind fun x4 =>
      (f_PL_frozen n x3 x4.1).bind fun x5 =>
      (f_RU_nearestWord n x5 x4.2).bind fun x6 =>
      if x6.1 = x2.1 then
        kbIf (kbIn x2.1 10) <|
        jn_PL_freeze_152 n (lp_PL_freeze_46 n v2 k) v2 v3 x5 (kbW (kbW x6.2 54 8 ((x6.2.1 54 8) + 1)) 54 9 (((kbW x6.2 54 8 ((x6.2.1 54 8) + 1)).1 54 9) + ((kbW x6.2 54 8 ((x6.2.1 54 8) + 1)).1 17 x2.1.toNatClampNeg)))
      else
        jn_PL_freeze_152 n (lp_PL_freeze_46 n v2 k) v2 v3 x5 x6.2
theorem lpR_PL_freeze_46 {l : Launch} (n : Nat) (v2 : Int32)  {Q : kbQt} {P : kbM → Prop} (hx : ∀ z : kbM, P (z) → kbR l MX5_freeze 5 Q 177 [none, none, none, none, none, none, none] [] z) : ∀ (k : Nat) (v3 : Int32) (μ : kbM), kbG (lp_PL_freeze_46 n v2 k v3 μ) P → kbR l MX5_freeze 5 Q 46 [some (.ref 54), none, some (.int v2), some (.int v3), none, none, none] [] μ := by
  intro k
  induction k with
  | zero => intro v3 μ h; exact absurd h kbG_none
  | succ k ih =>
    intro v3 μ h
    unfold lp_PL_freeze_46 at h
    refine r_iload_n dX5_freeze_46 rfl ?_
    refine r_iload_n dX5_freeze_47 rfl ?_
    refine r_icmp_ge 177 dX5_freeze_48 (by decide) (fun hc => ?_) (fun hc => ?_)
    · replace h := kbG_t hc h
      refine r_le [none, none, none, none, none, none, none] trivial ?_
      exact hx μ (kbG_some h)
    · replace h := kbG_f hc h
      refine r_aload_n dX5_freeze_51 rfl ?_
      refine r_aload_n dX5_freeze_52 rfl ?_
      refine r_getR flX5_18 sh54 rfl dX5_freeze_53 ?_
      refine r_getR flX5_92 sh51 rfl dX5_freeze_56 ?_
      refine r_getI flX5_96 sh32 rfl dX5_freeze_59 ?_
      obtain ⟨x1, hx0, h⟩ := kbG_bind h
      refine r_invV_i cvX5_99 sh54 rfl (sp_PL_draw (μ.1 32 2) μ hx0) rfl rfl (Nat.le_of_ble_eq_true rfl) (Nat.le_of_ble_eq_true rfl) dX5_freeze_62 ?_
      refine r_istore dX5_freeze_65 (Nat.le_of_ble_eq_true rfl) rfl ?_
      refine r_aload_n dX5_freeze_67 rfl ?_
      refine r_aload_n dX5_freeze_68 rfl ?_
      refine r_getR flX5_32 sh54 rfl dX5_freeze_69 ?_
      refine r_getI flX5_33 sh13 rfl dX5_freeze_72 ?_
      obtain ⟨x2, hx0, h⟩ := kbG_bind h
      refine r_invV_i cvX5_99 sh54 rfl (sp_PL_draw (x1.2.1 13 4) x1.2 hx0) rfl rfl (Nat.le_of_ble_eq_true rfl) (Nat.le_of_ble_eq_true rfl) dX5_freeze_75 ?_
      refine r_istore dX5_freeze_78 (Nat.le_of_ble_eq_true rfl) rfl ?_
      refine r_aload_n dX5_freeze_80 rfl ?_
      refine r_getR flX5_18 sh54 rfl dX5_freeze_81 ?_
      refine r_iload dX5_freeze_84 rfl ?_
      refine r_aload_n dX5_freeze_86 rfl ?_
      refine r_getR flX5_32 sh54 rfl dX5_freeze_87 ?_
      refine r_getR flX5_46 sh13 rfl dX5_freeze_90 ?_
      refine r_iload dX5_freeze_93 rfl ?_
      obtain ⟨hin, h⟩ := kbG_if h
      replace hin := kbIn_of hin
      refine q_iald x2.1.toNatClampNeg rfl sh14 hin dX5_freeze_95 ?_
      obtain ⟨x3, hx0, h⟩ := kbG_bind h
      refine r_invV_i cvX5_49 sh51 rfl (sp_HO_hearing n x1.1 (x2.2.1 14 x2.1.toNatClampNeg) x2.2 hx0) rfl rfl (Nat.le_of_ble_eq_true rfl) (Nat.le_of_ble_eq_true rfl) dX5_freeze_96 ?_
      refine r_aload_n dX5_freeze_99 rfl ?_
      refine r_iconst 4 dX5_freeze_100 (by decide) ?_
      obtain ⟨x4, hx0, h⟩ := kbG_bind h
      refine r_invV_i cvX5_99 sh54 rfl (sp_PL_draw 4 x2.2 hx0) rfl rfl (Nat.le_of_ble_eq_true rfl) (Nat.le_of_ble_eq_true rfl) dX5_freeze_101 ?_
      obtain ⟨x5, hx0, h⟩ := kbG_bind h
      refine r_inv_i csX5_102 (sp_PL_frozen n x3 x4.1 x4.2 hx0) rfl rfl (Nat.le_of_ble_eq_true rfl) (Nat.le_of_ble_eq_true rfl) dX5_freeze_104 ?_
      refine r_istore dX5_freeze_107 (Nat.le_of_ble_eq_true rfl) rfl ?_
      refine r_aload_n dX5_freeze_109 rfl ?_
      refine r_getR flX5_22 sh54 rfl dX5_freeze_110 ?_
      refine r_iload dX5_freeze_113 rfl ?_
      obtain ⟨x6, hx0, h⟩ := kbG_bind h
      refine r_invV_i cvX5_53 sh39 rfl (sp_RU_nearestWord n x5 x4.2 hx0) rfl rfl (Nat.le_of_ble_eq_true rfl) (Nat.le_of_ble_eq_true rfl) dX5_freeze_115 ?_
      refine r_iload dX5_freeze_118 rfl ?_
      refine r_icmp_ne 152 dX5_freeze_120 (by decide) (fun hc => ?_) (fun hc => ?_)
      · replace h := kbG_f hc h
        refine r_le [some (.ref 54), none, some (.int v2), some (.int v3), none, none, some (.int x5)] ⟨rfl, ⟨rfl, ⟨rfl, ⟨rfl, trivial⟩⟩⟩⟩ ?_
        exact jnR_PL_freeze_152 n v2 v3 x5 x6.2 (hx := hx) (hrec := ih) h
      · replace h := kbG_t hc h
        refine r_aload_n dX5_freeze_123 rfl ?_
        refine r_dup dX5_freeze_124 rfl ?_
        refine r_getI flX5_83 sh54 rfl dX5_freeze_125 ?_
        refine r_iconst 1 dX5_freeze_128 (by decide) ?_
        refine r_iadd dX5_freeze_129 ?_
        refine r_put flX5_83 sh54 rfl rfl rfl dX5_freeze_130 ?_
        refine r_aload_n dX5_freeze_133 rfl ?_
        refine r_dup dX5_freeze_134 rfl ?_
        refine r_getI flX5_86 sh54 rfl dX5_freeze_135 ?_
        refine r_aload_n dX5_freeze_138 rfl ?_
        refine r_getR flX5_32 sh54 rfl dX5_freeze_139 ?_
        refine r_getR flX5_73 sh13 rfl dX5_freeze_142 ?_
        refine r_iload dX5_freeze_145 rfl ?_
        obtain ⟨hin, h⟩ := kbG_if h
        replace hin := kbIn_of hin
        refine q_iald x2.1.toNatClampNeg rfl sh17 hin dX5_freeze_147 ?_
        refine r_iadd dX5_freeze_148 ?_
        refine r_put flX5_86 sh54 rfl rfl rfl dX5_freeze_149 ?_
        refine r_le [some (.ref 54), none, some (.int v2), some (.int v3), none, none, some (.int x5)] ⟨rfl, ⟨rfl, ⟨rfl, ⟨rfl, trivial⟩⟩⟩⟩ ?_
        exact jnR_PL_freeze_152 n v2 v3 x5 (kbW (kbW x6.2 54 8 ((x6.2.1 54 8) + 1)) 54 9 (((kbW x6.2 54 8 ((x6.2.1 54 8) + 1)).1 54 9) + ((kbW x6.2 54 8 ((x6.2.1 54 8) + 1)).1 17 x2.1.toNatClampNeg))) (hx := hx) (hrec := ih) h
def f_PL_freeze (n : Nat) (a1 : Int32) (a2 : Int32) (μ : kbM) : Option (kbM) :=
  if ((kbW (kbW (kbW (kbW μ 54 7 a1) 54 8 0) 54 9 0) 54 10 0).1 32 2) = 0 then
    jn_PL_freeze_43 n (kbW (kbW (kbW (kbW μ 54 7 a1) 54 8 0) 54 9 0) 54 10 0)
  else
    if ((kbW (kbW (kbW (kbW μ 54 7 a1) 54 8 0) 54 9 0) 54 10 0).1 13 4) = 0 then
      jn_PL_freeze_43 n (kbW (kbW (kbW (kbW μ 54 7 a1) 54 8 0) 54 9 0) 54 10 0)
    else
      (lp_PL_freeze_46 n a2 n 0 (kbW (kbW (kbW (kbW μ 54 7 a1) 54 8 0) 54 9 0) 54 10 0)).bind fun x7 =>
      some x7
theorem sp_PL_freeze {l : Launch} (n : Nat) (a1 : Int32) (a2 : Int32) (μ : kbM)  {x : kbM} (h : f_PL_freeze n a1 a2 μ = some x) : kbS l MX5_freeze 5 [.ref 54, .int a1, .int a2] μ (kbQe none x) := by
  refine kb_enter 4 rfl rfl ?_
  suffices H : ∀ (Q : kbQt) (P : kbM → Prop), (∀ z : kbM, P z → Q none z) → kbG (f_PL_freeze n a1 a2 μ) P → kbR l MX5_freeze 5 Q 0 [some (.ref 54), some (.int a1), some (.int a2), none, none, none, none] [] μ from H _ (fun z => z = x) (fun z e => by subst e; exact ⟨rfl, rfl⟩) ⟨x, h, rfl⟩
  clear h
  intro Q P hr h
  unfold f_PL_freeze at h
  refine r_aload_n dX5_freeze_0 rfl ?_
  refine r_iload_n dX5_freeze_1 rfl ?_
  refine r_put flX5_80 sh54 rfl rfl rfl dX5_freeze_2 ?_
  refine r_aload_n dX5_freeze_5 rfl ?_
  refine r_iconst 0 dX5_freeze_6 (by decide) ?_
  refine r_put flX5_83 sh54 rfl rfl rfl dX5_freeze_7 ?_
  refine r_aload_n dX5_freeze_10 rfl ?_
  refine r_iconst 0 dX5_freeze_11 (by decide) ?_
  refine r_put flX5_86 sh54 rfl rfl rfl dX5_freeze_12 ?_
  refine r_aload_n dX5_freeze_15 rfl ?_
  refine r_iconst 0 dX5_freeze_16 (by decide) ?_
  refine r_put flX5_89 sh54 rfl rfl rfl dX5_freeze_17 ?_
  refine r_aload_n dX5_freeze_20 rfl ?_
  refine r_getR flX5_18 sh54 rfl dX5_freeze_21 ?_
  refine r_getR flX5_92 sh51 rfl dX5_freeze_24 ?_
  refine r_getI flX5_96 sh32 rfl dX5_freeze_27 ?_
  refine r_if_eq 43 dX5_freeze_30 (by decide) (fun hc => ?_) (fun hc => ?_)
  · replace h := kbG_t hc h
    refine r_le [none, none, none, none, none, none, none] trivial ?_
    exact jnR_PL_freeze_43 n  (kbW (kbW (kbW (kbW μ 54 7 a1) 54 8 0) 54 9 0) 54 10 0) (hr := hr) h
  · replace h := kbG_f hc h
    refine r_aload_n dX5_freeze_33 rfl ?_
    refine r_getR flX5_32 sh54 rfl dX5_freeze_34 ?_
    refine r_getI flX5_33 sh13 rfl dX5_freeze_37 ?_
    refine r_if_ne 44 dX5_freeze_40 (by decide) (fun hc => ?_) (fun hc => ?_)
    · replace h := kbG_f hc h
      refine r_iconst 0 dX5_freeze_44 (by decide) ?_
      refine r_istore_n dX5_freeze_45 (Nat.le_of_ble_eq_true rfl) rfl ?_
      refine r_le [some (.ref 54), none, some (.int a2), some (.int 0), none, none, none] ⟨rfl, ⟨rfl, ⟨rfl, trivial⟩⟩⟩ ?_
      obtain ⟨x7, hx0, h⟩ := kbG_bind h
      refine lpR_PL_freeze_46 n a2 (P := fun z => x7 = z) (hx := fun z e => ?_) n _ _ ⟨_, hx0, rfl⟩
      subst e
      exact r_vret rfl dX5_freeze_177 (hr x7 (kbG_some h))
    · replace h := kbG_t hc h
      refine r_le [none, none, none, none, none, none, none] trivial ?_
      exact jnR_PL_freeze_43 n  (kbW (kbW (kbW (kbW μ 54 7 a1) 54 8 0) 54 9 0) 54 10 0) (hr := hr) h
