theorem dX10_find_0 : decode cX10_find 0 = .ok (.iconst 0, 1) := by decide +kernel
theorem dX10_find_1 : decode cX10_find 1 = .ok (.istore_n 2, 1) := by decide +kernel
theorem dX10_find_2 : decode cX10_find 2 = .ok (.iload_n 2, 1) := by decide +kernel
theorem dX10_find_3 : decode cX10_find 3 = .ok (.aload_n 0, 1) := by decide +kernel
theorem dX10_find_4 : decode cX10_find 4 = .ok (.getfield 24, 3) := by decide +kernel
theorem dX10_find_7 : decode cX10_find 7 = .ok (.if_icmp .ge 21, 3) := by decide +kernel
theorem dX10_find_10 : decode cX10_find 10 = .ok (.aload_n 0, 1) := by decide +kernel
theorem dX10_find_11 : decode cX10_find 11 = .ok (.getfield 9, 3) := by decide +kernel
theorem dX10_find_14 : decode cX10_find 14 = .ok (.iload_n 2, 1) := by decide +kernel
theorem dX10_find_15 : decode cX10_find 15 = .ok (.iaload, 1) := by decide +kernel
theorem dX10_find_16 : decode cX10_find 16 = .ok (.iload_n 1, 1) := by decide +kernel
theorem dX10_find_17 : decode cX10_find 17 = .ok (.if_icmp .ne 5, 3) := by decide +kernel
theorem dX10_find_20 : decode cX10_find 20 = .ok (.iload_n 2, 1) := by decide +kernel
theorem dX10_find_21 : decode cX10_find 21 = .ok (.ireturn, 1) := by decide +kernel
theorem dX10_find_22 : decode cX10_find 22 = .ok (.iinc 2 1, 3) := by decide +kernel
theorem dX10_find_25 : decode cX10_find 25 = .ok (.goto (-23), 3) := by decide +kernel
theorem dX10_find_28 : decode cX10_find 28 = .ok (.iconst (-1), 1) := by decide +kernel
theorem dX10_find_29 : decode cX10_find 29 = .ok (.ireturn, 1) := by decide +kernel
theorem dX10_move_0 : decode cX10_move 0 = .ok (.aload_n 0, 1) := by decide +kernel
theorem dX10_move_1 : decode cX10_move 1 = .ok (.getfield 9, 3) := by decide +kernel
theorem dX10_move_4 : decode cX10_move 4 = .ok (.iload_n 2, 1) := by decide +kernel
theorem dX10_move_5 : decode cX10_move 5 = .ok (.aload_n 0, 1) := by decide +kernel
theorem dX10_move_6 : decode cX10_move 6 = .ok (.getfield 9, 3) := by decide +kernel
theorem dX10_move_9 : decode cX10_move 9 = .ok (.iload_n 1, 1) := by decide +kernel
theorem dX10_move_10 : decode cX10_move 10 = .ok (.iaload, 1) := by decide +kernel
theorem dX10_move_11 : decode cX10_move 11 = .ok (.iastore, 1) := by decide +kernel
theorem dX10_move_12 : decode cX10_move 12 = .ok (.aload_n 0, 1) := by decide +kernel
theorem dX10_move_13 : decode cX10_move 13 = .ok (.getfield 15, 3) := by decide +kernel
theorem dX10_move_16 : decode cX10_move 16 = .ok (.iload_n 2, 1) := by decide +kernel
theorem dX10_move_17 : decode cX10_move 17 = .ok (.aload_n 0, 1) := by decide +kernel
theorem dX10_move_18 : decode cX10_move 18 = .ok (.getfield 15, 3) := by decide +kernel
theorem dX10_move_21 : decode cX10_move 21 = .ok (.iload_n 1, 1) := by decide +kernel
theorem dX10_move_22 : decode cX10_move 22 = .ok (.iaload, 1) := by decide +kernel
theorem dX10_move_23 : decode cX10_move 23 = .ok (.iastore, 1) := by decide +kernel
theorem dX10_move_24 : decode cX10_move 24 = .ok (.aload_n 0, 1) := by decide +kernel
theorem dX10_move_25 : decode cX10_move 25 = .ok (.getfield 18, 3) := by decide +kernel
theorem dX10_move_28 : decode cX10_move 28 = .ok (.iload_n 2, 1) := by decide +kernel
theorem dX10_move_29 : decode cX10_move 29 = .ok (.aload_n 0, 1) := by decide +kernel
theorem dX10_move_30 : decode cX10_move 30 = .ok (.getfield 18, 3) := by decide +kernel
theorem dX10_move_33 : decode cX10_move 33 = .ok (.iload_n 1, 1) := by decide +kernel
theorem dX10_move_34 : decode cX10_move 34 = .ok (.iaload, 1) := by decide +kernel
theorem dX10_move_35 : decode cX10_move 35 = .ok (.iastore, 1) := by decide +kernel
theorem dX10_move_36 : decode cX10_move 36 = .ok (.aload_n 0, 1) := by decide +kernel
theorem dX10_move_37 : decode cX10_move 37 = .ok (.getfield 21, 3) := by decide +kernel
theorem dX10_move_40 : decode cX10_move 40 = .ok (.iload_n 2, 1) := by decide +kernel
theorem dX10_move_41 : decode cX10_move 41 = .ok (.aload_n 0, 1) := by decide +kernel
theorem dX10_move_42 : decode cX10_move 42 = .ok (.getfield 21, 3) := by decide +kernel
theorem dX10_move_45 : decode cX10_move 45 = .ok (.iload_n 1, 1) := by decide +kernel
theorem dX10_move_46 : decode cX10_move 46 = .ok (.iaload, 1) := by decide +kernel
theorem dX10_move_47 : decode cX10_move 47 = .ok (.iastore, 1) := by decide +kernel
theorem dX10_move_48 : decode cX10_move 48 = .ok (.return_, 1) := by decide +kernel
theorem dX10_insert_0 : decode cX10_insert 0 = .ok (.aload_n 0, 1) := by decide +kernel
theorem dX10_insert_1 : decode cX10_insert 1 = .ok (.getfield 24, 3) := by decide +kernel
theorem dX10_insert_4 : decode cX10_insert 4 = .ok (.bipush 10, 2) := by decide +kernel
theorem dX10_insert_6 : decode cX10_insert 6 = .ok (.if_icmp .ge 15, 3) := by decide +kernel
theorem dX10_insert_9 : decode cX10_insert 9 = .ok (.iload_n 1, 1) := by decide +kernel
theorem dX10_insert_10 : decode cX10_insert 10 = .ok (.ifCond .lt 11, 3) := by decide +kernel
theorem dX10_insert_13 : decode cX10_insert 13 = .ok (.iload_n 1, 1) := by decide +kernel
theorem dX10_insert_14 : decode cX10_insert 14 = .ok (.aload_n 0, 1) := by decide +kernel
theorem dX10_insert_15 : decode cX10_insert 15 = .ok (.getfield 24, 3) := by decide +kernel
theorem dX10_insert_18 : decode cX10_insert 18 = .ok (.if_icmp .le 4, 3) := by decide +kernel
theorem dX10_insert_21 : decode cX10_insert 21 = .ok (.return_, 1) := by decide +kernel
theorem dX10_insert_22 : decode cX10_insert 22 = .ok (.aload_n 0, 1) := by decide +kernel
theorem dX10_insert_23 : decode cX10_insert 23 = .ok (.getfield 24, 3) := by decide +kernel
theorem dX10_insert_26 : decode cX10_insert 26 = .ok (.istore 5, 2) := by decide +kernel
theorem dX10_insert_28 : decode cX10_insert 28 = .ok (.iload 5, 2) := by decide +kernel
theorem dX10_insert_30 : decode cX10_insert 30 = .ok (.iload_n 1, 1) := by decide +kernel
theorem dX10_insert_31 : decode cX10_insert 31 = .ok (.if_icmp .le 19, 3) := by decide +kernel
theorem dX10_insert_34 : decode cX10_insert 34 = .ok (.aload_n 0, 1) := by decide +kernel
theorem dX10_insert_35 : decode cX10_insert 35 = .ok (.iload 5, 2) := by decide +kernel
theorem dX10_insert_37 : decode cX10_insert 37 = .ok (.iconst 1, 1) := by decide +kernel
theorem dX10_insert_38 : decode cX10_insert 38 = .ok (.isub, 1) := by decide +kernel
theorem dX10_insert_39 : decode cX10_insert 39 = .ok (.iload 5, 2) := by decide +kernel
theorem dX10_insert_41 : decode cX10_insert 41 = .ok (.invokevirtual 28, 3) := by decide +kernel
theorem dX10_insert_44 : decode cX10_insert 44 = .ok (.iinc 5 (-1), 3) := by decide +kernel
theorem dX10_insert_47 : decode cX10_insert 47 = .ok (.goto (-19), 3) := by decide +kernel
theorem dX10_insert_50 : decode cX10_insert 50 = .ok (.aload_n 0, 1) := by decide +kernel
theorem dX10_insert_51 : decode cX10_insert 51 = .ok (.getfield 9, 3) := by decide +kernel
theorem dX10_insert_54 : decode cX10_insert 54 = .ok (.iload_n 1, 1) := by decide +kernel
theorem dX10_insert_55 : decode cX10_insert 55 = .ok (.iload_n 2, 1) := by decide +kernel
theorem dX10_insert_56 : decode cX10_insert 56 = .ok (.iastore, 1) := by decide +kernel
theorem dX10_insert_57 : decode cX10_insert 57 = .ok (.aload_n 0, 1) := by decide +kernel
theorem dX10_insert_58 : decode cX10_insert 58 = .ok (.getfield 15, 3) := by decide +kernel
theorem dX10_insert_61 : decode cX10_insert 61 = .ok (.iload_n 1, 1) := by decide +kernel
theorem dX10_insert_62 : decode cX10_insert 62 = .ok (.iload_n 2, 1) := by decide +kernel
theorem dX10_insert_63 : decode cX10_insert 63 = .ok (.invokestatic 32, 3) := by decide +kernel
theorem dX10_insert_66 : decode cX10_insert 66 = .ok (.iastore, 1) := by decide +kernel
theorem dX10_insert_67 : decode cX10_insert 67 = .ok (.aload_n 0, 1) := by decide +kernel
theorem dX10_insert_68 : decode cX10_insert 68 = .ok (.getfield 18, 3) := by decide +kernel
theorem dX10_insert_71 : decode cX10_insert 71 = .ok (.iload_n 1, 1) := by decide +kernel
theorem dX10_insert_72 : decode cX10_insert 72 = .ok (.iload_n 3, 1) := by decide +kernel
theorem dX10_insert_73 : decode cX10_insert 73 = .ok (.iastore, 1) := by decide +kernel
theorem dX10_insert_74 : decode cX10_insert 74 = .ok (.aload_n 0, 1) := by decide +kernel
theorem dX10_insert_75 : decode cX10_insert 75 = .ok (.getfield 21, 3) := by decide +kernel
theorem dX10_insert_78 : decode cX10_insert 78 = .ok (.iload_n 1, 1) := by decide +kernel
theorem dX10_insert_79 : decode cX10_insert 79 = .ok (.iload 4, 2) := by decide +kernel
theorem dX10_insert_81 : decode cX10_insert 81 = .ok (.iastore, 1) := by decide +kernel
theorem dX10_insert_82 : decode cX10_insert 82 = .ok (.aload_n 0, 1) := by decide +kernel
theorem dX10_insert_83 : decode cX10_insert 83 = .ok (.dup, 1) := by decide +kernel
theorem dX10_insert_84 : decode cX10_insert 84 = .ok (.getfield 24, 3) := by decide +kernel
theorem dX10_insert_87 : decode cX10_insert 87 = .ok (.iconst 1, 1) := by decide +kernel
theorem dX10_insert_88 : decode cX10_insert 88 = .ok (.iadd, 1) := by decide +kernel
theorem dX10_insert_89 : decode cX10_insert 89 = .ok (.putfield 24, 3) := by decide +kernel
theorem dX10_insert_92 : decode cX10_insert 92 = .ok (.return_, 1) := by decide +kernel
theorem dX10_copyFrom_0 : decode cX10_copyFrom 0 = .ok (.aload_n 1, 1) := by decide +kernel
theorem dX10_copyFrom_1 : decode cX10_copyFrom 1 = .ok (.getfield 9, 3) := by decide +kernel
theorem dX10_copyFrom_4 : decode cX10_copyFrom 4 = .ok (.iconst 0, 1) := by decide +kernel
theorem dX10_copyFrom_5 : decode cX10_copyFrom 5 = .ok (.aload_n 0, 1) := by decide +kernel
theorem dX10_copyFrom_6 : decode cX10_copyFrom 6 = .ok (.getfield 9, 3) := by decide +kernel
theorem dX10_copyFrom_9 : decode cX10_copyFrom 9 = .ok (.iconst 0, 1) := by decide +kernel
theorem dX10_copyFrom_10 : decode cX10_copyFrom 10 = .ok (.bipush 10, 2) := by decide +kernel
theorem dX10_copyFrom_12 : decode cX10_copyFrom 12 = .ok (.invokestatic 37, 3) := by decide +kernel
theorem dX10_copyFrom_15 : decode cX10_copyFrom 15 = .ok (.aload_n 1, 1) := by decide +kernel
theorem dX10_copyFrom_16 : decode cX10_copyFrom 16 = .ok (.getfield 15, 3) := by decide +kernel
theorem dX10_copyFrom_19 : decode cX10_copyFrom 19 = .ok (.iconst 0, 1) := by decide +kernel
theorem dX10_copyFrom_20 : decode cX10_copyFrom 20 = .ok (.aload_n 0, 1) := by decide +kernel
theorem dX10_copyFrom_21 : decode cX10_copyFrom 21 = .ok (.getfield 15, 3) := by decide +kernel
theorem dX10_copyFrom_24 : decode cX10_copyFrom 24 = .ok (.iconst 0, 1) := by decide +kernel
theorem dX10_copyFrom_25 : decode cX10_copyFrom 25 = .ok (.bipush 10, 2) := by decide +kernel
theorem dX10_copyFrom_27 : decode cX10_copyFrom 27 = .ok (.invokestatic 37, 3) := by decide +kernel
theorem dX10_copyFrom_30 : decode cX10_copyFrom 30 = .ok (.aload_n 1, 1) := by decide +kernel
theorem dX10_copyFrom_31 : decode cX10_copyFrom 31 = .ok (.getfield 18, 3) := by decide +kernel
theorem dX10_copyFrom_34 : decode cX10_copyFrom 34 = .ok (.iconst 0, 1) := by decide +kernel
theorem dX10_copyFrom_35 : decode cX10_copyFrom 35 = .ok (.aload_n 0, 1) := by decide +kernel
theorem dX10_copyFrom_36 : decode cX10_copyFrom 36 = .ok (.getfield 18, 3) := by decide +kernel
theorem dX10_copyFrom_39 : decode cX10_copyFrom 39 = .ok (.iconst 0, 1) := by decide +kernel
theorem dX10_copyFrom_40 : decode cX10_copyFrom 40 = .ok (.bipush 10, 2) := by decide +kernel
theorem dX10_copyFrom_42 : decode cX10_copyFrom 42 = .ok (.invokestatic 37, 3) := by decide +kernel
theorem dX10_copyFrom_45 : decode cX10_copyFrom 45 = .ok (.aload_n 1, 1) := by decide +kernel
theorem dX10_copyFrom_46 : decode cX10_copyFrom 46 = .ok (.getfield 21, 3) := by decide +kernel
theorem dX10_copyFrom_49 : decode cX10_copyFrom 49 = .ok (.iconst 0, 1) := by decide +kernel
theorem dX10_copyFrom_50 : decode cX10_copyFrom 50 = .ok (.aload_n 0, 1) := by decide +kernel
theorem dX10_copyFrom_51 : decode cX10_copyFrom 51 = .ok (.getfield 21, 3) := by decide +kernel
theorem dX10_copyFrom_54 : decode cX10_copyFrom 54 = .ok (.iconst 0, 1) := by decide +kernel
theorem dX10_copyFrom_55 : decode cX10_copyFrom 55 = .ok (.bipush 10, 2) := by decide +kernel
theorem dX10_copyFrom_57 : decode cX10_copyFrom 57 = .ok (.invokestatic 37, 3) := by decide +kernel
theorem dX10_copyFrom_60 : decode cX10_copyFrom 60 = .ok (.aload_n 0, 1) := by decide +kernel
theorem dX10_copyFrom_61 : decode cX10_copyFrom 61 = .ok (.aload_n 1, 1) := by decide +kernel
theorem dX10_copyFrom_62 : decode cX10_copyFrom 62 = .ok (.getfield 24, 3) := by decide +kernel
theorem dX10_copyFrom_65 : decode cX10_copyFrom 65 = .ok (.putfield 24, 3) := by decide +kernel
theorem dX10_copyFrom_68 : decode cX10_copyFrom 68 = .ok (.return_, 1) := by decide +kernel
theorem dX10_remove_0 : decode cX10_remove 0 = .ok (.iload_n 1, 1) := by decide +kernel
theorem dX10_remove_1 : decode cX10_remove 1 = .ok (.ifCond .lt 11, 3) := by decide +kernel
theorem dX10_remove_4 : decode cX10_remove 4 = .ok (.iload_n 1, 1) := by decide +kernel
theorem dX10_remove_5 : decode cX10_remove 5 = .ok (.aload_n 0, 1) := by decide +kernel
theorem dX10_remove_6 : decode cX10_remove 6 = .ok (.getfield 24, 3) := by decide +kernel
theorem dX10_remove_9 : decode cX10_remove 9 = .ok (.if_icmp .lt 4, 3) := by decide +kernel
theorem dX10_remove_12 : decode cX10_remove 12 = .ok (.return_, 1) := by decide +kernel
theorem dX10_remove_13 : decode cX10_remove 13 = .ok (.iload_n 1, 1) := by decide +kernel
theorem dX10_remove_14 : decode cX10_remove 14 = .ok (.iconst 1, 1) := by decide +kernel
theorem dX10_remove_15 : decode cX10_remove 15 = .ok (.iadd, 1) := by decide +kernel
theorem dX10_remove_16 : decode cX10_remove 16 = .ok (.istore_n 2, 1) := by decide +kernel
theorem dX10_remove_17 : decode cX10_remove 17 = .ok (.iload_n 2, 1) := by decide +kernel
theorem dX10_remove_18 : decode cX10_remove 18 = .ok (.aload_n 0, 1) := by decide +kernel
theorem dX10_remove_19 : decode cX10_remove 19 = .ok (.getfield 24, 3) := by decide +kernel
theorem dX10_remove_22 : decode cX10_remove 22 = .ok (.if_icmp .ge 17, 3) := by decide +kernel
theorem dX10_remove_25 : decode cX10_remove 25 = .ok (.aload_n 0, 1) := by decide +kernel
theorem dX10_remove_26 : decode cX10_remove 26 = .ok (.iload_n 2, 1) := by decide +kernel
theorem dX10_remove_27 : decode cX10_remove 27 = .ok (.iload_n 2, 1) := by decide +kernel
theorem dX10_remove_28 : decode cX10_remove 28 = .ok (.iconst 1, 1) := by decide +kernel
theorem dX10_remove_29 : decode cX10_remove 29 = .ok (.isub, 1) := by decide +kernel
theorem dX10_remove_30 : decode cX10_remove 30 = .ok (.invokevirtual 28, 3) := by decide +kernel
theorem dX10_remove_33 : decode cX10_remove 33 = .ok (.iinc 2 1, 3) := by decide +kernel
theorem dX10_remove_36 : decode cX10_remove 36 = .ok (.goto (-19), 3) := by decide +kernel
theorem dX10_remove_39 : decode cX10_remove 39 = .ok (.aload_n 0, 1) := by decide +kernel
theorem dX10_remove_40 : decode cX10_remove 40 = .ok (.dup, 1) := by decide +kernel
theorem dX10_remove_41 : decode cX10_remove 41 = .ok (.getfield 24, 3) := by decide +kernel
theorem dX10_remove_44 : decode cX10_remove 44 = .ok (.iconst 1, 1) := by decide +kernel
theorem dX10_remove_45 : decode cX10_remove 45 = .ok (.isub, 1) := by decide +kernel
theorem dX10_remove_46 : decode cX10_remove 46 = .ok (.putfield 24, 3) := by decide +kernel
theorem dX10_remove_49 : decode cX10_remove 49 = .ok (.return_, 1) := by decide +kernel
theorem dX10_change_0 : decode cX10_change 0 = .ok (.iload_n 1, 1) := by decide +kernel
theorem dX10_change_1 : decode cX10_change 1 = .ok (.ifCond .lt 25, 3) := by decide +kernel
theorem dX10_change_4 : decode cX10_change 4 = .ok (.iload_n 1, 1) := by decide +kernel
theorem dX10_change_5 : decode cX10_change 5 = .ok (.aload_n 0, 1) := by decide +kernel
theorem dX10_change_6 : decode cX10_change 6 = .ok (.getfield 24, 3) := by decide +kernel
theorem dX10_change_9 : decode cX10_change 9 = .ok (.if_icmp .ge 17, 3) := by decide +kernel
theorem dX10_change_12 : decode cX10_change 12 = .ok (.aload_n 0, 1) := by decide +kernel
theorem dX10_change_13 : decode cX10_change 13 = .ok (.getfield 18, 3) := by decide +kernel
theorem dX10_change_16 : decode cX10_change 16 = .ok (.iload_n 1, 1) := by decide +kernel
theorem dX10_change_17 : decode cX10_change 17 = .ok (.iload_n 2, 1) := by decide +kernel
theorem dX10_change_18 : decode cX10_change 18 = .ok (.iastore, 1) := by decide +kernel
theorem dX10_change_19 : decode cX10_change 19 = .ok (.aload_n 0, 1) := by decide +kernel
theorem dX10_change_20 : decode cX10_change 20 = .ok (.getfield 21, 3) := by decide +kernel
theorem dX10_change_23 : decode cX10_change 23 = .ok (.iload_n 1, 1) := by decide +kernel
theorem dX10_change_24 : decode cX10_change 24 = .ok (.iload_n 3, 1) := by decide +kernel
theorem dX10_change_25 : decode cX10_change 25 = .ok (.iastore, 1) := by decide +kernel
theorem dX10_change_26 : decode cX10_change 26 = .ok (.return_, 1) := by decide +kernel
theorem dX10_worthOfAll_0 : decode cX10_worthOfAll 0 = .ok (.iconst 0, 1) := by decide +kernel
theorem dX10_worthOfAll_1 : decode cX10_worthOfAll 1 = .ok (.istore_n 1, 1) := by decide +kernel
theorem dX10_worthOfAll_2 : decode cX10_worthOfAll 2 = .ok (.iconst 0, 1) := by decide +kernel
theorem dX10_worthOfAll_3 : decode cX10_worthOfAll 3 = .ok (.istore_n 2, 1) := by decide +kernel
theorem dX10_worthOfAll_4 : decode cX10_worthOfAll 4 = .ok (.iload_n 2, 1) := by decide +kernel
theorem dX10_worthOfAll_5 : decode cX10_worthOfAll 5 = .ok (.aload_n 0, 1) := by decide +kernel
theorem dX10_worthOfAll_6 : decode cX10_worthOfAll 6 = .ok (.getfield 24, 3) := by decide +kernel
theorem dX10_worthOfAll_9 : decode cX10_worthOfAll 9 = .ok (.if_icmp .ge 18, 3) := by decide +kernel
theorem dX10_worthOfAll_12 : decode cX10_worthOfAll 12 = .ok (.iload_n 1, 1) := by decide +kernel
theorem dX10_worthOfAll_13 : decode cX10_worthOfAll 13 = .ok (.aload_n 0, 1) := by decide +kernel
theorem dX10_worthOfAll_14 : decode cX10_worthOfAll 14 = .ok (.getfield 21, 3) := by decide +kernel
theorem dX10_worthOfAll_17 : decode cX10_worthOfAll 17 = .ok (.iload_n 2, 1) := by decide +kernel
theorem dX10_worthOfAll_18 : decode cX10_worthOfAll 18 = .ok (.iaload, 1) := by decide +kernel
theorem dX10_worthOfAll_19 : decode cX10_worthOfAll 19 = .ok (.iadd, 1) := by decide +kernel
theorem dX10_worthOfAll_20 : decode cX10_worthOfAll 20 = .ok (.istore_n 1, 1) := by decide +kernel
theorem dX10_worthOfAll_21 : decode cX10_worthOfAll 21 = .ok (.iinc 2 1, 3) := by decide +kernel
theorem dX10_worthOfAll_24 : decode cX10_worthOfAll 24 = .ok (.goto (-20), 3) := by decide +kernel
theorem dX10_worthOfAll_27 : decode cX10_worthOfAll 27 = .ok (.iload_n 1, 1) := by decide +kernel
theorem dX10_worthOfAll_28 : decode cX10_worthOfAll 28 = .ok (.ireturn, 1) := by decide +kernel
theorem dX10_soundsOfAll_0 : decode cX10_soundsOfAll 0 = .ok (.iconst 0, 1) := by decide +kernel
theorem dX10_soundsOfAll_1 : decode cX10_soundsOfAll 1 = .ok (.istore_n 1, 1) := by decide +kernel
theorem dX10_soundsOfAll_2 : decode cX10_soundsOfAll 2 = .ok (.iconst 0, 1) := by decide +kernel
theorem dX10_soundsOfAll_3 : decode cX10_soundsOfAll 3 = .ok (.istore_n 2, 1) := by decide +kernel
theorem dX10_soundsOfAll_4 : decode cX10_soundsOfAll 4 = .ok (.iload_n 2, 1) := by decide +kernel
theorem dX10_soundsOfAll_5 : decode cX10_soundsOfAll 5 = .ok (.aload_n 0, 1) := by decide +kernel
theorem dX10_soundsOfAll_6 : decode cX10_soundsOfAll 6 = .ok (.getfield 24, 3) := by decide +kernel
theorem dX10_soundsOfAll_9 : decode cX10_soundsOfAll 9 = .ok (.if_icmp .ge 18, 3) := by decide +kernel
theorem dX10_soundsOfAll_12 : decode cX10_soundsOfAll 12 = .ok (.iload_n 1, 1) := by decide +kernel
theorem dX10_soundsOfAll_13 : decode cX10_soundsOfAll 13 = .ok (.aload_n 0, 1) := by decide +kernel
theorem dX10_soundsOfAll_14 : decode cX10_soundsOfAll 14 = .ok (.getfield 15, 3) := by decide +kernel
theorem dX10_soundsOfAll_17 : decode cX10_soundsOfAll 17 = .ok (.iload_n 2, 1) := by decide +kernel
theorem dX10_soundsOfAll_18 : decode cX10_soundsOfAll 18 = .ok (.iaload, 1) := by decide +kernel
theorem dX10_soundsOfAll_19 : decode cX10_soundsOfAll 19 = .ok (.iadd, 1) := by decide +kernel
theorem dX10_soundsOfAll_20 : decode cX10_soundsOfAll 20 = .ok (.istore_n 1, 1) := by decide +kernel
theorem dX10_soundsOfAll_21 : decode cX10_soundsOfAll 21 = .ok (.iinc 2 1, 3) := by decide +kernel
theorem dX10_soundsOfAll_24 : decode cX10_soundsOfAll 24 = .ok (.goto (-20), 3) := by decide +kernel
theorem dX10_soundsOfAll_27 : decode cX10_soundsOfAll 27 = .ok (.iload_n 1, 1) := by decide +kernel
theorem dX10_soundsOfAll_28 : decode cX10_soundsOfAll 28 = .ok (.ireturn, 1) := by decide +kernel
def lp_WO_find_3_2 (n : Nat) (v1 : Int32) (μ : kbM) : Nat → Int32 → Option ((Int32) ⊕ (Unit))
  | 0, _ => none
  | k + 1, v2 =>
    if (μ.1 3 4) ≤ v2 then
      some (.inr (()))
    else
      kbIf (kbIn v2 10) <|
      if (μ.1 4 v2.toNatClampNeg) = v1 then
        some (.inl v2)
      else
        lp_WO_find_3_2 n v1 μ k (v2 + 1)
theorem lpR_WO_find_3_2 {l : Launch} (n : Nat) (v1 : Int32) (μ : kbM)  {Q : kbQt} {P : (Int32) ⊕ (Unit) → Prop} (hr : ∀ z : Int32, P (.inl z) → Q (some (.int z)) μ) (hx : ∀ z : Unit, P (.inr z) → kbR l MX10_find 1 Q 28 [none, none, none] [] μ) : ∀ (k : Nat) (v2 : Int32), kbG (lp_WO_find_3_2 n v1 μ k v2) P → kbR l MX10_find 1 Q 2 [some (.ref 3), some (.int v1), some (.int v2)] [] μ := by
  intro k
  induction k with
  | zero => intro v2 h; exact absurd h kbG_none
  | succ k ih =>
    intro v2 h
    unfold lp_WO_find_3_2 at h
    refine r_iload_n dX10_find_2 rfl ?_
    refine r_aload_n dX10_find_3 rfl ?_
    refine r_getI flX10_24 sh3 rfl dX10_find_4 ?_
    refine r_icmp_ge 28 dX10_find_7 (by decide) (fun hc => ?_) (fun hc => ?_)
    · replace h := kbG_t hc h
      refine r_le [none, none, none] trivial ?_
      exact hx (()) (kbG_some h)
    · replace h := kbG_f hc h
      refine r_aload_n dX10_find_10 rfl ?_
      refine r_getR flX10_9 sh3 rfl dX10_find_11 ?_
      refine r_iload_n dX10_find_14 rfl ?_
      obtain ⟨hin, h⟩ := kbG_if h
      replace hin := kbIn_of hin
      refine q_iald v2.toNatClampNeg rfl sh4 hin dX10_find_15 ?_
      refine r_iload_n dX10_find_16 rfl ?_
      refine r_icmp_ne 22 dX10_find_17 (by decide) (fun hc => ?_) (fun hc => ?_)
      · replace h := kbG_f hc h
        refine r_iinc 1 dX10_find_22 rfl (by decide) (Nat.le_of_ble_eq_true rfl) rfl ?_
        refine r_goto 2 dX10_find_25 (by decide) ?_
        refine r_le [some (.ref 3), some (.int v1), some (.int (v2 + 1))] ⟨rfl, ⟨rfl, ⟨rfl, trivial⟩⟩⟩ ?_
        exact ih (v2 + 1) h
      · replace h := kbG_t hc h
        refine r_iload_n dX10_find_20 rfl ?_
        exact r_iret rfl dX10_find_21 (hr v2 (kbG_some h))
def f_WO_find_3 (n : Nat) (a1 : Int32) (μ : kbM) : Option (Int32) :=
  kbOr (lp_WO_find_3_2 n a1 μ n 0) (fun r2 => some r2) fun x1 =>
  some (-1)
theorem sp_WO_find_3 {l : Launch} (n : Nat) (a1 : Int32) (μ : kbM)  {x : Int32} (h : f_WO_find_3 n a1 μ = some x) : kbS l MX10_find 1 [.ref 3, .int a1] μ (kbQe (some (.int x)) μ) := by
  refine kb_enter 1 rfl rfl ?_
  suffices H : ∀ (Q : kbQt) (P : Int32 → Prop), (∀ z : Int32, P z → Q (some (.int z)) μ) → kbG (f_WO_find_3 n a1 μ) P → kbR l MX10_find 1 Q 0 [some (.ref 3), some (.int a1), none] [] μ from H _ (fun z => z = x) (fun z e => by subst e; exact ⟨rfl, rfl⟩) ⟨x, h, rfl⟩
  clear h
  intro Q P hr h
  unfold f_WO_find_3 at h
  refine r_iconst 0 dX10_find_0 (by decide) ?_
  refine r_istore_n dX10_find_1 (Nat.le_of_ble_eq_true rfl) rfl ?_
  refine r_le [some (.ref 3), some (.int a1), some (.int 0)] ⟨rfl, ⟨rfl, ⟨rfl, trivial⟩⟩⟩ ?_
  rcases kbG_or h with ⟨r2, hx0, h⟩ | ⟨x1, hx0, h⟩
  · exact lpR_WO_find_3_2 n a1 μ (P := fun z => .inl r2 = z) (hr := fun z e => by cases e; exact hr _ (kbG_some h)) (hx := fun z e => by cases e) n _ ⟨_, hx0, rfl⟩
  · refine lpR_WO_find_3_2 n a1 μ (P := fun z => .inr x1 = z) (hr := fun z e => by cases e) (hx := fun z e => ?_) n _ ⟨_, hx0, rfl⟩
    cases e
    refine r_iconst (-1) dX10_find_28 (by decide) ?_
    exact r_iret rfl dX10_find_29 (hr (-1) (kbG_some h))
def f_WO_move_3 (a1 : Int32) (a2 : Int32) (μ : kbM) : Option (kbM) :=
  kbIf (kbIn a1 10) <|
  kbIf (kbIn a2 10) <|
  kbIf (kbIn a1 10) <|
  kbIf (kbIn a2 10) <|
  kbIf (kbIn a1 10) <|
  kbIf (kbIn a2 10) <|
  kbIf (kbIn a1 10) <|
  kbIf (kbIn a2 10) <|
  some (kbW (kbW (kbW (kbW μ 4 a2.toNatClampNeg (μ.1 4 a1.toNatClampNeg)) 5 a2.toNatClampNeg ((kbW μ 4 a2.toNatClampNeg (μ.1 4 a1.toNatClampNeg)).1 5 a1.toNatClampNeg)) 6 a2.toNatClampNeg ((kbW (kbW μ 4 a2.toNatClampNeg (μ.1 4 a1.toNatClampNeg)) 5 a2.toNatClampNeg ((kbW μ 4 a2.toNatClampNeg (μ.1 4 a1.toNatClampNeg)).1 5 a1.toNatClampNeg)).1 6 a1.toNatClampNeg)) 7 a2.toNatClampNeg ((kbW (kbW (kbW μ 4 a2.toNatClampNeg (μ.1 4 a1.toNatClampNeg)) 5 a2.toNatClampNeg ((kbW μ 4 a2.toNatClampNeg (μ.1 4 a1.toNatClampNeg)).1 5 a1.toNatClampNeg)) 6 a2.toNatClampNeg ((kbW (kbW μ 4 a2.toNatClampNeg (μ.1 4 a1.toNatClampNeg)) 5 a2.toNatClampNeg ((kbW μ 4 a2.toNatClampNeg (μ.1 4 a1.toNatClampNeg)).1 5 a1.toNatClampNeg)).1 6 a1.toNatClampNeg)).1 7 a1.toNatClampNeg))
theorem sp_WO_move_3 {l : Launch} (a1 : Int32) (a2 : Int32) (μ : kbM)  {x : kbM} (h : f_WO_move_3 a1 a2 μ = some x) : kbS l MX10_move 1 [.ref 3, .int a1, .int a2] μ (kbQe none x) := by
  refine kb_enter 0 rfl rfl ?_
  suffices H : ∀ (Q : kbQt) (P : kbM → Prop), (∀ z : kbM, P z → Q none z) → kbG (f_WO_move_3 a1 a2 μ) P → kbR l MX10_move 1 Q 0 [some (.ref 3), some (.int a1), some (.int a2)] [] μ from H _ (fun z => z = x) (fun z e => by subst e; exact ⟨rfl, rfl⟩) ⟨x, h, rfl⟩
  clear h
  intro Q P hr h
  unfold f_WO_move_3 at h
  refine r_aload_n dX10_move_0 rfl ?_
  refine r_getR flX10_9 sh3 rfl dX10_move_1 ?_
  refine r_iload_n dX10_move_4 rfl ?_
  refine r_aload_n dX10_move_5 rfl ?_
  refine r_getR flX10_9 sh3 rfl dX10_move_6 ?_
  refine r_iload_n dX10_move_9 rfl ?_
  obtain ⟨hin, h⟩ := kbG_if h
  replace hin := kbIn_of hin
  refine q_iald a1.toNatClampNeg rfl sh4 hin dX10_move_10 ?_
  obtain ⟨hin, h⟩ := kbG_if h
  replace hin := kbIn_of hin
  refine q_iast a2.toNatClampNeg rfl sh4 hin dX10_move_11 ?_
  refine r_aload_n dX10_move_12 rfl ?_
  refine r_getR flX10_15 sh3 rfl dX10_move_13 ?_
  refine r_iload_n dX10_move_16 rfl ?_
  refine r_aload_n dX10_move_17 rfl ?_
  refine r_getR flX10_15 sh3 rfl dX10_move_18 ?_
  refine r_iload_n dX10_move_21 rfl ?_
  obtain ⟨hin, h⟩ := kbG_if h
  replace hin := kbIn_of hin
  refine q_iald a1.toNatClampNeg rfl sh5 hin dX10_move_22 ?_
  obtain ⟨hin, h⟩ := kbG_if h
  replace hin := kbIn_of hin
  refine q_iast a2.toNatClampNeg rfl sh5 hin dX10_move_23 ?_
  refine r_aload_n dX10_move_24 rfl ?_
  refine r_getR flX10_18 sh3 rfl dX10_move_25 ?_
  refine r_iload_n dX10_move_28 rfl ?_
  refine r_aload_n dX10_move_29 rfl ?_
  refine r_getR flX10_18 sh3 rfl dX10_move_30 ?_
  refine r_iload_n dX10_move_33 rfl ?_
  obtain ⟨hin, h⟩ := kbG_if h
  replace hin := kbIn_of hin
  refine q_iald a1.toNatClampNeg rfl sh6 hin dX10_move_34 ?_
  obtain ⟨hin, h⟩ := kbG_if h
  replace hin := kbIn_of hin
  refine q_iast a2.toNatClampNeg rfl sh6 hin dX10_move_35 ?_
  refine r_aload_n dX10_move_36 rfl ?_
  refine r_getR flX10_21 sh3 rfl dX10_move_37 ?_
  refine r_iload_n dX10_move_40 rfl ?_
  refine r_aload_n dX10_move_41 rfl ?_
  refine r_getR flX10_21 sh3 rfl dX10_move_42 ?_
  refine r_iload_n dX10_move_45 rfl ?_
  obtain ⟨hin, h⟩ := kbG_if h
  replace hin := kbIn_of hin
  refine q_iald a1.toNatClampNeg rfl sh7 hin dX10_move_46 ?_
  obtain ⟨hin, h⟩ := kbG_if h
  replace hin := kbIn_of hin
  refine q_iast a2.toNatClampNeg rfl sh7 hin dX10_move_47 ?_
  exact r_vret rfl dX10_move_48 (hr (kbW (kbW (kbW (kbW μ 4 a2.toNatClampNeg (μ.1 4 a1.toNatClampNeg)) 5 a2.toNatClampNeg ((kbW μ 4 a2.toNatClampNeg (μ.1 4 a1.toNatClampNeg)).1 5 a1.toNatClampNeg)) 6 a2.toNatClampNeg ((kbW (kbW μ 4 a2.toNatClampNeg (μ.1 4 a1.toNatClampNeg)) 5 a2.toNatClampNeg ((kbW μ 4 a2.toNatClampNeg (μ.1 4 a1.toNatClampNeg)).1 5 a1.toNatClampNeg)).1 6 a1.toNatClampNeg)) 7 a2.toNatClampNeg ((kbW (kbW (kbW μ 4 a2.toNatClampNeg (μ.1 4 a1.toNatClampNeg)) 5 a2.toNatClampNeg ((kbW μ 4 a2.toNatClampNeg (μ.1 4 a1.toNatClampNeg)).1 5 a1.toNatClampNeg)) 6 a2.toNatClampNeg ((kbW (kbW μ 4 a2.toNatClampNeg (μ.1 4 a1.toNatClampNeg)) 5 a2.toNatClampNeg ((kbW μ 4 a2.toNatClampNeg (μ.1 4 a1.toNatClampNeg)).1 5 a1.toNatClampNeg)).1 6 a1.toNatClampNeg)).1 7 a1.toNatClampNeg)) (kbG_some h))
def jn_WO_insert_3_21 (n : Nat) (μ : kbM) : Option (kbM) :=
  some μ
theorem jnR_WO_insert_3_21 {l : Launch} (n : Nat)    (μ : kbM) {Q : kbQt} {P : kbM → Prop} (hr : ∀ z : kbM, P z → Q none z) (h : kbG (jn_WO_insert_3_21 n μ) P) : kbR l MX10_insert 2 Q 21 [none, none, none, none, none, none] [] μ := by
  unfold jn_WO_insert_3_21 at h
  exact r_vret rfl dX10_insert_21 (hr μ (kbG_some h))
def lp_WO_insert_3_28 (n : Nat) (v1 : Int32) (v2 : Int32) (v3 : Int32) (v4 : Int32) : Nat → Int32 → kbM → Option (kbM)
  | 0, _, _ => none
  | k + 1, v5, μ =>
    if v5 ≤ v1 then
      some μ
    else
      (f_WO_move_3 (v5 - 1) v5 μ).bind fun x1 =>
      lp_WO_insert_3_28 n v1 v2 v3 v4 k (v5 + (-1)) x1
theorem lpR_WO_insert_3_28 {l : Launch} (n : Nat) (v1 : Int32) (v2 : Int32) (v3 : Int32) (v4 : Int32)  {Q : kbQt} {P : kbM → Prop} (hx : ∀ z : kbM, P (z) → kbR l MX10_insert 2 Q 50 [some (.ref 3), some (.int v1), some (.int v2), some (.int v3), some (.int v4), none] [] z) : ∀ (k : Nat) (v5 : Int32) (μ : kbM), kbG (lp_WO_insert_3_28 n v1 v2 v3 v4 k v5 μ) P → kbR l MX10_insert 2 Q 28 [some (.ref 3), some (.int v1), some (.int v2), some (.int v3), some (.int v4), some (.int v5)] [] μ := by
  intro k
  induction k with
  | zero => intro v5 μ h; exact absurd h kbG_none
  | succ k ih =>
    intro v5 μ h
    unfold lp_WO_insert_3_28 at h
    refine r_iload dX10_insert_28 rfl ?_
    refine r_iload_n dX10_insert_30 rfl ?_
    refine r_icmp_le 50 dX10_insert_31 (by decide) (fun hc => ?_) (fun hc => ?_)
    · replace h := kbG_t hc h
      refine r_le [some (.ref 3), some (.int v1), some (.int v2), some (.int v3), some (.int v4), none] ⟨rfl, ⟨rfl, ⟨rfl, ⟨rfl, ⟨rfl, trivial⟩⟩⟩⟩⟩ ?_
      exact hx μ (kbG_some h)
    · replace h := kbG_f hc h
      refine r_aload_n dX10_insert_34 rfl ?_
      refine r_iload dX10_insert_35 rfl ?_
      refine r_iconst 1 dX10_insert_37 (by decide) ?_
      refine r_isub dX10_insert_38 ?_
      refine r_iload dX10_insert_39 rfl ?_
      obtain ⟨x1, hx0, h⟩ := kbG_bind h
      refine r_invV_v cvX10_28 sh3 rfl (sp_WO_move_3 (v5 - 1) v5 μ hx0) rfl rfl (Nat.le_of_ble_eq_true rfl) (Nat.le_of_ble_eq_true rfl) dX10_insert_41 ?_
      refine r_iinc (-1) dX10_insert_44 rfl (by decide) (Nat.le_of_ble_eq_true rfl) rfl ?_
      refine r_goto 28 dX10_insert_47 (by decide) ?_
      refine r_le [some (.ref 3), some (.int v1), some (.int v2), some (.int v3), some (.int v4), some (.int (v5 + (-1)))] ⟨rfl, ⟨rfl, ⟨rfl, ⟨rfl, ⟨rfl, ⟨rfl, trivial⟩⟩⟩⟩⟩⟩ ?_
      exact ih (v5 + (-1)) x1 h
def f_WO_insert_3 (n : Nat) (a1 : Int32) (a2 : Int32) (a3 : Int32) (a4 : Int32) (μ : kbM) : Option (kbM) :=
  if 10 ≤ (μ.1 3 4) then
    jn_WO_insert_3_21 n μ
  else
    if a1 < 0 then
      jn_WO_insert_3_21 n μ
    else
      if a1 ≤ (μ.1 3 4) then
        (lp_WO_insert_3_28 n a1 a2 a3 a4 n (μ.1 3 4) μ).bind fun x2 =>
        kbIf (kbIn a1 10) <|
        (f_RO_size n a2).bind fun x3 =>
        kbIf (kbIn a1 10) <|
        kbIf (kbIn a1 10) <|
        kbIf (kbIn a1 10) <|
        some (kbW (kbW (kbW (kbW (kbW x2 4 a1.toNatClampNeg a2) 5 a1.toNatClampNeg x3) 6 a1.toNatClampNeg a3) 7 a1.toNatClampNeg a4) 3 4 (((kbW (kbW (kbW (kbW x2 4 a1.toNatClampNeg a2) 5 a1.toNatClampNeg x3) 6 a1.toNatClampNeg a3) 7 a1.toNatClampNeg a4).1 3 4) + 1))
      else
        jn_WO_insert_3_21 n μ
theorem sp_WO_insert_3 {l : Launch} (n : Nat) (a1 : Int32) (a2 : Int32) (a3 : Int32) (a4 : Int32) (μ : kbM)  {x : kbM} (h : f_WO_insert_3 n a1 a2 a3 a4 μ = some x) : kbS l MX10_insert 2 [.ref 3, .int a1, .int a2, .int a3, .int a4] μ (kbQe none x) := by
  refine kb_enter 1 rfl rfl ?_
  suffices H : ∀ (Q : kbQt) (P : kbM → Prop), (∀ z : kbM, P z → Q none z) → kbG (f_WO_insert_3 n a1 a2 a3 a4 μ) P → kbR l MX10_insert 2 Q 0 [some (.ref 3), some (.int a1), some (.int a2), some (.int a3), some (.int a4), none] [] μ from H _ (fun z => z = x) (fun z e => by subst e; exact ⟨rfl, rfl⟩) ⟨x, h, rfl⟩
  clear h
  intro Q P hr h
  unfold f_WO_insert_3 at h
  refine r_aload_n dX10_insert_0 rfl ?_
  refine r_getI flX10_24 sh3 rfl dX10_insert_1 ?_
  refine r_bipush 10 dX10_insert_4 (by decide) ?_
  refine r_icmp_ge 21 dX10_insert_6 (by decide) (fun hc => ?_) (fun hc => ?_)
  · replace h := kbG_t hc h
    refine r_le [none, none, none, none, none, none] trivial ?_
    exact jnR_WO_insert_3_21 n  μ (hr := hr) h
  · replace h := kbG_f hc h
    refine r_iload_n dX10_insert_9 rfl ?_
    refine r_if_lt 21 dX10_insert_10 (by decide) (fun hc => ?_) (fun hc => ?_)
    · replace h := kbG_t hc h
      refine r_le [none, none, none, none, none, none] trivial ?_
      exact jnR_WO_insert_3_21 n  μ (hr := hr) h
    · replace h := kbG_f hc h
      refine r_iload_n dX10_insert_13 rfl ?_
      refine r_aload_n dX10_insert_14 rfl ?_
      refine r_getI flX10_24 sh3 rfl dX10_insert_15 ?_
      refine r_icmp_le 22 dX10_insert_18 (by decide) (fun hc => ?_) (fun hc => ?_)
      · replace h := kbG_t hc h
        refine r_aload_n dX10_insert_22 rfl ?_
        refine r_getI flX10_24 sh3 rfl dX10_insert_23 ?_
        refine r_istore dX10_insert_26 (Nat.le_of_ble_eq_true rfl) rfl ?_
        refine r_le [some (.ref 3), some (.int a1), some (.int a2), some (.int a3), some (.int a4), some (.int (μ.1 3 4))] ⟨rfl, ⟨rfl, ⟨rfl, ⟨rfl, ⟨rfl, ⟨rfl, trivial⟩⟩⟩⟩⟩⟩ ?_
        obtain ⟨x2, hx0, h⟩ := kbG_bind h
        refine lpR_WO_insert_3_28 n a1 a2 a3 a4 (P := fun z => x2 = z) (hx := fun z e => ?_) n _ _ ⟨_, hx0, rfl⟩
        subst e
        refine r_aload_n dX10_insert_50 rfl ?_
        refine r_getR flX10_9 sh3 rfl dX10_insert_51 ?_
        refine r_iload_n dX10_insert_54 rfl ?_
        refine r_iload_n dX10_insert_55 rfl ?_
        obtain ⟨hin, h⟩ := kbG_if h
        replace hin := kbIn_of hin
        refine q_iast a1.toNatClampNeg rfl sh4 hin dX10_insert_56 ?_
        refine r_aload_n dX10_insert_57 rfl ?_
        refine r_getR flX10_15 sh3 rfl dX10_insert_58 ?_
        refine r_iload_n dX10_insert_61 rfl ?_
        refine r_iload_n dX10_insert_62 rfl ?_
        obtain ⟨x3, hx0, h⟩ := kbG_bind h
        refine r_inv_i csX10_32 (sp_RO_size n a2 (kbW x2 4 a1.toNatClampNeg a2) hx0) rfl rfl (Nat.le_of_ble_eq_true rfl) (Nat.le_of_ble_eq_true rfl) dX10_insert_63 ?_
        obtain ⟨hin, h⟩ := kbG_if h
        replace hin := kbIn_of hin
        refine q_iast a1.toNatClampNeg rfl sh5 hin dX10_insert_66 ?_
        refine r_aload_n dX10_insert_67 rfl ?_
        refine r_getR flX10_18 sh3 rfl dX10_insert_68 ?_
        refine r_iload_n dX10_insert_71 rfl ?_
        refine r_iload_n dX10_insert_72 rfl ?_
        obtain ⟨hin, h⟩ := kbG_if h
        replace hin := kbIn_of hin
        refine q_iast a1.toNatClampNeg rfl sh6 hin dX10_insert_73 ?_
        refine r_aload_n dX10_insert_74 rfl ?_
        refine r_getR flX10_21 sh3 rfl dX10_insert_75 ?_
        refine r_iload_n dX10_insert_78 rfl ?_
        refine r_iload dX10_insert_79 rfl ?_
        obtain ⟨hin, h⟩ := kbG_if h
        replace hin := kbIn_of hin
        refine q_iast a1.toNatClampNeg rfl sh7 hin dX10_insert_81 ?_
        refine r_aload_n dX10_insert_82 rfl ?_
        refine r_dup dX10_insert_83 rfl ?_
        refine r_getI flX10_24 sh3 rfl dX10_insert_84 ?_
        refine r_iconst 1 dX10_insert_87 (by decide) ?_
        refine r_iadd dX10_insert_88 ?_
        refine r_put flX10_24 sh3 rfl rfl rfl dX10_insert_89 ?_
        exact r_vret rfl dX10_insert_92 (hr (kbW (kbW (kbW (kbW (kbW x2 4 a1.toNatClampNeg a2) 5 a1.toNatClampNeg x3) 6 a1.toNatClampNeg a3) 7 a1.toNatClampNeg a4) 3 4 (((kbW (kbW (kbW (kbW x2 4 a1.toNatClampNeg a2) 5 a1.toNatClampNeg x3) 6 a1.toNatClampNeg a3) 7 a1.toNatClampNeg a4).1 3 4) + 1)) (kbG_some h))
      · replace h := kbG_f hc h
        refine r_le [none, none, none, none, none, none] trivial ?_
        exact jnR_WO_insert_3_21 n  μ (hr := hr) h
def f_WO_copyFrom_13_3 (μ : kbM) : Option (kbM) :=
  some (kbW (kbA (kbA (kbA (kbA μ 14 (va_cpy (μ.1 4) (μ.1 14) 0 0 10)) 15 (va_cpy ((kbA μ 14 (va_cpy (μ.1 4) (μ.1 14) 0 0 10)).1 5) ((kbA μ 14 (va_cpy (μ.1 4) (μ.1 14) 0 0 10)).1 15) 0 0 10)) 16 (va_cpy ((kbA (kbA μ 14 (va_cpy (μ.1 4) (μ.1 14) 0 0 10)) 15 (va_cpy ((kbA μ 14 (va_cpy (μ.1 4) (μ.1 14) 0 0 10)).1 5) ((kbA μ 14 (va_cpy (μ.1 4) (μ.1 14) 0 0 10)).1 15) 0 0 10)).1 6) ((kbA (kbA μ 14 (va_cpy (μ.1 4) (μ.1 14) 0 0 10)) 15 (va_cpy ((kbA μ 14 (va_cpy (μ.1 4) (μ.1 14) 0 0 10)).1 5) ((kbA μ 14 (va_cpy (μ.1 4) (μ.1 14) 0 0 10)).1 15) 0 0 10)).1 16) 0 0 10)) 17 (va_cpy ((kbA (kbA (kbA μ 14 (va_cpy (μ.1 4) (μ.1 14) 0 0 10)) 15 (va_cpy ((kbA μ 14 (va_cpy (μ.1 4) (μ.1 14) 0 0 10)).1 5) ((kbA μ 14 (va_cpy (μ.1 4) (μ.1 14) 0 0 10)).1 15) 0 0 10)) 16 (va_cpy ((kbA (kbA μ 14 (va_cpy (μ.1 4) (μ.1 14) 0 0 10)) 15 (va_cpy ((kbA μ 14 (va_cpy (μ.1 4) (μ.1 14) 0 0 10)).1 5) ((kbA μ 14 (va_cpy (μ.1 4) (μ.1 14) 0 0 10)).1 15) 0 0 10)).1 6) ((kbA (kbA μ 14 (va_cpy (μ.1 4) (μ.1 14) 0 0 10)) 15 (va_cpy ((kbA μ 14 (va_cpy (μ.1 4) (μ.1 14) 0 0 10)).1 5) ((kbA μ 14 (va_cpy (μ.1 4) (μ.1 14) 0 0 10)).1 15) 0 0 10)).1 16) 0 0 10)).1 7) ((kbA (kbA (kbA μ 14 (va_cpy (μ.1 4) (μ.1 14) 0 0 10)) 15 (va_cpy ((kbA μ 14 (va_cpy (μ.1 4) (μ.1 14) 0 0 10)).1 5) ((kbA μ 14 (va_cpy (μ.1 4) (μ.1 14) 0 0 10)).1 15) 0 0 10)) 16 (va_cpy ((kbA (kbA μ 14 (va_cpy (μ.1 4) (μ.1 14) 0 0 10)) 15 (va_cpy ((kbA μ 14 (va_cpy (μ.1 4) (μ.1 14) 0 0 10)).1 5) ((kbA μ 14 (va_cpy (μ.1 4) (μ.1 14) 0 0 10)).1 15) 0 0 10)).1 6) ((kbA (kbA μ 14 (va_cpy (μ.1 4) (μ.1 14) 0 0 10)) 15 (va_cpy ((kbA μ 14 (va_cpy (μ.1 4) (μ.1 14) 0 0 10)).1 5) ((kbA μ 14 (va_cpy (μ.1 4) (μ.1 14) 0 0 10)).1 15) 0 0 10)).1 16) 0 0 10)).1 17) 0 0 10)) 13 4 ((kbA (kbA (kbA (kbA μ 14 (va_cpy (μ.1 4) (μ.1 14) 0 0 10)) 15 (va_cpy ((kbA μ 14 (va_cpy (μ.1 4) (μ.1 14) 0 0 10)).1 5) ((kbA μ 14 (va_cpy (μ.1 4) (μ.1 14) 0 0 10)).1 15) 0 0 10)) 16 (va_cpy ((kbA (kbA μ 14 (va_cpy (μ.1 4) (μ.1 14) 0 0 10)) 15 (va_cpy ((kbA μ 14 (va_cpy (μ.1 4) (μ.1 14) 0 0 10)).1 5) ((kbA μ 14 (va_cpy (μ.1 4) (μ.1 14) 0 0 10)).1 15) 0 0 10)).1 6) ((kbA (kbA μ 14 (va_cpy (μ.1 4) (μ.1 14) 0 0 10)) 15 (va_cpy ((kbA μ 14 (va_cpy (μ.1 4) (μ.1 14) 0 0 10)).1 5) ((kbA μ 14 (va_cpy (μ.1 4) (μ.1 14) 0 0 10)).1 15) 0 0 10)).1 16) 0 0 10)) 17 (va_cpy ((kbA (kbA (kbA μ 14 (va_cpy (μ.1 4) (μ.1 14) 0 0 10)) 15 (va_cpy ((kbA μ 14 (va_cpy (μ.1 4) (μ.1 14) 0 0 10)).1 5) ((kbA μ 14 (va_cpy (μ.1 4) (μ.1 14) 0 0 10)).1 15) 0 0 10)) 16 (va_cpy ((kbA (kbA μ 14 (va_cpy (μ.1 4) (μ.1 14) 0 0 10)) 15 (va_cpy ((kbA μ 14 (va_cpy (μ.1 4) (μ.1 14) 0 0 10)).1 5) ((kbA μ 14 (va_cpy (μ.1 4) (μ.1 14) 0 0 10)).1 15) 0 0 10)).1 6) ((kbA (kbA μ 14 (va_cpy (μ.1 4) (μ.1 14) 0 0 10)) 15 (va_cpy ((kbA μ 14 (va_cpy (μ.1 4) (μ.1 14) 0 0 10)).1 5) ((kbA μ 14 (va_cpy (μ.1 4) (μ.1 14) 0 0 10)).1 15) 0 0 10)).1 16) 0 0 10)).1 7) ((kbA (kbA (kbA μ 14 (va_cpy (μ.1 4) (μ.1 14) 0 0 10)) 15 (va_cpy ((kbA μ 14 (va_cpy (μ.1 4) (μ.1 14) 0 0 10)).1 5) ((kbA μ 14 (va_cpy (μ.1 4) (μ.1 14) 0 0 10)).1 15) 0 0 10)) 16 (va_cpy ((kbA (kbA μ 14 (va_cpy (μ.1 4) (μ.1 14) 0 0 10)) 15 (va_cpy ((kbA μ 14 (va_cpy (μ.1 4) (μ.1 14) 0 0 10)).1 5) ((kbA μ 14 (va_cpy (μ.1 4) (μ.1 14) 0 0 10)).1 15) 0 0 10)).1 6) ((kbA (kbA μ 14 (va_cpy (μ.1 4) (μ.1 14) 0 0 10)) 15 (va_cpy ((kbA μ 14 (va_cpy (μ.1 4) (μ.1 14) 0 0 10)).1 5) ((kbA μ 14 (va_cpy (μ.1 4) (μ.1 14) 0 0 10)).1 15) 0 0 10)).1 16) 0 0 10)).1 17) 0 0 10)).1 3 4))
theorem sp_WO_copyFrom_13_3 {l : Launch} (μ : kbM)  {x : kbM} (h : f_WO_copyFrom_13_3 μ = some x) : kbS l MX10_copyFrom 1 [.ref 13, .ref 3] μ (kbQe none x) := by
  refine kb_enter 0 rfl rfl ?_
  suffices H : ∀ (Q : kbQt) (P : kbM → Prop), (∀ z : kbM, P z → Q none z) → kbG (f_WO_copyFrom_13_3 μ) P → kbR l MX10_copyFrom 1 Q 0 [some (.ref 13), some (.ref 3)] [] μ from H _ (fun z => z = x) (fun z e => by subst e; exact ⟨rfl, rfl⟩) ⟨x, h, rfl⟩
  clear h
  intro Q P hr h
  unfold f_WO_copyFrom_13_3 at h
  refine r_aload_n dX10_copyFrom_0 rfl ?_
  refine r_getR flX10_9 sh3 rfl dX10_copyFrom_1 ?_
  refine r_iconst 0 dX10_copyFrom_4 (by decide) ?_
  refine r_aload_n dX10_copyFrom_5 rfl ?_
  refine r_getR flX10_9 sh13 rfl dX10_copyFrom_6 ?_
  refine r_iconst 0 dX10_copyFrom_9 (by decide) ?_
  refine r_bipush 10 dX10_copyFrom_10 (by decide) ?_
  have hcp : kbCp 0 0 10 10 10 = true := by decide
  refine q_copy 0 0 10 (by decide) (by decide) (by decide) mlX10_37 sh4 sh14 hcp (Nat.le_of_ble_eq_true rfl) (Nat.le_of_ble_eq_true rfl) dX10_copyFrom_12 ?_
  refine r_aload_n dX10_copyFrom_15 rfl ?_
  refine r_getR flX10_15 sh3 rfl dX10_copyFrom_16 ?_
  refine r_iconst 0 dX10_copyFrom_19 (by decide) ?_
  refine r_aload_n dX10_copyFrom_20 rfl ?_
  refine r_getR flX10_15 sh13 rfl dX10_copyFrom_21 ?_
  refine r_iconst 0 dX10_copyFrom_24 (by decide) ?_
  refine r_bipush 10 dX10_copyFrom_25 (by decide) ?_
  have hcp : kbCp 0 0 10 10 10 = true := by decide
  refine q_copy 0 0 10 (by decide) (by decide) (by decide) mlX10_37 sh5 sh15 hcp (Nat.le_of_ble_eq_true rfl) (Nat.le_of_ble_eq_true rfl) dX10_copyFrom_27 ?_
  refine r_aload_n dX10_copyFrom_30 rfl ?_
  refine r_getR flX10_18 sh3 rfl dX10_copyFrom_31 ?_
  refine r_iconst 0 dX10_copyFrom_34 (by decide) ?_
  refine r_aload_n dX10_copyFrom_35 rfl ?_
  refine r_getR flX10_18 sh13 rfl dX10_copyFrom_36 ?_
  refine r_iconst 0 dX10_copyFrom_39 (by decide) ?_
  refine r_bipush 10 dX10_copyFrom_40 (by decide) ?_
  have hcp : kbCp 0 0 10 10 10 = true := by decide
  refine q_copy 0 0 10 (by decide) (by decide) (by decide) mlX10_37 sh6 sh16 hcp (Nat.le_of_ble_eq_true rfl) (Nat.le_of_ble_eq_true rfl) dX10_copyFrom_42 ?_
  refine r_aload_n dX10_copyFrom_45 rfl ?_
  refine r_getR flX10_21 sh3 rfl dX10_copyFrom_46 ?_
  refine r_iconst 0 dX10_copyFrom_49 (by decide) ?_
  refine r_aload_n dX10_copyFrom_50 rfl ?_
  refine r_getR flX10_21 sh13 rfl dX10_copyFrom_51 ?_
  refine r_iconst 0 dX10_copyFrom_54 (by decide) ?_
  refine r_bipush 10 dX10_copyFrom_55 (by decide) ?_
  have hcp : kbCp 0 0 10 10 10 = true := by decide
  refine q_copy 0 0 10 (by decide) (by decide) (by decide) mlX10_37 sh7 sh17 hcp (Nat.le_of_ble_eq_true rfl) (Nat.le_of_ble_eq_true rfl) dX10_copyFrom_57 ?_
  refine r_aload_n dX10_copyFrom_60 rfl ?_
  refine r_aload_n dX10_copyFrom_61 rfl ?_
  refine r_getI flX10_24 sh3 rfl dX10_copyFrom_62 ?_
  refine r_put flX10_24 sh13 rfl rfl rfl dX10_copyFrom_65 ?_
  exact r_vret rfl dX10_copyFrom_68 (hr (kbW (kbA (kbA (kbA (kbA μ 14 (va_cpy (μ.1 4) (μ.1 14) 0 0 10)) 15 (va_cpy ((kbA μ 14 (va_cpy (μ.1 4) (μ.1 14) 0 0 10)).1 5) ((kbA μ 14 (va_cpy (μ.1 4) (μ.1 14) 0 0 10)).1 15) 0 0 10)) 16 (va_cpy ((kbA (kbA μ 14 (va_cpy (μ.1 4) (μ.1 14) 0 0 10)) 15 (va_cpy ((kbA μ 14 (va_cpy (μ.1 4) (μ.1 14) 0 0 10)).1 5) ((kbA μ 14 (va_cpy (μ.1 4) (μ.1 14) 0 0 10)).1 15) 0 0 10)).1 6) ((kbA (kbA μ 14 (va_cpy (μ.1 4) (μ.1 14) 0 0 10)) 15 (va_cpy ((kbA μ 14 (va_cpy (μ.1 4) (μ.1 14) 0 0 10)).1 5) ((kbA μ 14 (va_cpy (μ.1 4) (μ.1 14) 0 0 10)).1 15) 0 0 10)).1 16) 0 0 10)) 17 (va_cpy ((kbA (kbA (kbA μ 14 (va_cpy (μ.1 4) (μ.1 14) 0 0 10)) 15 (va_cpy ((kbA μ 14 (va_cpy (μ.1 4) (μ.1 14) 0 0 10)).1 5) ((kbA μ 14 (va_cpy (μ.1 4) (μ.1 14) 0 0 10)).1 15) 0 0 10)) 16 (va_cpy ((kbA (kbA μ 14 (va_cpy (μ.1 4) (μ.1 14) 0 0 10)) 15 (va_cpy ((kbA μ 14 (va_cpy (μ.1 4) (μ.1 14) 0 0 10)).1 5) ((kbA μ 14 (va_cpy (μ.1 4) (μ.1 14) 0 0 10)).1 15) 0 0 10)).1 6) ((kbA (kbA μ 14 (va_cpy (μ.1 4) (μ.1 14) 0 0 10)) 15 (va_cpy ((kbA μ 14 (va_cpy (μ.1 4) (μ.1 14) 0 0 10)).1 5) ((kbA μ 14 (va_cpy (μ.1 4) (μ.1 14) 0 0 10)).1 15) 0 0 10)).1 16) 0 0 10)).1 7) ((kbA (kbA (kbA μ 14 (va_cpy (μ.1 4) (μ.1 14) 0 0 10)) 15 (va_cpy ((kbA μ 14 (va_cpy (μ.1 4) (μ.1 14) 0 0 10)).1 5) ((kbA μ 14 (va_cpy (μ.1 4) (μ.1 14) 0 0 10)).1 15) 0 0 10)) 16 (va_cpy ((kbA (kbA μ 14 (va_cpy (μ.1 4) (μ.1 14) 0 0 10)) 15 (va_cpy ((kbA μ 14 (va_cpy (μ.1 4) (μ.1 14) 0 0 10)).1 5) ((kbA μ 14 (va_cpy (μ.1 4) (μ.1 14) 0 0 10)).1 15) 0 0 10)).1 6) ((kbA (kbA μ 14 (va_cpy (μ.1 4) (μ.1 14) 0 0 10)) 15 (va_cpy ((kbA μ 14 (va_cpy (μ.1 4) (μ.1 14) 0 0 10)).1 5) ((kbA μ 14 (va_cpy (μ.1 4) (μ.1 14) 0 0 10)).1 15) 0 0 10)).1 16) 0 0 10)).1 17) 0 0 10)) 13 4 ((kbA (kbA (kbA (kbA μ 14 (va_cpy (μ.1 4) (μ.1 14) 0 0 10)) 15 (va_cpy ((kbA μ 14 (va_cpy (μ.1 4) (μ.1 14) 0 0 10)).1 5) ((kbA μ 14 (va_cpy (μ.1 4) (μ.1 14) 0 0 10)).1 15) 0 0 10)) 16 (va_cpy ((kbA (kbA μ 14 (va_cpy (μ.1 4) (μ.1 14) 0 0 10)) 15 (va_cpy ((kbA μ 14 (va_cpy (μ.1 4) (μ.1 14) 0 0 10)).1 5) ((kbA μ 14 (va_cpy (μ.1 4) (μ.1 14) 0 0 10)).1 15) 0 0 10)).1 6) ((kbA (kbA μ 14 (va_cpy (μ.1 4) (μ.1 14) 0 0 10)) 15 (va_cpy ((kbA μ 14 (va_cpy (μ.1 4) (μ.1 14) 0 0 10)).1 5) ((kbA μ 14 (va_cpy (μ.1 4) (μ.1 14) 0 0 10)).1 15) 0 0 10)).1 16) 0 0 10)) 17 (va_cpy ((kbA (kbA (kbA μ 14 (va_cpy (μ.1 4) (μ.1 14) 0 0 10)) 15 (va_cpy ((kbA μ 14 (va_cpy (μ.1 4) (μ.1 14) 0 0 10)).1 5) ((kbA μ 14 (va_cpy (μ.1 4) (μ.1 14) 0 0 10)).1 15) 0 0 10)) 16 (va_cpy ((kbA (kbA μ 14 (va_cpy (μ.1 4) (μ.1 14) 0 0 10)) 15 (va_cpy ((kbA μ 14 (va_cpy (μ.1 4) (μ.1 14) 0 0 10)).1 5) ((kbA μ 14 (va_cpy (μ.1 4) (μ.1 14) 0 0 10)).1 15) 0 0 10)).1 6) ((kbA (kbA μ 14 (va_cpy (μ.1 4) (μ.1 14) 0 0 10)) 15 (va_cpy ((kbA μ 14 (va_cpy (μ.1 4) (μ.1 14) 0 0 10)).1 5) ((kbA μ 14 (va_cpy (μ.1 4) (μ.1 14) 0 0 10)).1 15) 0 0 10)).1 16) 0 0 10)).1 7) ((kbA (kbA (kbA μ 14 (va_cpy (μ.1 4) (μ.1 14) 0 0 10)) 15 (va_cpy ((kbA μ 14 (va_cpy (μ.1 4) (μ.1 14) 0 0 10)).1 5) ((kbA μ 14 (va_cpy (μ.1 4) (μ.1 14) 0 0 10)).1 15) 0 0 10)) 16 (va_cpy ((kbA (kbA μ 14 (va_cpy (μ.1 4) (μ.1 14) 0 0 10)) 15 (va_cpy ((kbA μ 14 (va_cpy (μ.1 4) (μ.1 14) 0 0 10)).1 5) ((kbA μ 14 (va_cpy (μ.1 4) (μ.1 14) 0 0 10)).1 15) 0 0 10)).1 6) ((kbA (kbA μ 14 (va_cpy (μ.1 4) (μ.1 14) 0 0 10)) 15 (va_cpy ((kbA μ 14 (va_cpy (μ.1 4) (μ.1 14) 0 0 10)).1 5) ((kbA μ 14 (va_cpy (μ.1 4) (μ.1 14) 0 0 10)).1 15) 0 0 10)).1 16) 0 0 10)).1 17) 0 0 10)).1 3 4)) (kbG_some h))
def f_WO_copyFrom_13_23 (μ : kbM) : Option (kbM) :=
  some (kbW (kbA (kbA (kbA (kbA μ 14 (va_cpy (μ.1 24) (μ.1 14) 0 0 10)) 15 (va_cpy ((kbA μ 14 (va_cpy (μ.1 24) (μ.1 14) 0 0 10)).1 25) ((kbA μ 14 (va_cpy (μ.1 24) (μ.1 14) 0 0 10)).1 15) 0 0 10)) 16 (va_cpy ((kbA (kbA μ 14 (va_cpy (μ.1 24) (μ.1 14) 0 0 10)) 15 (va_cpy ((kbA μ 14 (va_cpy (μ.1 24) (μ.1 14) 0 0 10)).1 25) ((kbA μ 14 (va_cpy (μ.1 24) (μ.1 14) 0 0 10)).1 15) 0 0 10)).1 26) ((kbA (kbA μ 14 (va_cpy (μ.1 24) (μ.1 14) 0 0 10)) 15 (va_cpy ((kbA μ 14 (va_cpy (μ.1 24) (μ.1 14) 0 0 10)).1 25) ((kbA μ 14 (va_cpy (μ.1 24) (μ.1 14) 0 0 10)).1 15) 0 0 10)).1 16) 0 0 10)) 17 (va_cpy ((kbA (kbA (kbA μ 14 (va_cpy (μ.1 24) (μ.1 14) 0 0 10)) 15 (va_cpy ((kbA μ 14 (va_cpy (μ.1 24) (μ.1 14) 0 0 10)).1 25) ((kbA μ 14 (va_cpy (μ.1 24) (μ.1 14) 0 0 10)).1 15) 0 0 10)) 16 (va_cpy ((kbA (kbA μ 14 (va_cpy (μ.1 24) (μ.1 14) 0 0 10)) 15 (va_cpy ((kbA μ 14 (va_cpy (μ.1 24) (μ.1 14) 0 0 10)).1 25) ((kbA μ 14 (va_cpy (μ.1 24) (μ.1 14) 0 0 10)).1 15) 0 0 10)).1 26) ((kbA (kbA μ 14 (va_cpy (μ.1 24) (μ.1 14) 0 0 10)) 15 (va_cpy ((kbA μ 14 (va_cpy (μ.1 24) (μ.1 14) 0 0 10)).1 25) ((kbA μ 14 (va_cpy (μ.1 24) (μ.1 14) 0 0 10)).1 15) 0 0 10)).1 16) 0 0 10)).1 27) ((kbA (kbA (kbA μ 14 (va_cpy (μ.1 24) (μ.1 14) 0 0 10)) 15 (va_cpy ((kbA μ 14 (va_cpy (μ.1 24) (μ.1 14) 0 0 10)).1 25) ((kbA μ 14 (va_cpy (μ.1 24) (μ.1 14) 0 0 10)).1 15) 0 0 10)) 16 (va_cpy ((kbA (kbA μ 14 (va_cpy (μ.1 24) (μ.1 14) 0 0 10)) 15 (va_cpy ((kbA μ 14 (va_cpy (μ.1 24) (μ.1 14) 0 0 10)).1 25) ((kbA μ 14 (va_cpy (μ.1 24) (μ.1 14) 0 0 10)).1 15) 0 0 10)).1 26) ((kbA (kbA μ 14 (va_cpy (μ.1 24) (μ.1 14) 0 0 10)) 15 (va_cpy ((kbA μ 14 (va_cpy (μ.1 24) (μ.1 14) 0 0 10)).1 25) ((kbA μ 14 (va_cpy (μ.1 24) (μ.1 14) 0 0 10)).1 15) 0 0 10)).1 16) 0 0 10)).1 17) 0 0 10)) 13 4 ((kbA (kbA (kbA (kbA μ 14 (va_cpy (μ.1 24) (μ.1 14) 0 0 10)) 15 (va_cpy ((kbA μ 14 (va_cpy (μ.1 24) (μ.1 14) 0 0 10)).1 25) ((kbA μ 14 (va_cpy (μ.1 24) (μ.1 14) 0 0 10)).1 15) 0 0 10)) 16 (va_cpy ((kbA (kbA μ 14 (va_cpy (μ.1 24) (μ.1 14) 0 0 10)) 15 (va_cpy ((kbA μ 14 (va_cpy (μ.1 24) (μ.1 14) 0 0 10)).1 25) ((kbA μ 14 (va_cpy (μ.1 24) (μ.1 14) 0 0 10)).1 15) 0 0 10)).1 26) ((kbA (kbA μ 14 (va_cpy (μ.1 24) (μ.1 14) 0 0 10)) 15 (va_cpy ((kbA μ 14 (va_cpy (μ.1 24) (μ.1 14) 0 0 10)).1 25) ((kbA μ 14 (va_cpy (μ.1 24) (μ.1 14) 0 0 10)).1 15) 0 0 10)).1 16) 0 0 10)) 17 (va_cpy ((kbA (kbA (kbA μ 14 (va_cpy (μ.1 24) (μ.1 14) 0 0 10)) 15 (va_cpy ((kbA μ 14 (va_cpy (μ.1 24) (μ.1 14) 0 0 10)).1 25) ((kbA μ 14 (va_cpy (μ.1 24) (μ.1 14) 0 0 10)).1 15) 0 0 10)) 16 (va_cpy ((kbA (kbA μ 14 (va_cpy (μ.1 24) (μ.1 14) 0 0 10)) 15 (va_cpy ((kbA μ 14 (va_cpy (μ.1 24) (μ.1 14) 0 0 10)).1 25) ((kbA μ 14 (va_cpy (μ.1 24) (μ.1 14) 0 0 10)).1 15) 0 0 10)).1 26) ((kbA (kbA μ 14 (va_cpy (μ.1 24) (μ.1 14) 0 0 10)) 15 (va_cpy ((kbA μ 14 (va_cpy (μ.1 24) (μ.1 14) 0 0 10)).1 25) ((kbA μ 14 (va_cpy (μ.1 24) (μ.1 14) 0 0 10)).1 15) 0 0 10)).1 16) 0 0 10)).1 27) ((kbA (kbA (kbA μ 14 (va_cpy (μ.1 24) (μ.1 14) 0 0 10)) 15 (va_cpy ((kbA μ 14 (va_cpy (μ.1 24) (μ.1 14) 0 0 10)).1 25) ((kbA μ 14 (va_cpy (μ.1 24) (μ.1 14) 0 0 10)).1 15) 0 0 10)) 16 (va_cpy ((kbA (kbA μ 14 (va_cpy (μ.1 24) (μ.1 14) 0 0 10)) 15 (va_cpy ((kbA μ 14 (va_cpy (μ.1 24) (μ.1 14) 0 0 10)).1 25) ((kbA μ 14 (va_cpy (μ.1 24) (μ.1 14) 0 0 10)).1 15) 0 0 10)).1 26) ((kbA (kbA μ 14 (va_cpy (μ.1 24) (μ.1 14) 0 0 10)) 15 (va_cpy ((kbA μ 14 (va_cpy (μ.1 24) (μ.1 14) 0 0 10)).1 25) ((kbA μ 14 (va_cpy (μ.1 24) (μ.1 14) 0 0 10)).1 15) 0 0 10)).1 16) 0 0 10)).1 17) 0 0 10)).1 23 4))
theorem sp_WO_copyFrom_13_23 {l : Launch} (μ : kbM)  {x : kbM} (h : f_WO_copyFrom_13_23 μ = some x) : kbS l MX10_copyFrom 1 [.ref 13, .ref 23] μ (kbQe none x) := by
  refine kb_enter 0 rfl rfl ?_
  suffices H : ∀ (Q : kbQt) (P : kbM → Prop), (∀ z : kbM, P z → Q none z) → kbG (f_WO_copyFrom_13_23 μ) P → kbR l MX10_copyFrom 1 Q 0 [some (.ref 13), some (.ref 23)] [] μ from H _ (fun z => z = x) (fun z e => by subst e; exact ⟨rfl, rfl⟩) ⟨x, h, rfl⟩
  clear h
  intro Q P hr h
  unfold f_WO_copyFrom_13_23 at h
  refine r_aload_n dX10_copyFrom_0 rfl ?_
  refine r_getR flX10_9 sh23 rfl dX10_copyFrom_1 ?_
  refine r_iconst 0 dX10_copyFrom_4 (by decide) ?_
  refine r_aload_n dX10_copyFrom_5 rfl ?_
  refine r_getR flX10_9 sh13 rfl dX10_copyFrom_6 ?_
  refine r_iconst 0 dX10_copyFrom_9 (by decide) ?_
  refine r_bipush 10 dX10_copyFrom_10 (by decide) ?_
  have hcp : kbCp 0 0 10 10 10 = true := by decide
  refine q_copy 0 0 10 (by decide) (by decide) (by decide) mlX10_37 sh24 sh14 hcp (Nat.le_of_ble_eq_true rfl) (Nat.le_of_ble_eq_true rfl) dX10_copyFrom_12 ?_
  refine r_aload_n dX10_copyFrom_15 rfl ?_
  refine r_getR flX10_15 sh23 rfl dX10_copyFrom_16 ?_
  refine r_iconst 0 dX10_copyFrom_19 (by decide) ?_
  refine r_aload_n dX10_copyFrom_20 rfl ?_
  refine r_getR flX10_15 sh13 rfl dX10_copyFrom_21 ?_
  refine r_iconst 0 dX10_copyFrom_24 (by decide) ?_
  refine r_bipush 10 dX10_copyFrom_25 (by decide) ?_
  have hcp : kbCp 0 0 10 10 10 = true := by decide
  refine q_copy 0 0 10 (by decide) (by decide) (by decide) mlX10_37 sh25 sh15 hcp (Nat.le_of_ble_eq_true rfl) (Nat.le_of_ble_eq_true rfl) dX10_copyFrom_27 ?_
  refine r_aload_n dX10_copyFrom_30 rfl ?_
  refine r_getR flX10_18 sh23 rfl dX10_copyFrom_31 ?_
  refine r_iconst 0 dX10_copyFrom_34 (by decide) ?_
  refine r_aload_n dX10_copyFrom_35 rfl ?_
  refine r_getR flX10_18 sh13 rfl dX10_copyFrom_36 ?_
  refine r_iconst 0 dX10_copyFrom_39 (by decide) ?_
  refine r_bipush 10 dX10_copyFrom_40 (by decide) ?_
  have hcp : kbCp 0 0 10 10 10 = true := by decide
  refine q_copy 0 0 10 (by decide) (by decide) (by decide) mlX10_37 sh26 sh16 hcp (Nat.le_of_ble_eq_true rfl) (Nat.le_of_ble_eq_true rfl) dX10_copyFrom_42 ?_
  refine r_aload_n dX10_copyFrom_45 rfl ?_
  refine r_getR flX10_21 sh23 rfl dX10_copyFrom_46 ?_
  refine r_iconst 0 dX10_copyFrom_49 (by decide) ?_
  refine r_aload_n dX10_copyFrom_50 rfl ?_
  refine r_getR flX10_21 sh13 rfl dX10_copyFrom_51 ?_
  refine r_iconst 0 dX10_copyFrom_54 (by decide) ?_
  refine r_bipush 10 dX10_copyFrom_55 (by decide) ?_
  have hcp : kbCp 0 0 10 10 10 = true := by decide
  refine q_copy 0 0 10 (by decide) (by decide) (by decide) mlX10_37 sh27 sh17 hcp (Nat.le_of_ble_eq_true rfl) (Nat.le_of_ble_eq_true rfl) dX10_copyFrom_57 ?_
  refine r_aload_n dX10_copyFrom_60 rfl ?_
  refine r_aload_n dX10_copyFrom_61 rfl ?_
  refine r_getI flX10_24 sh23 rfl dX10_copyFrom_62 ?_
  refine r_put flX10_24 sh13 rfl rfl rfl dX10_copyFrom_65 ?_
  exact r_vret rfl dX10_copyFrom_68 (hr (kbW (kbA (kbA (kbA (kbA μ 14 (va_cpy (μ.1 24) (μ.1 14) 0 0 10)) 15 (va_cpy ((kbA μ 14 (va_cpy (μ.1 24) (μ.1 14) 0 0 10)).1 25) ((kbA μ 14 (va_cpy (μ.1 24) (μ.1 14) 0 0 10)).1 15) 0 0 10)) 16 (va_cpy ((kbA (kbA μ 14 (va_cpy (μ.1 24) (μ.1 14) 0 0 10)) 15 (va_cpy ((kbA μ 14 (va_cpy (μ.1 24) (μ.1 14) 0 0 10)).1 25) ((kbA μ 14 (va_cpy (μ.1 24) (μ.1 14) 0 0 10)).1 15) 0 0 10)).1 26) ((kbA (kbA μ 14 (va_cpy (μ.1 24) (μ.1 14) 0 0 10)) 15 (va_cpy ((kbA μ 14 (va_cpy (μ.1 24) (μ.1 14) 0 0 10)).1 25) ((kbA μ 14 (va_cpy (μ.1 24) (μ.1 14) 0 0 10)).1 15) 0 0 10)).1 16) 0 0 10)) 17 (va_cpy ((kbA (kbA (kbA μ 14 (va_cpy (μ.1 24) (μ.1 14) 0 0 10)) 15 (va_cpy ((kbA μ 14 (va_cpy (μ.1 24) (μ.1 14) 0 0 10)).1 25) ((kbA μ 14 (va_cpy (μ.1 24) (μ.1 14) 0 0 10)).1 15) 0 0 10)) 16 (va_cpy ((kbA (kbA μ 14 (va_cpy (μ.1 24) (μ.1 14) 0 0 10)) 15 (va_cpy ((kbA μ 14 (va_cpy (μ.1 24) (μ.1 14) 0 0 10)).1 25) ((kbA μ 14 (va_cpy (μ.1 24) (μ.1 14) 0 0 10)).1 15) 0 0 10)).1 26) ((kbA (kbA μ 14 (va_cpy (μ.1 24) (μ.1 14) 0 0 10)) 15 (va_cpy ((kbA μ 14 (va_cpy (μ.1 24) (μ.1 14) 0 0 10)).1 25) ((kbA μ 14 (va_cpy (μ.1 24) (μ.1 14) 0 0 10)).1 15) 0 0 10)).1 16) 0 0 10)).1 27) ((kbA (kbA (kbA μ 14 (va_cpy (μ.1 24) (μ.1 14) 0 0 10)) 15 (va_cpy ((kbA μ 14 (va_cpy (μ.1 24) (μ.1 14) 0 0 10)).1 25) ((kbA μ 14 (va_cpy (μ.1 24) (μ.1 14) 0 0 10)).1 15) 0 0 10)) 16 (va_cpy ((kbA (kbA μ 14 (va_cpy (μ.1 24) (μ.1 14) 0 0 10)) 15 (va_cpy ((kbA μ 14 (va_cpy (μ.1 24) (μ.1 14) 0 0 10)).1 25) ((kbA μ 14 (va_cpy (μ.1 24) (μ.1 14) 0 0 10)).1 15) 0 0 10)).1 26) ((kbA (kbA μ 14 (va_cpy (μ.1 24) (μ.1 14) 0 0 10)) 15 (va_cpy ((kbA μ 14 (va_cpy (μ.1 24) (μ.1 14) 0 0 10)).1 25) ((kbA μ 14 (va_cpy (μ.1 24) (μ.1 14) 0 0 10)).1 15) 0 0 10)).1 16) 0 0 10)).1 17) 0 0 10)) 13 4 ((kbA (kbA (kbA (kbA μ 14 (va_cpy (μ.1 24) (μ.1 14) 0 0 10)) 15 (va_cpy ((kbA μ 14 (va_cpy (μ.1 24) (μ.1 14) 0 0 10)).1 25) ((kbA μ 14 (va_cpy (μ.1 24) (μ.1 14) 0 0 10)).1 15) 0 0 10)) 16 (va_cpy ((kbA (kbA μ 14 (va_cpy (μ.1 24) (μ.1 14) 0 0 10)) 15 (va_cpy ((kbA μ 14 (va_cpy (μ.1 24) (μ.1 14) 0 0 10)).1 25) ((kbA μ 14 (va_cpy (μ.1 24) (μ.1 14) 0 0 10)).1 15) 0 0 10)).1 26) ((kbA (kbA μ 14 (va_cpy (μ.1 24) (μ.1 14) 0 0 10)) 15 (va_cpy ((kbA μ 14 (va_cpy (μ.1 24) (μ.1 14) 0 0 10)).1 25) ((kbA μ 14 (va_cpy (μ.1 24) (μ.1 14) 0 0 10)).1 15) 0 0 10)).1 16) 0 0 10)) 17 (va_cpy ((kbA (kbA (kbA μ 14 (va_cpy (μ.1 24) (μ.1 14) 0 0 10)) 15 (va_cpy ((kbA μ 14 (va_cpy (μ.1 24) (μ.1 14) 0 0 10)).1 25) ((kbA μ 14 (va_cpy (μ.1 24) (μ.1 14) 0 0 10)).1 15) 0 0 10)) 16 (va_cpy ((kbA (kbA μ 14 (va_cpy (μ.1 24) (μ.1 14) 0 0 10)) 15 (va_cpy ((kbA μ 14 (va_cpy (μ.1 24) (μ.1 14) 0 0 10)).1 25) ((kbA μ 14 (va_cpy (μ.1 24) (μ.1 14) 0 0 10)).1 15) 0 0 10)).1 26) ((kbA (kbA μ 14 (va_cpy (μ.1 24) (μ.1 14) 0 0 10)) 15 (va_cpy ((kbA μ 14 (va_cpy (μ.1 24) (μ.1 14) 0 0 10)).1 25) ((kbA μ 14 (va_cpy (μ.1 24) (μ.1 14) 0 0 10)).1 15) 0 0 10)).1 16) 0 0 10)).1 27) ((kbA (kbA (kbA μ 14 (va_cpy (μ.1 24) (μ.1 14) 0 0 10)) 15 (va_cpy ((kbA μ 14 (va_cpy (μ.1 24) (μ.1 14) 0 0 10)).1 25) ((kbA μ 14 (va_cpy (μ.1 24) (μ.1 14) 0 0 10)).1 15) 0 0 10)) 16 (va_cpy ((kbA (kbA μ 14 (va_cpy (μ.1 24) (μ.1 14) 0 0 10)) 15 (va_cpy ((kbA μ 14 (va_cpy (μ.1 24) (μ.1 14) 0 0 10)).1 25) ((kbA μ 14 (va_cpy (μ.1 24) (μ.1 14) 0 0 10)).1 15) 0 0 10)).1 26) ((kbA (kbA μ 14 (va_cpy (μ.1 24) (μ.1 14) 0 0 10)) 15 (va_cpy ((kbA μ 14 (va_cpy (μ.1 24) (μ.1 14) 0 0 10)).1 25) ((kbA μ 14 (va_cpy (μ.1 24) (μ.1 14) 0 0 10)).1 15) 0 0 10)).1 16) 0 0 10)).1 17) 0 0 10)).1 23 4)) (kbG_some h))
def f_WO_copyFrom_23_13 (μ : kbM) : Option (kbM) :=
  some (kbW (kbA (kbA (kbA (kbA μ 24 (va_cpy (μ.1 14) (μ.1 24) 0 0 10)) 25 (va_cpy ((kbA μ 24 (va_cpy (μ.1 14) (μ.1 24) 0 0 10)).1 15) ((kbA μ 24 (va_cpy (μ.1 14) (μ.1 24) 0 0 10)).1 25) 0 0 10)) 26 (va_cpy ((kbA (kbA μ 24 (va_cpy (μ.1 14) (μ.1 24) 0 0 10)) 25 (va_cpy ((kbA μ 24 (va_cpy (μ.1 14) (μ.1 24) 0 0 10)).1 15) ((kbA μ 24 (va_cpy (μ.1 14) (μ.1 24) 0 0 10)).1 25) 0 0 10)).1 16) ((kbA (kbA μ 24 (va_cpy (μ.1 14) (μ.1 24) 0 0 10)) 25 (va_cpy ((kbA μ 24 (va_cpy (μ.1 14) (μ.1 24) 0 0 10)).1 15) ((kbA μ 24 (va_cpy (μ.1 14) (μ.1 24) 0 0 10)).1 25) 0 0 10)).1 26) 0 0 10)) 27 (va_cpy ((kbA (kbA (kbA μ 24 (va_cpy (μ.1 14) (μ.1 24) 0 0 10)) 25 (va_cpy ((kbA μ 24 (va_cpy (μ.1 14) (μ.1 24) 0 0 10)).1 15) ((kbA μ 24 (va_cpy (μ.1 14) (μ.1 24) 0 0 10)).1 25) 0 0 10)) 26 (va_cpy ((kbA (kbA μ 24 (va_cpy (μ.1 14) (μ.1 24) 0 0 10)) 25 (va_cpy ((kbA μ 24 (va_cpy (μ.1 14) (μ.1 24) 0 0 10)).1 15) ((kbA μ 24 (va_cpy (μ.1 14) (μ.1 24) 0 0 10)).1 25) 0 0 10)).1 16) ((kbA (kbA μ 24 (va_cpy (μ.1 14) (μ.1 24) 0 0 10)) 25 (va_cpy ((kbA μ 24 (va_cpy (μ.1 14) (μ.1 24) 0 0 10)).1 15) ((kbA μ 24 (va_cpy (μ.1 14) (μ.1 24) 0 0 10)).1 25) 0 0 10)).1 26) 0 0 10)).1 17) ((kbA (kbA (kbA μ 24 (va_cpy (μ.1 14) (μ.1 24) 0 0 10)) 25 (va_cpy ((kbA μ 24 (va_cpy (μ.1 14) (μ.1 24) 0 0 10)).1 15) ((kbA μ 24 (va_cpy (μ.1 14) (μ.1 24) 0 0 10)).1 25) 0 0 10)) 26 (va_cpy ((kbA (kbA μ 24 (va_cpy (μ.1 14) (μ.1 24) 0 0 10)) 25 (va_cpy ((kbA μ 24 (va_cpy (μ.1 14) (μ.1 24) 0 0 10)).1 15) ((kbA μ 24 (va_cpy (μ.1 14) (μ.1 24) 0 0 10)).1 25) 0 0 10)).1 16) ((kbA (kbA μ 24 (va_cpy (μ.1 14) (μ.1 24) 0 0 10)) 25 (va_cpy ((kbA μ 24 (va_cpy (μ.1 14) (μ.1 24) 0 0 10)).1 15) ((kbA μ 24 (va_cpy (μ.1 14) (μ.1 24) 0 0 10)).1 25) 0 0 10)).1 26) 0 0 10)).1 27) 0 0 10)) 23 4 ((kbA (kbA (kbA (kbA μ 24 (va_cpy (μ.1 14) (μ.1 24) 0 0 10)) 25 (va_cpy ((kbA μ 24 (va_cpy (μ.1 14) (μ.1 24) 0 0 10)).1 15) ((kbA μ 24 (va_cpy (μ.1 14) (μ.1 24) 0 0 10)).1 25) 0 0 10)) 26 (va_cpy ((kbA (kbA μ 24 (va_cpy (μ.1 14) (μ.1 24) 0 0 10)) 25 (va_cpy ((kbA μ 24 (va_cpy (μ.1 14) (μ.1 24) 0 0 10)).1 15) ((kbA μ 24 (va_cpy (μ.1 14) (μ.1 24) 0 0 10)).1 25) 0 0 10)).1 16) ((kbA (kbA μ 24 (va_cpy (μ.1 14) (μ.1 24) 0 0 10)) 25 (va_cpy ((kbA μ 24 (va_cpy (μ.1 14) (μ.1 24) 0 0 10)).1 15) ((kbA μ 24 (va_cpy (μ.1 14) (μ.1 24) 0 0 10)).1 25) 0 0 10)).1 26) 0 0 10)) 27 (va_cpy ((kbA (kbA (kbA μ 24 (va_cpy (μ.1 14) (μ.1 24) 0 0 10)) 25 (va_cpy ((kbA μ 24 (va_cpy (μ.1 14) (μ.1 24) 0 0 10)).1 15) ((kbA μ 24 (va_cpy (μ.1 14) (μ.1 24) 0 0 10)).1 25) 0 0 10)) 26 (va_cpy ((kbA (kbA μ 24 (va_cpy (μ.1 14) (μ.1 24) 0 0 10)) 25 (va_cpy ((kbA μ 24 (va_cpy (μ.1 14) (μ.1 24) 0 0 10)).1 15) ((kbA μ 24 (va_cpy (μ.1 14) (μ.1 24) 0 0 10)).1 25) 0 0 10)).1 16) ((kbA (kbA μ 24 (va_cpy (μ.1 14) (μ.1 24) 0 0 10)) 25 (va_cpy ((kbA μ 24 (va_cpy (μ.1 14) (μ.1 24) 0 0 10)).1 15) ((kbA μ 24 (va_cpy (μ.1 14) (μ.1 24) 0 0 10)).1 25) 0 0 10)).1 26) 0 0 10)).1 17) ((kbA (kbA (kbA μ 24 (va_cpy (μ.1 14) (μ.1 24) 0 0 10)) 25 (va_cpy ((kbA μ 24 (va_cpy (μ.1 14) (μ.1 24) 0 0 10)).1 15) ((kbA μ 24 (va_cpy (μ.1 14) (μ.1 24) 0 0 10)).1 25) 0 0 10)) 26 (va_cpy ((kbA (kbA μ 24 (va_cpy (μ.1 14) (μ.1 24) 0 0 10)) 25 (va_cpy ((kbA μ 24 (va_cpy (μ.1 14) (μ.1 24) 0 0 10)).1 15) ((kbA μ 24 (va_cpy (μ.1 14) (μ.1 24) 0 0 10)).1 25) 0 0 10)).1 16) ((kbA (kbA μ 24 (va_cpy (μ.1 14) (μ.1 24) 0 0 10)) 25 (va_cpy ((kbA μ 24 (va_cpy (μ.1 14) (μ.1 24) 0 0 10)).1 15) ((kbA μ 24 (va_cpy (μ.1 14) (μ.1 24) 0 0 10)).1 25) 0 0 10)).1 26) 0 0 10)).1 27) 0 0 10)).1 13 4))
theorem sp_WO_copyFrom_23_13 {l : Launch} (μ : kbM)  {x : kbM} (h : f_WO_copyFrom_23_13 μ = some x) : kbS l MX10_copyFrom 1 [.ref 23, .ref 13] μ (kbQe none x) := by
  refine kb_enter 0 rfl rfl ?_
  suffices H : ∀ (Q : kbQt) (P : kbM → Prop), (∀ z : kbM, P z → Q none z) → kbG (f_WO_copyFrom_23_13 μ) P → kbR l MX10_copyFrom 1 Q 0 [some (.ref 23), some (.ref 13)] [] μ from H _ (fun z => z = x) (fun z e => by subst e; exact ⟨rfl, rfl⟩) ⟨x, h, rfl⟩
  clear h
  intro Q P hr h
  unfold f_WO_copyFrom_23_13 at h
  refine r_aload_n dX10_copyFrom_0 rfl ?_
  refine r_getR flX10_9 sh13 rfl dX10_copyFrom_1 ?_
  refine r_iconst 0 dX10_copyFrom_4 (by decide) ?_
  refine r_aload_n dX10_copyFrom_5 rfl ?_
  refine r_getR flX10_9 sh23 rfl dX10_copyFrom_6 ?_
  refine r_iconst 0 dX10_copyFrom_9 (by decide) ?_
  refine r_bipush 10 dX10_copyFrom_10 (by decide) ?_
  have hcp : kbCp 0 0 10 10 10 = true := by decide
  refine q_copy 0 0 10 (by decide) (by decide) (by decide) mlX10_37 sh14 sh24 hcp (Nat.le_of_ble_eq_true rfl) (Nat.le_of_ble_eq_true rfl) dX10_copyFrom_12 ?_
  refine r_aload_n dX10_copyFrom_15 rfl ?_
  refine r_getR flX10_15 sh13 rfl dX10_copyFrom_16 ?_
  refine r_iconst 0 dX10_copyFrom_19 (by decide) ?_
  refine r_aload_n dX10_copyFrom_20 rfl ?_
  refine r_getR flX10_15 sh23 rfl dX10_copyFrom_21 ?_
  refine r_iconst 0 dX10_copyFrom_24 (by decide) ?_
  refine r_bipush 10 dX10_copyFrom_25 (by decide) ?_
  have hcp : kbCp 0 0 10 10 10 = true := by decide
  refine q_copy 0 0 10 (by decide) (by decide) (by decide) mlX10_37 sh15 sh25 hcp (Nat.le_of_ble_eq_true rfl) (Nat.le_of_ble_eq_true rfl) dX10_copyFrom_27 ?_
  refine r_aload_n dX10_copyFrom_30 rfl ?_
  refine r_getR flX10_18 sh13 rfl dX10_copyFrom_31 ?_
  refine r_iconst 0 dX10_copyFrom_34 (by decide) ?_
  refine r_aload_n dX10_copyFrom_35 rfl ?_
  refine r_getR flX10_18 sh23 rfl dX10_copyFrom_36 ?_
  refine r_iconst 0 dX10_copyFrom_39 (by decide) ?_
  refine r_bipush 10 dX10_copyFrom_40 (by decide) ?_
  have hcp : kbCp 0 0 10 10 10 = true := by decide
  refine q_copy 0 0 10 (by decide) (by decide) (by decide) mlX10_37 sh16 sh26 hcp (Nat.le_of_ble_eq_true rfl) (Nat.le_of_ble_eq_true rfl) dX10_copyFrom_42 ?_
  refine r_aload_n dX10_copyFrom_45 rfl ?_
  refine r_getR flX10_21 sh13 rfl dX10_copyFrom_46 ?_
  refine r_iconst 0 dX10_copyFrom_49 (by decide) ?_
  refine r_aload_n dX10_copyFrom_50 rfl ?_
  refine r_getR flX10_21 sh23 rfl dX10_copyFrom_51 ?_
  refine r_iconst 0 dX10_copyFrom_54 (by decide) ?_
  refine r_bipush 10 dX10_copyFrom_55 (by decide) ?_
  have hcp : kbCp 0 0 10 10 10 = true := by decide
  refine q_copy 0 0 10 (by decide) (by decide) (by decide) mlX10_37 sh17 sh27 hcp (Nat.le_of_ble_eq_true rfl) (Nat.le_of_ble_eq_true rfl) dX10_copyFrom_57 ?_
  refine r_aload_n dX10_copyFrom_60 rfl ?_
  refine r_aload_n dX10_copyFrom_61 rfl ?_
  refine r_getI flX10_24 sh13 rfl dX10_copyFrom_62 ?_
  refine r_put flX10_24 sh23 rfl rfl rfl dX10_copyFrom_65 ?_
  exact r_vret rfl dX10_copyFrom_68 (hr (kbW (kbA (kbA (kbA (kbA μ 24 (va_cpy (μ.1 14) (μ.1 24) 0 0 10)) 25 (va_cpy ((kbA μ 24 (va_cpy (μ.1 14) (μ.1 24) 0 0 10)).1 15) ((kbA μ 24 (va_cpy (μ.1 14) (μ.1 24) 0 0 10)).1 25) 0 0 10)) 26 (va_cpy ((kbA (kbA μ 24 (va_cpy (μ.1 14) (μ.1 24) 0 0 10)) 25 (va_cpy ((kbA μ 24 (va_cpy (μ.1 14) (μ.1 24) 0 0 10)).1 15) ((kbA μ 24 (va_cpy (μ.1 14) (μ.1 24) 0 0 10)).1 25) 0 0 10)).1 16) ((kbA (kbA μ 24 (va_cpy (μ.1 14) (μ.1 24) 0 0 10)) 25 (va_cpy ((kbA μ 24 (va_cpy (μ.1 14) (μ.1 24) 0 0 10)).1 15) ((kbA μ 24 (va_cpy (μ.1 14) (μ.1 24) 0 0 10)).1 25) 0 0 10)).1 26) 0 0 10)) 27 (va_cpy ((kbA (kbA (kbA μ 24 (va_cpy (μ.1 14) (μ.1 24) 0 0 10)) 25 (va_cpy ((kbA μ 24 (va_cpy (μ.1 14) (μ.1 24) 0 0 10)).1 15) ((kbA μ 24 (va_cpy (μ.1 14) (μ.1 24) 0 0 10)).1 25) 0 0 10)) 26 (va_cpy ((kbA (kbA μ 24 (va_cpy (μ.1 14) (μ.1 24) 0 0 10)) 25 (va_cpy ((kbA μ 24 (va_cpy (μ.1 14) (μ.1 24) 0 0 10)).1 15) ((kbA μ 24 (va_cpy (μ.1 14) (μ.1 24) 0 0 10)).1 25) 0 0 10)).1 16) ((kbA (kbA μ 24 (va_cpy (μ.1 14) (μ.1 24) 0 0 10)) 25 (va_cpy ((kbA μ 24 (va_cpy (μ.1 14) (μ.1 24) 0 0 10)).1 15) ((kbA μ 24 (va_cpy (μ.1 14) (μ.1 24) 0 0 10)).1 25) 0 0 10)).1 26) 0 0 10)).1 17) ((kbA (kbA (kbA μ 24 (va_cpy (μ.1 14) (μ.1 24) 0 0 10)) 25 (va_cpy ((kbA μ 24 (va_cpy (μ.1 14) (μ.1 24) 0 0 10)).1 15) ((kbA μ 24 (va_cpy (μ.1 14) (μ.1 24) 0 0 10)).1 25) 0 0 10)) 26 (va_cpy ((kbA (kbA μ 24 (va_cpy (μ.1 14) (μ.1 24) 0 0 10)) 25 (va_cpy ((kbA μ 24 (va_cpy (μ.1 14) (μ.1 24) 0 0 10)).1 15) ((kbA μ 24 (va_cpy (μ.1 14) (μ.1 24) 0 0 10)).1 25) 0 0 10)).1 16) ((kbA (kbA μ 24 (va_cpy (μ.1 14) (μ.1 24) 0 0 10)) 25 (va_cpy ((kbA μ 24 (va_cpy (μ.1 14) (μ.1 24) 0 0 10)).1 15) ((kbA μ 24 (va_cpy (μ.1 14) (μ.1 24) 0 0 10)).1 25) 0 0 10)).1 26) 0 0 10)).1 27) 0 0 10)) 23 4 ((kbA (kbA (kbA (kbA μ 24 (va_cpy (μ.1 14) (μ.1 24) 0 0 10)) 25 (va_cpy ((kbA μ 24 (va_cpy (μ.1 14) (μ.1 24) 0 0 10)).1 15) ((kbA μ 24 (va_cpy (μ.1 14) (μ.1 24) 0 0 10)).1 25) 0 0 10)) 26 (va_cpy ((kbA (kbA μ 24 (va_cpy (μ.1 14) (μ.1 24) 0 0 10)) 25 (va_cpy ((kbA μ 24 (va_cpy (μ.1 14) (μ.1 24) 0 0 10)).1 15) ((kbA μ 24 (va_cpy (μ.1 14) (μ.1 24) 0 0 10)).1 25) 0 0 10)).1 16) ((kbA (kbA μ 24 (va_cpy (μ.1 14) (μ.1 24) 0 0 10)) 25 (va_cpy ((kbA μ 24 (va_cpy (μ.1 14) (μ.1 24) 0 0 10)).1 15) ((kbA μ 24 (va_cpy (μ.1 14) (μ.1 24) 0 0 10)).1 25) 0 0 10)).1 26) 0 0 10)) 27 (va_cpy ((kbA (kbA (kbA μ 24 (va_cpy (μ.1 14) (μ.1 24) 0 0 10)) 25 (va_cpy ((kbA μ 24 (va_cpy (μ.1 14) (μ.1 24) 0 0 10)).1 15) ((kbA μ 24 (va_cpy (μ.1 14) (μ.1 24) 0 0 10)).1 25) 0 0 10)) 26 (va_cpy ((kbA (kbA μ 24 (va_cpy (μ.1 14) (μ.1 24) 0 0 10)) 25 (va_cpy ((kbA μ 24 (va_cpy (μ.1 14) (μ.1 24) 0 0 10)).1 15) ((kbA μ 24 (va_cpy (μ.1 14) (μ.1 24) 0 0 10)).1 25) 0 0 10)).1 16) ((kbA (kbA μ 24 (va_cpy (μ.1 14) (μ.1 24) 0 0 10)) 25 (va_cpy ((kbA μ 24 (va_cpy (μ.1 14) (μ.1 24) 0 0 10)).1 15) ((kbA μ 24 (va_cpy (μ.1 14) (μ.1 24) 0 0 10)).1 25) 0 0 10)).1 26) 0 0 10)).1 17) ((kbA (kbA (kbA μ 24 (va_cpy (μ.1 14) (μ.1 24) 0 0 10)) 25 (va_cpy ((kbA μ 24 (va_cpy (μ.1 14) (μ.1 24) 0 0 10)).1 15) ((kbA μ 24 (va_cpy (μ.1 14) (μ.1 24) 0 0 10)).1 25) 0 0 10)) 26 (va_cpy ((kbA (kbA μ 24 (va_cpy (μ.1 14) (μ.1 24) 0 0 10)) 25 (va_cpy ((kbA μ 24 (va_cpy (μ.1 14) (μ.1 24) 0 0 10)).1 15) ((kbA μ 24 (va_cpy (μ.1 14) (μ.1 24) 0 0 10)).1 25) 0 0 10)).1 16) ((kbA (kbA μ 24 (va_cpy (μ.1 14) (μ.1 24) 0 0 10)) 25 (va_cpy ((kbA μ 24 (va_cpy (μ.1 14) (μ.1 24) 0 0 10)).1 15) ((kbA μ 24 (va_cpy (μ.1 14) (μ.1 24) 0 0 10)).1 25) 0 0 10)).1 26) 0 0 10)).1 27) 0 0 10)).1 13 4)) (kbG_some h))
def f_WO_move_13 (a1 : Int32) (a2 : Int32) (μ : kbM) : Option (kbM) :=
  kbIf (kbIn a1 10) <|
  kbIf (kbIn a2 10) <|
  kbIf (kbIn a1 10) <|
  kbIf (kbIn a2 10) <|
  kbIf (kbIn a1 10) <|
  kbIf (kbIn a2 10) <|
  kbIf (kbIn a1 10) <|
  kbIf (kbIn a2 10) <|
  some (kbW (kbW (kbW (kbW μ 14 a2.toNatClampNeg (μ.1 14 a1.toNatClampNeg)) 15 a2.toNatClampNeg ((kbW μ 14 a2.toNatClampNeg (μ.1 14 a1.toNatClampNeg)).1 15 a1.toNatClampNeg)) 16 a2.toNatClampNeg ((kbW (kbW μ 14 a2.toNatClampNeg (μ.1 14 a1.toNatClampNeg)) 15 a2.toNatClampNeg ((kbW μ 14 a2.toNatClampNeg (μ.1 14 a1.toNatClampNeg)).1 15 a1.toNatClampNeg)).1 16 a1.toNatClampNeg)) 17 a2.toNatClampNeg ((kbW (kbW (kbW μ 14 a2.toNatClampNeg (μ.1 14 a1.toNatClampNeg)) 15 a2.toNatClampNeg ((kbW μ 14 a2.toNatClampNeg (μ.1 14 a1.toNatClampNeg)).1 15 a1.toNatClampNeg)) 16 a2.toNatClampNeg ((kbW (kbW μ 14 a2.toNatClampNeg (μ.1 14 a1.toNatClampNeg)) 15 a2.toNatClampNeg ((kbW μ 14 a2.toNatClampNeg (μ.1 14 a1.toNatClampNeg)).1 15 a1.toNatClampNeg)).1 16 a1.toNatClampNeg)).1 17 a1.toNatClampNeg))
theorem sp_WO_move_13 {l : Launch} (a1 : Int32) (a2 : Int32) (μ : kbM)  {x : kbM} (h : f_WO_move_13 a1 a2 μ = some x) : kbS l MX10_move 1 [.ref 13, .int a1, .int a2] μ (kbQe none x) := by
  refine kb_enter 0 rfl rfl ?_
  suffices H : ∀ (Q : kbQt) (P : kbM → Prop), (∀ z : kbM, P z → Q none z) → kbG (f_WO_move_13 a1 a2 μ) P → kbR l MX10_move 1 Q 0 [some (.ref 13), some (.int a1), some (.int a2)] [] μ from H _ (fun z => z = x) (fun z e => by subst e; exact ⟨rfl, rfl⟩) ⟨x, h, rfl⟩
  clear h
  intro Q P hr h
  unfold f_WO_move_13 at h
  refine r_aload_n dX10_move_0 rfl ?_
  refine r_getR flX10_9 sh13 rfl dX10_move_1 ?_
  refine r_iload_n dX10_move_4 rfl ?_
  refine r_aload_n dX10_move_5 rfl ?_
  refine r_getR flX10_9 sh13 rfl dX10_move_6 ?_
  refine r_iload_n dX10_move_9 rfl ?_
  obtain ⟨hin, h⟩ := kbG_if h
  replace hin := kbIn_of hin
  refine q_iald a1.toNatClampNeg rfl sh14 hin dX10_move_10 ?_
  obtain ⟨hin, h⟩ := kbG_if h
  replace hin := kbIn_of hin
  refine q_iast a2.toNatClampNeg rfl sh14 hin dX10_move_11 ?_
  refine r_aload_n dX10_move_12 rfl ?_
  refine r_getR flX10_15 sh13 rfl dX10_move_13 ?_
  refine r_iload_n dX10_move_16 rfl ?_
  refine r_aload_n dX10_move_17 rfl ?_
  refine r_getR flX10_15 sh13 rfl dX10_move_18 ?_
  refine r_iload_n dX10_move_21 rfl ?_
  obtain ⟨hin, h⟩ := kbG_if h
  replace hin := kbIn_of hin
  refine q_iald a1.toNatClampNeg rfl sh15 hin dX10_move_22 ?_
  obtain ⟨hin, h⟩ := kbG_if h
  replace hin := kbIn_of hin
  refine q_iast a2.toNatClampNeg rfl sh15 hin dX10_move_23 ?_
  refine r_aload_n dX10_move_24 rfl ?_
  refine r_getR flX10_18 sh13 rfl dX10_move_25 ?_
  refine r_iload_n dX10_move_28 rfl ?_
  refine r_aload_n dX10_move_29 rfl ?_
  refine r_getR flX10_18 sh13 rfl dX10_move_30 ?_
  refine r_iload_n dX10_move_33 rfl ?_
  obtain ⟨hin, h⟩ := kbG_if h
  replace hin := kbIn_of hin
  refine q_iald a1.toNatClampNeg rfl sh16 hin dX10_move_34 ?_
  obtain ⟨hin, h⟩ := kbG_if h
  replace hin := kbIn_of hin
  refine q_iast a2.toNatClampNeg rfl sh16 hin dX10_move_35 ?_
  refine r_aload_n dX10_move_36 rfl ?_
  refine r_getR flX10_21 sh13 rfl dX10_move_37 ?_
  refine r_iload_n dX10_move_40 rfl ?_
  refine r_aload_n dX10_move_41 rfl ?_
  refine r_getR flX10_21 sh13 rfl dX10_move_42 ?_
  refine r_iload_n dX10_move_45 rfl ?_
  obtain ⟨hin, h⟩ := kbG_if h
  replace hin := kbIn_of hin
  refine q_iald a1.toNatClampNeg rfl sh17 hin dX10_move_46 ?_
  obtain ⟨hin, h⟩ := kbG_if h
  replace hin := kbIn_of hin
  refine q_iast a2.toNatClampNeg rfl sh17 hin dX10_move_47 ?_
  exact r_vret rfl dX10_move_48 (hr (kbW (kbW (kbW (kbW μ 14 a2.toNatClampNeg (μ.1 14 a1.toNatClampNeg)) 15 a2.toNatClampNeg ((kbW μ 14 a2.toNatClampNeg (μ.1 14 a1.toNatClampNeg)).1 15 a1.toNatClampNeg)) 16 a2.toNatClampNeg ((kbW (kbW μ 14 a2.toNatClampNeg (μ.1 14 a1.toNatClampNeg)) 15 a2.toNatClampNeg ((kbW μ 14 a2.toNatClampNeg (μ.1 14 a1.toNatClampNeg)).1 15 a1.toNatClampNeg)).1 16 a1.toNatClampNeg)) 17 a2.toNatClampNeg ((kbW (kbW (kbW μ 14 a2.toNatClampNeg (μ.1 14 a1.toNatClampNeg)) 15 a2.toNatClampNeg ((kbW μ 14 a2.toNatClampNeg (μ.1 14 a1.toNatClampNeg)).1 15 a1.toNatClampNeg)) 16 a2.toNatClampNeg ((kbW (kbW μ 14 a2.toNatClampNeg (μ.1 14 a1.toNatClampNeg)) 15 a2.toNatClampNeg ((kbW μ 14 a2.toNatClampNeg (μ.1 14 a1.toNatClampNeg)).1 15 a1.toNatClampNeg)).1 16 a1.toNatClampNeg)).1 17 a1.toNatClampNeg)) (kbG_some h))
def jn_WO_remove_13_12 (n : Nat) (μ : kbM) : Option (kbM) :=
  some μ
theorem jnR_WO_remove_13_12 {l : Launch} (n : Nat)    (μ : kbM) {Q : kbQt} {P : kbM → Prop} (hr : ∀ z : kbM, P z → Q none z) (h : kbG (jn_WO_remove_13_12 n μ) P) : kbR l MX10_remove 2 Q 12 [none, none, none] [] μ := by
  unfold jn_WO_remove_13_12 at h
  exact r_vret rfl dX10_remove_12 (hr μ (kbG_some h))
def lp_WO_remove_13_17 (n : Nat) : Nat → Int32 → kbM → Option (kbM)
  | 0, _, _ => none
  | k + 1, v2, μ =>
    if (μ.1 13 4) ≤ v2 then
      some μ
    else
      (f_WO_move_13 v2 (v2 - 1) μ).bind fun x1 =>
      lp_WO_remove_13_17 n k (v2 + 1) x1
theorem lpR_WO_remove_13_17 {l : Launch} (n : Nat)   {Q : kbQt} {P : kbM → Prop} (hx : ∀ z : kbM, P (z) → kbR l MX10_remove 2 Q 39 [some (.ref 13), none, none] [] z) : ∀ (k : Nat) (v2 : Int32) (μ : kbM), kbG (lp_WO_remove_13_17 n k v2 μ) P → kbR l MX10_remove 2 Q 17 [some (.ref 13), none, some (.int v2)] [] μ := by
  intro k
  induction k with
  | zero => intro v2 μ h; exact absurd h kbG_none
  | succ k ih =>
    intro v2 μ h
    unfold lp_WO_remove_13_17 at h
    refine r_iload_n dX10_remove_17 rfl ?_
    refine r_aload_n dX10_remove_18 rfl ?_
    refine r_getI flX10_24 sh13 rfl dX10_remove_19 ?_
    refine r_icmp_ge 39 dX10_remove_22 (by decide) (fun hc => ?_) (fun hc => ?_)
    · replace h := kbG_t hc h
      refine r_le [some (.ref 13), none, none] ⟨rfl, trivial⟩ ?_
      exact hx μ (kbG_some h)
    · replace h := kbG_f hc h
      refine r_aload_n dX10_remove_25 rfl ?_
      refine r_iload_n dX10_remove_26 rfl ?_
      refine r_iload_n dX10_remove_27 rfl ?_
      refine r_iconst 1 dX10_remove_28 (by decide) ?_
      refine r_isub dX10_remove_29 ?_
      obtain ⟨x1, hx0, h⟩ := kbG_bind h
      refine r_invV_v cvX10_28 sh13 rfl (sp_WO_move_13 v2 (v2 - 1) μ hx0) rfl rfl (Nat.le_of_ble_eq_true rfl) (Nat.le_of_ble_eq_true rfl) dX10_remove_30 ?_
      refine r_iinc 1 dX10_remove_33 rfl (by decide) (Nat.le_of_ble_eq_true rfl) rfl ?_
      refine r_goto 17 dX10_remove_36 (by decide) ?_
      refine r_le [some (.ref 13), none, some (.int (v2 + 1))] ⟨rfl, ⟨rfl, trivial⟩⟩ ?_
      exact ih (v2 + 1) x1 h
def f_WO_remove_13 (n : Nat) (a1 : Int32) (μ : kbM) : Option (kbM) :=
  if a1 < 0 then
    jn_WO_remove_13_12 n μ
  else
    if a1 < (μ.1 13 4) then
      (lp_WO_remove_13_17 n n (a1 + 1) μ).bind fun x2 =>
      some (kbW x2 13 4 ((x2.1 13 4) - 1))
    else
      jn_WO_remove_13_12 n μ
theorem sp_WO_remove_13 {l : Launch} (n : Nat) (a1 : Int32) (μ : kbM)  {x : kbM} (h : f_WO_remove_13 n a1 μ = some x) : kbS l MX10_remove 2 [.ref 13, .int a1] μ (kbQe none x) := by
  refine kb_enter 1 rfl rfl ?_
  suffices H : ∀ (Q : kbQt) (P : kbM → Prop), (∀ z : kbM, P z → Q none z) → kbG (f_WO_remove_13 n a1 μ) P → kbR l MX10_remove 2 Q 0 [some (.ref 13), some (.int a1), none] [] μ from H _ (fun z => z = x) (fun z e => by subst e; exact ⟨rfl, rfl⟩) ⟨x, h, rfl⟩
  clear h
  intro Q P hr h
  unfold f_WO_remove_13 at h
  refine r_iload_n dX10_remove_0 rfl ?_
  refine r_if_lt 12 dX10_remove_1 (by decide) (fun hc => ?_) (fun hc => ?_)
  · replace h := kbG_t hc h
    refine r_le [none, none, none] trivial ?_
    exact jnR_WO_remove_13_12 n  μ (hr := hr) h
  · replace h := kbG_f hc h
    refine r_iload_n dX10_remove_4 rfl ?_
    refine r_aload_n dX10_remove_5 rfl ?_
    refine r_getI flX10_24 sh13 rfl dX10_remove_6 ?_
    refine r_icmp_lt 13 dX10_remove_9 (by decide) (fun hc => ?_) (fun hc => ?_)
    · replace h := kbG_t hc h
      refine r_iload_n dX10_remove_13 rfl ?_
      refine r_iconst 1 dX10_remove_14 (by decide) ?_
      refine r_iadd dX10_remove_15 ?_
      refine r_istore_n dX10_remove_16 (Nat.le_of_ble_eq_true rfl) rfl ?_
      refine r_le [some (.ref 13), none, some (.int (a1 + 1))] ⟨rfl, ⟨rfl, trivial⟩⟩ ?_
      obtain ⟨x2, hx0, h⟩ := kbG_bind h
      refine lpR_WO_remove_13_17 n (P := fun z => x2 = z) (hx := fun z e => ?_) n _ _ ⟨_, hx0, rfl⟩
      subst e
      refine r_aload_n dX10_remove_39 rfl ?_
      refine r_dup dX10_remove_40 rfl ?_
      refine r_getI flX10_24 sh13 rfl dX10_remove_41 ?_
      refine r_iconst 1 dX10_remove_44 (by decide) ?_
      refine r_isub dX10_remove_45 ?_
      refine r_put flX10_24 sh13 rfl rfl rfl dX10_remove_46 ?_
      exact r_vret rfl dX10_remove_49 (hr (kbW x2 13 4 ((x2.1 13 4) - 1)) (kbG_some h))
    · replace h := kbG_f hc h
      refine r_le [none, none, none] trivial ?_
      exact jnR_WO_remove_13_12 n  μ (hr := hr) h
def jn_WO_insert_13_21 (n : Nat) (μ : kbM) : Option (kbM) :=
  some μ
theorem jnR_WO_insert_13_21 {l : Launch} (n : Nat)    (μ : kbM) {Q : kbQt} {P : kbM → Prop} (hr : ∀ z : kbM, P z → Q none z) (h : kbG (jn_WO_insert_13_21 n μ) P) : kbR l MX10_insert 2 Q 21 [none, none, none, none, none, none] [] μ := by
  unfold jn_WO_insert_13_21 at h
  exact r_vret rfl dX10_insert_21 (hr μ (kbG_some h))
def lp_WO_insert_13_28 (n : Nat) (v1 : Int32) (v2 : Int32) (v3 : Int32) (v4 : Int32) : Nat → Int32 → kbM → Option (kbM)
  | 0, _, _ => none
  | k + 1, v5, μ =>
    if v5 ≤ v1 then
      some μ
    else
      (f_WO_move_13 (v5 - 1) v5 μ).bind fun x1 =>
      lp_WO_insert_13_28 n v1 v2 v3 v4 k (v5 + (-1)) x1
theorem lpR_WO_insert_13_28 {l : Launch} (n : Nat) (v1 : Int32) (v2 : Int32) (v3 : Int32) (v4 : Int32)  {Q : kbQt} {P : kbM → Prop} (hx : ∀ z : kbM, P (z) → kbR l MX10_insert 2 Q 50 [some (.ref 13), some (.int v1), some (.int v2), some (.int v3), some (.int v4), none] [] z) : ∀ (k : Nat) (v5 : Int32) (μ : kbM), kbG (lp_WO_insert_13_28 n v1 v2 v3 v4 k v5 μ) P → kbR l MX10_insert 2 Q 28 [some (.ref 13), some (.int v1), some (.int v2), some (.int v3), some (.int v4), some (.int v5)] [] μ := by
  intro k
  induction k with
  | zero => intro v5 μ h; exact absurd h kbG_none
  | succ k ih =>
    intro v5 μ h
    unfold lp_WO_insert_13_28 at h
    refine r_iload dX10_insert_28 rfl ?_
    refine r_iload_n dX10_insert_30 rfl ?_
    refine r_icmp_le 50 dX10_insert_31 (by decide) (fun hc => ?_) (fun hc => ?_)
    · replace h := kbG_t hc h
      refine r_le [some (.ref 13), some (.int v1), some (.int v2), some (.int v3), some (.int v4), none] ⟨rfl, ⟨rfl, ⟨rfl, ⟨rfl, ⟨rfl, trivial⟩⟩⟩⟩⟩ ?_
      exact hx μ (kbG_some h)
    · replace h := kbG_f hc h
      refine r_aload_n dX10_insert_34 rfl ?_
      refine r_iload dX10_insert_35 rfl ?_
      refine r_iconst 1 dX10_insert_37 (by decide) ?_
      refine r_isub dX10_insert_38 ?_
      refine r_iload dX10_insert_39 rfl ?_
      obtain ⟨x1, hx0, h⟩ := kbG_bind h
      refine r_invV_v cvX10_28 sh13 rfl (sp_WO_move_13 (v5 - 1) v5 μ hx0) rfl rfl (Nat.le_of_ble_eq_true rfl) (Nat.le_of_ble_eq_true rfl) dX10_insert_41 ?_
      refine r_iinc (-1) dX10_insert_44 rfl (by decide) (Nat.le_of_ble_eq_true rfl) rfl ?_
      refine r_goto 28 dX10_insert_47 (by decide) ?_
      refine r_le [some (.ref 13), some (.int v1), some (.int v2), some (.int v3), some (.int v4), some (.int (v5 + (-1)))] ⟨rfl, ⟨rfl, ⟨rfl, ⟨rfl, ⟨rfl, ⟨rfl, trivial⟩⟩⟩⟩⟩⟩ ?_
      exact ih (v5 + (-1)) x1 h
def f_WO_insert_13 (n : Nat) (a1 : Int32) (a2 : Int32) (a3 : Int32) (a4 : Int32) (μ : kbM) : Option (kbM) :=
  if 10 ≤ (μ.1 13 4) then
    jn_WO_insert_13_21 n μ
  else
    if a1 < 0 then
      jn_WO_insert_13_21 n μ
    else
      if a1 ≤ (μ.1 13 4) then
        (lp_WO_insert_13_28 n a1 a2 a3 a4 n (μ.1 13 4) μ).bind fun x2 =>
        kbIf (kbIn a1 10) <|
        (f_RO_size n a2).bind fun x3 =>
        kbIf (kbIn a1 10) <|
        kbIf (kbIn a1 10) <|
        kbIf (kbIn a1 10) <|
        some (kbW (kbW (kbW (kbW (kbW x2 14 a1.toNatClampNeg a2) 15 a1.toNatClampNeg x3) 16 a1.toNatClampNeg a3) 17 a1.toNatClampNeg a4) 13 4 (((kbW (kbW (kbW (kbW x2 14 a1.toNatClampNeg a2) 15 a1.toNatClampNeg x3) 16 a1.toNatClampNeg a3) 17 a1.toNatClampNeg a4).1 13 4) + 1))
      else
        jn_WO_insert_13_21 n μ
theorem sp_WO_insert_13 {l : Launch} (n : Nat) (a1 : Int32) (a2 : Int32) (a3 : Int32) (a4 : Int32) (μ : kbM)  {x : kbM} (h : f_WO_insert_13 n a1 a2 a3 a4 μ = some x) : kbS l MX10_insert 2 [.ref 13, .int a1, .int a2, .int a3, .int a4] μ (kbQe none x) := by
  refine kb_enter 1 rfl rfl ?_
  suffices H : ∀ (Q : kbQt) (P : kbM → Prop), (∀ z : kbM, P z → Q none z) → kbG (f_WO_insert_13 n a1 a2 a3 a4 μ) P → kbR l MX10_insert 2 Q 0 [some (.ref 13), some (.int a1), some (.int a2), some (.int a3), some (.int a4), none] [] μ from H _ (fun z => z = x) (fun z e => by subst e; exact ⟨rfl, rfl⟩) ⟨x, h, rfl⟩
  clear h
  intro Q P hr h
  unfold f_WO_insert_13 at h
  refine r_aload_n dX10_insert_0 rfl ?_
  refine r_getI flX10_24 sh13 rfl dX10_insert_1 ?_
  refine r_bipush 10 dX10_insert_4 (by decide) ?_
  refine r_icmp_ge 21 dX10_insert_6 (by decide) (fun hc => ?_) (fun hc => ?_)
  · replace h := kbG_t hc h
    refine r_le [none, none, none, none, none, none] trivial ?_
    exact jnR_WO_insert_13_21 n  μ (hr := hr) h
  · replace h := kbG_f hc h
    refine r_iload_n dX10_insert_9 rfl ?_
    refine r_if_lt 21 dX10_insert_10 (by decide) (fun hc => ?_) (fun hc => ?_)
    · replace h := kbG_t hc h
      refine r_le [none, none, none, none, none, none] trivial ?_
      exact jnR_WO_insert_13_21 n  μ (hr := hr) h
    · replace h := kbG_f hc h
      refine r_iload_n dX10_insert_13 rfl ?_
      refine r_aload_n dX10_insert_14 rfl ?_
      refine r_getI flX10_24 sh13 rfl dX10_insert_15 ?_
      refine r_icmp_le 22 dX10_insert_18 (by decide) (fun hc => ?_) (fun hc => ?_)
      · replace h := kbG_t hc h
        refine r_aload_n dX10_insert_22 rfl ?_
        refine r_getI flX10_24 sh13 rfl dX10_insert_23 ?_
        refine r_istore dX10_insert_26 (Nat.le_of_ble_eq_true rfl) rfl ?_
        refine r_le [some (.ref 13), some (.int a1), some (.int a2), some (.int a3), some (.int a4), some (.int (μ.1 13 4))] ⟨rfl, ⟨rfl, ⟨rfl, ⟨rfl, ⟨rfl, ⟨rfl, trivial⟩⟩⟩⟩⟩⟩ ?_
        obtain ⟨x2, hx0, h⟩ := kbG_bind h
        refine lpR_WO_insert_13_28 n a1 a2 a3 a4 (P := fun z => x2 = z) (hx := fun z e => ?_) n _ _ ⟨_, hx0, rfl⟩
        subst e
        refine r_aload_n dX10_insert_50 rfl ?_
        refine r_getR flX10_9 sh13 rfl dX10_insert_51 ?_
        refine r_iload_n dX10_insert_54 rfl ?_
        refine r_iload_n dX10_insert_55 rfl ?_
        obtain ⟨hin, h⟩ := kbG_if h
        replace hin := kbIn_of hin
        refine q_iast a1.toNatClampNeg rfl sh14 hin dX10_insert_56 ?_
        refine r_aload_n dX10_insert_57 rfl ?_
        refine r_getR flX10_15 sh13 rfl dX10_insert_58 ?_
        refine r_iload_n dX10_insert_61 rfl ?_
        refine r_iload_n dX10_insert_62 rfl ?_
        obtain ⟨x3, hx0, h⟩ := kbG_bind h
        refine r_inv_i csX10_32 (sp_RO_size n a2 (kbW x2 14 a1.toNatClampNeg a2) hx0) rfl rfl (Nat.le_of_ble_eq_true rfl) (Nat.le_of_ble_eq_true rfl) dX10_insert_63 ?_
        obtain ⟨hin, h⟩ := kbG_if h
        replace hin := kbIn_of hin
        refine q_iast a1.toNatClampNeg rfl sh15 hin dX10_insert_66 ?_
        refine r_aload_n dX10_insert_67 rfl ?_
        refine r_getR flX10_18 sh13 rfl dX10_insert_68 ?_
        refine r_iload_n dX10_insert_71 rfl ?_
        refine r_iload_n dX10_insert_72 rfl ?_
        obtain ⟨hin, h⟩ := kbG_if h
        replace hin := kbIn_of hin
        refine q_iast a1.toNatClampNeg rfl sh16 hin dX10_insert_73 ?_
        refine r_aload_n dX10_insert_74 rfl ?_
        refine r_getR flX10_21 sh13 rfl dX10_insert_75 ?_
        refine r_iload_n dX10_insert_78 rfl ?_
        refine r_iload dX10_insert_79 rfl ?_
        obtain ⟨hin, h⟩ := kbG_if h
        replace hin := kbIn_of hin
        refine q_iast a1.toNatClampNeg rfl sh17 hin dX10_insert_81 ?_
        refine r_aload_n dX10_insert_82 rfl ?_
        refine r_dup dX10_insert_83 rfl ?_
        refine r_getI flX10_24 sh13 rfl dX10_insert_84 ?_
        refine r_iconst 1 dX10_insert_87 (by decide) ?_
        refine r_iadd dX10_insert_88 ?_
        refine r_put flX10_24 sh13 rfl rfl rfl dX10_insert_89 ?_
        exact r_vret rfl dX10_insert_92 (hr (kbW (kbW (kbW (kbW (kbW x2 14 a1.toNatClampNeg a2) 15 a1.toNatClampNeg x3) 16 a1.toNatClampNeg a3) 17 a1.toNatClampNeg a4) 13 4 (((kbW (kbW (kbW (kbW x2 14 a1.toNatClampNeg a2) 15 a1.toNatClampNeg x3) 16 a1.toNatClampNeg a3) 17 a1.toNatClampNeg a4).1 13 4) + 1)) (kbG_some h))
      · replace h := kbG_f hc h
        refine r_le [none, none, none, none, none, none] trivial ?_
        exact jnR_WO_insert_13_21 n  μ (hr := hr) h
def jn_WO_change_13_26 (μ : kbM) : Option (kbM) :=
  some μ
theorem jnR_WO_change_13_26 {l : Launch}    (μ : kbM) {Q : kbQt} {P : kbM → Prop} (hr : ∀ z : kbM, P z → Q none z) (h : kbG (jn_WO_change_13_26 μ) P) : kbR l MX10_change 1 Q 26 [none, none, none, none] [] μ := by
  unfold jn_WO_change_13_26 at h
  exact r_vret rfl dX10_change_26 (hr μ (kbG_some h))
def f_WO_change_13 (a1 : Int32) (a2 : Int32) (a3 : Int32) (μ : kbM) : Option (kbM) :=
  if a1 < 0 then
    jn_WO_change_13_26 μ
  else
    if (μ.1 13 4) ≤ a1 then
      jn_WO_change_13_26 μ
    else
      kbIf (kbIn a1 10) <|
      kbIf (kbIn a1 10) <|
      jn_WO_change_13_26 (kbW (kbW μ 16 a1.toNatClampNeg a2) 17 a1.toNatClampNeg a3)
theorem sp_WO_change_13 {l : Launch} (a1 : Int32) (a2 : Int32) (a3 : Int32) (μ : kbM)  {x : kbM} (h : f_WO_change_13 a1 a2 a3 μ = some x) : kbS l MX10_change 1 [.ref 13, .int a1, .int a2, .int a3] μ (kbQe none x) := by
  refine kb_enter 0 rfl rfl ?_
  suffices H : ∀ (Q : kbQt) (P : kbM → Prop), (∀ z : kbM, P z → Q none z) → kbG (f_WO_change_13 a1 a2 a3 μ) P → kbR l MX10_change 1 Q 0 [some (.ref 13), some (.int a1), some (.int a2), some (.int a3)] [] μ from H _ (fun z => z = x) (fun z e => by subst e; exact ⟨rfl, rfl⟩) ⟨x, h, rfl⟩
  clear h
  intro Q P hr h
  unfold f_WO_change_13 at h
  refine r_iload_n dX10_change_0 rfl ?_
  refine r_if_lt 26 dX10_change_1 (by decide) (fun hc => ?_) (fun hc => ?_)
  · replace h := kbG_t hc h
    refine r_le [none, none, none, none] trivial ?_
    exact jnR_WO_change_13_26  μ (hr := hr) h
  · replace h := kbG_f hc h
    refine r_iload_n dX10_change_4 rfl ?_
    refine r_aload_n dX10_change_5 rfl ?_
    refine r_getI flX10_24 sh13 rfl dX10_change_6 ?_
    refine r_icmp_ge 26 dX10_change_9 (by decide) (fun hc => ?_) (fun hc => ?_)
    · replace h := kbG_t hc h
      refine r_le [none, none, none, none] trivial ?_
      exact jnR_WO_change_13_26  μ (hr := hr) h
    · replace h := kbG_f hc h
      refine r_aload_n dX10_change_12 rfl ?_
      refine r_getR flX10_18 sh13 rfl dX10_change_13 ?_
      refine r_iload_n dX10_change_16 rfl ?_
      refine r_iload_n dX10_change_17 rfl ?_
      obtain ⟨hin, h⟩ := kbG_if h
      replace hin := kbIn_of hin
      refine q_iast a1.toNatClampNeg rfl sh16 hin dX10_change_18 ?_
      refine r_aload_n dX10_change_19 rfl ?_
      refine r_getR flX10_21 sh13 rfl dX10_change_20 ?_
      refine r_iload_n dX10_change_23 rfl ?_
      refine r_iload_n dX10_change_24 rfl ?_
      obtain ⟨hin, h⟩ := kbG_if h
      replace hin := kbIn_of hin
      refine q_iast a1.toNatClampNeg rfl sh17 hin dX10_change_25 ?_
      refine r_le [none, none, none, none] trivial ?_
      exact jnR_WO_change_13_26  (kbW (kbW μ 16 a1.toNatClampNeg a2) 17 a1.toNatClampNeg a3) (hr := hr) h
def lp_WO_worthOfAll_13_4 (n : Nat) (μ : kbM) : Nat → Int32 → Int32 → Option (Int32)
  | 0, _, _ => none
  | k + 1, v1, v2 =>
    if (μ.1 13 4) ≤ v2 then
      some v1
    else
      kbIf (kbIn v2 10) <|
      lp_WO_worthOfAll_13_4 n μ k (v1 + (μ.1 17 v2.toNatClampNeg)) (v2 + 1)
theorem lpR_WO_worthOfAll_13_4 {l : Launch} (n : Nat) (μ : kbM)  {Q : kbQt} {P : Int32 → Prop} (hx : ∀ z : Int32, P (z) → kbR l MX10_worthOfAll 1 Q 27 [none, some (.int z), none] [] μ) : ∀ (k : Nat) (v1 : Int32) (v2 : Int32), kbG (lp_WO_worthOfAll_13_4 n μ k v1 v2) P → kbR l MX10_worthOfAll 1 Q 4 [some (.ref 13), some (.int v1), some (.int v2)] [] μ := by
  intro k
  induction k with
  | zero => intro v1 v2 h; exact absurd h kbG_none
  | succ k ih =>
    intro v1 v2 h
    unfold lp_WO_worthOfAll_13_4 at h
    refine r_iload_n dX10_worthOfAll_4 rfl ?_
    refine r_aload_n dX10_worthOfAll_5 rfl ?_
    refine r_getI flX10_24 sh13 rfl dX10_worthOfAll_6 ?_
    refine r_icmp_ge 27 dX10_worthOfAll_9 (by decide) (fun hc => ?_) (fun hc => ?_)
    · replace h := kbG_t hc h
      refine r_le [none, some (.int v1), none] ⟨rfl, trivial⟩ ?_
      exact hx v1 (kbG_some h)
    · replace h := kbG_f hc h
      refine r_iload_n dX10_worthOfAll_12 rfl ?_
      refine r_aload_n dX10_worthOfAll_13 rfl ?_
      refine r_getR flX10_21 sh13 rfl dX10_worthOfAll_14 ?_
      refine r_iload_n dX10_worthOfAll_17 rfl ?_
      obtain ⟨hin, h⟩ := kbG_if h
      replace hin := kbIn_of hin
      refine q_iald v2.toNatClampNeg rfl sh17 hin dX10_worthOfAll_18 ?_
      refine r_iadd dX10_worthOfAll_19 ?_
      refine r_istore_n dX10_worthOfAll_20 (Nat.le_of_ble_eq_true rfl) rfl ?_
      refine r_iinc 1 dX10_worthOfAll_21 rfl (by decide) (Nat.le_of_ble_eq_true rfl) rfl ?_
      refine r_goto 4 dX10_worthOfAll_24 (by decide) ?_
      refine r_le [some (.ref 13), some (.int (v1 + (μ.1 17 v2.toNatClampNeg))), some (.int (v2 + 1))] ⟨rfl, ⟨rfl, ⟨rfl, trivial⟩⟩⟩ ?_
      exact ih (v1 + (μ.1 17 v2.toNatClampNeg)) (v2 + 1) h
def f_WO_worthOfAll_13 (n : Nat) (μ : kbM) : Option (Int32) :=
  (lp_WO_worthOfAll_13_4 n μ n 0 0).bind fun x1 =>
  some x1
theorem sp_WO_worthOfAll_13 {l : Launch} (n : Nat) (μ : kbM)  {x : Int32} (h : f_WO_worthOfAll_13 n μ = some x) : kbS l MX10_worthOfAll 1 [.ref 13] μ (kbQe (some (.int x)) μ) := by
  refine kb_enter 2 rfl rfl ?_
  suffices H : ∀ (Q : kbQt) (P : Int32 → Prop), (∀ z : Int32, P z → Q (some (.int z)) μ) → kbG (f_WO_worthOfAll_13 n μ) P → kbR l MX10_worthOfAll 1 Q 0 [some (.ref 13), none, none] [] μ from H _ (fun z => z = x) (fun z e => by subst e; exact ⟨rfl, rfl⟩) ⟨x, h, rfl⟩
  clear h
  intro Q P hr h
  unfold f_WO_worthOfAll_13 at h
  refine r_iconst 0 dX10_worthOfAll_0 (by decide) ?_
  refine r_istore_n dX10_worthOfAll_1 (Nat.le_of_ble_eq_true rfl) rfl ?_
  refine r_iconst 0 dX10_worthOfAll_2 (by decide) ?_
  refine r_istore_n dX10_worthOfAll_3 (Nat.le_of_ble_eq_true rfl) rfl ?_
  refine r_le [some (.ref 13), some (.int 0), some (.int 0)] ⟨rfl, ⟨rfl, ⟨rfl, trivial⟩⟩⟩ ?_
  obtain ⟨x1, hx0, h⟩ := kbG_bind h
  refine lpR_WO_worthOfAll_13_4 n μ (P := fun z => x1 = z) (hx := fun z e => ?_) n _ _ ⟨_, hx0, rfl⟩
  subst e
  refine r_iload_n dX10_worthOfAll_27 rfl ?_
  exact r_iret rfl dX10_worthOfAll_28 (hr x1 (kbG_some h))
def lp_WO_soundsOfAll_13_4 (n : Nat) (μ : kbM) : Nat → Int32 → Int32 → Option (Int32)
  | 0, _, _ => none
  | k + 1, v1, v2 =>
    if (μ.1 13 4) ≤ v2 then
      some v1
    else
      kbIf (kbIn v2 10) <|
      lp_WO_soundsOfAll_13_4 n μ k (v1 + (μ.1 15 v2.toNatClampNeg)) (v2 + 1)
theorem lpR_WO_soundsOfAll_13_4 {l : Launch} (n : Nat) (μ : kbM)  {Q : kbQt} {P : Int32 → Prop} (hx : ∀ z : Int32, P (z) → kbR l MX10_soundsOfAll 1 Q 27 [none, some (.int z), none] [] μ) : ∀ (k : Nat) (v1 : Int32) (v2 : Int32), kbG (lp_WO_soundsOfAll_13_4 n μ k v1 v2) P → kbR l MX10_soundsOfAll 1 Q 4 [some (.ref 13), some (.int v1), some (.int v2)] [] μ := by
  intro k
  induction k with
  | zero => intro v1 v2 h; exact absurd h kbG_none
  | succ k ih =>
    intro v1 v2 h
    unfold lp_WO_soundsOfAll_13_4 at h
    refine r_iload_n dX10_soundsOfAll_4 rfl ?_
    refine r_aload_n dX10_soundsOfAll_5 rfl ?_
    refine r_getI flX10_24 sh13 rfl dX10_soundsOfAll_6 ?_
    refine r_icmp_ge 27 dX10_soundsOfAll_9 (by decide) (fun hc => ?_) (fun hc => ?_)
    · replace h := kbG_t hc h
      refine r_le [none, some (.int v1), none] ⟨rfl, trivial⟩ ?_
      exact hx v1 (kbG_some h)
    · replace h := kbG_f hc h
      refine r_iload_n dX10_soundsOfAll_12 rfl ?_
      refine r_aload_n dX10_soundsOfAll_13 rfl ?_
      refine r_getR flX10_15 sh13 rfl dX10_soundsOfAll_14 ?_
      refine r_iload_n dX10_soundsOfAll_17 rfl ?_
      obtain ⟨hin, h⟩ := kbG_if h
      replace hin := kbIn_of hin
      refine q_iald v2.toNatClampNeg rfl sh15 hin dX10_soundsOfAll_18 ?_
      refine r_iadd dX10_soundsOfAll_19 ?_
      refine r_istore_n dX10_soundsOfAll_20 (Nat.le_of_ble_eq_true rfl) rfl ?_
      refine r_iinc 1 dX10_soundsOfAll_21 rfl (by decide) (Nat.le_of_ble_eq_true rfl) rfl ?_
      refine r_goto 4 dX10_soundsOfAll_24 (by decide) ?_
      refine r_le [some (.ref 13), some (.int (v1 + (μ.1 15 v2.toNatClampNeg))), some (.int (v2 + 1))] ⟨rfl, ⟨rfl, ⟨rfl, trivial⟩⟩⟩ ?_
      exact ih (v1 + (μ.1 15 v2.toNatClampNeg)) (v2 + 1) h
def f_WO_soundsOfAll_13 (n : Nat) (μ : kbM) : Option (Int32) :=
  (lp_WO_soundsOfAll_13_4 n μ n 0 0).bind fun x1 =>
  some x1
theorem sp_WO_soundsOfAll_13 {l : Launch} (n : Nat) (μ : kbM)  {x : Int32} (h : f_WO_soundsOfAll_13 n μ = some x) : kbS l MX10_soundsOfAll 1 [.ref 13] μ (kbQe (some (.int x)) μ) := by
  refine kb_enter 2 rfl rfl ?_
  suffices H : ∀ (Q : kbQt) (P : Int32 → Prop), (∀ z : Int32, P z → Q (some (.int z)) μ) → kbG (f_WO_soundsOfAll_13 n μ) P → kbR l MX10_soundsOfAll 1 Q 0 [some (.ref 13), none, none] [] μ from H _ (fun z => z = x) (fun z e => by subst e; exact ⟨rfl, rfl⟩) ⟨x, h, rfl⟩
  clear h
  intro Q P hr h
  unfold f_WO_soundsOfAll_13 at h
  refine r_iconst 0 dX10_soundsOfAll_0 (by decide) ?_
  refine r_istore_n dX10_soundsOfAll_1 (Nat.le_of_ble_eq_true rfl) rfl ?_
  refine r_iconst 0 dX10_soundsOfAll_2 (by decide) ?_
  refine r_istore_n dX10_soundsOfAll_3 (Nat.le_of_ble_eq_true rfl) rfl ?_
  refine r_le [some (.ref 13), some (.int 0), some (.int 0)] ⟨rfl, ⟨rfl, ⟨rfl, trivial⟩⟩⟩ ?_
  obtain ⟨x1, hx0, h⟩ := kbG_bind h
  refine lpR_WO_soundsOfAll_13_4 n μ (P := fun z => x1 = z) (hx := fun z e => ?_) n _ _ ⟨_, hx0, rfl⟩
  subst e
  refine r_iload_n dX10_soundsOfAll_27 rfl ?_
  exact r_iret rfl dX10_soundsOfAll_28 (hr x1 (kbG_some h))
def lp_WO_find_13_2 (n : Nat) (v1 : Int32) (μ : kbM) : Nat → Int32 → Option ((Int32) ⊕ (Unit))
  | 0, _ => none
  | k + 1, v2 =>
    if (μ.1 13 4) ≤ v2 then
      some (.inr (()))
    else
      kbIf (kbIn v2 10) <|
      if (μ.1 14 v2.toNatClampNeg) = v1 then
        some (.inl v2)
      else
        lp_WO_find_13_2 n v1 μ k (v2 + 1)
theorem lpR_WO_find_13_2 {l : Launch} (n : Nat) (v1 : Int32) (μ : kbM)  {Q : kbQt} {P : (Int32) ⊕ (Unit) → Prop} (hr : ∀ z : Int32, P (.inl z) → Q (some (.int z)) μ) (hx : ∀ z : Unit, P (.inr z) → kbR l MX10_find 1 Q 28 [none, none, none] [] μ) : ∀ (k : Nat) (v2 : Int32), kbG (lp_WO_find_13_2 n v1 μ k v2) P → kbR l MX10_find 1 Q 2 [some (.ref 13), some (.int v1), some (.int v2)] [] μ := by
  intro k
  induction k with
  | zero => intro v2 h; exact absurd h kbG_none
  | succ k ih =>
    intro v2 h
    unfold lp_WO_find_13_2 at h
    refine r_iload_n dX10_find_2 rfl ?_
    refine r_aload_n dX10_find_3 rfl ?_
    refine r_getI flX10_24 sh13 rfl dX10_find_4 ?_
    refine r_icmp_ge 28 dX10_find_7 (by decide) (fun hc => ?_) (fun hc => ?_)
    · replace h := kbG_t hc h
      refine r_le [none, none, none] trivial ?_
      exact hx (()) (kbG_some h)
    · replace h := kbG_f hc h
      refine r_aload_n dX10_find_10 rfl ?_
      refine r_getR flX10_9 sh13 rfl dX10_find_11 ?_
      refine r_iload_n dX10_find_14 rfl ?_
      obtain ⟨hin, h⟩ := kbG_if h
      replace hin := kbIn_of hin
      refine q_iald v2.toNatClampNeg rfl sh14 hin dX10_find_15 ?_
      refine r_iload_n dX10_find_16 rfl ?_
      refine r_icmp_ne 22 dX10_find_17 (by decide) (fun hc => ?_) (fun hc => ?_)
      · replace h := kbG_f hc h
        refine r_iinc 1 dX10_find_22 rfl (by decide) (Nat.le_of_ble_eq_true rfl) rfl ?_
        refine r_goto 2 dX10_find_25 (by decide) ?_
        refine r_le [some (.ref 13), some (.int v1), some (.int (v2 + 1))] ⟨rfl, ⟨rfl, ⟨rfl, trivial⟩⟩⟩ ?_
        exact ih (v2 + 1) h
      · replace h := kbG_t hc h
        refine r_iload_n dX10_find_20 rfl ?_
        exact r_iret rfl dX10_find_21 (hr v2 (kbG_some h))
def f_WO_find_13 (n : Nat) (a1 : Int32) (μ : kbM) : Option (Int32) :=
  kbOr (lp_WO_find_13_2 n a1 μ n 0) (fun r2 => some r2) fun x1 =>
  some (-1)
theorem sp_WO_find_13 {l : Launch} (n : Nat) (a1 : Int32) (μ : kbM)  {x : Int32} (h : f_WO_find_13 n a1 μ = some x) : kbS l MX10_find 1 [.ref 13, .int a1] μ (kbQe (some (.int x)) μ) := by
  refine kb_enter 1 rfl rfl ?_
  suffices H : ∀ (Q : kbQt) (P : Int32 → Prop), (∀ z : Int32, P z → Q (some (.int z)) μ) → kbG (f_WO_find_13 n a1 μ) P → kbR l MX10_find 1 Q 0 [some (.ref 13), some (.int a1), none] [] μ from H _ (fun z => z = x) (fun z e => by subst e; exact ⟨rfl, rfl⟩) ⟨x, h, rfl⟩
  clear h
  intro Q P hr h
  unfold f_WO_find_13 at h
  refine r_iconst 0 dX10_find_0 (by decide) ?_
  refine r_istore_n dX10_find_1 (Nat.le_of_ble_eq_true rfl) rfl ?_
  refine r_le [some (.ref 13), some (.int a1), some (.int 0)] ⟨rfl, ⟨rfl, ⟨rfl, trivial⟩⟩⟩ ?_
  rcases kbG_or h with ⟨r2, hx0, h⟩ | ⟨x1, hx0, h⟩
  · exact lpR_WO_find_13_2 n a1 μ (P := fun z => .inl r2 = z) (hr := fun z e => by cases e; exact hr _ (kbG_some h)) (hx := fun z e => by cases e) n _ ⟨_, hx0, rfl⟩
  · refine lpR_WO_find_13_2 n a1 μ (P := fun z => .inr x1 = z) (hr := fun z e => by cases e) (hx := fun z e => ?_) n _ ⟨_, hx0, rfl⟩
    cases e
    refine r_iconst (-1) dX10_find_28 (by decide) ?_
    exact r_iret rfl dX10_find_29 (hr (-1) (kbG_some h))
