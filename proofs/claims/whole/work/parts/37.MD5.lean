theorem dX12_worth_0 : decode cX12_worth 0 = .ok (.aload_n 0, 1) := by decide +kernel
theorem dX12_worth_1 : decode cX12_worth 1 = .ok (.iconst 0, 1) := by decide +kernel
theorem dX12_worth_2 : decode cX12_worth 2 = .ok (.putfield 159, 3) := by decide +kernel
theorem dX12_worth_5 : decode cX12_worth 5 = .ok (.aload_n 0, 1) := by decide +kernel
theorem dX12_worth_6 : decode cX12_worth 6 = .ok (.iload_n 1, 1) := by decide +kernel
theorem dX12_worth_7 : decode cX12_worth 7 = .ok (.invokevirtual 331, 3) := by decide +kernel
theorem dX12_worth_10 : decode cX12_worth 10 = .ok (.ifCond .ne 9, 3) := by decide +kernel
theorem dX12_worth_13 : decode cX12_worth 13 = .ok (.aload_n 0, 1) := by decide +kernel
theorem dX12_worth_14 : decode cX12_worth 14 = .ok (.iconst 1, 1) := by decide +kernel
theorem dX12_worth_15 : decode cX12_worth 15 = .ok (.invokevirtual 292, 3) := by decide +kernel
theorem dX12_worth_18 : decode cX12_worth 18 = .ok (.ireturn, 1) := by decide +kernel
theorem dX12_worth_19 : decode cX12_worth 19 = .ok (.iload_n 2, 1) := by decide +kernel
theorem dX12_worth_20 : decode cX12_worth 20 = .ok (.i2l, 1) := by decide +kernel
theorem dX12_worth_21 : decode cX12_worth 21 = .ok (.lconst 0, 1) := by decide +kernel
theorem dX12_worth_22 : decode cX12_worth 22 = .ok (.ldc2_w 391, 3) := by decide +kernel
theorem dX12_worth_25 : decode cX12_worth 25 = .ok (.invokestatic 165, 3) := by decide +kernel
theorem dX12_worth_28 : decode cX12_worth 28 = .ok (.ifCond .ne 9, 3) := by decide +kernel
theorem dX12_worth_31 : decode cX12_worth 31 = .ok (.aload_n 0, 1) := by decide +kernel
theorem dX12_worth_32 : decode cX12_worth 32 = .ok (.iconst 1, 1) := by decide +kernel
theorem dX12_worth_33 : decode cX12_worth 33 = .ok (.invokevirtual 393, 3) := by decide +kernel
theorem dX12_worth_36 : decode cX12_worth 36 = .ok (.ireturn, 1) := by decide +kernel
theorem dX12_worth_37 : decode cX12_worth 37 = .ok (.aload_n 0, 1) := by decide +kernel
theorem dX12_worth_38 : decode cX12_worth 38 = .ok (.invokevirtual 396, 3) := by decide +kernel
theorem dX12_worth_41 : decode cX12_worth 41 = .ok (.aload_n 0, 1) := by decide +kernel
theorem dX12_worth_42 : decode cX12_worth 42 = .ok (.getfield 85, 3) := by decide +kernel
theorem dX12_worth_45 : decode cX12_worth 45 = .ok (.iload_n 1, 1) := by decide +kernel
theorem dX12_worth_46 : decode cX12_worth 46 = .ok (.iaload, 1) := by decide +kernel
theorem dX12_worth_47 : decode cX12_worth 47 = .ok (.istore_n 3, 1) := by decide +kernel
theorem dX12_worth_48 : decode cX12_worth 48 = .ok (.aload_n 0, 1) := by decide +kernel
theorem dX12_worth_49 : decode cX12_worth 49 = .ok (.getfield 85, 3) := by decide +kernel
theorem dX12_worth_52 : decode cX12_worth 52 = .ok (.iload_n 1, 1) := by decide +kernel
theorem dX12_worth_53 : decode cX12_worth 53 = .ok (.iload_n 2, 1) := by decide +kernel
theorem dX12_worth_54 : decode cX12_worth 54 = .ok (.iastore, 1) := by decide +kernel
theorem dX12_worth_55 : decode cX12_worth 55 = .ok (.iload_n 3, 1) := by decide +kernel
theorem dX12_worth_56 : decode cX12_worth 56 = .ok (.ireturn, 1) := by decide +kernel
theorem dX12_part_0 : decode cX12_part 0 = .ok (.aload_n 0, 1) := by decide +kernel
theorem dX12_part_1 : decode cX12_part 1 = .ok (.iconst 0, 1) := by decide +kernel
theorem dX12_part_2 : decode cX12_part 2 = .ok (.putfield 159, 3) := by decide +kernel
theorem dX12_part_5 : decode cX12_part 5 = .ok (.aload_n 0, 1) := by decide +kernel
theorem dX12_part_6 : decode cX12_part 6 = .ok (.iload_n 1, 1) := by decide +kernel
theorem dX12_part_7 : decode cX12_part 7 = .ok (.invokevirtual 331, 3) := by decide +kernel
theorem dX12_part_10 : decode cX12_part 10 = .ok (.ifCond .ne 9, 3) := by decide +kernel
theorem dX12_part_13 : decode cX12_part 13 = .ok (.aload_n 0, 1) := by decide +kernel
theorem dX12_part_14 : decode cX12_part 14 = .ok (.iconst 1, 1) := by decide +kernel
theorem dX12_part_15 : decode cX12_part 15 = .ok (.invokevirtual 292, 3) := by decide +kernel
theorem dX12_part_18 : decode cX12_part 18 = .ok (.ireturn, 1) := by decide +kernel
theorem dX12_part_19 : decode cX12_part 19 = .ok (.iload_n 2, 1) := by decide +kernel
theorem dX12_part_20 : decode cX12_part 20 = .ok (.i2l, 1) := by decide +kernel
theorem dX12_part_21 : decode cX12_part 21 = .ok (.lconst 0, 1) := by decide +kernel
theorem dX12_part_22 : decode cX12_part 22 = .ok (.ldc2_w 389, 3) := by decide +kernel
theorem dX12_part_25 : decode cX12_part 25 = .ok (.invokestatic 165, 3) := by decide +kernel
theorem dX12_part_28 : decode cX12_part 28 = .ok (.ifCond .ne 9, 3) := by decide +kernel
theorem dX12_part_31 : decode cX12_part 31 = .ok (.aload_n 0, 1) := by decide +kernel
theorem dX12_part_32 : decode cX12_part 32 = .ok (.iconst 1, 1) := by decide +kernel
theorem dX12_part_33 : decode cX12_part 33 = .ok (.invokevirtual 393, 3) := by decide +kernel
theorem dX12_part_36 : decode cX12_part 36 = .ok (.ireturn, 1) := by decide +kernel
theorem dX12_part_37 : decode cX12_part 37 = .ok (.aload_n 0, 1) := by decide +kernel
theorem dX12_part_38 : decode cX12_part 38 = .ok (.invokevirtual 396, 3) := by decide +kernel
theorem dX12_part_41 : decode cX12_part 41 = .ok (.aload_n 0, 1) := by decide +kernel
theorem dX12_part_42 : decode cX12_part 42 = .ok (.getfield 82, 3) := by decide +kernel
theorem dX12_part_45 : decode cX12_part 45 = .ok (.iload_n 1, 1) := by decide +kernel
theorem dX12_part_46 : decode cX12_part 46 = .ok (.iaload, 1) := by decide +kernel
theorem dX12_part_47 : decode cX12_part 47 = .ok (.istore_n 3, 1) := by decide +kernel
theorem dX12_part_48 : decode cX12_part 48 = .ok (.aload_n 0, 1) := by decide +kernel
theorem dX12_part_49 : decode cX12_part 49 = .ok (.getfield 82, 3) := by decide +kernel
theorem dX12_part_52 : decode cX12_part 52 = .ok (.iload_n 1, 1) := by decide +kernel
theorem dX12_part_53 : decode cX12_part 53 = .ok (.iload_n 2, 1) := by decide +kernel
theorem dX12_part_54 : decode cX12_part 54 = .ok (.iastore, 1) := by decide +kernel
theorem dX12_part_55 : decode cX12_part 55 = .ok (.iload_n 3, 1) := by decide +kernel
theorem dX12_part_56 : decode cX12_part 56 = .ok (.ireturn, 1) := by decide +kernel
theorem dX12_rain_0 : decode cX12_rain 0 = .ok (.aload_n 0, 1) := by decide +kernel
theorem dX12_rain_1 : decode cX12_rain 1 = .ok (.iconst 0, 1) := by decide +kernel
theorem dX12_rain_2 : decode cX12_rain 2 = .ok (.putfield 159, 3) := by decide +kernel
theorem dX12_rain_5 : decode cX12_rain 5 = .ok (.aload_n 0, 1) := by decide +kernel
theorem dX12_rain_6 : decode cX12_rain 6 = .ok (.iload_n 1, 1) := by decide +kernel
theorem dX12_rain_7 : decode cX12_rain 7 = .ok (.invokevirtual 336, 3) := by decide +kernel
theorem dX12_rain_10 : decode cX12_rain 10 = .ok (.ifCond .ne 10, 3) := by decide +kernel
theorem dX12_rain_13 : decode cX12_rain 13 = .ok (.aload_n 0, 1) := by decide +kernel
theorem dX12_rain_14 : decode cX12_rain 14 = .ok (.iconst 1, 1) := by decide +kernel
theorem dX12_rain_15 : decode cX12_rain 15 = .ok (.putfield 159, 3) := by decide +kernel
theorem dX12_rain_18 : decode cX12_rain 18 = .ok (.iconst 0, 1) := by decide +kernel
theorem dX12_rain_19 : decode cX12_rain 19 = .ok (.ireturn, 1) := by decide +kernel
theorem dX12_rain_20 : decode cX12_rain 20 = .ok (.aload_n 0, 1) := by decide +kernel
theorem dX12_rain_21 : decode cX12_rain 21 = .ok (.getfield 305, 3) := by decide +kernel
theorem dX12_rain_24 : decode cX12_rain 24 = .ok (.iload_n 1, 1) := by decide +kernel
theorem dX12_rain_25 : decode cX12_rain 25 = .ok (.invokestatic 318, 3) := by decide +kernel
theorem dX12_rain_28 : decode cX12_rain 28 = .ok (.iload_n 2, 1) := by decide +kernel
theorem dX12_rain_29 : decode cX12_rain 29 = .ok (.if_icmp .ne 15, 3) := by decide +kernel
theorem dX12_rain_32 : decode cX12_rain 32 = .ok (.aload_n 0, 1) := by decide +kernel
theorem dX12_rain_33 : decode cX12_rain 33 = .ok (.getfield 69, 3) := by decide +kernel
theorem dX12_rain_36 : decode cX12_rain 36 = .ok (.iconst 1, 1) := by decide +kernel
theorem dX12_rain_37 : decode cX12_rain 37 = .ok (.dup2, 1) := by decide +kernel
theorem dX12_rain_38 : decode cX12_rain 38 = .ok (.iaload, 1) := by decide +kernel
theorem dX12_rain_39 : decode cX12_rain 39 = .ok (.iconst 1, 1) := by decide +kernel
theorem dX12_rain_40 : decode cX12_rain 40 = .ok (.iadd, 1) := by decide +kernel
theorem dX12_rain_41 : decode cX12_rain 41 = .ok (.iastore, 1) := by decide +kernel
theorem dX12_rain_42 : decode cX12_rain 42 = .ok (.iconst 0, 1) := by decide +kernel
theorem dX12_rain_43 : decode cX12_rain 43 = .ok (.ireturn, 1) := by decide +kernel
theorem dX12_rain_44 : decode cX12_rain 44 = .ok (.aload_n 0, 1) := by decide +kernel
theorem dX12_rain_45 : decode cX12_rain 45 = .ok (.invokevirtual 396, 3) := by decide +kernel
theorem dX12_rain_48 : decode cX12_rain 48 = .ok (.aload_n 0, 1) := by decide +kernel
theorem dX12_rain_49 : decode cX12_rain 49 = .ok (.dup, 1) := by decide +kernel
theorem dX12_rain_50 : decode cX12_rain 50 = .ok (.getfield 305, 3) := by decide +kernel
theorem dX12_rain_53 : decode cX12_rain 53 = .ok (.iconst 1, 1) := by decide +kernel
theorem dX12_rain_54 : decode cX12_rain 54 = .ok (.iload_n 1, 1) := by decide +kernel
theorem dX12_rain_55 : decode cX12_rain 55 = .ok (.ishl, 1) := by decide +kernel
theorem dX12_rain_56 : decode cX12_rain 56 = .ok (.ixor, 1) := by decide +kernel
theorem dX12_rain_57 : decode cX12_rain 57 = .ok (.putfield 305, 3) := by decide +kernel
theorem dX12_rain_60 : decode cX12_rain 60 = .ok (.iconst 1, 1) := by decide +kernel
theorem dX12_rain_61 : decode cX12_rain 61 = .ok (.ireturn, 1) := by decide +kernel
theorem dX12_unpack_0 : decode cX12_unpack 0 = .ok (.aload_n 0, 1) := by decide +kernel
theorem dX12_unpack_1 : decode cX12_unpack 1 = .ok (.aload_n 1, 1) := by decide +kernel
theorem dX12_unpack_2 : decode cX12_unpack 2 = .ok (.iload_n 2, 1) := by decide +kernel
theorem dX12_unpack_3 : decode cX12_unpack 3 = .ok (.iaload, 1) := by decide +kernel
theorem dX12_unpack_4 : decode cX12_unpack 4 = .ok (.putfield 162, 3) := by decide +kernel
theorem dX12_unpack_7 : decode cX12_unpack 7 = .ok (.aload_n 0, 1) := by decide +kernel
theorem dX12_unpack_8 : decode cX12_unpack 8 = .ok (.aload_n 1, 1) := by decide +kernel
theorem dX12_unpack_9 : decode cX12_unpack 9 = .ok (.iload_n 2, 1) := by decide +kernel
theorem dX12_unpack_10 : decode cX12_unpack 10 = .ok (.iconst 1, 1) := by decide +kernel
theorem dX12_unpack_11 : decode cX12_unpack 11 = .ok (.iadd, 1) := by decide +kernel
theorem dX12_unpack_12 : decode cX12_unpack 12 = .ok (.iaload, 1) := by decide +kernel
theorem dX12_unpack_13 : decode cX12_unpack 13 = .ok (.putfield 305, 3) := by decide +kernel
theorem dX12_unpack_16 : decode cX12_unpack 16 = .ok (.iconst 0, 1) := by decide +kernel
theorem dX12_unpack_17 : decode cX12_unpack 17 = .ok (.istore_n 3, 1) := by decide +kernel
theorem dX12_unpack_18 : decode cX12_unpack 18 = .ok (.iload_n 3, 1) := by decide +kernel
theorem dX12_unpack_19 : decode cX12_unpack 19 = .ok (.bipush 10, 2) := by decide +kernel
theorem dX12_unpack_21 : decode cX12_unpack 21 = .ok (.if_icmp .ge 54, 3) := by decide +kernel
theorem dX12_unpack_24 : decode cX12_unpack 24 = .ok (.aload_n 0, 1) := by decide +kernel
theorem dX12_unpack_25 : decode cX12_unpack 25 = .ok (.getfield 79, 3) := by decide +kernel
theorem dX12_unpack_28 : decode cX12_unpack 28 = .ok (.iload_n 3, 1) := by decide +kernel
theorem dX12_unpack_29 : decode cX12_unpack 29 = .ok (.aload_n 1, 1) := by decide +kernel
theorem dX12_unpack_30 : decode cX12_unpack 30 = .ok (.iload_n 2, 1) := by decide +kernel
theorem dX12_unpack_31 : decode cX12_unpack 31 = .ok (.iconst 2, 1) := by decide +kernel
theorem dX12_unpack_32 : decode cX12_unpack 32 = .ok (.iadd, 1) := by decide +kernel
theorem dX12_unpack_33 : decode cX12_unpack 33 = .ok (.iload_n 3, 1) := by decide +kernel
theorem dX12_unpack_34 : decode cX12_unpack 34 = .ok (.iadd, 1) := by decide +kernel
theorem dX12_unpack_35 : decode cX12_unpack 35 = .ok (.iaload, 1) := by decide +kernel
theorem dX12_unpack_36 : decode cX12_unpack 36 = .ok (.iastore, 1) := by decide +kernel
theorem dX12_unpack_37 : decode cX12_unpack 37 = .ok (.aload_n 0, 1) := by decide +kernel
theorem dX12_unpack_38 : decode cX12_unpack 38 = .ok (.getfield 82, 3) := by decide +kernel
theorem dX12_unpack_41 : decode cX12_unpack 41 = .ok (.iload_n 3, 1) := by decide +kernel
theorem dX12_unpack_42 : decode cX12_unpack 42 = .ok (.aload_n 1, 1) := by decide +kernel
theorem dX12_unpack_43 : decode cX12_unpack 43 = .ok (.iload_n 2, 1) := by decide +kernel
theorem dX12_unpack_44 : decode cX12_unpack 44 = .ok (.iconst 2, 1) := by decide +kernel
theorem dX12_unpack_45 : decode cX12_unpack 45 = .ok (.iadd, 1) := by decide +kernel
theorem dX12_unpack_46 : decode cX12_unpack 46 = .ok (.bipush 10, 2) := by decide +kernel
theorem dX12_unpack_48 : decode cX12_unpack 48 = .ok (.iadd, 1) := by decide +kernel
theorem dX12_unpack_49 : decode cX12_unpack 49 = .ok (.iload_n 3, 1) := by decide +kernel
theorem dX12_unpack_50 : decode cX12_unpack 50 = .ok (.iadd, 1) := by decide +kernel
theorem dX12_unpack_51 : decode cX12_unpack 51 = .ok (.iaload, 1) := by decide +kernel
theorem dX12_unpack_52 : decode cX12_unpack 52 = .ok (.iastore, 1) := by decide +kernel
theorem dX12_unpack_53 : decode cX12_unpack 53 = .ok (.aload_n 0, 1) := by decide +kernel
theorem dX12_unpack_54 : decode cX12_unpack 54 = .ok (.getfield 85, 3) := by decide +kernel
theorem dX12_unpack_57 : decode cX12_unpack 57 = .ok (.iload_n 3, 1) := by decide +kernel
theorem dX12_unpack_58 : decode cX12_unpack 58 = .ok (.aload_n 1, 1) := by decide +kernel
theorem dX12_unpack_59 : decode cX12_unpack 59 = .ok (.iload_n 2, 1) := by decide +kernel
theorem dX12_unpack_60 : decode cX12_unpack 60 = .ok (.iconst 2, 1) := by decide +kernel
theorem dX12_unpack_61 : decode cX12_unpack 61 = .ok (.iadd, 1) := by decide +kernel
theorem dX12_unpack_62 : decode cX12_unpack 62 = .ok (.bipush 20, 2) := by decide +kernel
theorem dX12_unpack_64 : decode cX12_unpack 64 = .ok (.iadd, 1) := by decide +kernel
theorem dX12_unpack_65 : decode cX12_unpack 65 = .ok (.iload_n 3, 1) := by decide +kernel
theorem dX12_unpack_66 : decode cX12_unpack 66 = .ok (.iadd, 1) := by decide +kernel
theorem dX12_unpack_67 : decode cX12_unpack 67 = .ok (.iaload, 1) := by decide +kernel
theorem dX12_unpack_68 : decode cX12_unpack 68 = .ok (.iastore, 1) := by decide +kernel
theorem dX12_unpack_69 : decode cX12_unpack 69 = .ok (.iinc 3 1, 3) := by decide +kernel
theorem dX12_unpack_72 : decode cX12_unpack 72 = .ok (.goto (-54), 3) := by decide +kernel
theorem dX12_unpack_75 : decode cX12_unpack 75 = .ok (.return_, 1) := by decide +kernel
theorem dX12_undo_0 : decode cX12_undo 0 = .ok (.aload_n 0, 1) := by decide +kernel
theorem dX12_undo_1 : decode cX12_undo 1 = .ok (.iconst 0, 1) := by decide +kernel
theorem dX12_undo_2 : decode cX12_undo 2 = .ok (.putfield 159, 3) := by decide +kernel
theorem dX12_undo_5 : decode cX12_undo 5 = .ok (.aload_n 0, 1) := by decide +kernel
theorem dX12_undo_6 : decode cX12_undo 6 = .ok (.getfield 308, 3) := by decide +kernel
theorem dX12_undo_9 : decode cX12_undo 9 = .ok (.ifCond .ne 5, 3) := by decide +kernel
theorem dX12_undo_12 : decode cX12_undo 12 = .ok (.iconst (-1), 1) := by decide +kernel
theorem dX12_undo_13 : decode cX12_undo 13 = .ok (.ireturn, 1) := by decide +kernel
theorem dX12_undo_14 : decode cX12_undo 14 = .ok (.aload_n 0, 1) := by decide +kernel
theorem dX12_undo_15 : decode cX12_undo 15 = .ok (.dup, 1) := by decide +kernel
theorem dX12_undo_16 : decode cX12_undo 16 = .ok (.getfield 308, 3) := by decide +kernel
theorem dX12_undo_19 : decode cX12_undo 19 = .ok (.iconst 1, 1) := by decide +kernel
theorem dX12_undo_20 : decode cX12_undo 20 = .ok (.isub, 1) := by decide +kernel
theorem dX12_undo_21 : decode cX12_undo 21 = .ok (.putfield 308, 3) := by decide +kernel
theorem dX12_undo_24 : decode cX12_undo 24 = .ok (.aload_n 0, 1) := by decide +kernel
theorem dX12_undo_25 : decode cX12_undo 25 = .ok (.aload_n 0, 1) := by decide +kernel
theorem dX12_undo_26 : decode cX12_undo 26 = .ok (.getfield 88, 3) := by decide +kernel
theorem dX12_undo_29 : decode cX12_undo 29 = .ok (.bipush 32, 2) := by decide +kernel
theorem dX12_undo_31 : decode cX12_undo 31 = .ok (.aload_n 0, 1) := by decide +kernel
theorem dX12_undo_32 : decode cX12_undo 32 = .ok (.getfield 308, 3) := by decide +kernel
theorem dX12_undo_35 : decode cX12_undo 35 = .ok (.imul, 1) := by decide +kernel
theorem dX12_undo_36 : decode cX12_undo 36 = .ok (.invokevirtual 399, 3) := by decide +kernel
theorem dX12_undo_39 : decode cX12_undo 39 = .ok (.aload_n 0, 1) := by decide +kernel
theorem dX12_undo_40 : decode cX12_undo 40 = .ok (.getfield 308, 3) := by decide +kernel
theorem dX12_undo_43 : decode cX12_undo 43 = .ok (.ireturn, 1) := by decide +kernel
theorem dX12_sayMore_0 : decode cX12_sayMore 0 = .ok (.iconst 1, 1) := by decide +kernel
theorem dX12_sayMore_1 : decode cX12_sayMore 1 = .ok (.istore_n 1, 1) := by decide +kernel
theorem dX12_sayMore_2 : decode cX12_sayMore 2 = .ok (.iload_n 1, 1) := by decide +kernel
theorem dX12_sayMore_3 : decode cX12_sayMore 3 = .ok (.ifCond .eq 181, 3) := by decide +kernel
theorem dX12_sayMore_6 : decode cX12_sayMore 6 = .ok (.iconst 0, 1) := by decide +kernel
theorem dX12_sayMore_7 : decode cX12_sayMore 7 = .ok (.istore_n 1, 1) := by decide +kernel
theorem dX12_sayMore_8 : decode cX12_sayMore 8 = .ok (.iconst 0, 1) := by decide +kernel
theorem dX12_sayMore_9 : decode cX12_sayMore 9 = .ok (.istore_n 2, 1) := by decide +kernel
theorem dX12_sayMore_10 : decode cX12_sayMore 10 = .ok (.iload_n 2, 1) := by decide +kernel
theorem dX12_sayMore_11 : decode cX12_sayMore 11 = .ok (.aload_n 0, 1) := by decide +kernel
theorem dX12_sayMore_12 : decode cX12_sayMore 12 = .ok (.getfield 162, 3) := by decide +kernel
theorem dX12_sayMore_15 : decode cX12_sayMore 15 = .ok (.if_icmp .ge 166, 3) := by decide +kernel
theorem dX12_sayMore_18 : decode cX12_sayMore 18 = .ok (.iconst 0, 1) := by decide +kernel
theorem dX12_sayMore_19 : decode cX12_sayMore 19 = .ok (.istore_n 3, 1) := by decide +kernel
theorem dX12_sayMore_20 : decode cX12_sayMore 20 = .ok (.iload_n 3, 1) := by decide +kernel
theorem dX12_sayMore_21 : decode cX12_sayMore 21 = .ok (.aload_n 0, 1) := by decide +kernel
theorem dX12_sayMore_22 : decode cX12_sayMore 22 = .ok (.getfield 106, 3) := by decide +kernel
theorem dX12_sayMore_25 : decode cX12_sayMore 25 = .ok (.iload_n 2, 1) := by decide +kernel
theorem dX12_sayMore_26 : decode cX12_sayMore 26 = .ok (.iaload, 1) := by decide +kernel
theorem dX12_sayMore_27 : decode cX12_sayMore 27 = .ok (.if_icmp .gt 148, 3) := by decide +kernel
theorem dX12_sayMore_30 : decode cX12_sayMore 30 = .ok (.aload_n 0, 1) := by decide +kernel
theorem dX12_sayMore_31 : decode cX12_sayMore 31 = .ok (.getfield 120, 3) := by decide +kernel
theorem dX12_sayMore_34 : decode cX12_sayMore 34 = .ok (.bipush 7, 2) := by decide +kernel
theorem dX12_sayMore_36 : decode cX12_sayMore 36 = .ok (.iload_n 2, 1) := by decide +kernel
theorem dX12_sayMore_37 : decode cX12_sayMore 37 = .ok (.imul, 1) := by decide +kernel
theorem dX12_sayMore_38 : decode cX12_sayMore 38 = .ok (.iload_n 3, 1) := by decide +kernel
theorem dX12_sayMore_39 : decode cX12_sayMore 39 = .ok (.iadd, 1) := by decide +kernel
theorem dX12_sayMore_40 : decode cX12_sayMore 40 = .ok (.iaload, 1) := by decide +kernel
theorem dX12_sayMore_41 : decode cX12_sayMore 41 = .ok (.istore 4, 2) := by decide +kernel
theorem dX12_sayMore_43 : decode cX12_sayMore 43 = .ok (.iload_n 3, 1) := by decide +kernel
theorem dX12_sayMore_44 : decode cX12_sayMore 44 = .ok (.aload_n 0, 1) := by decide +kernel
theorem dX12_sayMore_45 : decode cX12_sayMore 45 = .ok (.getfield 106, 3) := by decide +kernel
theorem dX12_sayMore_48 : decode cX12_sayMore 48 = .ok (.iload_n 2, 1) := by decide +kernel
theorem dX12_sayMore_49 : decode cX12_sayMore 49 = .ok (.iaload, 1) := by decide +kernel
theorem dX12_sayMore_50 : decode cX12_sayMore 50 = .ok (.if_icmp .ge 42, 3) := by decide +kernel
theorem dX12_sayMore_53 : decode cX12_sayMore 53 = .ok (.iload 4, 2) := by decide +kernel
theorem dX12_sayMore_55 : decode cX12_sayMore 55 = .ok (.iconst 1, 1) := by decide +kernel
theorem dX12_sayMore_56 : decode cX12_sayMore 56 = .ok (.iadd, 1) := by decide +kernel
theorem dX12_sayMore_57 : decode cX12_sayMore 57 = .ok (.aload_n 0, 1) := by decide +kernel
theorem dX12_sayMore_58 : decode cX12_sayMore 58 = .ok (.getfield 120, 3) := by decide +kernel
theorem dX12_sayMore_61 : decode cX12_sayMore 61 = .ok (.bipush 7, 2) := by decide +kernel
theorem dX12_sayMore_63 : decode cX12_sayMore 63 = .ok (.iload_n 2, 1) := by decide +kernel
theorem dX12_sayMore_64 : decode cX12_sayMore 64 = .ok (.imul, 1) := by decide +kernel
theorem dX12_sayMore_65 : decode cX12_sayMore 65 = .ok (.iload_n 3, 1) := by decide +kernel
theorem dX12_sayMore_66 : decode cX12_sayMore 66 = .ok (.iadd, 1) := by decide +kernel
theorem dX12_sayMore_67 : decode cX12_sayMore 67 = .ok (.iconst 1, 1) := by decide +kernel
theorem dX12_sayMore_68 : decode cX12_sayMore 68 = .ok (.iadd, 1) := by decide +kernel
theorem dX12_sayMore_69 : decode cX12_sayMore 69 = .ok (.iaload, 1) := by decide +kernel
theorem dX12_sayMore_70 : decode cX12_sayMore 70 = .ok (.if_icmp .ge 22, 3) := by decide +kernel
theorem dX12_sayMore_73 : decode cX12_sayMore 73 = .ok (.aload_n 0, 1) := by decide +kernel
theorem dX12_sayMore_74 : decode cX12_sayMore 74 = .ok (.getfield 120, 3) := by decide +kernel
theorem dX12_sayMore_77 : decode cX12_sayMore 77 = .ok (.bipush 7, 2) := by decide +kernel
theorem dX12_sayMore_79 : decode cX12_sayMore 79 = .ok (.iload_n 2, 1) := by decide +kernel
theorem dX12_sayMore_80 : decode cX12_sayMore 80 = .ok (.imul, 1) := by decide +kernel
theorem dX12_sayMore_81 : decode cX12_sayMore 81 = .ok (.iload_n 3, 1) := by decide +kernel
theorem dX12_sayMore_82 : decode cX12_sayMore 82 = .ok (.iadd, 1) := by decide +kernel
theorem dX12_sayMore_83 : decode cX12_sayMore 83 = .ok (.iconst 1, 1) := by decide +kernel
theorem dX12_sayMore_84 : decode cX12_sayMore 84 = .ok (.iadd, 1) := by decide +kernel
theorem dX12_sayMore_85 : decode cX12_sayMore 85 = .ok (.iload 4, 2) := by decide +kernel
theorem dX12_sayMore_87 : decode cX12_sayMore 87 = .ok (.iconst 1, 1) := by decide +kernel
theorem dX12_sayMore_88 : decode cX12_sayMore 88 = .ok (.iadd, 1) := by decide +kernel
theorem dX12_sayMore_89 : decode cX12_sayMore 89 = .ok (.iastore, 1) := by decide +kernel
theorem dX12_sayMore_90 : decode cX12_sayMore 90 = .ok (.iconst 1, 1) := by decide +kernel
theorem dX12_sayMore_91 : decode cX12_sayMore 91 = .ok (.istore_n 1, 1) := by decide +kernel
theorem dX12_sayMore_92 : decode cX12_sayMore 92 = .ok (.iconst 0, 1) := by decide +kernel
theorem dX12_sayMore_93 : decode cX12_sayMore 93 = .ok (.istore 5, 2) := by decide +kernel
theorem dX12_sayMore_95 : decode cX12_sayMore 95 = .ok (.iload 5, 2) := by decide +kernel
theorem dX12_sayMore_97 : decode cX12_sayMore 97 = .ok (.aload_n 0, 1) := by decide +kernel
theorem dX12_sayMore_98 : decode cX12_sayMore 98 = .ok (.getfield 162, 3) := by decide +kernel
theorem dX12_sayMore_101 : decode cX12_sayMore 101 = .ok (.if_icmp .ge 68, 3) := by decide +kernel
theorem dX12_sayMore_104 : decode cX12_sayMore 104 = .ok (.iload_n 3, 1) := by decide +kernel
theorem dX12_sayMore_105 : decode cX12_sayMore 105 = .ok (.aload_n 0, 1) := by decide +kernel
theorem dX12_sayMore_106 : decode cX12_sayMore 106 = .ok (.getfield 106, 3) := by decide +kernel
theorem dX12_sayMore_109 : decode cX12_sayMore 109 = .ok (.iload_n 2, 1) := by decide +kernel
theorem dX12_sayMore_110 : decode cX12_sayMore 110 = .ok (.iaload, 1) := by decide +kernel
theorem dX12_sayMore_111 : decode cX12_sayMore 111 = .ok (.if_icmp .ne 58, 3) := by decide +kernel
theorem dX12_sayMore_114 : decode cX12_sayMore 114 = .ok (.iload 4, 2) := by decide +kernel
theorem dX12_sayMore_116 : decode cX12_sayMore 116 = .ok (.ldc 199, 2) := by decide +kernel
theorem dX12_sayMore_118 : decode cX12_sayMore 118 = .ok (.if_icmp .ge 51, 3) := by decide +kernel
theorem dX12_sayMore_121 : decode cX12_sayMore 121 = .ok (.iload 4, 2) := by decide +kernel
theorem dX12_sayMore_123 : decode cX12_sayMore 123 = .ok (.aload_n 0, 1) := by decide +kernel
theorem dX12_sayMore_124 : decode cX12_sayMore 124 = .ok (.getfield 120, 3) := by decide +kernel
theorem dX12_sayMore_127 : decode cX12_sayMore 127 = .ok (.bipush 7, 2) := by decide +kernel
theorem dX12_sayMore_129 : decode cX12_sayMore 129 = .ok (.iload 5, 2) := by decide +kernel
theorem dX12_sayMore_131 : decode cX12_sayMore 131 = .ok (.imul, 1) := by decide +kernel
theorem dX12_sayMore_132 : decode cX12_sayMore 132 = .ok (.iaload, 1) := by decide +kernel
theorem dX12_sayMore_133 : decode cX12_sayMore 133 = .ok (.if_icmp .ge 30, 3) := by decide +kernel
theorem dX12_sayMore_136 : decode cX12_sayMore 136 = .ok (.aload_n 0, 1) := by decide +kernel
theorem dX12_sayMore_137 : decode cX12_sayMore 137 = .ok (.iload_n 2, 1) := by decide +kernel
theorem dX12_sayMore_138 : decode cX12_sayMore 138 = .ok (.iload 5, 2) := by decide +kernel
theorem dX12_sayMore_140 : decode cX12_sayMore 140 = .ok (.invokevirtual 364, 3) := by decide +kernel
theorem dX12_sayMore_143 : decode cX12_sayMore 143 = .ok (.ifCond .ne 6, 3) := by decide +kernel
theorem dX12_sayMore_146 : decode cX12_sayMore 146 = .ok (.goto 17, 3) := by decide +kernel
theorem dX12_sayMore_149 : decode cX12_sayMore 149 = .ok (.aload_n 0, 1) := by decide +kernel
theorem dX12_sayMore_150 : decode cX12_sayMore 150 = .ok (.getfield 120, 3) := by decide +kernel
theorem dX12_sayMore_153 : decode cX12_sayMore 153 = .ok (.bipush 7, 2) := by decide +kernel
theorem dX12_sayMore_155 : decode cX12_sayMore 155 = .ok (.iload 5, 2) := by decide +kernel
theorem dX12_sayMore_157 : decode cX12_sayMore 157 = .ok (.imul, 1) := by decide +kernel
theorem dX12_sayMore_158 : decode cX12_sayMore 158 = .ok (.iload 4, 2) := by decide +kernel
theorem dX12_sayMore_160 : decode cX12_sayMore 160 = .ok (.iastore, 1) := by decide +kernel
theorem dX12_sayMore_161 : decode cX12_sayMore 161 = .ok (.iconst 1, 1) := by decide +kernel
theorem dX12_sayMore_162 : decode cX12_sayMore 162 = .ok (.istore_n 1, 1) := by decide +kernel
theorem dX12_sayMore_163 : decode cX12_sayMore 163 = .ok (.iinc 5 1, 3) := by decide +kernel
theorem dX12_sayMore_166 : decode cX12_sayMore 166 = .ok (.goto (-71), 3) := by decide +kernel
theorem dX12_sayMore_169 : decode cX12_sayMore 169 = .ok (.iinc 3 1, 3) := by decide +kernel
theorem dX12_sayMore_172 : decode cX12_sayMore 172 = .ok (.goto (-152), 3) := by decide +kernel
theorem dX12_sayMore_175 : decode cX12_sayMore 175 = .ok (.iinc 2 1, 3) := by decide +kernel
theorem dX12_sayMore_178 : decode cX12_sayMore 178 = .ok (.goto (-168), 3) := by decide +kernel
theorem dX12_sayMore_181 : decode cX12_sayMore 181 = .ok (.goto (-179), 3) := by decide +kernel
theorem dX12_sayMore_184 : decode cX12_sayMore 184 = .ok (.return_, 1) := by decide +kernel
theorem dX12_hearOne_0 : decode cX12_hearOne 0 = .ok (.iconst 0, 1) := by decide +kernel
theorem dX12_hearOne_1 : decode cX12_hearOne 1 = .ok (.istore_n 2, 1) := by decide +kernel
theorem dX12_hearOne_2 : decode cX12_hearOne 2 = .ok (.iload_n 2, 1) := by decide +kernel
theorem dX12_hearOne_3 : decode cX12_hearOne 3 = .ok (.bipush 70, 2) := by decide +kernel
theorem dX12_hearOne_5 : decode cX12_hearOne 5 = .ok (.if_icmp .ge 23, 3) := by decide +kernel
theorem dX12_hearOne_8 : decode cX12_hearOne 8 = .ok (.aload_n 0, 1) := by decide +kernel
theorem dX12_hearOne_9 : decode cX12_hearOne 9 = .ok (.getfield 123, 3) := by decide +kernel
theorem dX12_hearOne_12 : decode cX12_hearOne 12 = .ok (.iload_n 2, 1) := by decide +kernel
theorem dX12_hearOne_13 : decode cX12_hearOne 13 = .ok (.aload_n 0, 1) := by decide +kernel
theorem dX12_hearOne_14 : decode cX12_hearOne 14 = .ok (.getfield 120, 3) := by decide +kernel
theorem dX12_hearOne_17 : decode cX12_hearOne 17 = .ok (.iload_n 2, 1) := by decide +kernel
theorem dX12_hearOne_18 : decode cX12_hearOne 18 = .ok (.iaload, 1) := by decide +kernel
theorem dX12_hearOne_19 : decode cX12_hearOne 19 = .ok (.iconst 1, 1) := by decide +kernel
theorem dX12_hearOne_20 : decode cX12_hearOne 20 = .ok (.iadd, 1) := by decide +kernel
theorem dX12_hearOne_21 : decode cX12_hearOne 21 = .ok (.iastore, 1) := by decide +kernel
theorem dX12_hearOne_22 : decode cX12_hearOne 22 = .ok (.iinc 2 1, 3) := by decide +kernel
theorem dX12_hearOne_25 : decode cX12_hearOne 25 = .ok (.goto (-23), 3) := by decide +kernel
theorem dX12_hearOne_28 : decode cX12_hearOne 28 = .ok (.iconst 0, 1) := by decide +kernel
theorem dX12_hearOne_29 : decode cX12_hearOne 29 = .ok (.istore_n 2, 1) := by decide +kernel
theorem dX12_hearOne_30 : decode cX12_hearOne 30 = .ok (.iload_n 2, 1) := by decide +kernel
theorem dX12_hearOne_31 : decode cX12_hearOne 31 = .ok (.aload_n 0, 1) := by decide +kernel
theorem dX12_hearOne_32 : decode cX12_hearOne 32 = .ok (.getfield 162, 3) := by decide +kernel
theorem dX12_hearOne_35 : decode cX12_hearOne 35 = .ok (.if_icmp .ge 84, 3) := by decide +kernel
theorem dX12_hearOne_38 : decode cX12_hearOne 38 = .ok (.iconst 0, 1) := by decide +kernel
theorem dX12_hearOne_39 : decode cX12_hearOne 39 = .ok (.istore_n 3, 1) := by decide +kernel
theorem dX12_hearOne_40 : decode cX12_hearOne 40 = .ok (.iload_n 3, 1) := by decide +kernel
theorem dX12_hearOne_41 : decode cX12_hearOne 41 = .ok (.aload_n 0, 1) := by decide +kernel
theorem dX12_hearOne_42 : decode cX12_hearOne 42 = .ok (.getfield 106, 3) := by decide +kernel
theorem dX12_hearOne_45 : decode cX12_hearOne 45 = .ok (.iload_n 2, 1) := by decide +kernel
theorem dX12_hearOne_46 : decode cX12_hearOne 46 = .ok (.iaload, 1) := by decide +kernel
theorem dX12_hearOne_47 : decode cX12_hearOne 47 = .ok (.if_icmp .ge 66, 3) := by decide +kernel
theorem dX12_hearOne_50 : decode cX12_hearOne 50 = .ok (.bipush 7, 2) := by decide +kernel
theorem dX12_hearOne_52 : decode cX12_hearOne 52 = .ok (.iload_n 2, 1) := by decide +kernel
theorem dX12_hearOne_53 : decode cX12_hearOne 53 = .ok (.imul, 1) := by decide +kernel
theorem dX12_hearOne_54 : decode cX12_hearOne 54 = .ok (.iload_n 3, 1) := by decide +kernel
theorem dX12_hearOne_55 : decode cX12_hearOne 55 = .ok (.iadd, 1) := by decide +kernel
theorem dX12_hearOne_56 : decode cX12_hearOne 56 = .ok (.iconst 1, 1) := by decide +kernel
theorem dX12_hearOne_57 : decode cX12_hearOne 57 = .ok (.iadd, 1) := by decide +kernel
theorem dX12_hearOne_58 : decode cX12_hearOne 58 = .ok (.istore 4, 2) := by decide +kernel
theorem dX12_hearOne_60 : decode cX12_hearOne 60 = .ok (.aload_n 0, 1) := by decide +kernel
theorem dX12_hearOne_61 : decode cX12_hearOne 61 = .ok (.getfield 123, 3) := by decide +kernel
theorem dX12_hearOne_64 : decode cX12_hearOne 64 = .ok (.iload 4, 2) := by decide +kernel
theorem dX12_hearOne_66 : decode cX12_hearOne 66 = .ok (.aload_n 0, 1) := by decide +kernel
theorem dX12_hearOne_67 : decode cX12_hearOne 67 = .ok (.getfield 123, 3) := by decide +kernel
theorem dX12_hearOne_70 : decode cX12_hearOne 70 = .ok (.iload 4, 2) := by decide +kernel
theorem dX12_hearOne_72 : decode cX12_hearOne 72 = .ok (.iaload, 1) := by decide +kernel
theorem dX12_hearOne_73 : decode cX12_hearOne 73 = .ok (.aload_n 0, 1) := by decide +kernel
theorem dX12_hearOne_74 : decode cX12_hearOne 74 = .ok (.getfield 120, 3) := by decide +kernel
theorem dX12_hearOne_77 : decode cX12_hearOne 77 = .ok (.iload 4, 2) := by decide +kernel
theorem dX12_hearOne_79 : decode cX12_hearOne 79 = .ok (.iconst 1, 1) := by decide +kernel
theorem dX12_hearOne_80 : decode cX12_hearOne 80 = .ok (.isub, 1) := by decide +kernel
theorem dX12_hearOne_81 : decode cX12_hearOne 81 = .ok (.iaload, 1) := by decide +kernel
theorem dX12_hearOne_82 : decode cX12_hearOne 82 = .ok (.aload_n 0, 1) := by decide +kernel
theorem dX12_hearOne_83 : decode cX12_hearOne 83 = .ok (.getfield 103, 3) := by decide +kernel
theorem dX12_hearOne_86 : decode cX12_hearOne 86 = .ok (.bipush 6, 2) := by decide +kernel
theorem dX12_hearOne_88 : decode cX12_hearOne 88 = .ok (.iload_n 2, 1) := by decide +kernel
theorem dX12_hearOne_89 : decode cX12_hearOne 89 = .ok (.imul, 1) := by decide +kernel
theorem dX12_hearOne_90 : decode cX12_hearOne 90 = .ok (.iload_n 3, 1) := by decide +kernel
theorem dX12_hearOne_91 : decode cX12_hearOne 91 = .ok (.iadd, 1) := by decide +kernel
theorem dX12_hearOne_92 : decode cX12_hearOne 92 = .ok (.iaload, 1) := by decide +kernel
theorem dX12_hearOne_93 : decode cX12_hearOne 93 = .ok (.iload_n 1, 1) := by decide +kernel
theorem dX12_hearOne_94 : decode cX12_hearOne 94 = .ok (.if_icmp .ne 7, 3) := by decide +kernel
theorem dX12_hearOne_97 : decode cX12_hearOne 97 = .ok (.iconst 0, 1) := by decide +kernel
theorem dX12_hearOne_98 : decode cX12_hearOne 98 = .ok (.goto 4, 3) := by decide +kernel
theorem dX12_hearOne_101 : decode cX12_hearOne 101 = .ok (.iconst 1, 1) := by decide +kernel
theorem dX12_hearOne_102 : decode cX12_hearOne 102 = .ok (.iadd, 1) := by decide +kernel
theorem dX12_hearOne_103 : decode cX12_hearOne 103 = .ok (.invokestatic 200, 3) := by decide +kernel
theorem dX12_hearOne_106 : decode cX12_hearOne 106 = .ok (.iastore, 1) := by decide +kernel
theorem dX12_hearOne_107 : decode cX12_hearOne 107 = .ok (.iinc 3 1, 3) := by decide +kernel
theorem dX12_hearOne_110 : decode cX12_hearOne 110 = .ok (.goto (-70), 3) := by decide +kernel
theorem dX12_hearOne_113 : decode cX12_hearOne 113 = .ok (.iinc 2 1, 3) := by decide +kernel
theorem dX12_hearOne_116 : decode cX12_hearOne 116 = .ok (.goto (-86), 3) := by decide +kernel
theorem dX12_hearOne_119 : decode cX12_hearOne 119 = .ok (.iconst 0, 1) := by decide +kernel
theorem dX12_hearOne_120 : decode cX12_hearOne 120 = .ok (.istore_n 2, 1) := by decide +kernel
theorem dX12_hearOne_121 : decode cX12_hearOne 121 = .ok (.iload_n 2, 1) := by decide +kernel
theorem dX12_hearOne_122 : decode cX12_hearOne 122 = .ok (.bipush 70, 2) := by decide +kernel
theorem dX12_hearOne_124 : decode cX12_hearOne 124 = .ok (.if_icmp .ge 26, 3) := by decide +kernel
theorem dX12_hearOne_127 : decode cX12_hearOne 127 = .ok (.aload_n 0, 1) := by decide +kernel
theorem dX12_hearOne_128 : decode cX12_hearOne 128 = .ok (.getfield 120, 3) := by decide +kernel
theorem dX12_hearOne_131 : decode cX12_hearOne 131 = .ok (.iload_n 2, 1) := by decide +kernel
theorem dX12_hearOne_132 : decode cX12_hearOne 132 = .ok (.ldc 199, 2) := by decide +kernel
theorem dX12_hearOne_134 : decode cX12_hearOne 134 = .ok (.aload_n 0, 1) := by decide +kernel
theorem dX12_hearOne_135 : decode cX12_hearOne 135 = .ok (.getfield 123, 3) := by decide +kernel
theorem dX12_hearOne_138 : decode cX12_hearOne 138 = .ok (.iload_n 2, 1) := by decide +kernel
theorem dX12_hearOne_139 : decode cX12_hearOne 139 = .ok (.iaload, 1) := by decide +kernel
theorem dX12_hearOne_140 : decode cX12_hearOne 140 = .ok (.invokestatic 200, 3) := by decide +kernel
theorem dX12_hearOne_143 : decode cX12_hearOne 143 = .ok (.iastore, 1) := by decide +kernel
theorem dX12_hearOne_144 : decode cX12_hearOne 144 = .ok (.iinc 2 1, 3) := by decide +kernel
theorem dX12_hearOne_147 : decode cX12_hearOne 147 = .ok (.goto (-26), 3) := by decide +kernel
theorem dX12_hearOne_150 : decode cX12_hearOne 150 = .ok (.return_, 1) := by decide +kernel
theorem dX12_mend_0 : decode cX12_mend 0 = .ok (.aload_n 0, 1) := by decide +kernel
theorem dX12_mend_1 : decode cX12_mend 1 = .ok (.iconst 0, 1) := by decide +kernel
theorem dX12_mend_2 : decode cX12_mend 2 = .ok (.putfield 159, 3) := by decide +kernel
theorem dX12_mend_5 : decode cX12_mend 5 = .ok (.iload_n 1, 1) := by decide +kernel
theorem dX12_mend_6 : decode cX12_mend 6 = .ok (.invokestatic 345, 3) := by decide +kernel
theorem dX12_mend_9 : decode cX12_mend 9 = .ok (.ifCond .ne 9, 3) := by decide +kernel
theorem dX12_mend_12 : decode cX12_mend 12 = .ok (.aload_n 0, 1) := by decide +kernel
theorem dX12_mend_13 : decode cX12_mend 13 = .ok (.iconst 1, 1) := by decide +kernel
theorem dX12_mend_14 : decode cX12_mend 14 = .ok (.invokevirtual 292, 3) := by decide +kernel
theorem dX12_mend_17 : decode cX12_mend 17 = .ok (.ireturn, 1) := by decide +kernel
theorem dX12_mend_18 : decode cX12_mend 18 = .ok (.aload_n 0, 1) := by decide +kernel
theorem dX12_mend_19 : decode cX12_mend 19 = .ok (.iload_n 1, 1) := by decide +kernel
theorem dX12_mend_20 : decode cX12_mend 20 = .ok (.invokevirtual 358, 3) := by decide +kernel
theorem dX12_mend_23 : decode cX12_mend 23 = .ok (.iconst 0, 1) := by decide +kernel
theorem dX12_mend_24 : decode cX12_mend 24 = .ok (.istore_n 2, 1) := by decide +kernel
theorem dX12_mend_25 : decode cX12_mend 25 = .ok (.iload_n 2, 1) := by decide +kernel
theorem dX12_mend_26 : decode cX12_mend 26 = .ok (.bipush 70, 2) := by decide +kernel
theorem dX12_mend_28 : decode cX12_mend 28 = .ok (.if_icmp .ge 17, 3) := by decide +kernel
theorem dX12_mend_31 : decode cX12_mend 31 = .ok (.aload_n 0, 1) := by decide +kernel
theorem dX12_mend_32 : decode cX12_mend 32 = .ok (.getfield 120, 3) := by decide +kernel
theorem dX12_mend_35 : decode cX12_mend 35 = .ok (.iload_n 2, 1) := by decide +kernel
theorem dX12_mend_36 : decode cX12_mend 36 = .ok (.ldc 199, 2) := by decide +kernel
theorem dX12_mend_38 : decode cX12_mend 38 = .ok (.iastore, 1) := by decide +kernel
theorem dX12_mend_39 : decode cX12_mend 39 = .ok (.iinc 2 1, 3) := by decide +kernel
theorem dX12_mend_42 : decode cX12_mend 42 = .ok (.goto (-17), 3) := by decide +kernel
theorem dX12_mend_45 : decode cX12_mend 45 = .ok (.iconst 0, 1) := by decide +kernel
theorem dX12_mend_46 : decode cX12_mend 46 = .ok (.istore_n 2, 1) := by decide +kernel
theorem dX12_mend_47 : decode cX12_mend 47 = .ok (.iload_n 2, 1) := by decide +kernel
theorem dX12_mend_48 : decode cX12_mend 48 = .ok (.aload_n 0, 1) := by decide +kernel
theorem dX12_mend_49 : decode cX12_mend 49 = .ok (.getfield 162, 3) := by decide +kernel
theorem dX12_mend_52 : decode cX12_mend 52 = .ok (.if_icmp .ge 19, 3) := by decide +kernel
theorem dX12_mend_55 : decode cX12_mend 55 = .ok (.aload_n 0, 1) := by decide +kernel
theorem dX12_mend_56 : decode cX12_mend 56 = .ok (.getfield 120, 3) := by decide +kernel
theorem dX12_mend_59 : decode cX12_mend 59 = .ok (.bipush 7, 2) := by decide +kernel
theorem dX12_mend_61 : decode cX12_mend 61 = .ok (.iload_n 2, 1) := by decide +kernel
theorem dX12_mend_62 : decode cX12_mend 62 = .ok (.imul, 1) := by decide +kernel
theorem dX12_mend_63 : decode cX12_mend 63 = .ok (.iconst 0, 1) := by decide +kernel
theorem dX12_mend_64 : decode cX12_mend 64 = .ok (.iastore, 1) := by decide +kernel
theorem dX12_mend_65 : decode cX12_mend 65 = .ok (.iinc 2 1, 3) := by decide +kernel
theorem dX12_mend_68 : decode cX12_mend 68 = .ok (.goto (-21), 3) := by decide +kernel
theorem dX12_mend_71 : decode cX12_mend 71 = .ok (.aload_n 0, 1) := by decide +kernel
theorem dX12_mend_72 : decode cX12_mend 72 = .ok (.invokevirtual 402, 3) := by decide +kernel
theorem dX12_mend_75 : decode cX12_mend 75 = .ok (.iconst 0, 1) := by decide +kernel
theorem dX12_mend_76 : decode cX12_mend 76 = .ok (.istore_n 2, 1) := by decide +kernel
theorem dX12_mend_77 : decode cX12_mend 77 = .ok (.iload_n 2, 1) := by decide +kernel
theorem dX12_mend_78 : decode cX12_mend 78 = .ok (.aload_n 0, 1) := by decide +kernel
theorem dX12_mend_79 : decode cX12_mend 79 = .ok (.getfield 355, 3) := by decide +kernel
theorem dX12_mend_82 : decode cX12_mend 82 = .ok (.if_icmp .ge 23, 3) := by decide +kernel
theorem dX12_mend_85 : decode cX12_mend 85 = .ok (.aload_n 0, 1) := by decide +kernel
theorem dX12_mend_86 : decode cX12_mend 86 = .ok (.aload_n 0, 1) := by decide +kernel
theorem dX12_mend_87 : decode cX12_mend 87 = .ok (.getfield 97, 3) := by decide +kernel
theorem dX12_mend_90 : decode cX12_mend 90 = .ok (.iload_n 2, 1) := by decide +kernel
theorem dX12_mend_91 : decode cX12_mend 91 = .ok (.iaload, 1) := by decide +kernel
theorem dX12_mend_92 : decode cX12_mend 92 = .ok (.invokevirtual 405, 3) := by decide +kernel
theorem dX12_mend_95 : decode cX12_mend 95 = .ok (.aload_n 0, 1) := by decide +kernel
theorem dX12_mend_96 : decode cX12_mend 96 = .ok (.invokevirtual 402, 3) := by decide +kernel
theorem dX12_mend_99 : decode cX12_mend 99 = .ok (.iinc 2 1, 3) := by decide +kernel
theorem dX12_mend_102 : decode cX12_mend 102 = .ok (.goto (-25), 3) := by decide +kernel
theorem dX12_mend_105 : decode cX12_mend 105 = .ok (.ldc 199, 2) := by decide +kernel
theorem dX12_mend_107 : decode cX12_mend 107 = .ok (.istore_n 2, 1) := by decide +kernel
theorem dX12_mend_108 : decode cX12_mend 108 = .ok (.iconst 0, 1) := by decide +kernel
theorem dX12_mend_109 : decode cX12_mend 109 = .ok (.istore_n 3, 1) := by decide +kernel
theorem dX12_mend_110 : decode cX12_mend 110 = .ok (.iload_n 3, 1) := by decide +kernel
theorem dX12_mend_111 : decode cX12_mend 111 = .ok (.aload_n 0, 1) := by decide +kernel
theorem dX12_mend_112 : decode cX12_mend 112 = .ok (.getfield 162, 3) := by decide +kernel
theorem dX12_mend_115 : decode cX12_mend 115 = .ok (.if_icmp .ge 30, 3) := by decide +kernel
theorem dX12_mend_118 : decode cX12_mend 118 = .ok (.iload_n 2, 1) := by decide +kernel
theorem dX12_mend_119 : decode cX12_mend 119 = .ok (.aload_n 0, 1) := by decide +kernel
theorem dX12_mend_120 : decode cX12_mend 120 = .ok (.getfield 120, 3) := by decide +kernel
theorem dX12_mend_123 : decode cX12_mend 123 = .ok (.bipush 7, 2) := by decide +kernel
theorem dX12_mend_125 : decode cX12_mend 125 = .ok (.iload_n 3, 1) := by decide +kernel
theorem dX12_mend_126 : decode cX12_mend 126 = .ok (.imul, 1) := by decide +kernel
theorem dX12_mend_127 : decode cX12_mend 127 = .ok (.aload_n 0, 1) := by decide +kernel
theorem dX12_mend_128 : decode cX12_mend 128 = .ok (.getfield 106, 3) := by decide +kernel
theorem dX12_mend_131 : decode cX12_mend 131 = .ok (.iload_n 3, 1) := by decide +kernel
theorem dX12_mend_132 : decode cX12_mend 132 = .ok (.iaload, 1) := by decide +kernel
theorem dX12_mend_133 : decode cX12_mend 133 = .ok (.iadd, 1) := by decide +kernel
theorem dX12_mend_134 : decode cX12_mend 134 = .ok (.iaload, 1) := by decide +kernel
theorem dX12_mend_135 : decode cX12_mend 135 = .ok (.invokestatic 200, 3) := by decide +kernel
theorem dX12_mend_138 : decode cX12_mend 138 = .ok (.istore_n 2, 1) := by decide +kernel
theorem dX12_mend_139 : decode cX12_mend 139 = .ok (.iinc 3 1, 3) := by decide +kernel
theorem dX12_mend_142 : decode cX12_mend 142 = .ok (.goto (-32), 3) := by decide +kernel
theorem dX12_mend_145 : decode cX12_mend 145 = .ok (.iload_n 2, 1) := by decide +kernel
theorem dX12_mend_146 : decode cX12_mend 146 = .ok (.ldc 199, 2) := by decide +kernel
theorem dX12_mend_148 : decode cX12_mend 148 = .ok (.if_icmp .lt 7, 3) := by decide +kernel
theorem dX12_mend_151 : decode cX12_mend 151 = .ok (.iconst (-1), 1) := by decide +kernel
theorem dX12_mend_152 : decode cX12_mend 152 = .ok (.goto 4, 3) := by decide +kernel
theorem dX12_mend_155 : decode cX12_mend 155 = .ok (.iload_n 2, 1) := by decide +kernel
theorem dX12_mend_156 : decode cX12_mend 156 = .ok (.ireturn, 1) := by decide +kernel
theorem dX12_power_0 : decode cX12_power 0 = .ok (.iconst 1, 1) := by decide +kernel
theorem dX12_power_1 : decode cX12_power 1 = .ok (.istore_n 1, 1) := by decide +kernel
theorem dX12_power_2 : decode cX12_power 2 = .ok (.iconst 0, 1) := by decide +kernel
theorem dX12_power_3 : decode cX12_power 3 = .ok (.istore_n 2, 1) := by decide +kernel
theorem dX12_power_4 : decode cX12_power 4 = .ok (.iload_n 2, 1) := by decide +kernel
theorem dX12_power_5 : decode cX12_power 5 = .ok (.iload_n 0, 1) := by decide +kernel
theorem dX12_power_6 : decode cX12_power 6 = .ok (.if_icmp .ge 13, 3) := by decide +kernel
theorem dX12_power_9 : decode cX12_power 9 = .ok (.iload_n 1, 1) := by decide +kernel
theorem dX12_power_10 : decode cX12_power 10 = .ok (.iconst 5, 1) := by decide +kernel
theorem dX12_power_11 : decode cX12_power 11 = .ok (.imul, 1) := by decide +kernel
theorem dX12_power_12 : decode cX12_power 12 = .ok (.istore_n 1, 1) := by decide +kernel
theorem dX12_power_13 : decode cX12_power 13 = .ok (.iinc 2 1, 3) := by decide +kernel
theorem dX12_power_16 : decode cX12_power 16 = .ok (.goto (-12), 3) := by decide +kernel
theorem dX12_power_19 : decode cX12_power 19 = .ok (.iload_n 1, 1) := by decide +kernel
theorem dX12_power_20 : decode cX12_power 20 = .ok (.ireturn, 1) := by decide +kernel
theorem dX12_behind_0 : decode cX12_behind 0 = .ok (.iload_n 0, 1) := by decide +kernel
theorem dX12_behind_1 : decode cX12_behind 1 = .ok (.invokestatic 322, 3) := by decide +kernel
theorem dX12_behind_4 : decode cX12_behind 4 = .ok (.iload_n 1, 1) := by decide +kernel
theorem dX12_behind_5 : decode cX12_behind 5 = .ok (.invokestatic 322, 3) := by decide +kernel
theorem dX12_behind_8 : decode cX12_behind 8 = .ok (.isub, 1) := by decide +kernel
theorem dX12_behind_9 : decode cX12_behind 9 = .ok (.istore_n 2, 1) := by decide +kernel
theorem dX12_behind_10 : decode cX12_behind 10 = .ok (.iload_n 2, 1) := by decide +kernel
theorem dX12_behind_11 : decode cX12_behind 11 = .ok (.ifCond .ge 5, 3) := by decide +kernel
theorem dX12_behind_14 : decode cX12_behind 14 = .ok (.iconst (-1), 1) := by decide +kernel
theorem dX12_behind_15 : decode cX12_behind 15 = .ok (.ireturn, 1) := by decide +kernel
theorem dX12_behind_16 : decode cX12_behind 16 = .ok (.iload_n 2, 1) := by decide +kernel
theorem dX12_behind_17 : decode cX12_behind 17 = .ok (.invokestatic 408, 3) := by decide +kernel
theorem dX12_behind_20 : decode cX12_behind 20 = .ok (.istore_n 3, 1) := by decide +kernel
theorem dX12_behind_21 : decode cX12_behind 21 = .ok (.iload_n 0, 1) := by decide +kernel
theorem dX12_behind_22 : decode cX12_behind 22 = .ok (.iload_n 3, 1) := by decide +kernel
theorem dX12_behind_23 : decode cX12_behind 23 = .ok (.idiv, 1) := by decide +kernel
theorem dX12_behind_24 : decode cX12_behind 24 = .ok (.iload_n 1, 1) := by decide +kernel
theorem dX12_behind_25 : decode cX12_behind 25 = .ok (.if_icmp .ne 9, 3) := by decide +kernel
theorem dX12_behind_28 : decode cX12_behind 28 = .ok (.iload_n 0, 1) := by decide +kernel
theorem dX12_behind_29 : decode cX12_behind 29 = .ok (.iload_n 3, 1) := by decide +kernel
theorem dX12_behind_30 : decode cX12_behind 30 = .ok (.irem, 1) := by decide +kernel
theorem dX12_behind_31 : decode cX12_behind 31 = .ok (.goto 4, 3) := by decide +kernel
theorem dX12_behind_34 : decode cX12_behind 34 = .ok (.iconst (-1), 1) := by decide +kernel
theorem dX12_behind_35 : decode cX12_behind 35 = .ok (.ireturn, 1) := by decide +kernel
theorem dX12_isTail_0 : decode cX12_isTail 0 = .ok (.iload_n 1, 1) := by decide +kernel
theorem dX12_isTail_1 : decode cX12_isTail 1 = .ok (.ifCond .ne 17, 3) := by decide +kernel
theorem dX12_isTail_4 : decode cX12_isTail 4 = .ok (.aload_n 0, 1) := by decide +kernel
theorem dX12_isTail_5 : decode cX12_isTail 5 = .ok (.aload_n 0, 1) := by decide +kernel
theorem dX12_isTail_6 : decode cX12_isTail 6 = .ok (.getfield 411, 3) := by decide +kernel
theorem dX12_isTail_9 : decode cX12_isTail 9 = .ok (.iload_n 2, 1) := by decide +kernel
theorem dX12_isTail_10 : decode cX12_isTail 10 = .ok (.invokestatic 200, 3) := by decide +kernel
theorem dX12_isTail_13 : decode cX12_isTail 13 = .ok (.putfield 411, 3) := by decide +kernel
theorem dX12_isTail_16 : decode cX12_isTail 16 = .ok (.iconst 0, 1) := by decide +kernel
theorem dX12_isTail_17 : decode cX12_isTail 17 = .ok (.ireturn, 1) := by decide +kernel
theorem dX12_isTail_18 : decode cX12_isTail 18 = .ok (.iload_n 2, 1) := by decide +kernel
theorem dX12_isTail_19 : decode cX12_isTail 19 = .ok (.aload_n 0, 1) := by decide +kernel
theorem dX12_isTail_20 : decode cX12_isTail 20 = .ok (.getfield 126, 3) := by decide +kernel
theorem dX12_isTail_23 : decode cX12_isTail 23 = .ok (.iload_n 1, 1) := by decide +kernel
theorem dX12_isTail_24 : decode cX12_isTail 24 = .ok (.iaload, 1) := by decide +kernel
theorem dX12_isTail_25 : decode cX12_isTail 25 = .ok (.if_icmp .lt 5, 3) := by decide +kernel
theorem dX12_isTail_28 : decode cX12_isTail 28 = .ok (.iconst 0, 1) := by decide +kernel
theorem dX12_isTail_29 : decode cX12_isTail 29 = .ok (.ireturn, 1) := by decide +kernel
theorem dX12_isTail_30 : decode cX12_isTail 30 = .ok (.aload_n 0, 1) := by decide +kernel
theorem dX12_isTail_31 : decode cX12_isTail 31 = .ok (.getfield 126, 3) := by decide +kernel
theorem dX12_isTail_34 : decode cX12_isTail 34 = .ok (.iload_n 1, 1) := by decide +kernel
theorem dX12_isTail_35 : decode cX12_isTail 35 = .ok (.iload_n 2, 1) := by decide +kernel
theorem dX12_isTail_36 : decode cX12_isTail 36 = .ok (.iastore, 1) := by decide +kernel
theorem dX12_isTail_37 : decode cX12_isTail 37 = .ok (.iconst 1, 1) := by decide +kernel
theorem dX12_isTail_38 : decode cX12_isTail 38 = .ok (.ireturn, 1) := by decide +kernel
theorem dX12_goOn_0 : decode cX12_goOn 0 = .ok (.aload_n 0, 1) := by decide +kernel
theorem dX12_goOn_1 : decode cX12_goOn 1 = .ok (.getfield 126, 3) := by decide +kernel
theorem dX12_goOn_4 : decode cX12_goOn 4 = .ok (.iload_n 1, 1) := by decide +kernel
theorem dX12_goOn_5 : decode cX12_goOn 5 = .ok (.iaload, 1) := by decide +kernel
theorem dX12_goOn_6 : decode cX12_goOn 6 = .ok (.istore_n 2, 1) := by decide +kernel
theorem dX12_goOn_7 : decode cX12_goOn 7 = .ok (.iconst 0, 1) := by decide +kernel
theorem dX12_goOn_8 : decode cX12_goOn 8 = .ok (.istore_n 3, 1) := by decide +kernel
theorem dX12_goOn_9 : decode cX12_goOn 9 = .ok (.iconst 0, 1) := by decide +kernel
theorem dX12_goOn_10 : decode cX12_goOn 10 = .ok (.istore 4, 2) := by decide +kernel
theorem dX12_goOn_12 : decode cX12_goOn 12 = .ok (.iload 4, 2) := by decide +kernel
theorem dX12_goOn_14 : decode cX12_goOn 14 = .ok (.aload_n 0, 1) := by decide +kernel
theorem dX12_goOn_15 : decode cX12_goOn 15 = .ok (.getfield 162, 3) := by decide +kernel
theorem dX12_goOn_18 : decode cX12_goOn 18 = .ok (.if_icmp .ge 76, 3) := by decide +kernel
theorem dX12_goOn_21 : decode cX12_goOn 21 = .ok (.iload_n 1, 1) := by decide +kernel
theorem dX12_goOn_22 : decode cX12_goOn 22 = .ok (.aload_n 0, 1) := by decide +kernel
theorem dX12_goOn_23 : decode cX12_goOn 23 = .ok (.getfield 79, 3) := by decide +kernel
theorem dX12_goOn_26 : decode cX12_goOn 26 = .ok (.iload 4, 2) := by decide +kernel
theorem dX12_goOn_28 : decode cX12_goOn 28 = .ok (.iaload, 1) := by decide +kernel
theorem dX12_goOn_29 : decode cX12_goOn 29 = .ok (.invokestatic 414, 3) := by decide +kernel
theorem dX12_goOn_32 : decode cX12_goOn 32 = .ok (.istore 5, 2) := by decide +kernel
theorem dX12_goOn_34 : decode cX12_goOn 34 = .ok (.iload 5, 2) := by decide +kernel
theorem dX12_goOn_36 : decode cX12_goOn 36 = .ok (.iconst (-1), 1) := by decide +kernel
theorem dX12_goOn_37 : decode cX12_goOn 37 = .ok (.if_icmp .eq 16, 3) := by decide +kernel
theorem dX12_goOn_40 : decode cX12_goOn 40 = .ok (.iload_n 3, 1) := by decide +kernel
theorem dX12_goOn_41 : decode cX12_goOn 41 = .ok (.aload_n 0, 1) := by decide +kernel
theorem dX12_goOn_42 : decode cX12_goOn 42 = .ok (.iload 5, 2) := by decide +kernel
theorem dX12_goOn_44 : decode cX12_goOn 44 = .ok (.iload_n 2, 1) := by decide +kernel
theorem dX12_goOn_45 : decode cX12_goOn 45 = .ok (.invokevirtual 417, 3) := by decide +kernel
theorem dX12_goOn_48 : decode cX12_goOn 48 = .ok (.ior, 1) := by decide +kernel
theorem dX12_goOn_49 : decode cX12_goOn 49 = .ok (.istore_n 3, 1) := by decide +kernel
theorem dX12_goOn_50 : decode cX12_goOn 50 = .ok (.goto 38, 3) := by decide +kernel
theorem dX12_goOn_53 : decode cX12_goOn 53 = .ok (.aload_n 0, 1) := by decide +kernel
theorem dX12_goOn_54 : decode cX12_goOn 54 = .ok (.getfield 79, 3) := by decide +kernel
theorem dX12_goOn_57 : decode cX12_goOn 57 = .ok (.iload 4, 2) := by decide +kernel
theorem dX12_goOn_59 : decode cX12_goOn 59 = .ok (.iaload, 1) := by decide +kernel
theorem dX12_goOn_60 : decode cX12_goOn 60 = .ok (.iload_n 1, 1) := by decide +kernel
theorem dX12_goOn_61 : decode cX12_goOn 61 = .ok (.invokestatic 414, 3) := by decide +kernel
theorem dX12_goOn_64 : decode cX12_goOn 64 = .ok (.istore 5, 2) := by decide +kernel
theorem dX12_goOn_66 : decode cX12_goOn 66 = .ok (.iload 5, 2) := by decide +kernel
theorem dX12_goOn_68 : decode cX12_goOn 68 = .ok (.iconst (-1), 1) := by decide +kernel
theorem dX12_goOn_69 : decode cX12_goOn 69 = .ok (.if_icmp .eq 19, 3) := by decide +kernel
theorem dX12_goOn_72 : decode cX12_goOn 72 = .ok (.iload_n 3, 1) := by decide +kernel
theorem dX12_goOn_73 : decode cX12_goOn 73 = .ok (.aload_n 0, 1) := by decide +kernel
theorem dX12_goOn_74 : decode cX12_goOn 74 = .ok (.iload 5, 2) := by decide +kernel
theorem dX12_goOn_76 : decode cX12_goOn 76 = .ok (.iload_n 2, 1) := by decide +kernel
theorem dX12_goOn_77 : decode cX12_goOn 77 = .ok (.iload 5, 2) := by decide +kernel
theorem dX12_goOn_79 : decode cX12_goOn 79 = .ok (.invokestatic 322, 3) := by decide +kernel
theorem dX12_goOn_82 : decode cX12_goOn 82 = .ok (.iadd, 1) := by decide +kernel
theorem dX12_goOn_83 : decode cX12_goOn 83 = .ok (.invokevirtual 417, 3) := by decide +kernel
theorem dX12_goOn_86 : decode cX12_goOn 86 = .ok (.ior, 1) := by decide +kernel
theorem dX12_goOn_87 : decode cX12_goOn 87 = .ok (.istore_n 3, 1) := by decide +kernel
theorem dX12_goOn_88 : decode cX12_goOn 88 = .ok (.iinc 4 1, 3) := by decide +kernel
theorem dX12_goOn_91 : decode cX12_goOn 91 = .ok (.goto (-79), 3) := by decide +kernel
theorem dX12_goOn_94 : decode cX12_goOn 94 = .ok (.iload_n 3, 1) := by decide +kernel
theorem dX12_goOn_95 : decode cX12_goOn 95 = .ok (.ireturn, 1) := by decide +kernel
theorem dX12_twoWays_0 : decode cX12_twoWays 0 = .ok (.aload_n 0, 1) := by decide +kernel
theorem dX12_twoWays_1 : decode cX12_twoWays 1 = .ok (.iconst 0, 1) := by decide +kernel
theorem dX12_twoWays_2 : decode cX12_twoWays 2 = .ok (.putfield 159, 3) := by decide +kernel
theorem dX12_twoWays_5 : decode cX12_twoWays 5 = .ok (.aload_n 0, 1) := by decide +kernel
theorem dX12_twoWays_6 : decode cX12_twoWays 6 = .ok (.ldc 199, 2) := by decide +kernel
theorem dX12_twoWays_8 : decode cX12_twoWays 8 = .ok (.putfield 411, 3) := by decide +kernel
theorem dX12_twoWays_11 : decode cX12_twoWays 11 = .ok (.iconst 0, 1) := by decide +kernel
theorem dX12_twoWays_12 : decode cX12_twoWays 12 = .ok (.istore_n 1, 1) := by decide +kernel
theorem dX12_twoWays_13 : decode cX12_twoWays 13 = .ok (.iload_n 1, 1) := by decide +kernel
theorem dX12_twoWays_14 : decode cX12_twoWays 14 = .ok (.sipush 3125, 3) := by decide +kernel
theorem dX12_twoWays_17 : decode cX12_twoWays 17 = .ok (.if_icmp .ge 17, 3) := by decide +kernel
theorem dX12_twoWays_20 : decode cX12_twoWays 20 = .ok (.aload_n 0, 1) := by decide +kernel
theorem dX12_twoWays_21 : decode cX12_twoWays 21 = .ok (.getfield 126, 3) := by decide +kernel
theorem dX12_twoWays_24 : decode cX12_twoWays 24 = .ok (.iload_n 1, 1) := by decide +kernel
theorem dX12_twoWays_25 : decode cX12_twoWays 25 = .ok (.ldc 199, 2) := by decide +kernel
theorem dX12_twoWays_27 : decode cX12_twoWays 27 = .ok (.iastore, 1) := by decide +kernel
theorem dX12_twoWays_28 : decode cX12_twoWays 28 = .ok (.iinc 1 1, 3) := by decide +kernel
theorem dX12_twoWays_31 : decode cX12_twoWays 31 = .ok (.goto (-18), 3) := by decide +kernel
theorem dX12_twoWays_34 : decode cX12_twoWays 34 = .ok (.iconst 0, 1) := by decide +kernel
theorem dX12_twoWays_35 : decode cX12_twoWays 35 = .ok (.istore_n 1, 1) := by decide +kernel
theorem dX12_twoWays_36 : decode cX12_twoWays 36 = .ok (.iload_n 1, 1) := by decide +kernel
theorem dX12_twoWays_37 : decode cX12_twoWays 37 = .ok (.aload_n 0, 1) := by decide +kernel
theorem dX12_twoWays_38 : decode cX12_twoWays 38 = .ok (.getfield 162, 3) := by decide +kernel
theorem dX12_twoWays_41 : decode cX12_twoWays 41 = .ok (.if_icmp .ge 70, 3) := by decide +kernel
theorem dX12_twoWays_44 : decode cX12_twoWays 44 = .ok (.iconst 0, 1) := by decide +kernel
theorem dX12_twoWays_45 : decode cX12_twoWays 45 = .ok (.istore_n 2, 1) := by decide +kernel
theorem dX12_twoWays_46 : decode cX12_twoWays 46 = .ok (.iload_n 2, 1) := by decide +kernel
theorem dX12_twoWays_47 : decode cX12_twoWays 47 = .ok (.aload_n 0, 1) := by decide +kernel
theorem dX12_twoWays_48 : decode cX12_twoWays 48 = .ok (.getfield 162, 3) := by decide +kernel
theorem dX12_twoWays_51 : decode cX12_twoWays 51 = .ok (.if_icmp .ge 54, 3) := by decide +kernel
theorem dX12_twoWays_54 : decode cX12_twoWays 54 = .ok (.iload_n 1, 1) := by decide +kernel
theorem dX12_twoWays_55 : decode cX12_twoWays 55 = .ok (.iload_n 2, 1) := by decide +kernel
theorem dX12_twoWays_56 : decode cX12_twoWays 56 = .ok (.if_icmp .ne 7, 3) := by decide +kernel
theorem dX12_twoWays_59 : decode cX12_twoWays 59 = .ok (.iconst (-1), 1) := by decide +kernel
theorem dX12_twoWays_60 : decode cX12_twoWays 60 = .ok (.goto 18, 3) := by decide +kernel
theorem dX12_twoWays_63 : decode cX12_twoWays 63 = .ok (.aload_n 0, 1) := by decide +kernel
theorem dX12_twoWays_64 : decode cX12_twoWays 64 = .ok (.getfield 79, 3) := by decide +kernel
theorem dX12_twoWays_67 : decode cX12_twoWays 67 = .ok (.iload_n 2, 1) := by decide +kernel
theorem dX12_twoWays_68 : decode cX12_twoWays 68 = .ok (.iaload, 1) := by decide +kernel
theorem dX12_twoWays_69 : decode cX12_twoWays 69 = .ok (.aload_n 0, 1) := by decide +kernel
theorem dX12_twoWays_70 : decode cX12_twoWays 70 = .ok (.getfield 79, 3) := by decide +kernel
theorem dX12_twoWays_73 : decode cX12_twoWays 73 = .ok (.iload_n 1, 1) := by decide +kernel
theorem dX12_twoWays_74 : decode cX12_twoWays 74 = .ok (.iaload, 1) := by decide +kernel
theorem dX12_twoWays_75 : decode cX12_twoWays 75 = .ok (.invokestatic 414, 3) := by decide +kernel
theorem dX12_twoWays_78 : decode cX12_twoWays 78 = .ok (.istore_n 3, 1) := by decide +kernel
theorem dX12_twoWays_79 : decode cX12_twoWays 79 = .ok (.iload_n 3, 1) := by decide +kernel
theorem dX12_twoWays_80 : decode cX12_twoWays 80 = .ok (.iconst (-1), 1) := by decide +kernel
theorem dX12_twoWays_81 : decode cX12_twoWays 81 = .ok (.if_icmp .eq 18, 3) := by decide +kernel
theorem dX12_twoWays_84 : decode cX12_twoWays 84 = .ok (.aload_n 0, 1) := by decide +kernel
theorem dX12_twoWays_85 : decode cX12_twoWays 85 = .ok (.iload_n 3, 1) := by decide +kernel
theorem dX12_twoWays_86 : decode cX12_twoWays 86 = .ok (.aload_n 0, 1) := by decide +kernel
theorem dX12_twoWays_87 : decode cX12_twoWays 87 = .ok (.getfield 79, 3) := by decide +kernel
theorem dX12_twoWays_90 : decode cX12_twoWays 90 = .ok (.iload_n 2, 1) := by decide +kernel
theorem dX12_twoWays_91 : decode cX12_twoWays 91 = .ok (.iaload, 1) := by decide +kernel
theorem dX12_twoWays_92 : decode cX12_twoWays 92 = .ok (.invokestatic 322, 3) := by decide +kernel
theorem dX12_twoWays_95 : decode cX12_twoWays 95 = .ok (.invokevirtual 417, 3) := by decide +kernel
theorem dX12_twoWays_98 : decode cX12_twoWays 98 = .ok (.pop, 1) := by decide +kernel
theorem dX12_twoWays_99 : decode cX12_twoWays 99 = .ok (.iinc 2 1, 3) := by decide +kernel
theorem dX12_twoWays_102 : decode cX12_twoWays 102 = .ok (.goto (-56), 3) := by decide +kernel
theorem dX12_twoWays_105 : decode cX12_twoWays 105 = .ok (.iinc 1 1, 3) := by decide +kernel
theorem dX12_twoWays_108 : decode cX12_twoWays 108 = .ok (.goto (-72), 3) := by decide +kernel
theorem dX12_twoWays_111 : decode cX12_twoWays 111 = .ok (.iconst 1, 1) := by decide +kernel
theorem dX12_twoWays_112 : decode cX12_twoWays 112 = .ok (.istore_n 1, 1) := by decide +kernel
theorem dX12_twoWays_113 : decode cX12_twoWays 113 = .ok (.iload_n 1, 1) := by decide +kernel
theorem dX12_twoWays_114 : decode cX12_twoWays 114 = .ok (.ifCond .eq 55, 3) := by decide +kernel
theorem dX12_twoWays_117 : decode cX12_twoWays 117 = .ok (.iconst 0, 1) := by decide +kernel
theorem dX12_twoWays_118 : decode cX12_twoWays 118 = .ok (.istore_n 1, 1) := by decide +kernel
theorem dX12_twoWays_119 : decode cX12_twoWays 119 = .ok (.iconst 1, 1) := by decide +kernel
theorem dX12_twoWays_120 : decode cX12_twoWays 120 = .ok (.istore_n 2, 1) := by decide +kernel
theorem dX12_twoWays_121 : decode cX12_twoWays 121 = .ok (.iload_n 2, 1) := by decide +kernel
theorem dX12_twoWays_122 : decode cX12_twoWays 122 = .ok (.sipush 3125, 3) := by decide +kernel
theorem dX12_twoWays_125 : decode cX12_twoWays 125 = .ok (.if_icmp .ge 41, 3) := by decide +kernel
theorem dX12_twoWays_128 : decode cX12_twoWays 128 = .ok (.aload_n 0, 1) := by decide +kernel
theorem dX12_twoWays_129 : decode cX12_twoWays 129 = .ok (.getfield 126, 3) := by decide +kernel
theorem dX12_twoWays_132 : decode cX12_twoWays 132 = .ok (.iload_n 2, 1) := by decide +kernel
theorem dX12_twoWays_133 : decode cX12_twoWays 133 = .ok (.iaload, 1) := by decide +kernel
theorem dX12_twoWays_134 : decode cX12_twoWays 134 = .ok (.ldc 199, 2) := by decide +kernel
theorem dX12_twoWays_136 : decode cX12_twoWays 136 = .ok (.if_icmp .ge 24, 3) := by decide +kernel
theorem dX12_twoWays_139 : decode cX12_twoWays 139 = .ok (.aload_n 0, 1) := by decide +kernel
theorem dX12_twoWays_140 : decode cX12_twoWays 140 = .ok (.getfield 126, 3) := by decide +kernel
theorem dX12_twoWays_143 : decode cX12_twoWays 143 = .ok (.iload_n 2, 1) := by decide +kernel
theorem dX12_twoWays_144 : decode cX12_twoWays 144 = .ok (.iaload, 1) := by decide +kernel
theorem dX12_twoWays_145 : decode cX12_twoWays 145 = .ok (.aload_n 0, 1) := by decide +kernel
theorem dX12_twoWays_146 : decode cX12_twoWays 146 = .ok (.getfield 411, 3) := by decide +kernel
theorem dX12_twoWays_149 : decode cX12_twoWays 149 = .ok (.if_icmp .ge 11, 3) := by decide +kernel
theorem dX12_twoWays_152 : decode cX12_twoWays 152 = .ok (.iload_n 1, 1) := by decide +kernel
theorem dX12_twoWays_153 : decode cX12_twoWays 153 = .ok (.aload_n 0, 1) := by decide +kernel
theorem dX12_twoWays_154 : decode cX12_twoWays 154 = .ok (.iload_n 2, 1) := by decide +kernel
theorem dX12_twoWays_155 : decode cX12_twoWays 155 = .ok (.invokevirtual 420, 3) := by decide +kernel
theorem dX12_twoWays_158 : decode cX12_twoWays 158 = .ok (.ior, 1) := by decide +kernel
theorem dX12_twoWays_159 : decode cX12_twoWays 159 = .ok (.istore_n 1, 1) := by decide +kernel
theorem dX12_twoWays_160 : decode cX12_twoWays 160 = .ok (.iinc 2 1, 3) := by decide +kernel
theorem dX12_twoWays_163 : decode cX12_twoWays 163 = .ok (.goto (-42), 3) := by decide +kernel
theorem dX12_twoWays_166 : decode cX12_twoWays 166 = .ok (.goto (-53), 3) := by decide +kernel
theorem dX12_twoWays_169 : decode cX12_twoWays 169 = .ok (.aload_n 0, 1) := by decide +kernel
theorem dX12_twoWays_170 : decode cX12_twoWays 170 = .ok (.getfield 411, 3) := by decide +kernel
theorem dX12_twoWays_173 : decode cX12_twoWays 173 = .ok (.ldc 199, 2) := by decide +kernel
theorem dX12_twoWays_175 : decode cX12_twoWays 175 = .ok (.if_icmp .lt 7, 3) := by decide +kernel
theorem dX12_twoWays_178 : decode cX12_twoWays 178 = .ok (.iconst (-1), 1) := by decide +kernel
theorem dX12_twoWays_179 : decode cX12_twoWays 179 = .ok (.goto 7, 3) := by decide +kernel
theorem dX12_twoWays_182 : decode cX12_twoWays 182 = .ok (.aload_n 0, 1) := by decide +kernel
theorem dX12_twoWays_183 : decode cX12_twoWays 183 = .ok (.getfield 411, 3) := by decide +kernel
theorem dX12_twoWays_186 : decode cX12_twoWays 186 = .ok (.ireturn, 1) := by decide +kernel
def f_MD_worth (n : Nat) (a1 : Int32) (a2 : Int32) (μ : kbM) : Option (Int32 × kbM) :=
  (f_MD_isWord a1 (kbW μ 57 3 0)).bind fun x1 =>
  if x1 = 0 then
    (f_MD_fail 1 (kbW μ 57 3 0)).bind fun x5 =>
    some ((x5.1, x5.2))
  else
    (f_MD_isIn a2.toInt64 0 99).bind fun x2 =>
    if x2 = 0 then
      (f_MD_refuse 1 (kbW μ 57 3 0)).bind fun x4 =>
      some ((x4.1, x4.2))
    else
      (f_MD_keep n (kbW μ 57 3 0)).bind fun x3 =>
      kbIf (kbIn a1 10) <|
      kbIf (kbIn a1 10) <|
      some ((x3.1 72 a1.toNatClampNeg, kbW x3 72 a1.toNatClampNeg a2))
theorem sp_MD_worth {l : Launch} (n : Nat) (a1 : Int32) (a2 : Int32) (μ : kbM)  {x : Int32 × kbM} (h : f_MD_worth n a1 a2 μ = some x) : kbS l MX12_worth 3 [.ref 57, .int a1, .int a2] μ (kbQe (some (.int x.1)) x.2) := by
  refine kb_enter 1 rfl rfl ?_
  suffices H : ∀ (Q : kbQt) (P : Int32 × kbM → Prop), (∀ z : Int32 × kbM, P z → Q (some (.int z.1)) z.2) → kbG (f_MD_worth n a1 a2 μ) P → kbR l MX12_worth 3 Q 0 [some (.ref 57), some (.int a1), some (.int a2), none] [] μ from H _ (fun z => z = x) (fun z e => by subst e; exact ⟨rfl, rfl⟩) ⟨x, h, rfl⟩
  clear h
  intro Q P hr h
  unfold f_MD_worth at h
  refine r_aload_n dX12_worth_0 rfl ?_
  refine r_iconst 0 dX12_worth_1 (by decide) ?_
  refine r_put flX12_159 sh57 rfl rfl rfl dX12_worth_2 ?_
  refine r_aload_n dX12_worth_5 rfl ?_
  refine r_iload_n dX12_worth_6 rfl ?_
  obtain ⟨x1, hx0, h⟩ := kbG_bind h
  refine r_invV_i cvX12_331 sh57 rfl (sp_MD_isWord a1 (kbW μ 57 3 0) hx0) rfl rfl (Nat.le_of_ble_eq_true rfl) (Nat.le_of_ble_eq_true rfl) dX12_worth_7 ?_
  refine r_if_ne 19 dX12_worth_10 (by decide) (fun hc => ?_) (fun hc => ?_)
  · replace h := kbG_f hc h
    refine r_iload_n dX12_worth_19 rfl ?_
    refine r_i2l dX12_worth_20 ?_
    refine r_lconst 0 dX12_worth_21 (by decide) ?_
    refine r_ldc2 99 liX12_391 dX12_worth_22 ?_
    obtain ⟨x2, hx0, h⟩ := kbG_bind h
    refine r_inv_i csX12_165 (sp_MD_isIn a2.toInt64 0 99 (kbW μ 57 3 0) hx0) rfl rfl (Nat.le_of_ble_eq_true rfl) (Nat.le_of_ble_eq_true rfl) dX12_worth_25 ?_
    refine r_if_ne 37 dX12_worth_28 (by decide) (fun hc => ?_) (fun hc => ?_)
    · replace h := kbG_f hc h
      refine r_aload_n dX12_worth_37 rfl ?_
      obtain ⟨x3, hx0, h⟩ := kbG_bind h
      refine r_invV_v cvX12_396 sh57 rfl (sp_MD_keep n (kbW μ 57 3 0) hx0) rfl rfl (Nat.le_of_ble_eq_true rfl) (Nat.le_of_ble_eq_true rfl) dX12_worth_38 ?_
      refine r_aload_n dX12_worth_41 rfl ?_
      refine r_getR flX12_85 sh57 rfl dX12_worth_42 ?_
      refine r_iload_n dX12_worth_45 rfl ?_
      obtain ⟨hin, h⟩ := kbG_if h
      replace hin := kbIn_of hin
      refine q_iald a1.toNatClampNeg rfl sh72 hin dX12_worth_46 ?_
      refine r_istore_n dX12_worth_47 (Nat.le_of_ble_eq_true rfl) rfl ?_
      refine r_aload_n dX12_worth_48 rfl ?_
      refine r_getR flX12_85 sh57 rfl dX12_worth_49 ?_
      refine r_iload_n dX12_worth_52 rfl ?_
      refine r_iload_n dX12_worth_53 rfl ?_
      obtain ⟨hin, h⟩ := kbG_if h
      replace hin := kbIn_of hin
      refine q_iast a1.toNatClampNeg rfl sh72 hin dX12_worth_54 ?_
      refine r_iload_n dX12_worth_55 rfl ?_
      exact r_iret rfl dX12_worth_56 (hr ((x3.1 72 a1.toNatClampNeg, kbW x3 72 a1.toNatClampNeg a2)) (kbG_some h))
    · replace h := kbG_t hc h
      refine r_aload_n dX12_worth_31 rfl ?_
      refine r_iconst 1 dX12_worth_32 (by decide) ?_
      obtain ⟨x4, hx0, h⟩ := kbG_bind h
      refine r_invV_i cvX12_393 sh57 rfl (sp_MD_refuse 1 (kbW μ 57 3 0) hx0) rfl rfl (Nat.le_of_ble_eq_true rfl) (Nat.le_of_ble_eq_true rfl) dX12_worth_33 ?_
      exact r_iret rfl dX12_worth_36 (hr ((x4.1, x4.2)) (kbG_some h))
  · replace h := kbG_t hc h
    refine r_aload_n dX12_worth_13 rfl ?_
    refine r_iconst 1 dX12_worth_14 (by decide) ?_
    obtain ⟨x5, hx0, h⟩ := kbG_bind h
    refine r_invV_i cvX12_292 sh57 rfl (sp_MD_fail 1 (kbW μ 57 3 0) hx0) rfl rfl (Nat.le_of_ble_eq_true rfl) (Nat.le_of_ble_eq_true rfl) dX12_worth_15 ?_
    exact r_iret rfl dX12_worth_18 (hr ((x5.1, x5.2)) (kbG_some h))
def f_MD_part (n : Nat) (a1 : Int32) (a2 : Int32) (μ : kbM) : Option (Int32 × kbM) :=
  (f_MD_isWord a1 (kbW μ 57 3 0)).bind fun x1 =>
  if x1 = 0 then
    (f_MD_fail 1 (kbW μ 57 3 0)).bind fun x5 =>
    some ((x5.1, x5.2))
  else
    (f_MD_isIn a2.toInt64 0 2).bind fun x2 =>
    if x2 = 0 then
      (f_MD_refuse 1 (kbW μ 57 3 0)).bind fun x4 =>
      some ((x4.1, x4.2))
    else
      (f_MD_keep n (kbW μ 57 3 0)).bind fun x3 =>
      kbIf (kbIn a1 10) <|
      kbIf (kbIn a1 10) <|
      some ((x3.1 71 a1.toNatClampNeg, kbW x3 71 a1.toNatClampNeg a2))
theorem sp_MD_part {l : Launch} (n : Nat) (a1 : Int32) (a2 : Int32) (μ : kbM)  {x : Int32 × kbM} (h : f_MD_part n a1 a2 μ = some x) : kbS l MX12_part 3 [.ref 57, .int a1, .int a2] μ (kbQe (some (.int x.1)) x.2) := by
  refine kb_enter 1 rfl rfl ?_
  suffices H : ∀ (Q : kbQt) (P : Int32 × kbM → Prop), (∀ z : Int32 × kbM, P z → Q (some (.int z.1)) z.2) → kbG (f_MD_part n a1 a2 μ) P → kbR l MX12_part 3 Q 0 [some (.ref 57), some (.int a1), some (.int a2), none] [] μ from H _ (fun z => z = x) (fun z e => by subst e; exact ⟨rfl, rfl⟩) ⟨x, h, rfl⟩
  clear h
  intro Q P hr h
  unfold f_MD_part at h
  refine r_aload_n dX12_part_0 rfl ?_
  refine r_iconst 0 dX12_part_1 (by decide) ?_
  refine r_put flX12_159 sh57 rfl rfl rfl dX12_part_2 ?_
  refine r_aload_n dX12_part_5 rfl ?_
  refine r_iload_n dX12_part_6 rfl ?_
  obtain ⟨x1, hx0, h⟩ := kbG_bind h
  refine r_invV_i cvX12_331 sh57 rfl (sp_MD_isWord a1 (kbW μ 57 3 0) hx0) rfl rfl (Nat.le_of_ble_eq_true rfl) (Nat.le_of_ble_eq_true rfl) dX12_part_7 ?_
  refine r_if_ne 19 dX12_part_10 (by decide) (fun hc => ?_) (fun hc => ?_)
  · replace h := kbG_f hc h
    refine r_iload_n dX12_part_19 rfl ?_
    refine r_i2l dX12_part_20 ?_
    refine r_lconst 0 dX12_part_21 (by decide) ?_
    refine r_ldc2 2 liX12_389 dX12_part_22 ?_
    obtain ⟨x2, hx0, h⟩ := kbG_bind h
    refine r_inv_i csX12_165 (sp_MD_isIn a2.toInt64 0 2 (kbW μ 57 3 0) hx0) rfl rfl (Nat.le_of_ble_eq_true rfl) (Nat.le_of_ble_eq_true rfl) dX12_part_25 ?_
    refine r_if_ne 37 dX12_part_28 (by decide) (fun hc => ?_) (fun hc => ?_)
    · replace h := kbG_f hc h
      refine r_aload_n dX12_part_37 rfl ?_
      obtain ⟨x3, hx0, h⟩ := kbG_bind h
      refine r_invV_v cvX12_396 sh57 rfl (sp_MD_keep n (kbW μ 57 3 0) hx0) rfl rfl (Nat.le_of_ble_eq_true rfl) (Nat.le_of_ble_eq_true rfl) dX12_part_38 ?_
      refine r_aload_n dX12_part_41 rfl ?_
      refine r_getR flX12_82 sh57 rfl dX12_part_42 ?_
      refine r_iload_n dX12_part_45 rfl ?_
      obtain ⟨hin, h⟩ := kbG_if h
      replace hin := kbIn_of hin
      refine q_iald a1.toNatClampNeg rfl sh71 hin dX12_part_46 ?_
      refine r_istore_n dX12_part_47 (Nat.le_of_ble_eq_true rfl) rfl ?_
      refine r_aload_n dX12_part_48 rfl ?_
      refine r_getR flX12_82 sh57 rfl dX12_part_49 ?_
      refine r_iload_n dX12_part_52 rfl ?_
      refine r_iload_n dX12_part_53 rfl ?_
      obtain ⟨hin, h⟩ := kbG_if h
      replace hin := kbIn_of hin
      refine q_iast a1.toNatClampNeg rfl sh71 hin dX12_part_54 ?_
      refine r_iload_n dX12_part_55 rfl ?_
      exact r_iret rfl dX12_part_56 (hr ((x3.1 71 a1.toNatClampNeg, kbW x3 71 a1.toNatClampNeg a2)) (kbG_some h))
    · replace h := kbG_t hc h
      refine r_aload_n dX12_part_31 rfl ?_
      refine r_iconst 1 dX12_part_32 (by decide) ?_
      obtain ⟨x4, hx0, h⟩ := kbG_bind h
      refine r_invV_i cvX12_393 sh57 rfl (sp_MD_refuse 1 (kbW μ 57 3 0) hx0) rfl rfl (Nat.le_of_ble_eq_true rfl) (Nat.le_of_ble_eq_true rfl) dX12_part_33 ?_
      exact r_iret rfl dX12_part_36 (hr ((x4.1, x4.2)) (kbG_some h))
  · replace h := kbG_t hc h
    refine r_aload_n dX12_part_13 rfl ?_
    refine r_iconst 1 dX12_part_14 (by decide) ?_
    obtain ⟨x5, hx0, h⟩ := kbG_bind h
    refine r_invV_i cvX12_292 sh57 rfl (sp_MD_fail 1 (kbW μ 57 3 0) hx0) rfl rfl (Nat.le_of_ble_eq_true rfl) (Nat.le_of_ble_eq_true rfl) dX12_part_15 ?_
    exact r_iret rfl dX12_part_18 (hr ((x5.1, x5.2)) (kbG_some h))
def f_MD_rain (n : Nat) (a1 : Int32) (a2 : Int32) (μ : kbM) : Option (Int32 × kbM) :=
  (f_MD_isDoor a1 (kbW μ 57 3 0)).bind fun x1 =>
  if x1 = 0 then
    some ((0, kbW (kbW μ 57 3 0) 57 3 1))
  else
    (f_MD_isOf ((kbW μ 57 3 0).1 57 28) a1).bind fun x2 =>
    if x2 = a2 then
      some ((0, kbW (kbW μ 57 3 0) 68 1 (((kbW μ 57 3 0).1 68 1) + 1)))
    else
      (f_MD_keep n (kbW μ 57 3 0)).bind fun x3 =>
      some ((1, kbW x3 57 28 ((x3.1 57 28) ^^^ (kbShl 1 a1))))
theorem sp_MD_rain {l : Launch} (n : Nat) (a1 : Int32) (a2 : Int32) (μ : kbM)  {x : Int32 × kbM} (h : f_MD_rain n a1 a2 μ = some x) : kbS l MX12_rain 3 [.ref 57, .int a1, .int a2] μ (kbQe (some (.int x.1)) x.2) := by
  refine kb_enter 0 rfl rfl ?_
  suffices H : ∀ (Q : kbQt) (P : Int32 × kbM → Prop), (∀ z : Int32 × kbM, P z → Q (some (.int z.1)) z.2) → kbG (f_MD_rain n a1 a2 μ) P → kbR l MX12_rain 3 Q 0 [some (.ref 57), some (.int a1), some (.int a2)] [] μ from H _ (fun z => z = x) (fun z e => by subst e; exact ⟨rfl, rfl⟩) ⟨x, h, rfl⟩
  clear h
  intro Q P hr h
  unfold f_MD_rain at h
  refine r_aload_n dX12_rain_0 rfl ?_
  refine r_iconst 0 dX12_rain_1 (by decide) ?_
  refine r_put flX12_159 sh57 rfl rfl rfl dX12_rain_2 ?_
  refine r_aload_n dX12_rain_5 rfl ?_
  refine r_iload_n dX12_rain_6 rfl ?_
  obtain ⟨x1, hx0, h⟩ := kbG_bind h
  refine r_invV_i cvX12_336 sh57 rfl (sp_MD_isDoor a1 (kbW μ 57 3 0) hx0) rfl rfl (Nat.le_of_ble_eq_true rfl) (Nat.le_of_ble_eq_true rfl) dX12_rain_7 ?_
  refine r_if_ne 20 dX12_rain_10 (by decide) (fun hc => ?_) (fun hc => ?_)
  · replace h := kbG_f hc h
    refine r_aload_n dX12_rain_20 rfl ?_
    refine r_getI flX12_305 sh57 rfl dX12_rain_21 ?_
    refine r_iload_n dX12_rain_24 rfl ?_
    obtain ⟨x2, hx0, h⟩ := kbG_bind h
    refine r_inv_i csX12_318 (sp_MD_isOf ((kbW μ 57 3 0).1 57 28) a1 (kbW μ 57 3 0) hx0) rfl rfl (Nat.le_of_ble_eq_true rfl) (Nat.le_of_ble_eq_true rfl) dX12_rain_25 ?_
    refine r_iload_n dX12_rain_28 rfl ?_
    refine r_icmp_ne 44 dX12_rain_29 (by decide) (fun hc => ?_) (fun hc => ?_)
    · replace h := kbG_f hc h
      refine r_aload_n dX12_rain_44 rfl ?_
      obtain ⟨x3, hx0, h⟩ := kbG_bind h
      refine r_invV_v cvX12_396 sh57 rfl (sp_MD_keep n (kbW μ 57 3 0) hx0) rfl rfl (Nat.le_of_ble_eq_true rfl) (Nat.le_of_ble_eq_true rfl) dX12_rain_45 ?_
      refine r_aload_n dX12_rain_48 rfl ?_
      refine r_dup dX12_rain_49 rfl ?_
      refine r_getI flX12_305 sh57 rfl dX12_rain_50 ?_
      refine r_iconst 1 dX12_rain_53 (by decide) ?_
      refine r_iload_n dX12_rain_54 rfl ?_
      refine r_shl dX12_rain_55 ?_
      refine r_ixor dX12_rain_56 ?_
      refine r_put flX12_305 sh57 rfl rfl rfl dX12_rain_57 ?_
      refine r_iconst 1 dX12_rain_60 (by decide) ?_
      exact r_zret rfl rfl dX12_rain_61 (hr ((1, kbW x3 57 28 ((x3.1 57 28) ^^^ (kbShl 1 a1)))) (kbG_some h))
    · replace h := kbG_t hc h
      refine r_aload_n dX12_rain_32 rfl ?_
      refine r_getR flX12_69 sh57 rfl dX12_rain_33 ?_
      refine r_iconst 1 dX12_rain_36 (by decide) ?_
      refine r_dup2 dX12_rain_37 rfl rfl ?_
      have hin : vp_in 1 3 := kbIn_of (by decide)
      refine q_iald 1 (by decide) sh68 hin dX12_rain_38 ?_
      refine r_iconst 1 dX12_rain_39 (by decide) ?_
      refine r_iadd dX12_rain_40 ?_
      have hin : vp_in 1 3 := kbIn_of (by decide)
      refine q_iast 1 (by decide) sh68 hin dX12_rain_41 ?_
      refine r_iconst 0 dX12_rain_42 (by decide) ?_
      exact r_zret rfl rfl dX12_rain_43 (hr ((0, kbW (kbW μ 57 3 0) 68 1 (((kbW μ 57 3 0).1 68 1) + 1))) (kbG_some h))
  · replace h := kbG_t hc h
    refine r_aload_n dX12_rain_13 rfl ?_
    refine r_iconst 1 dX12_rain_14 (by decide) ?_
    refine r_put flX12_159 sh57 rfl rfl rfl dX12_rain_15 ?_
    refine r_iconst 0 dX12_rain_18 (by decide) ?_
    exact r_zret rfl rfl dX12_rain_19 (hr ((0, kbW (kbW μ 57 3 0) 57 3 1)) (kbG_some h))
def lp_MD_unpack_73_18 (n : Nat) (v2 : Int32) : Nat → Int32 → kbM → Option (kbM)
  | 0, _, _ => none
  | k + 1, v3, μ =>
    if 10 ≤ v3 then
      some μ
    else
      kbIf (kbIn ((v2 + 2) + v3) 1280) <|
      kbIf (kbIn v3 10) <|
      kbIf (kbIn (((v2 + 2) + 10) + v3) 1280) <|
      kbIf (kbIn v3 10) <|
      kbIf (kbIn (((v2 + 2) + 20) + v3) 1280) <|
      kbIf (kbIn v3 10) <|
      lp_MD_unpack_73_18 n v2 k (v3 + 1) (kbW (kbW (kbW μ 70 v3.toNatClampNeg (μ.1 73 (((v2 + 2) + v3).toNatClampNeg))) 71 v3.toNatClampNeg ((kbW μ 70 v3.toNatClampNeg (μ.1 73 (((v2 + 2) + v3).toNatClampNeg))).1 73 ((((v2 + 2) + 10) + v3).toNatClampNeg))) 72 v3.toNatClampNeg ((kbW (kbW μ 70 v3.toNatClampNeg (μ.1 73 (((v2 + 2) + v3).toNatClampNeg))) 71 v3.toNatClampNeg ((kbW μ 70 v3.toNatClampNeg (μ.1 73 (((v2 + 2) + v3).toNatClampNeg))).1 73 ((((v2 + 2) + 10) + v3).toNatClampNeg))).1 73 ((((v2 + 2) + 20) + v3).toNatClampNeg)))
theorem lpR_MD_unpack_73_18 {l : Launch} (n : Nat) (v2 : Int32)  {Q : kbQt} {P : kbM → Prop} (hx : ∀ z : kbM, P (z) → kbR l MX12_unpack 1 Q 75 [none, none, none, none] [] z) : ∀ (k : Nat) (v3 : Int32) (μ : kbM), kbG (lp_MD_unpack_73_18 n v2 k v3 μ) P → kbR l MX12_unpack 1 Q 18 [some (.ref 57), some (.ref 73), some (.int v2), some (.int v3)] [] μ := by
  intro k
  induction k with
  | zero => intro v3 μ h; exact absurd h kbG_none
  | succ k ih =>
    intro v3 μ h
    unfold lp_MD_unpack_73_18 at h
    refine r_iload_n dX12_unpack_18 rfl ?_
    refine r_bipush 10 dX12_unpack_19 (by decide) ?_
    refine r_icmp_ge 75 dX12_unpack_21 (by decide) (fun hc => ?_) (fun hc => ?_)
    · replace h := kbG_t hc h
      refine r_le [none, none, none, none] trivial ?_
      exact hx μ (kbG_some h)
    · replace h := kbG_f hc h
      refine r_aload_n dX12_unpack_24 rfl ?_
      refine r_getR flX12_79 sh57 rfl dX12_unpack_25 ?_
      refine r_iload_n dX12_unpack_28 rfl ?_
      refine r_aload_n dX12_unpack_29 rfl ?_
      refine r_iload_n dX12_unpack_30 rfl ?_
      refine r_iconst 2 dX12_unpack_31 (by decide) ?_
      refine r_iadd dX12_unpack_32 ?_
      refine r_iload_n dX12_unpack_33 rfl ?_
      refine r_iadd dX12_unpack_34 ?_
      obtain ⟨hin, h⟩ := kbG_if h
      replace hin := kbIn_of hin
      refine q_iald (((v2 + 2) + v3).toNatClampNeg) rfl sh73 hin dX12_unpack_35 ?_
      obtain ⟨hin, h⟩ := kbG_if h
      replace hin := kbIn_of hin
      refine q_iast v3.toNatClampNeg rfl sh70 hin dX12_unpack_36 ?_
      refine r_aload_n dX12_unpack_37 rfl ?_
      refine r_getR flX12_82 sh57 rfl dX12_unpack_38 ?_
      refine r_iload_n dX12_unpack_41 rfl ?_
      refine r_aload_n dX12_unpack_42 rfl ?_
      refine r_iload_n dX12_unpack_43 rfl ?_
      refine r_iconst 2 dX12_unpack_44 (by decide) ?_
      refine r_iadd dX12_unpack_45 ?_
      refine r_bipush 10 dX12_unpack_46 (by decide) ?_
      refine r_iadd dX12_unpack_48 ?_
      refine r_iload_n dX12_unpack_49 rfl ?_
      refine r_iadd dX12_unpack_50 ?_
      obtain ⟨hin, h⟩ := kbG_if h
      replace hin := kbIn_of hin
      refine q_iald ((((v2 + 2) + 10) + v3).toNatClampNeg) rfl sh73 hin dX12_unpack_51 ?_
      obtain ⟨hin, h⟩ := kbG_if h
      replace hin := kbIn_of hin
      refine q_iast v3.toNatClampNeg rfl sh71 hin dX12_unpack_52 ?_
      refine r_aload_n dX12_unpack_53 rfl ?_
      refine r_getR flX12_85 sh57 rfl dX12_unpack_54 ?_
      refine r_iload_n dX12_unpack_57 rfl ?_
      refine r_aload_n dX12_unpack_58 rfl ?_
      refine r_iload_n dX12_unpack_59 rfl ?_
      refine r_iconst 2 dX12_unpack_60 (by decide) ?_
      refine r_iadd dX12_unpack_61 ?_
      refine r_bipush 20 dX12_unpack_62 (by decide) ?_
      refine r_iadd dX12_unpack_64 ?_
      refine r_iload_n dX12_unpack_65 rfl ?_
      refine r_iadd dX12_unpack_66 ?_
      obtain ⟨hin, h⟩ := kbG_if h
      replace hin := kbIn_of hin
      refine q_iald ((((v2 + 2) + 20) + v3).toNatClampNeg) rfl sh73 hin dX12_unpack_67 ?_
      obtain ⟨hin, h⟩ := kbG_if h
      replace hin := kbIn_of hin
      refine q_iast v3.toNatClampNeg rfl sh72 hin dX12_unpack_68 ?_
      refine r_iinc 1 dX12_unpack_69 rfl (by decide) (Nat.le_of_ble_eq_true rfl) rfl ?_
      refine r_goto 18 dX12_unpack_72 (by decide) ?_
      refine r_le [some (.ref 57), some (.ref 73), some (.int v2), some (.int (v3 + 1))] ⟨rfl, ⟨rfl, ⟨rfl, ⟨rfl, trivial⟩⟩⟩⟩ ?_
      exact ih (v3 + 1) (kbW (kbW (kbW μ 70 v3.toNatClampNeg (μ.1 73 (((v2 + 2) + v3).toNatClampNeg))) 71 v3.toNatClampNeg ((kbW μ 70 v3.toNatClampNeg (μ.1 73 (((v2 + 2) + v3).toNatClampNeg))).1 73 ((((v2 + 2) + 10) + v3).toNatClampNeg))) 72 v3.toNatClampNeg ((kbW (kbW μ 70 v3.toNatClampNeg (μ.1 73 (((v2 + 2) + v3).toNatClampNeg))) 71 v3.toNatClampNeg ((kbW μ 70 v3.toNatClampNeg (μ.1 73 (((v2 + 2) + v3).toNatClampNeg))).1 73 ((((v2 + 2) + 10) + v3).toNatClampNeg))).1 73 ((((v2 + 2) + 20) + v3).toNatClampNeg))) h
def f_MD_unpack_73 (n : Nat) (a2 : Int32) (μ : kbM) : Option (kbM) :=
  kbIf (kbIn a2 1280) <|
  kbIf (kbIn (a2 + 1) 1280) <|
  (lp_MD_unpack_73_18 n a2 n 0 (kbW (kbW μ 57 27 (μ.1 73 a2.toNatClampNeg)) 57 28 ((kbW μ 57 27 (μ.1 73 a2.toNatClampNeg)).1 73 ((a2 + 1).toNatClampNeg)))).bind fun x1 =>
  some x1
theorem sp_MD_unpack_73 {l : Launch} (n : Nat) (a2 : Int32) (μ : kbM)  {x : kbM} (h : f_MD_unpack_73 n a2 μ = some x) : kbS l MX12_unpack 1 [.ref 57, .ref 73, .int a2] μ (kbQe none x) := by
  refine kb_enter 1 rfl rfl ?_
  suffices H : ∀ (Q : kbQt) (P : kbM → Prop), (∀ z : kbM, P z → Q none z) → kbG (f_MD_unpack_73 n a2 μ) P → kbR l MX12_unpack 1 Q 0 [some (.ref 57), some (.ref 73), some (.int a2), none] [] μ from H _ (fun z => z = x) (fun z e => by subst e; exact ⟨rfl, rfl⟩) ⟨x, h, rfl⟩
  clear h
  intro Q P hr h
  unfold f_MD_unpack_73 at h
  refine r_aload_n dX12_unpack_0 rfl ?_
  refine r_aload_n dX12_unpack_1 rfl ?_
  refine r_iload_n dX12_unpack_2 rfl ?_
  obtain ⟨hin, h⟩ := kbG_if h
  replace hin := kbIn_of hin
  refine q_iald a2.toNatClampNeg rfl sh73 hin dX12_unpack_3 ?_
  refine r_put flX12_162 sh57 rfl rfl rfl dX12_unpack_4 ?_
  refine r_aload_n dX12_unpack_7 rfl ?_
  refine r_aload_n dX12_unpack_8 rfl ?_
  refine r_iload_n dX12_unpack_9 rfl ?_
  refine r_iconst 1 dX12_unpack_10 (by decide) ?_
  refine r_iadd dX12_unpack_11 ?_
  obtain ⟨hin, h⟩ := kbG_if h
  replace hin := kbIn_of hin
  refine q_iald ((a2 + 1).toNatClampNeg) rfl sh73 hin dX12_unpack_12 ?_
  refine r_put flX12_305 sh57 rfl rfl rfl dX12_unpack_13 ?_
  refine r_iconst 0 dX12_unpack_16 (by decide) ?_
  refine r_istore_n dX12_unpack_17 (Nat.le_of_ble_eq_true rfl) rfl ?_
  refine r_le [some (.ref 57), some (.ref 73), some (.int a2), some (.int 0)] ⟨rfl, ⟨rfl, ⟨rfl, ⟨rfl, trivial⟩⟩⟩⟩ ?_
  obtain ⟨x1, hx0, h⟩ := kbG_bind h
  refine lpR_MD_unpack_73_18 n a2 (P := fun z => x1 = z) (hx := fun z e => ?_) n _ _ ⟨_, hx0, rfl⟩
  subst e
  exact r_vret rfl dX12_unpack_75 (hr x1 (kbG_some h))
def f_MD_undo (n : Nat) (μ : kbM) : Option (Int32 × kbM) :=
  if ((kbW μ 57 3 0).1 57 29) = 0 then
    some (((-1), kbW μ 57 3 0))
  else
    (f_MD_unpack_73 n (32 * ((kbW (kbW μ 57 3 0) 57 29 (((kbW μ 57 3 0).1 57 29) - 1)).1 57 29)) (kbW (kbW μ 57 3 0) 57 29 (((kbW μ 57 3 0).1 57 29) - 1))).bind fun x1 =>
    some ((x1.1 57 29, x1))
theorem sp_MD_undo {l : Launch} (n : Nat) (μ : kbM)  {x : Int32 × kbM} (h : f_MD_undo n μ = some x) : kbS l MX12_undo 2 [.ref 57] μ (kbQe (some (.int x.1)) x.2) := by
  refine kb_enter 0 rfl rfl ?_
  suffices H : ∀ (Q : kbQt) (P : Int32 × kbM → Prop), (∀ z : Int32 × kbM, P z → Q (some (.int z.1)) z.2) → kbG (f_MD_undo n μ) P → kbR l MX12_undo 2 Q 0 [some (.ref 57)] [] μ from H _ (fun z => z = x) (fun z e => by subst e; exact ⟨rfl, rfl⟩) ⟨x, h, rfl⟩
  clear h
  intro Q P hr h
  unfold f_MD_undo at h
  refine r_aload_n dX12_undo_0 rfl ?_
  refine r_iconst 0 dX12_undo_1 (by decide) ?_
  refine r_put flX12_159 sh57 rfl rfl rfl dX12_undo_2 ?_
  refine r_aload_n dX12_undo_5 rfl ?_
  refine r_getI flX12_308 sh57 rfl dX12_undo_6 ?_
  refine r_if_ne 14 dX12_undo_9 (by decide) (fun hc => ?_) (fun hc => ?_)
  · replace h := kbG_f hc h
    refine r_aload_n dX12_undo_14 rfl ?_
    refine r_dup dX12_undo_15 rfl ?_
    refine r_getI flX12_308 sh57 rfl dX12_undo_16 ?_
    refine r_iconst 1 dX12_undo_19 (by decide) ?_
    refine r_isub dX12_undo_20 ?_
    refine r_put flX12_308 sh57 rfl rfl rfl dX12_undo_21 ?_
    refine r_aload_n dX12_undo_24 rfl ?_
    refine r_aload_n dX12_undo_25 rfl ?_
    refine r_getR flX12_88 sh57 rfl dX12_undo_26 ?_
    refine r_bipush 32 dX12_undo_29 (by decide) ?_
    refine r_aload_n dX12_undo_31 rfl ?_
    refine r_getI flX12_308 sh57 rfl dX12_undo_32 ?_
    refine r_imul dX12_undo_35 ?_
    obtain ⟨x1, hx0, h⟩ := kbG_bind h
    refine r_invV_v cvX12_399 sh57 rfl (sp_MD_unpack_73 n (32 * ((kbW (kbW μ 57 3 0) 57 29 (((kbW μ 57 3 0).1 57 29) - 1)).1 57 29)) (kbW (kbW μ 57 3 0) 57 29 (((kbW μ 57 3 0).1 57 29) - 1)) hx0) rfl rfl (Nat.le_of_ble_eq_true rfl) (Nat.le_of_ble_eq_true rfl) dX12_undo_36 ?_
    refine r_aload_n dX12_undo_39 rfl ?_
    refine r_getI flX12_308 sh57 rfl dX12_undo_40 ?_
    exact r_iret rfl dX12_undo_43 (hr ((x1.1 57 29, x1)) (kbG_some h))
  · replace h := kbG_t hc h
    refine r_iconst (-1) dX12_undo_12 (by decide) ?_
    exact r_iret rfl dX12_undo_13 (hr (((-1), kbW μ 57 3 0)) (kbG_some h))
def jn_MD_sayMore_163 (n : Nat) (rec : Int32 → Int32 → kbM → Option (Int32 × kbM)) (v1 : Int32) (v2 : Int32) (v3 : Int32) (v4 : Int32) (v5 : Int32) (μ : kbM) : Option (Int32 × kbM) :=
  rec v1 (v5 + 1) μ
theorem jnR_MD_sayMore_163 {l : Launch} (n : Nat)   (v1 : Int32) (v2 : Int32) (v3 : Int32) (v4 : Int32) (v5 : Int32) (μ : kbM) {Q : kbQt} {P : Int32 × kbM → Prop} (hx : ∀ z : Int32 × kbM, P (z) → kbR l MX12_sayMore 4 Q 169 [some (.ref 57), some (.int z.1), some (.int v2), some (.int v3), none, none] [] z.2) {rec : Int32 → Int32 → kbM → Option (Int32 × kbM)} (hrec : ∀ (v1 : Int32) (v5 : Int32) (μ : kbM), kbG (rec v1 v5 μ) P → kbR l MX12_sayMore 4 Q 95 [some (.ref 57), some (.int v1), some (.int v2), some (.int v3), some (.int v4), some (.int v5)] [] μ) (h : kbG (jn_MD_sayMore_163 n rec v1 v2 v3 v4 v5 μ) P) : kbR l MX12_sayMore 4 Q 163 [some (.ref 57), some (.int v1), some (.int v2), some (.int v3), some (.int v4), some (.int v5)] [] μ := by
  unfold jn_MD_sayMore_163 at h
  refine r_iinc 1 dX12_sayMore_163 rfl (by decide) (Nat.le_of_ble_eq_true rfl) rfl ?_
  refine r_goto 95 dX12_sayMore_166 (by decide) ?_
  refine r_le [some (.ref 57), some (.int v1), some (.int v2), some (.int v3), some (.int v4), some (.int (v5 + 1))] ⟨rfl, ⟨rfl, ⟨rfl, ⟨rfl, ⟨rfl, ⟨rfl, trivial⟩⟩⟩⟩⟩⟩ ?_
  exact hrec v1 (v5 + 1) μ h
def lp_MD_sayMore_95 (n : Nat) (v2 : Int32) (v3 : Int32) (v4 : Int32) : Nat → Int32 → Int32 → kbM → Option (Int32 × kbM)
  | 0, _, _, _ => none
  | k + 1, v1, v5, μ =>
    if (μ.1 57 27) ≤ v5 then
      some ((v1, μ))
    else
      kbIf (kbIn v2 10) <|
      if v3 = (μ.1 79 v2.toNatClampNeg) then
        if 100000 ≤ v4 then
          some ((v1, μ))
        else
          kbIf (kbIn (7 * v5) 70) <|
          if (μ.1 84 ((7 * v5).toNatClampNeg)) ≤ v4 then
            jn_MD_sayMore_163 n (lp_MD_sayMore_95 n v2 v3 v4 k) v1 v2 v3 v4 v5 μ
          else
            (f_MD_joins n v2 v5 μ).bind fun x1 =>
            if x1.1 = 0 then
              jn_MD_sayMore_163 n (lp_MD_sayMore_95 n v2 v3 v4 k) v1 v2 v3 v4 v5 x1.2
            else
              kbIf (kbIn (7 * v5) 70) <|
              jn_MD_sayMore_163 n (lp_MD_sayMore_95 n v2 v3 v4 k) 1 v2 v3 v4 v5 (kbW x1.2 84 ((7 * v5).toNatClampNeg) v4)
      else
        some ((v1, μ))
theorem lpR_MD_sayMore_95 {l : Launch} (n : Nat) (v2 : Int32) (v3 : Int32) (v4 : Int32)  {Q : kbQt} {P : Int32 × kbM → Prop} (hx : ∀ z : Int32 × kbM, P (z) → kbR l MX12_sayMore 4 Q 169 [some (.ref 57), some (.int z.1), some (.int v2), some (.int v3), none, none] [] z.2) : ∀ (k : Nat) (v1 : Int32) (v5 : Int32) (μ : kbM), kbG (lp_MD_sayMore_95 n v2 v3 v4 k v1 v5 μ) P → kbR l MX12_sayMore 4 Q 95 [some (.ref 57), some (.int v1), some (.int v2), some (.int v3), some (.int v4), some (.int v5)] [] μ := by
  intro k
  induction k with
  | zero => intro v1 v5 μ h; exact absurd h kbG_none
  | succ k ih =>
    intro v1 v5 μ h
    unfold lp_MD_sayMore_95 at h
    refine r_iload dX12_sayMore_95 rfl ?_
    refine r_aload_n dX12_sayMore_97 rfl ?_
    refine r_getI flX12_162 sh57 rfl dX12_sayMore_98 ?_
    refine r_icmp_ge 169 dX12_sayMore_101 (by decide) (fun hc => ?_) (fun hc => ?_)
    · replace h := kbG_t hc h
      refine r_le [some (.ref 57), some (.int v1), some (.int v2), some (.int v3), none, none] ⟨rfl, ⟨rfl, ⟨rfl, ⟨rfl, trivial⟩⟩⟩⟩ ?_
      exact hx ((v1, μ)) (kbG_some h)
    · replace h := kbG_f hc h
      refine r_iload_n dX12_sayMore_104 rfl ?_
      refine r_aload_n dX12_sayMore_105 rfl ?_
      refine r_getR flX12_106 sh57 rfl dX12_sayMore_106 ?_
      refine r_iload_n dX12_sayMore_109 rfl ?_
      obtain ⟨hin, h⟩ := kbG_if h
      replace hin := kbIn_of hin
      refine q_iald v2.toNatClampNeg rfl sh79 hin dX12_sayMore_110 ?_
      refine r_icmp_ne 169 dX12_sayMore_111 (by decide) (fun hc => ?_) (fun hc => ?_)
      · replace h := kbG_f hc h
        refine r_le [some (.ref 57), some (.int v1), some (.int v2), some (.int v3), none, none] ⟨rfl, ⟨rfl, ⟨rfl, ⟨rfl, trivial⟩⟩⟩⟩ ?_
        exact hx ((v1, μ)) (kbG_some h)
      · replace h := kbG_t hc h
        refine r_iload dX12_sayMore_114 rfl ?_
        refine r_ldc 100000 liX12_199 dX12_sayMore_116 ?_
        refine r_icmp_ge 169 dX12_sayMore_118 (by decide) (fun hc => ?_) (fun hc => ?_)
        · replace h := kbG_t hc h
          refine r_le [some (.ref 57), some (.int v1), some (.int v2), some (.int v3), none, none] ⟨rfl, ⟨rfl, ⟨rfl, ⟨rfl, trivial⟩⟩⟩⟩ ?_
          exact hx ((v1, μ)) (kbG_some h)
        · replace h := kbG_f hc h
          refine r_iload dX12_sayMore_121 rfl ?_
          refine r_aload_n dX12_sayMore_123 rfl ?_
          refine r_getR flX12_120 sh57 rfl dX12_sayMore_124 ?_
          refine r_bipush 7 dX12_sayMore_127 (by decide) ?_
          refine r_iload dX12_sayMore_129 rfl ?_
          refine r_imul dX12_sayMore_131 ?_
          obtain ⟨hin, h⟩ := kbG_if h
          replace hin := kbIn_of hin
          refine q_iald ((7 * v5).toNatClampNeg) rfl sh84 hin dX12_sayMore_132 ?_
          refine r_icmp_ge 163 dX12_sayMore_133 (by decide) (fun hc => ?_) (fun hc => ?_)
          · replace h := kbG_t hc h
            refine r_le [some (.ref 57), some (.int v1), some (.int v2), some (.int v3), some (.int v4), some (.int v5)] ⟨rfl, ⟨rfl, ⟨rfl, ⟨rfl, ⟨rfl, ⟨rfl, trivial⟩⟩⟩⟩⟩⟩ ?_
            exact jnR_MD_sayMore_163 n v1 v2 v3 v4 v5 μ (hx := hx) (hrec := ih) h
          · replace h := kbG_f hc h
            refine r_aload_n dX12_sayMore_136 rfl ?_
            refine r_iload_n dX12_sayMore_137 rfl ?_
            refine r_iload dX12_sayMore_138 rfl ?_
            obtain ⟨x1, hx0, h⟩ := kbG_bind h
            refine r_invV_i cvX12_364 sh57 rfl (sp_MD_joins n v2 v5 μ hx0) rfl rfl (Nat.le_of_ble_eq_true rfl) (Nat.le_of_ble_eq_true rfl) dX12_sayMore_140 ?_
            refine r_if_ne 149 dX12_sayMore_143 (by decide) (fun hc => ?_) (fun hc => ?_)
            · replace h := kbG_f hc h
              refine r_aload_n dX12_sayMore_149 rfl ?_
              refine r_getR flX12_120 sh57 rfl dX12_sayMore_150 ?_
              refine r_bipush 7 dX12_sayMore_153 (by decide) ?_
              refine r_iload dX12_sayMore_155 rfl ?_
              refine r_imul dX12_sayMore_157 ?_
              refine r_iload dX12_sayMore_158 rfl ?_
              obtain ⟨hin, h⟩ := kbG_if h
              replace hin := kbIn_of hin
              refine q_iast ((7 * v5).toNatClampNeg) rfl sh84 hin dX12_sayMore_160 ?_
              refine r_iconst 1 dX12_sayMore_161 (by decide) ?_
              refine r_istore_n dX12_sayMore_162 (Nat.le_of_ble_eq_true rfl) rfl ?_
              refine r_le [some (.ref 57), some (.int 1), some (.int v2), some (.int v3), some (.int v4), some (.int v5)] ⟨rfl, ⟨rfl, ⟨rfl, ⟨rfl, ⟨rfl, ⟨rfl, trivial⟩⟩⟩⟩⟩⟩ ?_
              exact jnR_MD_sayMore_163 n 1 v2 v3 v4 v5 (kbW x1.2 84 ((7 * v5).toNatClampNeg) v4) (hx := hx) (hrec := ih) h
            · replace h := kbG_t hc h
              refine r_goto 163 dX12_sayMore_146 (by decide) ?_
              refine r_le [some (.ref 57), some (.int v1), some (.int v2), some (.int v3), some (.int v4), some (.int v5)] ⟨rfl, ⟨rfl, ⟨rfl, ⟨rfl, ⟨rfl, ⟨rfl, trivial⟩⟩⟩⟩⟩⟩ ?_
              exact jnR_MD_sayMore_163 n v1 v2 v3 v4 v5 x1.2 (hx := hx) (hrec := ih) h
def jn_MD_sayMore_169 (n : Nat) (rec : Int32 → Int32 → kbM → Option (Int32 × kbM)) (v1 : Int32) (v2 : Int32) (v3 : Int32) (μ : kbM) : Option (Int32 × kbM) :=
  rec v1 (v3 + 1) μ
theorem jnR_MD_sayMore_169 {l : Launch} (n : Nat)   (v1 : Int32) (v2 : Int32) (v3 : Int32) (μ : kbM) {Q : kbQt} {P : Int32 × kbM → Prop} (hx : ∀ z : Int32 × kbM, P (z) → kbR l MX12_sayMore 4 Q 175 [some (.ref 57), some (.int z.1), some (.int v2), none, none, none] [] z.2) {rec : Int32 → Int32 → kbM → Option (Int32 × kbM)} (hrec : ∀ (v1 : Int32) (v3 : Int32) (μ : kbM), kbG (rec v1 v3 μ) P → kbR l MX12_sayMore 4 Q 20 [some (.ref 57), some (.int v1), some (.int v2), some (.int v3), none, none] [] μ) (h : kbG (jn_MD_sayMore_169 n rec v1 v2 v3 μ) P) : kbR l MX12_sayMore 4 Q 169 [some (.ref 57), some (.int v1), some (.int v2), some (.int v3), none, none] [] μ := by
  unfold jn_MD_sayMore_169 at h
  refine r_iinc 1 dX12_sayMore_169 rfl (by decide) (Nat.le_of_ble_eq_true rfl) rfl ?_
  refine r_goto 20 dX12_sayMore_172 (by decide) ?_
  refine r_le [some (.ref 57), some (.int v1), some (.int v2), some (.int (v3 + 1)), none, none] ⟨rfl, ⟨rfl, ⟨rfl, ⟨rfl, trivial⟩⟩⟩⟩ ?_
  exact hrec v1 (v3 + 1) μ h
def jn_MD_sayMore_92 (n : Nat) (rec : Int32 → Int32 → kbM → Option (Int32 × kbM)) (v1 : Int32) (v2 : Int32) (v3 : Int32) (v4 : Int32) (μ : kbM) : Option (Int32 × kbM) :=
  (lp_MD_sayMore_95 n v2 v3 v4 n v1 0 μ).bind fun x2 =>
  jn_MD_sayMore_169 n rec x2.1 v2 v3 x2.2
theorem jnR_MD_sayMore_92 {l : Launch} (n : Nat)   (v1 : Int32) (v2 : Int32) (v3 : Int32) (v4 : Int32) (μ : kbM) {Q : kbQt} {P : Int32 × kbM → Prop} (hx : ∀ z : Int32 × kbM, P (z) → kbR l MX12_sayMore 4 Q 175 [some (.ref 57), some (.int z.1), some (.int v2), none, none, none] [] z.2) {rec : Int32 → Int32 → kbM → Option (Int32 × kbM)} (hrec : ∀ (v1 : Int32) (v3 : Int32) (μ : kbM), kbG (rec v1 v3 μ) P → kbR l MX12_sayMore 4 Q 20 [some (.ref 57), some (.int v1), some (.int v2), some (.int v3), none, none] [] μ) (h : kbG (jn_MD_sayMore_92 n rec v1 v2 v3 v4 μ) P) : kbR l MX12_sayMore 4 Q 92 [some (.ref 57), some (.int v1), some (.int v2), some (.int v3), some (.int v4), none] [] μ := by
  unfold jn_MD_sayMore_92 at h
  refine r_iconst 0 dX12_sayMore_92 (by decide) ?_
  refine r_istore dX12_sayMore_93 (Nat.le_of_ble_eq_true rfl) rfl ?_
  refine r_le [some (.ref 57), some (.int v1), some (.int v2), some (.int v3), some (.int v4), some (.int 0)] ⟨rfl, ⟨rfl, ⟨rfl, ⟨rfl, ⟨rfl, ⟨rfl, trivial⟩⟩⟩⟩⟩⟩ ?_
  obtain ⟨x2, hx0, h⟩ := kbG_bind h
  refine lpR_MD_sayMore_95 n v2 v3 v4 (P := fun z => x2 = z) (hx := fun z e => ?_) n _ _ _ ⟨_, hx0, rfl⟩
  subst e
  refine r_le [some (.ref 57), some (.int x2.1), some (.int v2), some (.int v3), none, none] ⟨rfl, ⟨rfl, ⟨rfl, ⟨rfl, trivial⟩⟩⟩⟩ ?_
  exact jnR_MD_sayMore_169 n x2.1 v2 v3 x2.2 (hx := hx) (hrec := hrec) h
def lp_MD_sayMore_20 (n : Nat) (v2 : Int32) : Nat → Int32 → Int32 → kbM → Option (Int32 × kbM)
  | 0, _, _, _ => none
  | k + 1, v1, v3, μ =>
    kbIf (kbIn v2 10) <|
    if (μ.1 79 v2.toNatClampNeg) < v3 then
      some ((v1, μ))
    else
      kbIf (kbIn ((7 * v2) + v3) 70) <|
      kbIf (kbIn v2 10) <|
      if (μ.1 79 v2.toNatClampNeg) ≤ v3 then
        jn_MD_sayMore_92 n (lp_MD_sayMore_20 n v2 k) v1 v2 v3 (μ.1 84 (((7 * v2) + v3).toNatClampNeg)) μ
      else
        kbIf (kbIn (((7 * v2) + v3) + 1) 70) <|
        if (μ.1 84 ((((7 * v2) + v3) + 1).toNatClampNeg)) ≤ ((μ.1 84 (((7 * v2) + v3).toNatClampNeg)) + 1) then
          jn_MD_sayMore_92 n (lp_MD_sayMore_20 n v2 k) v1 v2 v3 (μ.1 84 (((7 * v2) + v3).toNatClampNeg)) μ
        else
          kbIf (kbIn (((7 * v2) + v3) + 1) 70) <|
          jn_MD_sayMore_92 n (lp_MD_sayMore_20 n v2 k) 1 v2 v3 (μ.1 84 (((7 * v2) + v3).toNatClampNeg)) (kbW μ 84 ((((7 * v2) + v3) + 1).toNatClampNeg) ((μ.1 84 (((7 * v2) + v3).toNatClampNeg)) + 1))
theorem lpR_MD_sayMore_20 {l : Launch} (n : Nat) (v2 : Int32)  {Q : kbQt} {P : Int32 × kbM → Prop} (hx : ∀ z : Int32 × kbM, P (z) → kbR l MX12_sayMore 4 Q 175 [some (.ref 57), some (.int z.1), some (.int v2), none, none, none] [] z.2) : ∀ (k : Nat) (v1 : Int32) (v3 : Int32) (μ : kbM), kbG (lp_MD_sayMore_20 n v2 k v1 v3 μ) P → kbR l MX12_sayMore 4 Q 20 [some (.ref 57), some (.int v1), some (.int v2), some (.int v3), none, none] [] μ := by
  intro k
  induction k with
  | zero => intro v1 v3 μ h; exact absurd h kbG_none
  | succ k ih =>
    intro v1 v3 μ h
    unfold lp_MD_sayMore_20 at h
    refine r_iload_n dX12_sayMore_20 rfl ?_
    refine r_aload_n dX12_sayMore_21 rfl ?_
    refine r_getR flX12_106 sh57 rfl dX12_sayMore_22 ?_
    refine r_iload_n dX12_sayMore_25 rfl ?_
    obtain ⟨hin, h⟩ := kbG_if h
    replace hin := kbIn_of hin
    refine q_iald v2.toNatClampNeg rfl sh79 hin dX12_sayMore_26 ?_
    refine r_icmp_gt 175 dX12_sayMore_27 (by decide) (fun hc => ?_) (fun hc => ?_)
    · replace h := kbG_t hc h
      refine r_le [some (.ref 57), some (.int v1), some (.int v2), none, none, none] ⟨rfl, ⟨rfl, ⟨rfl, trivial⟩⟩⟩ ?_
      exact hx ((v1, μ)) (kbG_some h)
    · replace h := kbG_f hc h
      refine r_aload_n dX12_sayMore_30 rfl ?_
      refine r_getR flX12_120 sh57 rfl dX12_sayMore_31 ?_
      refine r_bipush 7 dX12_sayMore_34 (by decide) ?_
      refine r_iload_n dX12_sayMore_36 rfl ?_
      refine r_imul dX12_sayMore_37 ?_
      refine r_iload_n dX12_sayMore_38 rfl ?_
      refine r_iadd dX12_sayMore_39 ?_
      obtain ⟨hin, h⟩ := kbG_if h
      replace hin := kbIn_of hin
      refine q_iald (((7 * v2) + v3).toNatClampNeg) rfl sh84 hin dX12_sayMore_40 ?_
      refine r_istore dX12_sayMore_41 (Nat.le_of_ble_eq_true rfl) rfl ?_
      refine r_iload_n dX12_sayMore_43 rfl ?_
      refine r_aload_n dX12_sayMore_44 rfl ?_
      refine r_getR flX12_106 sh57 rfl dX12_sayMore_45 ?_
      refine r_iload_n dX12_sayMore_48 rfl ?_
      obtain ⟨hin, h⟩ := kbG_if h
      replace hin := kbIn_of hin
      refine q_iald v2.toNatClampNeg rfl sh79 hin dX12_sayMore_49 ?_
      refine r_icmp_ge 92 dX12_sayMore_50 (by decide) (fun hc => ?_) (fun hc => ?_)
      · replace h := kbG_t hc h
        refine r_le [some (.ref 57), some (.int v1), some (.int v2), some (.int v3), some (.int (μ.1 84 (((7 * v2) + v3).toNatClampNeg))), none] ⟨rfl, ⟨rfl, ⟨rfl, ⟨rfl, ⟨rfl, trivial⟩⟩⟩⟩⟩ ?_
        exact jnR_MD_sayMore_92 n v1 v2 v3 (μ.1 84 (((7 * v2) + v3).toNatClampNeg)) μ (hx := hx) (hrec := ih) h
      · replace h := kbG_f hc h
        refine r_iload dX12_sayMore_53 rfl ?_
        refine r_iconst 1 dX12_sayMore_55 (by decide) ?_
        refine r_iadd dX12_sayMore_56 ?_
        refine r_aload_n dX12_sayMore_57 rfl ?_
        refine r_getR flX12_120 sh57 rfl dX12_sayMore_58 ?_
        refine r_bipush 7 dX12_sayMore_61 (by decide) ?_
        refine r_iload_n dX12_sayMore_63 rfl ?_
        refine r_imul dX12_sayMore_64 ?_
        refine r_iload_n dX12_sayMore_65 rfl ?_
        refine r_iadd dX12_sayMore_66 ?_
        refine r_iconst 1 dX12_sayMore_67 (by decide) ?_
        refine r_iadd dX12_sayMore_68 ?_
        obtain ⟨hin, h⟩ := kbG_if h
        replace hin := kbIn_of hin
        refine q_iald ((((7 * v2) + v3) + 1).toNatClampNeg) rfl sh84 hin dX12_sayMore_69 ?_
        refine r_icmp_ge 92 dX12_sayMore_70 (by decide) (fun hc => ?_) (fun hc => ?_)
        · replace h := kbG_t hc h
          refine r_le [some (.ref 57), some (.int v1), some (.int v2), some (.int v3), some (.int (μ.1 84 (((7 * v2) + v3).toNatClampNeg))), none] ⟨rfl, ⟨rfl, ⟨rfl, ⟨rfl, ⟨rfl, trivial⟩⟩⟩⟩⟩ ?_
          exact jnR_MD_sayMore_92 n v1 v2 v3 (μ.1 84 (((7 * v2) + v3).toNatClampNeg)) μ (hx := hx) (hrec := ih) h
        · replace h := kbG_f hc h
          refine r_aload_n dX12_sayMore_73 rfl ?_
          refine r_getR flX12_120 sh57 rfl dX12_sayMore_74 ?_
          refine r_bipush 7 dX12_sayMore_77 (by decide) ?_
          refine r_iload_n dX12_sayMore_79 rfl ?_
          refine r_imul dX12_sayMore_80 ?_
          refine r_iload_n dX12_sayMore_81 rfl ?_
          refine r_iadd dX12_sayMore_82 ?_
          refine r_iconst 1 dX12_sayMore_83 (by decide) ?_
          refine r_iadd dX12_sayMore_84 ?_
          refine r_iload dX12_sayMore_85 rfl ?_
          refine r_iconst 1 dX12_sayMore_87 (by decide) ?_
          refine r_iadd dX12_sayMore_88 ?_
          obtain ⟨hin, h⟩ := kbG_if h
          replace hin := kbIn_of hin
          refine q_iast ((((7 * v2) + v3) + 1).toNatClampNeg) rfl sh84 hin dX12_sayMore_89 ?_
          refine r_iconst 1 dX12_sayMore_90 (by decide) ?_
          refine r_istore_n dX12_sayMore_91 (Nat.le_of_ble_eq_true rfl) rfl ?_
          refine r_le [some (.ref 57), some (.int 1), some (.int v2), some (.int v3), some (.int (μ.1 84 (((7 * v2) + v3).toNatClampNeg))), none] ⟨rfl, ⟨rfl, ⟨rfl, ⟨rfl, ⟨rfl, trivial⟩⟩⟩⟩⟩ ?_
          exact jnR_MD_sayMore_92 n 1 v2 v3 (μ.1 84 (((7 * v2) + v3).toNatClampNeg)) (kbW μ 84 ((((7 * v2) + v3) + 1).toNatClampNeg) ((μ.1 84 (((7 * v2) + v3).toNatClampNeg)) + 1)) (hx := hx) (hrec := ih) h
def lp_MD_sayMore_10 (n : Nat) : Nat → Int32 → Int32 → kbM → Option (Int32 × kbM)
  | 0, _, _, _ => none
  | k + 1, v1, v2, μ =>
    if (μ.1 57 27) ≤ v2 then
      some ((v1, μ))
    else
      (lp_MD_sayMore_20 n v2 n v1 0 μ).bind fun x3 =>
      lp_MD_sayMore_10 n k x3.1 (v2 + 1) x3.2
theorem lpR_MD_sayMore_10 {l : Launch} (n : Nat)   {Q : kbQt} {P : Int32 × kbM → Prop} (hx : ∀ z : Int32 × kbM, P (z) → kbR l MX12_sayMore 4 Q 2 [some (.ref 57), some (.int z.1), none, none, none, none] [] z.2) : ∀ (k : Nat) (v1 : Int32) (v2 : Int32) (μ : kbM), kbG (lp_MD_sayMore_10 n k v1 v2 μ) P → kbR l MX12_sayMore 4 Q 10 [some (.ref 57), some (.int v1), some (.int v2), none, none, none] [] μ := by
  intro k
  induction k with
  | zero => intro v1 v2 μ h; exact absurd h kbG_none
  | succ k ih =>
    intro v1 v2 μ h
    unfold lp_MD_sayMore_10 at h
    refine r_iload_n dX12_sayMore_10 rfl ?_
    refine r_aload_n dX12_sayMore_11 rfl ?_
    refine r_getI flX12_162 sh57 rfl dX12_sayMore_12 ?_
    refine r_icmp_ge 181 dX12_sayMore_15 (by decide) (fun hc => ?_) (fun hc => ?_)
    · replace h := kbG_t hc h
      refine r_goto 2 dX12_sayMore_181 (by decide) ?_
      refine r_le [some (.ref 57), some (.int v1), none, none, none, none] ⟨rfl, ⟨rfl, trivial⟩⟩ ?_
      exact hx ((v1, μ)) (kbG_some h)
    · replace h := kbG_f hc h
      refine r_iconst 0 dX12_sayMore_18 (by decide) ?_
      refine r_istore_n dX12_sayMore_19 (Nat.le_of_ble_eq_true rfl) rfl ?_
      refine r_le [some (.ref 57), some (.int v1), some (.int v2), some (.int 0), none, none] ⟨rfl, ⟨rfl, ⟨rfl, ⟨rfl, trivial⟩⟩⟩⟩ ?_
      obtain ⟨x3, hx0, h⟩ := kbG_bind h
      refine lpR_MD_sayMore_20 n v2 (P := fun z => x3 = z) (hx := fun z e => ?_) n _ _ _ ⟨_, hx0, rfl⟩
      subst e
      refine r_iinc 1 dX12_sayMore_175 rfl (by decide) (Nat.le_of_ble_eq_true rfl) rfl ?_
      refine r_goto 10 dX12_sayMore_178 (by decide) ?_
      refine r_le [some (.ref 57), some (.int x3.1), some (.int (v2 + 1)), none, none, none] ⟨rfl, ⟨rfl, ⟨rfl, trivial⟩⟩⟩ ?_
      exact ih x3.1 (v2 + 1) x3.2 h
def lp_MD_sayMore_2 (n : Nat) : Nat → Int32 → kbM → Option (kbM)
  | 0, _, _ => none
  | k + 1, v1, μ =>
    if v1 = 0 then
      some μ
    else
      (lp_MD_sayMore_10 n n 0 0 μ).bind fun x4 =>
      lp_MD_sayMore_2 n k x4.1 x4.2
theorem lpR_MD_sayMore_2 {l : Launch} (n : Nat)   {Q : kbQt} {P : kbM → Prop} (hx : ∀ z : kbM, P (z) → kbR l MX12_sayMore 4 Q 184 [none, none, none, none, none, none] [] z) : ∀ (k : Nat) (v1 : Int32) (μ : kbM), kbG (lp_MD_sayMore_2 n k v1 μ) P → kbR l MX12_sayMore 4 Q 2 [some (.ref 57), some (.int v1), none, none, none, none] [] μ := by
  intro k
  induction k with
  | zero => intro v1 μ h; exact absurd h kbG_none
  | succ k ih =>
    intro v1 μ h
    unfold lp_MD_sayMore_2 at h
    refine r_iload_n dX12_sayMore_2 rfl ?_
    refine r_if_eq 184 dX12_sayMore_3 (by decide) (fun hc => ?_) (fun hc => ?_)
    · replace h := kbG_t hc h
      refine r_le [none, none, none, none, none, none] trivial ?_
      exact hx μ (kbG_some h)
    · replace h := kbG_f hc h
      refine r_iconst 0 dX12_sayMore_6 (by decide) ?_
      refine r_istore_n dX12_sayMore_7 (Nat.le_of_ble_eq_true rfl) rfl ?_
      refine r_iconst 0 dX12_sayMore_8 (by decide) ?_
      refine r_istore_n dX12_sayMore_9 (Nat.le_of_ble_eq_true rfl) rfl ?_
      refine r_le [some (.ref 57), some (.int 0), some (.int 0), none, none, none] ⟨rfl, ⟨rfl, ⟨rfl, trivial⟩⟩⟩ ?_
      obtain ⟨x4, hx0, h⟩ := kbG_bind h
      refine lpR_MD_sayMore_10 n (P := fun z => x4 = z) (hx := fun z e => ?_) n _ _ _ ⟨_, hx0, rfl⟩
      subst e
      refine r_le [some (.ref 57), some (.int x4.1), none, none, none, none] ⟨rfl, ⟨rfl, trivial⟩⟩ ?_
      exact ih x4.1 x4.2 h
def f_MD_sayMore (n : Nat) (μ : kbM) : Option (kbM) :=
  (lp_MD_sayMore_2 n n 1 μ).bind fun x5 =>
  some x5
theorem sp_MD_sayMore {l : Launch} (n : Nat) (μ : kbM)  {x : kbM} (h : f_MD_sayMore n μ = some x) : kbS l MX12_sayMore 4 [.ref 57] μ (kbQe none x) := by
  refine kb_enter 5 rfl rfl ?_
  suffices H : ∀ (Q : kbQt) (P : kbM → Prop), (∀ z : kbM, P z → Q none z) → kbG (f_MD_sayMore n μ) P → kbR l MX12_sayMore 4 Q 0 [some (.ref 57), none, none, none, none, none] [] μ from H _ (fun z => z = x) (fun z e => by subst e; exact ⟨rfl, rfl⟩) ⟨x, h, rfl⟩
  clear h
  intro Q P hr h
  unfold f_MD_sayMore at h
  refine r_iconst 1 dX12_sayMore_0 (by decide) ?_
  refine r_istore_n dX12_sayMore_1 (Nat.le_of_ble_eq_true rfl) rfl ?_
  refine r_le [some (.ref 57), some (.int 1), none, none, none, none] ⟨rfl, ⟨rfl, trivial⟩⟩ ?_
  obtain ⟨x5, hx0, h⟩ := kbG_bind h
  refine lpR_MD_sayMore_2 n (P := fun z => x5 = z) (hx := fun z e => ?_) n _ _ ⟨_, hx0, rfl⟩
  subst e
  exact r_vret rfl dX12_sayMore_184 (hr x5 (kbG_some h))
def lp_MD_hearOne_2 (n : Nat) (v1 : Int32) : Nat → Int32 → kbM → Option (kbM)
  | 0, _, _ => none
  | k + 1, v2, μ =>
    if 70 ≤ v2 then
      some μ
    else
      kbIf (kbIn v2 70) <|
      kbIf (kbIn v2 70) <|
      lp_MD_hearOne_2 n v1 k (v2 + 1) (kbW μ 85 v2.toNatClampNeg ((μ.1 84 v2.toNatClampNeg) + 1))
theorem lpR_MD_hearOne_2 {l : Launch} (n : Nat) (v1 : Int32)  {Q : kbQt} {P : kbM → Prop} (hx : ∀ z : kbM, P (z) → kbR l MX12_hearOne 1 Q 28 [some (.ref 57), some (.int v1), none, none, none] [] z) : ∀ (k : Nat) (v2 : Int32) (μ : kbM), kbG (lp_MD_hearOne_2 n v1 k v2 μ) P → kbR l MX12_hearOne 1 Q 2 [some (.ref 57), some (.int v1), some (.int v2), none, none] [] μ := by
  intro k
  induction k with
  | zero => intro v2 μ h; exact absurd h kbG_none
  | succ k ih =>
    intro v2 μ h
    unfold lp_MD_hearOne_2 at h
    refine r_iload_n dX12_hearOne_2 rfl ?_
    refine r_bipush 70 dX12_hearOne_3 (by decide) ?_
    refine r_icmp_ge 28 dX12_hearOne_5 (by decide) (fun hc => ?_) (fun hc => ?_)
    · replace h := kbG_t hc h
      refine r_le [some (.ref 57), some (.int v1), none, none, none] ⟨rfl, ⟨rfl, trivial⟩⟩ ?_
      exact hx μ (kbG_some h)
    · replace h := kbG_f hc h
      refine r_aload_n dX12_hearOne_8 rfl ?_
      refine r_getR flX12_123 sh57 rfl dX12_hearOne_9 ?_
      refine r_iload_n dX12_hearOne_12 rfl ?_
      refine r_aload_n dX12_hearOne_13 rfl ?_
      refine r_getR flX12_120 sh57 rfl dX12_hearOne_14 ?_
      refine r_iload_n dX12_hearOne_17 rfl ?_
      obtain ⟨hin, h⟩ := kbG_if h
      replace hin := kbIn_of hin
      refine q_iald v2.toNatClampNeg rfl sh84 hin dX12_hearOne_18 ?_
      refine r_iconst 1 dX12_hearOne_19 (by decide) ?_
      refine r_iadd dX12_hearOne_20 ?_
      obtain ⟨hin, h⟩ := kbG_if h
      replace hin := kbIn_of hin
      refine q_iast v2.toNatClampNeg rfl sh85 hin dX12_hearOne_21 ?_
      refine r_iinc 1 dX12_hearOne_22 rfl (by decide) (Nat.le_of_ble_eq_true rfl) rfl ?_
      refine r_goto 2 dX12_hearOne_25 (by decide) ?_
      refine r_le [some (.ref 57), some (.int v1), some (.int (v2 + 1)), none, none] ⟨rfl, ⟨rfl, ⟨rfl, trivial⟩⟩⟩ ?_
      exact ih (v2 + 1) (kbW μ 85 v2.toNatClampNeg ((μ.1 84 v2.toNatClampNeg) + 1)) h
def jn_MD_hearOne_102 (n : Nat) (rec : Int32 → kbM → Option (kbM)) (v1 : Int32) (v2 : Int32) (v3 : Int32) (w1 : Int32) (w2 : Int32) (w3 : Int32) (w4 : Int32) (μ : kbM) : Option (kbM) :=
  kbIf (kbIn w1 70) <|
  rec (v3 + 1) (kbW μ 85 w1.toNatClampNeg (kbMin w2 (w3 + w4)))
theorem jnR_MD_hearOne_102 {l : Launch} (n : Nat)   (v1 : Int32) (v2 : Int32) (v3 : Int32) (w1 : Int32) (w2 : Int32) (w3 : Int32) (w4 : Int32) (μ : kbM) {Q : kbQt} {P : kbM → Prop} (hx : ∀ z : kbM, P (z) → kbR l MX12_hearOne 1 Q 113 [some (.ref 57), some (.int v1), some (.int v2), none, none] [] z) {rec : Int32 → kbM → Option (kbM)} (hrec : ∀ (v3 : Int32) (μ : kbM), kbG (rec v3 μ) P → kbR l MX12_hearOne 1 Q 40 [some (.ref 57), some (.int v1), some (.int v2), some (.int v3), none] [] μ) (h : kbG (jn_MD_hearOne_102 n rec v1 v2 v3 w1 w2 w3 w4 μ) P) : kbR l MX12_hearOne 1 Q 102 [some (.ref 57), some (.int v1), some (.int v2), some (.int v3), none] [.int w4, .int w3, .int w2, .int w1, .ref 85] μ := by
  unfold jn_MD_hearOne_102 at h
  refine r_iadd dX12_hearOne_102 ?_
  refine r_min mlX12_200 (Nat.le_of_ble_eq_true rfl) (Nat.le_of_ble_eq_true rfl) dX12_hearOne_103 ?_
  obtain ⟨hin, h⟩ := kbG_if h
  replace hin := kbIn_of hin
  refine q_iast w1.toNatClampNeg rfl sh85 hin dX12_hearOne_106 ?_
  refine r_iinc 1 dX12_hearOne_107 rfl (by decide) (Nat.le_of_ble_eq_true rfl) rfl ?_
  refine r_goto 40 dX12_hearOne_110 (by decide) ?_
  refine r_le [some (.ref 57), some (.int v1), some (.int v2), some (.int (v3 + 1)), none] ⟨rfl, ⟨rfl, ⟨rfl, ⟨rfl, trivial⟩⟩⟩⟩ ?_
  exact hrec (v3 + 1) (kbW μ 85 w1.toNatClampNeg (kbMin w2 (w3 + w4))) h
def lp_MD_hearOne_40 (n : Nat) (v1 : Int32) (v2 : Int32) : Nat → Int32 → kbM → Option (kbM)
  | 0, _, _ => none
  | k + 1, v3, μ =>
    kbIf (kbIn v2 10) <|
    if (μ.1 79 v2.toNatClampNeg) ≤ v3 then
      some μ
    else
      kbIf (kbIn (((7 * v2) + v3) + 1) 70) <|
      kbIf (kbIn ((((7 * v2) + v3) + 1) - 1) 70) <|
      kbIf (kbIn ((6 * v2) + v3) 60) <|
      if (μ.1 78 (((6 * v2) + v3).toNatClampNeg)) = v1 then
        jn_MD_hearOne_102 n (lp_MD_hearOne_40 n v1 v2 k) v1 v2 v3 (((7 * v2) + v3) + 1) (μ.1 85 ((((7 * v2) + v3) + 1).toNatClampNeg)) (μ.1 84 (((((7 * v2) + v3) + 1) - 1).toNatClampNeg)) 0 μ
      else
        jn_MD_hearOne_102 n (lp_MD_hearOne_40 n v1 v2 k) v1 v2 v3 (((7 * v2) + v3) + 1) (μ.1 85 ((((7 * v2) + v3) + 1).toNatClampNeg)) (μ.1 84 (((((7 * v2) + v3) + 1) - 1).toNatClampNeg)) 1 μ
theorem lpR_MD_hearOne_40 {l : Launch} (n : Nat) (v1 : Int32) (v2 : Int32)  {Q : kbQt} {P : kbM → Prop} (hx : ∀ z : kbM, P (z) → kbR l MX12_hearOne 1 Q 113 [some (.ref 57), some (.int v1), some (.int v2), none, none] [] z) : ∀ (k : Nat) (v3 : Int32) (μ : kbM), kbG (lp_MD_hearOne_40 n v1 v2 k v3 μ) P → kbR l MX12_hearOne 1 Q 40 [some (.ref 57), some (.int v1), some (.int v2), some (.int v3), none] [] μ := by
  intro k
  induction k with
  | zero => intro v3 μ h; exact absurd h kbG_none
  | succ k ih =>
    intro v3 μ h
    unfold lp_MD_hearOne_40 at h
    refine r_iload_n dX12_hearOne_40 rfl ?_
    refine r_aload_n dX12_hearOne_41 rfl ?_
    refine r_getR flX12_106 sh57 rfl dX12_hearOne_42 ?_
    refine r_iload_n dX12_hearOne_45 rfl ?_
    obtain ⟨hin, h⟩ := kbG_if h
    replace hin := kbIn_of hin
    refine q_iald v2.toNatClampNeg rfl sh79 hin dX12_hearOne_46 ?_
    refine r_icmp_ge 113 dX12_hearOne_47 (by decide) (fun hc => ?_) (fun hc => ?_)
    · replace h := kbG_t hc h
      refine r_le [some (.ref 57), some (.int v1), some (.int v2), none, none] ⟨rfl, ⟨rfl, ⟨rfl, trivial⟩⟩⟩ ?_
      exact hx μ (kbG_some h)
    · replace h := kbG_f hc h
      refine r_bipush 7 dX12_hearOne_50 (by decide) ?_
      refine r_iload_n dX12_hearOne_52 rfl ?_
      refine r_imul dX12_hearOne_53 ?_
      refine r_iload_n dX12_hearOne_54 rfl ?_
      refine r_iadd dX12_hearOne_55 ?_
      refine r_iconst 1 dX12_hearOne_56 (by decide) ?_
      refine r_iadd dX12_hearOne_57 ?_
      refine r_istore dX12_hearOne_58 (Nat.le_of_ble_eq_true rfl) rfl ?_
      refine r_aload_n dX12_hearOne_60 rfl ?_
      refine r_getR flX12_123 sh57 rfl dX12_hearOne_61 ?_
      refine r_iload dX12_hearOne_64 rfl ?_
      refine r_aload_n dX12_hearOne_66 rfl ?_
      refine r_getR flX12_123 sh57 rfl dX12_hearOne_67 ?_
      refine r_iload dX12_hearOne_70 rfl ?_
      obtain ⟨hin, h⟩ := kbG_if h
      replace hin := kbIn_of hin
      refine q_iald ((((7 * v2) + v3) + 1).toNatClampNeg) rfl sh85 hin dX12_hearOne_72 ?_
      refine r_aload_n dX12_hearOne_73 rfl ?_
      refine r_getR flX12_120 sh57 rfl dX12_hearOne_74 ?_
      refine r_iload dX12_hearOne_77 rfl ?_
      refine r_iconst 1 dX12_hearOne_79 (by decide) ?_
      refine r_isub dX12_hearOne_80 ?_
      obtain ⟨hin, h⟩ := kbG_if h
      replace hin := kbIn_of hin
      refine q_iald (((((7 * v2) + v3) + 1) - 1).toNatClampNeg) rfl sh84 hin dX12_hearOne_81 ?_
      refine r_aload_n dX12_hearOne_82 rfl ?_
      refine r_getR flX12_103 sh57 rfl dX12_hearOne_83 ?_
      refine r_bipush 6 dX12_hearOne_86 (by decide) ?_
      refine r_iload_n dX12_hearOne_88 rfl ?_
      refine r_imul dX12_hearOne_89 ?_
      refine r_iload_n dX12_hearOne_90 rfl ?_
      refine r_iadd dX12_hearOne_91 ?_
      obtain ⟨hin, h⟩ := kbG_if h
      replace hin := kbIn_of hin
      refine q_iald (((6 * v2) + v3).toNatClampNeg) rfl sh78 hin dX12_hearOne_92 ?_
      refine r_iload_n dX12_hearOne_93 rfl ?_
      refine r_icmp_ne 101 dX12_hearOne_94 (by decide) (fun hc => ?_) (fun hc => ?_)
      · replace h := kbG_f hc h
        refine r_iconst 1 dX12_hearOne_101 (by decide) ?_
        refine r_le [some (.ref 57), some (.int v1), some (.int v2), some (.int v3), none] ⟨rfl, ⟨rfl, ⟨rfl, ⟨rfl, trivial⟩⟩⟩⟩ ?_
        exact jnR_MD_hearOne_102 n v1 v2 v3 (((7 * v2) + v3) + 1) (μ.1 85 ((((7 * v2) + v3) + 1).toNatClampNeg)) (μ.1 84 (((((7 * v2) + v3) + 1) - 1).toNatClampNeg)) 1 μ (hx := hx) (hrec := ih) h
      · replace h := kbG_t hc h
        refine r_iconst 0 dX12_hearOne_97 (by decide) ?_
        refine r_goto 102 dX12_hearOne_98 (by decide) ?_
        refine r_le [some (.ref 57), some (.int v1), some (.int v2), some (.int v3), none] ⟨rfl, ⟨rfl, ⟨rfl, ⟨rfl, trivial⟩⟩⟩⟩ ?_
        exact jnR_MD_hearOne_102 n v1 v2 v3 (((7 * v2) + v3) + 1) (μ.1 85 ((((7 * v2) + v3) + 1).toNatClampNeg)) (μ.1 84 (((((7 * v2) + v3) + 1) - 1).toNatClampNeg)) 0 μ (hx := hx) (hrec := ih) h
def lp_MD_hearOne_30 (n : Nat) (v1 : Int32) : Nat → Int32 → kbM → Option (kbM)
  | 0, _, _ => none
  | k + 1, v2, μ =>
    if (μ.1 57 27) ≤ v2 then
      some μ
    else
      (lp_MD_hearOne_40 n v1 v2 n 0 μ).bind fun x2 =>
      lp_MD_hearOne_30 n v1 k (v2 + 1) x2
theorem lpR_MD_hearOne_30 {l : Launch} (n : Nat) (v1 : Int32)  {Q : kbQt} {P : kbM → Prop} (hx : ∀ z : kbM, P (z) → kbR l MX12_hearOne 1 Q 119 [some (.ref 57), none, none, none, none] [] z) : ∀ (k : Nat) (v2 : Int32) (μ : kbM), kbG (lp_MD_hearOne_30 n v1 k v2 μ) P → kbR l MX12_hearOne 1 Q 30 [some (.ref 57), some (.int v1), some (.int v2), none, none] [] μ := by
  intro k
  induction k with
  | zero => intro v2 μ h; exact absurd h kbG_none
  | succ k ih =>
    intro v2 μ h
    unfold lp_MD_hearOne_30 at h
    refine r_iload_n dX12_hearOne_30 rfl ?_
    refine r_aload_n dX12_hearOne_31 rfl ?_
    refine r_getI flX12_162 sh57 rfl dX12_hearOne_32 ?_
    refine r_icmp_ge 119 dX12_hearOne_35 (by decide) (fun hc => ?_) (fun hc => ?_)
    · replace h := kbG_t hc h
      refine r_le [some (.ref 57), none, none, none, none] ⟨rfl, trivial⟩ ?_
      exact hx μ (kbG_some h)
    · replace h := kbG_f hc h
      refine r_iconst 0 dX12_hearOne_38 (by decide) ?_
      refine r_istore_n dX12_hearOne_39 (Nat.le_of_ble_eq_true rfl) rfl ?_
      refine r_le [some (.ref 57), some (.int v1), some (.int v2), some (.int 0), none] ⟨rfl, ⟨rfl, ⟨rfl, ⟨rfl, trivial⟩⟩⟩⟩ ?_
      obtain ⟨x2, hx0, h⟩ := kbG_bind h
      refine lpR_MD_hearOne_40 n v1 v2 (P := fun z => x2 = z) (hx := fun z e => ?_) n _ _ ⟨_, hx0, rfl⟩
      subst e
      refine r_iinc 1 dX12_hearOne_113 rfl (by decide) (Nat.le_of_ble_eq_true rfl) rfl ?_
      refine r_goto 30 dX12_hearOne_116 (by decide) ?_
      refine r_le [some (.ref 57), some (.int v1), some (.int (v2 + 1)), none, none] ⟨rfl, ⟨rfl, ⟨rfl, trivial⟩⟩⟩ ?_
      exact ih (v2 + 1) x2 h
def lp_MD_hearOne_121 (n : Nat) : Nat → Int32 → kbM → Option (kbM)
  | 0, _, _ => none
  | k + 1, v2, μ =>
    if 70 ≤ v2 then
      some μ
    else
      kbIf (kbIn v2 70) <|
      kbIf (kbIn v2 70) <|
      lp_MD_hearOne_121 n k (v2 + 1) (kbW μ 84 v2.toNatClampNeg (kbMin 100000 (μ.1 85 v2.toNatClampNeg)))
theorem lpR_MD_hearOne_121 {l : Launch} (n : Nat)   {Q : kbQt} {P : kbM → Prop} (hx : ∀ z : kbM, P (z) → kbR l MX12_hearOne 1 Q 150 [none, none, none, none, none] [] z) : ∀ (k : Nat) (v2 : Int32) (μ : kbM), kbG (lp_MD_hearOne_121 n k v2 μ) P → kbR l MX12_hearOne 1 Q 121 [some (.ref 57), none, some (.int v2), none, none] [] μ := by
  intro k
  induction k with
  | zero => intro v2 μ h; exact absurd h kbG_none
  | succ k ih =>
    intro v2 μ h
    unfold lp_MD_hearOne_121 at h
    refine r_iload_n dX12_hearOne_121 rfl ?_
    refine r_bipush 70 dX12_hearOne_122 (by decide) ?_
    refine r_icmp_ge 150 dX12_hearOne_124 (by decide) (fun hc => ?_) (fun hc => ?_)
    · replace h := kbG_t hc h
      refine r_le [none, none, none, none, none] trivial ?_
      exact hx μ (kbG_some h)
    · replace h := kbG_f hc h
      refine r_aload_n dX12_hearOne_127 rfl ?_
      refine r_getR flX12_120 sh57 rfl dX12_hearOne_128 ?_
      refine r_iload_n dX12_hearOne_131 rfl ?_
      refine r_ldc 100000 liX12_199 dX12_hearOne_132 ?_
      refine r_aload_n dX12_hearOne_134 rfl ?_
      refine r_getR flX12_123 sh57 rfl dX12_hearOne_135 ?_
      refine r_iload_n dX12_hearOne_138 rfl ?_
      obtain ⟨hin, h⟩ := kbG_if h
      replace hin := kbIn_of hin
      refine q_iald v2.toNatClampNeg rfl sh85 hin dX12_hearOne_139 ?_
      refine r_min mlX12_200 (Nat.le_of_ble_eq_true rfl) (Nat.le_of_ble_eq_true rfl) dX12_hearOne_140 ?_
      obtain ⟨hin, h⟩ := kbG_if h
      replace hin := kbIn_of hin
      refine q_iast v2.toNatClampNeg rfl sh84 hin dX12_hearOne_143 ?_
      refine r_iinc 1 dX12_hearOne_144 rfl (by decide) (Nat.le_of_ble_eq_true rfl) rfl ?_
      refine r_goto 121 dX12_hearOne_147 (by decide) ?_
      refine r_le [some (.ref 57), none, some (.int (v2 + 1)), none, none] ⟨rfl, ⟨rfl, trivial⟩⟩ ?_
      exact ih (v2 + 1) (kbW μ 84 v2.toNatClampNeg (kbMin 100000 (μ.1 85 v2.toNatClampNeg))) h
def f_MD_hearOne (n : Nat) (a1 : Int32) (μ : kbM) : Option (kbM) :=
  (lp_MD_hearOne_2 n a1 n 0 μ).bind fun x1 =>
  (lp_MD_hearOne_30 n a1 n 0 x1).bind fun x3 =>
  (lp_MD_hearOne_121 n n 0 x3).bind fun x4 =>
  some x4
theorem sp_MD_hearOne {l : Launch} (n : Nat) (a1 : Int32) (μ : kbM)  {x : kbM} (h : f_MD_hearOne n a1 μ = some x) : kbS l MX12_hearOne 1 [.ref 57, .int a1] μ (kbQe none x) := by
  refine kb_enter 3 rfl rfl ?_
  suffices H : ∀ (Q : kbQt) (P : kbM → Prop), (∀ z : kbM, P z → Q none z) → kbG (f_MD_hearOne n a1 μ) P → kbR l MX12_hearOne 1 Q 0 [some (.ref 57), some (.int a1), none, none, none] [] μ from H _ (fun z => z = x) (fun z e => by subst e; exact ⟨rfl, rfl⟩) ⟨x, h, rfl⟩
  clear h
  intro Q P hr h
  unfold f_MD_hearOne at h
  refine r_iconst 0 dX12_hearOne_0 (by decide) ?_
  refine r_istore_n dX12_hearOne_1 (Nat.le_of_ble_eq_true rfl) rfl ?_
  refine r_le [some (.ref 57), some (.int a1), some (.int 0), none, none] ⟨rfl, ⟨rfl, ⟨rfl, trivial⟩⟩⟩ ?_
  obtain ⟨x1, hx0, h⟩ := kbG_bind h
  refine lpR_MD_hearOne_2 n a1 (P := fun z => x1 = z) (hx := fun z e => ?_) n _ _ ⟨_, hx0, rfl⟩
  subst e
  refine r_iconst 0 dX12_hearOne_28 (by decide) ?_
  refine r_istore_n dX12_hearOne_29 (Nat.le_of_ble_eq_true rfl) rfl ?_
  refine r_le [some (.ref 57), some (.int a1), some (.int 0), none, none] ⟨rfl, ⟨rfl, ⟨rfl, trivial⟩⟩⟩ ?_
  obtain ⟨x3, hx0, h⟩ := kbG_bind h
  refine lpR_MD_hearOne_30 n a1 (P := fun z => x3 = z) (hx := fun z e => ?_) n _ _ ⟨_, hx0, rfl⟩
  subst e
  refine r_iconst 0 dX12_hearOne_119 (by decide) ?_
  refine r_istore_n dX12_hearOne_120 (Nat.le_of_ble_eq_true rfl) rfl ?_
  refine r_le [some (.ref 57), none, some (.int 0), none, none] ⟨rfl, ⟨rfl, trivial⟩⟩ ?_
  obtain ⟨x4, hx0, h⟩ := kbG_bind h
  refine lpR_MD_hearOne_121 n (P := fun z => x4 = z) (hx := fun z e => ?_) n _ _ ⟨_, hx0, rfl⟩
  subst e
  exact r_vret rfl dX12_hearOne_150 (hr x4 (kbG_some h))
def lp_MD_mend_25 (n : Nat) : Nat → Int32 → kbM → Option (kbM)
  | 0, _, _ => none
  | k + 1, v2, μ =>
    if 70 ≤ v2 then
      some μ
    else
      kbIf (kbIn v2 70) <|
      lp_MD_mend_25 n k (v2 + 1) (kbW μ 84 v2.toNatClampNeg 100000)
theorem lpR_MD_mend_25 {l : Launch} (n : Nat)   {Q : kbQt} {P : kbM → Prop} (hx : ∀ z : kbM, P (z) → kbR l MX12_mend 5 Q 45 [some (.ref 57), none, none, none] [] z) : ∀ (k : Nat) (v2 : Int32) (μ : kbM), kbG (lp_MD_mend_25 n k v2 μ) P → kbR l MX12_mend 5 Q 25 [some (.ref 57), none, some (.int v2), none] [] μ := by
  intro k
  induction k with
  | zero => intro v2 μ h; exact absurd h kbG_none
  | succ k ih =>
    intro v2 μ h
    unfold lp_MD_mend_25 at h
    refine r_iload_n dX12_mend_25 rfl ?_
    refine r_bipush 70 dX12_mend_26 (by decide) ?_
    refine r_icmp_ge 45 dX12_mend_28 (by decide) (fun hc => ?_) (fun hc => ?_)
    · replace h := kbG_t hc h
      refine r_le [some (.ref 57), none, none, none] ⟨rfl, trivial⟩ ?_
      exact hx μ (kbG_some h)
    · replace h := kbG_f hc h
      refine r_aload_n dX12_mend_31 rfl ?_
      refine r_getR flX12_120 sh57 rfl dX12_mend_32 ?_
      refine r_iload_n dX12_mend_35 rfl ?_
      refine r_ldc 100000 liX12_199 dX12_mend_36 ?_
      obtain ⟨hin, h⟩ := kbG_if h
      replace hin := kbIn_of hin
      refine q_iast v2.toNatClampNeg rfl sh84 hin dX12_mend_38 ?_
      refine r_iinc 1 dX12_mend_39 rfl (by decide) (Nat.le_of_ble_eq_true rfl) rfl ?_
      refine r_goto 25 dX12_mend_42 (by decide) ?_
      refine r_le [some (.ref 57), none, some (.int (v2 + 1)), none] ⟨rfl, ⟨rfl, trivial⟩⟩ ?_
      exact ih (v2 + 1) (kbW μ 84 v2.toNatClampNeg 100000) h
def lp_MD_mend_47 (n : Nat) : Nat → Int32 → kbM → Option (kbM)
  | 0, _, _ => none
  | k + 1, v2, μ =>
    if (μ.1 57 27) ≤ v2 then
      some μ
    else
      kbIf (kbIn (7 * v2) 70) <|
      lp_MD_mend_47 n k (v2 + 1) (kbW μ 84 ((7 * v2).toNatClampNeg) 0)
theorem lpR_MD_mend_47 {l : Launch} (n : Nat)   {Q : kbQt} {P : kbM → Prop} (hx : ∀ z : kbM, P (z) → kbR l MX12_mend 5 Q 71 [some (.ref 57), none, none, none] [] z) : ∀ (k : Nat) (v2 : Int32) (μ : kbM), kbG (lp_MD_mend_47 n k v2 μ) P → kbR l MX12_mend 5 Q 47 [some (.ref 57), none, some (.int v2), none] [] μ := by
  intro k
  induction k with
  | zero => intro v2 μ h; exact absurd h kbG_none
  | succ k ih =>
    intro v2 μ h
    unfold lp_MD_mend_47 at h
    refine r_iload_n dX12_mend_47 rfl ?_
    refine r_aload_n dX12_mend_48 rfl ?_
    refine r_getI flX12_162 sh57 rfl dX12_mend_49 ?_
    refine r_icmp_ge 71 dX12_mend_52 (by decide) (fun hc => ?_) (fun hc => ?_)
    · replace h := kbG_t hc h
      refine r_le [some (.ref 57), none, none, none] ⟨rfl, trivial⟩ ?_
      exact hx μ (kbG_some h)
    · replace h := kbG_f hc h
      refine r_aload_n dX12_mend_55 rfl ?_
      refine r_getR flX12_120 sh57 rfl dX12_mend_56 ?_
      refine r_bipush 7 dX12_mend_59 (by decide) ?_
      refine r_iload_n dX12_mend_61 rfl ?_
      refine r_imul dX12_mend_62 ?_
      refine r_iconst 0 dX12_mend_63 (by decide) ?_
      obtain ⟨hin, h⟩ := kbG_if h
      replace hin := kbIn_of hin
      refine q_iast ((7 * v2).toNatClampNeg) rfl sh84 hin dX12_mend_64 ?_
      refine r_iinc 1 dX12_mend_65 rfl (by decide) (Nat.le_of_ble_eq_true rfl) rfl ?_
      refine r_goto 47 dX12_mend_68 (by decide) ?_
      refine r_le [some (.ref 57), none, some (.int (v2 + 1)), none] ⟨rfl, ⟨rfl, trivial⟩⟩ ?_
      exact ih (v2 + 1) (kbW μ 84 ((7 * v2).toNatClampNeg) 0) h
def lp_MD_mend_77 (n : Nat) : Nat → Int32 → kbM → Option (kbM)
  | 0, _, _ => none
  | k + 1, v2, μ =>
    if (μ.1 57 38) ≤ v2 then
      some μ
    else
      kbIf (kbIn v2 12) <|
      (f_MD_hearOne n (μ.1 76 v2.toNatClampNeg) μ).bind fun x6 =>
      (f_MD_sayMore n x6).bind fun x7 =>
      lp_MD_mend_77 n k (v2 + 1) x7
theorem lpR_MD_mend_77 {l : Launch} (n : Nat)   {Q : kbQt} {P : kbM → Prop} (hx : ∀ z : kbM, P (z) → kbR l MX12_mend 5 Q 105 [some (.ref 57), none, none, none] [] z) : ∀ (k : Nat) (v2 : Int32) (μ : kbM), kbG (lp_MD_mend_77 n k v2 μ) P → kbR l MX12_mend 5 Q 77 [some (.ref 57), none, some (.int v2), none] [] μ := by
  intro k
  induction k with
  | zero => intro v2 μ h; exact absurd h kbG_none
  | succ k ih =>
    intro v2 μ h
    unfold lp_MD_mend_77 at h
    refine r_iload_n dX12_mend_77 rfl ?_
    refine r_aload_n dX12_mend_78 rfl ?_
    refine r_getI flX12_355 sh57 rfl dX12_mend_79 ?_
    refine r_icmp_ge 105 dX12_mend_82 (by decide) (fun hc => ?_) (fun hc => ?_)
    · replace h := kbG_t hc h
      refine r_le [some (.ref 57), none, none, none] ⟨rfl, trivial⟩ ?_
      exact hx μ (kbG_some h)
    · replace h := kbG_f hc h
      refine r_aload_n dX12_mend_85 rfl ?_
      refine r_aload_n dX12_mend_86 rfl ?_
      refine r_getR flX12_97 sh57 rfl dX12_mend_87 ?_
      refine r_iload_n dX12_mend_90 rfl ?_
      obtain ⟨hin, h⟩ := kbG_if h
      replace hin := kbIn_of hin
      refine q_iald v2.toNatClampNeg rfl sh76 hin dX12_mend_91 ?_
      obtain ⟨x6, hx0, h⟩ := kbG_bind h
      refine r_invV_v cvX12_405 sh57 rfl (sp_MD_hearOne n (μ.1 76 v2.toNatClampNeg) μ hx0) rfl rfl (Nat.le_of_ble_eq_true rfl) (Nat.le_of_ble_eq_true rfl) dX12_mend_92 ?_
      refine r_aload_n dX12_mend_95 rfl ?_
      obtain ⟨x7, hx0, h⟩ := kbG_bind h
      refine r_invV_v cvX12_402 sh57 rfl (sp_MD_sayMore n x6 hx0) rfl rfl (Nat.le_of_ble_eq_true rfl) (Nat.le_of_ble_eq_true rfl) dX12_mend_96 ?_
      refine r_iinc 1 dX12_mend_99 rfl (by decide) (Nat.le_of_ble_eq_true rfl) rfl ?_
      refine r_goto 77 dX12_mend_102 (by decide) ?_
      refine r_le [some (.ref 57), none, some (.int (v2 + 1)), none] ⟨rfl, ⟨rfl, trivial⟩⟩ ?_
      exact ih (v2 + 1) x7 h
def lp_MD_mend_110 (n : Nat) (μ : kbM) : Nat → Int32 → Int32 → Option (Int32)
  | 0, _, _ => none
  | k + 1, v2, v3 =>
    if (μ.1 57 27) ≤ v3 then
      some v2
    else
      kbIf (kbIn v3 10) <|
      kbIf (kbIn ((7 * v3) + (μ.1 79 v3.toNatClampNeg)) 70) <|
      lp_MD_mend_110 n μ k (kbMin v2 (μ.1 84 (((7 * v3) + (μ.1 79 v3.toNatClampNeg)).toNatClampNeg))) (v3 + 1)
theorem lpR_MD_mend_110 {l : Launch} (n : Nat) (μ : kbM)  {Q : kbQt} {P : Int32 → Prop} (hx : ∀ z : Int32, P (z) → kbR l MX12_mend 5 Q 145 [none, none, some (.int z), none] [] μ) : ∀ (k : Nat) (v2 : Int32) (v3 : Int32), kbG (lp_MD_mend_110 n μ k v2 v3) P → kbR l MX12_mend 5 Q 110 [some (.ref 57), none, some (.int v2), some (.int v3)] [] μ := by
  intro k
  induction k with
  | zero => intro v2 v3 h; exact absurd h kbG_none
  | succ k ih =>
    intro v2 v3 h
    unfold lp_MD_mend_110 at h
    refine r_iload_n dX12_mend_110 rfl ?_
    refine r_aload_n dX12_mend_111 rfl ?_
    refine r_getI flX12_162 sh57 rfl dX12_mend_112 ?_
    refine r_icmp_ge 145 dX12_mend_115 (by decide) (fun hc => ?_) (fun hc => ?_)
    · replace h := kbG_t hc h
      refine r_le [none, none, some (.int v2), none] ⟨rfl, trivial⟩ ?_
      exact hx v2 (kbG_some h)
    · replace h := kbG_f hc h
      refine r_iload_n dX12_mend_118 rfl ?_
      refine r_aload_n dX12_mend_119 rfl ?_
      refine r_getR flX12_120 sh57 rfl dX12_mend_120 ?_
      refine r_bipush 7 dX12_mend_123 (by decide) ?_
      refine r_iload_n dX12_mend_125 rfl ?_
      refine r_imul dX12_mend_126 ?_
      refine r_aload_n dX12_mend_127 rfl ?_
      refine r_getR flX12_106 sh57 rfl dX12_mend_128 ?_
      refine r_iload_n dX12_mend_131 rfl ?_
      obtain ⟨hin, h⟩ := kbG_if h
      replace hin := kbIn_of hin
      refine q_iald v3.toNatClampNeg rfl sh79 hin dX12_mend_132 ?_
      refine r_iadd dX12_mend_133 ?_
      obtain ⟨hin, h⟩ := kbG_if h
      replace hin := kbIn_of hin
      refine q_iald (((7 * v3) + (μ.1 79 v3.toNatClampNeg)).toNatClampNeg) rfl sh84 hin dX12_mend_134 ?_
      refine r_min mlX12_200 (Nat.le_of_ble_eq_true rfl) (Nat.le_of_ble_eq_true rfl) dX12_mend_135 ?_
      refine r_istore_n dX12_mend_138 (Nat.le_of_ble_eq_true rfl) rfl ?_
      refine r_iinc 1 dX12_mend_139 rfl (by decide) (Nat.le_of_ble_eq_true rfl) rfl ?_
      refine r_goto 110 dX12_mend_142 (by decide) ?_
      refine r_le [some (.ref 57), none, some (.int (kbMin v2 (μ.1 84 (((7 * v3) + (μ.1 79 v3.toNatClampNeg)).toNatClampNeg)))), some (.int (v3 + 1))] ⟨rfl, ⟨rfl, ⟨rfl, trivial⟩⟩⟩ ?_
      exact ih (kbMin v2 (μ.1 84 (((7 * v3) + (μ.1 79 v3.toNatClampNeg)).toNatClampNeg))) (v3 + 1) h
def jn_MD_mend_156 (n : Nat) (w0 : Int32) (μ : kbM) : Option (Int32 × kbM) :=
  some ((w0, μ))
theorem jnR_MD_mend_156 {l : Launch} (n : Nat)   (w0 : Int32) (μ : kbM) {Q : kbQt} {P : Int32 × kbM → Prop} (hr : ∀ z : Int32 × kbM, P z → Q (some (.int z.1)) z.2) (h : kbG (jn_MD_mend_156 n w0 μ) P) : kbR l MX12_mend 5 Q 156 [none, none, none, none] [.int w0] μ := by
  unfold jn_MD_mend_156 at h
  exact r_iret rfl dX12_mend_156 (hr ((w0, μ)) (kbG_some h))
def f_MD_mend (n : Nat) (a1 : Int32) (μ : kbM) : Option (Int32 × kbM) :=
  (f_MD_isRow n a1).bind fun x1 =>
  if x1 = 0 then
    (f_MD_fail 1 (kbW μ 57 3 0)).bind fun x10 =>
    some ((x10.1, x10.2))
  else
    (f_MD_tellSounds n a1 (kbW μ 57 3 0)).bind fun x2 =>
    (lp_MD_mend_25 n n 0 x2).bind fun x3 =>
    (lp_MD_mend_47 n n 0 x3).bind fun x4 =>
    (f_MD_sayMore n x4).bind fun x5 =>
    (lp_MD_mend_77 n n 0 x5).bind fun x8 =>
    (lp_MD_mend_110 n x8 n 100000 0).bind fun x9 =>
    if x9 < 100000 then
      jn_MD_mend_156 n x9 x8
    else
      jn_MD_mend_156 n (-1) x8
theorem sp_MD_mend {l : Launch} (n : Nat) (a1 : Int32) (μ : kbM)  {x : Int32 × kbM} (h : f_MD_mend n a1 μ = some x) : kbS l MX12_mend 5 [.ref 57, .int a1] μ (kbQe (some (.int x.1)) x.2) := by
  refine kb_enter 2 rfl rfl ?_
  suffices H : ∀ (Q : kbQt) (P : Int32 × kbM → Prop), (∀ z : Int32 × kbM, P z → Q (some (.int z.1)) z.2) → kbG (f_MD_mend n a1 μ) P → kbR l MX12_mend 5 Q 0 [some (.ref 57), some (.int a1), none, none] [] μ from H _ (fun z => z = x) (fun z e => by subst e; exact ⟨rfl, rfl⟩) ⟨x, h, rfl⟩
  clear h
  intro Q P hr h
  unfold f_MD_mend at h
  refine r_aload_n dX12_mend_0 rfl ?_
  refine r_iconst 0 dX12_mend_1 (by decide) ?_
  refine r_put flX12_159 sh57 rfl rfl rfl dX12_mend_2 ?_
  refine r_iload_n dX12_mend_5 rfl ?_
  obtain ⟨x1, hx0, h⟩ := kbG_bind h
  refine r_inv_i csX12_345 (sp_MD_isRow n a1 (kbW μ 57 3 0) hx0) rfl rfl (Nat.le_of_ble_eq_true rfl) (Nat.le_of_ble_eq_true rfl) dX12_mend_6 ?_
  refine r_if_ne 18 dX12_mend_9 (by decide) (fun hc => ?_) (fun hc => ?_)
  · replace h := kbG_f hc h
    refine r_aload_n dX12_mend_18 rfl ?_
    refine r_iload_n dX12_mend_19 rfl ?_
    obtain ⟨x2, hx0, h⟩ := kbG_bind h
    refine r_invV_v cvX12_358 sh57 rfl (sp_MD_tellSounds n a1 (kbW μ 57 3 0) hx0) rfl rfl (Nat.le_of_ble_eq_true rfl) (Nat.le_of_ble_eq_true rfl) dX12_mend_20 ?_
    refine r_iconst 0 dX12_mend_23 (by decide) ?_
    refine r_istore_n dX12_mend_24 (Nat.le_of_ble_eq_true rfl) rfl ?_
    refine r_le [some (.ref 57), none, some (.int 0), none] ⟨rfl, ⟨rfl, trivial⟩⟩ ?_
    obtain ⟨x3, hx0, h⟩ := kbG_bind h
    refine lpR_MD_mend_25 n (P := fun z => x3 = z) (hx := fun z e => ?_) n _ _ ⟨_, hx0, rfl⟩
    subst e
    refine r_iconst 0 dX12_mend_45 (by decide) ?_
    refine r_istore_n dX12_mend_46 (Nat.le_of_ble_eq_true rfl) rfl ?_
    refine r_le [some (.ref 57), none, some (.int 0), none] ⟨rfl, ⟨rfl, trivial⟩⟩ ?_
    obtain ⟨x4, hx0, h⟩ := kbG_bind h
    refine lpR_MD_mend_47 n (P := fun z => x4 = z) (hx := fun z e => ?_) n _ _ ⟨_, hx0, rfl⟩
    subst e
    refine r_aload_n dX12_mend_71 rfl ?_
    obtain ⟨x5, hx0, h⟩ := kbG_bind h
    refine r_invV_v cvX12_402 sh57 rfl (sp_MD_sayMore n x4 hx0) rfl rfl (Nat.le_of_ble_eq_true rfl) (Nat.le_of_ble_eq_true rfl) dX12_mend_72 ?_
    refine r_iconst 0 dX12_mend_75 (by decide) ?_
    refine r_istore_n dX12_mend_76 (Nat.le_of_ble_eq_true rfl) rfl ?_
    refine r_le [some (.ref 57), none, some (.int 0), none] ⟨rfl, ⟨rfl, trivial⟩⟩ ?_
    obtain ⟨x8, hx0, h⟩ := kbG_bind h
    refine lpR_MD_mend_77 n (P := fun z => x8 = z) (hx := fun z e => ?_) n _ _ ⟨_, hx0, rfl⟩
    subst e
    refine r_ldc 100000 liX12_199 dX12_mend_105 ?_
    refine r_istore_n dX12_mend_107 (Nat.le_of_ble_eq_true rfl) rfl ?_
    refine r_iconst 0 dX12_mend_108 (by decide) ?_
    refine r_istore_n dX12_mend_109 (Nat.le_of_ble_eq_true rfl) rfl ?_
    refine r_le [some (.ref 57), none, some (.int 100000), some (.int 0)] ⟨rfl, ⟨rfl, ⟨rfl, trivial⟩⟩⟩ ?_
    obtain ⟨x9, hx0, h⟩ := kbG_bind h
    refine lpR_MD_mend_110 n x8 (P := fun z => x9 = z) (hx := fun z e => ?_) n _ _ ⟨_, hx0, rfl⟩
    subst e
    refine r_iload_n dX12_mend_145 rfl ?_
    refine r_ldc 100000 liX12_199 dX12_mend_146 ?_
    refine r_icmp_lt 155 dX12_mend_148 (by decide) (fun hc => ?_) (fun hc => ?_)
    · replace h := kbG_t hc h
      refine r_iload_n dX12_mend_155 rfl ?_
      refine r_le [none, none, none, none] trivial ?_
      exact jnR_MD_mend_156 n x9 x8 (hr := hr) h
    · replace h := kbG_f hc h
      refine r_iconst (-1) dX12_mend_151 (by decide) ?_
      refine r_goto 156 dX12_mend_152 (by decide) ?_
      refine r_le [none, none, none, none] trivial ?_
      exact jnR_MD_mend_156 n (-1) x8 (hr := hr) h
  · replace h := kbG_t hc h
    refine r_aload_n dX12_mend_12 rfl ?_
    refine r_iconst 1 dX12_mend_13 (by decide) ?_
    obtain ⟨x10, hx0, h⟩ := kbG_bind h
    refine r_invV_i cvX12_292 sh57 rfl (sp_MD_fail 1 (kbW μ 57 3 0) hx0) rfl rfl (Nat.le_of_ble_eq_true rfl) (Nat.le_of_ble_eq_true rfl) dX12_mend_14 ?_
    exact r_iret rfl dX12_mend_17 (hr ((x10.1, x10.2)) (kbG_some h))
def lp_MD_power_4 (n : Nat) (v0 : Int32) : Nat → Int32 → Int32 → Option (Int32)
  | 0, _, _ => none
  | k + 1, v1, v2 =>
    if v0 ≤ v2 then
      some v1
    else
      lp_MD_power_4 n v0 k (v1 * 5) (v2 + 1)
theorem lpR_MD_power_4 {l : Launch} (n : Nat) (v0 : Int32) (μ : kbM)  {Q : kbQt} {P : Int32 → Prop} (hx : ∀ z : Int32, P (z) → kbR l MX12_power 1 Q 19 [none, some (.int z), none] [] μ) : ∀ (k : Nat) (v1 : Int32) (v2 : Int32), kbG (lp_MD_power_4 n v0 k v1 v2) P → kbR l MX12_power 1 Q 4 [some (.int v0), some (.int v1), some (.int v2)] [] μ := by
  intro k
  induction k with
  | zero => intro v1 v2 h; exact absurd h kbG_none
  | succ k ih =>
    intro v1 v2 h
    unfold lp_MD_power_4 at h
    refine r_iload_n dX12_power_4 rfl ?_
    refine r_iload_n dX12_power_5 rfl ?_
    refine r_icmp_ge 19 dX12_power_6 (by decide) (fun hc => ?_) (fun hc => ?_)
    · replace h := kbG_t hc h
      refine r_le [none, some (.int v1), none] ⟨rfl, trivial⟩ ?_
      exact hx v1 (kbG_some h)
    · replace h := kbG_f hc h
      refine r_iload_n dX12_power_9 rfl ?_
      refine r_iconst 5 dX12_power_10 (by decide) ?_
      refine r_imul dX12_power_11 ?_
      refine r_istore_n dX12_power_12 (Nat.le_of_ble_eq_true rfl) rfl ?_
      refine r_iinc 1 dX12_power_13 rfl (by decide) (Nat.le_of_ble_eq_true rfl) rfl ?_
      refine r_goto 4 dX12_power_16 (by decide) ?_
      refine r_le [some (.int v0), some (.int (v1 * 5)), some (.int (v2 + 1))] ⟨rfl, ⟨rfl, ⟨rfl, trivial⟩⟩⟩ ?_
      exact ih (v1 * 5) (v2 + 1) h
def f_MD_power (n : Nat) (a0 : Int32) : Option (Int32) :=
  (lp_MD_power_4 n a0 n 1 0).bind fun x1 =>
  some x1
theorem sp_MD_power {l : Launch} (n : Nat) (a0 : Int32) (μ : kbM)  {x : Int32} (h : f_MD_power n a0 = some x) : kbS l MX12_power 1 [.int a0] μ (kbQe (some (.int x)) μ) := by
  refine kb_enter 2 rfl rfl ?_
  suffices H : ∀ (Q : kbQt) (P : Int32 → Prop), (∀ z : Int32, P z → Q (some (.int z)) μ) → kbG (f_MD_power n a0) P → kbR l MX12_power 1 Q 0 [some (.int a0), none, none] [] μ from H _ (fun z => z = x) (fun z e => by subst e; exact ⟨rfl, rfl⟩) ⟨x, h, rfl⟩
  clear h
  intro Q P hr h
  unfold f_MD_power at h
  refine r_iconst 1 dX12_power_0 (by decide) ?_
  refine r_istore_n dX12_power_1 (Nat.le_of_ble_eq_true rfl) rfl ?_
  refine r_iconst 0 dX12_power_2 (by decide) ?_
  refine r_istore_n dX12_power_3 (Nat.le_of_ble_eq_true rfl) rfl ?_
  refine r_le [some (.int a0), some (.int 1), some (.int 0)] ⟨rfl, ⟨rfl, ⟨rfl, trivial⟩⟩⟩ ?_
  obtain ⟨x1, hx0, h⟩ := kbG_bind h
  refine lpR_MD_power_4 n a0 μ (P := fun z => x1 = z) (hx := fun z e => ?_) n _ _ ⟨_, hx0, rfl⟩
  subst e
  refine r_iload_n dX12_power_19 rfl ?_
  exact r_iret rfl dX12_power_20 (hr x1 (kbG_some h))
def jn_MD_behind_35 (n : Nat) (w0 : Int32) : Option (Int32) :=
  some w0
theorem jnR_MD_behind_35 {l : Launch} (n : Nat)   (w0 : Int32) (μ : kbM) {Q : kbQt} {P : Int32 → Prop} (hr : ∀ z : Int32, P z → Q (some (.int z)) μ) (h : kbG (jn_MD_behind_35 n w0) P) : kbR l MX12_behind 2 Q 35 [none, none, none, none] [.int w0] μ := by
  unfold jn_MD_behind_35 at h
  exact r_iret rfl dX12_behind_35 (hr w0 (kbG_some h))
def f_MD_behind (n : Nat) (a0 : Int32) (a1 : Int32) : Option (Int32) :=
  (f_MD_sizeOf n a0).bind fun x1 =>
  (f_MD_sizeOf n a1).bind fun x2 =>
  if 0 ≤ (x1 - x2) then
    (f_MD_power n (x1 - x2)).bind fun x3 =>
    kbIf (decide (¬ x3 = 0)) <|
    if (a0 / x3) = a1 then
      kbIf (decide (¬ x3 = 0)) <|
      jn_MD_behind_35 n (kbRem a0 x3)
    else
      jn_MD_behind_35 n (-1)
  else
    some (-1)
theorem sp_MD_behind {l : Launch} (n : Nat) (a0 : Int32) (a1 : Int32) (μ : kbM)  {x : Int32} (h : f_MD_behind n a0 a1 = some x) : kbS l MX12_behind 2 [.int a0, .int a1] μ (kbQe (some (.int x)) μ) := by
  refine kb_enter 2 rfl rfl ?_
  suffices H : ∀ (Q : kbQt) (P : Int32 → Prop), (∀ z : Int32, P z → Q (some (.int z)) μ) → kbG (f_MD_behind n a0 a1) P → kbR l MX12_behind 2 Q 0 [some (.int a0), some (.int a1), none, none] [] μ from H _ (fun z => z = x) (fun z e => by subst e; exact ⟨rfl, rfl⟩) ⟨x, h, rfl⟩
  clear h
  intro Q P hr h
  unfold f_MD_behind at h
  refine r_iload_n dX12_behind_0 rfl ?_
  obtain ⟨x1, hx0, h⟩ := kbG_bind h
  refine r_inv_i csX12_322 (sp_MD_sizeOf n a0 μ hx0) rfl rfl (Nat.le_of_ble_eq_true rfl) (Nat.le_of_ble_eq_true rfl) dX12_behind_1 ?_
  refine r_iload_n dX12_behind_4 rfl ?_
  obtain ⟨x2, hx0, h⟩ := kbG_bind h
  refine r_inv_i csX12_322 (sp_MD_sizeOf n a1 μ hx0) rfl rfl (Nat.le_of_ble_eq_true rfl) (Nat.le_of_ble_eq_true rfl) dX12_behind_5 ?_
  refine r_isub dX12_behind_8 ?_
  refine r_istore_n dX12_behind_9 (Nat.le_of_ble_eq_true rfl) rfl ?_
  refine r_iload_n dX12_behind_10 rfl ?_
  refine r_if_ge 16 dX12_behind_11 (by decide) (fun hc => ?_) (fun hc => ?_)
  · replace h := kbG_t hc h
    refine r_iload_n dX12_behind_16 rfl ?_
    obtain ⟨x3, hx0, h⟩ := kbG_bind h
    refine r_inv_i csX12_408 (sp_MD_power n (x1 - x2) μ hx0) rfl rfl (Nat.le_of_ble_eq_true rfl) (Nat.le_of_ble_eq_true rfl) dX12_behind_17 ?_
    refine r_istore_n dX12_behind_20 (Nat.le_of_ble_eq_true rfl) rfl ?_
    refine r_iload_n dX12_behind_21 rfl ?_
    refine r_iload_n dX12_behind_22 rfl ?_
    obtain ⟨hz, h⟩ := kbG_if h
    refine r_idiv dX12_behind_23 (of_decide_eq_true hz) ?_
    refine r_iload_n dX12_behind_24 rfl ?_
    refine r_icmp_ne 34 dX12_behind_25 (by decide) (fun hc => ?_) (fun hc => ?_)
    · replace h := kbG_f hc h
      refine r_iconst (-1) dX12_behind_34 (by decide) ?_
      refine r_le [none, none, none, none] trivial ?_
      exact jnR_MD_behind_35 n (-1) μ (hr := hr) h
    · replace h := kbG_t hc h
      refine r_iload_n dX12_behind_28 rfl ?_
      refine r_iload_n dX12_behind_29 rfl ?_
      obtain ⟨hz, h⟩ := kbG_if h
      refine r_rem dX12_behind_30 (of_decide_eq_true hz) ?_
      refine r_goto 35 dX12_behind_31 (by decide) ?_
      refine r_le [none, none, none, none] trivial ?_
      exact jnR_MD_behind_35 n (kbRem a0 x3) μ (hr := hr) h
  · replace h := kbG_f hc h
    refine r_iconst (-1) dX12_behind_14 (by decide) ?_
    exact r_iret rfl dX12_behind_15 (hr (-1) (kbG_some h))
def f_MD_isTail (a1 : Int32) (a2 : Int32) (μ : kbM) : Option (Int32 × kbM) :=
  if a1 = 0 then
    some ((0, kbW μ 57 45 (kbMin (μ.1 57 45) a2)))
  else
    kbIf (kbIn a1 3125) <|
    if a2 < (μ.1 86 a1.toNatClampNeg) then
      kbIf (kbIn a1 3125) <|
      some ((1, kbW μ 86 a1.toNatClampNeg a2))
    else
      some ((0, μ))
theorem sp_MD_isTail {l : Launch} (a1 : Int32) (a2 : Int32) (μ : kbM)  {x : Int32 × kbM} (h : f_MD_isTail a1 a2 μ = some x) : kbS l MX12_isTail 1 [.ref 57, .int a1, .int a2] μ (kbQe (some (.int x.1)) x.2) := by
  refine kb_enter 0 rfl rfl ?_
  suffices H : ∀ (Q : kbQt) (P : Int32 × kbM → Prop), (∀ z : Int32 × kbM, P z → Q (some (.int z.1)) z.2) → kbG (f_MD_isTail a1 a2 μ) P → kbR l MX12_isTail 1 Q 0 [some (.ref 57), some (.int a1), some (.int a2)] [] μ from H _ (fun z => z = x) (fun z e => by subst e; exact ⟨rfl, rfl⟩) ⟨x, h, rfl⟩
  clear h
  intro Q P hr h
  unfold f_MD_isTail at h
  refine r_iload_n dX12_isTail_0 rfl ?_
  refine r_if_ne 18 dX12_isTail_1 (by decide) (fun hc => ?_) (fun hc => ?_)
  · replace h := kbG_f hc h
    refine r_iload_n dX12_isTail_18 rfl ?_
    refine r_aload_n dX12_isTail_19 rfl ?_
    refine r_getR flX12_126 sh57 rfl dX12_isTail_20 ?_
    refine r_iload_n dX12_isTail_23 rfl ?_
    obtain ⟨hin, h⟩ := kbG_if h
    replace hin := kbIn_of hin
    refine q_iald a1.toNatClampNeg rfl sh86 hin dX12_isTail_24 ?_
    refine r_icmp_lt 30 dX12_isTail_25 (by decide) (fun hc => ?_) (fun hc => ?_)
    · replace h := kbG_t hc h
      refine r_aload_n dX12_isTail_30 rfl ?_
      refine r_getR flX12_126 sh57 rfl dX12_isTail_31 ?_
      refine r_iload_n dX12_isTail_34 rfl ?_
      refine r_iload_n dX12_isTail_35 rfl ?_
      obtain ⟨hin, h⟩ := kbG_if h
      replace hin := kbIn_of hin
      refine q_iast a1.toNatClampNeg rfl sh86 hin dX12_isTail_36 ?_
      refine r_iconst 1 dX12_isTail_37 (by decide) ?_
      exact r_zret rfl rfl dX12_isTail_38 (hr ((1, kbW μ 86 a1.toNatClampNeg a2)) (kbG_some h))
    · replace h := kbG_f hc h
      refine r_iconst 0 dX12_isTail_28 (by decide) ?_
      exact r_zret rfl rfl dX12_isTail_29 (hr ((0, μ)) (kbG_some h))
  · replace h := kbG_t hc h
    refine r_aload_n dX12_isTail_4 rfl ?_
    refine r_aload_n dX12_isTail_5 rfl ?_
    refine r_getI flX12_411 sh57 rfl dX12_isTail_6 ?_
    refine r_iload_n dX12_isTail_9 rfl ?_
    refine r_min mlX12_200 (Nat.le_of_ble_eq_true rfl) (Nat.le_of_ble_eq_true rfl) dX12_isTail_10 ?_
    refine r_put flX12_411 sh57 rfl rfl rfl dX12_isTail_13 ?_
    refine r_iconst 0 dX12_isTail_16 (by decide) ?_
    exact r_zret rfl rfl dX12_isTail_17 (hr ((0, kbW μ 57 45 (kbMin (μ.1 57 45) a2))) (kbG_some h))
def jn_MD_goOn_88 (n : Nat) (rec : Int32 → Int32 → kbM → Option (Int32 × kbM)) (v1 : Int32) (v2 : Int32) (v3 : Int32) (v4 : Int32) (μ : kbM) : Option (Int32 × kbM) :=
  rec v3 (v4 + 1) μ
theorem jnR_MD_goOn_88 {l : Launch} (n : Nat)   (v1 : Int32) (v2 : Int32) (v3 : Int32) (v4 : Int32) (μ : kbM) {Q : kbQt} {P : Int32 × kbM → Prop} (hx : ∀ z : Int32 × kbM, P (z) → kbR l MX12_goOn 3 Q 94 [none, none, none, some (.int z.1), none, none] [] z.2) {rec : Int32 → Int32 → kbM → Option (Int32 × kbM)} (hrec : ∀ (v3 : Int32) (v4 : Int32) (μ : kbM), kbG (rec v3 v4 μ) P → kbR l MX12_goOn 3 Q 12 [some (.ref 57), some (.int v1), some (.int v2), some (.int v3), some (.int v4), none] [] μ) (h : kbG (jn_MD_goOn_88 n rec v1 v2 v3 v4 μ) P) : kbR l MX12_goOn 3 Q 88 [some (.ref 57), some (.int v1), some (.int v2), some (.int v3), some (.int v4), none] [] μ := by
  unfold jn_MD_goOn_88 at h
  refine r_iinc 1 dX12_goOn_88 rfl (by decide) (Nat.le_of_ble_eq_true rfl) rfl ?_
  refine r_goto 12 dX12_goOn_91 (by decide) ?_
  refine r_le [some (.ref 57), some (.int v1), some (.int v2), some (.int v3), some (.int (v4 + 1)), none] ⟨rfl, ⟨rfl, ⟨rfl, ⟨rfl, ⟨rfl, trivial⟩⟩⟩⟩⟩ ?_
  exact hrec v3 (v4 + 1) μ h
def lp_MD_goOn_12 (n : Nat) (v1 : Int32) (v2 : Int32) : Nat → Int32 → Int32 → kbM → Option (Int32 × kbM)
  | 0, _, _, _ => none
  | k + 1, v3, v4, μ =>
    if (μ.1 57 27) ≤ v4 then
      some ((v3, μ))
    else
      kbIf (kbIn v4 10) <|
      (f_MD_behind n v1 (μ.1 70 v4.toNatClampNeg)).bind fun x1 =>
      if x1 = (-1) then
        kbIf (kbIn v4 10) <|
        (f_MD_behind n (μ.1 70 v4.toNatClampNeg) v1).bind fun x2 =>
        if x2 = (-1) then
          jn_MD_goOn_88 n (lp_MD_goOn_12 n v1 v2 k) v1 v2 v3 v4 μ
        else
          (f_MD_sizeOf n x2).bind fun x3 =>
          (f_MD_isTail x2 (v2 + x3) μ).bind fun x4 =>
          jn_MD_goOn_88 n (lp_MD_goOn_12 n v1 v2 k) v1 v2 (v3 ||| x4.1) v4 x4.2
      else
        (f_MD_isTail x1 v2 μ).bind fun x5 =>
        jn_MD_goOn_88 n (lp_MD_goOn_12 n v1 v2 k) v1 v2 (v3 ||| x5.1) v4 x5.2
theorem lpR_MD_goOn_12 {l : Launch} (n : Nat) (v1 : Int32) (v2 : Int32)  {Q : kbQt} {P : Int32 × kbM → Prop} (hx : ∀ z : Int32 × kbM, P (z) → kbR l MX12_goOn 3 Q 94 [none, none, none, some (.int z.1), none, none] [] z.2) : ∀ (k : Nat) (v3 : Int32) (v4 : Int32) (μ : kbM), kbG (lp_MD_goOn_12 n v1 v2 k v3 v4 μ) P → kbR l MX12_goOn 3 Q 12 [some (.ref 57), some (.int v1), some (.int v2), some (.int v3), some (.int v4), none] [] μ := by
  intro k
  induction k with
  | zero => intro v3 v4 μ h; exact absurd h kbG_none
  | succ k ih =>
    intro v3 v4 μ h
    unfold lp_MD_goOn_12 at h
    refine r_iload dX12_goOn_12 rfl ?_
    refine r_aload_n dX12_goOn_14 rfl ?_
    refine r_getI flX12_162 sh57 rfl dX12_goOn_15 ?_
    refine r_icmp_ge 94 dX12_goOn_18 (by decide) (fun hc => ?_) (fun hc => ?_)
    · replace h := kbG_t hc h
      refine r_le [none, none, none, some (.int v3), none, none] ⟨rfl, trivial⟩ ?_
      exact hx ((v3, μ)) (kbG_some h)
    · replace h := kbG_f hc h
      refine r_iload_n dX12_goOn_21 rfl ?_
      refine r_aload_n dX12_goOn_22 rfl ?_
      refine r_getR flX12_79 sh57 rfl dX12_goOn_23 ?_
      refine r_iload dX12_goOn_26 rfl ?_
      obtain ⟨hin, h⟩ := kbG_if h
      replace hin := kbIn_of hin
      refine q_iald v4.toNatClampNeg rfl sh70 hin dX12_goOn_28 ?_
      obtain ⟨x1, hx0, h⟩ := kbG_bind h
      refine r_inv_i csX12_414 (sp_MD_behind n v1 (μ.1 70 v4.toNatClampNeg) μ hx0) rfl rfl (Nat.le_of_ble_eq_true rfl) (Nat.le_of_ble_eq_true rfl) dX12_goOn_29 ?_
      refine r_istore dX12_goOn_32 (Nat.le_of_ble_eq_true rfl) rfl ?_
      refine r_iload dX12_goOn_34 rfl ?_
      refine r_iconst (-1) dX12_goOn_36 (by decide) ?_
      refine r_icmp_eq 53 dX12_goOn_37 (by decide) (fun hc => ?_) (fun hc => ?_)
      · replace h := kbG_t hc h
        refine r_aload_n dX12_goOn_53 rfl ?_
        refine r_getR flX12_79 sh57 rfl dX12_goOn_54 ?_
        refine r_iload dX12_goOn_57 rfl ?_
        obtain ⟨hin, h⟩ := kbG_if h
        replace hin := kbIn_of hin
        refine q_iald v4.toNatClampNeg rfl sh70 hin dX12_goOn_59 ?_
        refine r_iload_n dX12_goOn_60 rfl ?_
        obtain ⟨x2, hx0, h⟩ := kbG_bind h
        refine r_inv_i csX12_414 (sp_MD_behind n (μ.1 70 v4.toNatClampNeg) v1 μ hx0) rfl rfl (Nat.le_of_ble_eq_true rfl) (Nat.le_of_ble_eq_true rfl) dX12_goOn_61 ?_
        refine r_istore dX12_goOn_64 (Nat.le_of_ble_eq_true rfl) rfl ?_
        refine r_iload dX12_goOn_66 rfl ?_
        refine r_iconst (-1) dX12_goOn_68 (by decide) ?_
        refine r_icmp_eq 88 dX12_goOn_69 (by decide) (fun hc => ?_) (fun hc => ?_)
        · replace h := kbG_t hc h
          refine r_le [some (.ref 57), some (.int v1), some (.int v2), some (.int v3), some (.int v4), none] ⟨rfl, ⟨rfl, ⟨rfl, ⟨rfl, ⟨rfl, trivial⟩⟩⟩⟩⟩ ?_
          exact jnR_MD_goOn_88 n v1 v2 v3 v4 μ (hx := hx) (hrec := ih) h
        · replace h := kbG_f hc h
          refine r_iload_n dX12_goOn_72 rfl ?_
          refine r_aload_n dX12_goOn_73 rfl ?_
          refine r_iload dX12_goOn_74 rfl ?_
          refine r_iload_n dX12_goOn_76 rfl ?_
          refine r_iload dX12_goOn_77 rfl ?_
          obtain ⟨x3, hx0, h⟩ := kbG_bind h
          refine r_inv_i csX12_322 (sp_MD_sizeOf n x2 μ hx0) rfl rfl (Nat.le_of_ble_eq_true rfl) (Nat.le_of_ble_eq_true rfl) dX12_goOn_79 ?_
          refine r_iadd dX12_goOn_82 ?_
          obtain ⟨x4, hx0, h⟩ := kbG_bind h
          refine r_invV_i cvX12_417 sh57 rfl (sp_MD_isTail x2 (v2 + x3) μ hx0) rfl rfl (Nat.le_of_ble_eq_true rfl) (Nat.le_of_ble_eq_true rfl) dX12_goOn_83 ?_
          refine r_ior dX12_goOn_86 ?_
          refine r_istore_n dX12_goOn_87 (Nat.le_of_ble_eq_true rfl) rfl ?_
          refine r_le [some (.ref 57), some (.int v1), some (.int v2), some (.int (v3 ||| x4.1)), some (.int v4), none] ⟨rfl, ⟨rfl, ⟨rfl, ⟨rfl, ⟨rfl, trivial⟩⟩⟩⟩⟩ ?_
          exact jnR_MD_goOn_88 n v1 v2 (v3 ||| x4.1) v4 x4.2 (hx := hx) (hrec := ih) h
      · replace h := kbG_f hc h
        refine r_iload_n dX12_goOn_40 rfl ?_
        refine r_aload_n dX12_goOn_41 rfl ?_
        refine r_iload dX12_goOn_42 rfl ?_
        refine r_iload_n dX12_goOn_44 rfl ?_
        obtain ⟨x5, hx0, h⟩ := kbG_bind h
        refine r_invV_i cvX12_417 sh57 rfl (sp_MD_isTail x1 v2 μ hx0) rfl rfl (Nat.le_of_ble_eq_true rfl) (Nat.le_of_ble_eq_true rfl) dX12_goOn_45 ?_
        refine r_ior dX12_goOn_48 ?_
        refine r_istore_n dX12_goOn_49 (Nat.le_of_ble_eq_true rfl) rfl ?_
        refine r_goto 88 dX12_goOn_50 (by decide) ?_
        refine r_le [some (.ref 57), some (.int v1), some (.int v2), some (.int (v3 ||| x5.1)), some (.int v4), none] ⟨rfl, ⟨rfl, ⟨rfl, ⟨rfl, ⟨rfl, trivial⟩⟩⟩⟩⟩ ?_
        exact jnR_MD_goOn_88 n v1 v2 (v3 ||| x5.1) v4 x5.2 (hx := hx) (hrec := ih) h
def f_MD_goOn (n : Nat) (a1 : Int32) (μ : kbM) : Option (Int32 × kbM) :=
  kbIf (kbIn a1 3125) <|
  (lp_MD_goOn_12 n a1 (μ.1 86 a1.toNatClampNeg) n 0 0 μ).bind fun x6 =>
  kbIf (decide (x6.1 = 0 ∨ x6.1 = 1)) <|
  some ((x6.1, x6.2))
theorem sp_MD_goOn {l : Launch} (n : Nat) (a1 : Int32) (μ : kbM)  {x : Int32 × kbM} (h : f_MD_goOn n a1 μ = some x) : kbS l MX12_goOn 3 [.ref 57, .int a1] μ (kbQe (some (.int x.1)) x.2) := by
  refine kb_enter 4 rfl rfl ?_
  suffices H : ∀ (Q : kbQt) (P : Int32 × kbM → Prop), (∀ z : Int32 × kbM, P z → Q (some (.int z.1)) z.2) → kbG (f_MD_goOn n a1 μ) P → kbR l MX12_goOn 3 Q 0 [some (.ref 57), some (.int a1), none, none, none, none] [] μ from H _ (fun z => z = x) (fun z e => by subst e; exact ⟨rfl, rfl⟩) ⟨x, h, rfl⟩
  clear h
  intro Q P hr h
  unfold f_MD_goOn at h
  refine r_aload_n dX12_goOn_0 rfl ?_
  refine r_getR flX12_126 sh57 rfl dX12_goOn_1 ?_
  refine r_iload_n dX12_goOn_4 rfl ?_
  obtain ⟨hin, h⟩ := kbG_if h
  replace hin := kbIn_of hin
  refine q_iald a1.toNatClampNeg rfl sh86 hin dX12_goOn_5 ?_
  refine r_istore_n dX12_goOn_6 (Nat.le_of_ble_eq_true rfl) rfl ?_
  refine r_iconst 0 dX12_goOn_7 (by decide) ?_
  refine r_istore_n dX12_goOn_8 (Nat.le_of_ble_eq_true rfl) rfl ?_
  refine r_iconst 0 dX12_goOn_9 (by decide) ?_
  refine r_istore dX12_goOn_10 (Nat.le_of_ble_eq_true rfl) rfl ?_
  refine r_le [some (.ref 57), some (.int a1), some (.int (μ.1 86 a1.toNatClampNeg)), some (.int 0), some (.int 0), none] ⟨rfl, ⟨rfl, ⟨rfl, ⟨rfl, ⟨rfl, trivial⟩⟩⟩⟩⟩ ?_
  obtain ⟨x6, hx0, h⟩ := kbG_bind h
  refine lpR_MD_goOn_12 n a1 (μ.1 86 a1.toNatClampNeg) (P := fun z => x6 = z) (hx := fun z e => ?_) n _ _ _ ⟨_, hx0, rfl⟩
  subst e
  refine r_iload_n dX12_goOn_94 rfl ?_
  obtain ⟨hz, h⟩ := kbG_if h
  exact r_zret rfl (kb_z01 (of_decide_eq_true hz)) dX12_goOn_95 (hr ((x6.1, x6.2)) (kbG_some h))
def lp_MD_twoWays_13 (n : Nat) : Nat → Int32 → kbM → Option (kbM)
  | 0, _, _ => none
  | k + 1, v1, μ =>
    if 3125 ≤ v1 then
      some μ
    else
      kbIf (kbIn v1 3125) <|
      lp_MD_twoWays_13 n k (v1 + 1) (kbW μ 86 v1.toNatClampNeg 100000)
theorem lpR_MD_twoWays_13 {l : Launch} (n : Nat)   {Q : kbQt} {P : kbM → Prop} (hx : ∀ z : kbM, P (z) → kbR l MX12_twoWays 4 Q 34 [some (.ref 57), none, none, none] [] z) : ∀ (k : Nat) (v1 : Int32) (μ : kbM), kbG (lp_MD_twoWays_13 n k v1 μ) P → kbR l MX12_twoWays 4 Q 13 [some (.ref 57), some (.int v1), none, none] [] μ := by
  intro k
  induction k with
  | zero => intro v1 μ h; exact absurd h kbG_none
  | succ k ih =>
    intro v1 μ h
    unfold lp_MD_twoWays_13 at h
    refine r_iload_n dX12_twoWays_13 rfl ?_
    refine r_sipush 3125 dX12_twoWays_14 (by decide) ?_
    refine r_icmp_ge 34 dX12_twoWays_17 (by decide) (fun hc => ?_) (fun hc => ?_)
    · replace h := kbG_t hc h
      refine r_le [some (.ref 57), none, none, none] ⟨rfl, trivial⟩ ?_
      exact hx μ (kbG_some h)
    · replace h := kbG_f hc h
      refine r_aload_n dX12_twoWays_20 rfl ?_
      refine r_getR flX12_126 sh57 rfl dX12_twoWays_21 ?_
      refine r_iload_n dX12_twoWays_24 rfl ?_
      refine r_ldc 100000 liX12_199 dX12_twoWays_25 ?_
      obtain ⟨hin, h⟩ := kbG_if h
      replace hin := kbIn_of hin
      refine q_iast v1.toNatClampNeg rfl sh86 hin dX12_twoWays_27 ?_
      refine r_iinc 1 dX12_twoWays_28 rfl (by decide) (Nat.le_of_ble_eq_true rfl) rfl ?_
      refine r_goto 13 dX12_twoWays_31 (by decide) ?_
      refine r_le [some (.ref 57), some (.int (v1 + 1)), none, none] ⟨rfl, ⟨rfl, trivial⟩⟩ ?_
      exact ih (v1 + 1) (kbW μ 86 v1.toNatClampNeg 100000) h
def jn_MD_twoWays_99 (n : Nat) (rec : Int32 → kbM → Option (kbM)) (v1 : Int32) (v2 : Int32) (μ : kbM) : Option (kbM) :=
  rec (v2 + 1) μ
theorem jnR_MD_twoWays_99 {l : Launch} (n : Nat)   (v1 : Int32) (v2 : Int32) (μ : kbM) {Q : kbQt} {P : kbM → Prop} (hx : ∀ z : kbM, P (z) → kbR l MX12_twoWays 4 Q 105 [some (.ref 57), some (.int v1), none, none] [] z) {rec : Int32 → kbM → Option (kbM)} (hrec : ∀ (v2 : Int32) (μ : kbM), kbG (rec v2 μ) P → kbR l MX12_twoWays 4 Q 46 [some (.ref 57), some (.int v1), some (.int v2), none] [] μ) (h : kbG (jn_MD_twoWays_99 n rec v1 v2 μ) P) : kbR l MX12_twoWays 4 Q 99 [some (.ref 57), some (.int v1), some (.int v2), none] [] μ := by
  unfold jn_MD_twoWays_99 at h
  refine r_iinc 1 dX12_twoWays_99 rfl (by decide) (Nat.le_of_ble_eq_true rfl) rfl ?_
  refine r_goto 46 dX12_twoWays_102 (by decide) ?_
  refine r_le [some (.ref 57), some (.int v1), some (.int (v2 + 1)), none] ⟨rfl, ⟨rfl, ⟨rfl, trivial⟩⟩⟩ ?_
  exact hrec (v2 + 1) μ h
def jn_MD_twoWays_78 (n : Nat) (rec : Int32 → kbM → Option (kbM)) (v1 : Int32) (v2 : Int32) (w0 : Int32) (μ : kbM) : Option (kbM) :=
  if w0 = (-1) then
    jn_MD_twoWays_99 n rec v1 v2 μ
  else
    kbIf (kbIn v2 10) <|
    (f_MD_sizeOf n (μ.1 70 v2.toNatClampNeg)).bind fun x3 =>
    (f_MD_isTail w0 x3 μ).bind fun x4 =>
    jn_MD_twoWays_99 n rec v1 v2 x4.2
theorem jnR_MD_twoWays_78 {l : Launch} (n : Nat)   (v1 : Int32) (v2 : Int32) (w0 : Int32) (μ : kbM) {Q : kbQt} {P : kbM → Prop} (hx : ∀ z : kbM, P (z) → kbR l MX12_twoWays 4 Q 105 [some (.ref 57), some (.int v1), none, none] [] z) {rec : Int32 → kbM → Option (kbM)} (hrec : ∀ (v2 : Int32) (μ : kbM), kbG (rec v2 μ) P → kbR l MX12_twoWays 4 Q 46 [some (.ref 57), some (.int v1), some (.int v2), none] [] μ) (h : kbG (jn_MD_twoWays_78 n rec v1 v2 w0 μ) P) : kbR l MX12_twoWays 4 Q 78 [some (.ref 57), some (.int v1), some (.int v2), none] [.int w0] μ := by
  unfold jn_MD_twoWays_78 at h
  refine r_istore_n dX12_twoWays_78 (Nat.le_of_ble_eq_true rfl) rfl ?_
  refine r_iload_n dX12_twoWays_79 rfl ?_
  refine r_iconst (-1) dX12_twoWays_80 (by decide) ?_
  refine r_icmp_eq 99 dX12_twoWays_81 (by decide) (fun hc => ?_) (fun hc => ?_)
  · replace h := kbG_t hc h
    refine r_le [some (.ref 57), some (.int v1), some (.int v2), none] ⟨rfl, ⟨rfl, ⟨rfl, trivial⟩⟩⟩ ?_
    exact jnR_MD_twoWays_99 n v1 v2 μ (hx := hx) (hrec := hrec) h
  · replace h := kbG_f hc h
    refine r_aload_n dX12_twoWays_84 rfl ?_
    refine r_iload_n dX12_twoWays_85 rfl ?_
    refine r_aload_n dX12_twoWays_86 rfl ?_
    refine r_getR flX12_79 sh57 rfl dX12_twoWays_87 ?_
    refine r_iload_n dX12_twoWays_90 rfl ?_
    obtain ⟨hin, h⟩ := kbG_if h
    replace hin := kbIn_of hin
    refine q_iald v2.toNatClampNeg rfl sh70 hin dX12_twoWays_91 ?_
    obtain ⟨x3, hx0, h⟩ := kbG_bind h
    refine r_inv_i csX12_322 (sp_MD_sizeOf n (μ.1 70 v2.toNatClampNeg) μ hx0) rfl rfl (Nat.le_of_ble_eq_true rfl) (Nat.le_of_ble_eq_true rfl) dX12_twoWays_92 ?_
    obtain ⟨x4, hx0, h⟩ := kbG_bind h
    refine r_invV_i cvX12_417 sh57 rfl (sp_MD_isTail w0 x3 μ hx0) rfl rfl (Nat.le_of_ble_eq_true rfl) (Nat.le_of_ble_eq_true rfl) dX12_twoWays_95 ?_
    refine r_pop dX12_twoWays_98 rfl ?_
    refine r_le [some (.ref 57), some (.int v1), some (.int v2), none] ⟨rfl, ⟨rfl, ⟨rfl, trivial⟩⟩⟩ ?_
    exact jnR_MD_twoWays_99 n v1 v2 x4.2 (hx := hx) (hrec := hrec) h
def lp_MD_twoWays_46 (n : Nat) (v1 : Int32) : Nat → Int32 → kbM → Option (kbM)
  | 0, _, _ => none
  | k + 1, v2, μ =>
    if (μ.1 57 27) ≤ v2 then
      some μ
    else
      if v1 = v2 then
        jn_MD_twoWays_78 n (lp_MD_twoWays_46 n v1 k) v1 v2 (-1) μ
      else
        kbIf (kbIn v2 10) <|
        kbIf (kbIn v1 10) <|
        (f_MD_behind n (μ.1 70 v2.toNatClampNeg) (μ.1 70 v1.toNatClampNeg)).bind fun x2 =>
        jn_MD_twoWays_78 n (lp_MD_twoWays_46 n v1 k) v1 v2 x2 μ
theorem lpR_MD_twoWays_46 {l : Launch} (n : Nat) (v1 : Int32)  {Q : kbQt} {P : kbM → Prop} (hx : ∀ z : kbM, P (z) → kbR l MX12_twoWays 4 Q 105 [some (.ref 57), some (.int v1), none, none] [] z) : ∀ (k : Nat) (v2 : Int32) (μ : kbM), kbG (lp_MD_twoWays_46 n v1 k v2 μ) P → kbR l MX12_twoWays 4 Q 46 [some (.ref 57), some (.int v1), some (.int v2), none] [] μ := by
  intro k
  induction k with
  | zero => intro v2 μ h; exact absurd h kbG_none
  | succ k ih =>
    intro v2 μ h
    unfold lp_MD_twoWays_46 at h
    refine r_iload_n dX12_twoWays_46 rfl ?_
    refine r_aload_n dX12_twoWays_47 rfl ?_
    refine r_getI flX12_162 sh57 rfl dX12_twoWays_48 ?_
    refine r_icmp_ge 105 dX12_twoWays_51 (by decide) (fun hc => ?_) (fun hc => ?_)
    · replace h := kbG_t hc h
      refine r_le [some (.ref 57), some (.int v1), none, none] ⟨rfl, ⟨rfl, trivial⟩⟩ ?_
      exact hx μ (kbG_some h)
    · replace h := kbG_f hc h
      refine r_iload_n dX12_twoWays_54 rfl ?_
      refine r_iload_n dX12_twoWays_55 rfl ?_
      refine r_icmp_ne 63 dX12_twoWays_56 (by decide) (fun hc => ?_) (fun hc => ?_)
      · replace h := kbG_f hc h
        refine r_aload_n dX12_twoWays_63 rfl ?_
        refine r_getR flX12_79 sh57 rfl dX12_twoWays_64 ?_
        refine r_iload_n dX12_twoWays_67 rfl ?_
        obtain ⟨hin, h⟩ := kbG_if h
        replace hin := kbIn_of hin
        refine q_iald v2.toNatClampNeg rfl sh70 hin dX12_twoWays_68 ?_
        refine r_aload_n dX12_twoWays_69 rfl ?_
        refine r_getR flX12_79 sh57 rfl dX12_twoWays_70 ?_
        refine r_iload_n dX12_twoWays_73 rfl ?_
        obtain ⟨hin, h⟩ := kbG_if h
        replace hin := kbIn_of hin
        refine q_iald v1.toNatClampNeg rfl sh70 hin dX12_twoWays_74 ?_
        obtain ⟨x2, hx0, h⟩ := kbG_bind h
        refine r_inv_i csX12_414 (sp_MD_behind n (μ.1 70 v2.toNatClampNeg) (μ.1 70 v1.toNatClampNeg) μ hx0) rfl rfl (Nat.le_of_ble_eq_true rfl) (Nat.le_of_ble_eq_true rfl) dX12_twoWays_75 ?_
        refine r_le [some (.ref 57), some (.int v1), some (.int v2), none] ⟨rfl, ⟨rfl, ⟨rfl, trivial⟩⟩⟩ ?_
        exact jnR_MD_twoWays_78 n v1 v2 x2 μ (hx := hx) (hrec := ih) h
      · replace h := kbG_t hc h
        refine r_iconst (-1) dX12_twoWays_59 (by decide) ?_
        refine r_goto 78 dX12_twoWays_60 (by decide) ?_
        refine r_le [some (.ref 57), some (.int v1), some (.int v2), none] ⟨rfl, ⟨rfl, ⟨rfl, trivial⟩⟩⟩ ?_
        exact jnR_MD_twoWays_78 n v1 v2 (-1) μ (hx := hx) (hrec := ih) h
def lp_MD_twoWays_36 (n : Nat) : Nat → Int32 → kbM → Option (kbM)
  | 0, _, _ => none
  | k + 1, v1, μ =>
    if (μ.1 57 27) ≤ v1 then
      some μ
    else
      (lp_MD_twoWays_46 n v1 n 0 μ).bind fun x5 =>
      lp_MD_twoWays_36 n k (v1 + 1) x5
theorem lpR_MD_twoWays_36 {l : Launch} (n : Nat)   {Q : kbQt} {P : kbM → Prop} (hx : ∀ z : kbM, P (z) → kbR l MX12_twoWays 4 Q 111 [some (.ref 57), none, none, none] [] z) : ∀ (k : Nat) (v1 : Int32) (μ : kbM), kbG (lp_MD_twoWays_36 n k v1 μ) P → kbR l MX12_twoWays 4 Q 36 [some (.ref 57), some (.int v1), none, none] [] μ := by
  intro k
  induction k with
  | zero => intro v1 μ h; exact absurd h kbG_none
  | succ k ih =>
    intro v1 μ h
    unfold lp_MD_twoWays_36 at h
    refine r_iload_n dX12_twoWays_36 rfl ?_
    refine r_aload_n dX12_twoWays_37 rfl ?_
    refine r_getI flX12_162 sh57 rfl dX12_twoWays_38 ?_
    refine r_icmp_ge 111 dX12_twoWays_41 (by decide) (fun hc => ?_) (fun hc => ?_)
    · replace h := kbG_t hc h
      refine r_le [some (.ref 57), none, none, none] ⟨rfl, trivial⟩ ?_
      exact hx μ (kbG_some h)
    · replace h := kbG_f hc h
      refine r_iconst 0 dX12_twoWays_44 (by decide) ?_
      refine r_istore_n dX12_twoWays_45 (Nat.le_of_ble_eq_true rfl) rfl ?_
      refine r_le [some (.ref 57), some (.int v1), some (.int 0), none] ⟨rfl, ⟨rfl, ⟨rfl, trivial⟩⟩⟩ ?_
      obtain ⟨x5, hx0, h⟩ := kbG_bind h
      refine lpR_MD_twoWays_46 n v1 (P := fun z => x5 = z) (hx := fun z e => ?_) n _ _ ⟨_, hx0, rfl⟩
      subst e
      refine r_iinc 1 dX12_twoWays_105 rfl (by decide) (Nat.le_of_ble_eq_true rfl) rfl ?_
      refine r_goto 36 dX12_twoWays_108 (by decide) ?_
      refine r_le [some (.ref 57), some (.int (v1 + 1)), none, none] ⟨rfl, ⟨rfl, trivial⟩⟩ ?_
      exact ih (v1 + 1) x5 h
def jn_MD_twoWays_160 (n : Nat) (rec : Int32 → Int32 → kbM → Option (Int32 × kbM)) (v1 : Int32) (v2 : Int32) (μ : kbM) : Option (Int32 × kbM) :=
  rec v1 (v2 + 1) μ
theorem jnR_MD_twoWays_160 {l : Launch} (n : Nat)   (v1 : Int32) (v2 : Int32) (μ : kbM) {Q : kbQt} {P : Int32 × kbM → Prop} (hx : ∀ z : Int32 × kbM, P (z) → kbR l MX12_twoWays 4 Q 113 [some (.ref 57), some (.int z.1), none, none] [] z.2) {rec : Int32 → Int32 → kbM → Option (Int32 × kbM)} (hrec : ∀ (v1 : Int32) (v2 : Int32) (μ : kbM), kbG (rec v1 v2 μ) P → kbR l MX12_twoWays 4 Q 121 [some (.ref 57), some (.int v1), some (.int v2), none] [] μ) (h : kbG (jn_MD_twoWays_160 n rec v1 v2 μ) P) : kbR l MX12_twoWays 4 Q 160 [some (.ref 57), some (.int v1), some (.int v2), none] [] μ := by
  unfold jn_MD_twoWays_160 at h
  refine r_iinc 1 dX12_twoWays_160 rfl (by decide) (Nat.le_of_ble_eq_true rfl) rfl ?_
  refine r_goto 121 dX12_twoWays_163 (by decide) ?_
  refine r_le [some (.ref 57), some (.int v1), some (.int (v2 + 1)), none] ⟨rfl, ⟨rfl, ⟨rfl, trivial⟩⟩⟩ ?_
  exact hrec v1 (v2 + 1) μ h
def lp_MD_twoWays_121 (n : Nat) : Nat → Int32 → Int32 → kbM → Option (Int32 × kbM)
  | 0, _, _, _ => none
  | k + 1, v1, v2, μ =>
    if 3125 ≤ v2 then
      some ((v1, μ))
    else
      kbIf (kbIn v2 3125) <|
      if 100000 ≤ (μ.1 86 v2.toNatClampNeg) then
        jn_MD_twoWays_160 n (lp_MD_twoWays_121 n k) v1 v2 μ
      else
        kbIf (kbIn v2 3125) <|
        if (μ.1 57 45) ≤ (μ.1 86 v2.toNatClampNeg) then
          jn_MD_twoWays_160 n (lp_MD_twoWays_121 n k) v1 v2 μ
        else
          (f_MD_goOn n v2 μ).bind fun x7 =>
          jn_MD_twoWays_160 n (lp_MD_twoWays_121 n k) (v1 ||| x7.1) v2 x7.2
theorem lpR_MD_twoWays_121 {l : Launch} (n : Nat)   {Q : kbQt} {P : Int32 × kbM → Prop} (hx : ∀ z : Int32 × kbM, P (z) → kbR l MX12_twoWays 4 Q 113 [some (.ref 57), some (.int z.1), none, none] [] z.2) : ∀ (k : Nat) (v1 : Int32) (v2 : Int32) (μ : kbM), kbG (lp_MD_twoWays_121 n k v1 v2 μ) P → kbR l MX12_twoWays 4 Q 121 [some (.ref 57), some (.int v1), some (.int v2), none] [] μ := by
  intro k
  induction k with
  | zero => intro v1 v2 μ h; exact absurd h kbG_none
  | succ k ih =>
    intro v1 v2 μ h
    unfold lp_MD_twoWays_121 at h
    refine r_iload_n dX12_twoWays_121 rfl ?_
    refine r_sipush 3125 dX12_twoWays_122 (by decide) ?_
    refine r_icmp_ge 166 dX12_twoWays_125 (by decide) (fun hc => ?_) (fun hc => ?_)
    · replace h := kbG_t hc h
      refine r_goto 113 dX12_twoWays_166 (by decide) ?_
      refine r_le [some (.ref 57), some (.int v1), none, none] ⟨rfl, ⟨rfl, trivial⟩⟩ ?_
      exact hx ((v1, μ)) (kbG_some h)
    · replace h := kbG_f hc h
      refine r_aload_n dX12_twoWays_128 rfl ?_
      refine r_getR flX12_126 sh57 rfl dX12_twoWays_129 ?_
      refine r_iload_n dX12_twoWays_132 rfl ?_
      obtain ⟨hin, h⟩ := kbG_if h
      replace hin := kbIn_of hin
      refine q_iald v2.toNatClampNeg rfl sh86 hin dX12_twoWays_133 ?_
      refine r_ldc 100000 liX12_199 dX12_twoWays_134 ?_
      refine r_icmp_ge 160 dX12_twoWays_136 (by decide) (fun hc => ?_) (fun hc => ?_)
      · replace h := kbG_t hc h
        refine r_le [some (.ref 57), some (.int v1), some (.int v2), none] ⟨rfl, ⟨rfl, ⟨rfl, trivial⟩⟩⟩ ?_
        exact jnR_MD_twoWays_160 n v1 v2 μ (hx := hx) (hrec := ih) h
      · replace h := kbG_f hc h
        refine r_aload_n dX12_twoWays_139 rfl ?_
        refine r_getR flX12_126 sh57 rfl dX12_twoWays_140 ?_
        refine r_iload_n dX12_twoWays_143 rfl ?_
        obtain ⟨hin, h⟩ := kbG_if h
        replace hin := kbIn_of hin
        refine q_iald v2.toNatClampNeg rfl sh86 hin dX12_twoWays_144 ?_
        refine r_aload_n dX12_twoWays_145 rfl ?_
        refine r_getI flX12_411 sh57 rfl dX12_twoWays_146 ?_
        refine r_icmp_ge 160 dX12_twoWays_149 (by decide) (fun hc => ?_) (fun hc => ?_)
        · replace h := kbG_t hc h
          refine r_le [some (.ref 57), some (.int v1), some (.int v2), none] ⟨rfl, ⟨rfl, ⟨rfl, trivial⟩⟩⟩ ?_
          exact jnR_MD_twoWays_160 n v1 v2 μ (hx := hx) (hrec := ih) h
        · replace h := kbG_f hc h
          refine r_iload_n dX12_twoWays_152 rfl ?_
          refine r_aload_n dX12_twoWays_153 rfl ?_
          refine r_iload_n dX12_twoWays_154 rfl ?_
          obtain ⟨x7, hx0, h⟩ := kbG_bind h
          refine r_invV_i cvX12_420 sh57 rfl (sp_MD_goOn n v2 μ hx0) rfl rfl (Nat.le_of_ble_eq_true rfl) (Nat.le_of_ble_eq_true rfl) dX12_twoWays_155 ?_
          refine r_ior dX12_twoWays_158 ?_
          refine r_istore_n dX12_twoWays_159 (Nat.le_of_ble_eq_true rfl) rfl ?_
          refine r_le [some (.ref 57), some (.int (v1 ||| x7.1)), some (.int v2), none] ⟨rfl, ⟨rfl, ⟨rfl, trivial⟩⟩⟩ ?_
          exact jnR_MD_twoWays_160 n (v1 ||| x7.1) v2 x7.2 (hx := hx) (hrec := ih) h
def lp_MD_twoWays_113 (n : Nat) : Nat → Int32 → kbM → Option (kbM)
  | 0, _, _ => none
  | k + 1, v1, μ =>
    if v1 = 0 then
      some μ
    else
      (lp_MD_twoWays_121 n n 0 1 μ).bind fun x8 =>
      lp_MD_twoWays_113 n k x8.1 x8.2
theorem lpR_MD_twoWays_113 {l : Launch} (n : Nat)   {Q : kbQt} {P : kbM → Prop} (hx : ∀ z : kbM, P (z) → kbR l MX12_twoWays 4 Q 169 [some (.ref 57), none, none, none] [] z) : ∀ (k : Nat) (v1 : Int32) (μ : kbM), kbG (lp_MD_twoWays_113 n k v1 μ) P → kbR l MX12_twoWays 4 Q 113 [some (.ref 57), some (.int v1), none, none] [] μ := by
  intro k
  induction k with
  | zero => intro v1 μ h; exact absurd h kbG_none
  | succ k ih =>
    intro v1 μ h
    unfold lp_MD_twoWays_113 at h
    refine r_iload_n dX12_twoWays_113 rfl ?_
    refine r_if_eq 169 dX12_twoWays_114 (by decide) (fun hc => ?_) (fun hc => ?_)
    · replace h := kbG_t hc h
      refine r_le [some (.ref 57), none, none, none] ⟨rfl, trivial⟩ ?_
      exact hx μ (kbG_some h)
    · replace h := kbG_f hc h
      refine r_iconst 0 dX12_twoWays_117 (by decide) ?_
      refine r_istore_n dX12_twoWays_118 (Nat.le_of_ble_eq_true rfl) rfl ?_
      refine r_iconst 1 dX12_twoWays_119 (by decide) ?_
      refine r_istore_n dX12_twoWays_120 (Nat.le_of_ble_eq_true rfl) rfl ?_
      refine r_le [some (.ref 57), some (.int 0), some (.int 1), none] ⟨rfl, ⟨rfl, ⟨rfl, trivial⟩⟩⟩ ?_
      obtain ⟨x8, hx0, h⟩ := kbG_bind h
      refine lpR_MD_twoWays_121 n (P := fun z => x8 = z) (hx := fun z e => ?_) n _ _ _ ⟨_, hx0, rfl⟩
      subst e
      refine r_le [some (.ref 57), some (.int x8.1), none, none] ⟨rfl, ⟨rfl, trivial⟩⟩ ?_
      exact ih x8.1 x8.2 h
def jn_MD_twoWays_186 (n : Nat) (w0 : Int32) (μ : kbM) : Option (Int32 × kbM) :=
  some ((w0, μ))
theorem jnR_MD_twoWays_186 {l : Launch} (n : Nat)   (w0 : Int32) (μ : kbM) {Q : kbQt} {P : Int32 × kbM → Prop} (hr : ∀ z : Int32 × kbM, P z → Q (some (.int z.1)) z.2) (h : kbG (jn_MD_twoWays_186 n w0 μ) P) : kbR l MX12_twoWays 4 Q 186 [none, none, none, none] [.int w0] μ := by
  unfold jn_MD_twoWays_186 at h
  exact r_iret rfl dX12_twoWays_186 (hr ((w0, μ)) (kbG_some h))
def f_MD_twoWays (n : Nat) (μ : kbM) : Option (Int32 × kbM) :=
  (lp_MD_twoWays_13 n n 0 (kbW (kbW μ 57 3 0) 57 45 100000)).bind fun x1 =>
  (lp_MD_twoWays_36 n n 0 x1).bind fun x6 =>
  (lp_MD_twoWays_113 n n 1 x6).bind fun x9 =>
  if (x9.1 57 45) < 100000 then
    jn_MD_twoWays_186 n (x9.1 57 45) x9
  else
    jn_MD_twoWays_186 n (-1) x9
theorem sp_MD_twoWays {l : Launch} (n : Nat) (μ : kbM)  {x : Int32 × kbM} (h : f_MD_twoWays n μ = some x) : kbS l MX12_twoWays 4 [.ref 57] μ (kbQe (some (.int x.1)) x.2) := by
  refine kb_enter 3 rfl rfl ?_
  suffices H : ∀ (Q : kbQt) (P : Int32 × kbM → Prop), (∀ z : Int32 × kbM, P z → Q (some (.int z.1)) z.2) → kbG (f_MD_twoWays n μ) P → kbR l MX12_twoWays 4 Q 0 [some (.ref 57), none, none, none] [] μ from H _ (fun z => z = x) (fun z e => by subst e; exact ⟨rfl, rfl⟩) ⟨x, h, rfl⟩
  clear h
  intro Q P hr h
  unfold f_MD_twoWays at h
  refine r_aload_n dX12_twoWays_0 rfl ?_
  refine r_iconst 0 dX12_twoWays_1 (by decide) ?_
  refine r_put flX12_159 sh57 rfl rfl rfl dX12_twoWays_2 ?_
  refine r_aload_n dX12_twoWays_5 rfl ?_
  refine r_ldc 100000 liX12_199 dX12_twoWays_6 ?_
  refine r_put flX12_411 sh57 rfl rfl rfl dX12_twoWays_8 ?_
  refine r_iconst 0 dX12_twoWays_11 (by decide) ?_
  refine r_istore_n dX12_twoWays_12 (Nat.le_of_ble_eq_true rfl) rfl ?_
  refine r_le [some (.ref 57), some (.int 0), none, none] ⟨rfl, ⟨rfl, trivial⟩⟩ ?_
  obtain ⟨x1, hx0, h⟩ := kbG_bind h
  refine lpR_MD_twoWays_13 n (P := fun z => x1 = z) (hx := fun z e => ?_) n _ _ ⟨_, hx0, rfl⟩
  subst e
  refine r_iconst 0 dX12_twoWays_34 (by decide) ?_
  refine r_istore_n dX12_twoWays_35 (Nat.le_of_ble_eq_true rfl) rfl ?_
  refine r_le [some (.ref 57), some (.int 0), none, none] ⟨rfl, ⟨rfl, trivial⟩⟩ ?_
  obtain ⟨x6, hx0, h⟩ := kbG_bind h
  refine lpR_MD_twoWays_36 n (P := fun z => x6 = z) (hx := fun z e => ?_) n _ _ ⟨_, hx0, rfl⟩
  subst e
  refine r_iconst 1 dX12_twoWays_111 (by decide) ?_
  refine r_istore_n dX12_twoWays_112 (Nat.le_of_ble_eq_true rfl) rfl ?_
  refine r_le [some (.ref 57), some (.int 1), none, none] ⟨rfl, ⟨rfl, trivial⟩⟩ ?_
  obtain ⟨x9, hx0, h⟩ := kbG_bind h
  refine lpR_MD_twoWays_113 n (P := fun z => x9 = z) (hx := fun z e => ?_) n _ _ ⟨_, hx0, rfl⟩
  subst e
  refine r_aload_n dX12_twoWays_169 rfl ?_
  refine r_getI flX12_411 sh57 rfl dX12_twoWays_170 ?_
  refine r_ldc 100000 liX12_199 dX12_twoWays_173 ?_
  refine r_icmp_lt 182 dX12_twoWays_175 (by decide) (fun hc => ?_) (fun hc => ?_)
  · replace h := kbG_t hc h
    refine r_aload_n dX12_twoWays_182 rfl ?_
    refine r_getI flX12_411 sh57 rfl dX12_twoWays_183 ?_
    refine r_le [none, none, none, none] trivial ?_
    exact jnR_MD_twoWays_186 n (x9.1 57 45) x9 (hr := hr) h
  · replace h := kbG_f hc h
    refine r_iconst (-1) dX12_twoWays_178 (by decide) ?_
    refine r_goto 186 dX12_twoWays_179 (by decide) ?_
    refine r_le [none, none, none, none] trivial ?_
    exact jnR_MD_twoWays_186 n (-1) x9 (hr := hr) h
