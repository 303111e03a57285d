theorem dX6_isRow_0 : decode cX6_isRow 0 = .ok (.iload_n 0, 1) := by decide +kernel
theorem dX6_isRow_1 : decode cX6_isRow 1 = .ok (.ifCond .lt 9, 3) := by decide +kernel
theorem dX6_isRow_4 : decode cX6_isRow 4 = .ok (.iload_n 0, 1) := by decide +kernel
theorem dX6_isRow_5 : decode cX6_isRow 5 = .ok (.ldc 9, 2) := by decide +kernel
theorem dX6_isRow_7 : decode cX6_isRow 7 = .ok (.if_icmp .le 5, 3) := by decide +kernel
theorem dX6_isRow_10 : decode cX6_isRow 10 = .ok (.iconst 0, 1) := by decide +kernel
theorem dX6_isRow_11 : decode cX6_isRow 11 = .ok (.ireturn, 1) := by decide +kernel
theorem dX6_isRow_12 : decode cX6_isRow 12 = .ok (.iload_n 0, 1) := by decide +kernel
theorem dX6_isRow_13 : decode cX6_isRow 13 = .ok (.istore_n 1, 1) := by decide +kernel
theorem dX6_isRow_14 : decode cX6_isRow 14 = .ok (.iconst 0, 1) := by decide +kernel
theorem dX6_isRow_15 : decode cX6_isRow 15 = .ok (.istore_n 2, 1) := by decide +kernel
theorem dX6_isRow_16 : decode cX6_isRow 16 = .ok (.iload_n 2, 1) := by decide +kernel
theorem dX6_isRow_17 : decode cX6_isRow 17 = .ok (.bipush 12, 2) := by decide +kernel
theorem dX6_isRow_19 : decode cX6_isRow 19 = .ok (.if_icmp .ge 25, 3) := by decide +kernel
theorem dX6_isRow_22 : decode cX6_isRow 22 = .ok (.iload_n 1, 1) := by decide +kernel
theorem dX6_isRow_23 : decode cX6_isRow 23 = .ok (.ifCond .le 21, 3) := by decide +kernel
theorem dX6_isRow_26 : decode cX6_isRow 26 = .ok (.iload_n 1, 1) := by decide +kernel
theorem dX6_isRow_27 : decode cX6_isRow 27 = .ok (.iconst 5, 1) := by decide +kernel
theorem dX6_isRow_28 : decode cX6_isRow 28 = .ok (.irem, 1) := by decide +kernel
theorem dX6_isRow_29 : decode cX6_isRow 29 = .ok (.ifCond .ne 5, 3) := by decide +kernel
theorem dX6_isRow_32 : decode cX6_isRow 32 = .ok (.iconst 0, 1) := by decide +kernel
theorem dX6_isRow_33 : decode cX6_isRow 33 = .ok (.ireturn, 1) := by decide +kernel
theorem dX6_isRow_34 : decode cX6_isRow 34 = .ok (.iload_n 1, 1) := by decide +kernel
theorem dX6_isRow_35 : decode cX6_isRow 35 = .ok (.iconst 5, 1) := by decide +kernel
theorem dX6_isRow_36 : decode cX6_isRow 36 = .ok (.idiv, 1) := by decide +kernel
theorem dX6_isRow_37 : decode cX6_isRow 37 = .ok (.istore_n 1, 1) := by decide +kernel
theorem dX6_isRow_38 : decode cX6_isRow 38 = .ok (.iinc 2 1, 3) := by decide +kernel
theorem dX6_isRow_41 : decode cX6_isRow 41 = .ok (.goto (-25), 3) := by decide +kernel
theorem dX6_isRow_44 : decode cX6_isRow 44 = .ok (.iconst 1, 1) := by decide +kernel
theorem dX6_isRow_45 : decode cX6_isRow 45 = .ok (.ireturn, 1) := by decide +kernel
theorem dX6_size_0 : decode cX6_size 0 = .ok (.iconst 0, 1) := by decide +kernel
theorem dX6_size_1 : decode cX6_size 1 = .ok (.istore_n 1, 1) := by decide +kernel
theorem dX6_size_2 : decode cX6_size 2 = .ok (.iload_n 1, 1) := by decide +kernel
theorem dX6_size_3 : decode cX6_size 3 = .ok (.bipush 12, 2) := by decide +kernel
theorem dX6_size_5 : decode cX6_size 5 = .ok (.if_icmp .ge 18, 3) := by decide +kernel
theorem dX6_size_8 : decode cX6_size 8 = .ok (.iload_n 0, 1) := by decide +kernel
theorem dX6_size_9 : decode cX6_size 9 = .ok (.getstatic 10, 3) := by decide +kernel
theorem dX6_size_12 : decode cX6_size 12 = .ok (.iload_n 1, 1) := by decide +kernel
theorem dX6_size_13 : decode cX6_size 13 = .ok (.iaload, 1) := by decide +kernel
theorem dX6_size_14 : decode cX6_size 14 = .ok (.if_icmp .lt 9, 3) := by decide +kernel
theorem dX6_size_17 : decode cX6_size 17 = .ok (.iinc 1 1, 3) := by decide +kernel
theorem dX6_size_20 : decode cX6_size 20 = .ok (.goto (-18), 3) := by decide +kernel
theorem dX6_size_23 : decode cX6_size 23 = .ok (.iload_n 1, 1) := by decide +kernel
theorem dX6_size_24 : decode cX6_size 24 = .ok (.ireturn, 1) := by decide +kernel
theorem dX6_handBit_0 : decode cX6_handBit 0 = .ok (.iload_n 0, 1) := by decide +kernel
theorem dX6_handBit_1 : decode cX6_handBit 1 = .ok (.iconst 1, 1) := by decide +kernel
theorem dX6_handBit_2 : decode cX6_handBit 2 = .ok (.if_icmp .ge 7, 3) := by decide +kernel
theorem dX6_handBit_5 : decode cX6_handBit 5 = .ok (.iconst 0, 1) := by decide +kernel
theorem dX6_handBit_6 : decode cX6_handBit 6 = .ok (.goto 8, 3) := by decide +kernel
theorem dX6_handBit_9 : decode cX6_handBit 9 = .ok (.iconst 1, 1) := by decide +kernel
theorem dX6_handBit_10 : decode cX6_handBit 10 = .ok (.iload_n 0, 1) := by decide +kernel
theorem dX6_handBit_11 : decode cX6_handBit 11 = .ok (.iconst 1, 1) := by decide +kernel
theorem dX6_handBit_12 : decode cX6_handBit 12 = .ok (.isub, 1) := by decide +kernel
theorem dX6_handBit_13 : decode cX6_handBit 13 = .ok (.ishl, 1) := by decide +kernel
theorem dX6_handBit_14 : decode cX6_handBit 14 = .ok (.ireturn, 1) := by decide +kernel
theorem dX6_soundsIn_0 : decode cX6_soundsIn 0 = .ok (.iconst 0, 1) := by decide +kernel
theorem dX6_soundsIn_1 : decode cX6_soundsIn 1 = .ok (.istore_n 1, 1) := by decide +kernel
theorem dX6_soundsIn_2 : decode cX6_soundsIn 2 = .ok (.iload_n 0, 1) := by decide +kernel
theorem dX6_soundsIn_3 : decode cX6_soundsIn 3 = .ok (.istore_n 2, 1) := by decide +kernel
theorem dX6_soundsIn_4 : decode cX6_soundsIn 4 = .ok (.iconst 0, 1) := by decide +kernel
theorem dX6_soundsIn_5 : decode cX6_soundsIn 5 = .ok (.istore_n 3, 1) := by decide +kernel
theorem dX6_soundsIn_6 : decode cX6_soundsIn 6 = .ok (.iload_n 3, 1) := by decide +kernel
theorem dX6_soundsIn_7 : decode cX6_soundsIn 7 = .ok (.bipush 12, 2) := by decide +kernel
theorem dX6_soundsIn_9 : decode cX6_soundsIn 9 = .ok (.if_icmp .ge 26, 3) := by decide +kernel
theorem dX6_soundsIn_12 : decode cX6_soundsIn 12 = .ok (.iload_n 2, 1) := by decide +kernel
theorem dX6_soundsIn_13 : decode cX6_soundsIn 13 = .ok (.ifCond .le 22, 3) := by decide +kernel
theorem dX6_soundsIn_16 : decode cX6_soundsIn 16 = .ok (.iload_n 1, 1) := by decide +kernel
theorem dX6_soundsIn_17 : decode cX6_soundsIn 17 = .ok (.iload_n 2, 1) := by decide +kernel
theorem dX6_soundsIn_18 : decode cX6_soundsIn 18 = .ok (.iconst 5, 1) := by decide +kernel
theorem dX6_soundsIn_19 : decode cX6_soundsIn 19 = .ok (.irem, 1) := by decide +kernel
theorem dX6_soundsIn_20 : decode cX6_soundsIn 20 = .ok (.invokestatic 24, 3) := by decide +kernel
theorem dX6_soundsIn_23 : decode cX6_soundsIn 23 = .ok (.ior, 1) := by decide +kernel
theorem dX6_soundsIn_24 : decode cX6_soundsIn 24 = .ok (.istore_n 1, 1) := by decide +kernel
theorem dX6_soundsIn_25 : decode cX6_soundsIn 25 = .ok (.iload_n 2, 1) := by decide +kernel
theorem dX6_soundsIn_26 : decode cX6_soundsIn 26 = .ok (.iconst 5, 1) := by decide +kernel
theorem dX6_soundsIn_27 : decode cX6_soundsIn 27 = .ok (.idiv, 1) := by decide +kernel
theorem dX6_soundsIn_28 : decode cX6_soundsIn 28 = .ok (.istore_n 2, 1) := by decide +kernel
theorem dX6_soundsIn_29 : decode cX6_soundsIn 29 = .ok (.iinc 3 1, 3) := by decide +kernel
theorem dX6_soundsIn_32 : decode cX6_soundsIn 32 = .ok (.goto (-26), 3) := by decide +kernel
theorem dX6_soundsIn_35 : decode cX6_soundsIn 35 = .ok (.iload_n 1, 1) := by decide +kernel
theorem dX6_soundsIn_36 : decode cX6_soundsIn 36 = .ok (.ireturn, 1) := by decide +kernel
theorem dX6_withoutLast_0 : decode cX6_withoutLast 0 = .ok (.iload_n 0, 1) := by decide +kernel
theorem dX6_withoutLast_1 : decode cX6_withoutLast 1 = .ok (.iconst 5, 1) := by decide +kernel
theorem dX6_withoutLast_2 : decode cX6_withoutLast 2 = .ok (.idiv, 1) := by decide +kernel
theorem dX6_withoutLast_3 : decode cX6_withoutLast 3 = .ok (.ireturn, 1) := by decide +kernel
theorem dX6_withoutPalms_0 : decode cX6_withoutPalms 0 = .ok (.iconst 0, 1) := by decide +kernel
theorem dX6_withoutPalms_1 : decode cX6_withoutPalms 1 = .ok (.istore_n 1, 1) := by decide +kernel
theorem dX6_withoutPalms_2 : decode cX6_withoutPalms 2 = .ok (.iconst 1, 1) := by decide +kernel
theorem dX6_withoutPalms_3 : decode cX6_withoutPalms 3 = .ok (.istore_n 2, 1) := by decide +kernel
theorem dX6_withoutPalms_4 : decode cX6_withoutPalms 4 = .ok (.iload_n 0, 1) := by decide +kernel
theorem dX6_withoutPalms_5 : decode cX6_withoutPalms 5 = .ok (.istore_n 3, 1) := by decide +kernel
theorem dX6_withoutPalms_6 : decode cX6_withoutPalms 6 = .ok (.iconst 0, 1) := by decide +kernel
theorem dX6_withoutPalms_7 : decode cX6_withoutPalms 7 = .ok (.istore 4, 2) := by decide +kernel
theorem dX6_withoutPalms_9 : decode cX6_withoutPalms 9 = .ok (.iload 4, 2) := by decide +kernel
theorem dX6_withoutPalms_11 : decode cX6_withoutPalms 11 = .ok (.bipush 12, 2) := by decide +kernel
theorem dX6_withoutPalms_13 : decode cX6_withoutPalms 13 = .ok (.if_icmp .ge 36, 3) := by decide +kernel
theorem dX6_withoutPalms_16 : decode cX6_withoutPalms 16 = .ok (.iload_n 3, 1) := by decide +kernel
theorem dX6_withoutPalms_17 : decode cX6_withoutPalms 17 = .ok (.ifCond .le 32, 3) := by decide +kernel
theorem dX6_withoutPalms_20 : decode cX6_withoutPalms 20 = .ok (.iload_n 3, 1) := by decide +kernel
theorem dX6_withoutPalms_21 : decode cX6_withoutPalms 21 = .ok (.iconst 5, 1) := by decide +kernel
theorem dX6_withoutPalms_22 : decode cX6_withoutPalms 22 = .ok (.irem, 1) := by decide +kernel
theorem dX6_withoutPalms_23 : decode cX6_withoutPalms 23 = .ok (.iconst 2, 1) := by decide +kernel
theorem dX6_withoutPalms_24 : decode cX6_withoutPalms 24 = .ok (.if_icmp .eq 15, 3) := by decide +kernel
theorem dX6_withoutPalms_27 : decode cX6_withoutPalms 27 = .ok (.iload_n 1, 1) := by decide +kernel
theorem dX6_withoutPalms_28 : decode cX6_withoutPalms 28 = .ok (.iload_n 3, 1) := by decide +kernel
theorem dX6_withoutPalms_29 : decode cX6_withoutPalms 29 = .ok (.iconst 5, 1) := by decide +kernel
theorem dX6_withoutPalms_30 : decode cX6_withoutPalms 30 = .ok (.irem, 1) := by decide +kernel
theorem dX6_withoutPalms_31 : decode cX6_withoutPalms 31 = .ok (.iload_n 2, 1) := by decide +kernel
theorem dX6_withoutPalms_32 : decode cX6_withoutPalms 32 = .ok (.imul, 1) := by decide +kernel
theorem dX6_withoutPalms_33 : decode cX6_withoutPalms 33 = .ok (.iadd, 1) := by decide +kernel
theorem dX6_withoutPalms_34 : decode cX6_withoutPalms 34 = .ok (.istore_n 1, 1) := by decide +kernel
theorem dX6_withoutPalms_35 : decode cX6_withoutPalms 35 = .ok (.iload_n 2, 1) := by decide +kernel
theorem dX6_withoutPalms_36 : decode cX6_withoutPalms 36 = .ok (.iconst 5, 1) := by decide +kernel
theorem dX6_withoutPalms_37 : decode cX6_withoutPalms 37 = .ok (.imul, 1) := by decide +kernel
theorem dX6_withoutPalms_38 : decode cX6_withoutPalms 38 = .ok (.istore_n 2, 1) := by decide +kernel
theorem dX6_withoutPalms_39 : decode cX6_withoutPalms 39 = .ok (.iload_n 3, 1) := by decide +kernel
theorem dX6_withoutPalms_40 : decode cX6_withoutPalms 40 = .ok (.iconst 5, 1) := by decide +kernel
theorem dX6_withoutPalms_41 : decode cX6_withoutPalms 41 = .ok (.idiv, 1) := by decide +kernel
theorem dX6_withoutPalms_42 : decode cX6_withoutPalms 42 = .ok (.istore_n 3, 1) := by decide +kernel
theorem dX6_withoutPalms_43 : decode cX6_withoutPalms 43 = .ok (.iinc 4 1, 3) := by decide +kernel
theorem dX6_withoutPalms_46 : decode cX6_withoutPalms 46 = .ok (.goto (-37), 3) := by decide +kernel
theorem dX6_withoutPalms_49 : decode cX6_withoutPalms 49 = .ok (.iload_n 1, 1) := by decide +kernel
theorem dX6_withoutPalms_50 : decode cX6_withoutPalms 50 = .ok (.ireturn, 1) := by decide +kernel
theorem dX6_knucklesForRings_0 : decode cX6_knucklesForRings 0 = .ok (.iconst 0, 1) := by decide +kernel
theorem dX6_knucklesForRings_1 : decode cX6_knucklesForRings 1 = .ok (.istore_n 1, 1) := by decide +kernel
theorem dX6_knucklesForRings_2 : decode cX6_knucklesForRings 2 = .ok (.iconst 1, 1) := by decide +kernel
theorem dX6_knucklesForRings_3 : decode cX6_knucklesForRings 3 = .ok (.istore_n 2, 1) := by decide +kernel
theorem dX6_knucklesForRings_4 : decode cX6_knucklesForRings 4 = .ok (.iload_n 0, 1) := by decide +kernel
theorem dX6_knucklesForRings_5 : decode cX6_knucklesForRings 5 = .ok (.istore_n 3, 1) := by decide +kernel
theorem dX6_knucklesForRings_6 : decode cX6_knucklesForRings 6 = .ok (.iconst 0, 1) := by decide +kernel
theorem dX6_knucklesForRings_7 : decode cX6_knucklesForRings 7 = .ok (.istore 4, 2) := by decide +kernel
theorem dX6_knucklesForRings_9 : decode cX6_knucklesForRings 9 = .ok (.iload 4, 2) := by decide +kernel
theorem dX6_knucklesForRings_11 : decode cX6_knucklesForRings 11 = .ok (.bipush 12, 2) := by decide +kernel
theorem dX6_knucklesForRings_13 : decode cX6_knucklesForRings 13 = .ok (.if_icmp .ge 40, 3) := by decide +kernel
theorem dX6_knucklesForRings_16 : decode cX6_knucklesForRings 16 = .ok (.iload_n 3, 1) := by decide +kernel
theorem dX6_knucklesForRings_17 : decode cX6_knucklesForRings 17 = .ok (.ifCond .le 36, 3) := by decide +kernel
theorem dX6_knucklesForRings_20 : decode cX6_knucklesForRings 20 = .ok (.iload_n 1, 1) := by decide +kernel
theorem dX6_knucklesForRings_21 : decode cX6_knucklesForRings 21 = .ok (.iload_n 3, 1) := by decide +kernel
theorem dX6_knucklesForRings_22 : decode cX6_knucklesForRings 22 = .ok (.iconst 5, 1) := by decide +kernel
theorem dX6_knucklesForRings_23 : decode cX6_knucklesForRings 23 = .ok (.irem, 1) := by decide +kernel
theorem dX6_knucklesForRings_24 : decode cX6_knucklesForRings 24 = .ok (.iconst 3, 1) := by decide +kernel
theorem dX6_knucklesForRings_25 : decode cX6_knucklesForRings 25 = .ok (.if_icmp .ne 7, 3) := by decide +kernel
theorem dX6_knucklesForRings_28 : decode cX6_knucklesForRings 28 = .ok (.iconst 1, 1) := by decide +kernel
theorem dX6_knucklesForRings_29 : decode cX6_knucklesForRings 29 = .ok (.goto 6, 3) := by decide +kernel
theorem dX6_knucklesForRings_32 : decode cX6_knucklesForRings 32 = .ok (.iload_n 3, 1) := by decide +kernel
theorem dX6_knucklesForRings_33 : decode cX6_knucklesForRings 33 = .ok (.iconst 5, 1) := by decide +kernel
theorem dX6_knucklesForRings_34 : decode cX6_knucklesForRings 34 = .ok (.irem, 1) := by decide +kernel
theorem dX6_knucklesForRings_35 : decode cX6_knucklesForRings 35 = .ok (.iload_n 2, 1) := by decide +kernel
theorem dX6_knucklesForRings_36 : decode cX6_knucklesForRings 36 = .ok (.imul, 1) := by decide +kernel
theorem dX6_knucklesForRings_37 : decode cX6_knucklesForRings 37 = .ok (.iadd, 1) := by decide +kernel
theorem dX6_knucklesForRings_38 : decode cX6_knucklesForRings 38 = .ok (.istore_n 1, 1) := by decide +kernel
theorem dX6_knucklesForRings_39 : decode cX6_knucklesForRings 39 = .ok (.iload_n 2, 1) := by decide +kernel
theorem dX6_knucklesForRings_40 : decode cX6_knucklesForRings 40 = .ok (.iconst 5, 1) := by decide +kernel
theorem dX6_knucklesForRings_41 : decode cX6_knucklesForRings 41 = .ok (.imul, 1) := by decide +kernel
theorem dX6_knucklesForRings_42 : decode cX6_knucklesForRings 42 = .ok (.istore_n 2, 1) := by decide +kernel
theorem dX6_knucklesForRings_43 : decode cX6_knucklesForRings 43 = .ok (.iload_n 3, 1) := by decide +kernel
theorem dX6_knucklesForRings_44 : decode cX6_knucklesForRings 44 = .ok (.iconst 5, 1) := by decide +kernel
theorem dX6_knucklesForRings_45 : decode cX6_knucklesForRings 45 = .ok (.idiv, 1) := by decide +kernel
theorem dX6_knucklesForRings_46 : decode cX6_knucklesForRings 46 = .ok (.istore_n 3, 1) := by decide +kernel
theorem dX6_knucklesForRings_47 : decode cX6_knucklesForRings 47 = .ok (.iinc 4 1, 3) := by decide +kernel
theorem dX6_knucklesForRings_50 : decode cX6_knucklesForRings 50 = .ok (.goto (-41), 3) := by decide +kernel
theorem dX6_knucklesForRings_53 : decode cX6_knucklesForRings 53 = .ok (.iload_n 1, 1) := by decide +kernel
theorem dX6_knucklesForRings_54 : decode cX6_knucklesForRings 54 = .ok (.ireturn, 1) := by decide +kernel
theorem dX6_withLast_0 : decode cX6_withLast 0 = .ok (.iload_n 0, 1) := by decide +kernel
theorem dX6_withLast_1 : decode cX6_withLast 1 = .ok (.invokestatic 20, 3) := by decide +kernel
theorem dX6_withLast_4 : decode cX6_withLast 4 = .ok (.bipush 12, 2) := by decide +kernel
theorem dX6_withLast_6 : decode cX6_withLast 6 = .ok (.if_icmp .ge 11, 3) := by decide +kernel
theorem dX6_withLast_9 : decode cX6_withLast 9 = .ok (.iload_n 0, 1) := by decide +kernel
theorem dX6_withLast_10 : decode cX6_withLast 10 = .ok (.iconst 5, 1) := by decide +kernel
theorem dX6_withLast_11 : decode cX6_withLast 11 = .ok (.imul, 1) := by decide +kernel
theorem dX6_withLast_12 : decode cX6_withLast 12 = .ok (.iload_n 1, 1) := by decide +kernel
theorem dX6_withLast_13 : decode cX6_withLast 13 = .ok (.iadd, 1) := by decide +kernel
theorem dX6_withLast_14 : decode cX6_withLast 14 = .ok (.goto 4, 3) := by decide +kernel
theorem dX6_withLast_17 : decode cX6_withLast 17 = .ok (.iload_n 0, 1) := by decide +kernel
theorem dX6_withLast_18 : decode cX6_withLast 18 = .ok (.ireturn, 1) := by decide +kernel
theorem dX6_slice_0 : decode cX6_slice 0 = .ok (.iload_n 2, 1) := by decide +kernel
theorem dX6_slice_1 : decode cX6_slice 1 = .ok (.ifCond .lt 19, 3) := by decide +kernel
theorem dX6_slice_4 : decode cX6_slice 4 = .ok (.iload_n 3, 1) := by decide +kernel
theorem dX6_slice_5 : decode cX6_slice 5 = .ok (.iload_n 2, 1) := by decide +kernel
theorem dX6_slice_6 : decode cX6_slice 6 = .ok (.if_icmp .lt 14, 3) := by decide +kernel
theorem dX6_slice_9 : decode cX6_slice 9 = .ok (.iload_n 1, 1) := by decide +kernel
theorem dX6_slice_10 : decode cX6_slice 10 = .ok (.iload_n 3, 1) := by decide +kernel
theorem dX6_slice_11 : decode cX6_slice 11 = .ok (.if_icmp .lt 9, 3) := by decide +kernel
theorem dX6_slice_14 : decode cX6_slice 14 = .ok (.iload_n 1, 1) := by decide +kernel
theorem dX6_slice_15 : decode cX6_slice 15 = .ok (.bipush 12, 2) := by decide +kernel
theorem dX6_slice_17 : decode cX6_slice 17 = .ok (.if_icmp .le 5, 3) := by decide +kernel
theorem dX6_slice_20 : decode cX6_slice 20 = .ok (.iconst 0, 1) := by decide +kernel
theorem dX6_slice_21 : decode cX6_slice 21 = .ok (.ireturn, 1) := by decide +kernel
theorem dX6_slice_22 : decode cX6_slice 22 = .ok (.iload_n 0, 1) := by decide +kernel
theorem dX6_slice_23 : decode cX6_slice 23 = .ok (.getstatic 10, 3) := by decide +kernel
theorem dX6_slice_26 : decode cX6_slice 26 = .ok (.iload_n 1, 1) := by decide +kernel
theorem dX6_slice_27 : decode cX6_slice 27 = .ok (.iload_n 3, 1) := by decide +kernel
theorem dX6_slice_28 : decode cX6_slice 28 = .ok (.isub, 1) := by decide +kernel
theorem dX6_slice_29 : decode cX6_slice 29 = .ok (.iaload, 1) := by decide +kernel
theorem dX6_slice_30 : decode cX6_slice 30 = .ok (.idiv, 1) := by decide +kernel
theorem dX6_slice_31 : decode cX6_slice 31 = .ok (.getstatic 10, 3) := by decide +kernel
theorem dX6_slice_34 : decode cX6_slice 34 = .ok (.iload_n 3, 1) := by decide +kernel
theorem dX6_slice_35 : decode cX6_slice 35 = .ok (.iload_n 2, 1) := by decide +kernel
theorem dX6_slice_36 : decode cX6_slice 36 = .ok (.isub, 1) := by decide +kernel
theorem dX6_slice_37 : decode cX6_slice 37 = .ok (.iaload, 1) := by decide +kernel
theorem dX6_slice_38 : decode cX6_slice 38 = .ok (.irem, 1) := by decide +kernel
theorem dX6_slice_39 : decode cX6_slice 39 = .ok (.ireturn, 1) := by decide +kernel
theorem dX6_spread_0 : decode cX6_spread 0 = .ok (.iload_n 0, 1) := by decide +kernel
theorem dX6_spread_1 : decode cX6_spread 1 = .ok (.invokestatic 20, 3) := by decide +kernel
theorem dX6_spread_4 : decode cX6_spread 4 = .ok (.istore_n 2, 1) := by decide +kernel
theorem dX6_spread_5 : decode cX6_spread 5 = .ok (.iload_n 0, 1) := by decide +kernel
theorem dX6_spread_6 : decode cX6_spread 6 = .ok (.istore_n 3, 1) := by decide +kernel
theorem dX6_spread_7 : decode cX6_spread 7 = .ok (.iload_n 2, 1) := by decide +kernel
theorem dX6_spread_8 : decode cX6_spread 8 = .ok (.iconst 1, 1) := by decide +kernel
theorem dX6_spread_9 : decode cX6_spread 9 = .ok (.isub, 1) := by decide +kernel
theorem dX6_spread_10 : decode cX6_spread 10 = .ok (.istore 4, 2) := by decide +kernel
theorem dX6_spread_12 : decode cX6_spread 12 = .ok (.iload 4, 2) := by decide +kernel
theorem dX6_spread_14 : decode cX6_spread 14 = .ok (.ifCond .lt 27, 3) := by decide +kernel
theorem dX6_spread_17 : decode cX6_spread 17 = .ok (.iload 4, 2) := by decide +kernel
theorem dX6_spread_19 : decode cX6_spread 19 = .ok (.aload_n 1, 1) := by decide +kernel
theorem dX6_spread_20 : decode cX6_spread 20 = .ok (.arraylength, 1) := by decide +kernel
theorem dX6_spread_21 : decode cX6_spread 21 = .ok (.if_icmp .ge 10, 3) := by decide +kernel
theorem dX6_spread_24 : decode cX6_spread 24 = .ok (.aload_n 1, 1) := by decide +kernel
theorem dX6_spread_25 : decode cX6_spread 25 = .ok (.iload 4, 2) := by decide +kernel
theorem dX6_spread_27 : decode cX6_spread 27 = .ok (.iload_n 3, 1) := by decide +kernel
theorem dX6_spread_28 : decode cX6_spread 28 = .ok (.iconst 5, 1) := by decide +kernel
theorem dX6_spread_29 : decode cX6_spread 29 = .ok (.irem, 1) := by decide +kernel
theorem dX6_spread_30 : decode cX6_spread 30 = .ok (.iastore, 1) := by decide +kernel
theorem dX6_spread_31 : decode cX6_spread 31 = .ok (.iload_n 3, 1) := by decide +kernel
theorem dX6_spread_32 : decode cX6_spread 32 = .ok (.iconst 5, 1) := by decide +kernel
theorem dX6_spread_33 : decode cX6_spread 33 = .ok (.idiv, 1) := by decide +kernel
theorem dX6_spread_34 : decode cX6_spread 34 = .ok (.istore_n 3, 1) := by decide +kernel
theorem dX6_spread_35 : decode cX6_spread 35 = .ok (.iinc 4 (-1), 3) := by decide +kernel
theorem dX6_spread_38 : decode cX6_spread 38 = .ok (.goto (-26), 3) := by decide +kernel
theorem dX6_spread_41 : decode cX6_spread 41 = .ok (.iload_n 2, 1) := by decide +kernel
theorem dX6_spread_42 : decode cX6_spread 42 = .ok (.ireturn, 1) := by decide +kernel
theorem dX6_soundAt_0 : decode cX6_soundAt 0 = .ok (.iload_n 0, 1) := by decide +kernel
theorem dX6_soundAt_1 : decode cX6_soundAt 1 = .ok (.iload_n 1, 1) := by decide +kernel
theorem dX6_soundAt_2 : decode cX6_soundAt 2 = .ok (.iload_n 2, 1) := by decide +kernel
theorem dX6_soundAt_3 : decode cX6_soundAt 3 = .ok (.iload_n 2, 1) := by decide +kernel
theorem dX6_soundAt_4 : decode cX6_soundAt 4 = .ok (.iconst 1, 1) := by decide +kernel
theorem dX6_soundAt_5 : decode cX6_soundAt 5 = .ok (.iadd, 1) := by decide +kernel
theorem dX6_soundAt_6 : decode cX6_soundAt 6 = .ok (.invokestatic 16, 3) := by decide +kernel
theorem dX6_soundAt_9 : decode cX6_soundAt 9 = .ok (.ireturn, 1) := by decide +kernel
theorem dX6_withoutFirst_0 : decode cX6_withoutFirst 0 = .ok (.iload_n 0, 1) := by decide +kernel
theorem dX6_withoutFirst_1 : decode cX6_withoutFirst 1 = .ok (.invokestatic 20, 3) := by decide +kernel
theorem dX6_withoutFirst_4 : decode cX6_withoutFirst 4 = .ok (.istore_n 1, 1) := by decide +kernel
theorem dX6_withoutFirst_5 : decode cX6_withoutFirst 5 = .ok (.iload_n 0, 1) := by decide +kernel
theorem dX6_withoutFirst_6 : decode cX6_withoutFirst 6 = .ok (.iload_n 1, 1) := by decide +kernel
theorem dX6_withoutFirst_7 : decode cX6_withoutFirst 7 = .ok (.iconst 1, 1) := by decide +kernel
theorem dX6_withoutFirst_8 : decode cX6_withoutFirst 8 = .ok (.iload_n 1, 1) := by decide +kernel
theorem dX6_withoutFirst_9 : decode cX6_withoutFirst 9 = .ok (.invokestatic 16, 3) := by decide +kernel
theorem dX6_withoutFirst_12 : decode cX6_withoutFirst 12 = .ok (.ireturn, 1) := by decide +kernel
theorem dX6_withFirst_0 : decode cX6_withFirst 0 = .ok (.iload_n 0, 1) := by decide +kernel
theorem dX6_withFirst_1 : decode cX6_withFirst 1 = .ok (.invokestatic 20, 3) := by decide +kernel
theorem dX6_withFirst_4 : decode cX6_withFirst 4 = .ok (.istore_n 2, 1) := by decide +kernel
theorem dX6_withFirst_5 : decode cX6_withFirst 5 = .ok (.iload_n 2, 1) := by decide +kernel
theorem dX6_withFirst_6 : decode cX6_withFirst 6 = .ok (.bipush 12, 2) := by decide +kernel
theorem dX6_withFirst_8 : decode cX6_withFirst 8 = .ok (.if_icmp .ge 15, 3) := by decide +kernel
theorem dX6_withFirst_11 : decode cX6_withFirst 11 = .ok (.iload_n 1, 1) := by decide +kernel
theorem dX6_withFirst_12 : decode cX6_withFirst 12 = .ok (.getstatic 10, 3) := by decide +kernel
theorem dX6_withFirst_15 : decode cX6_withFirst 15 = .ok (.iload_n 2, 1) := by decide +kernel
theorem dX6_withFirst_16 : decode cX6_withFirst 16 = .ok (.iaload, 1) := by decide +kernel
theorem dX6_withFirst_17 : decode cX6_withFirst 17 = .ok (.imul, 1) := by decide +kernel
theorem dX6_withFirst_18 : decode cX6_withFirst 18 = .ok (.iload_n 0, 1) := by decide +kernel
theorem dX6_withFirst_19 : decode cX6_withFirst 19 = .ok (.iadd, 1) := by decide +kernel
theorem dX6_withFirst_20 : decode cX6_withFirst 20 = .ok (.goto 4, 3) := by decide +kernel
theorem dX6_withFirst_23 : decode cX6_withFirst 23 = .ok (.iload_n 0, 1) := by decide +kernel
theorem dX6_withFirst_24 : decode cX6_withFirst 24 = .ok (.ireturn, 1) := by decide +kernel
def jn_RO_isRow_10 (n : Nat) : Option (Int32) :=
  some 0
theorem jnR_RO_isRow_10 {l : Launch} (n : Nat)    (μ : kbM) {Q : kbQt} {P : Int32 → Prop} (hr : ∀ z : Int32, P z → Q (some (.int z)) μ) (h : kbG (jn_RO_isRow_10 n) P) : kbR l MX6_isRow 1 Q 10 [none, none, none] [] μ := by
  unfold jn_RO_isRow_10 at h
  refine r_iconst 0 dX6_isRow_10 (by decide) ?_
  exact r_zret rfl rfl dX6_isRow_11 (hr 0 (kbG_some h))
def lp_RO_isRow_16 (n : Nat) : Nat → Int32 → Int32 → Option ((Int32) ⊕ (Unit))
  | 0, _, _ => none
  | k + 1, v1, v2 =>
    if 12 ≤ v2 then
      some (.inr (()))
    else
      if v1 ≤ 0 then
        some (.inr (()))
      else
        if (kbRem v1 5) = 0 then
          some (.inl 0)
        else
          lp_RO_isRow_16 n k (v1 / 5) (v2 + 1)
theorem lpR_RO_isRow_16 {l : Launch} (n : Nat)  (μ : kbM)  {Q : kbQt} {P : (Int32) ⊕ (Unit) → Prop} (hr : ∀ z : Int32, P (.inl z) → Q (some (.int z)) μ) (hx : ∀ z : Unit, P (.inr z) → kbR l MX6_isRow 1 Q 44 [none, none, none] [] μ) : ∀ (k : Nat) (v1 : Int32) (v2 : Int32), kbG (lp_RO_isRow_16 n k v1 v2) P → kbR l MX6_isRow 1 Q 16 [none, some (.int v1), some (.int v2)] [] μ := by
  intro k
  induction k with
  | zero => intro v1 v2 h; exact absurd h kbG_none
  | succ k ih =>
    intro v1 v2 h
    unfold lp_RO_isRow_16 at h
    refine r_iload_n dX6_isRow_16 rfl ?_
    refine r_bipush 12 dX6_isRow_17 (by decide) ?_
    refine r_icmp_ge 44 dX6_isRow_19 (by decide) (fun hc => ?_) (fun hc => ?_)
    · replace h := kbG_t hc h
      refine r_le [none, none, none] trivial ?_
      exact hx (()) (kbG_some h)
    · replace h := kbG_f hc h
      refine r_iload_n dX6_isRow_22 rfl ?_
      refine r_if_le 44 dX6_isRow_23 (by decide) (fun hc => ?_) (fun hc => ?_)
      · replace h := kbG_t hc h
        refine r_le [none, none, none] trivial ?_
        exact hx (()) (kbG_some h)
      · replace h := kbG_f hc h
        refine r_iload_n dX6_isRow_26 rfl ?_
        refine r_iconst 5 dX6_isRow_27 (by decide) ?_
        refine r_rem dX6_isRow_28 (by decide) ?_
        refine r_if_ne 34 dX6_isRow_29 (by decide) (fun hc => ?_) (fun hc => ?_)
        · replace h := kbG_f hc h
          refine r_iload_n dX6_isRow_34 rfl ?_
          refine r_iconst 5 dX6_isRow_35 (by decide) ?_
          refine r_idiv dX6_isRow_36 (by decide) ?_
          refine r_istore_n dX6_isRow_37 (Nat.le_of_ble_eq_true rfl) rfl ?_
          refine r_iinc 1 dX6_isRow_38 rfl (by decide) (Nat.le_of_ble_eq_true rfl) rfl ?_
          refine r_goto 16 dX6_isRow_41 (by decide) ?_
          refine r_le [none, some (.int (v1 / 5)), some (.int (v2 + 1))] ⟨rfl, ⟨rfl, trivial⟩⟩ ?_
          exact ih (v1 / 5) (v2 + 1) h
        · replace h := kbG_t hc h
          refine r_iconst 0 dX6_isRow_32 (by decide) ?_
          exact r_zret rfl rfl dX6_isRow_33 (hr 0 (kbG_some h))
def jn_RO_isRow_44 (n : Nat) : Option (Int32) :=
  some 1
theorem jnR_RO_isRow_44 {l : Launch} (n : Nat)    (μ : kbM) {Q : kbQt} {P : Int32 → Prop} (hr : ∀ z : Int32, P z → Q (some (.int z)) μ) (h : kbG (jn_RO_isRow_44 n) P) : kbR l MX6_isRow 1 Q 44 [none, none, none] [] μ := by
  unfold jn_RO_isRow_44 at h
  refine r_iconst 1 dX6_isRow_44 (by decide) ?_
  exact r_zret rfl rfl dX6_isRow_45 (hr 1 (kbG_some h))
def f_RO_isRow (n : Nat) (a0 : Int32) : Option (Int32) :=
  if a0 < 0 then
    jn_RO_isRow_10 n
  else
    if a0 ≤ 244140624 then
      kbOr (lp_RO_isRow_16 n n a0 0) (fun r2 => some r2) fun x1 =>
      jn_RO_isRow_44 n
    else
      jn_RO_isRow_10 n
theorem sp_RO_isRow {l : Launch} (n : Nat) (a0 : Int32) (μ : kbM)  {x : Int32} (h : f_RO_isRow n a0 = some x) : kbS l MX6_isRow 1 [.int a0] μ (kbQe (some (.int x)) μ) := by
  refine kb_enter 2 rfl rfl ?_
  suffices H : ∀ (Q : kbQt) (P : Int32 → Prop), (∀ z : Int32, P z → Q (some (.int z)) μ) → kbG (f_RO_isRow n a0) P → kbR l MX6_isRow 1 Q 0 [some (.int a0), none, none] [] μ from H _ (fun z => z = x) (fun z e => by subst e; exact ⟨rfl, rfl⟩) ⟨x, h, rfl⟩
  clear h
  intro Q P hr h
  unfold f_RO_isRow at h
  refine r_iload_n dX6_isRow_0 rfl ?_
  refine r_if_lt 10 dX6_isRow_1 (by decide) (fun hc => ?_) (fun hc => ?_)
  · replace h := kbG_t hc h
    refine r_le [none, none, none] trivial ?_
    exact jnR_RO_isRow_10 n  μ (hr := hr) h
  · replace h := kbG_f hc h
    refine r_iload_n dX6_isRow_4 rfl ?_
    refine r_ldc 244140624 liX6_9 dX6_isRow_5 ?_
    refine r_icmp_le 12 dX6_isRow_7 (by decide) (fun hc => ?_) (fun hc => ?_)
    · replace h := kbG_t hc h
      refine r_iload_n dX6_isRow_12 rfl ?_
      refine r_istore_n dX6_isRow_13 (Nat.le_of_ble_eq_true rfl) rfl ?_
      refine r_iconst 0 dX6_isRow_14 (by decide) ?_
      refine r_istore_n dX6_isRow_15 (Nat.le_of_ble_eq_true rfl) rfl ?_
      refine r_le [none, some (.int a0), some (.int 0)] ⟨rfl, ⟨rfl, trivial⟩⟩ ?_
      rcases kbG_or h with ⟨r2, hx0, h⟩ | ⟨x1, hx0, h⟩
      · exact lpR_RO_isRow_16 n μ (P := fun z => .inl r2 = z) (hr := fun z e => by cases e; exact hr _ (kbG_some h)) (hx := fun z e => by cases e) n _ _ ⟨_, hx0, rfl⟩
      · refine lpR_RO_isRow_16 n μ (P := fun z => .inr x1 = z) (hr := fun z e => by cases e) (hx := fun z e => ?_) n _ _ ⟨_, hx0, rfl⟩
        cases e
        refine r_le [none, none, none] trivial ?_
        exact jnR_RO_isRow_44 n  μ (hr := hr) h
    · replace h := kbG_f hc h
      refine r_le [none, none, none] trivial ?_
      exact jnR_RO_isRow_10 n  μ (hr := hr) h
def lp_RO_size_2 (n : Nat) (v0 : Int32) : Nat → Int32 → Option (Int32)
  | 0, _ => none
  | k + 1, v1 =>
    if 12 ≤ v1 then
      some v1
    else
      kbIf (kbIn v1 13) <|
      if v0 < (kbFv.getD v1.toNatClampNeg 0) then
        some v1
      else
        lp_RO_size_2 n v0 k (v1 + 1)
theorem lpR_RO_size_2 {l : Launch} (n : Nat) (v0 : Int32) (μ : kbM)  {Q : kbQt} {P : Int32 → Prop} (hx : ∀ z : Int32, P (z) → kbR l MX6_size 1 Q 23 [none, some (.int z)] [] μ) : ∀ (k : Nat) (v1 : Int32), kbG (lp_RO_size_2 n v0 k v1) P → kbR l MX6_size 1 Q 2 [some (.int v0), some (.int v1)] [] μ := by
  intro k
  induction k with
  | zero => intro v1 h; exact absurd h kbG_none
  | succ k ih =>
    intro v1 h
    unfold lp_RO_size_2 at h
    refine r_iload_n dX6_size_2 rfl ?_
    refine r_bipush 12 dX6_size_3 (by decide) ?_
    refine r_icmp_ge 23 dX6_size_5 (by decide) (fun hc => ?_) (fun hc => ?_)
    · replace h := kbG_t hc h
      refine r_le [none, some (.int v1)] ⟨rfl, trivial⟩ ?_
      exact hx v1 (kbG_some h)
    · replace h := kbG_f hc h
      refine r_iload_n dX6_size_8 rfl ?_
      refine r_fives stX6_10 dX6_size_9 ?_
      refine r_iload_n dX6_size_12 rfl ?_
      obtain ⟨hin, h⟩ := kbG_if h
      replace hin := kbIn_of hin
      refine q_fald v1.toNatClampNeg rfl hin dX6_size_13 ?_
      refine r_icmp_lt 23 dX6_size_14 (by decide) (fun hc => ?_) (fun hc => ?_)
      · replace h := kbG_t hc h
        refine r_le [none, some (.int v1)] ⟨rfl, trivial⟩ ?_
        exact hx v1 (kbG_some h)
      · replace h := kbG_f hc h
        refine r_iinc 1 dX6_size_17 rfl (by decide) (Nat.le_of_ble_eq_true rfl) rfl ?_
        refine r_goto 2 dX6_size_20 (by decide) ?_
        refine r_le [some (.int v0), some (.int (v1 + 1))] ⟨rfl, ⟨rfl, trivial⟩⟩ ?_
        exact ih (v1 + 1) h
def jn_RO_size_23 (n : Nat) (v1 : Int32) : Option (Int32) :=
  some v1
theorem jnR_RO_size_23 {l : Launch} (n : Nat)   (v1 : Int32) (μ : kbM) {Q : kbQt} {P : Int32 → Prop} (hr : ∀ z : Int32, P z → Q (some (.int z)) μ) (h : kbG (jn_RO_size_23 n v1) P) : kbR l MX6_size 1 Q 23 [none, some (.int v1)] [] μ := by
  unfold jn_RO_size_23 at h
  refine r_iload_n dX6_size_23 rfl ?_
  exact r_iret rfl dX6_size_24 (hr v1 (kbG_some h))
def f_RO_size (n : Nat) (a0 : Int32) : Option (Int32) :=
  (lp_RO_size_2 n a0 n 0).bind fun x1 =>
  jn_RO_size_23 n x1
theorem sp_RO_size {l : Launch} (n : Nat) (a0 : Int32) (μ : kbM)  {x : Int32} (h : f_RO_size n a0 = some x) : kbS l MX6_size 1 [.int a0] μ (kbQe (some (.int x)) μ) := by
  refine kb_enter 1 rfl rfl ?_
  suffices H : ∀ (Q : kbQt) (P : Int32 → Prop), (∀ z : Int32, P z → Q (some (.int z)) μ) → kbG (f_RO_size n a0) P → kbR l MX6_size 1 Q 0 [some (.int a0), none] [] μ from H _ (fun z => z = x) (fun z e => by subst e; exact ⟨rfl, rfl⟩) ⟨x, h, rfl⟩
  clear h
  intro Q P hr h
  unfold f_RO_size at h
  refine r_iconst 0 dX6_size_0 (by decide) ?_
  refine r_istore_n dX6_size_1 (Nat.le_of_ble_eq_true rfl) rfl ?_
  refine r_le [some (.int a0), some (.int 0)] ⟨rfl, ⟨rfl, trivial⟩⟩ ?_
  obtain ⟨x1, hx0, h⟩ := kbG_bind h
  refine lpR_RO_size_2 n a0 μ (P := fun z => x1 = z) (hx := fun z e => ?_) n _ ⟨_, hx0, rfl⟩
  subst e
  refine r_le [none, some (.int x1)] ⟨rfl, trivial⟩ ?_
  exact jnR_RO_size_23 n x1 μ (hr := hr) h
def jn_RO_handBit_14 (w0 : Int32) : Option (Int32) :=
  some w0
theorem jnR_RO_handBit_14 {l : Launch}   (w0 : Int32) (μ : kbM) {Q : kbQt} {P : Int32 → Prop} (hr : ∀ z : Int32, P z → Q (some (.int z)) μ) (h : kbG (jn_RO_handBit_14 w0) P) : kbR l MX6_handBit 1 Q 14 [none] [.int w0] μ := by
  unfold jn_RO_handBit_14 at h
  exact r_iret rfl dX6_handBit_14 (hr w0 (kbG_some h))
def f_RO_handBit (a0 : Int32) : Option (Int32) :=
  if 1 ≤ a0 then
    jn_RO_handBit_14 (kbShl 1 (a0 - 1))
  else
    jn_RO_handBit_14 0
theorem sp_RO_handBit {l : Launch} (a0 : Int32) (μ : kbM)  {x : Int32} (h : f_RO_handBit a0 = some x) : kbS l MX6_handBit 1 [.int a0] μ (kbQe (some (.int x)) μ) := by
  refine kb_enter 0 rfl rfl ?_
  suffices H : ∀ (Q : kbQt) (P : Int32 → Prop), (∀ z : Int32, P z → Q (some (.int z)) μ) → kbG (f_RO_handBit a0) P → kbR l MX6_handBit 1 Q 0 [some (.int a0)] [] μ from H _ (fun z => z = x) (fun z e => by subst e; exact ⟨rfl, rfl⟩) ⟨x, h, rfl⟩
  clear h
  intro Q P hr h
  unfold f_RO_handBit at h
  refine r_iload_n dX6_handBit_0 rfl ?_
  refine r_iconst 1 dX6_handBit_1 (by decide) ?_
  refine r_icmp_ge 9 dX6_handBit_2 (by decide) (fun hc => ?_) (fun hc => ?_)
  · replace h := kbG_t hc h
    refine r_iconst 1 dX6_handBit_9 (by decide) ?_
    refine r_iload_n dX6_handBit_10 rfl ?_
    refine r_iconst 1 dX6_handBit_11 (by decide) ?_
    refine r_isub dX6_handBit_12 ?_
    refine r_shl dX6_handBit_13 ?_
    refine r_le [none] trivial ?_
    exact jnR_RO_handBit_14 (kbShl 1 (a0 - 1)) μ (hr := hr) h
  · replace h := kbG_f hc h
    refine r_iconst 0 dX6_handBit_5 (by decide) ?_
    refine r_goto 14 dX6_handBit_6 (by decide) ?_
    refine r_le [none] trivial ?_
    exact jnR_RO_handBit_14 0 μ (hr := hr) h
def lp_RO_soundsIn_6 (n : Nat) : Nat → Int32 → Int32 → Int32 → Option (Int32)
  | 0, _, _, _ => none
  | k + 1, v1, v2, v3 =>
    if 12 ≤ v3 then
      some v1
    else
      if v2 ≤ 0 then
        some v1
      else
        (f_RO_handBit (kbRem v2 5)).bind fun x1 =>
        lp_RO_soundsIn_6 n k (v1 ||| x1) (v2 / 5) (v3 + 1)
theorem lpR_RO_soundsIn_6 {l : Launch} (n : Nat)  (μ : kbM)  {Q : kbQt} {P : Int32 → Prop} (hx : ∀ z : Int32, P (z) → kbR l MX6_soundsIn 2 Q 35 [none, some (.int z), none, none] [] μ) : ∀ (k : Nat) (v1 : Int32) (v2 : Int32) (v3 : Int32), kbG (lp_RO_soundsIn_6 n k v1 v2 v3) P → kbR l MX6_soundsIn 2 Q 6 [none, some (.int v1), some (.int v2), some (.int v3)] [] μ := by
  intro k
  induction k with
  | zero => intro v1 v2 v3 h; exact absurd h kbG_none
  | succ k ih =>
    intro v1 v2 v3 h
    unfold lp_RO_soundsIn_6 at h
    refine r_iload_n dX6_soundsIn_6 rfl ?_
    refine r_bipush 12 dX6_soundsIn_7 (by decide) ?_
    refine r_icmp_ge 35 dX6_soundsIn_9 (by decide) (fun hc => ?_) (fun hc => ?_)
    · replace h := kbG_t hc h
      refine r_le [none, some (.int v1), none, none] ⟨rfl, trivial⟩ ?_
      exact hx v1 (kbG_some h)
    · replace h := kbG_f hc h
      refine r_iload_n dX6_soundsIn_12 rfl ?_
      refine r_if_le 35 dX6_soundsIn_13 (by decide) (fun hc => ?_) (fun hc => ?_)
      · replace h := kbG_t hc h
        refine r_le [none, some (.int v1), none, none] ⟨rfl, trivial⟩ ?_
        exact hx v1 (kbG_some h)
      · replace h := kbG_f hc h
        refine r_iload_n dX6_soundsIn_16 rfl ?_
        refine r_iload_n dX6_soundsIn_17 rfl ?_
        refine r_iconst 5 dX6_soundsIn_18 (by decide) ?_
        refine r_rem dX6_soundsIn_19 (by decide) ?_
        obtain ⟨x1, hx0, h⟩ := kbG_bind h
        refine r_inv_i csX6_24 (sp_RO_handBit (kbRem v2 5) μ hx0) rfl rfl (Nat.le_of_ble_eq_true rfl) (Nat.le_of_ble_eq_true rfl) dX6_soundsIn_20 ?_
        refine r_ior dX6_soundsIn_23 ?_
        refine r_istore_n dX6_soundsIn_24 (Nat.le_of_ble_eq_true rfl) rfl ?_
        refine r_iload_n dX6_soundsIn_25 rfl ?_
        refine r_iconst 5 dX6_soundsIn_26 (by decide) ?_
        refine r_idiv dX6_soundsIn_27 (by decide) ?_
        refine r_istore_n dX6_soundsIn_28 (Nat.le_of_ble_eq_true rfl) rfl ?_
        refine r_iinc 1 dX6_soundsIn_29 rfl (by decide) (Nat.le_of_ble_eq_true rfl) rfl ?_
        refine r_goto 6 dX6_soundsIn_32 (by decide) ?_
        refine r_le [none, some (.int (v1 ||| x1)), some (.int (v2 / 5)), some (.int (v3 + 1))] ⟨rfl, ⟨rfl, ⟨rfl, trivial⟩⟩⟩ ?_
        exact ih (v1 ||| x1) (v2 / 5) (v3 + 1) h
def jn_RO_soundsIn_35 (n : Nat) (v1 : Int32) : Option (Int32) :=
  some v1
theorem jnR_RO_soundsIn_35 {l : Launch} (n : Nat)   (v1 : Int32) (μ : kbM) {Q : kbQt} {P : Int32 → Prop} (hr : ∀ z : Int32, P z → Q (some (.int z)) μ) (h : kbG (jn_RO_soundsIn_35 n v1) P) : kbR l MX6_soundsIn 2 Q 35 [none, some (.int v1), none, none] [] μ := by
  unfold jn_RO_soundsIn_35 at h
  refine r_iload_n dX6_soundsIn_35 rfl ?_
  exact r_iret rfl dX6_soundsIn_36 (hr v1 (kbG_some h))
def f_RO_soundsIn (n : Nat) (a0 : Int32) : Option (Int32) :=
  (lp_RO_soundsIn_6 n n 0 a0 0).bind fun x2 =>
  jn_RO_soundsIn_35 n x2
theorem sp_RO_soundsIn {l : Launch} (n : Nat) (a0 : Int32) (μ : kbM)  {x : Int32} (h : f_RO_soundsIn n a0 = some x) : kbS l MX6_soundsIn 2 [.int a0] μ (kbQe (some (.int x)) μ) := by
  refine kb_enter 3 rfl rfl ?_
  suffices H : ∀ (Q : kbQt) (P : Int32 → Prop), (∀ z : Int32, P z → Q (some (.int z)) μ) → kbG (f_RO_soundsIn n a0) P → kbR l MX6_soundsIn 2 Q 0 [some (.int a0), none, none, none] [] μ from H _ (fun z => z = x) (fun z e => by subst e; exact ⟨rfl, rfl⟩) ⟨x, h, rfl⟩
  clear h
  intro Q P hr h
  unfold f_RO_soundsIn at h
  refine r_iconst 0 dX6_soundsIn_0 (by decide) ?_
  refine r_istore_n dX6_soundsIn_1 (Nat.le_of_ble_eq_true rfl) rfl ?_
  refine r_iload_n dX6_soundsIn_2 rfl ?_
  refine r_istore_n dX6_soundsIn_3 (Nat.le_of_ble_eq_true rfl) rfl ?_
  refine r_iconst 0 dX6_soundsIn_4 (by decide) ?_
  refine r_istore_n dX6_soundsIn_5 (Nat.le_of_ble_eq_true rfl) rfl ?_
  refine r_le [none, some (.int 0), some (.int a0), some (.int 0)] ⟨rfl, ⟨rfl, ⟨rfl, trivial⟩⟩⟩ ?_
  obtain ⟨x2, hx0, h⟩ := kbG_bind h
  refine lpR_RO_soundsIn_6 n μ (P := fun z => x2 = z) (hx := fun z e => ?_) n _ _ _ ⟨_, hx0, rfl⟩
  subst e
  refine r_le [none, some (.int x2), none, none] ⟨rfl, trivial⟩ ?_
  exact jnR_RO_soundsIn_35 n x2 μ (hr := hr) h
def f_RO_withoutLast (a0 : Int32) : Option (Int32) :=
  some (a0 / 5)
theorem sp_RO_withoutLast {l : Launch} (a0 : Int32) (μ : kbM)  {x : Int32} (h : f_RO_withoutLast a0 = some x) : kbS l MX6_withoutLast 1 [.int a0] μ (kbQe (some (.int x)) μ) := by
  refine kb_enter 0 rfl rfl ?_
  suffices H : ∀ (Q : kbQt) (P : Int32 → Prop), (∀ z : Int32, P z → Q (some (.int z)) μ) → kbG (f_RO_withoutLast a0) P → kbR l MX6_withoutLast 1 Q 0 [some (.int a0)] [] μ from H _ (fun z => z = x) (fun z e => by subst e; exact ⟨rfl, rfl⟩) ⟨x, h, rfl⟩
  clear h
  intro Q P hr h
  unfold f_RO_withoutLast at h
  refine r_iload_n dX6_withoutLast_0 rfl ?_
  refine r_iconst 5 dX6_withoutLast_1 (by decide) ?_
  refine r_idiv dX6_withoutLast_2 (by decide) ?_
  exact r_iret rfl dX6_withoutLast_3 (hr (a0 / 5) (kbG_some h))
def jn_RO_withoutPalms_39 (n : Nat) (rec : Int32 → Int32 → Int32 → Int32 → Option (Int32)) (v1 : Int32) (v2 : Int32) (v3 : Int32) (v4 : Int32) : Option (Int32) :=
  rec v1 v2 (v3 / 5) (v4 + 1)
theorem jnR_RO_withoutPalms_39 {l : Launch} (n : Nat)   (v1 : Int32) (v2 : Int32) (v3 : Int32) (v4 : Int32) (μ : kbM) {Q : kbQt} {P : Int32 → Prop} (hx : ∀ z : Int32, P (z) → kbR l MX6_withoutPalms 1 Q 49 [none, some (.int z), none, none, none] [] μ) {rec : Int32 → Int32 → Int32 → Int32 → Option (Int32)} (hrec : ∀ (v1 : Int32) (v2 : Int32) (v3 : Int32) (v4 : Int32), kbG (rec v1 v2 v3 v4) P → kbR l MX6_withoutPalms 1 Q 9 [none, some (.int v1), some (.int v2), some (.int v3), some (.int v4)] [] μ) (h : kbG (jn_RO_withoutPalms_39 n rec v1 v2 v3 v4) P) : kbR l MX6_withoutPalms 1 Q 39 [none, some (.int v1), some (.int v2), some (.int v3), some (.int v4)] [] μ := by
  unfold jn_RO_withoutPalms_39 at h
  refine r_iload_n dX6_withoutPalms_39 rfl ?_
  refine r_iconst 5 dX6_withoutPalms_40 (by decide) ?_
  refine r_idiv dX6_withoutPalms_41 (by decide) ?_
  refine r_istore_n dX6_withoutPalms_42 (Nat.le_of_ble_eq_true rfl) rfl ?_
  refine r_iinc 1 dX6_withoutPalms_43 rfl (by decide) (Nat.le_of_ble_eq_true rfl) rfl ?_
  refine r_goto 9 dX6_withoutPalms_46 (by decide) ?_
  refine r_le [none, some (.int v1), some (.int v2), some (.int (v3 / 5)), some (.int (v4 + 1))] ⟨rfl, ⟨rfl, ⟨rfl, ⟨rfl, trivial⟩⟩⟩⟩ ?_
  exact hrec v1 v2 (v3 / 5) (v4 + 1) h
def lp_RO_withoutPalms_9 (n : Nat) : Nat → Int32 → Int32 → Int32 → Int32 → Option (Int32)
  | 0, _, _, _, _ => none
  | k + 1, v1, v2, v3, v4 =>
    if 12 ≤ v4 then
      some v1
    else
      if v3 ≤ 0 then
        some v1
      else
        if (kbRem v3 5) = 2 then
          jn_RO_withoutPalms_39 n (lp_RO_withoutPalms_9 n k) v1 v2 v3 v4
        else
          jn_RO_withoutPalms_39 n (lp_RO_withoutPalms_9 n k) (v1 + ((kbRem v3 5) * v2)) (v2 * 5) v3 v4
theorem lpR_RO_withoutPalms_9 {l : Launch} (n : Nat)  (μ : kbM)  {Q : kbQt} {P : Int32 → Prop} (hx : ∀ z : Int32, P (z) → kbR l MX6_withoutPalms 1 Q 49 [none, some (.int z), none, none, none] [] μ) : ∀ (k : Nat) (v1 : Int32) (v2 : Int32) (v3 : Int32) (v4 : Int32), kbG (lp_RO_withoutPalms_9 n k v1 v2 v3 v4) P → kbR l MX6_withoutPalms 1 Q 9 [none, some (.int v1), some (.int v2), some (.int v3), some (.int v4)] [] μ := by
  intro k
  induction k with
  | zero => intro v1 v2 v3 v4 h; exact absurd h kbG_none
  | succ k ih =>
    intro v1 v2 v3 v4 h
    unfold lp_RO_withoutPalms_9 at h
    refine r_iload dX6_withoutPalms_9 rfl ?_
    refine r_bipush 12 dX6_withoutPalms_11 (by decide) ?_
    refine r_icmp_ge 49 dX6_withoutPalms_13 (by decide) (fun hc => ?_) (fun hc => ?_)
    · replace h := kbG_t hc h
      refine r_le [none, some (.int v1), none, none, none] ⟨rfl, trivial⟩ ?_
      exact hx v1 (kbG_some h)
    · replace h := kbG_f hc h
      refine r_iload_n dX6_withoutPalms_16 rfl ?_
      refine r_if_le 49 dX6_withoutPalms_17 (by decide) (fun hc => ?_) (fun hc => ?_)
      · replace h := kbG_t hc h
        refine r_le [none, some (.int v1), none, none, none] ⟨rfl, trivial⟩ ?_
        exact hx v1 (kbG_some h)
      · replace h := kbG_f hc h
        refine r_iload_n dX6_withoutPalms_20 rfl ?_
        refine r_iconst 5 dX6_withoutPalms_21 (by decide) ?_
        refine r_rem dX6_withoutPalms_22 (by decide) ?_
        refine r_iconst 2 dX6_withoutPalms_23 (by decide) ?_
        refine r_icmp_eq 39 dX6_withoutPalms_24 (by decide) (fun hc => ?_) (fun hc => ?_)
        · replace h := kbG_t hc h
          refine r_le [none, some (.int v1), some (.int v2), some (.int v3), some (.int v4)] ⟨rfl, ⟨rfl, ⟨rfl, ⟨rfl, trivial⟩⟩⟩⟩ ?_
          exact jnR_RO_withoutPalms_39 n v1 v2 v3 v4 μ (hx := hx) (hrec := ih) h
        · replace h := kbG_f hc h
          refine r_iload_n dX6_withoutPalms_27 rfl ?_
          refine r_iload_n dX6_withoutPalms_28 rfl ?_
          refine r_iconst 5 dX6_withoutPalms_29 (by decide) ?_
          refine r_rem dX6_withoutPalms_30 (by decide) ?_
          refine r_iload_n dX6_withoutPalms_31 rfl ?_
          refine r_imul dX6_withoutPalms_32 ?_
          refine r_iadd dX6_withoutPalms_33 ?_
          refine r_istore_n dX6_withoutPalms_34 (Nat.le_of_ble_eq_true rfl) rfl ?_
          refine r_iload_n dX6_withoutPalms_35 rfl ?_
          refine r_iconst 5 dX6_withoutPalms_36 (by decide) ?_
          refine r_imul dX6_withoutPalms_37 ?_
          refine r_istore_n dX6_withoutPalms_38 (Nat.le_of_ble_eq_true rfl) rfl ?_
          refine r_le [none, some (.int (v1 + ((kbRem v3 5) * v2))), some (.int (v2 * 5)), some (.int v3), some (.int v4)] ⟨rfl, ⟨rfl, ⟨rfl, ⟨rfl, trivial⟩⟩⟩⟩ ?_
          exact jnR_RO_withoutPalms_39 n (v1 + ((kbRem v3 5) * v2)) (v2 * 5) v3 v4 μ (hx := hx) (hrec := ih) h
def jn_RO_withoutPalms_49 (n : Nat) (v1 : Int32) : Option (Int32) :=
  some v1
theorem jnR_RO_withoutPalms_49 {l : Launch} (n : Nat)   (v1 : Int32) (μ : kbM) {Q : kbQt} {P : Int32 → Prop} (hr : ∀ z : Int32, P z → Q (some (.int z)) μ) (h : kbG (jn_RO_withoutPalms_49 n v1) P) : kbR l MX6_withoutPalms 1 Q 49 [none, some (.int v1), none, none, none] [] μ := by
  unfold jn_RO_withoutPalms_49 at h
  refine r_iload_n dX6_withoutPalms_49 rfl ?_
  exact r_iret rfl dX6_withoutPalms_50 (hr v1 (kbG_some h))
def f_RO_withoutPalms (n : Nat) (a0 : Int32) : Option (Int32) :=
  (lp_RO_withoutPalms_9 n n 0 1 a0 0).bind fun x1 =>
  jn_RO_withoutPalms_49 n x1
theorem sp_RO_withoutPalms {l : Launch} (n : Nat) (a0 : Int32) (μ : kbM)  {x : Int32} (h : f_RO_withoutPalms n a0 = some x) : kbS l MX6_withoutPalms 1 [.int a0] μ (kbQe (some (.int x)) μ) := by
  refine kb_enter 4 rfl rfl ?_
  suffices H : ∀ (Q : kbQt) (P : Int32 → Prop), (∀ z : Int32, P z → Q (some (.int z)) μ) → kbG (f_RO_withoutPalms n a0) P → kbR l MX6_withoutPalms 1 Q 0 [some (.int a0), none, none, none, none] [] μ from H _ (fun z => z = x) (fun z e => by subst e; exact ⟨rfl, rfl⟩) ⟨x, h, rfl⟩
  clear h
  intro Q P hr h
  unfold f_RO_withoutPalms at h
  refine r_iconst 0 dX6_withoutPalms_0 (by decide) ?_
  refine r_istore_n dX6_withoutPalms_1 (Nat.le_of_ble_eq_true rfl) rfl ?_
  refine r_iconst 1 dX6_withoutPalms_2 (by decide) ?_
  refine r_istore_n dX6_withoutPalms_3 (Nat.le_of_ble_eq_true rfl) rfl ?_
  refine r_iload_n dX6_withoutPalms_4 rfl ?_
  refine r_istore_n dX6_withoutPalms_5 (Nat.le_of_ble_eq_true rfl) rfl ?_
  refine r_iconst 0 dX6_withoutPalms_6 (by decide) ?_
  refine r_istore dX6_withoutPalms_7 (Nat.le_of_ble_eq_true rfl) rfl ?_
  refine r_le [none, some (.int 0), some (.int 1), some (.int a0), some (.int 0)] ⟨rfl, ⟨rfl, ⟨rfl, ⟨rfl, trivial⟩⟩⟩⟩ ?_
  obtain ⟨x1, hx0, h⟩ := kbG_bind h
  refine lpR_RO_withoutPalms_9 n μ (P := fun z => x1 = z) (hx := fun z e => ?_) n _ _ _ _ ⟨_, hx0, rfl⟩
  subst e
  refine r_le [none, some (.int x1), none, none, none] ⟨rfl, trivial⟩ ?_
  exact jnR_RO_withoutPalms_49 n x1 μ (hr := hr) h
def jn_RO_knucklesForRings_35 (n : Nat) (rec : Int32 → Int32 → Int32 → Int32 → Option (Int32)) (v2 : Int32) (v3 : Int32) (v4 : Int32) (w0 : Int32) (w1 : Int32) : Option (Int32) :=
  rec (w0 + (w1 * v2)) (v2 * 5) (v3 / 5) (v4 + 1)
theorem jnR_RO_knucklesForRings_35 {l : Launch} (n : Nat)   (v2 : Int32) (v3 : Int32) (v4 : Int32) (w0 : Int32) (w1 : Int32) (μ : kbM) {Q : kbQt} {P : Int32 → Prop} (hx : ∀ z : Int32, P (z) → kbR l MX6_knucklesForRings 1 Q 53 [none, some (.int z), none, none, none] [] μ) {rec : Int32 → Int32 → Int32 → Int32 → Option (Int32)} (hrec : ∀ (v1 : Int32) (v2 : Int32) (v3 : Int32) (v4 : Int32), kbG (rec v1 v2 v3 v4) P → kbR l MX6_knucklesForRings 1 Q 9 [none, some (.int v1), some (.int v2), some (.int v3), some (.int v4)] [] μ) (h : kbG (jn_RO_knucklesForRings_35 n rec v2 v3 v4 w0 w1) P) : kbR l MX6_knucklesForRings 1 Q 35 [none, none, some (.int v2), some (.int v3), some (.int v4)] [.int w1, .int w0] μ := by
  unfold jn_RO_knucklesForRings_35 at h
  refine r_iload_n dX6_knucklesForRings_35 rfl ?_
  refine r_imul dX6_knucklesForRings_36 ?_
  refine r_iadd dX6_knucklesForRings_37 ?_
  refine r_istore_n dX6_knucklesForRings_38 (Nat.le_of_ble_eq_true rfl) rfl ?_
  refine r_iload_n dX6_knucklesForRings_39 rfl ?_
  refine r_iconst 5 dX6_knucklesForRings_40 (by decide) ?_
  refine r_imul dX6_knucklesForRings_41 ?_
  refine r_istore_n dX6_knucklesForRings_42 (Nat.le_of_ble_eq_true rfl) rfl ?_
  refine r_iload_n dX6_knucklesForRings_43 rfl ?_
  refine r_iconst 5 dX6_knucklesForRings_44 (by decide) ?_
  refine r_idiv dX6_knucklesForRings_45 (by decide) ?_
  refine r_istore_n dX6_knucklesForRings_46 (Nat.le_of_ble_eq_true rfl) rfl ?_
  refine r_iinc 1 dX6_knucklesForRings_47 rfl (by decide) (Nat.le_of_ble_eq_true rfl) rfl ?_
  refine r_goto 9 dX6_knucklesForRings_50 (by decide) ?_
  refine r_le [none, some (.int (w0 + (w1 * v2))), some (.int (v2 * 5)), some (.int (v3 / 5)), some (.int (v4 + 1))] ⟨rfl, ⟨rfl, ⟨rfl, ⟨rfl, trivial⟩⟩⟩⟩ ?_
  exact hrec (w0 + (w1 * v2)) (v2 * 5) (v3 / 5) (v4 + 1) h
def lp_RO_knucklesForRings_9 (n : Nat) : Nat → Int32 → Int32 → Int32 → Int32 → Option (Int32)
  | 0, _, _, _, _ => none
  | k + 1, v1, v2, v3, v4 =>
    if 12 ≤ v4 then
      some v1
    else
      if v3 ≤ 0 then
        some v1
      else
        if (kbRem v3 5) = 3 then
          jn_RO_knucklesForRings_35 n (lp_RO_knucklesForRings_9 n k) v2 v3 v4 v1 1
        else
          jn_RO_knucklesForRings_35 n (lp_RO_knucklesForRings_9 n k) v2 v3 v4 v1 (kbRem v3 5)
theorem lpR_RO_knucklesForRings_9 {l : Launch} (n : Nat)  (μ : kbM)  {Q : kbQt} {P : Int32 → Prop} (hx : ∀ z : Int32, P (z) → kbR l MX6_knucklesForRings 1 Q 53 [none, some (.int z), none, none, none] [] μ) : ∀ (k : Nat) (v1 : Int32) (v2 : Int32) (v3 : Int32) (v4 : Int32), kbG (lp_RO_knucklesForRings_9 n k v1 v2 v3 v4) P → kbR l MX6_knucklesForRings 1 Q 9 [none, some (.int v1), some (.int v2), some (.int v3), some (.int v4)] [] μ := by
  intro k
  induction k with
  | zero => intro v1 v2 v3 v4 h; exact absurd h kbG_none
  | succ k ih =>
    intro v1 v2 v3 v4 h
    unfold lp_RO_knucklesForRings_9 at h
    refine r_iload dX6_knucklesForRings_9 rfl ?_
    refine r_bipush 12 dX6_knucklesForRings_11 (by decide) ?_
    refine r_icmp_ge 53 dX6_knucklesForRings_13 (by decide) (fun hc => ?_) (fun hc => ?_)
    · replace h := kbG_t hc h
      refine r_le [none, some (.int v1), none, none, none] ⟨rfl, trivial⟩ ?_
      exact hx v1 (kbG_some h)
    · replace h := kbG_f hc h
      refine r_iload_n dX6_knucklesForRings_16 rfl ?_
      refine r_if_le 53 dX6_knucklesForRings_17 (by decide) (fun hc => ?_) (fun hc => ?_)
      · replace h := kbG_t hc h
        refine r_le [none, some (.int v1), none, none, none] ⟨rfl, trivial⟩ ?_
        exact hx v1 (kbG_some h)
      · replace h := kbG_f hc h
        refine r_iload_n dX6_knucklesForRings_20 rfl ?_
        refine r_iload_n dX6_knucklesForRings_21 rfl ?_
        refine r_iconst 5 dX6_knucklesForRings_22 (by decide) ?_
        refine r_rem dX6_knucklesForRings_23 (by decide) ?_
        refine r_iconst 3 dX6_knucklesForRings_24 (by decide) ?_
        refine r_icmp_ne 32 dX6_knucklesForRings_25 (by decide) (fun hc => ?_) (fun hc => ?_)
        · replace h := kbG_f hc h
          refine r_iload_n dX6_knucklesForRings_32 rfl ?_
          refine r_iconst 5 dX6_knucklesForRings_33 (by decide) ?_
          refine r_rem dX6_knucklesForRings_34 (by decide) ?_
          refine r_le [none, none, some (.int v2), some (.int v3), some (.int v4)] ⟨rfl, ⟨rfl, ⟨rfl, trivial⟩⟩⟩ ?_
          exact jnR_RO_knucklesForRings_35 n v2 v3 v4 v1 (kbRem v3 5) μ (hx := hx) (hrec := ih) h
        · replace h := kbG_t hc h
          refine r_iconst 1 dX6_knucklesForRings_28 (by decide) ?_
          refine r_goto 35 dX6_knucklesForRings_29 (by decide) ?_
          refine r_le [none, none, some (.int v2), some (.int v3), some (.int v4)] ⟨rfl, ⟨rfl, ⟨rfl, trivial⟩⟩⟩ ?_
          exact jnR_RO_knucklesForRings_35 n v2 v3 v4 v1 1 μ (hx := hx) (hrec := ih) h
def jn_RO_knucklesForRings_53 (n : Nat) (v1 : Int32) : Option (Int32) :=
  some v1
theorem jnR_RO_knucklesForRings_53 {l : Launch} (n : Nat)   (v1 : Int32) (μ : kbM) {Q : kbQt} {P : Int32 → Prop} (hr : ∀ z : Int32, P z → Q (some (.int z)) μ) (h : kbG (jn_RO_knucklesForRings_53 n v1) P) : kbR l MX6_knucklesForRings 1 Q 53 [none, some (.int v1), none, none, none] [] μ := by
  unfold jn_RO_knucklesForRings_53 at h
  refine r_iload_n dX6_knucklesForRings_53 rfl ?_
  exact r_iret rfl dX6_knucklesForRings_54 (hr v1 (kbG_some h))
def f_RO_knucklesForRings (n : Nat) (a0 : Int32) : Option (Int32) :=
  (lp_RO_knucklesForRings_9 n n 0 1 a0 0).bind fun x1 =>
  jn_RO_knucklesForRings_53 n x1
theorem sp_RO_knucklesForRings {l : Launch} (n : Nat) (a0 : Int32) (μ : kbM)  {x : Int32} (h : f_RO_knucklesForRings n a0 = some x) : kbS l MX6_knucklesForRings 1 [.int a0] μ (kbQe (some (.int x)) μ) := by
  refine kb_enter 4 rfl rfl ?_
  suffices H : ∀ (Q : kbQt) (P : Int32 → Prop), (∀ z : Int32, P z → Q (some (.int z)) μ) → kbG (f_RO_knucklesForRings n a0) P → kbR l MX6_knucklesForRings 1 Q 0 [some (.int a0), none, none, none, none] [] μ from H _ (fun z => z = x) (fun z e => by subst e; exact ⟨rfl, rfl⟩) ⟨x, h, rfl⟩
  clear h
  intro Q P hr h
  unfold f_RO_knucklesForRings at h
  refine r_iconst 0 dX6_knucklesForRings_0 (by decide) ?_
  refine r_istore_n dX6_knucklesForRings_1 (Nat.le_of_ble_eq_true rfl) rfl ?_
  refine r_iconst 1 dX6_knucklesForRings_2 (by decide) ?_
  refine r_istore_n dX6_knucklesForRings_3 (Nat.le_of_ble_eq_true rfl) rfl ?_
  refine r_iload_n dX6_knucklesForRings_4 rfl ?_
  refine r_istore_n dX6_knucklesForRings_5 (Nat.le_of_ble_eq_true rfl) rfl ?_
  refine r_iconst 0 dX6_knucklesForRings_6 (by decide) ?_
  refine r_istore dX6_knucklesForRings_7 (Nat.le_of_ble_eq_true rfl) rfl ?_
  refine r_le [none, some (.int 0), some (.int 1), some (.int a0), some (.int 0)] ⟨rfl, ⟨rfl, ⟨rfl, ⟨rfl, trivial⟩⟩⟩⟩ ?_
  obtain ⟨x1, hx0, h⟩ := kbG_bind h
  refine lpR_RO_knucklesForRings_9 n μ (P := fun z => x1 = z) (hx := fun z e => ?_) n _ _ _ _ ⟨_, hx0, rfl⟩
  subst e
  refine r_le [none, some (.int x1), none, none, none] ⟨rfl, trivial⟩ ?_
  exact jnR_RO_knucklesForRings_53 n x1 μ (hr := hr) h
def jn_RO_withLast_18 (n : Nat) (w0 : Int32) : Option (Int32) :=
  some w0
theorem jnR_RO_withLast_18 {l : Launch} (n : Nat)   (w0 : Int32) (μ : kbM) {Q : kbQt} {P : Int32 → Prop} (hr : ∀ z : Int32, P z → Q (some (.int z)) μ) (h : kbG (jn_RO_withLast_18 n w0) P) : kbR l MX6_withLast 2 Q 18 [none, none] [.int w0] μ := by
  unfold jn_RO_withLast_18 at h
  exact r_iret rfl dX6_withLast_18 (hr w0 (kbG_some h))
def f_RO_withLast (n : Nat) (a0 : Int32) (a1 : Int32) : Option (Int32) :=
  (f_RO_size n a0).bind fun x1 =>
  if 12 ≤ x1 then
    jn_RO_withLast_18 n a0
  else
    jn_RO_withLast_18 n ((a0 * 5) + a1)
theorem sp_RO_withLast {l : Launch} (n : Nat) (a0 : Int32) (a1 : Int32) (μ : kbM)  {x : Int32} (h : f_RO_withLast n a0 a1 = some x) : kbS l MX6_withLast 2 [.int a0, .int a1] μ (kbQe (some (.int x)) μ) := by
  refine kb_enter 0 rfl rfl ?_
  suffices H : ∀ (Q : kbQt) (P : Int32 → Prop), (∀ z : Int32, P z → Q (some (.int z)) μ) → kbG (f_RO_withLast n a0 a1) P → kbR l MX6_withLast 2 Q 0 [some (.int a0), some (.int a1)] [] μ from H _ (fun z => z = x) (fun z e => by subst e; exact ⟨rfl, rfl⟩) ⟨x, h, rfl⟩
  clear h
  intro Q P hr h
  unfold f_RO_withLast at h
  refine r_iload_n dX6_withLast_0 rfl ?_
  obtain ⟨x1, hx0, h⟩ := kbG_bind h
  refine r_inv_i csX6_20 (sp_RO_size n a0 μ hx0) rfl rfl (Nat.le_of_ble_eq_true rfl) (Nat.le_of_ble_eq_true rfl) dX6_withLast_1 ?_
  refine r_bipush 12 dX6_withLast_4 (by decide) ?_
  refine r_icmp_ge 17 dX6_withLast_6 (by decide) (fun hc => ?_) (fun hc => ?_)
  · replace h := kbG_t hc h
    refine r_iload_n dX6_withLast_17 rfl ?_
    refine r_le [none, none] trivial ?_
    exact jnR_RO_withLast_18 n a0 μ (hr := hr) h
  · replace h := kbG_f hc h
    refine r_iload_n dX6_withLast_9 rfl ?_
    refine r_iconst 5 dX6_withLast_10 (by decide) ?_
    refine r_imul dX6_withLast_11 ?_
    refine r_iload_n dX6_withLast_12 rfl ?_
    refine r_iadd dX6_withLast_13 ?_
    refine r_goto 18 dX6_withLast_14 (by decide) ?_
    refine r_le [none, none] trivial ?_
    exact jnR_RO_withLast_18 n ((a0 * 5) + a1) μ (hr := hr) h
def jn_RO_slice_20  : Option (Int32) :=
  some 0
theorem jnR_RO_slice_20 {l : Launch}    (μ : kbM) {Q : kbQt} {P : Int32 → Prop} (hr : ∀ z : Int32, P z → Q (some (.int z)) μ) (h : kbG (jn_RO_slice_20 ) P) : kbR l MX6_slice 1 Q 20 [none, none, none, none] [] μ := by
  unfold jn_RO_slice_20 at h
  refine r_iconst 0 dX6_slice_20 (by decide) ?_
  exact r_iret rfl dX6_slice_21 (hr 0 (kbG_some h))
def f_RO_slice (a0 : Int32) (a1 : Int32) (a2 : Int32) (a3 : Int32) : Option (Int32) :=
  if a2 < 0 then
    jn_RO_slice_20 
  else
    if a3 < a2 then
      jn_RO_slice_20 
    else
      if a1 < a3 then
        jn_RO_slice_20 
      else
        if a1 ≤ 12 then
          kbIf (kbIn (a1 - a3) 13) <|
          kbIf (decide (¬ (kbFv.getD ((a1 - a3).toNatClampNeg) 0) = 0)) <|
          kbIf (kbIn (a3 - a2) 13) <|
          kbIf (decide (¬ (kbFv.getD ((a3 - a2).toNatClampNeg) 0) = 0)) <|
          some (kbRem (a0 / (kbFv.getD ((a1 - a3).toNatClampNeg) 0)) (kbFv.getD ((a3 - a2).toNatClampNeg) 0))
        else
          jn_RO_slice_20 
theorem sp_RO_slice {l : Launch} (a0 : Int32) (a1 : Int32) (a2 : Int32) (a3 : Int32) (μ : kbM)  {x : Int32} (h : f_RO_slice a0 a1 a2 a3 = some x) : kbS l MX6_slice 1 [.int a0, .int a1, .int a2, .int a3] μ (kbQe (some (.int x)) μ) := by
  refine kb_enter 0 rfl rfl ?_
  suffices H : ∀ (Q : kbQt) (P : Int32 → Prop), (∀ z : Int32, P z → Q (some (.int z)) μ) → kbG (f_RO_slice a0 a1 a2 a3) P → kbR l MX6_slice 1 Q 0 [some (.int a0), some (.int a1), some (.int a2), some (.int a3)] [] μ from H _ (fun z => z = x) (fun z e => by subst e; exact ⟨rfl, rfl⟩) ⟨x, h, rfl⟩
  clear h
  intro Q P hr h
  unfold f_RO_slice at h
  refine r_iload_n dX6_slice_0 rfl ?_
  refine r_if_lt 20 dX6_slice_1 (by decide) (fun hc => ?_) (fun hc => ?_)
  · replace h := kbG_t hc h
    refine r_le [none, none, none, none] trivial ?_
    exact jnR_RO_slice_20  μ (hr := hr) h
  · replace h := kbG_f hc h
    refine r_iload_n dX6_slice_4 rfl ?_
    refine r_iload_n dX6_slice_5 rfl ?_
    refine r_icmp_lt 20 dX6_slice_6 (by decide) (fun hc => ?_) (fun hc => ?_)
    · replace h := kbG_t hc h
      refine r_le [none, none, none, none] trivial ?_
      exact jnR_RO_slice_20  μ (hr := hr) h
    · replace h := kbG_f hc h
      refine r_iload_n dX6_slice_9 rfl ?_
      refine r_iload_n dX6_slice_10 rfl ?_
      refine r_icmp_lt 20 dX6_slice_11 (by decide) (fun hc => ?_) (fun hc => ?_)
      · replace h := kbG_t hc h
        refine r_le [none, none, none, none] trivial ?_
        exact jnR_RO_slice_20  μ (hr := hr) h
      · replace h := kbG_f hc h
        refine r_iload_n dX6_slice_14 rfl ?_
        refine r_bipush 12 dX6_slice_15 (by decide) ?_
        refine r_icmp_le 22 dX6_slice_17 (by decide) (fun hc => ?_) (fun hc => ?_)
        · replace h := kbG_t hc h
          refine r_iload_n dX6_slice_22 rfl ?_
          refine r_fives stX6_10 dX6_slice_23 ?_
          refine r_iload_n dX6_slice_26 rfl ?_
          refine r_iload_n dX6_slice_27 rfl ?_
          refine r_isub dX6_slice_28 ?_
          obtain ⟨hin, h⟩ := kbG_if h
          replace hin := kbIn_of hin
          refine q_fald ((a1 - a3).toNatClampNeg) rfl hin dX6_slice_29 ?_
          obtain ⟨hz, h⟩ := kbG_if h
          refine r_idiv dX6_slice_30 (of_decide_eq_true hz) ?_
          refine r_fives stX6_10 dX6_slice_31 ?_
          refine r_iload_n dX6_slice_34 rfl ?_
          refine r_iload_n dX6_slice_35 rfl ?_
          refine r_isub dX6_slice_36 ?_
          obtain ⟨hin, h⟩ := kbG_if h
          replace hin := kbIn_of hin
          refine q_fald ((a3 - a2).toNatClampNeg) rfl hin dX6_slice_37 ?_
          obtain ⟨hz, h⟩ := kbG_if h
          refine r_rem dX6_slice_38 (of_decide_eq_true hz) ?_
          exact r_iret rfl dX6_slice_39 (hr (kbRem (a0 / (kbFv.getD ((a1 - a3).toNatClampNeg) 0)) (kbFv.getD ((a3 - a2).toNatClampNeg) 0)) (kbG_some h))
        · replace h := kbG_f hc h
          refine r_le [none, none, none, none] trivial ?_
          exact jnR_RO_slice_20  μ (hr := hr) h
def jn_RO_spread_46_31 (n : Nat) (rec : Int32 → Int32 → kbM → Option (kbM)) (v2 : Int32) (v3 : Int32) (v4 : Int32) (μ : kbM) : Option (kbM) :=
  rec (v3 / 5) (v4 + (-1)) μ
theorem jnR_RO_spread_46_31 {l : Launch} (n : Nat)   (v2 : Int32) (v3 : Int32) (v4 : Int32) (μ : kbM) {Q : kbQt} {P : kbM → Prop} (hx : ∀ z : kbM, P (z) → kbR l MX6_spread 2 Q 41 [none, none, some (.int v2), none, none] [] z) {rec : Int32 → Int32 → kbM → Option (kbM)} (hrec : ∀ (v3 : Int32) (v4 : Int32) (μ : kbM), kbG (rec v3 v4 μ) P → kbR l MX6_spread 2 Q 12 [none, some (.ref 46), some (.int v2), some (.int v3), some (.int v4)] [] μ) (h : kbG (jn_RO_spread_46_31 n rec v2 v3 v4 μ) P) : kbR l MX6_spread 2 Q 31 [none, some (.ref 46), some (.int v2), some (.int v3), some (.int v4)] [] μ := by
  unfold jn_RO_spread_46_31 at h
  refine r_iload_n dX6_spread_31 rfl ?_
  refine r_iconst 5 dX6_spread_32 (by decide) ?_
  refine r_idiv dX6_spread_33 (by decide) ?_
  refine r_istore_n dX6_spread_34 (Nat.le_of_ble_eq_true rfl) rfl ?_
  refine r_iinc (-1) dX6_spread_35 rfl (by decide) (Nat.le_of_ble_eq_true rfl) rfl ?_
  refine r_goto 12 dX6_spread_38 (by decide) ?_
  refine r_le [none, some (.ref 46), some (.int v2), some (.int (v3 / 5)), some (.int (v4 + (-1)))] ⟨rfl, ⟨rfl, ⟨rfl, ⟨rfl, trivial⟩⟩⟩⟩ ?_
  exact hrec (v3 / 5) (v4 + (-1)) μ h
def lp_RO_spread_46_12 (n : Nat) (v2 : Int32) : Nat → Int32 → Int32 → kbM → Option (kbM)
  | 0, _, _, _ => none
  | k + 1, v3, v4, μ =>
    if v4 < 0 then
      some μ
    else
      if 12 ≤ v4 then
        jn_RO_spread_46_31 n (lp_RO_spread_46_12 n v2 k) v2 v3 v4 μ
      else
        kbIf (kbIn v4 12) <|
        jn_RO_spread_46_31 n (lp_RO_spread_46_12 n v2 k) v2 v3 v4 (kbW μ 46 v4.toNatClampNeg (kbRem v3 5))
theorem lpR_RO_spread_46_12 {l : Launch} (n : Nat) (v2 : Int32)  {Q : kbQt} {P : kbM → Prop} (hx : ∀ z : kbM, P (z) → kbR l MX6_spread 2 Q 41 [none, none, some (.int v2), none, none] [] z) : ∀ (k : Nat) (v3 : Int32) (v4 : Int32) (μ : kbM), kbG (lp_RO_spread_46_12 n v2 k v3 v4 μ) P → kbR l MX6_spread 2 Q 12 [none, some (.ref 46), some (.int v2), some (.int v3), some (.int v4)] [] μ := by
  intro k
  induction k with
  | zero => intro v3 v4 μ h; exact absurd h kbG_none
  | succ k ih =>
    intro v3 v4 μ h
    unfold lp_RO_spread_46_12 at h
    refine r_iload dX6_spread_12 rfl ?_
    refine r_if_lt 41 dX6_spread_14 (by decide) (fun hc => ?_) (fun hc => ?_)
    · replace h := kbG_t hc h
      refine r_le [none, none, some (.int v2), none, none] ⟨rfl, trivial⟩ ?_
      exact hx μ (kbG_some h)
    · replace h := kbG_f hc h
      refine r_iload dX6_spread_17 rfl ?_
      refine r_aload_n dX6_spread_19 rfl ?_
      refine r_alen 12 sh46 (by decide) (by decide) dX6_spread_20 ?_
      refine r_icmp_ge 31 dX6_spread_21 (by decide) (fun hc => ?_) (fun hc => ?_)
      · replace h := kbG_t hc h
        refine r_le [none, some (.ref 46), some (.int v2), some (.int v3), some (.int v4)] ⟨rfl, ⟨rfl, ⟨rfl, ⟨rfl, trivial⟩⟩⟩⟩ ?_
        exact jnR_RO_spread_46_31 n v2 v3 v4 μ (hx := hx) (hrec := ih) h
      · replace h := kbG_f hc h
        refine r_aload_n dX6_spread_24 rfl ?_
        refine r_iload dX6_spread_25 rfl ?_
        refine r_iload_n dX6_spread_27 rfl ?_
        refine r_iconst 5 dX6_spread_28 (by decide) ?_
        refine r_rem dX6_spread_29 (by decide) ?_
        obtain ⟨hin, h⟩ := kbG_if h
        replace hin := kbIn_of hin
        refine q_iast v4.toNatClampNeg rfl sh46 hin dX6_spread_30 ?_
        refine r_le [none, some (.ref 46), some (.int v2), some (.int v3), some (.int v4)] ⟨rfl, ⟨rfl, ⟨rfl, ⟨rfl, trivial⟩⟩⟩⟩ ?_
        exact jnR_RO_spread_46_31 n v2 v3 v4 (kbW μ 46 v4.toNatClampNeg (kbRem v3 5)) (hx := hx) (hrec := ih) h
def f_RO_spread_46 (n : Nat) (a0 : Int32) (μ : kbM) : Option (Int32 × kbM) :=
  (f_RO_size n a0).bind fun x1 =>
  (lp_RO_spread_46_12 n x1 n a0 (x1 - 1) μ).bind fun x2 =>
  some ((x1, x2))
theorem sp_RO_spread_46 {l : Launch} (n : Nat) (a0 : Int32) (μ : kbM)  {x : Int32 × kbM} (h : f_RO_spread_46 n a0 μ = some x) : kbS l MX6_spread 2 [.int a0, .ref 46] μ (kbQe (some (.int x.1)) x.2) := by
  refine kb_enter 3 rfl rfl ?_
  suffices H : ∀ (Q : kbQt) (P : Int32 × kbM → Prop), (∀ z : Int32 × kbM, P z → Q (some (.int z.1)) z.2) → kbG (f_RO_spread_46 n a0 μ) P → kbR l MX6_spread 2 Q 0 [some (.int a0), some (.ref 46), none, none, none] [] μ from H _ (fun z => z = x) (fun z e => by subst e; exact ⟨rfl, rfl⟩) ⟨x, h, rfl⟩
  clear h
  intro Q P hr h
  unfold f_RO_spread_46 at h
  refine r_iload_n dX6_spread_0 rfl ?_
  obtain ⟨x1, hx0, h⟩ := kbG_bind h
  refine r_inv_i csX6_20 (sp_RO_size n a0 μ hx0) rfl rfl (Nat.le_of_ble_eq_true rfl) (Nat.le_of_ble_eq_true rfl) dX6_spread_1 ?_
  refine r_istore_n dX6_spread_4 (Nat.le_of_ble_eq_true rfl) rfl ?_
  refine r_iload_n dX6_spread_5 rfl ?_
  refine r_istore_n dX6_spread_6 (Nat.le_of_ble_eq_true rfl) rfl ?_
  refine r_iload_n dX6_spread_7 rfl ?_
  refine r_iconst 1 dX6_spread_8 (by decide) ?_
  refine r_isub dX6_spread_9 ?_
  refine r_istore dX6_spread_10 (Nat.le_of_ble_eq_true rfl) rfl ?_
  refine r_le [none, some (.ref 46), some (.int x1), some (.int a0), some (.int (x1 - 1))] ⟨rfl, ⟨rfl, ⟨rfl, ⟨rfl, trivial⟩⟩⟩⟩ ?_
  obtain ⟨x2, hx0, h⟩ := kbG_bind h
  refine lpR_RO_spread_46_12 n x1 (P := fun z => x2 = z) (hx := fun z e => ?_) n _ _ _ ⟨_, hx0, rfl⟩
  subst e
  refine r_iload_n dX6_spread_41 rfl ?_
  exact r_iret rfl dX6_spread_42 (hr ((x1, x2)) (kbG_some h))
def f_RO_soundAt (a0 : Int32) (a1 : Int32) (a2 : Int32) : Option (Int32) :=
  (f_RO_slice a0 a1 a2 (a2 + 1)).bind fun x1 =>
  some x1
theorem sp_RO_soundAt {l : Launch} (a0 : Int32) (a1 : Int32) (a2 : Int32) (μ : kbM)  {x : Int32} (h : f_RO_soundAt a0 a1 a2 = some x) : kbS l MX6_soundAt 2 [.int a0, .int a1, .int a2] μ (kbQe (some (.int x)) μ) := by
  refine kb_enter 0 rfl rfl ?_
  suffices H : ∀ (Q : kbQt) (P : Int32 → Prop), (∀ z : Int32, P z → Q (some (.int z)) μ) → kbG (f_RO_soundAt a0 a1 a2) P → kbR l MX6_soundAt 2 Q 0 [some (.int a0), some (.int a1), some (.int a2)] [] μ from H _ (fun z => z = x) (fun z e => by subst e; exact ⟨rfl, rfl⟩) ⟨x, h, rfl⟩
  clear h
  intro Q P hr h
  unfold f_RO_soundAt at h
  refine r_iload_n dX6_soundAt_0 rfl ?_
  refine r_iload_n dX6_soundAt_1 rfl ?_
  refine r_iload_n dX6_soundAt_2 rfl ?_
  refine r_iload_n dX6_soundAt_3 rfl ?_
  refine r_iconst 1 dX6_soundAt_4 (by decide) ?_
  refine r_iadd dX6_soundAt_5 ?_
  obtain ⟨x1, hx0, h⟩ := kbG_bind h
  refine r_inv_i csX6_16 (sp_RO_slice a0 a1 a2 (a2 + 1) μ hx0) rfl rfl (Nat.le_of_ble_eq_true rfl) (Nat.le_of_ble_eq_true rfl) dX6_soundAt_6 ?_
  exact r_iret rfl dX6_soundAt_9 (hr x1 (kbG_some h))
def jn_RO_spread_40_31 (n : Nat) (rec : Int32 → Int32 → kbM → Option (kbM)) (v2 : Int32) (v3 : Int32) (v4 : Int32) (μ : kbM) : Option (kbM) :=
  rec (v3 / 5) (v4 + (-1)) μ
theorem jnR_RO_spread_40_31 {l : Launch} (n : Nat)   (v2 : Int32) (v3 : Int32) (v4 : Int32) (μ : kbM) {Q : kbQt} {P : kbM → Prop} (hx : ∀ z : kbM, P (z) → kbR l MX6_spread 2 Q 41 [none, none, some (.int v2), none, none] [] z) {rec : Int32 → Int32 → kbM → Option (kbM)} (hrec : ∀ (v3 : Int32) (v4 : Int32) (μ : kbM), kbG (rec v3 v4 μ) P → kbR l MX6_spread 2 Q 12 [none, some (.ref 40), some (.int v2), some (.int v3), some (.int v4)] [] μ) (h : kbG (jn_RO_spread_40_31 n rec v2 v3 v4 μ) P) : kbR l MX6_spread 2 Q 31 [none, some (.ref 40), some (.int v2), some (.int v3), some (.int v4)] [] μ := by
  unfold jn_RO_spread_40_31 at h
  refine r_iload_n dX6_spread_31 rfl ?_
  refine r_iconst 5 dX6_spread_32 (by decide) ?_
  refine r_idiv dX6_spread_33 (by decide) ?_
  refine r_istore_n dX6_spread_34 (Nat.le_of_ble_eq_true rfl) rfl ?_
  refine r_iinc (-1) dX6_spread_35 rfl (by decide) (Nat.le_of_ble_eq_true rfl) rfl ?_
  refine r_goto 12 dX6_spread_38 (by decide) ?_
  refine r_le [none, some (.ref 40), some (.int v2), some (.int (v3 / 5)), some (.int (v4 + (-1)))] ⟨rfl, ⟨rfl, ⟨rfl, ⟨rfl, trivial⟩⟩⟩⟩ ?_
  exact hrec (v3 / 5) (v4 + (-1)) μ h
def lp_RO_spread_40_12 (n : Nat) (v2 : Int32) : Nat → Int32 → Int32 → kbM → Option (kbM)
  | 0, _, _, _ => none
  | k + 1, v3, v4, μ =>
    if v4 < 0 then
      some μ
    else
      if 12 ≤ v4 then
        jn_RO_spread_40_31 n (lp_RO_spread_40_12 n v2 k) v2 v3 v4 μ
      else
        kbIf (kbIn v4 12) <|
        jn_RO_spread_40_31 n (lp_RO_spread_40_12 n v2 k) v2 v3 v4 (kbW μ 40 v4.toNatClampNeg (kbRem v3 5))
theorem lpR_RO_spread_40_12 {l : Launch} (n : Nat) (v2 : Int32)  {Q : kbQt} {P : kbM → Prop} (hx : ∀ z : kbM, P (z) → kbR l MX6_spread 2 Q 41 [none, none, some (.int v2), none, none] [] z) : ∀ (k : Nat) (v3 : Int32) (v4 : Int32) (μ : kbM), kbG (lp_RO_spread_40_12 n v2 k v3 v4 μ) P → kbR l MX6_spread 2 Q 12 [none, some (.ref 40), some (.int v2), some (.int v3), some (.int v4)] [] μ := by
  intro k
  induction k with
  | zero => intro v3 v4 μ h; exact absurd h kbG_none
  | succ k ih =>
    intro v3 v4 μ h
    unfold lp_RO_spread_40_12 at h
    refine r_iload dX6_spread_12 rfl ?_
    refine r_if_lt 41 dX6_spread_14 (by decide) (fun hc => ?_) (fun hc => ?_)
    · replace h := kbG_t hc h
      refine r_le [none, none, some (.int v2), none, none] ⟨rfl, trivial⟩ ?_
      exact hx μ (kbG_some h)
    · replace h := kbG_f hc h
      refine r_iload dX6_spread_17 rfl ?_
      refine r_aload_n dX6_spread_19 rfl ?_
      refine r_alen 12 sh40 (by decide) (by decide) dX6_spread_20 ?_
      refine r_icmp_ge 31 dX6_spread_21 (by decide) (fun hc => ?_) (fun hc => ?_)
      · replace h := kbG_t hc h
        refine r_le [none, some (.ref 40), some (.int v2), some (.int v3), some (.int v4)] ⟨rfl, ⟨rfl, ⟨rfl, ⟨rfl, trivial⟩⟩⟩⟩ ?_
        exact jnR_RO_spread_40_31 n v2 v3 v4 μ (hx := hx) (hrec := ih) h
      · replace h := kbG_f hc h
        refine r_aload_n dX6_spread_24 rfl ?_
        refine r_iload dX6_spread_25 rfl ?_
        refine r_iload_n dX6_spread_27 rfl ?_
        refine r_iconst 5 dX6_spread_28 (by decide) ?_
        refine r_rem dX6_spread_29 (by decide) ?_
        obtain ⟨hin, h⟩ := kbG_if h
        replace hin := kbIn_of hin
        refine q_iast v4.toNatClampNeg rfl sh40 hin dX6_spread_30 ?_
        refine r_le [none, some (.ref 40), some (.int v2), some (.int v3), some (.int v4)] ⟨rfl, ⟨rfl, ⟨rfl, ⟨rfl, trivial⟩⟩⟩⟩ ?_
        exact jnR_RO_spread_40_31 n v2 v3 v4 (kbW μ 40 v4.toNatClampNeg (kbRem v3 5)) (hx := hx) (hrec := ih) h
def f_RO_spread_40 (n : Nat) (a0 : Int32) (μ : kbM) : Option (Int32 × kbM) :=
  (f_RO_size n a0).bind fun x1 =>
  (lp_RO_spread_40_12 n x1 n a0 (x1 - 1) μ).bind fun x2 =>
  some ((x1, x2))
theorem sp_RO_spread_40 {l : Launch} (n : Nat) (a0 : Int32) (μ : kbM)  {x : Int32 × kbM} (h : f_RO_spread_40 n a0 μ = some x) : kbS l MX6_spread 2 [.int a0, .ref 40] μ (kbQe (some (.int x.1)) x.2) := by
  refine kb_enter 3 rfl rfl ?_
  suffices H : ∀ (Q : kbQt) (P : Int32 × kbM → Prop), (∀ z : Int32 × kbM, P z → Q (some (.int z.1)) z.2) → kbG (f_RO_spread_40 n a0 μ) P → kbR l MX6_spread 2 Q 0 [some (.int a0), some (.ref 40), none, none, none] [] μ from H _ (fun z => z = x) (fun z e => by subst e; exact ⟨rfl, rfl⟩) ⟨x, h, rfl⟩
  clear h
  intro Q P hr h
  unfold f_RO_spread_40 at h
  refine r_iload_n dX6_spread_0 rfl ?_
  obtain ⟨x1, hx0, h⟩ := kbG_bind h
  refine r_inv_i csX6_20 (sp_RO_size n a0 μ hx0) rfl rfl (Nat.le_of_ble_eq_true rfl) (Nat.le_of_ble_eq_true rfl) dX6_spread_1 ?_
  refine r_istore_n dX6_spread_4 (Nat.le_of_ble_eq_true rfl) rfl ?_
  refine r_iload_n dX6_spread_5 rfl ?_
  refine r_istore_n dX6_spread_6 (Nat.le_of_ble_eq_true rfl) rfl ?_
  refine r_iload_n dX6_spread_7 rfl ?_
  refine r_iconst 1 dX6_spread_8 (by decide) ?_
  refine r_isub dX6_spread_9 ?_
  refine r_istore dX6_spread_10 (Nat.le_of_ble_eq_true rfl) rfl ?_
  refine r_le [none, some (.ref 40), some (.int x1), some (.int a0), some (.int (x1 - 1))] ⟨rfl, ⟨rfl, ⟨rfl, ⟨rfl, trivial⟩⟩⟩⟩ ?_
  obtain ⟨x2, hx0, h⟩ := kbG_bind h
  refine lpR_RO_spread_40_12 n x1 (P := fun z => x2 = z) (hx := fun z e => ?_) n _ _ _ ⟨_, hx0, rfl⟩
  subst e
  refine r_iload_n dX6_spread_41 rfl ?_
  exact r_iret rfl dX6_spread_42 (hr ((x1, x2)) (kbG_some h))
def jn_RO_spread_41_31 (n : Nat) (rec : Int32 → Int32 → kbM → Option (kbM)) (v2 : Int32) (v3 : Int32) (v4 : Int32) (μ : kbM) : Option (kbM) :=
  rec (v3 / 5) (v4 + (-1)) μ
theorem jnR_RO_spread_41_31 {l : Launch} (n : Nat)   (v2 : Int32) (v3 : Int32) (v4 : Int32) (μ : kbM) {Q : kbQt} {P : kbM → Prop} (hx : ∀ z : kbM, P (z) → kbR l MX6_spread 2 Q 41 [none, none, some (.int v2), none, none] [] z) {rec : Int32 → Int32 → kbM → Option (kbM)} (hrec : ∀ (v3 : Int32) (v4 : Int32) (μ : kbM), kbG (rec v3 v4 μ) P → kbR l MX6_spread 2 Q 12 [none, some (.ref 41), some (.int v2), some (.int v3), some (.int v4)] [] μ) (h : kbG (jn_RO_spread_41_31 n rec v2 v3 v4 μ) P) : kbR l MX6_spread 2 Q 31 [none, some (.ref 41), some (.int v2), some (.int v3), some (.int v4)] [] μ := by
  unfold jn_RO_spread_41_31 at h
  refine r_iload_n dX6_spread_31 rfl ?_
  refine r_iconst 5 dX6_spread_32 (by decide) ?_
  refine r_idiv dX6_spread_33 (by decide) ?_
  refine r_istore_n dX6_spread_34 (Nat.le_of_ble_eq_true rfl) rfl ?_
  refine r_iinc (-1) dX6_spread_35 rfl (by decide) (Nat.le_of_ble_eq_true rfl) rfl ?_
  refine r_goto 12 dX6_spread_38 (by decide) ?_
  refine r_le [none, some (.ref 41), some (.int v2), some (.int (v3 / 5)), some (.int (v4 + (-1)))] ⟨rfl, ⟨rfl, ⟨rfl, ⟨rfl, trivial⟩⟩⟩⟩ ?_
  exact hrec (v3 / 5) (v4 + (-1)) μ h
def lp_RO_spread_41_12 (n : Nat) (v2 : Int32) : Nat → Int32 → Int32 → kbM → Option (kbM)
  | 0, _, _, _ => none
  | k + 1, v3, v4, μ =>
    if v4 < 0 then
      some μ
    else
      if 12 ≤ v4 then
        jn_RO_spread_41_31 n (lp_RO_spread_41_12 n v2 k) v2 v3 v4 μ
      else
        kbIf (kbIn v4 12) <|
        jn_RO_spread_41_31 n (lp_RO_spread_41_12 n v2 k) v2 v3 v4 (kbW μ 41 v4.toNatClampNeg (kbRem v3 5))
theorem lpR_RO_spread_41_12 {l : Launch} (n : Nat) (v2 : Int32)  {Q : kbQt} {P : kbM → Prop} (hx : ∀ z : kbM, P (z) → kbR l MX6_spread 2 Q 41 [none, none, some (.int v2), none, none] [] z) : ∀ (k : Nat) (v3 : Int32) (v4 : Int32) (μ : kbM), kbG (lp_RO_spread_41_12 n v2 k v3 v4 μ) P → kbR l MX6_spread 2 Q 12 [none, some (.ref 41), some (.int v2), some (.int v3), some (.int v4)] [] μ := by
  intro k
  induction k with
  | zero => intro v3 v4 μ h; exact absurd h kbG_none
  | succ k ih =>
    intro v3 v4 μ h
    unfold lp_RO_spread_41_12 at h
    refine r_iload dX6_spread_12 rfl ?_
    refine r_if_lt 41 dX6_spread_14 (by decide) (fun hc => ?_) (fun hc => ?_)
    · replace h := kbG_t hc h
      refine r_le [none, none, some (.int v2), none, none] ⟨rfl, trivial⟩ ?_
      exact hx μ (kbG_some h)
    · replace h := kbG_f hc h
      refine r_iload dX6_spread_17 rfl ?_
      refine r_aload_n dX6_spread_19 rfl ?_
      refine r_alen 12 sh41 (by decide) (by decide) dX6_spread_20 ?_
      refine r_icmp_ge 31 dX6_spread_21 (by decide) (fun hc => ?_) (fun hc => ?_)
      · replace h := kbG_t hc h
        refine r_le [none, some (.ref 41), some (.int v2), some (.int v3), some (.int v4)] ⟨rfl, ⟨rfl, ⟨rfl, ⟨rfl, trivial⟩⟩⟩⟩ ?_
        exact jnR_RO_spread_41_31 n v2 v3 v4 μ (hx := hx) (hrec := ih) h
      · replace h := kbG_f hc h
        refine r_aload_n dX6_spread_24 rfl ?_
        refine r_iload dX6_spread_25 rfl ?_
        refine r_iload_n dX6_spread_27 rfl ?_
        refine r_iconst 5 dX6_spread_28 (by decide) ?_
        refine r_rem dX6_spread_29 (by decide) ?_
        obtain ⟨hin, h⟩ := kbG_if h
        replace hin := kbIn_of hin
        refine q_iast v4.toNatClampNeg rfl sh41 hin dX6_spread_30 ?_
        refine r_le [none, some (.ref 41), some (.int v2), some (.int v3), some (.int v4)] ⟨rfl, ⟨rfl, ⟨rfl, ⟨rfl, trivial⟩⟩⟩⟩ ?_
        exact jnR_RO_spread_41_31 n v2 v3 v4 (kbW μ 41 v4.toNatClampNeg (kbRem v3 5)) (hx := hx) (hrec := ih) h
def f_RO_spread_41 (n : Nat) (a0 : Int32) (μ : kbM) : Option (Int32 × kbM) :=
  (f_RO_size n a0).bind fun x1 =>
  (lp_RO_spread_41_12 n x1 n a0 (x1 - 1) μ).bind fun x2 =>
  some ((x1, x2))
theorem sp_RO_spread_41 {l : Launch} (n : Nat) (a0 : Int32) (μ : kbM)  {x : Int32 × kbM} (h : f_RO_spread_41 n a0 μ = some x) : kbS l MX6_spread 2 [.int a0, .ref 41] μ (kbQe (some (.int x.1)) x.2) := by
  refine kb_enter 3 rfl rfl ?_
  suffices H : ∀ (Q : kbQt) (P : Int32 × kbM → Prop), (∀ z : Int32 × kbM, P z → Q (some (.int z.1)) z.2) → kbG (f_RO_spread_41 n a0 μ) P → kbR l MX6_spread 2 Q 0 [some (.int a0), some (.ref 41), none, none, none] [] μ from H _ (fun z => z = x) (fun z e => by subst e; exact ⟨rfl, rfl⟩) ⟨x, h, rfl⟩
  clear h
  intro Q P hr h
  unfold f_RO_spread_41 at h
  refine r_iload_n dX6_spread_0 rfl ?_
  obtain ⟨x1, hx0, h⟩ := kbG_bind h
  refine r_inv_i csX6_20 (sp_RO_size n a0 μ hx0) rfl rfl (Nat.le_of_ble_eq_true rfl) (Nat.le_of_ble_eq_true rfl) dX6_spread_1 ?_
  refine r_istore_n dX6_spread_4 (Nat.le_of_ble_eq_true rfl) rfl ?_
  refine r_iload_n dX6_spread_5 rfl ?_
  refine r_istore_n dX6_spread_6 (Nat.le_of_ble_eq_true rfl) rfl ?_
  refine r_iload_n dX6_spread_7 rfl ?_
  refine r_iconst 1 dX6_spread_8 (by decide) ?_
  refine r_isub dX6_spread_9 ?_
  refine r_istore dX6_spread_10 (Nat.le_of_ble_eq_true rfl) rfl ?_
  refine r_le [none, some (.ref 41), some (.int x1), some (.int a0), some (.int (x1 - 1))] ⟨rfl, ⟨rfl, ⟨rfl, ⟨rfl, trivial⟩⟩⟩⟩ ?_
  obtain ⟨x2, hx0, h⟩ := kbG_bind h
  refine lpR_RO_spread_41_12 n x1 (P := fun z => x2 = z) (hx := fun z e => ?_) n _ _ _ ⟨_, hx0, rfl⟩
  subst e
  refine r_iload_n dX6_spread_41 rfl ?_
  exact r_iret rfl dX6_spread_42 (hr ((x1, x2)) (kbG_some h))
def f_RO_withoutFirst (n : Nat) (a0 : Int32) : Option (Int32) :=
  (f_RO_size n a0).bind fun x1 =>
  (f_RO_slice a0 x1 1 x1).bind fun x2 =>
  some x2
theorem sp_RO_withoutFirst {l : Launch} (n : Nat) (a0 : Int32) (μ : kbM)  {x : Int32} (h : f_RO_withoutFirst n a0 = some x) : kbS l MX6_withoutFirst 2 [.int a0] μ (kbQe (some (.int x)) μ) := by
  refine kb_enter 1 rfl rfl ?_
  suffices H : ∀ (Q : kbQt) (P : Int32 → Prop), (∀ z : Int32, P z → Q (some (.int z)) μ) → kbG (f_RO_withoutFirst n a0) P → kbR l MX6_withoutFirst 2 Q 0 [some (.int a0), none] [] μ from H _ (fun z => z = x) (fun z e => by subst e; exact ⟨rfl, rfl⟩) ⟨x, h, rfl⟩
  clear h
  intro Q P hr h
  unfold f_RO_withoutFirst at h
  refine r_iload_n dX6_withoutFirst_0 rfl ?_
  obtain ⟨x1, hx0, h⟩ := kbG_bind h
  refine r_inv_i csX6_20 (sp_RO_size n a0 μ hx0) rfl rfl (Nat.le_of_ble_eq_true rfl) (Nat.le_of_ble_eq_true rfl) dX6_withoutFirst_1 ?_
  refine r_istore_n dX6_withoutFirst_4 (Nat.le_of_ble_eq_true rfl) rfl ?_
  refine r_iload_n dX6_withoutFirst_5 rfl ?_
  refine r_iload_n dX6_withoutFirst_6 rfl ?_
  refine r_iconst 1 dX6_withoutFirst_7 (by decide) ?_
  refine r_iload_n dX6_withoutFirst_8 rfl ?_
  obtain ⟨x2, hx0, h⟩ := kbG_bind h
  refine r_inv_i csX6_16 (sp_RO_slice a0 x1 1 x1 μ hx0) rfl rfl (Nat.le_of_ble_eq_true rfl) (Nat.le_of_ble_eq_true rfl) dX6_withoutFirst_9 ?_
  exact r_iret rfl dX6_withoutFirst_12 (hr x2 (kbG_some h))
def jn_RO_withFirst_24 (n : Nat) (w0 : Int32) : Option (Int32) :=
  some w0
theorem jnR_RO_withFirst_24 {l : Launch} (n : Nat)   (w0 : Int32) (μ : kbM) {Q : kbQt} {P : Int32 → Prop} (hr : ∀ z : Int32, P z → Q (some (.int z)) μ) (h : kbG (jn_RO_withFirst_24 n w0) P) : kbR l MX6_withFirst 2 Q 24 [none, none, none] [.int w0] μ := by
  unfold jn_RO_withFirst_24 at h
  exact r_iret rfl dX6_withFirst_24 (hr w0 (kbG_some h))
def f_RO_withFirst (n : Nat) (a0 : Int32) (a1 : Int32) : Option (Int32) :=
  (f_RO_size n a0).bind fun x1 =>
  if 12 ≤ x1 then
    jn_RO_withFirst_24 n a0
  else
    kbIf (kbIn x1 13) <|
    jn_RO_withFirst_24 n ((a1 * (kbFv.getD x1.toNatClampNeg 0)) + a0)
theorem sp_RO_withFirst {l : Launch} (n : Nat) (a0 : Int32) (a1 : Int32) (μ : kbM)  {x : Int32} (h : f_RO_withFirst n a0 a1 = some x) : kbS l MX6_withFirst 2 [.int a0, .int a1] μ (kbQe (some (.int x)) μ) := by
  refine kb_enter 1 rfl rfl ?_
  suffices H : ∀ (Q : kbQt) (P : Int32 → Prop), (∀ z : Int32, P z → Q (some (.int z)) μ) → kbG (f_RO_withFirst n a0 a1) P → kbR l MX6_withFirst 2 Q 0 [some (.int a0), some (.int a1), none] [] μ from H _ (fun z => z = x) (fun z e => by subst e; exact ⟨rfl, rfl⟩) ⟨x, h, rfl⟩
  clear h
  intro Q P hr h
  unfold f_RO_withFirst at h
  refine r_iload_n dX6_withFirst_0 rfl ?_
  obtain ⟨x1, hx0, h⟩ := kbG_bind h
  refine r_inv_i csX6_20 (sp_RO_size n a0 μ hx0) rfl rfl (Nat.le_of_ble_eq_true rfl) (Nat.le_of_ble_eq_true rfl) dX6_withFirst_1 ?_
  refine r_istore_n dX6_withFirst_4 (Nat.le_of_ble_eq_true rfl) rfl ?_
  refine r_iload_n dX6_withFirst_5 rfl ?_
  refine r_bipush 12 dX6_withFirst_6 (by decide) ?_
  refine r_icmp_ge 23 dX6_withFirst_8 (by decide) (fun hc => ?_) (fun hc => ?_)
  · replace h := kbG_t hc h
    refine r_iload_n dX6_withFirst_23 rfl ?_
    refine r_le [none, none, none] trivial ?_
    exact jnR_RO_withFirst_24 n a0 μ (hr := hr) h
  · replace h := kbG_f hc h
    refine r_iload_n dX6_withFirst_11 rfl ?_
    refine r_fives stX6_10 dX6_withFirst_12 ?_
    refine r_iload_n dX6_withFirst_15 rfl ?_
    obtain ⟨hin, h⟩ := kbG_if h
    replace hin := kbIn_of hin
    refine q_fald x1.toNatClampNeg rfl hin dX6_withFirst_16 ?_
    refine r_imul dX6_withFirst_17 ?_
    refine r_iload_n dX6_withFirst_18 rfl ?_
    refine r_iadd dX6_withFirst_19 ?_
    refine r_goto 24 dX6_withFirst_20 (by decide) ?_
    refine r_le [none, none, none] trivial ?_
    exact jnR_RO_withFirst_24 n ((a1 * (kbFv.getD x1.toNatClampNeg 0)) + a0) μ (hr := hr) h
