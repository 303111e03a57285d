theorem dX12_prefixes_0 : decode cX12_prefixes 0 = .ok (.aload_n 0, 1) := by decide +kernel
theorem dX12_prefixes_1 : decode cX12_prefixes 1 = .ok (.iconst 0, 1) := by decide +kernel
theorem dX12_prefixes_2 : decode cX12_prefixes 2 = .ok (.putfield 159, 3) := by decide +kernel
theorem dX12_prefixes_5 : decode cX12_prefixes 5 = .ok (.iconst 0, 1) := by decide +kernel
theorem dX12_prefixes_6 : decode cX12_prefixes 6 = .ok (.istore_n 1, 1) := by decide +kernel
theorem dX12_prefixes_7 : decode cX12_prefixes 7 = .ok (.iconst 0, 1) := by decide +kernel
theorem dX12_prefixes_8 : decode cX12_prefixes 8 = .ok (.istore_n 2, 1) := by decide +kernel
theorem dX12_prefixes_9 : decode cX12_prefixes 9 = .ok (.iload_n 2, 1) := by decide +kernel
theorem dX12_prefixes_10 : decode cX12_prefixes 10 = .ok (.aload_n 0, 1) := by decide +kernel
theorem dX12_prefixes_11 : decode cX12_prefixes 11 = .ok (.getfield 162, 3) := by decide +kernel
theorem dX12_prefixes_14 : decode cX12_prefixes 14 = .ok (.if_icmp .ge 57, 3) := by decide +kernel
theorem dX12_prefixes_17 : decode cX12_prefixes 17 = .ok (.iconst 0, 1) := by decide +kernel
theorem dX12_prefixes_18 : decode cX12_prefixes 18 = .ok (.istore_n 3, 1) := by decide +kernel
theorem dX12_prefixes_19 : decode cX12_prefixes 19 = .ok (.iload_n 3, 1) := by decide +kernel
theorem dX12_prefixes_20 : decode cX12_prefixes 20 = .ok (.aload_n 0, 1) := by decide +kernel
theorem dX12_prefixes_21 : decode cX12_prefixes 21 = .ok (.getfield 162, 3) := by decide +kernel
theorem dX12_prefixes_24 : decode cX12_prefixes 24 = .ok (.if_icmp .ge 41, 3) := by decide +kernel
theorem dX12_prefixes_27 : decode cX12_prefixes 27 = .ok (.iload_n 1, 1) := by decide +kernel
theorem dX12_prefixes_28 : decode cX12_prefixes 28 = .ok (.iload_n 2, 1) := by decide +kernel
theorem dX12_prefixes_29 : decode cX12_prefixes 29 = .ok (.iload_n 3, 1) := by decide +kernel
theorem dX12_prefixes_30 : decode cX12_prefixes 30 = .ok (.if_icmp .eq 26, 3) := by decide +kernel
theorem dX12_prefixes_33 : decode cX12_prefixes 33 = .ok (.aload_n 0, 1) := by decide +kernel
theorem dX12_prefixes_34 : decode cX12_prefixes 34 = .ok (.getfield 79, 3) := by decide +kernel
theorem dX12_prefixes_37 : decode cX12_prefixes 37 = .ok (.iload_n 3, 1) := by decide +kernel
theorem dX12_prefixes_38 : decode cX12_prefixes 38 = .ok (.iaload, 1) := by decide +kernel
theorem dX12_prefixes_39 : decode cX12_prefixes 39 = .ok (.aload_n 0, 1) := by decide +kernel
theorem dX12_prefixes_40 : decode cX12_prefixes 40 = .ok (.getfield 79, 3) := by decide +kernel
theorem dX12_prefixes_43 : decode cX12_prefixes 43 = .ok (.iload_n 2, 1) := by decide +kernel
theorem dX12_prefixes_44 : decode cX12_prefixes 44 = .ok (.iaload, 1) := by decide +kernel
theorem dX12_prefixes_45 : decode cX12_prefixes 45 = .ok (.invokestatic 414, 3) := by decide +kernel
theorem dX12_prefixes_48 : decode cX12_prefixes 48 = .ok (.iconst (-1), 1) := by decide +kernel
theorem dX12_prefixes_49 : decode cX12_prefixes 49 = .ok (.if_icmp .eq 7, 3) := by decide +kernel
theorem dX12_prefixes_52 : decode cX12_prefixes 52 = .ok (.iconst 1, 1) := by decide +kernel
theorem dX12_prefixes_53 : decode cX12_prefixes 53 = .ok (.goto 4, 3) := by decide +kernel
theorem dX12_prefixes_56 : decode cX12_prefixes 56 = .ok (.iconst 0, 1) := by decide +kernel
theorem dX12_prefixes_57 : decode cX12_prefixes 57 = .ok (.iadd, 1) := by decide +kernel
theorem dX12_prefixes_58 : decode cX12_prefixes 58 = .ok (.istore_n 1, 1) := by decide +kernel
theorem dX12_prefixes_59 : decode cX12_prefixes 59 = .ok (.iinc 3 1, 3) := by decide +kernel
theorem dX12_prefixes_62 : decode cX12_prefixes 62 = .ok (.goto (-43), 3) := by decide +kernel
theorem dX12_prefixes_65 : decode cX12_prefixes 65 = .ok (.iinc 2 1, 3) := by decide +kernel
theorem dX12_prefixes_68 : decode cX12_prefixes 68 = .ok (.goto (-59), 3) := by decide +kernel
theorem dX12_prefixes_71 : decode cX12_prefixes 71 = .ok (.iload_n 1, 1) := by decide +kernel
theorem dX12_prefixes_72 : decode cX12_prefixes 72 = .ok (.ireturn, 1) := by decide +kernel
theorem dX12_areAlike_0 : decode cX12_areAlike 0 = .ok (.iconst 0, 1) := by decide +kernel
theorem dX12_areAlike_1 : decode cX12_areAlike 1 = .ok (.istore 4, 2) := by decide +kernel
theorem dX12_areAlike_3 : decode cX12_areAlike 3 = .ok (.iload 4, 2) := by decide +kernel
theorem dX12_areAlike_5 : decode cX12_areAlike 5 = .ok (.aload_n 0, 1) := by decide +kernel
theorem dX12_areAlike_6 : decode cX12_areAlike 6 = .ok (.getfield 47, 3) := by decide +kernel
theorem dX12_areAlike_9 : decode cX12_areAlike 9 = .ok (.iconst 1, 1) := by decide +kernel
theorem dX12_areAlike_10 : decode cX12_areAlike 10 = .ok (.iaload, 1) := by decide +kernel
theorem dX12_areAlike_11 : decode cX12_areAlike 11 = .ok (.if_icmp .ge 47, 3) := by decide +kernel
theorem dX12_areAlike_14 : decode cX12_areAlike 14 = .ok (.iload_n 3, 1) := by decide +kernel
theorem dX12_areAlike_15 : decode cX12_areAlike 15 = .ok (.iload 4, 2) := by decide +kernel
theorem dX12_areAlike_17 : decode cX12_areAlike 17 = .ok (.invokestatic 318, 3) := by decide +kernel
theorem dX12_areAlike_20 : decode cX12_areAlike 20 = .ok (.ifCond .eq 32, 3) := by decide +kernel
theorem dX12_areAlike_23 : decode cX12_areAlike 23 = .ok (.aload_n 0, 1) := by decide +kernel
theorem dX12_areAlike_24 : decode cX12_areAlike 24 = .ok (.iload 4, 2) := by decide +kernel
theorem dX12_areAlike_26 : decode cX12_areAlike 26 = .ok (.aload_n 0, 1) := by decide +kernel
theorem dX12_areAlike_27 : decode cX12_areAlike 27 = .ok (.getfield 79, 3) := by decide +kernel
theorem dX12_areAlike_30 : decode cX12_areAlike 30 = .ok (.iload_n 1, 1) := by decide +kernel
theorem dX12_areAlike_31 : decode cX12_areAlike 31 = .ok (.iaload, 1) := by decide +kernel
theorem dX12_areAlike_32 : decode cX12_areAlike 32 = .ok (.invokevirtual 328, 3) := by decide +kernel
theorem dX12_areAlike_35 : decode cX12_areAlike 35 = .ok (.aload_n 0, 1) := by decide +kernel
theorem dX12_areAlike_36 : decode cX12_areAlike 36 = .ok (.iload 4, 2) := by decide +kernel
theorem dX12_areAlike_38 : decode cX12_areAlike 38 = .ok (.aload_n 0, 1) := by decide +kernel
theorem dX12_areAlike_39 : decode cX12_areAlike 39 = .ok (.getfield 79, 3) := by decide +kernel
theorem dX12_areAlike_42 : decode cX12_areAlike 42 = .ok (.iload_n 2, 1) := by decide +kernel
theorem dX12_areAlike_43 : decode cX12_areAlike 43 = .ok (.iaload, 1) := by decide +kernel
theorem dX12_areAlike_44 : decode cX12_areAlike 44 = .ok (.invokevirtual 328, 3) := by decide +kernel
theorem dX12_areAlike_47 : decode cX12_areAlike 47 = .ok (.if_icmp .eq 5, 3) := by decide +kernel
theorem dX12_areAlike_50 : decode cX12_areAlike 50 = .ok (.iconst 0, 1) := by decide +kernel
theorem dX12_areAlike_51 : decode cX12_areAlike 51 = .ok (.ireturn, 1) := by decide +kernel
theorem dX12_areAlike_52 : decode cX12_areAlike 52 = .ok (.iinc 4 1, 3) := by decide +kernel
theorem dX12_areAlike_55 : decode cX12_areAlike 55 = .ok (.goto (-52), 3) := by decide +kernel
theorem dX12_areAlike_58 : decode cX12_areAlike 58 = .ok (.iconst 1, 1) := by decide +kernel
theorem dX12_areAlike_59 : decode cX12_areAlike 59 = .ok (.ireturn, 1) := by decide +kernel
theorem dX12_tellsApart_0 : decode cX12_tellsApart 0 = .ok (.iconst 0, 1) := by decide +kernel
theorem dX12_tellsApart_1 : decode cX12_tellsApart 1 = .ok (.istore_n 2, 1) := by decide +kernel
theorem dX12_tellsApart_2 : decode cX12_tellsApart 2 = .ok (.iload_n 2, 1) := by decide +kernel
theorem dX12_tellsApart_3 : decode cX12_tellsApart 3 = .ok (.aload_n 0, 1) := by decide +kernel
theorem dX12_tellsApart_4 : decode cX12_tellsApart 4 = .ok (.getfield 162, 3) := by decide +kernel
theorem dX12_tellsApart_7 : decode cX12_tellsApart 7 = .ok (.if_icmp .ge 39, 3) := by decide +kernel
theorem dX12_tellsApart_10 : decode cX12_tellsApart 10 = .ok (.iload_n 2, 1) := by decide +kernel
theorem dX12_tellsApart_11 : decode cX12_tellsApart 11 = .ok (.iconst 1, 1) := by decide +kernel
theorem dX12_tellsApart_12 : decode cX12_tellsApart 12 = .ok (.iadd, 1) := by decide +kernel
theorem dX12_tellsApart_13 : decode cX12_tellsApart 13 = .ok (.istore_n 3, 1) := by decide +kernel
theorem dX12_tellsApart_14 : decode cX12_tellsApart 14 = .ok (.iload_n 3, 1) := by decide +kernel
theorem dX12_tellsApart_15 : decode cX12_tellsApart 15 = .ok (.aload_n 0, 1) := by decide +kernel
theorem dX12_tellsApart_16 : decode cX12_tellsApart 16 = .ok (.getfield 162, 3) := by decide +kernel
theorem dX12_tellsApart_19 : decode cX12_tellsApart 19 = .ok (.if_icmp .ge 21, 3) := by decide +kernel
theorem dX12_tellsApart_22 : decode cX12_tellsApart 22 = .ok (.aload_n 0, 1) := by decide +kernel
theorem dX12_tellsApart_23 : decode cX12_tellsApart 23 = .ok (.iload_n 2, 1) := by decide +kernel
theorem dX12_tellsApart_24 : decode cX12_tellsApart 24 = .ok (.iload_n 3, 1) := by decide +kernel
theorem dX12_tellsApart_25 : decode cX12_tellsApart 25 = .ok (.iload_n 1, 1) := by decide +kernel
theorem dX12_tellsApart_26 : decode cX12_tellsApart 26 = .ok (.invokevirtual 423, 3) := by decide +kernel
theorem dX12_tellsApart_29 : decode cX12_tellsApart 29 = .ok (.ifCond .eq 5, 3) := by decide +kernel
theorem dX12_tellsApart_32 : decode cX12_tellsApart 32 = .ok (.iconst 0, 1) := by decide +kernel
theorem dX12_tellsApart_33 : decode cX12_tellsApart 33 = .ok (.ireturn, 1) := by decide +kernel
theorem dX12_tellsApart_34 : decode cX12_tellsApart 34 = .ok (.iinc 3 1, 3) := by decide +kernel
theorem dX12_tellsApart_37 : decode cX12_tellsApart 37 = .ok (.goto (-23), 3) := by decide +kernel
theorem dX12_tellsApart_40 : decode cX12_tellsApart 40 = .ok (.iinc 2 1, 3) := by decide +kernel
theorem dX12_tellsApart_43 : decode cX12_tellsApart 43 = .ok (.goto (-41), 3) := by decide +kernel
theorem dX12_tellsApart_46 : decode cX12_tellsApart 46 = .ok (.iconst 1, 1) := by decide +kernel
theorem dX12_tellsApart_47 : decode cX12_tellsApart 47 = .ok (.ireturn, 1) := by decide +kernel
theorem dX12_bitsOf_0 : decode cX12_bitsOf 0 = .ok (.iconst 0, 1) := by decide +kernel
theorem dX12_bitsOf_1 : decode cX12_bitsOf 1 = .ok (.istore_n 1, 1) := by decide +kernel
theorem dX12_bitsOf_2 : decode cX12_bitsOf 2 = .ok (.iload_n 0, 1) := by decide +kernel
theorem dX12_bitsOf_3 : decode cX12_bitsOf 3 = .ok (.istore_n 2, 1) := by decide +kernel
theorem dX12_bitsOf_4 : decode cX12_bitsOf 4 = .ok (.iload_n 2, 1) := by decide +kernel
theorem dX12_bitsOf_5 : decode cX12_bitsOf 5 = .ok (.ifCond .eq 15, 3) := by decide +kernel
theorem dX12_bitsOf_8 : decode cX12_bitsOf 8 = .ok (.iinc 1 1, 3) := by decide +kernel
theorem dX12_bitsOf_11 : decode cX12_bitsOf 11 = .ok (.iload_n 2, 1) := by decide +kernel
theorem dX12_bitsOf_12 : decode cX12_bitsOf 12 = .ok (.iload_n 2, 1) := by decide +kernel
theorem dX12_bitsOf_13 : decode cX12_bitsOf 13 = .ok (.iconst 1, 1) := by decide +kernel
theorem dX12_bitsOf_14 : decode cX12_bitsOf 14 = .ok (.isub, 1) := by decide +kernel
theorem dX12_bitsOf_15 : decode cX12_bitsOf 15 = .ok (.iand, 1) := by decide +kernel
theorem dX12_bitsOf_16 : decode cX12_bitsOf 16 = .ok (.istore_n 2, 1) := by decide +kernel
theorem dX12_bitsOf_17 : decode cX12_bitsOf 17 = .ok (.goto (-13), 3) := by decide +kernel
theorem dX12_bitsOf_20 : decode cX12_bitsOf 20 = .ok (.iload_n 1, 1) := by decide +kernel
theorem dX12_bitsOf_21 : decode cX12_bitsOf 21 = .ok (.ireturn, 1) := by decide +kernel
theorem dX12_tellApart_0 : decode cX12_tellApart 0 = .ok (.aload_n 0, 1) := by decide +kernel
theorem dX12_tellApart_1 : decode cX12_tellApart 1 = .ok (.iconst 0, 1) := by decide +kernel
theorem dX12_tellApart_2 : decode cX12_tellApart 2 = .ok (.putfield 159, 3) := by decide +kernel
theorem dX12_tellApart_5 : decode cX12_tellApart 5 = .ok (.iconst (-1), 1) := by decide +kernel
theorem dX12_tellApart_6 : decode cX12_tellApart 6 = .ok (.istore_n 1, 1) := by decide +kernel
theorem dX12_tellApart_7 : decode cX12_tellApart 7 = .ok (.iconst 0, 1) := by decide +kernel
theorem dX12_tellApart_8 : decode cX12_tellApart 8 = .ok (.istore_n 2, 1) := by decide +kernel
theorem dX12_tellApart_9 : decode cX12_tellApart 9 = .ok (.iload_n 2, 1) := by decide +kernel
theorem dX12_tellApart_10 : decode cX12_tellApart 10 = .ok (.iconst 1, 1) := by decide +kernel
theorem dX12_tellApart_11 : decode cX12_tellApart 11 = .ok (.aload_n 0, 1) := by decide +kernel
theorem dX12_tellApart_12 : decode cX12_tellApart 12 = .ok (.getfield 47, 3) := by decide +kernel
theorem dX12_tellApart_15 : decode cX12_tellApart 15 = .ok (.iconst 1, 1) := by decide +kernel
theorem dX12_tellApart_16 : decode cX12_tellApart 16 = .ok (.iaload, 1) := by decide +kernel
theorem dX12_tellApart_17 : decode cX12_tellApart 17 = .ok (.ishl, 1) := by decide +kernel
theorem dX12_tellApart_18 : decode cX12_tellApart 18 = .ok (.if_icmp .ge 35, 3) := by decide +kernel
theorem dX12_tellApart_21 : decode cX12_tellApart 21 = .ok (.iload_n 1, 1) := by decide +kernel
theorem dX12_tellApart_22 : decode cX12_tellApart 22 = .ok (.iconst (-1), 1) := by decide +kernel
theorem dX12_tellApart_23 : decode cX12_tellApart 23 = .ok (.if_icmp .eq 14, 3) := by decide +kernel
theorem dX12_tellApart_26 : decode cX12_tellApart 26 = .ok (.iload_n 2, 1) := by decide +kernel
theorem dX12_tellApart_27 : decode cX12_tellApart 27 = .ok (.invokestatic 427, 3) := by decide +kernel
theorem dX12_tellApart_30 : decode cX12_tellApart 30 = .ok (.iload_n 1, 1) := by decide +kernel
theorem dX12_tellApart_31 : decode cX12_tellApart 31 = .ok (.invokestatic 427, 3) := by decide +kernel
theorem dX12_tellApart_34 : decode cX12_tellApart 34 = .ok (.if_icmp .ge 13, 3) := by decide +kernel
theorem dX12_tellApart_37 : decode cX12_tellApart 37 = .ok (.aload_n 0, 1) := by decide +kernel
theorem dX12_tellApart_38 : decode cX12_tellApart 38 = .ok (.iload_n 2, 1) := by decide +kernel
theorem dX12_tellApart_39 : decode cX12_tellApart 39 = .ok (.invokevirtual 430, 3) := by decide +kernel
theorem dX12_tellApart_42 : decode cX12_tellApart 42 = .ok (.ifCond .eq 5, 3) := by decide +kernel
theorem dX12_tellApart_45 : decode cX12_tellApart 45 = .ok (.iload_n 2, 1) := by decide +kernel
theorem dX12_tellApart_46 : decode cX12_tellApart 46 = .ok (.istore_n 1, 1) := by decide +kernel
theorem dX12_tellApart_47 : decode cX12_tellApart 47 = .ok (.iinc 2 1, 3) := by decide +kernel
theorem dX12_tellApart_50 : decode cX12_tellApart 50 = .ok (.goto (-41), 3) := by decide +kernel
theorem dX12_tellApart_53 : decode cX12_tellApart 53 = .ok (.iload_n 1, 1) := by decide +kernel
theorem dX12_tellApart_54 : decode cX12_tellApart 54 = .ok (.ireturn, 1) := by decide +kernel
theorem dX12_isNew_0 : decode cX12_isNew 0 = .ok (.aload_n 0, 1) := by decide +kernel
theorem dX12_isNew_1 : decode cX12_isNew 1 = .ok (.iload_n 1, 1) := by decide +kernel
theorem dX12_isNew_2 : decode cX12_isNew 2 = .ok (.invokevirtual 386, 3) := by decide +kernel
theorem dX12_isNew_5 : decode cX12_isNew 5 = .ok (.iconst (-1), 1) := by decide +kernel
theorem dX12_isNew_6 : decode cX12_isNew 6 = .ok (.if_icmp .eq 5, 3) := by decide +kernel
theorem dX12_isNew_9 : decode cX12_isNew 9 = .ok (.iconst 0, 1) := by decide +kernel
theorem dX12_isNew_10 : decode cX12_isNew 10 = .ok (.ireturn, 1) := by decide +kernel
theorem dX12_isNew_11 : decode cX12_isNew 11 = .ok (.iconst 0, 1) := by decide +kernel
theorem dX12_isNew_12 : decode cX12_isNew 12 = .ok (.istore_n 3, 1) := by decide +kernel
theorem dX12_isNew_13 : decode cX12_isNew 13 = .ok (.iload_n 3, 1) := by decide +kernel
theorem dX12_isNew_14 : decode cX12_isNew 14 = .ok (.aload_n 0, 1) := by decide +kernel
theorem dX12_isNew_15 : decode cX12_isNew 15 = .ok (.getfield 47, 3) := by decide +kernel
theorem dX12_isNew_18 : decode cX12_isNew 18 = .ok (.iconst 1, 1) := by decide +kernel
theorem dX12_isNew_19 : decode cX12_isNew 19 = .ok (.iaload, 1) := by decide +kernel
theorem dX12_isNew_20 : decode cX12_isNew 20 = .ok (.if_icmp .ge 73, 3) := by decide +kernel
theorem dX12_isNew_23 : decode cX12_isNew 23 = .ok (.iload_n 2, 1) := by decide +kernel
theorem dX12_isNew_24 : decode cX12_isNew 24 = .ok (.iload_n 3, 1) := by decide +kernel
theorem dX12_isNew_25 : decode cX12_isNew 25 = .ok (.invokestatic 318, 3) := by decide +kernel
theorem dX12_isNew_28 : decode cX12_isNew 28 = .ok (.ifCond .eq 18, 3) := by decide +kernel
theorem dX12_isNew_31 : decode cX12_isNew 31 = .ok (.aload_n 0, 1) := by decide +kernel
theorem dX12_isNew_32 : decode cX12_isNew 32 = .ok (.getfield 63, 3) := by decide +kernel
theorem dX12_isNew_35 : decode cX12_isNew 35 = .ok (.iload_n 3, 1) := by decide +kernel
theorem dX12_isNew_36 : decode cX12_isNew 36 = .ok (.iaload, 1) := by decide +kernel
theorem dX12_isNew_37 : decode cX12_isNew 37 = .ok (.iload_n 1, 1) := by decide +kernel
theorem dX12_isNew_38 : decode cX12_isNew 38 = .ok (.invokestatic 325, 3) := by decide +kernel
theorem dX12_isNew_41 : decode cX12_isNew 41 = .ok (.ifCond .ne 5, 3) := by decide +kernel
theorem dX12_isNew_44 : decode cX12_isNew 44 = .ok (.iconst 0, 1) := by decide +kernel
theorem dX12_isNew_45 : decode cX12_isNew 45 = .ok (.ireturn, 1) := by decide +kernel
theorem dX12_isNew_46 : decode cX12_isNew 46 = .ok (.iconst 0, 1) := by decide +kernel
theorem dX12_isNew_47 : decode cX12_isNew 47 = .ok (.istore 4, 2) := by decide +kernel
theorem dX12_isNew_49 : decode cX12_isNew 49 = .ok (.iload 4, 2) := by decide +kernel
theorem dX12_isNew_51 : decode cX12_isNew 51 = .ok (.aload_n 0, 1) := by decide +kernel
theorem dX12_isNew_52 : decode cX12_isNew 52 = .ok (.getfield 162, 3) := by decide +kernel
theorem dX12_isNew_55 : decode cX12_isNew 55 = .ok (.if_icmp .ge 32, 3) := by decide +kernel
theorem dX12_isNew_58 : decode cX12_isNew 58 = .ok (.aload_n 0, 1) := by decide +kernel
theorem dX12_isNew_59 : decode cX12_isNew 59 = .ok (.iload_n 3, 1) := by decide +kernel
theorem dX12_isNew_60 : decode cX12_isNew 60 = .ok (.iload_n 1, 1) := by decide +kernel
theorem dX12_isNew_61 : decode cX12_isNew 61 = .ok (.invokevirtual 328, 3) := by decide +kernel
theorem dX12_isNew_64 : decode cX12_isNew 64 = .ok (.aload_n 0, 1) := by decide +kernel
theorem dX12_isNew_65 : decode cX12_isNew 65 = .ok (.iload_n 3, 1) := by decide +kernel
theorem dX12_isNew_66 : decode cX12_isNew 66 = .ok (.aload_n 0, 1) := by decide +kernel
theorem dX12_isNew_67 : decode cX12_isNew 67 = .ok (.getfield 79, 3) := by decide +kernel
theorem dX12_isNew_70 : decode cX12_isNew 70 = .ok (.iload 4, 2) := by decide +kernel
theorem dX12_isNew_72 : decode cX12_isNew 72 = .ok (.iaload, 1) := by decide +kernel
theorem dX12_isNew_73 : decode cX12_isNew 73 = .ok (.invokevirtual 328, 3) := by decide +kernel
theorem dX12_isNew_76 : decode cX12_isNew 76 = .ok (.if_icmp .ne 5, 3) := by decide +kernel
theorem dX12_isNew_79 : decode cX12_isNew 79 = .ok (.iconst 0, 1) := by decide +kernel
theorem dX12_isNew_80 : decode cX12_isNew 80 = .ok (.ireturn, 1) := by decide +kernel
theorem dX12_isNew_81 : decode cX12_isNew 81 = .ok (.iinc 4 1, 3) := by decide +kernel
theorem dX12_isNew_84 : decode cX12_isNew 84 = .ok (.goto (-35), 3) := by decide +kernel
theorem dX12_isNew_87 : decode cX12_isNew 87 = .ok (.iinc 3 1, 3) := by decide +kernel
theorem dX12_isNew_90 : decode cX12_isNew 90 = .ok (.goto (-77), 3) := by decide +kernel
theorem dX12_isNew_93 : decode cX12_isNew 93 = .ok (.iconst 1, 1) := by decide +kernel
theorem dX12_isNew_94 : decode cX12_isNew 94 = .ok (.ireturn, 1) := by decide +kernel
theorem dX12_newWord_0 : decode cX12_newWord 0 = .ok (.aload_n 0, 1) := by decide +kernel
theorem dX12_newWord_1 : decode cX12_newWord 1 = .ok (.iconst 0, 1) := by decide +kernel
theorem dX12_newWord_2 : decode cX12_newWord 2 = .ok (.putfield 159, 3) := by decide +kernel
theorem dX12_newWord_5 : decode cX12_newWord 5 = .ok (.iload_n 1, 1) := by decide +kernel
theorem dX12_newWord_6 : decode cX12_newWord 6 = .ok (.i2l, 1) := by decide +kernel
theorem dX12_newWord_7 : decode cX12_newWord 7 = .ok (.lconst 0, 1) := by decide +kernel
theorem dX12_newWord_8 : decode cX12_newWord 8 = .ok (.iconst 1, 1) := by decide +kernel
theorem dX12_newWord_9 : decode cX12_newWord 9 = .ok (.aload_n 0, 1) := by decide +kernel
theorem dX12_newWord_10 : decode cX12_newWord 10 = .ok (.getfield 47, 3) := by decide +kernel
theorem dX12_newWord_13 : decode cX12_newWord 13 = .ok (.iconst 1, 1) := by decide +kernel
theorem dX12_newWord_14 : decode cX12_newWord 14 = .ok (.iaload, 1) := by decide +kernel
theorem dX12_newWord_15 : decode cX12_newWord 15 = .ok (.ishl, 1) := by decide +kernel
theorem dX12_newWord_16 : decode cX12_newWord 16 = .ok (.iconst 1, 1) := by decide +kernel
theorem dX12_newWord_17 : decode cX12_newWord 17 = .ok (.isub, 1) := by decide +kernel
theorem dX12_newWord_18 : decode cX12_newWord 18 = .ok (.i2l, 1) := by decide +kernel
theorem dX12_newWord_19 : decode cX12_newWord 19 = .ok (.invokestatic 165, 3) := by decide +kernel
theorem dX12_newWord_22 : decode cX12_newWord 22 = .ok (.ifCond .ne 9, 3) := by decide +kernel
theorem dX12_newWord_25 : decode cX12_newWord 25 = .ok (.aload_n 0, 1) := by decide +kernel
theorem dX12_newWord_26 : decode cX12_newWord 26 = .ok (.iconst 1, 1) := by decide +kernel
theorem dX12_newWord_27 : decode cX12_newWord 27 = .ok (.invokevirtual 292, 3) := by decide +kernel
theorem dX12_newWord_30 : decode cX12_newWord 30 = .ok (.ireturn, 1) := by decide +kernel
theorem dX12_newWord_31 : decode cX12_newWord 31 = .ok (.iconst 1, 1) := by decide +kernel
theorem dX12_newWord_32 : decode cX12_newWord 32 = .ok (.istore_n 2, 1) := by decide +kernel
theorem dX12_newWord_33 : decode cX12_newWord 33 = .ok (.iload_n 2, 1) := by decide +kernel
theorem dX12_newWord_34 : decode cX12_newWord 34 = .ok (.iconst 4, 1) := by decide +kernel
theorem dX12_newWord_35 : decode cX12_newWord 35 = .ok (.invokestatic 408, 3) := by decide +kernel
theorem dX12_newWord_38 : decode cX12_newWord 38 = .ok (.if_icmp .ge 27, 3) := by decide +kernel
theorem dX12_newWord_41 : decode cX12_newWord 41 = .ok (.iload_n 2, 1) := by decide +kernel
theorem dX12_newWord_42 : decode cX12_newWord 42 = .ok (.invokestatic 345, 3) := by decide +kernel
theorem dX12_newWord_45 : decode cX12_newWord 45 = .ok (.ifCond .eq 14, 3) := by decide +kernel
theorem dX12_newWord_48 : decode cX12_newWord 48 = .ok (.aload_n 0, 1) := by decide +kernel
theorem dX12_newWord_49 : decode cX12_newWord 49 = .ok (.iload_n 2, 1) := by decide +kernel
theorem dX12_newWord_50 : decode cX12_newWord 50 = .ok (.iload_n 1, 1) := by decide +kernel
theorem dX12_newWord_51 : decode cX12_newWord 51 = .ok (.invokevirtual 433, 3) := by decide +kernel
theorem dX12_newWord_54 : decode cX12_newWord 54 = .ok (.ifCond .eq 5, 3) := by decide +kernel
theorem dX12_newWord_57 : decode cX12_newWord 57 = .ok (.iload_n 2, 1) := by decide +kernel
theorem dX12_newWord_58 : decode cX12_newWord 58 = .ok (.ireturn, 1) := by decide +kernel
theorem dX12_newWord_59 : decode cX12_newWord 59 = .ok (.iinc 2 1, 3) := by decide +kernel
theorem dX12_newWord_62 : decode cX12_newWord 62 = .ok (.goto (-29), 3) := by decide +kernel
theorem dX12_newWord_65 : decode cX12_newWord 65 = .ok (.iconst (-1), 1) := by decide +kernel
theorem dX12_newWord_66 : decode cX12_newWord 66 = .ok (.ireturn, 1) := by decide +kernel
theorem dX12_span_0 : decode cX12_span 0 = .ok (.aload_n 0, 1) := by decide +kernel
theorem dX12_span_1 : decode cX12_span 1 = .ok (.iconst 0, 1) := by decide +kernel
theorem dX12_span_2 : decode cX12_span 2 = .ok (.putfield 159, 3) := by decide +kernel
theorem dX12_span_5 : decode cX12_span 5 = .ok (.aload_n 0, 1) := by decide +kernel
theorem dX12_span_6 : decode cX12_span 6 = .ok (.iload_n 1, 1) := by decide +kernel
theorem dX12_span_7 : decode cX12_span 7 = .ok (.invokevirtual 331, 3) := by decide +kernel
theorem dX12_span_10 : decode cX12_span 10 = .ok (.ifCond .eq 30, 3) := by decide +kernel
theorem dX12_span_13 : decode cX12_span 13 = .ok (.aload_n 0, 1) := by decide +kernel
theorem dX12_span_14 : decode cX12_span 14 = .ok (.iload_n 2, 1) := by decide +kernel
theorem dX12_span_15 : decode cX12_span 15 = .ok (.invokevirtual 331, 3) := by decide +kernel
theorem dX12_span_18 : decode cX12_span 18 = .ok (.ifCond .eq 22, 3) := by decide +kernel
theorem dX12_span_21 : decode cX12_span 21 = .ok (.aload_n 0, 1) := by decide +kernel
theorem dX12_span_22 : decode cX12_span 22 = .ok (.aload_n 0, 1) := by decide +kernel
theorem dX12_span_23 : decode cX12_span 23 = .ok (.getfield 79, 3) := by decide +kernel
theorem dX12_span_26 : decode cX12_span 26 = .ok (.iload_n 1, 1) := by decide +kernel
theorem dX12_span_27 : decode cX12_span 27 = .ok (.iaload, 1) := by decide +kernel
theorem dX12_span_28 : decode cX12_span 28 = .ok (.aload_n 0, 1) := by decide +kernel
theorem dX12_span_29 : decode cX12_span 29 = .ok (.getfield 79, 3) := by decide +kernel
theorem dX12_span_32 : decode cX12_span 32 = .ok (.iload_n 2, 1) := by decide +kernel
theorem dX12_span_33 : decode cX12_span 33 = .ok (.iaload, 1) := by decide +kernel
theorem dX12_span_34 : decode cX12_span 34 = .ok (.invokevirtual 376, 3) := by decide +kernel
theorem dX12_span_37 : decode cX12_span 37 = .ok (.goto 8, 3) := by decide +kernel
theorem dX12_span_40 : decode cX12_span 40 = .ok (.aload_n 0, 1) := by decide +kernel
theorem dX12_span_41 : decode cX12_span 41 = .ok (.iconst 1, 1) := by decide +kernel
theorem dX12_span_42 : decode cX12_span 42 = .ok (.invokevirtual 292, 3) := by decide +kernel
theorem dX12_span_45 : decode cX12_span 45 = .ok (.ireturn, 1) := by decide +kernel
theorem dX12_closest_0 : decode cX12_closest 0 = .ok (.aload_n 0, 1) := by decide +kernel
theorem dX12_closest_1 : decode cX12_closest 1 = .ok (.iconst 0, 1) := by decide +kernel
theorem dX12_closest_2 : decode cX12_closest 2 = .ok (.putfield 159, 3) := by decide +kernel
theorem dX12_closest_5 : decode cX12_closest 5 = .ok (.iload_n 1, 1) := by decide +kernel
theorem dX12_closest_6 : decode cX12_closest 6 = .ok (.ifCond .lt 8, 3) := by decide +kernel
theorem dX12_closest_9 : decode cX12_closest 9 = .ok (.iload_n 1, 1) := by decide +kernel
theorem dX12_closest_10 : decode cX12_closest 10 = .ok (.iconst 1, 1) := by decide +kernel
theorem dX12_closest_11 : decode cX12_closest 11 = .ok (.if_icmp .le 9, 3) := by decide +kernel
theorem dX12_closest_14 : decode cX12_closest 14 = .ok (.aload_n 0, 1) := by decide +kernel
theorem dX12_closest_15 : decode cX12_closest 15 = .ok (.iconst 1, 1) := by decide +kernel
theorem dX12_closest_16 : decode cX12_closest 16 = .ok (.invokevirtual 292, 3) := by decide +kernel
theorem dX12_closest_19 : decode cX12_closest 19 = .ok (.ireturn, 1) := by decide +kernel
theorem dX12_closest_20 : decode cX12_closest 20 = .ok (.iconst (-1), 1) := by decide +kernel
theorem dX12_closest_21 : decode cX12_closest 21 = .ok (.istore_n 2, 1) := by decide +kernel
theorem dX12_closest_22 : decode cX12_closest 22 = .ok (.ldc 199, 2) := by decide +kernel
theorem dX12_closest_24 : decode cX12_closest 24 = .ok (.istore_n 3, 1) := by decide +kernel
theorem dX12_closest_25 : decode cX12_closest 25 = .ok (.iconst 0, 1) := by decide +kernel
theorem dX12_closest_26 : decode cX12_closest 26 = .ok (.istore 4, 2) := by decide +kernel
theorem dX12_closest_28 : decode cX12_closest 28 = .ok (.iload 4, 2) := by decide +kernel
theorem dX12_closest_30 : decode cX12_closest 30 = .ok (.aload_n 0, 1) := by decide +kernel
theorem dX12_closest_31 : decode cX12_closest 31 = .ok (.getfield 162, 3) := by decide +kernel
theorem dX12_closest_34 : decode cX12_closest 34 = .ok (.if_icmp .ge 71, 3) := by decide +kernel
theorem dX12_closest_37 : decode cX12_closest 37 = .ok (.iload 4, 2) := by decide +kernel
theorem dX12_closest_39 : decode cX12_closest 39 = .ok (.iconst 1, 1) := by decide +kernel
theorem dX12_closest_40 : decode cX12_closest 40 = .ok (.iadd, 1) := by decide +kernel
theorem dX12_closest_41 : decode cX12_closest 41 = .ok (.istore 5, 2) := by decide +kernel
theorem dX12_closest_43 : decode cX12_closest 43 = .ok (.iload 5, 2) := by decide +kernel
theorem dX12_closest_45 : decode cX12_closest 45 = .ok (.aload_n 0, 1) := by decide +kernel
theorem dX12_closest_46 : decode cX12_closest 46 = .ok (.getfield 162, 3) := by decide +kernel
theorem dX12_closest_49 : decode cX12_closest 49 = .ok (.if_icmp .ge 50, 3) := by decide +kernel
theorem dX12_closest_52 : decode cX12_closest 52 = .ok (.aload_n 0, 1) := by decide +kernel
theorem dX12_closest_53 : decode cX12_closest 53 = .ok (.aload_n 0, 1) := by decide +kernel
theorem dX12_closest_54 : decode cX12_closest 54 = .ok (.getfield 79, 3) := by decide +kernel
theorem dX12_closest_57 : decode cX12_closest 57 = .ok (.iload 4, 2) := by decide +kernel
theorem dX12_closest_59 : decode cX12_closest 59 = .ok (.iaload, 1) := by decide +kernel
theorem dX12_closest_60 : decode cX12_closest 60 = .ok (.aload_n 0, 1) := by decide +kernel
theorem dX12_closest_61 : decode cX12_closest 61 = .ok (.getfield 79, 3) := by decide +kernel
theorem dX12_closest_64 : decode cX12_closest 64 = .ok (.iload 5, 2) := by decide +kernel
theorem dX12_closest_66 : decode cX12_closest 66 = .ok (.iaload, 1) := by decide +kernel
theorem dX12_closest_67 : decode cX12_closest 67 = .ok (.invokevirtual 376, 3) := by decide +kernel
theorem dX12_closest_70 : decode cX12_closest 70 = .ok (.istore 6, 2) := by decide +kernel
theorem dX12_closest_72 : decode cX12_closest 72 = .ok (.iload 6, 2) := by decide +kernel
theorem dX12_closest_74 : decode cX12_closest 74 = .ok (.iload_n 3, 1) := by decide +kernel
theorem dX12_closest_75 : decode cX12_closest 75 = .ok (.if_icmp .lt 6, 3) := by decide +kernel
theorem dX12_closest_78 : decode cX12_closest 78 = .ok (.goto 15, 3) := by decide +kernel
theorem dX12_closest_81 : decode cX12_closest 81 = .ok (.bipush 10, 2) := by decide +kernel
theorem dX12_closest_83 : decode cX12_closest 83 = .ok (.iload 4, 2) := by decide +kernel
theorem dX12_closest_85 : decode cX12_closest 85 = .ok (.imul, 1) := by decide +kernel
theorem dX12_closest_86 : decode cX12_closest 86 = .ok (.iload 5, 2) := by decide +kernel
theorem dX12_closest_88 : decode cX12_closest 88 = .ok (.iadd, 1) := by decide +kernel
theorem dX12_closest_89 : decode cX12_closest 89 = .ok (.istore_n 2, 1) := by decide +kernel
theorem dX12_closest_90 : decode cX12_closest 90 = .ok (.iload 6, 2) := by decide +kernel
theorem dX12_closest_92 : decode cX12_closest 92 = .ok (.istore_n 3, 1) := by decide +kernel
theorem dX12_closest_93 : decode cX12_closest 93 = .ok (.iinc 5 1, 3) := by decide +kernel
theorem dX12_closest_96 : decode cX12_closest 96 = .ok (.goto (-53), 3) := by decide +kernel
theorem dX12_closest_99 : decode cX12_closest 99 = .ok (.iinc 4 1, 3) := by decide +kernel
theorem dX12_closest_102 : decode cX12_closest 102 = .ok (.goto (-74), 3) := by decide +kernel
theorem dX12_closest_105 : decode cX12_closest 105 = .ok (.iload_n 1, 1) := by decide +kernel
theorem dX12_closest_106 : decode cX12_closest 106 = .ok (.iconst 1, 1) := by decide +kernel
theorem dX12_closest_107 : decode cX12_closest 107 = .ok (.if_icmp .eq 8, 3) := by decide +kernel
theorem dX12_closest_110 : decode cX12_closest 110 = .ok (.iload_n 2, 1) := by decide +kernel
theorem dX12_closest_111 : decode cX12_closest 111 = .ok (.iconst (-1), 1) := by decide +kernel
theorem dX12_closest_112 : decode cX12_closest 112 = .ok (.if_icmp .ne 7, 3) := by decide +kernel
theorem dX12_closest_115 : decode cX12_closest 115 = .ok (.iload_n 2, 1) := by decide +kernel
theorem dX12_closest_116 : decode cX12_closest 116 = .ok (.goto 4, 3) := by decide +kernel
theorem dX12_closest_119 : decode cX12_closest 119 = .ok (.iload_n 3, 1) := by decide +kernel
theorem dX12_closest_120 : decode cX12_closest 120 = .ok (.ireturn, 1) := by decide +kernel
theorem dX12_said_0 : decode cX12_said 0 = .ok (.aload_n 0, 1) := by decide +kernel
theorem dX12_said_1 : decode cX12_said 1 = .ok (.iconst 0, 1) := by decide +kernel
theorem dX12_said_2 : decode cX12_said 2 = .ok (.putfield 159, 3) := by decide +kernel
theorem dX12_said_5 : decode cX12_said 5 = .ok (.iload_n 1, 1) := by decide +kernel
theorem dX12_said_6 : decode cX12_said 6 = .ok (.i2l, 1) := by decide +kernel
theorem dX12_said_7 : decode cX12_said 7 = .ok (.lconst 0, 1) := by decide +kernel
theorem dX12_said_8 : decode cX12_said 8 = .ok (.ldc2_w 436, 3) := by decide +kernel
theorem dX12_said_11 : decode cX12_said 11 = .ok (.invokestatic 165, 3) := by decide +kernel
theorem dX12_said_14 : decode cX12_said 14 = .ok (.ifCond .ne 9, 3) := by decide +kernel
theorem dX12_said_17 : decode cX12_said 17 = .ok (.aload_n 0, 1) := by decide +kernel
theorem dX12_said_18 : decode cX12_said 18 = .ok (.iconst 1, 1) := by decide +kernel
theorem dX12_said_19 : decode cX12_said 19 = .ok (.invokevirtual 292, 3) := by decide +kernel
theorem dX12_said_22 : decode cX12_said 22 = .ok (.ireturn, 1) := by decide +kernel
theorem dX12_said_23 : decode cX12_said 23 = .ok (.iconst 0, 1) := by decide +kernel
theorem dX12_said_24 : decode cX12_said 24 = .ok (.istore_n 2, 1) := by decide +kernel
theorem dX12_said_25 : decode cX12_said 25 = .ok (.iconst 0, 1) := by decide +kernel
theorem dX12_said_26 : decode cX12_said 26 = .ok (.istore_n 3, 1) := by decide +kernel
theorem dX12_said_27 : decode cX12_said 27 = .ok (.iload_n 3, 1) := by decide +kernel
theorem dX12_said_28 : decode cX12_said 28 = .ok (.iload_n 1, 1) := by decide +kernel
theorem dX12_said_29 : decode cX12_said 29 = .ok (.if_icmp .gt 158, 3) := by decide +kernel
theorem dX12_said_32 : decode cX12_said 32 = .ok (.iconst 0, 1) := by decide +kernel
theorem dX12_said_33 : decode cX12_said 33 = .ok (.istore 4, 2) := by decide +kernel
theorem dX12_said_35 : decode cX12_said 35 = .ok (.iload 4, 2) := by decide +kernel
theorem dX12_said_37 : decode cX12_said 37 = .ok (.aload_n 0, 1) := by decide +kernel
theorem dX12_said_38 : decode cX12_said 38 = .ok (.getfield 162, 3) := by decide +kernel
theorem dX12_said_41 : decode cX12_said 41 = .ok (.if_icmp .ge 140, 3) := by decide +kernel
theorem dX12_said_44 : decode cX12_said 44 = .ok (.iload_n 3, 1) := by decide +kernel
theorem dX12_said_45 : decode cX12_said 45 = .ok (.aload_n 0, 1) := by decide +kernel
theorem dX12_said_46 : decode cX12_said 46 = .ok (.getfield 79, 3) := by decide +kernel
theorem dX12_said_49 : decode cX12_said 49 = .ok (.iload 4, 2) := by decide +kernel
theorem dX12_said_51 : decode cX12_said 51 = .ok (.iaload, 1) := by decide +kernel
theorem dX12_said_52 : decode cX12_said 52 = .ok (.invokestatic 322, 3) := by decide +kernel
theorem dX12_said_55 : decode cX12_said 55 = .ok (.isub, 1) := by decide +kernel
theorem dX12_said_56 : decode cX12_said 56 = .ok (.istore 5, 2) := by decide +kernel
theorem dX12_said_58 : decode cX12_said 58 = .ok (.iload 5, 2) := by decide +kernel
theorem dX12_said_60 : decode cX12_said 60 = .ok (.ifCond .ne 13, 3) := by decide +kernel
theorem dX12_said_63 : decode cX12_said 63 = .ok (.aload_n 0, 1) := by decide +kernel
theorem dX12_said_64 : decode cX12_said 64 = .ok (.getfield 85, 3) := by decide +kernel
theorem dX12_said_67 : decode cX12_said 67 = .ok (.iload 4, 2) := by decide +kernel
theorem dX12_said_69 : decode cX12_said 69 = .ok (.iaload, 1) := by decide +kernel
theorem dX12_said_70 : decode cX12_said 70 = .ok (.goto 4, 3) := by decide +kernel
theorem dX12_said_73 : decode cX12_said 73 = .ok (.iconst (-1), 1) := by decide +kernel
theorem dX12_said_74 : decode cX12_said 74 = .ok (.istore 6, 2) := by decide +kernel
theorem dX12_said_76 : decode cX12_said 76 = .ok (.iconst 0, 1) := by decide +kernel
theorem dX12_said_77 : decode cX12_said 77 = .ok (.istore 7, 2) := by decide +kernel
theorem dX12_said_79 : decode cX12_said 79 = .ok (.iload 7, 2) := by decide +kernel
theorem dX12_said_81 : decode cX12_said 81 = .ok (.aload_n 0, 1) := by decide +kernel
theorem dX12_said_82 : decode cX12_said 82 = .ok (.getfield 162, 3) := by decide +kernel
theorem dX12_said_85 : decode cX12_said 85 = .ok (.if_icmp .ge 69, 3) := by decide +kernel
theorem dX12_said_88 : decode cX12_said 88 = .ok (.iload 5, 2) := by decide +kernel
theorem dX12_said_90 : decode cX12_said 90 = .ok (.ifCond .le 64, 3) := by decide +kernel
theorem dX12_said_93 : decode cX12_said 93 = .ok (.aload_n 0, 1) := by decide +kernel
theorem dX12_said_94 : decode cX12_said 94 = .ok (.getfield 129, 3) := by decide +kernel
theorem dX12_said_97 : decode cX12_said 97 = .ok (.bipush 10, 2) := by decide +kernel
theorem dX12_said_99 : decode cX12_said 99 = .ok (.iload 5, 2) := by decide +kernel
theorem dX12_said_101 : decode cX12_said 101 = .ok (.imul, 1) := by decide +kernel
theorem dX12_said_102 : decode cX12_said 102 = .ok (.iload 7, 2) := by decide +kernel
theorem dX12_said_104 : decode cX12_said 104 = .ok (.iadd, 1) := by decide +kernel
theorem dX12_said_105 : decode cX12_said 105 = .ok (.iaload, 1) := by decide +kernel
theorem dX12_said_106 : decode cX12_said 106 = .ok (.ifCond .lt 42, 3) := by decide +kernel
theorem dX12_said_109 : decode cX12_said 109 = .ok (.aload_n 0, 1) := by decide +kernel
theorem dX12_said_110 : decode cX12_said 110 = .ok (.iload 7, 2) := by decide +kernel
theorem dX12_said_112 : decode cX12_said 112 = .ok (.iload 4, 2) := by decide +kernel
theorem dX12_said_114 : decode cX12_said 114 = .ok (.invokevirtual 364, 3) := by decide +kernel
theorem dX12_said_117 : decode cX12_said 117 = .ok (.ifCond .eq 31, 3) := by decide +kernel
theorem dX12_said_120 : decode cX12_said 120 = .ok (.iload 6, 2) := by decide +kernel
theorem dX12_said_122 : decode cX12_said 122 = .ok (.aload_n 0, 1) := by decide +kernel
theorem dX12_said_123 : decode cX12_said 123 = .ok (.getfield 129, 3) := by decide +kernel
theorem dX12_said_126 : decode cX12_said 126 = .ok (.bipush 10, 2) := by decide +kernel
theorem dX12_said_128 : decode cX12_said 128 = .ok (.iload 5, 2) := by decide +kernel
theorem dX12_said_130 : decode cX12_said 130 = .ok (.imul, 1) := by decide +kernel
theorem dX12_said_131 : decode cX12_said 131 = .ok (.iload 7, 2) := by decide +kernel
theorem dX12_said_133 : decode cX12_said 133 = .ok (.iadd, 1) := by decide +kernel
theorem dX12_said_134 : decode cX12_said 134 = .ok (.iaload, 1) := by decide +kernel
theorem dX12_said_135 : decode cX12_said 135 = .ok (.aload_n 0, 1) := by decide +kernel
theorem dX12_said_136 : decode cX12_said 136 = .ok (.getfield 85, 3) := by decide +kernel
theorem dX12_said_139 : decode cX12_said 139 = .ok (.iload 4, 2) := by decide +kernel
theorem dX12_said_141 : decode cX12_said 141 = .ok (.iaload, 1) := by decide +kernel
theorem dX12_said_142 : decode cX12_said 142 = .ok (.iadd, 1) := by decide +kernel
theorem dX12_said_143 : decode cX12_said 143 = .ok (.invokestatic 438, 3) := by decide +kernel
theorem dX12_said_146 : decode cX12_said 146 = .ok (.istore 6, 2) := by decide +kernel
theorem dX12_said_148 : decode cX12_said 148 = .ok (.iinc 7 1, 3) := by decide +kernel
theorem dX12_said_151 : decode cX12_said 151 = .ok (.goto (-72), 3) := by decide +kernel
theorem dX12_said_154 : decode cX12_said 154 = .ok (.aload_n 0, 1) := by decide +kernel
theorem dX12_said_155 : decode cX12_said 155 = .ok (.getfield 129, 3) := by decide +kernel
theorem dX12_said_158 : decode cX12_said 158 = .ok (.bipush 10, 2) := by decide +kernel
theorem dX12_said_160 : decode cX12_said 160 = .ok (.iload_n 3, 1) := by decide +kernel
theorem dX12_said_161 : decode cX12_said 161 = .ok (.imul, 1) := by decide +kernel
theorem dX12_said_162 : decode cX12_said 162 = .ok (.iload 4, 2) := by decide +kernel
theorem dX12_said_164 : decode cX12_said 164 = .ok (.iadd, 1) := by decide +kernel
theorem dX12_said_165 : decode cX12_said 165 = .ok (.iload 6, 2) := by decide +kernel
theorem dX12_said_167 : decode cX12_said 167 = .ok (.iastore, 1) := by decide +kernel
theorem dX12_said_168 : decode cX12_said 168 = .ok (.iload_n 2, 1) := by decide +kernel
theorem dX12_said_169 : decode cX12_said 169 = .ok (.iload 6, 2) := by decide +kernel
theorem dX12_said_171 : decode cX12_said 171 = .ok (.invokestatic 438, 3) := by decide +kernel
theorem dX12_said_174 : decode cX12_said 174 = .ok (.istore_n 2, 1) := by decide +kernel
theorem dX12_said_175 : decode cX12_said 175 = .ok (.iinc 4 1, 3) := by decide +kernel
theorem dX12_said_178 : decode cX12_said 178 = .ok (.goto (-143), 3) := by decide +kernel
theorem dX12_said_181 : decode cX12_said 181 = .ok (.iinc 3 1, 3) := by decide +kernel
theorem dX12_said_184 : decode cX12_said 184 = .ok (.goto (-157), 3) := by decide +kernel
theorem dX12_said_187 : decode cX12_said 187 = .ok (.iload_n 2, 1) := by decide +kernel
theorem dX12_said_188 : decode cX12_said 188 = .ok (.ireturn, 1) := by decide +kernel
theorem dX12_howMany_0 : decode cX12_howMany 0 = .ok (.aload_n 0, 1) := by decide +kernel
theorem dX12_howMany_1 : decode cX12_howMany 1 = .ok (.iconst 0, 1) := by decide +kernel
theorem dX12_howMany_2 : decode cX12_howMany 2 = .ok (.putfield 159, 3) := by decide +kernel
theorem dX12_howMany_5 : decode cX12_howMany 5 = .ok (.iload_n 1, 1) := by decide +kernel
theorem dX12_howMany_6 : decode cX12_howMany 6 = .ok (.i2l, 1) := by decide +kernel
theorem dX12_howMany_7 : decode cX12_howMany 7 = .ok (.lconst 1, 1) := by decide +kernel
theorem dX12_howMany_8 : decode cX12_howMany 8 = .ok (.ldc2_w 436, 3) := by decide +kernel
theorem dX12_howMany_11 : decode cX12_howMany 11 = .ok (.invokestatic 165, 3) := by decide +kernel
theorem dX12_howMany_14 : decode cX12_howMany 14 = .ok (.ifCond .ne 10, 3) := by decide +kernel
theorem dX12_howMany_17 : decode cX12_howMany 17 = .ok (.aload_n 0, 1) := by decide +kernel
theorem dX12_howMany_18 : decode cX12_howMany 18 = .ok (.iconst 1, 1) := by decide +kernel
theorem dX12_howMany_19 : decode cX12_howMany 19 = .ok (.invokevirtual 292, 3) := by decide +kernel
theorem dX12_howMany_22 : decode cX12_howMany 22 = .ok (.i2l, 1) := by decide +kernel
theorem dX12_howMany_23 : decode cX12_howMany 23 = .ok (.lreturn, 1) := by decide +kernel
theorem dX12_howMany_24 : decode cX12_howMany 24 = .ok (.lconst 0, 1) := by decide +kernel
theorem dX12_howMany_25 : decode cX12_howMany 25 = .ok (.lstore_n 2, 1) := by decide +kernel
theorem dX12_howMany_26 : decode cX12_howMany 26 = .ok (.iconst 1, 1) := by decide +kernel
theorem dX12_howMany_27 : decode cX12_howMany 27 = .ok (.istore 4, 2) := by decide +kernel
theorem dX12_howMany_29 : decode cX12_howMany 29 = .ok (.iload 4, 2) := by decide +kernel
theorem dX12_howMany_31 : decode cX12_howMany 31 = .ok (.iload_n 1, 1) := by decide +kernel
theorem dX12_howMany_32 : decode cX12_howMany 32 = .ok (.if_icmp .gt 136, 3) := by decide +kernel
theorem dX12_howMany_35 : decode cX12_howMany 35 = .ok (.iconst 0, 1) := by decide +kernel
theorem dX12_howMany_36 : decode cX12_howMany 36 = .ok (.istore 5, 2) := by decide +kernel
theorem dX12_howMany_38 : decode cX12_howMany 38 = .ok (.iload 5, 2) := by decide +kernel
theorem dX12_howMany_40 : decode cX12_howMany 40 = .ok (.aload_n 0, 1) := by decide +kernel
theorem dX12_howMany_41 : decode cX12_howMany 41 = .ok (.getfield 162, 3) := by decide +kernel
theorem dX12_howMany_44 : decode cX12_howMany 44 = .ok (.if_icmp .ge 118, 3) := by decide +kernel
theorem dX12_howMany_47 : decode cX12_howMany 47 = .ok (.iload 4, 2) := by decide +kernel
theorem dX12_howMany_49 : decode cX12_howMany 49 = .ok (.aload_n 0, 1) := by decide +kernel
theorem dX12_howMany_50 : decode cX12_howMany 50 = .ok (.getfield 79, 3) := by decide +kernel
theorem dX12_howMany_53 : decode cX12_howMany 53 = .ok (.iload 5, 2) := by decide +kernel
theorem dX12_howMany_55 : decode cX12_howMany 55 = .ok (.iaload, 1) := by decide +kernel
theorem dX12_howMany_56 : decode cX12_howMany 56 = .ok (.invokestatic 322, 3) := by decide +kernel
theorem dX12_howMany_59 : decode cX12_howMany 59 = .ok (.isub, 1) := by decide +kernel
theorem dX12_howMany_60 : decode cX12_howMany 60 = .ok (.istore 6, 2) := by decide +kernel
theorem dX12_howMany_62 : decode cX12_howMany 62 = .ok (.iload 6, 2) := by decide +kernel
theorem dX12_howMany_64 : decode cX12_howMany 64 = .ok (.ifCond .ne 7, 3) := by decide +kernel
theorem dX12_howMany_67 : decode cX12_howMany 67 = .ok (.lconst 1, 1) := by decide +kernel
theorem dX12_howMany_68 : decode cX12_howMany 68 = .ok (.goto 4, 3) := by decide +kernel
theorem dX12_howMany_71 : decode cX12_howMany 71 = .ok (.lconst 0, 1) := by decide +kernel
theorem dX12_howMany_72 : decode cX12_howMany 72 = .ok (.lstore 7, 2) := by decide +kernel
theorem dX12_howMany_74 : decode cX12_howMany 74 = .ok (.iconst 0, 1) := by decide +kernel
theorem dX12_howMany_75 : decode cX12_howMany 75 = .ok (.istore 9, 2) := by decide +kernel
theorem dX12_howMany_77 : decode cX12_howMany 77 = .ok (.iload 9, 2) := by decide +kernel
theorem dX12_howMany_79 : decode cX12_howMany 79 = .ok (.aload_n 0, 1) := by decide +kernel
theorem dX12_howMany_80 : decode cX12_howMany 80 = .ok (.getfield 162, 3) := by decide +kernel
theorem dX12_howMany_83 : decode cX12_howMany 83 = .ok (.if_icmp .ge 43, 3) := by decide +kernel
theorem dX12_howMany_86 : decode cX12_howMany 86 = .ok (.iload 6, 2) := by decide +kernel
theorem dX12_howMany_88 : decode cX12_howMany 88 = .ok (.ifCond .le 38, 3) := by decide +kernel
theorem dX12_howMany_91 : decode cX12_howMany 91 = .ok (.aload_n 0, 1) := by decide +kernel
theorem dX12_howMany_92 : decode cX12_howMany 92 = .ok (.iload 9, 2) := by decide +kernel
theorem dX12_howMany_94 : decode cX12_howMany 94 = .ok (.iload 5, 2) := by decide +kernel
theorem dX12_howMany_96 : decode cX12_howMany 96 = .ok (.invokevirtual 364, 3) := by decide +kernel
theorem dX12_howMany_99 : decode cX12_howMany 99 = .ok (.ifCond .eq 21, 3) := by decide +kernel
theorem dX12_howMany_102 : decode cX12_howMany 102 = .ok (.lload 7, 2) := by decide +kernel
theorem dX12_howMany_104 : decode cX12_howMany 104 = .ok (.aload_n 0, 1) := by decide +kernel
theorem dX12_howMany_105 : decode cX12_howMany 105 = .ok (.getfield 132, 3) := by decide +kernel
theorem dX12_howMany_108 : decode cX12_howMany 108 = .ok (.bipush 10, 2) := by decide +kernel
theorem dX12_howMany_110 : decode cX12_howMany 110 = .ok (.iload 6, 2) := by decide +kernel
theorem dX12_howMany_112 : decode cX12_howMany 112 = .ok (.imul, 1) := by decide +kernel
theorem dX12_howMany_113 : decode cX12_howMany 113 = .ok (.iload 9, 2) := by decide +kernel
theorem dX12_howMany_115 : decode cX12_howMany 115 = .ok (.iadd, 1) := by decide +kernel
theorem dX12_howMany_116 : decode cX12_howMany 116 = .ok (.laload, 1) := by decide +kernel
theorem dX12_howMany_117 : decode cX12_howMany 117 = .ok (.ladd, 1) := by decide +kernel
theorem dX12_howMany_118 : decode cX12_howMany 118 = .ok (.lstore 7, 2) := by decide +kernel
theorem dX12_howMany_120 : decode cX12_howMany 120 = .ok (.iinc 9 1, 3) := by decide +kernel
theorem dX12_howMany_123 : decode cX12_howMany 123 = .ok (.goto (-46), 3) := by decide +kernel
theorem dX12_howMany_126 : decode cX12_howMany 126 = .ok (.aload_n 0, 1) := by decide +kernel
theorem dX12_howMany_127 : decode cX12_howMany 127 = .ok (.getfield 132, 3) := by decide +kernel
theorem dX12_howMany_130 : decode cX12_howMany 130 = .ok (.bipush 10, 2) := by decide +kernel
theorem dX12_howMany_132 : decode cX12_howMany 132 = .ok (.iload 4, 2) := by decide +kernel
theorem dX12_howMany_134 : decode cX12_howMany 134 = .ok (.imul, 1) := by decide +kernel
theorem dX12_howMany_135 : decode cX12_howMany 135 = .ok (.iload 5, 2) := by decide +kernel
theorem dX12_howMany_137 : decode cX12_howMany 137 = .ok (.iadd, 1) := by decide +kernel
theorem dX12_howMany_138 : decode cX12_howMany 138 = .ok (.lload 7, 2) := by decide +kernel
theorem dX12_howMany_140 : decode cX12_howMany 140 = .ok (.lastore, 1) := by decide +kernel
theorem dX12_howMany_141 : decode cX12_howMany 141 = .ok (.lload_n 2, 1) := by decide +kernel
theorem dX12_howMany_142 : decode cX12_howMany 142 = .ok (.iload 4, 2) := by decide +kernel
theorem dX12_howMany_144 : decode cX12_howMany 144 = .ok (.iload_n 1, 1) := by decide +kernel
theorem dX12_howMany_145 : decode cX12_howMany 145 = .ok (.if_icmp .ne 8, 3) := by decide +kernel
theorem dX12_howMany_148 : decode cX12_howMany 148 = .ok (.lload 7, 2) := by decide +kernel
theorem dX12_howMany_150 : decode cX12_howMany 150 = .ok (.goto 4, 3) := by decide +kernel
theorem dX12_howMany_153 : decode cX12_howMany 153 = .ok (.lconst 0, 1) := by decide +kernel
theorem dX12_howMany_154 : decode cX12_howMany 154 = .ok (.ladd, 1) := by decide +kernel
theorem dX12_howMany_155 : decode cX12_howMany 155 = .ok (.lstore_n 2, 1) := by decide +kernel
theorem dX12_howMany_156 : decode cX12_howMany 156 = .ok (.iinc 5 1, 3) := by decide +kernel
theorem dX12_howMany_159 : decode cX12_howMany 159 = .ok (.goto (-121), 3) := by decide +kernel
theorem dX12_howMany_162 : decode cX12_howMany 162 = .ok (.iinc 4 1, 3) := by decide +kernel
theorem dX12_howMany_165 : decode cX12_howMany 165 = .ok (.goto (-136), 3) := by decide +kernel
theorem dX12_howMany_168 : decode cX12_howMany 168 = .ok (.lload_n 2, 1) := by decide +kernel
theorem dX12_howMany_169 : decode cX12_howMany 169 = .ok (.lreturn, 1) := by decide +kernel
def jn_MD_prefixes_57 (n : Nat) (rec : Int32 → Int32 → Option (Int32)) (v2 : Int32) (v3 : Int32) (w0 : Int32) (w1 : Int32) (μ : kbM) : Option (Int32) :=
  rec (w0 + w1) (v3 + 1)
theorem jnR_MD_prefixes_57 {l : Launch} (n : Nat)   (v2 : Int32) (v3 : Int32) (w0 : Int32) (w1 : Int32) (μ : kbM) {Q : kbQt} {P : Int32 → Prop} (hx : ∀ z : Int32, P (z) → kbR l MX12_prefixes 3 Q 65 [some (.ref 57), some (.int z), some (.int v2), none] [] μ) {rec : Int32 → Int32 → Option (Int32)} (hrec : ∀ (v1 : Int32) (v3 : Int32), kbG (rec v1 v3) P → kbR l MX12_prefixes 3 Q 19 [some (.ref 57), some (.int v1), some (.int v2), some (.int v3)] [] μ) (h : kbG (jn_MD_prefixes_57 n rec v2 v3 w0 w1 μ) P) : kbR l MX12_prefixes 3 Q 57 [some (.ref 57), none, some (.int v2), some (.int v3)] [.int w1, .int w0] μ := by
  unfold jn_MD_prefixes_57 at h
  refine r_iadd dX12_prefixes_57 ?_
  refine r_istore_n dX12_prefixes_58 (Nat.le_of_ble_eq_true rfl) rfl ?_
  refine r_iinc 1 dX12_prefixes_59 rfl (by decide) (Nat.le_of_ble_eq_true rfl) rfl ?_
  refine r_goto 19 dX12_prefixes_62 (by decide) ?_
  refine r_le [some (.ref 57), some (.int (w0 + w1)), some (.int v2), some (.int (v3 + 1))] ⟨rfl, ⟨rfl, ⟨rfl, ⟨rfl, trivial⟩⟩⟩⟩ ?_
  exact hrec (w0 + w1) (v3 + 1) h
def jn_MD_prefixes_56 (n : Nat) (rec : Int32 → Int32 → Option (Int32)) (v2 : Int32) (v3 : Int32) (w0 : Int32) (μ : kbM) : Option (Int32) :=
  jn_MD_prefixes_57 n rec v2 v3 w0 0 μ
theorem jnR_MD_prefixes_56 {l : Launch} (n : Nat)   (v2 : Int32) (v3 : Int32) (w0 : Int32) (μ : kbM) {Q : kbQt} {P : Int32 → Prop} (hx : ∀ z : Int32, P (z) → kbR l MX12_prefixes 3 Q 65 [some (.ref 57), some (.int z), some (.int v2), none] [] μ) {rec : Int32 → Int32 → Option (Int32)} (hrec : ∀ (v1 : Int32) (v3 : Int32), kbG (rec v1 v3) P → kbR l MX12_prefixes 3 Q 19 [some (.ref 57), some (.int v1), some (.int v2), some (.int v3)] [] μ) (h : kbG (jn_MD_prefixes_56 n rec v2 v3 w0 μ) P) : kbR l MX12_prefixes 3 Q 56 [some (.ref 57), none, some (.int v2), some (.int v3)] [.int w0] μ := by
  unfold jn_MD_prefixes_56 at h
  refine r_iconst 0 dX12_prefixes_56 (by decide) ?_
  refine r_le [some (.ref 57), none, some (.int v2), some (.int v3)] ⟨rfl, ⟨rfl, ⟨rfl, trivial⟩⟩⟩ ?_
  exact jnR_MD_prefixes_57 n v2 v3 w0 0 μ (hx := hx) (hrec := hrec) h
def lp_MD_prefixes_19 (n : Nat) (v2 : Int32) (μ : kbM) : Nat → Int32 → Int32 → Option (Int32)
  | 0, _, _ => none
  | k + 1, v1, v3 =>
    if (μ.1 57 27) ≤ v3 then
      some v1
    else
      if v2 = v3 then
        jn_MD_prefixes_56 n (lp_MD_prefixes_19 n v2 μ k) v2 v3 v1 μ
      else
        kbIf (kbIn v3 10) <|
        kbIf (kbIn v2 10) <|
        (f_MD_behind n (μ.1 70 v3.toNatClampNeg) (μ.1 70 v2.toNatClampNeg)).bind fun x1 =>
        if x1 = (-1) then
          jn_MD_prefixes_56 n (lp_MD_prefixes_19 n v2 μ k) v2 v3 v1 μ
        else
          jn_MD_prefixes_57 n (lp_MD_prefixes_19 n v2 μ k) v2 v3 v1 1 μ
theorem lpR_MD_prefixes_19 {l : Launch} (n : Nat) (v2 : Int32) (μ : kbM)  {Q : kbQt} {P : Int32 → Prop} (hx : ∀ z : Int32, P (z) → kbR l MX12_prefixes 3 Q 65 [some (.ref 57), some (.int z), some (.int v2), none] [] μ) : ∀ (k : Nat) (v1 : Int32) (v3 : Int32), kbG (lp_MD_prefixes_19 n v2 μ k v1 v3) P → kbR l MX12_prefixes 3 Q 19 [some (.ref 57), some (.int v1), some (.int v2), some (.int v3)] [] μ := by
  intro k
  induction k with
  | zero => intro v1 v3 h; exact absurd h kbG_none
  | succ k ih =>
    intro v1 v3 h
    unfold lp_MD_prefixes_19 at h
    refine r_iload_n dX12_prefixes_19 rfl ?_
    refine r_aload_n dX12_prefixes_20 rfl ?_
    refine r_getI flX12_162 sh57 rfl dX12_prefixes_21 ?_
    refine r_icmp_ge 65 dX12_prefixes_24 (by decide) (fun hc => ?_) (fun hc => ?_)
    · replace h := kbG_t hc h
      refine r_le [some (.ref 57), some (.int v1), some (.int v2), none] ⟨rfl, ⟨rfl, ⟨rfl, trivial⟩⟩⟩ ?_
      exact hx v1 (kbG_some h)
    · replace h := kbG_f hc h
      refine r_iload_n dX12_prefixes_27 rfl ?_
      refine r_iload_n dX12_prefixes_28 rfl ?_
      refine r_iload_n dX12_prefixes_29 rfl ?_
      refine r_icmp_eq 56 dX12_prefixes_30 (by decide) (fun hc => ?_) (fun hc => ?_)
      · replace h := kbG_t hc h
        refine r_le [some (.ref 57), none, some (.int v2), some (.int v3)] ⟨rfl, ⟨rfl, ⟨rfl, trivial⟩⟩⟩ ?_
        exact jnR_MD_prefixes_56 n v2 v3 v1 μ (hx := hx) (hrec := ih) h
      · replace h := kbG_f hc h
        refine r_aload_n dX12_prefixes_33 rfl ?_
        refine r_getR flX12_79 sh57 rfl dX12_prefixes_34 ?_
        refine r_iload_n dX12_prefixes_37 rfl ?_
        obtain ⟨hin, h⟩ := kbG_if h
        replace hin := kbIn_of hin
        refine q_iald v3.toNatClampNeg rfl sh70 hin dX12_prefixes_38 ?_
        refine r_aload_n dX12_prefixes_39 rfl ?_
        refine r_getR flX12_79 sh57 rfl dX12_prefixes_40 ?_
        refine r_iload_n dX12_prefixes_43 rfl ?_
        obtain ⟨hin, h⟩ := kbG_if h
        replace hin := kbIn_of hin
        refine q_iald v2.toNatClampNeg rfl sh70 hin dX12_prefixes_44 ?_
        obtain ⟨x1, hx0, h⟩ := kbG_bind h
        refine r_inv_i csX12_414 (sp_MD_behind n (μ.1 70 v3.toNatClampNeg) (μ.1 70 v2.toNatClampNeg) μ hx0) rfl rfl (Nat.le_of_ble_eq_true rfl) (Nat.le_of_ble_eq_true rfl) dX12_prefixes_45 ?_
        refine r_iconst (-1) dX12_prefixes_48 (by decide) ?_
        refine r_icmp_eq 56 dX12_prefixes_49 (by decide) (fun hc => ?_) (fun hc => ?_)
        · replace h := kbG_t hc h
          refine r_le [some (.ref 57), none, some (.int v2), some (.int v3)] ⟨rfl, ⟨rfl, ⟨rfl, trivial⟩⟩⟩ ?_
          exact jnR_MD_prefixes_56 n v2 v3 v1 μ (hx := hx) (hrec := ih) h
        · replace h := kbG_f hc h
          refine r_iconst 1 dX12_prefixes_52 (by decide) ?_
          refine r_goto 57 dX12_prefixes_53 (by decide) ?_
          refine r_le [some (.ref 57), none, some (.int v2), some (.int v3)] ⟨rfl, ⟨rfl, ⟨rfl, trivial⟩⟩⟩ ?_
          exact jnR_MD_prefixes_57 n v2 v3 v1 1 μ (hx := hx) (hrec := ih) h
def lp_MD_prefixes_9 (n : Nat) (μ : kbM) : Nat → Int32 → Int32 → Option (Int32)
  | 0, _, _ => none
  | k + 1, v1, v2 =>
    if (μ.1 57 27) ≤ v2 then
      some v1
    else
      (lp_MD_prefixes_19 n v2 μ n v1 0).bind fun x2 =>
      lp_MD_prefixes_9 n μ k x2 (v2 + 1)
theorem lpR_MD_prefixes_9 {l : Launch} (n : Nat) (μ : kbM)  {Q : kbQt} {P : Int32 → Prop} (hx : ∀ z : Int32, P (z) → kbR l MX12_prefixes 3 Q 71 [none, some (.int z), none, none] [] μ) : ∀ (k : Nat) (v1 : Int32) (v2 : Int32), kbG (lp_MD_prefixes_9 n μ k v1 v2) P → kbR l MX12_prefixes 3 Q 9 [some (.ref 57), some (.int v1), some (.int v2), none] [] μ := by
  intro k
  induction k with
  | zero => intro v1 v2 h; exact absurd h kbG_none
  | succ k ih =>
    intro v1 v2 h
    unfold lp_MD_prefixes_9 at h
    refine r_iload_n dX12_prefixes_9 rfl ?_
    refine r_aload_n dX12_prefixes_10 rfl ?_
    refine r_getI flX12_162 sh57 rfl dX12_prefixes_11 ?_
    refine r_icmp_ge 71 dX12_prefixes_14 (by decide) (fun hc => ?_) (fun hc => ?_)
    · replace h := kbG_t hc h
      refine r_le [none, some (.int v1), none, none] ⟨rfl, trivial⟩ ?_
      exact hx v1 (kbG_some h)
    · replace h := kbG_f hc h
      refine r_iconst 0 dX12_prefixes_17 (by decide) ?_
      refine r_istore_n dX12_prefixes_18 (Nat.le_of_ble_eq_true rfl) rfl ?_
      refine r_le [some (.ref 57), some (.int v1), some (.int v2), some (.int 0)] ⟨rfl, ⟨rfl, ⟨rfl, ⟨rfl, trivial⟩⟩⟩⟩ ?_
      obtain ⟨x2, hx0, h⟩ := kbG_bind h
      refine lpR_MD_prefixes_19 n v2 μ (P := fun z => x2 = z) (hx := fun z e => ?_) n _ _ ⟨_, hx0, rfl⟩
      subst e
      refine r_iinc 1 dX12_prefixes_65 rfl (by decide) (Nat.le_of_ble_eq_true rfl) rfl ?_
      refine r_goto 9 dX12_prefixes_68 (by decide) ?_
      refine r_le [some (.ref 57), some (.int x2), some (.int (v2 + 1)), none] ⟨rfl, ⟨rfl, ⟨rfl, trivial⟩⟩⟩ ?_
      exact ih x2 (v2 + 1) h
def f_MD_prefixes (n : Nat) (μ : kbM) : Option (Int32 × kbM) :=
  (lp_MD_prefixes_9 n (kbW μ 57 3 0) n 0 0).bind fun x3 =>
  some ((x3, kbW μ 57 3 0))
theorem sp_MD_prefixes {l : Launch} (n : Nat) (μ : kbM)  {x : Int32 × kbM} (h : f_MD_prefixes n μ = some x) : kbS l MX12_prefixes 3 [.ref 57] μ (kbQe (some (.int x.1)) x.2) := by
  refine kb_enter 3 rfl rfl ?_
  suffices H : ∀ (Q : kbQt) (P : Int32 × kbM → Prop), (∀ z : Int32 × kbM, P z → Q (some (.int z.1)) z.2) → kbG (f_MD_prefixes n μ) P → kbR l MX12_prefixes 3 Q 0 [some (.ref 57), none, none, none] [] μ from H _ (fun z => z = x) (fun z e => by subst e; exact ⟨rfl, rfl⟩) ⟨x, h, rfl⟩
  clear h
  intro Q P hr h
  unfold f_MD_prefixes at h
  refine r_aload_n dX12_prefixes_0 rfl ?_
  refine r_iconst 0 dX12_prefixes_1 (by decide) ?_
  refine r_put flX12_159 sh57 rfl rfl rfl dX12_prefixes_2 ?_
  refine r_iconst 0 dX12_prefixes_5 (by decide) ?_
  refine r_istore_n dX12_prefixes_6 (Nat.le_of_ble_eq_true rfl) rfl ?_
  refine r_iconst 0 dX12_prefixes_7 (by decide) ?_
  refine r_istore_n dX12_prefixes_8 (Nat.le_of_ble_eq_true rfl) rfl ?_
  refine r_le [some (.ref 57), some (.int 0), some (.int 0), none] ⟨rfl, ⟨rfl, ⟨rfl, trivial⟩⟩⟩ ?_
  obtain ⟨x3, hx0, h⟩ := kbG_bind h
  refine lpR_MD_prefixes_9 n (kbW μ 57 3 0) (P := fun z => x3 = z) (hx := fun z e => ?_) n _ _ ⟨_, hx0, rfl⟩
  subst e
  refine r_iload_n dX12_prefixes_71 rfl ?_
  exact r_iret rfl dX12_prefixes_72 (hr ((x3, kbW μ 57 3 0)) (kbG_some h))
def jn_MD_areAlike_52 (n : Nat) (rec : Int32 → Option ((Int32) ⊕ (Unit))) (v1 : Int32) (v2 : Int32) (v3 : Int32) (v4 : Int32) (μ : kbM) : Option ((Int32) ⊕ (Unit)) :=
  rec (v4 + 1)
theorem jnR_MD_areAlike_52 {l : Launch} (n : Nat)   (v1 : Int32) (v2 : Int32) (v3 : Int32) (v4 : Int32) (μ : kbM) {Q : kbQt} {P : (Int32) ⊕ (Unit) → Prop} (hr : ∀ z : Int32, P (.inl z) → Q (some (.int z)) μ) (hx : ∀ z : Unit, P (.inr z) → kbR l MX12_areAlike 3 Q 58 [none, none, none, none, none] [] μ) {rec : Int32 → Option ((Int32) ⊕ (Unit))} (hrec : ∀ (v4 : Int32), kbG (rec v4) P → kbR l MX12_areAlike 3 Q 3 [some (.ref 57), some (.int v1), some (.int v2), some (.int v3), some (.int v4)] [] μ) (h : kbG (jn_MD_areAlike_52 n rec v1 v2 v3 v4 μ) P) : kbR l MX12_areAlike 3 Q 52 [some (.ref 57), some (.int v1), some (.int v2), some (.int v3), some (.int v4)] [] μ := by
  unfold jn_MD_areAlike_52 at h
  refine r_iinc 1 dX12_areAlike_52 rfl (by decide) (Nat.le_of_ble_eq_true rfl) rfl ?_
  refine r_goto 3 dX12_areAlike_55 (by decide) ?_
  refine r_le [some (.ref 57), some (.int v1), some (.int v2), some (.int v3), some (.int (v4 + 1))] ⟨rfl, ⟨rfl, ⟨rfl, ⟨rfl, ⟨rfl, trivial⟩⟩⟩⟩⟩ ?_
  exact hrec (v4 + 1) h
def lp_MD_areAlike_3 (n : Nat) (v1 : Int32) (v2 : Int32) (v3 : Int32) (μ : kbM) : Nat → Int32 → Option ((Int32) ⊕ (Unit))
  | 0, _ => none
  | k + 1, v4 =>
    if (μ.1 61 1) ≤ v4 then
      some (.inr (()))
    else
      (f_MD_isOf v3 v4).bind fun x1 =>
      if x1 = 0 then
        jn_MD_areAlike_52 n (lp_MD_areAlike_3 n v1 v2 v3 μ k) v1 v2 v3 v4 μ
      else
        kbIf (kbIn v1 10) <|
        (f_MD_heardAt n v4 (μ.1 70 v1.toNatClampNeg) μ).bind fun x2 =>
        kbIf (kbIn v2 10) <|
        (f_MD_heardAt n v4 (μ.1 70 v2.toNatClampNeg) μ).bind fun x3 =>
        if x2 = x3 then
          jn_MD_areAlike_52 n (lp_MD_areAlike_3 n v1 v2 v3 μ k) v1 v2 v3 v4 μ
        else
          some (.inl 0)
theorem lpR_MD_areAlike_3 {l : Launch} (n : Nat) (v1 : Int32) (v2 : Int32) (v3 : Int32) (μ : kbM)  {Q : kbQt} {P : (Int32) ⊕ (Unit) → Prop} (hr : ∀ z : Int32, P (.inl z) → Q (some (.int z)) μ) (hx : ∀ z : Unit, P (.inr z) → kbR l MX12_areAlike 3 Q 58 [none, none, none, none, none] [] μ) : ∀ (k : Nat) (v4 : Int32), kbG (lp_MD_areAlike_3 n v1 v2 v3 μ k v4) P → kbR l MX12_areAlike 3 Q 3 [some (.ref 57), some (.int v1), some (.int v2), some (.int v3), some (.int v4)] [] μ := by
  intro k
  induction k with
  | zero => intro v4 h; exact absurd h kbG_none
  | succ k ih =>
    intro v4 h
    unfold lp_MD_areAlike_3 at h
    refine r_iload dX12_areAlike_3 rfl ?_
    refine r_aload_n dX12_areAlike_5 rfl ?_
    refine r_getR flX12_47 sh57 rfl dX12_areAlike_6 ?_
    refine r_iconst 1 dX12_areAlike_9 (by decide) ?_
    have hin : vp_in 1 6 := kbIn_of (by decide)
    refine q_iald 1 (by decide) sh61 hin dX12_areAlike_10 ?_
    refine r_icmp_ge 58 dX12_areAlike_11 (by decide) (fun hc => ?_) (fun hc => ?_)
    · replace h := kbG_t hc h
      refine r_le [none, none, none, none, none] trivial ?_
      exact hx (()) (kbG_some h)
    · replace h := kbG_f hc h
      refine r_iload_n dX12_areAlike_14 rfl ?_
      refine r_iload dX12_areAlike_15 rfl ?_
      obtain ⟨x1, hx0, h⟩ := kbG_bind h
      refine r_inv_i csX12_318 (sp_MD_isOf v3 v4 μ hx0) rfl rfl (Nat.le_of_ble_eq_true rfl) (Nat.le_of_ble_eq_true rfl) dX12_areAlike_17 ?_
      refine r_if_eq 52 dX12_areAlike_20 (by decide) (fun hc => ?_) (fun hc => ?_)
      · replace h := kbG_t hc h
        refine r_le [some (.ref 57), some (.int v1), some (.int v2), some (.int v3), some (.int v4)] ⟨rfl, ⟨rfl, ⟨rfl, ⟨rfl, ⟨rfl, trivial⟩⟩⟩⟩⟩ ?_
        exact jnR_MD_areAlike_52 n v1 v2 v3 v4 μ (hr := hr) (hx := hx) (hrec := ih) h
      · replace h := kbG_f hc h
        refine r_aload_n dX12_areAlike_23 rfl ?_
        refine r_iload dX12_areAlike_24 rfl ?_
        refine r_aload_n dX12_areAlike_26 rfl ?_
        refine r_getR flX12_79 sh57 rfl dX12_areAlike_27 ?_
        refine r_iload_n dX12_areAlike_30 rfl ?_
        obtain ⟨hin, h⟩ := kbG_if h
        replace hin := kbIn_of hin
        refine q_iald v1.toNatClampNeg rfl sh70 hin dX12_areAlike_31 ?_
        obtain ⟨x2, hx0, h⟩ := kbG_bind h
        refine r_invV_i cvX12_328 sh57 rfl (sp_MD_heardAt n v4 (μ.1 70 v1.toNatClampNeg) μ hx0) rfl rfl (Nat.le_of_ble_eq_true rfl) (Nat.le_of_ble_eq_true rfl) dX12_areAlike_32 ?_
        refine r_aload_n dX12_areAlike_35 rfl ?_
        refine r_iload dX12_areAlike_36 rfl ?_
        refine r_aload_n dX12_areAlike_38 rfl ?_
        refine r_getR flX12_79 sh57 rfl dX12_areAlike_39 ?_
        refine r_iload_n dX12_areAlike_42 rfl ?_
        obtain ⟨hin, h⟩ := kbG_if h
        replace hin := kbIn_of hin
        refine q_iald v2.toNatClampNeg rfl sh70 hin dX12_areAlike_43 ?_
        obtain ⟨x3, hx0, h⟩ := kbG_bind h
        refine r_invV_i cvX12_328 sh57 rfl (sp_MD_heardAt n v4 (μ.1 70 v2.toNatClampNeg) μ hx0) rfl rfl (Nat.le_of_ble_eq_true rfl) (Nat.le_of_ble_eq_true rfl) dX12_areAlike_44 ?_
        refine r_icmp_eq 52 dX12_areAlike_47 (by decide) (fun hc => ?_) (fun hc => ?_)
        · replace h := kbG_t hc h
          refine r_le [some (.ref 57), some (.int v1), some (.int v2), some (.int v3), some (.int v4)] ⟨rfl, ⟨rfl, ⟨rfl, ⟨rfl, ⟨rfl, trivial⟩⟩⟩⟩⟩ ?_
          exact jnR_MD_areAlike_52 n v1 v2 v3 v4 μ (hr := hr) (hx := hx) (hrec := ih) h
        · replace h := kbG_f hc h
          refine r_iconst 0 dX12_areAlike_50 (by decide) ?_
          exact r_zret rfl rfl dX12_areAlike_51 (hr 0 (kbG_some h))
def f_MD_areAlike (n : Nat) (a1 : Int32) (a2 : Int32) (a3 : Int32) (μ : kbM) : Option (Int32) :=
  kbOr (lp_MD_areAlike_3 n a1 a2 a3 μ n 0) (fun r5 => some r5) fun x4 =>
  some 1
theorem sp_MD_areAlike {l : Launch} (n : Nat) (a1 : Int32) (a2 : Int32) (a3 : Int32) (μ : kbM)  {x : Int32} (h : f_MD_areAlike n a1 a2 a3 μ = some x) : kbS l MX12_areAlike 3 [.ref 57, .int a1, .int a2, .int a3] μ (kbQe (some (.int x)) μ) := by
  refine kb_enter 1 rfl rfl ?_
  suffices H : ∀ (Q : kbQt) (P : Int32 → Prop), (∀ z : Int32, P z → Q (some (.int z)) μ) → kbG (f_MD_areAlike n a1 a2 a3 μ) P → kbR l MX12_areAlike 3 Q 0 [some (.ref 57), some (.int a1), some (.int a2), some (.int a3), none] [] μ from H _ (fun z => z = x) (fun z e => by subst e; exact ⟨rfl, rfl⟩) ⟨x, h, rfl⟩
  clear h
  intro Q P hr h
  unfold f_MD_areAlike at h
  refine r_iconst 0 dX12_areAlike_0 (by decide) ?_
  refine r_istore dX12_areAlike_1 (Nat.le_of_ble_eq_true rfl) rfl ?_
  refine r_le [some (.ref 57), some (.int a1), some (.int a2), some (.int a3), some (.int 0)] ⟨rfl, ⟨rfl, ⟨rfl, ⟨rfl, ⟨rfl, trivial⟩⟩⟩⟩⟩ ?_
  rcases kbG_or h with ⟨r5, hx0, h⟩ | ⟨x4, hx0, h⟩
  · exact lpR_MD_areAlike_3 n a1 a2 a3 μ (P := fun z => .inl r5 = z) (hr := fun z e => by cases e; exact hr _ (kbG_some h)) (hx := fun z e => by cases e) n _ ⟨_, hx0, rfl⟩
  · refine lpR_MD_areAlike_3 n a1 a2 a3 μ (P := fun z => .inr x4 = z) (hr := fun z e => by cases e) (hx := fun z e => ?_) n _ ⟨_, hx0, rfl⟩
    cases e
    refine r_iconst 1 dX12_areAlike_58 (by decide) ?_
    exact r_zret rfl rfl dX12_areAlike_59 (hr 1 (kbG_some h))
def lp_MD_tellsApart_14 (n : Nat) (v1 : Int32) (v2 : Int32) (μ : kbM) : Nat → Int32 → Option ((Int32) ⊕ (Unit))
  | 0, _ => none
  | k + 1, v3 =>
    if (μ.1 57 27) ≤ v3 then
      some (.inr (()))
    else
      (f_MD_areAlike n v2 v3 v1 μ).bind fun x1 =>
      if x1 = 0 then
        lp_MD_tellsApart_14 n v1 v2 μ k (v3 + 1)
      else
        some (.inl 0)
theorem lpR_MD_tellsApart_14 {l : Launch} (n : Nat) (v1 : Int32) (v2 : Int32) (μ : kbM)  {Q : kbQt} {P : (Int32) ⊕ (Unit) → Prop} (hr : ∀ z : Int32, P (.inl z) → Q (some (.int z)) μ) (hx : ∀ z : Unit, P (.inr z) → kbR l MX12_tellsApart 4 Q 40 [some (.ref 57), some (.int v1), some (.int v2), none] [] μ) : ∀ (k : Nat) (v3 : Int32), kbG (lp_MD_tellsApart_14 n v1 v2 μ k v3) P → kbR l MX12_tellsApart 4 Q 14 [some (.ref 57), some (.int v1), some (.int v2), some (.int v3)] [] μ := by
  intro k
  induction k with
  | zero => intro v3 h; exact absurd h kbG_none
  | succ k ih =>
    intro v3 h
    unfold lp_MD_tellsApart_14 at h
    refine r_iload_n dX12_tellsApart_14 rfl ?_
    refine r_aload_n dX12_tellsApart_15 rfl ?_
    refine r_getI flX12_162 sh57 rfl dX12_tellsApart_16 ?_
    refine r_icmp_ge 40 dX12_tellsApart_19 (by decide) (fun hc => ?_) (fun hc => ?_)
    · replace h := kbG_t hc h
      refine r_le [some (.ref 57), some (.int v1), some (.int v2), none] ⟨rfl, ⟨rfl, ⟨rfl, trivial⟩⟩⟩ ?_
      exact hx (()) (kbG_some h)
    · replace h := kbG_f hc h
      refine r_aload_n dX12_tellsApart_22 rfl ?_
      refine r_iload_n dX12_tellsApart_23 rfl ?_
      refine r_iload_n dX12_tellsApart_24 rfl ?_
      refine r_iload_n dX12_tellsApart_25 rfl ?_
      obtain ⟨x1, hx0, h⟩ := kbG_bind h
      refine r_invV_i cvX12_423 sh57 rfl (sp_MD_areAlike n v2 v3 v1 μ hx0) rfl rfl (Nat.le_of_ble_eq_true rfl) (Nat.le_of_ble_eq_true rfl) dX12_tellsApart_26 ?_
      refine r_if_eq 34 dX12_tellsApart_29 (by decide) (fun hc => ?_) (fun hc => ?_)
      · replace h := kbG_t hc h
        refine r_iinc 1 dX12_tellsApart_34 rfl (by decide) (Nat.le_of_ble_eq_true rfl) rfl ?_
        refine r_goto 14 dX12_tellsApart_37 (by decide) ?_
        refine r_le [some (.ref 57), some (.int v1), some (.int v2), some (.int (v3 + 1))] ⟨rfl, ⟨rfl, ⟨rfl, ⟨rfl, trivial⟩⟩⟩⟩ ?_
        exact ih (v3 + 1) h
      · replace h := kbG_f hc h
        refine r_iconst 0 dX12_tellsApart_32 (by decide) ?_
        exact r_zret rfl rfl dX12_tellsApart_33 (hr 0 (kbG_some h))
def lp_MD_tellsApart_2 (n : Nat) (v1 : Int32) (μ : kbM) : Nat → Int32 → Option ((Int32) ⊕ (Unit))
  | 0, _ => none
  | k + 1, v2 =>
    if (μ.1 57 27) ≤ v2 then
      some (.inr (()))
    else
      kbOr (lp_MD_tellsApart_14 n v1 v2 μ n (v2 + 1)) (fun r3 => some (.inl r3)) fun x2 =>
      lp_MD_tellsApart_2 n v1 μ k (v2 + 1)
theorem lpR_MD_tellsApart_2 {l : Launch} (n : Nat) (v1 : Int32) (μ : kbM)  {Q : kbQt} {P : (Int32) ⊕ (Unit) → Prop} (hr : ∀ z : Int32, P (.inl z) → Q (some (.int z)) μ) (hx : ∀ z : Unit, P (.inr z) → kbR l MX12_tellsApart 4 Q 46 [none, none, none, none] [] μ) : ∀ (k : Nat) (v2 : Int32), kbG (lp_MD_tellsApart_2 n v1 μ k v2) P → kbR l MX12_tellsApart 4 Q 2 [some (.ref 57), some (.int v1), some (.int v2), none] [] μ := by
  intro k
  induction k with
  | zero => intro v2 h; exact absurd h kbG_none
  | succ k ih =>
    intro v2 h
    unfold lp_MD_tellsApart_2 at h
    refine r_iload_n dX12_tellsApart_2 rfl ?_
    refine r_aload_n dX12_tellsApart_3 rfl ?_
    refine r_getI flX12_162 sh57 rfl dX12_tellsApart_4 ?_
    refine r_icmp_ge 46 dX12_tellsApart_7 (by decide) (fun hc => ?_) (fun hc => ?_)
    · replace h := kbG_t hc h
      refine r_le [none, none, none, none] trivial ?_
      exact hx (()) (kbG_some h)
    · replace h := kbG_f hc h
      refine r_iload_n dX12_tellsApart_10 rfl ?_
      refine r_iconst 1 dX12_tellsApart_11 (by decide) ?_
      refine r_iadd dX12_tellsApart_12 ?_
      refine r_istore_n dX12_tellsApart_13 (Nat.le_of_ble_eq_true rfl) rfl ?_
      refine r_le [some (.ref 57), some (.int v1), some (.int v2), some (.int (v2 + 1))] ⟨rfl, ⟨rfl, ⟨rfl, ⟨rfl, trivial⟩⟩⟩⟩ ?_
      rcases kbG_or h with ⟨r3, hx0, h⟩ | ⟨x2, hx0, h⟩
      · exact lpR_MD_tellsApart_14 n v1 v2 μ (P := fun z => .inl r3 = z) (hr := fun z e => by cases e; exact hr _ (kbG_some h)) (hx := fun z e => by cases e) n _ ⟨_, hx0, rfl⟩
      · refine lpR_MD_tellsApart_14 n v1 v2 μ (P := fun z => .inr x2 = z) (hr := fun z e => by cases e) (hx := fun z e => ?_) n _ ⟨_, hx0, rfl⟩
        cases e
        refine r_iinc 1 dX12_tellsApart_40 rfl (by decide) (Nat.le_of_ble_eq_true rfl) rfl ?_
        refine r_goto 2 dX12_tellsApart_43 (by decide) ?_
        refine r_le [some (.ref 57), some (.int v1), some (.int (v2 + 1)), none] ⟨rfl, ⟨rfl, ⟨rfl, trivial⟩⟩⟩ ?_
        exact ih (v2 + 1) h
def f_MD_tellsApart (n : Nat) (a1 : Int32) (μ : kbM) : Option (Int32) :=
  kbOr (lp_MD_tellsApart_2 n a1 μ n 0) (fun r5 => some r5) fun x4 =>
  some 1
theorem sp_MD_tellsApart {l : Launch} (n : Nat) (a1 : Int32) (μ : kbM)  {x : Int32} (h : f_MD_tellsApart n a1 μ = some x) : kbS l MX12_tellsApart 4 [.ref 57, .int a1] μ (kbQe (some (.int x)) μ) := by
  refine kb_enter 2 rfl rfl ?_
  suffices H : ∀ (Q : kbQt) (P : Int32 → Prop), (∀ z : Int32, P z → Q (some (.int z)) μ) → kbG (f_MD_tellsApart n a1 μ) P → kbR l MX12_tellsApart 4 Q 0 [some (.ref 57), some (.int a1), none, none] [] μ from H _ (fun z => z = x) (fun z e => by subst e; exact ⟨rfl, rfl⟩) ⟨x, h, rfl⟩
  clear h
  intro Q P hr h
  unfold f_MD_tellsApart at h
  refine r_iconst 0 dX12_tellsApart_0 (by decide) ?_
  refine r_istore_n dX12_tellsApart_1 (Nat.le_of_ble_eq_true rfl) rfl ?_
  refine r_le [some (.ref 57), some (.int a1), some (.int 0), none] ⟨rfl, ⟨rfl, ⟨rfl, trivial⟩⟩⟩ ?_
  rcases kbG_or h with ⟨r5, hx0, h⟩ | ⟨x4, hx0, h⟩
  · exact lpR_MD_tellsApart_2 n a1 μ (P := fun z => .inl r5 = z) (hr := fun z e => by cases e; exact hr _ (kbG_some h)) (hx := fun z e => by cases e) n _ ⟨_, hx0, rfl⟩
  · refine lpR_MD_tellsApart_2 n a1 μ (P := fun z => .inr x4 = z) (hr := fun z e => by cases e) (hx := fun z e => ?_) n _ ⟨_, hx0, rfl⟩
    cases e
    refine r_iconst 1 dX12_tellsApart_46 (by decide) ?_
    exact r_zret rfl rfl dX12_tellsApart_47 (hr 1 (kbG_some h))
def lp_MD_bitsOf_4 (n : Nat) : Nat → Int32 → Int32 → Option (Int32)
  | 0, _, _ => none
  | k + 1, v1, v2 =>
    if v2 = 0 then
      some v1
    else
      lp_MD_bitsOf_4 n k (v1 + 1) (v2 &&& (v2 - 1))
theorem lpR_MD_bitsOf_4 {l : Launch} (n : Nat)  (μ : kbM)  {Q : kbQt} {P : Int32 → Prop} (hx : ∀ z : Int32, P (z) → kbR l MX12_bitsOf 1 Q 20 [none, some (.int z), none] [] μ) : ∀ (k : Nat) (v1 : Int32) (v2 : Int32), kbG (lp_MD_bitsOf_4 n k v1 v2) P → kbR l MX12_bitsOf 1 Q 4 [none, some (.int v1), some (.int v2)] [] μ := by
  intro k
  induction k with
  | zero => intro v1 v2 h; exact absurd h kbG_none
  | succ k ih =>
    intro v1 v2 h
    unfold lp_MD_bitsOf_4 at h
    refine r_iload_n dX12_bitsOf_4 rfl ?_
    refine r_if_eq 20 dX12_bitsOf_5 (by decide) (fun hc => ?_) (fun hc => ?_)
    · replace h := kbG_t hc h
      refine r_le [none, some (.int v1), none] ⟨rfl, trivial⟩ ?_
      exact hx v1 (kbG_some h)
    · replace h := kbG_f hc h
      refine r_iinc 1 dX12_bitsOf_8 rfl (by decide) (Nat.le_of_ble_eq_true rfl) rfl ?_
      refine r_iload_n dX12_bitsOf_11 rfl ?_
      refine r_iload_n dX12_bitsOf_12 rfl ?_
      refine r_iconst 1 dX12_bitsOf_13 (by decide) ?_
      refine r_isub dX12_bitsOf_14 ?_
      refine r_iand dX12_bitsOf_15 ?_
      refine r_istore_n dX12_bitsOf_16 (Nat.le_of_ble_eq_true rfl) rfl ?_
      refine r_goto 4 dX12_bitsOf_17 (by decide) ?_
      refine r_le [none, some (.int (v1 + 1)), some (.int (v2 &&& (v2 - 1)))] ⟨rfl, ⟨rfl, trivial⟩⟩ ?_
      exact ih (v1 + 1) (v2 &&& (v2 - 1)) h
def f_MD_bitsOf (n : Nat) (a0 : Int32) : Option (Int32) :=
  (lp_MD_bitsOf_4 n n 0 a0).bind fun x1 =>
  some x1
theorem sp_MD_bitsOf {l : Launch} (n : Nat) (a0 : Int32) (μ : kbM)  {x : Int32} (h : f_MD_bitsOf n a0 = some x) : kbS l MX12_bitsOf 1 [.int a0] μ (kbQe (some (.int x)) μ) := by
  refine kb_enter 2 rfl rfl ?_
  suffices H : ∀ (Q : kbQt) (P : Int32 → Prop), (∀ z : Int32, P z → Q (some (.int z)) μ) → kbG (f_MD_bitsOf n a0) P → kbR l MX12_bitsOf 1 Q 0 [some (.int a0), none, none] [] μ from H _ (fun z => z = x) (fun z e => by subst e; exact ⟨rfl, rfl⟩) ⟨x, h, rfl⟩
  clear h
  intro Q P hr h
  unfold f_MD_bitsOf at h
  refine r_iconst 0 dX12_bitsOf_0 (by decide) ?_
  refine r_istore_n dX12_bitsOf_1 (Nat.le_of_ble_eq_true rfl) rfl ?_
  refine r_iload_n dX12_bitsOf_2 rfl ?_
  refine r_istore_n dX12_bitsOf_3 (Nat.le_of_ble_eq_true rfl) rfl ?_
  refine r_le [none, some (.int 0), some (.int a0)] ⟨rfl, ⟨rfl, trivial⟩⟩ ?_
  obtain ⟨x1, hx0, h⟩ := kbG_bind h
  refine lpR_MD_bitsOf_4 n μ (P := fun z => x1 = z) (hx := fun z e => ?_) n _ _ ⟨_, hx0, rfl⟩
  subst e
  refine r_iload_n dX12_bitsOf_20 rfl ?_
  exact r_iret rfl dX12_bitsOf_21 (hr x1 (kbG_some h))
def jn_MD_tellApart_47 (n : Nat) (rec : Int32 → Int32 → Option (Int32)) (v1 : Int32) (v2 : Int32) (μ : kbM) : Option (Int32) :=
  rec v1 (v2 + 1)
theorem jnR_MD_tellApart_47 {l : Launch} (n : Nat)   (v1 : Int32) (v2 : Int32) (μ : kbM) {Q : kbQt} {P : Int32 → Prop} (hx : ∀ z : Int32, P (z) → kbR l MX12_tellApart 5 Q 53 [none, some (.int z), none] [] μ) {rec : Int32 → Int32 → Option (Int32)} (hrec : ∀ (v1 : Int32) (v2 : Int32), kbG (rec v1 v2) P → kbR l MX12_tellApart 5 Q 9 [some (.ref 57), some (.int v1), some (.int v2)] [] μ) (h : kbG (jn_MD_tellApart_47 n rec v1 v2 μ) P) : kbR l MX12_tellApart 5 Q 47 [some (.ref 57), some (.int v1), some (.int v2)] [] μ := by
  unfold jn_MD_tellApart_47 at h
  refine r_iinc 1 dX12_tellApart_47 rfl (by decide) (Nat.le_of_ble_eq_true rfl) rfl ?_
  refine r_goto 9 dX12_tellApart_50 (by decide) ?_
  refine r_le [some (.ref 57), some (.int v1), some (.int (v2 + 1))] ⟨rfl, ⟨rfl, ⟨rfl, trivial⟩⟩⟩ ?_
  exact hrec v1 (v2 + 1) h
def jn_MD_tellApart_37 (n : Nat) (rec : Int32 → Int32 → Option (Int32)) (v1 : Int32) (v2 : Int32) (μ : kbM) : Option (Int32) :=
  (f_MD_tellsApart n v2 μ).bind fun x1 =>
  if x1 = 0 then
    jn_MD_tellApart_47 n rec v1 v2 μ
  else
    jn_MD_tellApart_47 n rec v2 v2 μ
theorem jnR_MD_tellApart_37 {l : Launch} (n : Nat)   (v1 : Int32) (v2 : Int32) (μ : kbM) {Q : kbQt} {P : Int32 → Prop} (hx : ∀ z : Int32, P (z) → kbR l MX12_tellApart 5 Q 53 [none, some (.int z), none] [] μ) {rec : Int32 → Int32 → Option (Int32)} (hrec : ∀ (v1 : Int32) (v2 : Int32), kbG (rec v1 v2) P → kbR l MX12_tellApart 5 Q 9 [some (.ref 57), some (.int v1), some (.int v2)] [] μ) (h : kbG (jn_MD_tellApart_37 n rec v1 v2 μ) P) : kbR l MX12_tellApart 5 Q 37 [some (.ref 57), some (.int v1), some (.int v2)] [] μ := by
  unfold jn_MD_tellApart_37 at h
  refine r_aload_n dX12_tellApart_37 rfl ?_
  refine r_iload_n dX12_tellApart_38 rfl ?_
  obtain ⟨x1, hx0, h⟩ := kbG_bind h
  refine r_invV_i cvX12_430 sh57 rfl (sp_MD_tellsApart n v2 μ hx0) rfl rfl (Nat.le_of_ble_eq_true rfl) (Nat.le_of_ble_eq_true rfl) dX12_tellApart_39 ?_
  refine r_if_eq 47 dX12_tellApart_42 (by decide) (fun hc => ?_) (fun hc => ?_)
  · replace h := kbG_t hc h
    refine r_le [some (.ref 57), some (.int v1), some (.int v2)] ⟨rfl, ⟨rfl, ⟨rfl, trivial⟩⟩⟩ ?_
    exact jnR_MD_tellApart_47 n v1 v2 μ (hx := hx) (hrec := hrec) h
  · replace h := kbG_f hc h
    refine r_iload_n dX12_tellApart_45 rfl ?_
    refine r_istore_n dX12_tellApart_46 (Nat.le_of_ble_eq_true rfl) rfl ?_
    refine r_le [some (.ref 57), some (.int v2), some (.int v2)] ⟨rfl, ⟨rfl, ⟨rfl, trivial⟩⟩⟩ ?_
    exact jnR_MD_tellApart_47 n v2 v2 μ (hx := hx) (hrec := hrec) h
def lp_MD_tellApart_9 (n : Nat) (μ : kbM) : Nat → Int32 → Int32 → Option (Int32)
  | 0, _, _ => none
  | k + 1, v1, v2 =>
    if (kbShl 1 (μ.1 61 1)) ≤ v2 then
      some v1
    else
      if v1 = (-1) then
        jn_MD_tellApart_37 n (lp_MD_tellApart_9 n μ k) v1 v2 μ
      else
        (f_MD_bitsOf n v2).bind fun x2 =>
        (f_MD_bitsOf n v1).bind fun x3 =>
        if x3 ≤ x2 then
          jn_MD_tellApart_47 n (lp_MD_tellApart_9 n μ k) v1 v2 μ
        else
          jn_MD_tellApart_37 n (lp_MD_tellApart_9 n μ k) v1 v2 μ
theorem lpR_MD_tellApart_9 {l : Launch} (n : Nat) (μ : kbM)  {Q : kbQt} {P : Int32 → Prop} (hx : ∀ z : Int32, P (z) → kbR l MX12_tellApart 5 Q 53 [none, some (.int z), none] [] μ) : ∀ (k : Nat) (v1 : Int32) (v2 : Int32), kbG (lp_MD_tellApart_9 n μ k v1 v2) P → kbR l MX12_tellApart 5 Q 9 [some (.ref 57), some (.int v1), some (.int v2)] [] μ := by
  intro k
  induction k with
  | zero => intro v1 v2 h; exact absurd h kbG_none
  | succ k ih =>
    intro v1 v2 h
    unfold lp_MD_tellApart_9 at h
    refine r_iload_n dX12_tellApart_9 rfl ?_
    refine r_iconst 1 dX12_tellApart_10 (by decide) ?_
    refine r_aload_n dX12_tellApart_11 rfl ?_
    refine r_getR flX12_47 sh57 rfl dX12_tellApart_12 ?_
    refine r_iconst 1 dX12_tellApart_15 (by decide) ?_
    have hin : vp_in 1 6 := kbIn_of (by decide)
    refine q_iald 1 (by decide) sh61 hin dX12_tellApart_16 ?_
    refine r_shl dX12_tellApart_17 ?_
    refine r_icmp_ge 53 dX12_tellApart_18 (by decide) (fun hc => ?_) (fun hc => ?_)
    · replace h := kbG_t hc h
      refine r_le [none, some (.int v1), none] ⟨rfl, trivial⟩ ?_
      exact hx v1 (kbG_some h)
    · replace h := kbG_f hc h
      refine r_iload_n dX12_tellApart_21 rfl ?_
      refine r_iconst (-1) dX12_tellApart_22 (by decide) ?_
      refine r_icmp_eq 37 dX12_tellApart_23 (by decide) (fun hc => ?_) (fun hc => ?_)
      · replace h := kbG_t hc h
        refine r_le [some (.ref 57), some (.int v1), some (.int v2)] ⟨rfl, ⟨rfl, ⟨rfl, trivial⟩⟩⟩ ?_
        exact jnR_MD_tellApart_37 n v1 v2 μ (hx := hx) (hrec := ih) h
      · replace h := kbG_f hc h
        refine r_iload_n dX12_tellApart_26 rfl ?_
        obtain ⟨x2, hx0, h⟩ := kbG_bind h
        refine r_inv_i csX12_427 (sp_MD_bitsOf n v2 μ hx0) rfl rfl (Nat.le_of_ble_eq_true rfl) (Nat.le_of_ble_eq_true rfl) dX12_tellApart_27 ?_
        refine r_iload_n dX12_tellApart_30 rfl ?_
        obtain ⟨x3, hx0, h⟩ := kbG_bind h
        refine r_inv_i csX12_427 (sp_MD_bitsOf n v1 μ hx0) rfl rfl (Nat.le_of_ble_eq_true rfl) (Nat.le_of_ble_eq_true rfl) dX12_tellApart_31 ?_
        refine r_icmp_ge 47 dX12_tellApart_34 (by decide) (fun hc => ?_) (fun hc => ?_)
        · replace h := kbG_t hc h
          refine r_le [some (.ref 57), some (.int v1), some (.int v2)] ⟨rfl, ⟨rfl, ⟨rfl, trivial⟩⟩⟩ ?_
          exact jnR_MD_tellApart_47 n v1 v2 μ (hx := hx) (hrec := ih) h
        · replace h := kbG_f hc h
          refine r_le [some (.ref 57), some (.int v1), some (.int v2)] ⟨rfl, ⟨rfl, ⟨rfl, trivial⟩⟩⟩ ?_
          exact jnR_MD_tellApart_37 n v1 v2 μ (hx := hx) (hrec := ih) h
def f_MD_tellApart (n : Nat) (μ : kbM) : Option (Int32 × kbM) :=
  (lp_MD_tellApart_9 n (kbW μ 57 3 0) n (-1) 0).bind fun x4 =>
  some ((x4, kbW μ 57 3 0))
theorem sp_MD_tellApart {l : Launch} (n : Nat) (μ : kbM)  {x : Int32 × kbM} (h : f_MD_tellApart n μ = some x) : kbS l MX12_tellApart 5 [.ref 57] μ (kbQe (some (.int x.1)) x.2) := by
  refine kb_enter 2 rfl rfl ?_
  suffices H : ∀ (Q : kbQt) (P : Int32 × kbM → Prop), (∀ z : Int32 × kbM, P z → Q (some (.int z.1)) z.2) → kbG (f_MD_tellApart n μ) P → kbR l MX12_tellApart 5 Q 0 [some (.ref 57), none, none] [] μ from H _ (fun z => z = x) (fun z e => by subst e; exact ⟨rfl, rfl⟩) ⟨x, h, rfl⟩
  clear h
  intro Q P hr h
  unfold f_MD_tellApart at h
  refine r_aload_n dX12_tellApart_0 rfl ?_
  refine r_iconst 0 dX12_tellApart_1 (by decide) ?_
  refine r_put flX12_159 sh57 rfl rfl rfl dX12_tellApart_2 ?_
  refine r_iconst (-1) dX12_tellApart_5 (by decide) ?_
  refine r_istore_n dX12_tellApart_6 (Nat.le_of_ble_eq_true rfl) rfl ?_
  refine r_iconst 0 dX12_tellApart_7 (by decide) ?_
  refine r_istore_n dX12_tellApart_8 (Nat.le_of_ble_eq_true rfl) rfl ?_
  refine r_le [some (.ref 57), some (.int (-1)), some (.int 0)] ⟨rfl, ⟨rfl, ⟨rfl, trivial⟩⟩⟩ ?_
  obtain ⟨x4, hx0, h⟩ := kbG_bind h
  refine lpR_MD_tellApart_9 n (kbW μ 57 3 0) (P := fun z => x4 = z) (hx := fun z e => ?_) n _ _ ⟨_, hx0, rfl⟩
  subst e
  refine r_iload_n dX12_tellApart_53 rfl ?_
  exact r_iret rfl dX12_tellApart_54 (hr ((x4, kbW μ 57 3 0)) (kbG_some h))
def lp_MD_isNew_49 (n : Nat) (v1 : Int32) (v2 : Int32) (v3 : Int32) (μ : kbM) : Nat → Int32 → Option ((Int32) ⊕ (Unit))
  | 0, _ => none
  | k + 1, v4 =>
    if (μ.1 57 27) ≤ v4 then
      some (.inr (()))
    else
      (f_MD_heardAt n v3 v1 μ).bind fun x3 =>
      kbIf (kbIn v4 10) <|
      (f_MD_heardAt n v3 (μ.1 70 v4.toNatClampNeg) μ).bind fun x4 =>
      if x3 = x4 then
        some (.inl 0)
      else
        lp_MD_isNew_49 n v1 v2 v3 μ k (v4 + 1)
theorem lpR_MD_isNew_49 {l : Launch} (n : Nat) (v1 : Int32) (v2 : Int32) (v3 : Int32) (μ : kbM)  {Q : kbQt} {P : (Int32) ⊕ (Unit) → Prop} (hr : ∀ z : Int32, P (.inl z) → Q (some (.int z)) μ) (hx : ∀ z : Unit, P (.inr z) → kbR l MX12_isNew 3 Q 87 [some (.ref 57), some (.int v1), some (.int v2), some (.int v3), none] [] μ) : ∀ (k : Nat) (v4 : Int32), kbG (lp_MD_isNew_49 n v1 v2 v3 μ k v4) P → kbR l MX12_isNew 3 Q 49 [some (.ref 57), some (.int v1), some (.int v2), some (.int v3), some (.int v4)] [] μ := by
  intro k
  induction k with
  | zero => intro v4 h; exact absurd h kbG_none
  | succ k ih =>
    intro v4 h
    unfold lp_MD_isNew_49 at h
    refine r_iload dX12_isNew_49 rfl ?_
    refine r_aload_n dX12_isNew_51 rfl ?_
    refine r_getI flX12_162 sh57 rfl dX12_isNew_52 ?_
    refine r_icmp_ge 87 dX12_isNew_55 (by decide) (fun hc => ?_) (fun hc => ?_)
    · replace h := kbG_t hc h
      refine r_le [some (.ref 57), some (.int v1), some (.int v2), some (.int v3), none] ⟨rfl, ⟨rfl, ⟨rfl, ⟨rfl, trivial⟩⟩⟩⟩ ?_
      exact hx (()) (kbG_some h)
    · replace h := kbG_f hc h
      refine r_aload_n dX12_isNew_58 rfl ?_
      refine r_iload_n dX12_isNew_59 rfl ?_
      refine r_iload_n dX12_isNew_60 rfl ?_
      obtain ⟨x3, hx0, h⟩ := kbG_bind h
      refine r_invV_i cvX12_328 sh57 rfl (sp_MD_heardAt n v3 v1 μ hx0) rfl rfl (Nat.le_of_ble_eq_true rfl) (Nat.le_of_ble_eq_true rfl) dX12_isNew_61 ?_
      refine r_aload_n dX12_isNew_64 rfl ?_
      refine r_iload_n dX12_isNew_65 rfl ?_
      refine r_aload_n dX12_isNew_66 rfl ?_
      refine r_getR flX12_79 sh57 rfl dX12_isNew_67 ?_
      refine r_iload dX12_isNew_70 rfl ?_
      obtain ⟨hin, h⟩ := kbG_if h
      replace hin := kbIn_of hin
      refine q_iald v4.toNatClampNeg rfl sh70 hin dX12_isNew_72 ?_
      obtain ⟨x4, hx0, h⟩ := kbG_bind h
      refine r_invV_i cvX12_328 sh57 rfl (sp_MD_heardAt n v3 (μ.1 70 v4.toNatClampNeg) μ hx0) rfl rfl (Nat.le_of_ble_eq_true rfl) (Nat.le_of_ble_eq_true rfl) dX12_isNew_73 ?_
      refine r_icmp_ne 81 dX12_isNew_76 (by decide) (fun hc => ?_) (fun hc => ?_)
      · replace h := kbG_f hc h
        refine r_iinc 1 dX12_isNew_81 rfl (by decide) (Nat.le_of_ble_eq_true rfl) rfl ?_
        refine r_goto 49 dX12_isNew_84 (by decide) ?_
        refine r_le [some (.ref 57), some (.int v1), some (.int v2), some (.int v3), some (.int (v4 + 1))] ⟨rfl, ⟨rfl, ⟨rfl, ⟨rfl, ⟨rfl, trivial⟩⟩⟩⟩⟩ ?_
        exact ih (v4 + 1) h
      · replace h := kbG_t hc h
        refine r_iconst 0 dX12_isNew_79 (by decide) ?_
        exact r_zret rfl rfl dX12_isNew_80 (hr 0 (kbG_some h))
def jn_MD_isNew_46 (n : Nat) (rec : Int32 → Option ((Int32) ⊕ (Unit))) (v1 : Int32) (v2 : Int32) (v3 : Int32) (μ : kbM) : Option ((Int32) ⊕ (Unit)) :=
  kbOr (lp_MD_isNew_49 n v1 v2 v3 μ n 0) (fun r6 => some (.inl r6)) fun x5 =>
  rec (v3 + 1)
theorem jnR_MD_isNew_46 {l : Launch} (n : Nat)   (v1 : Int32) (v2 : Int32) (v3 : Int32) (μ : kbM) {Q : kbQt} {P : (Int32) ⊕ (Unit) → Prop} (hr : ∀ z : Int32, P (.inl z) → Q (some (.int z)) μ) (hx : ∀ z : Unit, P (.inr z) → kbR l MX12_isNew 3 Q 93 [none, none, none, none, none] [] μ) {rec : Int32 → Option ((Int32) ⊕ (Unit))} (hrec : ∀ (v3 : Int32), kbG (rec v3) P → kbR l MX12_isNew 3 Q 13 [some (.ref 57), some (.int v1), some (.int v2), some (.int v3), none] [] μ) (h : kbG (jn_MD_isNew_46 n rec v1 v2 v3 μ) P) : kbR l MX12_isNew 3 Q 46 [some (.ref 57), some (.int v1), some (.int v2), some (.int v3), none] [] μ := by
  unfold jn_MD_isNew_46 at h
  refine r_iconst 0 dX12_isNew_46 (by decide) ?_
  refine r_istore dX12_isNew_47 (Nat.le_of_ble_eq_true rfl) rfl ?_
  refine r_le [some (.ref 57), some (.int v1), some (.int v2), some (.int v3), some (.int 0)] ⟨rfl, ⟨rfl, ⟨rfl, ⟨rfl, ⟨rfl, trivial⟩⟩⟩⟩⟩ ?_
  rcases kbG_or h with ⟨r6, hx0, h⟩ | ⟨x5, hx0, h⟩
  · exact lpR_MD_isNew_49 n v1 v2 v3 μ (P := fun z => .inl r6 = z) (hr := fun z e => by cases e; exact hr _ (kbG_some h)) (hx := fun z e => by cases e) n _ ⟨_, hx0, rfl⟩
  · refine lpR_MD_isNew_49 n v1 v2 v3 μ (P := fun z => .inr x5 = z) (hr := fun z e => by cases e) (hx := fun z e => ?_) n _ ⟨_, hx0, rfl⟩
    cases e
    refine r_iinc 1 dX12_isNew_87 rfl (by decide) (Nat.le_of_ble_eq_true rfl) rfl ?_
    refine r_goto 13 dX12_isNew_90 (by decide) ?_
    refine r_le [some (.ref 57), some (.int v1), some (.int v2), some (.int (v3 + 1)), none] ⟨rfl, ⟨rfl, ⟨rfl, ⟨rfl, trivial⟩⟩⟩⟩ ?_
    exact hrec (v3 + 1) h
def lp_MD_isNew_13 (n : Nat) (v1 : Int32) (v2 : Int32) (μ : kbM) : Nat → Int32 → Option ((Int32) ⊕ (Unit))
  | 0, _ => none
  | k + 1, v3 =>
    if (μ.1 61 1) ≤ v3 then
      some (.inr (()))
    else
      (f_MD_isOf v2 v3).bind fun x2 =>
      if x2 = 0 then
        jn_MD_isNew_46 n (lp_MD_isNew_13 n v1 v2 μ k) v1 v2 v3 μ
      else
        kbIf (kbIn v3 12) <|
        (f_MD_can n (μ.1 66 v3.toNatClampNeg) v1).bind fun x7 =>
        if x7 = 0 then
          some (.inl 0)
        else
          jn_MD_isNew_46 n (lp_MD_isNew_13 n v1 v2 μ k) v1 v2 v3 μ
theorem lpR_MD_isNew_13 {l : Launch} (n : Nat) (v1 : Int32) (v2 : Int32) (μ : kbM)  {Q : kbQt} {P : (Int32) ⊕ (Unit) → Prop} (hr : ∀ z : Int32, P (.inl z) → Q (some (.int z)) μ) (hx : ∀ z : Unit, P (.inr z) → kbR l MX12_isNew 3 Q 93 [none, none, none, none, none] [] μ) : ∀ (k : Nat) (v3 : Int32), kbG (lp_MD_isNew_13 n v1 v2 μ k v3) P → kbR l MX12_isNew 3 Q 13 [some (.ref 57), some (.int v1), some (.int v2), some (.int v3), none] [] μ := by
  intro k
  induction k with
  | zero => intro v3 h; exact absurd h kbG_none
  | succ k ih =>
    intro v3 h
    unfold lp_MD_isNew_13 at h
    refine r_iload_n dX12_isNew_13 rfl ?_
    refine r_aload_n dX12_isNew_14 rfl ?_
    refine r_getR flX12_47 sh57 rfl dX12_isNew_15 ?_
    refine r_iconst 1 dX12_isNew_18 (by decide) ?_
    have hin : vp_in 1 6 := kbIn_of (by decide)
    refine q_iald 1 (by decide) sh61 hin dX12_isNew_19 ?_
    refine r_icmp_ge 93 dX12_isNew_20 (by decide) (fun hc => ?_) (fun hc => ?_)
    · replace h := kbG_t hc h
      refine r_le [none, none, none, none, none] trivial ?_
      exact hx (()) (kbG_some h)
    · replace h := kbG_f hc h
      refine r_iload_n dX12_isNew_23 rfl ?_
      refine r_iload_n dX12_isNew_24 rfl ?_
      obtain ⟨x2, hx0, h⟩ := kbG_bind h
      refine r_inv_i csX12_318 (sp_MD_isOf v2 v3 μ hx0) rfl rfl (Nat.le_of_ble_eq_true rfl) (Nat.le_of_ble_eq_true rfl) dX12_isNew_25 ?_
      refine r_if_eq 46 dX12_isNew_28 (by decide) (fun hc => ?_) (fun hc => ?_)
      · replace h := kbG_t hc h
        refine r_le [some (.ref 57), some (.int v1), some (.int v2), some (.int v3), none] ⟨rfl, ⟨rfl, ⟨rfl, ⟨rfl, trivial⟩⟩⟩⟩ ?_
        exact jnR_MD_isNew_46 n v1 v2 v3 μ (hr := hr) (hx := hx) (hrec := ih) h
      · replace h := kbG_f hc h
        refine r_aload_n dX12_isNew_31 rfl ?_
        refine r_getR flX12_63 sh57 rfl dX12_isNew_32 ?_
        refine r_iload_n dX12_isNew_35 rfl ?_
        obtain ⟨hin, h⟩ := kbG_if h
        replace hin := kbIn_of hin
        refine q_iald v3.toNatClampNeg rfl sh66 hin dX12_isNew_36 ?_
        refine r_iload_n dX12_isNew_37 rfl ?_
        obtain ⟨x7, hx0, h⟩ := kbG_bind h
        refine r_inv_i csX12_325 (sp_MD_can n (μ.1 66 v3.toNatClampNeg) v1 μ hx0) rfl rfl (Nat.le_of_ble_eq_true rfl) (Nat.le_of_ble_eq_true rfl) dX12_isNew_38 ?_
        refine r_if_ne 46 dX12_isNew_41 (by decide) (fun hc => ?_) (fun hc => ?_)
        · replace h := kbG_f hc h
          refine r_le [some (.ref 57), some (.int v1), some (.int v2), some (.int v3), none] ⟨rfl, ⟨rfl, ⟨rfl, ⟨rfl, trivial⟩⟩⟩⟩ ?_
          exact jnR_MD_isNew_46 n v1 v2 v3 μ (hr := hr) (hx := hx) (hrec := ih) h
        · replace h := kbG_t hc h
          refine r_iconst 0 dX12_isNew_44 (by decide) ?_
          exact r_zret rfl rfl dX12_isNew_45 (hr 0 (kbG_some h))
def f_MD_isNew (n : Nat) (a1 : Int32) (a2 : Int32) (μ : kbM) : Option (Int32) :=
  (f_MD_wordBy n a1 μ).bind fun x1 =>
  if x1 = (-1) then
    kbOr (lp_MD_isNew_13 n a1 a2 μ n 0) (fun r9 => some r9) fun x8 =>
    some 1
  else
    some 0
theorem sp_MD_isNew {l : Launch} (n : Nat) (a1 : Int32) (a2 : Int32) (μ : kbM)  {x : Int32} (h : f_MD_isNew n a1 a2 μ = some x) : kbS l MX12_isNew 3 [.ref 57, .int a1, .int a2] μ (kbQe (some (.int x)) μ) := by
  refine kb_enter 2 rfl rfl ?_
  suffices H : ∀ (Q : kbQt) (P : Int32 → Prop), (∀ z : Int32, P z → Q (some (.int z)) μ) → kbG (f_MD_isNew n a1 a2 μ) P → kbR l MX12_isNew 3 Q 0 [some (.ref 57), some (.int a1), some (.int a2), none, none] [] μ from H _ (fun z => z = x) (fun z e => by subst e; exact ⟨rfl, rfl⟩) ⟨x, h, rfl⟩
  clear h
  intro Q P hr h
  unfold f_MD_isNew at h
  refine r_aload_n dX12_isNew_0 rfl ?_
  refine r_iload_n dX12_isNew_1 rfl ?_
  obtain ⟨x1, hx0, h⟩ := kbG_bind h
  refine r_invV_i cvX12_386 sh57 rfl (sp_MD_wordBy n a1 μ hx0) rfl rfl (Nat.le_of_ble_eq_true rfl) (Nat.le_of_ble_eq_true rfl) dX12_isNew_2 ?_
  refine r_iconst (-1) dX12_isNew_5 (by decide) ?_
  refine r_icmp_eq 11 dX12_isNew_6 (by decide) (fun hc => ?_) (fun hc => ?_)
  · replace h := kbG_t hc h
    refine r_iconst 0 dX12_isNew_11 (by decide) ?_
    refine r_istore_n dX12_isNew_12 (Nat.le_of_ble_eq_true rfl) rfl ?_
    refine r_le [some (.ref 57), some (.int a1), some (.int a2), some (.int 0), none] ⟨rfl, ⟨rfl, ⟨rfl, ⟨rfl, trivial⟩⟩⟩⟩ ?_
    rcases kbG_or h with ⟨r9, hx0, h⟩ | ⟨x8, hx0, h⟩
    · exact lpR_MD_isNew_13 n a1 a2 μ (P := fun z => .inl r9 = z) (hr := fun z e => by cases e; exact hr _ (kbG_some h)) (hx := fun z e => by cases e) n _ ⟨_, hx0, rfl⟩
    · refine lpR_MD_isNew_13 n a1 a2 μ (P := fun z => .inr x8 = z) (hr := fun z e => by cases e) (hx := fun z e => ?_) n _ ⟨_, hx0, rfl⟩
      cases e
      refine r_iconst 1 dX12_isNew_93 (by decide) ?_
      exact r_zret rfl rfl dX12_isNew_94 (hr 1 (kbG_some h))
  · replace h := kbG_f hc h
    refine r_iconst 0 dX12_isNew_9 (by decide) ?_
    exact r_zret rfl rfl dX12_isNew_10 (hr 0 (kbG_some h))
def jn_MD_newWord_59 (n : Nat) (rec : Int32 → Option ((Int32 × kbM) ⊕ (Unit))) (v1 : Int32) (v2 : Int32) (μ : kbM) : Option ((Int32 × kbM) ⊕ (Unit)) :=
  rec (v2 + 1)
theorem jnR_MD_newWord_59 {l : Launch} (n : Nat)   (v1 : Int32) (v2 : Int32) (μ : kbM) {Q : kbQt} {P : (Int32 × kbM) ⊕ (Unit) → Prop} (hr : ∀ z : Int32 × kbM, P (.inl z) → Q (some (.int z.1)) z.2) (hx : ∀ z : Unit, P (.inr z) → kbR l MX12_newWord 4 Q 65 [none, none, none] [] μ) {rec : Int32 → Option ((Int32 × kbM) ⊕ (Unit))} (hrec : ∀ (v2 : Int32), kbG (rec v2) P → kbR l MX12_newWord 4 Q 33 [some (.ref 57), some (.int v1), some (.int v2)] [] μ) (h : kbG (jn_MD_newWord_59 n rec v1 v2 μ) P) : kbR l MX12_newWord 4 Q 59 [some (.ref 57), some (.int v1), some (.int v2)] [] μ := by
  unfold jn_MD_newWord_59 at h
  refine r_iinc 1 dX12_newWord_59 rfl (by decide) (Nat.le_of_ble_eq_true rfl) rfl ?_
  refine r_goto 33 dX12_newWord_62 (by decide) ?_
  refine r_le [some (.ref 57), some (.int v1), some (.int (v2 + 1))] ⟨rfl, ⟨rfl, ⟨rfl, trivial⟩⟩⟩ ?_
  exact hrec (v2 + 1) h
def lp_MD_newWord_33 (n : Nat) (v1 : Int32) (μ : kbM) : Nat → Int32 → Option ((Int32 × kbM) ⊕ (Unit))
  | 0, _ => none
  | k + 1, v2 =>
    (f_MD_power n 4).bind fun x2 =>
    if x2 ≤ v2 then
      some (.inr (()))
    else
      (f_MD_isRow n v2).bind fun x3 =>
      if x3 = 0 then
        jn_MD_newWord_59 n (lp_MD_newWord_33 n v1 μ k) v1 v2 μ
      else
        (f_MD_isNew n v2 v1 μ).bind fun x4 =>
        if x4 = 0 then
          jn_MD_newWord_59 n (lp_MD_newWord_33 n v1 μ k) v1 v2 μ
        else
          some (.inl ((v2, μ)))
theorem lpR_MD_newWord_33 {l : Launch} (n : Nat) (v1 : Int32) (μ : kbM)  {Q : kbQt} {P : (Int32 × kbM) ⊕ (Unit) → Prop} (hr : ∀ z : Int32 × kbM, P (.inl z) → Q (some (.int z.1)) z.2) (hx : ∀ z : Unit, P (.inr z) → kbR l MX12_newWord 4 Q 65 [none, none, none] [] μ) : ∀ (k : Nat) (v2 : Int32), kbG (lp_MD_newWord_33 n v1 μ k v2) P → kbR l MX12_newWord 4 Q 33 [some (.ref 57), some (.int v1), some (.int v2)] [] μ := by
  intro k
  induction k with
  | zero => intro v2 h; exact absurd h kbG_none
  | succ k ih =>
    intro v2 h
    unfold lp_MD_newWord_33 at h
    refine r_iload_n dX12_newWord_33 rfl ?_
    refine r_iconst 4 dX12_newWord_34 (by decide) ?_
    obtain ⟨x2, hx0, h⟩ := kbG_bind h
    refine r_inv_i csX12_408 (sp_MD_power n 4 μ hx0) rfl rfl (Nat.le_of_ble_eq_true rfl) (Nat.le_of_ble_eq_true rfl) dX12_newWord_35 ?_
    refine r_icmp_ge 65 dX12_newWord_38 (by decide) (fun hc => ?_) (fun hc => ?_)
    · replace h := kbG_t hc h
      refine r_le [none, none, none] trivial ?_
      exact hx (()) (kbG_some h)
    · replace h := kbG_f hc h
      refine r_iload_n dX12_newWord_41 rfl ?_
      obtain ⟨x3, hx0, h⟩ := kbG_bind h
      refine r_inv_i csX12_345 (sp_MD_isRow n v2 μ hx0) rfl rfl (Nat.le_of_ble_eq_true rfl) (Nat.le_of_ble_eq_true rfl) dX12_newWord_42 ?_
      refine r_if_eq 59 dX12_newWord_45 (by decide) (fun hc => ?_) (fun hc => ?_)
      · replace h := kbG_t hc h
        refine r_le [some (.ref 57), some (.int v1), some (.int v2)] ⟨rfl, ⟨rfl, ⟨rfl, trivial⟩⟩⟩ ?_
        exact jnR_MD_newWord_59 n v1 v2 μ (hr := hr) (hx := hx) (hrec := ih) h
      · replace h := kbG_f hc h
        refine r_aload_n dX12_newWord_48 rfl ?_
        refine r_iload_n dX12_newWord_49 rfl ?_
        refine r_iload_n dX12_newWord_50 rfl ?_
        obtain ⟨x4, hx0, h⟩ := kbG_bind h
        refine r_invV_i cvX12_433 sh57 rfl (sp_MD_isNew n v2 v1 μ hx0) rfl rfl (Nat.le_of_ble_eq_true rfl) (Nat.le_of_ble_eq_true rfl) dX12_newWord_51 ?_
        refine r_if_eq 59 dX12_newWord_54 (by decide) (fun hc => ?_) (fun hc => ?_)
        · replace h := kbG_t hc h
          refine r_le [some (.ref 57), some (.int v1), some (.int v2)] ⟨rfl, ⟨rfl, ⟨rfl, trivial⟩⟩⟩ ?_
          exact jnR_MD_newWord_59 n v1 v2 μ (hr := hr) (hx := hx) (hrec := ih) h
        · replace h := kbG_f hc h
          refine r_iload_n dX12_newWord_57 rfl ?_
          exact r_iret rfl dX12_newWord_58 (hr ((v2, μ)) (kbG_some h))
def f_MD_newWord (n : Nat) (a1 : Int32) (μ : kbM) : Option (Int32 × kbM) :=
  (f_MD_isIn a1.toInt64 0 (((kbShl 1 ((kbW μ 57 3 0).1 61 1)) - 1).toInt64)).bind fun x1 =>
  if x1 = 0 then
    (f_MD_fail 1 (kbW μ 57 3 0)).bind fun x7 =>
    some ((x7.1, x7.2))
  else
    kbOr (lp_MD_newWord_33 n a1 (kbW μ 57 3 0) n 1) (fun r6 => some r6) fun x5 =>
    some (((-1), kbW μ 57 3 0))
theorem sp_MD_newWord {l : Launch} (n : Nat) (a1 : Int32) (μ : kbM)  {x : Int32 × kbM} (h : f_MD_newWord n a1 μ = some x) : kbS l MX12_newWord 4 [.ref 57, .int a1] μ (kbQe (some (.int x.1)) x.2) := by
  refine kb_enter 1 rfl rfl ?_
  suffices H : ∀ (Q : kbQt) (P : Int32 × kbM → Prop), (∀ z : Int32 × kbM, P z → Q (some (.int z.1)) z.2) → kbG (f_MD_newWord n a1 μ) P → kbR l MX12_newWord 4 Q 0 [some (.ref 57), some (.int a1), none] [] μ from H _ (fun z => z = x) (fun z e => by subst e; exact ⟨rfl, rfl⟩) ⟨x, h, rfl⟩
  clear h
  intro Q P hr h
  unfold f_MD_newWord at h
  refine r_aload_n dX12_newWord_0 rfl ?_
  refine r_iconst 0 dX12_newWord_1 (by decide) ?_
  refine r_put flX12_159 sh57 rfl rfl rfl dX12_newWord_2 ?_
  refine r_iload_n dX12_newWord_5 rfl ?_
  refine r_i2l dX12_newWord_6 ?_
  refine r_lconst 0 dX12_newWord_7 (by decide) ?_
  refine r_iconst 1 dX12_newWord_8 (by decide) ?_
  refine r_aload_n dX12_newWord_9 rfl ?_
  refine r_getR flX12_47 sh57 rfl dX12_newWord_10 ?_
  refine r_iconst 1 dX12_newWord_13 (by decide) ?_
  have hin : vp_in 1 6 := kbIn_of (by decide)
  refine q_iald 1 (by decide) sh61 hin dX12_newWord_14 ?_
  refine r_shl dX12_newWord_15 ?_
  refine r_iconst 1 dX12_newWord_16 (by decide) ?_
  refine r_isub dX12_newWord_17 ?_
  refine r_i2l dX12_newWord_18 ?_
  obtain ⟨x1, hx0, h⟩ := kbG_bind h
  refine r_inv_i csX12_165 (sp_MD_isIn a1.toInt64 0 (((kbShl 1 ((kbW μ 57 3 0).1 61 1)) - 1).toInt64) (kbW μ 57 3 0) hx0) rfl rfl (Nat.le_of_ble_eq_true rfl) (Nat.le_of_ble_eq_true rfl) dX12_newWord_19 ?_
  refine r_if_ne 31 dX12_newWord_22 (by decide) (fun hc => ?_) (fun hc => ?_)
  · replace h := kbG_f hc h
    refine r_iconst 1 dX12_newWord_31 (by decide) ?_
    refine r_istore_n dX12_newWord_32 (Nat.le_of_ble_eq_true rfl) rfl ?_
    refine r_le [some (.ref 57), some (.int a1), some (.int 1)] ⟨rfl, ⟨rfl, ⟨rfl, trivial⟩⟩⟩ ?_
    rcases kbG_or h with ⟨r6, hx0, h⟩ | ⟨x5, hx0, h⟩
    · exact lpR_MD_newWord_33 n a1 (kbW μ 57 3 0) (P := fun z => .inl r6 = z) (hr := fun z e => by cases e; exact hr _ (kbG_some h)) (hx := fun z e => by cases e) n _ ⟨_, hx0, rfl⟩
    · refine lpR_MD_newWord_33 n a1 (kbW μ 57 3 0) (P := fun z => .inr x5 = z) (hr := fun z e => by cases e) (hx := fun z e => ?_) n _ ⟨_, hx0, rfl⟩
      cases e
      refine r_iconst (-1) dX12_newWord_65 (by decide) ?_
      exact r_iret rfl dX12_newWord_66 (hr (((-1), kbW μ 57 3 0)) (kbG_some h))
  · replace h := kbG_t hc h
    refine r_aload_n dX12_newWord_25 rfl ?_
    refine r_iconst 1 dX12_newWord_26 (by decide) ?_
    obtain ⟨x7, hx0, h⟩ := kbG_bind h
    refine r_invV_i cvX12_292 sh57 rfl (sp_MD_fail 1 (kbW μ 57 3 0) hx0) rfl rfl (Nat.le_of_ble_eq_true rfl) (Nat.le_of_ble_eq_true rfl) dX12_newWord_27 ?_
    exact r_iret rfl dX12_newWord_30 (hr ((x7.1, x7.2)) (kbG_some h))
def jn_MD_span_45 (n : Nat) (w0 : Int32) (μ : kbM) : Option (Int32 × kbM) :=
  some ((w0, μ))
theorem jnR_MD_span_45 {l : Launch} (n : Nat)   (w0 : Int32) (μ : kbM) {Q : kbQt} {P : Int32 × kbM → Prop} (hr : ∀ z : Int32 × kbM, P z → Q (some (.int z.1)) z.2) (h : kbG (jn_MD_span_45 n w0 μ) P) : kbR l MX12_span 4 Q 45 [none, none, none] [.int w0] μ := by
  unfold jn_MD_span_45 at h
  exact r_iret rfl dX12_span_45 (hr ((w0, μ)) (kbG_some h))
def jn_MD_span_40 (n : Nat) (μ : kbM) : Option (Int32 × kbM) :=
  (f_MD_fail 1 μ).bind fun x2 =>
  jn_MD_span_45 n x2.1 x2.2
theorem jnR_MD_span_40 {l : Launch} (n : Nat)    (μ : kbM) {Q : kbQt} {P : Int32 × kbM → Prop} (hr : ∀ z : Int32 × kbM, P z → Q (some (.int z.1)) z.2) (h : kbG (jn_MD_span_40 n μ) P) : kbR l MX12_span 4 Q 40 [some (.ref 57), none, none] [] μ := by
  unfold jn_MD_span_40 at h
  refine r_aload_n dX12_span_40 rfl ?_
  refine r_iconst 1 dX12_span_41 (by decide) ?_
  obtain ⟨x2, hx0, h⟩ := kbG_bind h
  refine r_invV_i cvX12_292 sh57 rfl (sp_MD_fail 1 μ hx0) rfl rfl (Nat.le_of_ble_eq_true rfl) (Nat.le_of_ble_eq_true rfl) dX12_span_42 ?_
  refine r_le [none, none, none] trivial ?_
  exact jnR_MD_span_45 n x2.1 x2.2 (hr := hr) h
def f_MD_span (n : Nat) (a1 : Int32) (a2 : Int32) (μ : kbM) : Option (Int32 × kbM) :=
  (f_MD_isWord a1 (kbW μ 57 3 0)).bind fun x1 =>
  if x1 = 0 then
    jn_MD_span_40 n (kbW μ 57 3 0)
  else
    (f_MD_isWord a2 (kbW μ 57 3 0)).bind fun x3 =>
    if x3 = 0 then
      jn_MD_span_40 n (kbW μ 57 3 0)
    else
      kbIf (kbIn a1 10) <|
      kbIf (kbIn a2 10) <|
      (f_MD_apartBy n ((kbW μ 57 3 0).1 70 a1.toNatClampNeg) ((kbW μ 57 3 0).1 70 a2.toNatClampNeg) (kbW μ 57 3 0)).bind fun x4 =>
      jn_MD_span_45 n x4.1 x4.2
theorem sp_MD_span {l : Launch} (n : Nat) (a1 : Int32) (a2 : Int32) (μ : kbM)  {x : Int32 × kbM} (h : f_MD_span n a1 a2 μ = some x) : kbS l MX12_span 4 [.ref 57, .int a1, .int a2] μ (kbQe (some (.int x.1)) x.2) := by
  refine kb_enter 0 rfl rfl ?_
  suffices H : ∀ (Q : kbQt) (P : Int32 × kbM → Prop), (∀ z : Int32 × kbM, P z → Q (some (.int z.1)) z.2) → kbG (f_MD_span n a1 a2 μ) P → kbR l MX12_span 4 Q 0 [some (.ref 57), some (.int a1), some (.int a2)] [] μ from H _ (fun z => z = x) (fun z e => by subst e; exact ⟨rfl, rfl⟩) ⟨x, h, rfl⟩
  clear h
  intro Q P hr h
  unfold f_MD_span at h
  refine r_aload_n dX12_span_0 rfl ?_
  refine r_iconst 0 dX12_span_1 (by decide) ?_
  refine r_put flX12_159 sh57 rfl rfl rfl dX12_span_2 ?_
  refine r_aload_n dX12_span_5 rfl ?_
  refine r_iload_n dX12_span_6 rfl ?_
  obtain ⟨x1, hx0, h⟩ := kbG_bind h
  refine r_invV_i cvX12_331 sh57 rfl (sp_MD_isWord a1 (kbW μ 57 3 0) hx0) rfl rfl (Nat.le_of_ble_eq_true rfl) (Nat.le_of_ble_eq_true rfl) dX12_span_7 ?_
  refine r_if_eq 40 dX12_span_10 (by decide) (fun hc => ?_) (fun hc => ?_)
  · replace h := kbG_t hc h
    refine r_le [some (.ref 57), none, none] ⟨rfl, trivial⟩ ?_
    exact jnR_MD_span_40 n  (kbW μ 57 3 0) (hr := hr) h
  · replace h := kbG_f hc h
    refine r_aload_n dX12_span_13 rfl ?_
    refine r_iload_n dX12_span_14 rfl ?_
    obtain ⟨x3, hx0, h⟩ := kbG_bind h
    refine r_invV_i cvX12_331 sh57 rfl (sp_MD_isWord a2 (kbW μ 57 3 0) hx0) rfl rfl (Nat.le_of_ble_eq_true rfl) (Nat.le_of_ble_eq_true rfl) dX12_span_15 ?_
    refine r_if_eq 40 dX12_span_18 (by decide) (fun hc => ?_) (fun hc => ?_)
    · replace h := kbG_t hc h
      refine r_le [some (.ref 57), none, none] ⟨rfl, trivial⟩ ?_
      exact jnR_MD_span_40 n  (kbW μ 57 3 0) (hr := hr) h
    · replace h := kbG_f hc h
      refine r_aload_n dX12_span_21 rfl ?_
      refine r_aload_n dX12_span_22 rfl ?_
      refine r_getR flX12_79 sh57 rfl dX12_span_23 ?_
      refine r_iload_n dX12_span_26 rfl ?_
      obtain ⟨hin, h⟩ := kbG_if h
      replace hin := kbIn_of hin
      refine q_iald a1.toNatClampNeg rfl sh70 hin dX12_span_27 ?_
      refine r_aload_n dX12_span_28 rfl ?_
      refine r_getR flX12_79 sh57 rfl dX12_span_29 ?_
      refine r_iload_n dX12_span_32 rfl ?_
      obtain ⟨hin, h⟩ := kbG_if h
      replace hin := kbIn_of hin
      refine q_iald a2.toNatClampNeg rfl sh70 hin dX12_span_33 ?_
      obtain ⟨x4, hx0, h⟩ := kbG_bind h
      refine r_invV_i cvX12_376 sh57 rfl (sp_MD_apartBy n ((kbW μ 57 3 0).1 70 a1.toNatClampNeg) ((kbW μ 57 3 0).1 70 a2.toNatClampNeg) (kbW μ 57 3 0) hx0) rfl rfl (Nat.le_of_ble_eq_true rfl) (Nat.le_of_ble_eq_true rfl) dX12_span_34 ?_
      refine r_goto 45 dX12_span_37 (by decide) ?_
      refine r_le [none, none, none] trivial ?_
      exact jnR_MD_span_45 n x4.1 x4.2 (hr := hr) h
def jn_MD_closest_14 (n : Nat) (μ : kbM) : Option (Int32 × kbM) :=
  (f_MD_fail 1 μ).bind fun x1 =>
  some ((x1.1, x1.2))
theorem jnR_MD_closest_14 {l : Launch} (n : Nat)    (μ : kbM) {Q : kbQt} {P : Int32 × kbM → Prop} (hr : ∀ z : Int32 × kbM, P z → Q (some (.int z.1)) z.2) (h : kbG (jn_MD_closest_14 n μ) P) : kbR l MX12_closest 4 Q 14 [some (.ref 57), none, none, none, none, none, none] [] μ := by
  unfold jn_MD_closest_14 at h
  refine r_aload_n dX12_closest_14 rfl ?_
  refine r_iconst 1 dX12_closest_15 (by decide) ?_
  obtain ⟨x1, hx0, h⟩ := kbG_bind h
  refine r_invV_i cvX12_292 sh57 rfl (sp_MD_fail 1 μ hx0) rfl rfl (Nat.le_of_ble_eq_true rfl) (Nat.le_of_ble_eq_true rfl) dX12_closest_16 ?_
  exact r_iret rfl dX12_closest_19 (hr ((x1.1, x1.2)) (kbG_some h))
def jn_MD_closest_93 (n : Nat) (rec : Int32 → Int32 → Int32 → kbM → Option (Int32 × Int32 × kbM)) (v1 : Int32) (v2 : Int32) (v3 : Int32) (v4 : Int32) (v5 : Int32) (μ : kbM) : Option (Int32 × Int32 × kbM) :=
  rec v2 v3 (v5 + 1) μ
theorem jnR_MD_closest_93 {l : Launch} (n : Nat)   (v1 : Int32) (v2 : Int32) (v3 : Int32) (v4 : Int32) (v5 : Int32) (μ : kbM) {Q : kbQt} {P : Int32 × Int32 × kbM → Prop} (hx : ∀ z : Int32 × Int32 × kbM, P (z) → kbR l MX12_closest 4 Q 99 [some (.ref 57), some (.int v1), some (.int z.1), some (.int z.2.1), some (.int v4), none, none] [] z.2.2) {rec : Int32 → Int32 → Int32 → kbM → Option (Int32 × Int32 × kbM)} (hrec : ∀ (v2 : Int32) (v3 : Int32) (v5 : Int32) (μ : kbM), kbG (rec v2 v3 v5 μ) P → kbR l MX12_closest 4 Q 43 [some (.ref 57), some (.int v1), some (.int v2), some (.int v3), some (.int v4), some (.int v5), none] [] μ) (h : kbG (jn_MD_closest_93 n rec v1 v2 v3 v4 v5 μ) P) : kbR l MX12_closest 4 Q 93 [some (.ref 57), some (.int v1), some (.int v2), some (.int v3), some (.int v4), some (.int v5), none] [] μ := by
  unfold jn_MD_closest_93 at h
  refine r_iinc 1 dX12_closest_93 rfl (by decide) (Nat.le_of_ble_eq_true rfl) rfl ?_
  refine r_goto 43 dX12_closest_96 (by decide) ?_
  refine r_le [some (.ref 57), some (.int v1), some (.int v2), some (.int v3), some (.int v4), some (.int (v5 + 1)), none] ⟨rfl, ⟨rfl, ⟨rfl, ⟨rfl, ⟨rfl, ⟨rfl, trivial⟩⟩⟩⟩⟩⟩ ?_
  exact hrec v2 v3 (v5 + 1) μ h
def lp_MD_closest_43 (n : Nat) (v1 : Int32) (v4 : Int32) : Nat → Int32 → Int32 → Int32 → kbM → Option (Int32 × Int32 × kbM)
  | 0, _, _, _, _ => none
  | k + 1, v2, v3, v5, μ =>
    if (μ.1 57 27) ≤ v5 then
      some ((v2, v3, μ))
    else
      kbIf (kbIn v4 10) <|
      kbIf (kbIn v5 10) <|
      (f_MD_apartBy n (μ.1 70 v4.toNatClampNeg) (μ.1 70 v5.toNatClampNeg) μ).bind fun x2 =>
      if x2.1 < v3 then
        jn_MD_closest_93 n (lp_MD_closest_43 n v1 v4 k) v1 ((10 * v4) + v5) x2.1 v4 v5 x2.2
      else
        jn_MD_closest_93 n (lp_MD_closest_43 n v1 v4 k) v1 v2 v3 v4 v5 x2.2
theorem lpR_MD_closest_43 {l : Launch} (n : Nat) (v1 : Int32) (v4 : Int32)  {Q : kbQt} {P : Int32 × Int32 × kbM → Prop} (hx : ∀ z : Int32 × Int32 × kbM, P (z) → kbR l MX12_closest 4 Q 99 [some (.ref 57), some (.int v1), some (.int z.1), some (.int z.2.1), some (.int v4), none, none] [] z.2.2) : ∀ (k : Nat) (v2 : Int32) (v3 : Int32) (v5 : Int32) (μ : kbM), kbG (lp_MD_closest_43 n v1 v4 k v2 v3 v5 μ) P → kbR l MX12_closest 4 Q 43 [some (.ref 57), some (.int v1), some (.int v2), some (.int v3), some (.int v4), some (.int v5), none] [] μ := by
  intro k
  induction k with
  | zero => intro v2 v3 v5 μ h; exact absurd h kbG_none
  | succ k ih =>
    intro v2 v3 v5 μ h
    unfold lp_MD_closest_43 at h
    refine r_iload dX12_closest_43 rfl ?_
    refine r_aload_n dX12_closest_45 rfl ?_
    refine r_getI flX12_162 sh57 rfl dX12_closest_46 ?_
    refine r_icmp_ge 99 dX12_closest_49 (by decide) (fun hc => ?_) (fun hc => ?_)
    · replace h := kbG_t hc h
      refine r_le [some (.ref 57), some (.int v1), some (.int v2), some (.int v3), some (.int v4), none, none] ⟨rfl, ⟨rfl, ⟨rfl, ⟨rfl, ⟨rfl, trivial⟩⟩⟩⟩⟩ ?_
      exact hx ((v2, v3, μ)) (kbG_some h)
    · replace h := kbG_f hc h
      refine r_aload_n dX12_closest_52 rfl ?_
      refine r_aload_n dX12_closest_53 rfl ?_
      refine r_getR flX12_79 sh57 rfl dX12_closest_54 ?_
      refine r_iload dX12_closest_57 rfl ?_
      obtain ⟨hin, h⟩ := kbG_if h
      replace hin := kbIn_of hin
      refine q_iald v4.toNatClampNeg rfl sh70 hin dX12_closest_59 ?_
      refine r_aload_n dX12_closest_60 rfl ?_
      refine r_getR flX12_79 sh57 rfl dX12_closest_61 ?_
      refine r_iload dX12_closest_64 rfl ?_
      obtain ⟨hin, h⟩ := kbG_if h
      replace hin := kbIn_of hin
      refine q_iald v5.toNatClampNeg rfl sh70 hin dX12_closest_66 ?_
      obtain ⟨x2, hx0, h⟩ := kbG_bind h
      refine r_invV_i cvX12_376 sh57 rfl (sp_MD_apartBy n (μ.1 70 v4.toNatClampNeg) (μ.1 70 v5.toNatClampNeg) μ hx0) rfl rfl (Nat.le_of_ble_eq_true rfl) (Nat.le_of_ble_eq_true rfl) dX12_closest_67 ?_
      refine r_istore dX12_closest_70 (Nat.le_of_ble_eq_true rfl) rfl ?_
      refine r_iload dX12_closest_72 rfl ?_
      refine r_iload_n dX12_closest_74 rfl ?_
      refine r_icmp_lt 81 dX12_closest_75 (by decide) (fun hc => ?_) (fun hc => ?_)
      · replace h := kbG_t hc h
        refine r_bipush 10 dX12_closest_81 (by decide) ?_
        refine r_iload dX12_closest_83 rfl ?_
        refine r_imul dX12_closest_85 ?_
        refine r_iload dX12_closest_86 rfl ?_
        refine r_iadd dX12_closest_88 ?_
        refine r_istore_n dX12_closest_89 (Nat.le_of_ble_eq_true rfl) rfl ?_
        refine r_iload dX12_closest_90 rfl ?_
        refine r_istore_n dX12_closest_92 (Nat.le_of_ble_eq_true rfl) rfl ?_
        refine r_le [some (.ref 57), some (.int v1), some (.int ((10 * v4) + v5)), some (.int x2.1), some (.int v4), some (.int v5), none] ⟨rfl, ⟨rfl, ⟨rfl, ⟨rfl, ⟨rfl, ⟨rfl, trivial⟩⟩⟩⟩⟩⟩ ?_
        exact jnR_MD_closest_93 n v1 ((10 * v4) + v5) x2.1 v4 v5 x2.2 (hx := hx) (hrec := ih) h
      · replace h := kbG_f hc h
        refine r_goto 93 dX12_closest_78 (by decide) ?_
        refine r_le [some (.ref 57), some (.int v1), some (.int v2), some (.int v3), some (.int v4), some (.int v5), none] ⟨rfl, ⟨rfl, ⟨rfl, ⟨rfl, ⟨rfl, ⟨rfl, trivial⟩⟩⟩⟩⟩⟩ ?_
        exact jnR_MD_closest_93 n v1 v2 v3 v4 v5 x2.2 (hx := hx) (hrec := ih) h
def lp_MD_closest_28 (n : Nat) (v1 : Int32) : Nat → Int32 → Int32 → Int32 → kbM → Option (Int32 × Int32 × kbM)
  | 0, _, _, _, _ => none
  | k + 1, v2, v3, v4, μ =>
    if (μ.1 57 27) ≤ v4 then
      some ((v2, v3, μ))
    else
      (lp_MD_closest_43 n v1 v4 n v2 v3 (v4 + 1) μ).bind fun x3 =>
      lp_MD_closest_28 n v1 k x3.1 x3.2.1 (v4 + 1) x3.2.2
theorem lpR_MD_closest_28 {l : Launch} (n : Nat) (v1 : Int32)  {Q : kbQt} {P : Int32 × Int32 × kbM → Prop} (hx : ∀ z : Int32 × Int32 × kbM, P (z) → kbR l MX12_closest 4 Q 105 [none, some (.int v1), some (.int z.1), some (.int z.2.1), none, none, none] [] z.2.2) : ∀ (k : Nat) (v2 : Int32) (v3 : Int32) (v4 : Int32) (μ : kbM), kbG (lp_MD_closest_28 n v1 k v2 v3 v4 μ) P → kbR l MX12_closest 4 Q 28 [some (.ref 57), some (.int v1), some (.int v2), some (.int v3), some (.int v4), none, none] [] μ := by
  intro k
  induction k with
  | zero => intro v2 v3 v4 μ h; exact absurd h kbG_none
  | succ k ih =>
    intro v2 v3 v4 μ h
    unfold lp_MD_closest_28 at h
    refine r_iload dX12_closest_28 rfl ?_
    refine r_aload_n dX12_closest_30 rfl ?_
    refine r_getI flX12_162 sh57 rfl dX12_closest_31 ?_
    refine r_icmp_ge 105 dX12_closest_34 (by decide) (fun hc => ?_) (fun hc => ?_)
    · replace h := kbG_t hc h
      refine r_le [none, some (.int v1), some (.int v2), some (.int v3), none, none, none] ⟨rfl, ⟨rfl, ⟨rfl, trivial⟩⟩⟩ ?_
      exact hx ((v2, v3, μ)) (kbG_some h)
    · replace h := kbG_f hc h
      refine r_iload dX12_closest_37 rfl ?_
      refine r_iconst 1 dX12_closest_39 (by decide) ?_
      refine r_iadd dX12_closest_40 ?_
      refine r_istore dX12_closest_41 (Nat.le_of_ble_eq_true rfl) rfl ?_
      refine r_le [some (.ref 57), some (.int v1), some (.int v2), some (.int v3), some (.int v4), some (.int (v4 + 1)), none] ⟨rfl, ⟨rfl, ⟨rfl, ⟨rfl, ⟨rfl, ⟨rfl, trivial⟩⟩⟩⟩⟩⟩ ?_
      obtain ⟨x3, hx0, h⟩ := kbG_bind h
      refine lpR_MD_closest_43 n v1 v4 (P := fun z => x3 = z) (hx := fun z e => ?_) n _ _ _ _ ⟨_, hx0, rfl⟩
      subst e
      refine r_iinc 1 dX12_closest_99 rfl (by decide) (Nat.le_of_ble_eq_true rfl) rfl ?_
      refine r_goto 28 dX12_closest_102 (by decide) ?_
      refine r_le [some (.ref 57), some (.int v1), some (.int x3.1), some (.int x3.2.1), some (.int (v4 + 1)), none, none] ⟨rfl, ⟨rfl, ⟨rfl, ⟨rfl, ⟨rfl, trivial⟩⟩⟩⟩⟩ ?_
      exact ih x3.1 x3.2.1 (v4 + 1) x3.2.2 h
def jn_MD_closest_120 (n : Nat) (w0 : Int32) (μ : kbM) : Option (Int32 × kbM) :=
  some ((w0, μ))
theorem jnR_MD_closest_120 {l : Launch} (n : Nat)   (w0 : Int32) (μ : kbM) {Q : kbQt} {P : Int32 × kbM → Prop} (hr : ∀ z : Int32 × kbM, P z → Q (some (.int z.1)) z.2) (h : kbG (jn_MD_closest_120 n w0 μ) P) : kbR l MX12_closest 4 Q 120 [none, none, none, none, none, none, none] [.int w0] μ := by
  unfold jn_MD_closest_120 at h
  exact r_iret rfl dX12_closest_120 (hr ((w0, μ)) (kbG_some h))
def jn_MD_closest_115 (n : Nat) (v2 : Int32) (μ : kbM) : Option (Int32 × kbM) :=
  jn_MD_closest_120 n v2 μ
theorem jnR_MD_closest_115 {l : Launch} (n : Nat)   (v2 : Int32) (μ : kbM) {Q : kbQt} {P : Int32 × kbM → Prop} (hr : ∀ z : Int32 × kbM, P z → Q (some (.int z.1)) z.2) (h : kbG (jn_MD_closest_115 n v2 μ) P) : kbR l MX12_closest 4 Q 115 [none, none, some (.int v2), none, none, none, none] [] μ := by
  unfold jn_MD_closest_115 at h
  refine r_iload_n dX12_closest_115 rfl ?_
  refine r_goto 120 dX12_closest_116 (by decide) ?_
  refine r_le [none, none, none, none, none, none, none] trivial ?_
  exact jnR_MD_closest_120 n v2 μ (hr := hr) h
def f_MD_closest (n : Nat) (a1 : Int32) (μ : kbM) : Option (Int32 × kbM) :=
  if a1 < 0 then
    jn_MD_closest_14 n (kbW μ 57 3 0)
  else
    if a1 ≤ 1 then
      (lp_MD_closest_28 n a1 n (-1) 100000 0 (kbW μ 57 3 0)).bind fun x4 =>
      if a1 = 1 then
        jn_MD_closest_115 n x4.1 x4.2.2
      else
        if x4.1 = (-1) then
          jn_MD_closest_115 n x4.1 x4.2.2
        else
          jn_MD_closest_120 n x4.2.1 x4.2.2
    else
      jn_MD_closest_14 n (kbW μ 57 3 0)
theorem sp_MD_closest {l : Launch} (n : Nat) (a1 : Int32) (μ : kbM)  {x : Int32 × kbM} (h : f_MD_closest n a1 μ = some x) : kbS l MX12_closest 4 [.ref 57, .int a1] μ (kbQe (some (.int x.1)) x.2) := by
  refine kb_enter 5 rfl rfl ?_
  suffices H : ∀ (Q : kbQt) (P : Int32 × kbM → Prop), (∀ z : Int32 × kbM, P z → Q (some (.int z.1)) z.2) → kbG (f_MD_closest n a1 μ) P → kbR l MX12_closest 4 Q 0 [some (.ref 57), some (.int a1), none, none, none, none, none] [] μ from H _ (fun z => z = x) (fun z e => by subst e; exact ⟨rfl, rfl⟩) ⟨x, h, rfl⟩
  clear h
  intro Q P hr h
  unfold f_MD_closest at h
  refine r_aload_n dX12_closest_0 rfl ?_
  refine r_iconst 0 dX12_closest_1 (by decide) ?_
  refine r_put flX12_159 sh57 rfl rfl rfl dX12_closest_2 ?_
  refine r_iload_n dX12_closest_5 rfl ?_
  refine r_if_lt 14 dX12_closest_6 (by decide) (fun hc => ?_) (fun hc => ?_)
  · replace h := kbG_t hc h
    refine r_le [some (.ref 57), none, none, none, none, none, none] ⟨rfl, trivial⟩ ?_
    exact jnR_MD_closest_14 n  (kbW μ 57 3 0) (hr := hr) h
  · replace h := kbG_f hc h
    refine r_iload_n dX12_closest_9 rfl ?_
    refine r_iconst 1 dX12_closest_10 (by decide) ?_
    refine r_icmp_le 20 dX12_closest_11 (by decide) (fun hc => ?_) (fun hc => ?_)
    · replace h := kbG_t hc h
      refine r_iconst (-1) dX12_closest_20 (by decide) ?_
      refine r_istore_n dX12_closest_21 (Nat.le_of_ble_eq_true rfl) rfl ?_
      refine r_ldc 100000 liX12_199 dX12_closest_22 ?_
      refine r_istore_n dX12_closest_24 (Nat.le_of_ble_eq_true rfl) rfl ?_
      refine r_iconst 0 dX12_closest_25 (by decide) ?_
      refine r_istore dX12_closest_26 (Nat.le_of_ble_eq_true rfl) rfl ?_
      refine r_le [some (.ref 57), some (.int a1), some (.int (-1)), some (.int 100000), some (.int 0), none, none] ⟨rfl, ⟨rfl, ⟨rfl, ⟨rfl, ⟨rfl, trivial⟩⟩⟩⟩⟩ ?_
      obtain ⟨x4, hx0, h⟩ := kbG_bind h
      refine lpR_MD_closest_28 n a1 (P := fun z => x4 = z) (hx := fun z e => ?_) n _ _ _ _ ⟨_, hx0, rfl⟩
      subst e
      refine r_iload_n dX12_closest_105 rfl ?_
      refine r_iconst 1 dX12_closest_106 (by decide) ?_
      refine r_icmp_eq 115 dX12_closest_107 (by decide) (fun hc => ?_) (fun hc => ?_)
      · replace h := kbG_t hc h
        refine r_le [none, none, some (.int x4.1), none, none, none, none] ⟨rfl, trivial⟩ ?_
        exact jnR_MD_closest_115 n x4.1 x4.2.2 (hr := hr) h
      · replace h := kbG_f hc h
        refine r_iload_n dX12_closest_110 rfl ?_
        refine r_iconst (-1) dX12_closest_111 (by decide) ?_
        refine r_icmp_ne 119 dX12_closest_112 (by decide) (fun hc => ?_) (fun hc => ?_)
        · replace h := kbG_f hc h
          refine r_iload_n dX12_closest_119 rfl ?_
          refine r_le [none, none, none, none, none, none, none] trivial ?_
          exact jnR_MD_closest_120 n x4.2.1 x4.2.2 (hr := hr) h
        · replace h := kbG_t hc h
          refine r_le [none, none, some (.int x4.1), none, none, none, none] ⟨rfl, trivial⟩ ?_
          exact jnR_MD_closest_115 n x4.1 x4.2.2 (hr := hr) h
    · replace h := kbG_f hc h
      refine r_le [some (.ref 57), none, none, none, none, none, none] ⟨rfl, trivial⟩ ?_
      exact jnR_MD_closest_14 n  (kbW μ 57 3 0) (hr := hr) h
def jn_MD_said_148 (n : Nat) (rec : Int32 → Int32 → kbM → Option (Int32 × kbM)) (v1 : Int32) (v2 : Int32) (v3 : Int32) (v4 : Int32) (v5 : Int32) (v6 : Int32) (v7 : Int32) (μ : kbM) : Option (Int32 × kbM) :=
  rec v6 (v7 + 1) μ
theorem jnR_MD_said_148 {l : Launch} (n : Nat)   (v1 : Int32) (v2 : Int32) (v3 : Int32) (v4 : Int32) (v5 : Int32) (v6 : Int32) (v7 : Int32) (μ : kbM) {Q : kbQt} {P : Int32 × kbM → Prop} (hx : ∀ z : Int32 × kbM, P (z) → kbR l MX12_said 4 Q 154 [some (.ref 57), some (.int v1), some (.int v2), some (.int v3), some (.int v4), none, some (.int z.1), none] [] z.2) {rec : Int32 → Int32 → kbM → Option (Int32 × kbM)} (hrec : ∀ (v6 : Int32) (v7 : Int32) (μ : kbM), kbG (rec v6 v7 μ) P → kbR l MX12_said 4 Q 79 [some (.ref 57), some (.int v1), some (.int v2), some (.int v3), some (.int v4), some (.int v5), some (.int v6), some (.int v7)] [] μ) (h : kbG (jn_MD_said_148 n rec v1 v2 v3 v4 v5 v6 v7 μ) P) : kbR l MX12_said 4 Q 148 [some (.ref 57), some (.int v1), some (.int v2), some (.int v3), some (.int v4), some (.int v5), some (.int v6), some (.int v7)] [] μ := by
  unfold jn_MD_said_148 at h
  refine r_iinc 1 dX12_said_148 rfl (by decide) (Nat.le_of_ble_eq_true rfl) rfl ?_
  refine r_goto 79 dX12_said_151 (by decide) ?_
  refine r_le [some (.ref 57), some (.int v1), some (.int v2), some (.int v3), some (.int v4), some (.int v5), some (.int v6), some (.int (v7 + 1))] ⟨rfl, ⟨rfl, ⟨rfl, ⟨rfl, ⟨rfl, ⟨rfl, ⟨rfl, ⟨rfl, trivial⟩⟩⟩⟩⟩⟩⟩⟩ ?_
  exact hrec v6 (v7 + 1) μ h
def lp_MD_said_79 (n : Nat) (v1 : Int32) (v2 : Int32) (v3 : Int32) (v4 : Int32) (v5 : Int32) : Nat → Int32 → Int32 → kbM → Option (Int32 × kbM)
  | 0, _, _, _ => none
  | k + 1, v6, v7, μ =>
    if (μ.1 57 27) ≤ v7 then
      some ((v6, μ))
    else
      if v5 ≤ 0 then
        some ((v6, μ))
      else
        kbIf (kbIn ((10 * v5) + v7) 130) <|
        if (μ.1 87 (((10 * v5) + v7).toNatClampNeg)) < 0 then
          jn_MD_said_148 n (lp_MD_said_79 n v1 v2 v3 v4 v5 k) v1 v2 v3 v4 v5 v6 v7 μ
        else
          (f_MD_joins n v7 v4 μ).bind fun x3 =>
          if x3.1 = 0 then
            jn_MD_said_148 n (lp_MD_said_79 n v1 v2 v3 v4 v5 k) v1 v2 v3 v4 v5 v6 v7 x3.2
          else
            kbIf (kbIn ((10 * v5) + v7) 130) <|
            kbIf (kbIn v4 10) <|
            jn_MD_said_148 n (lp_MD_said_79 n v1 v2 v3 v4 v5 k) v1 v2 v3 v4 v5 (kbMax v6 ((x3.2.1 87 (((10 * v5) + v7).toNatClampNeg)) + (x3.2.1 72 v4.toNatClampNeg))) v7 x3.2
theorem lpR_MD_said_79 {l : Launch} (n : Nat) (v1 : Int32) (v2 : Int32) (v3 : Int32) (v4 : Int32) (v5 : Int32)  {Q : kbQt} {P : Int32 × kbM → Prop} (hx : ∀ z : Int32 × kbM, P (z) → kbR l MX12_said 4 Q 154 [some (.ref 57), some (.int v1), some (.int v2), some (.int v3), some (.int v4), none, some (.int z.1), none] [] z.2) : ∀ (k : Nat) (v6 : Int32) (v7 : Int32) (μ : kbM), kbG (lp_MD_said_79 n v1 v2 v3 v4 v5 k v6 v7 μ) P → kbR l MX12_said 4 Q 79 [some (.ref 57), some (.int v1), some (.int v2), some (.int v3), some (.int v4), some (.int v5), some (.int v6), some (.int v7)] [] μ := by
  intro k
  induction k with
  | zero => intro v6 v7 μ h; exact absurd h kbG_none
  | succ k ih =>
    intro v6 v7 μ h
    unfold lp_MD_said_79 at h
    refine r_iload dX12_said_79 rfl ?_
    refine r_aload_n dX12_said_81 rfl ?_
    refine r_getI flX12_162 sh57 rfl dX12_said_82 ?_
    refine r_icmp_ge 154 dX12_said_85 (by decide) (fun hc => ?_) (fun hc => ?_)
    · replace h := kbG_t hc h
      refine r_le [some (.ref 57), some (.int v1), some (.int v2), some (.int v3), some (.int v4), none, some (.int v6), none] ⟨rfl, ⟨rfl, ⟨rfl, ⟨rfl, ⟨rfl, ⟨rfl, trivial⟩⟩⟩⟩⟩⟩ ?_
      exact hx ((v6, μ)) (kbG_some h)
    · replace h := kbG_f hc h
      refine r_iload dX12_said_88 rfl ?_
      refine r_if_le 154 dX12_said_90 (by decide) (fun hc => ?_) (fun hc => ?_)
      · replace h := kbG_t hc h
        refine r_le [some (.ref 57), some (.int v1), some (.int v2), some (.int v3), some (.int v4), none, some (.int v6), none] ⟨rfl, ⟨rfl, ⟨rfl, ⟨rfl, ⟨rfl, ⟨rfl, trivial⟩⟩⟩⟩⟩⟩ ?_
        exact hx ((v6, μ)) (kbG_some h)
      · replace h := kbG_f hc h
        refine r_aload_n dX12_said_93 rfl ?_
        refine r_getR flX12_129 sh57 rfl dX12_said_94 ?_
        refine r_bipush 10 dX12_said_97 (by decide) ?_
        refine r_iload dX12_said_99 rfl ?_
        refine r_imul dX12_said_101 ?_
        refine r_iload dX12_said_102 rfl ?_
        refine r_iadd dX12_said_104 ?_
        obtain ⟨hin, h⟩ := kbG_if h
        replace hin := kbIn_of hin
        refine q_iald (((10 * v5) + v7).toNatClampNeg) rfl sh87 hin dX12_said_105 ?_
        refine r_if_lt 148 dX12_said_106 (by decide) (fun hc => ?_) (fun hc => ?_)
        · replace h := kbG_t hc h
          refine r_le [some (.ref 57), some (.int v1), some (.int v2), some (.int v3), some (.int v4), some (.int v5), some (.int v6), some (.int v7)] ⟨rfl, ⟨rfl, ⟨rfl, ⟨rfl, ⟨rfl, ⟨rfl, ⟨rfl, ⟨rfl, trivial⟩⟩⟩⟩⟩⟩⟩⟩ ?_
          exact jnR_MD_said_148 n v1 v2 v3 v4 v5 v6 v7 μ (hx := hx) (hrec := ih) h
        · replace h := kbG_f hc h
          refine r_aload_n dX12_said_109 rfl ?_
          refine r_iload dX12_said_110 rfl ?_
          refine r_iload dX12_said_112 rfl ?_
          obtain ⟨x3, hx0, h⟩ := kbG_bind h
          refine r_invV_i cvX12_364 sh57 rfl (sp_MD_joins n v7 v4 μ hx0) rfl rfl (Nat.le_of_ble_eq_true rfl) (Nat.le_of_ble_eq_true rfl) dX12_said_114 ?_
          refine r_if_eq 148 dX12_said_117 (by decide) (fun hc => ?_) (fun hc => ?_)
          · replace h := kbG_t hc h
            refine r_le [some (.ref 57), some (.int v1), some (.int v2), some (.int v3), some (.int v4), some (.int v5), some (.int v6), some (.int v7)] ⟨rfl, ⟨rfl, ⟨rfl, ⟨rfl, ⟨rfl, ⟨rfl, ⟨rfl, ⟨rfl, trivial⟩⟩⟩⟩⟩⟩⟩⟩ ?_
            exact jnR_MD_said_148 n v1 v2 v3 v4 v5 v6 v7 x3.2 (hx := hx) (hrec := ih) h
          · replace h := kbG_f hc h
            refine r_iload dX12_said_120 rfl ?_
            refine r_aload_n dX12_said_122 rfl ?_
            refine r_getR flX12_129 sh57 rfl dX12_said_123 ?_
            refine r_bipush 10 dX12_said_126 (by decide) ?_
            refine r_iload dX12_said_128 rfl ?_
            refine r_imul dX12_said_130 ?_
            refine r_iload dX12_said_131 rfl ?_
            refine r_iadd dX12_said_133 ?_
            obtain ⟨hin, h⟩ := kbG_if h
            replace hin := kbIn_of hin
            refine q_iald (((10 * v5) + v7).toNatClampNeg) rfl sh87 hin dX12_said_134 ?_
            refine r_aload_n dX12_said_135 rfl ?_
            refine r_getR flX12_85 sh57 rfl dX12_said_136 ?_
            refine r_iload dX12_said_139 rfl ?_
            obtain ⟨hin, h⟩ := kbG_if h
            replace hin := kbIn_of hin
            refine q_iald v4.toNatClampNeg rfl sh72 hin dX12_said_141 ?_
            refine r_iadd dX12_said_142 ?_
            refine r_max mlX12_438 (Nat.le_of_ble_eq_true rfl) (Nat.le_of_ble_eq_true rfl) dX12_said_143 ?_
            refine r_istore dX12_said_146 (Nat.le_of_ble_eq_true rfl) rfl ?_
            refine r_le [some (.ref 57), some (.int v1), some (.int v2), some (.int v3), some (.int v4), some (.int v5), some (.int (kbMax v6 ((x3.2.1 87 (((10 * v5) + v7).toNatClampNeg)) + (x3.2.1 72 v4.toNatClampNeg)))), some (.int v7)] ⟨rfl, ⟨rfl, ⟨rfl, ⟨rfl, ⟨rfl, ⟨rfl, ⟨rfl, ⟨rfl, trivial⟩⟩⟩⟩⟩⟩⟩⟩ ?_
            exact jnR_MD_said_148 n v1 v2 v3 v4 v5 (kbMax v6 ((x3.2.1 87 (((10 * v5) + v7).toNatClampNeg)) + (x3.2.1 72 v4.toNatClampNeg))) v7 x3.2 (hx := hx) (hrec := ih) h
def jn_MD_said_154 (n : Nat) (rec : Int32 → Int32 → kbM → Option (Int32 × kbM)) (v1 : Int32) (v2 : Int32) (v3 : Int32) (v4 : Int32) (v6 : Int32) (μ : kbM) : Option (Int32 × kbM) :=
  kbIf (kbIn ((10 * v3) + v4) 130) <|
  rec (kbMax v2 v6) (v4 + 1) (kbW μ 87 (((10 * v3) + v4).toNatClampNeg) v6)
theorem jnR_MD_said_154 {l : Launch} (n : Nat)   (v1 : Int32) (v2 : Int32) (v3 : Int32) (v4 : Int32) (v6 : Int32) (μ : kbM) {Q : kbQt} {P : Int32 × kbM → Prop} (hx : ∀ z : Int32 × kbM, P (z) → kbR l MX12_said 4 Q 181 [some (.ref 57), some (.int v1), some (.int z.1), some (.int v3), none, none, none, none] [] z.2) {rec : Int32 → Int32 → kbM → Option (Int32 × kbM)} (hrec : ∀ (v2 : Int32) (v4 : Int32) (μ : kbM), kbG (rec v2 v4 μ) P → kbR l MX12_said 4 Q 35 [some (.ref 57), some (.int v1), some (.int v2), some (.int v3), some (.int v4), none, none, none] [] μ) (h : kbG (jn_MD_said_154 n rec v1 v2 v3 v4 v6 μ) P) : kbR l MX12_said 4 Q 154 [some (.ref 57), some (.int v1), some (.int v2), some (.int v3), some (.int v4), none, some (.int v6), none] [] μ := by
  unfold jn_MD_said_154 at h
  refine r_aload_n dX12_said_154 rfl ?_
  refine r_getR flX12_129 sh57 rfl dX12_said_155 ?_
  refine r_bipush 10 dX12_said_158 (by decide) ?_
  refine r_iload_n dX12_said_160 rfl ?_
  refine r_imul dX12_said_161 ?_
  refine r_iload dX12_said_162 rfl ?_
  refine r_iadd dX12_said_164 ?_
  refine r_iload dX12_said_165 rfl ?_
  obtain ⟨hin, h⟩ := kbG_if h
  replace hin := kbIn_of hin
  refine q_iast (((10 * v3) + v4).toNatClampNeg) rfl sh87 hin dX12_said_167 ?_
  refine r_iload_n dX12_said_168 rfl ?_
  refine r_iload dX12_said_169 rfl ?_
  refine r_max mlX12_438 (Nat.le_of_ble_eq_true rfl) (Nat.le_of_ble_eq_true rfl) dX12_said_171 ?_
  refine r_istore_n dX12_said_174 (Nat.le_of_ble_eq_true rfl) rfl ?_
  refine r_iinc 1 dX12_said_175 rfl (by decide) (Nat.le_of_ble_eq_true rfl) rfl ?_
  refine r_goto 35 dX12_said_178 (by decide) ?_
  refine r_le [some (.ref 57), some (.int v1), some (.int (kbMax v2 v6)), some (.int v3), some (.int (v4 + 1)), none, none, none] ⟨rfl, ⟨rfl, ⟨rfl, ⟨rfl, ⟨rfl, trivial⟩⟩⟩⟩⟩ ?_
  exact hrec (kbMax v2 v6) (v4 + 1) (kbW μ 87 (((10 * v3) + v4).toNatClampNeg) v6) h
def jn_MD_said_74 (n : Nat) (rec : Int32 → Int32 → kbM → Option (Int32 × kbM)) (v1 : Int32) (v2 : Int32) (v3 : Int32) (v4 : Int32) (v5 : Int32) (w0 : Int32) (μ : kbM) : Option (Int32 × kbM) :=
  (lp_MD_said_79 n v1 v2 v3 v4 v5 n w0 0 μ).bind fun x4 =>
  jn_MD_said_154 n rec v1 v2 v3 v4 x4.1 x4.2
theorem jnR_MD_said_74 {l : Launch} (n : Nat)   (v1 : Int32) (v2 : Int32) (v3 : Int32) (v4 : Int32) (v5 : Int32) (w0 : Int32) (μ : kbM) {Q : kbQt} {P : Int32 × kbM → Prop} (hx : ∀ z : Int32 × kbM, P (z) → kbR l MX12_said 4 Q 181 [some (.ref 57), some (.int v1), some (.int z.1), some (.int v3), none, none, none, none] [] z.2) {rec : Int32 → Int32 → kbM → Option (Int32 × kbM)} (hrec : ∀ (v2 : Int32) (v4 : Int32) (μ : kbM), kbG (rec v2 v4 μ) P → kbR l MX12_said 4 Q 35 [some (.ref 57), some (.int v1), some (.int v2), some (.int v3), some (.int v4), none, none, none] [] μ) (h : kbG (jn_MD_said_74 n rec v1 v2 v3 v4 v5 w0 μ) P) : kbR l MX12_said 4 Q 74 [some (.ref 57), some (.int v1), some (.int v2), some (.int v3), some (.int v4), some (.int v5), none, none] [.int w0] μ := by
  unfold jn_MD_said_74 at h
  refine r_istore dX12_said_74 (Nat.le_of_ble_eq_true rfl) rfl ?_
  refine r_iconst 0 dX12_said_76 (by decide) ?_
  refine r_istore dX12_said_77 (Nat.le_of_ble_eq_true rfl) rfl ?_
  refine r_le [some (.ref 57), some (.int v1), some (.int v2), some (.int v3), some (.int v4), some (.int v5), some (.int w0), some (.int 0)] ⟨rfl, ⟨rfl, ⟨rfl, ⟨rfl, ⟨rfl, ⟨rfl, ⟨rfl, ⟨rfl, trivial⟩⟩⟩⟩⟩⟩⟩⟩ ?_
  obtain ⟨x4, hx0, h⟩ := kbG_bind h
  refine lpR_MD_said_79 n v1 v2 v3 v4 v5 (P := fun z => x4 = z) (hx := fun z e => ?_) n _ _ _ ⟨_, hx0, rfl⟩
  subst e
  refine r_le [some (.ref 57), some (.int v1), some (.int v2), some (.int v3), some (.int v4), none, some (.int x4.1), none] ⟨rfl, ⟨rfl, ⟨rfl, ⟨rfl, ⟨rfl, ⟨rfl, trivial⟩⟩⟩⟩⟩⟩ ?_
  exact jnR_MD_said_154 n v1 v2 v3 v4 x4.1 x4.2 (hx := hx) (hrec := hrec) h
def lp_MD_said_35 (n : Nat) (v1 : Int32) (v3 : Int32) : Nat → Int32 → Int32 → kbM → Option (Int32 × kbM)
  | 0, _, _, _ => none
  | k + 1, v2, v4, μ =>
    if (μ.1 57 27) ≤ v4 then
      some ((v2, μ))
    else
      kbIf (kbIn v4 10) <|
      (f_MD_sizeOf n (μ.1 70 v4.toNatClampNeg)).bind fun x2 =>
      if (v3 - x2) = 0 then
        kbIf (kbIn v4 10) <|
        jn_MD_said_74 n (lp_MD_said_35 n v1 v3 k) v1 v2 v3 v4 (v3 - x2) (μ.1 72 v4.toNatClampNeg) μ
      else
        jn_MD_said_74 n (lp_MD_said_35 n v1 v3 k) v1 v2 v3 v4 (v3 - x2) (-1) μ
theorem lpR_MD_said_35 {l : Launch} (n : Nat) (v1 : Int32) (v3 : Int32)  {Q : kbQt} {P : Int32 × kbM → Prop} (hx : ∀ z : Int32 × kbM, P (z) → kbR l MX12_said 4 Q 181 [some (.ref 57), some (.int v1), some (.int z.1), some (.int v3), none, none, none, none] [] z.2) : ∀ (k : Nat) (v2 : Int32) (v4 : Int32) (μ : kbM), kbG (lp_MD_said_35 n v1 v3 k v2 v4 μ) P → kbR l MX12_said 4 Q 35 [some (.ref 57), some (.int v1), some (.int v2), some (.int v3), some (.int v4), none, none, none] [] μ := by
  intro k
  induction k with
  | zero => intro v2 v4 μ h; exact absurd h kbG_none
  | succ k ih =>
    intro v2 v4 μ h
    unfold lp_MD_said_35 at h
    refine r_iload dX12_said_35 rfl ?_
    refine r_aload_n dX12_said_37 rfl ?_
    refine r_getI flX12_162 sh57 rfl dX12_said_38 ?_
    refine r_icmp_ge 181 dX12_said_41 (by decide) (fun hc => ?_) (fun hc => ?_)
    · replace h := kbG_t hc h
      refine r_le [some (.ref 57), some (.int v1), some (.int v2), some (.int v3), none, none, none, none] ⟨rfl, ⟨rfl, ⟨rfl, ⟨rfl, trivial⟩⟩⟩⟩ ?_
      exact hx ((v2, μ)) (kbG_some h)
    · replace h := kbG_f hc h
      refine r_iload_n dX12_said_44 rfl ?_
      refine r_aload_n dX12_said_45 rfl ?_
      refine r_getR flX12_79 sh57 rfl dX12_said_46 ?_
      refine r_iload dX12_said_49 rfl ?_
      obtain ⟨hin, h⟩ := kbG_if h
      replace hin := kbIn_of hin
      refine q_iald v4.toNatClampNeg rfl sh70 hin dX12_said_51 ?_
      obtain ⟨x2, hx0, h⟩ := kbG_bind h
      refine r_inv_i csX12_322 (sp_MD_sizeOf n (μ.1 70 v4.toNatClampNeg) μ hx0) rfl rfl (Nat.le_of_ble_eq_true rfl) (Nat.le_of_ble_eq_true rfl) dX12_said_52 ?_
      refine r_isub dX12_said_55 ?_
      refine r_istore dX12_said_56 (Nat.le_of_ble_eq_true rfl) rfl ?_
      refine r_iload dX12_said_58 rfl ?_
      refine r_if_ne 73 dX12_said_60 (by decide) (fun hc => ?_) (fun hc => ?_)
      · replace h := kbG_f hc h
        refine r_iconst (-1) dX12_said_73 (by decide) ?_
        refine r_le [some (.ref 57), some (.int v1), some (.int v2), some (.int v3), some (.int v4), some (.int (v3 - x2)), none, none] ⟨rfl, ⟨rfl, ⟨rfl, ⟨rfl, ⟨rfl, ⟨rfl, trivial⟩⟩⟩⟩⟩⟩ ?_
        exact jnR_MD_said_74 n v1 v2 v3 v4 (v3 - x2) (-1) μ (hx := hx) (hrec := ih) h
      · replace h := kbG_t hc h
        refine r_aload_n dX12_said_63 rfl ?_
        refine r_getR flX12_85 sh57 rfl dX12_said_64 ?_
        refine r_iload dX12_said_67 rfl ?_
        obtain ⟨hin, h⟩ := kbG_if h
        replace hin := kbIn_of hin
        refine q_iald v4.toNatClampNeg rfl sh72 hin dX12_said_69 ?_
        refine r_goto 74 dX12_said_70 (by decide) ?_
        refine r_le [some (.ref 57), some (.int v1), some (.int v2), some (.int v3), some (.int v4), some (.int (v3 - x2)), none, none] ⟨rfl, ⟨rfl, ⟨rfl, ⟨rfl, ⟨rfl, ⟨rfl, trivial⟩⟩⟩⟩⟩⟩ ?_
        exact jnR_MD_said_74 n v1 v2 v3 v4 (v3 - x2) (μ.1 72 v4.toNatClampNeg) μ (hx := hx) (hrec := ih) h
def lp_MD_said_27 (n : Nat) (v1 : Int32) : Nat → Int32 → Int32 → kbM → Option (Int32 × kbM)
  | 0, _, _, _ => none
  | k + 1, v2, v3, μ =>
    if v1 < v3 then
      some ((v2, μ))
    else
      (lp_MD_said_35 n v1 v3 n v2 0 μ).bind fun x5 =>
      lp_MD_said_27 n v1 k x5.1 (v3 + 1) x5.2
theorem lpR_MD_said_27 {l : Launch} (n : Nat) (v1 : Int32)  {Q : kbQt} {P : Int32 × kbM → Prop} (hx : ∀ z : Int32 × kbM, P (z) → kbR l MX12_said 4 Q 187 [none, none, some (.int z.1), none, none, none, none, none] [] z.2) : ∀ (k : Nat) (v2 : Int32) (v3 : Int32) (μ : kbM), kbG (lp_MD_said_27 n v1 k v2 v3 μ) P → kbR l MX12_said 4 Q 27 [some (.ref 57), some (.int v1), some (.int v2), some (.int v3), none, none, none, none] [] μ := by
  intro k
  induction k with
  | zero => intro v2 v3 μ h; exact absurd h kbG_none
  | succ k ih =>
    intro v2 v3 μ h
    unfold lp_MD_said_27 at h
    refine r_iload_n dX12_said_27 rfl ?_
    refine r_iload_n dX12_said_28 rfl ?_
    refine r_icmp_gt 187 dX12_said_29 (by decide) (fun hc => ?_) (fun hc => ?_)
    · replace h := kbG_t hc h
      refine r_le [none, none, some (.int v2), none, none, none, none, none] ⟨rfl, trivial⟩ ?_
      exact hx ((v2, μ)) (kbG_some h)
    · replace h := kbG_f hc h
      refine r_iconst 0 dX12_said_32 (by decide) ?_
      refine r_istore dX12_said_33 (Nat.le_of_ble_eq_true rfl) rfl ?_
      refine r_le [some (.ref 57), some (.int v1), some (.int v2), some (.int v3), some (.int 0), none, none, none] ⟨rfl, ⟨rfl, ⟨rfl, ⟨rfl, ⟨rfl, trivial⟩⟩⟩⟩⟩ ?_
      obtain ⟨x5, hx0, h⟩ := kbG_bind h
      refine lpR_MD_said_35 n v1 v3 (P := fun z => x5 = z) (hx := fun z e => ?_) n _ _ _ ⟨_, hx0, rfl⟩
      subst e
      refine r_iinc 1 dX12_said_181 rfl (by decide) (Nat.le_of_ble_eq_true rfl) rfl ?_
      refine r_goto 27 dX12_said_184 (by decide) ?_
      refine r_le [some (.ref 57), some (.int v1), some (.int x5.1), some (.int (v3 + 1)), none, none, none, none] ⟨rfl, ⟨rfl, ⟨rfl, ⟨rfl, trivial⟩⟩⟩⟩ ?_
      exact ih x5.1 (v3 + 1) x5.2 h
def f_MD_said (n : Nat) (a1 : Int32) (μ : kbM) : Option (Int32 × kbM) :=
  (f_MD_isIn a1.toInt64 0 12).bind fun x1 =>
  if x1 = 0 then
    (f_MD_fail 1 (kbW μ 57 3 0)).bind fun x7 =>
    some ((x7.1, x7.2))
  else
    (lp_MD_said_27 n a1 n 0 0 (kbW μ 57 3 0)).bind fun x6 =>
    some ((x6.1, x6.2))
theorem sp_MD_said {l : Launch} (n : Nat) (a1 : Int32) (μ : kbM)  {x : Int32 × kbM} (h : f_MD_said n a1 μ = some x) : kbS l MX12_said 4 [.ref 57, .int a1] μ (kbQe (some (.int x.1)) x.2) := by
  refine kb_enter 6 rfl rfl ?_
  suffices H : ∀ (Q : kbQt) (P : Int32 × kbM → Prop), (∀ z : Int32 × kbM, P z → Q (some (.int z.1)) z.2) → kbG (f_MD_said n a1 μ) P → kbR l MX12_said 4 Q 0 [some (.ref 57), some (.int a1), none, none, none, none, none, none] [] μ from H _ (fun z => z = x) (fun z e => by subst e; exact ⟨rfl, rfl⟩) ⟨x, h, rfl⟩
  clear h
  intro Q P hr h
  unfold f_MD_said at h
  refine r_aload_n dX12_said_0 rfl ?_
  refine r_iconst 0 dX12_said_1 (by decide) ?_
  refine r_put flX12_159 sh57 rfl rfl rfl dX12_said_2 ?_
  refine r_iload_n dX12_said_5 rfl ?_
  refine r_i2l dX12_said_6 ?_
  refine r_lconst 0 dX12_said_7 (by decide) ?_
  refine r_ldc2 12 liX12_436 dX12_said_8 ?_
  obtain ⟨x1, hx0, h⟩ := kbG_bind h
  refine r_inv_i csX12_165 (sp_MD_isIn a1.toInt64 0 12 (kbW μ 57 3 0) hx0) rfl rfl (Nat.le_of_ble_eq_true rfl) (Nat.le_of_ble_eq_true rfl) dX12_said_11 ?_
  refine r_if_ne 23 dX12_said_14 (by decide) (fun hc => ?_) (fun hc => ?_)
  · replace h := kbG_f hc h
    refine r_iconst 0 dX12_said_23 (by decide) ?_
    refine r_istore_n dX12_said_24 (Nat.le_of_ble_eq_true rfl) rfl ?_
    refine r_iconst 0 dX12_said_25 (by decide) ?_
    refine r_istore_n dX12_said_26 (Nat.le_of_ble_eq_true rfl) rfl ?_
    refine r_le [some (.ref 57), some (.int a1), some (.int 0), some (.int 0), none, none, none, none] ⟨rfl, ⟨rfl, ⟨rfl, ⟨rfl, trivial⟩⟩⟩⟩ ?_
    obtain ⟨x6, hx0, h⟩ := kbG_bind h
    refine lpR_MD_said_27 n a1 (P := fun z => x6 = z) (hx := fun z e => ?_) n _ _ _ ⟨_, hx0, rfl⟩
    subst e
    refine r_iload_n dX12_said_187 rfl ?_
    exact r_iret rfl dX12_said_188 (hr ((x6.1, x6.2)) (kbG_some h))
  · replace h := kbG_t hc h
    refine r_aload_n dX12_said_17 rfl ?_
    refine r_iconst 1 dX12_said_18 (by decide) ?_
    obtain ⟨x7, hx0, h⟩ := kbG_bind h
    refine r_invV_i cvX12_292 sh57 rfl (sp_MD_fail 1 (kbW μ 57 3 0) hx0) rfl rfl (Nat.le_of_ble_eq_true rfl) (Nat.le_of_ble_eq_true rfl) dX12_said_19 ?_
    exact r_iret rfl dX12_said_22 (hr ((x7.1, x7.2)) (kbG_some h))
def jn_MD_howMany_120 (n : Nat) (rec : Int64 → Int32 → kbM → Option (Int64 × kbM)) (v1 : Int32) (v2 : Int64) (v4 : Int32) (v5 : Int32) (v6 : Int32) (v7 : Int64) (v9 : Int32) (μ : kbM) : Option (Int64 × kbM) :=
  rec v7 (v9 + 1) μ
theorem jnR_MD_howMany_120 {l : Launch} (n : Nat)   (v1 : Int32) (v2 : Int64) (v4 : Int32) (v5 : Int32) (v6 : Int32) (v7 : Int64) (v9 : Int32) (μ : kbM) {Q : kbQt} {P : Int64 × kbM → Prop} (hx : ∀ z : Int64 × kbM, P (z) → kbR l MX12_howMany 4 Q 126 [some (.ref 57), some (.int v1), some (.long v2), none, some (.int v4), some (.int v5), none, some (.long z.1), none, none] [] z.2) {rec : Int64 → Int32 → kbM → Option (Int64 × kbM)} (hrec : ∀ (v7 : Int64) (v9 : Int32) (μ : kbM), kbG (rec v7 v9 μ) P → kbR l MX12_howMany 4 Q 77 [some (.ref 57), some (.int v1), some (.long v2), none, some (.int v4), some (.int v5), some (.int v6), some (.long v7), none, some (.int v9)] [] μ) (h : kbG (jn_MD_howMany_120 n rec v1 v2 v4 v5 v6 v7 v9 μ) P) : kbR l MX12_howMany 4 Q 120 [some (.ref 57), some (.int v1), some (.long v2), none, some (.int v4), some (.int v5), some (.int v6), some (.long v7), none, some (.int v9)] [] μ := by
  unfold jn_MD_howMany_120 at h
  refine r_iinc 1 dX12_howMany_120 rfl (by decide) (Nat.le_of_ble_eq_true rfl) rfl ?_
  refine r_goto 77 dX12_howMany_123 (by decide) ?_
  refine r_le [some (.ref 57), some (.int v1), some (.long v2), none, some (.int v4), some (.int v5), some (.int v6), some (.long v7), none, some (.int (v9 + 1))] ⟨rfl, ⟨rfl, ⟨rfl, ⟨rfl, ⟨rfl, ⟨rfl, ⟨rfl, ⟨rfl, trivial⟩⟩⟩⟩⟩⟩⟩⟩ ?_
  exact hrec v7 (v9 + 1) μ h
def lp_MD_howMany_77 (n : Nat) (v1 : Int32) (v2 : Int64) (v4 : Int32) (v5 : Int32) (v6 : Int32) : Nat → Int64 → Int32 → kbM → Option (Int64 × kbM)
  | 0, _, _, _ => none
  | k + 1, v7, v9, μ =>
    if (μ.1 57 27) ≤ v9 then
      some ((v7, μ))
    else
      if v6 ≤ 0 then
        some ((v7, μ))
      else
        (f_MD_joins n v9 v5 μ).bind fun x3 =>
        if x3.1 = 0 then
          jn_MD_howMany_120 n (lp_MD_howMany_77 n v1 v2 v4 v5 v6 k) v1 v2 v4 v5 v6 v7 v9 x3.2
        else
          kbIf (kbIn ((10 * v6) + v9) 130) <|
          jn_MD_howMany_120 n (lp_MD_howMany_77 n v1 v2 v4 v5 v6 k) v1 v2 v4 v5 v6 (v7 + (x3.2.2 88 (((10 * v6) + v9).toNatClampNeg))) v9 x3.2
theorem lpR_MD_howMany_77 {l : Launch} (n : Nat) (v1 : Int32) (v2 : Int64) (v4 : Int32) (v5 : Int32) (v6 : Int32)  {Q : kbQt} {P : Int64 × kbM → Prop} (hx : ∀ z : Int64 × kbM, P (z) → kbR l MX12_howMany 4 Q 126 [some (.ref 57), some (.int v1), some (.long v2), none, some (.int v4), some (.int v5), none, some (.long z.1), none, none] [] z.2) : ∀ (k : Nat) (v7 : Int64) (v9 : Int32) (μ : kbM), kbG (lp_MD_howMany_77 n v1 v2 v4 v5 v6 k v7 v9 μ) P → kbR l MX12_howMany 4 Q 77 [some (.ref 57), some (.int v1), some (.long v2), none, some (.int v4), some (.int v5), some (.int v6), some (.long v7), none, some (.int v9)] [] μ := by
  intro k
  induction k with
  | zero => intro v7 v9 μ h; exact absurd h kbG_none
  | succ k ih =>
    intro v7 v9 μ h
    unfold lp_MD_howMany_77 at h
    refine r_iload dX12_howMany_77 rfl ?_
    refine r_aload_n dX12_howMany_79 rfl ?_
    refine r_getI flX12_162 sh57 rfl dX12_howMany_80 ?_
    refine r_icmp_ge 126 dX12_howMany_83 (by decide) (fun hc => ?_) (fun hc => ?_)
    · replace h := kbG_t hc h
      refine r_le [some (.ref 57), some (.int v1), some (.long v2), none, some (.int v4), some (.int v5), none, some (.long v7), none, none] ⟨rfl, ⟨rfl, ⟨rfl, ⟨rfl, ⟨rfl, ⟨rfl, trivial⟩⟩⟩⟩⟩⟩ ?_
      exact hx ((v7, μ)) (kbG_some h)
    · replace h := kbG_f hc h
      refine r_iload dX12_howMany_86 rfl ?_
      refine r_if_le 126 dX12_howMany_88 (by decide) (fun hc => ?_) (fun hc => ?_)
      · replace h := kbG_t hc h
        refine r_le [some (.ref 57), some (.int v1), some (.long v2), none, some (.int v4), some (.int v5), none, some (.long v7), none, none] ⟨rfl, ⟨rfl, ⟨rfl, ⟨rfl, ⟨rfl, ⟨rfl, trivial⟩⟩⟩⟩⟩⟩ ?_
        exact hx ((v7, μ)) (kbG_some h)
      · replace h := kbG_f hc h
        refine r_aload_n dX12_howMany_91 rfl ?_
        refine r_iload dX12_howMany_92 rfl ?_
        refine r_iload dX12_howMany_94 rfl ?_
        obtain ⟨x3, hx0, h⟩ := kbG_bind h
        refine r_invV_i cvX12_364 sh57 rfl (sp_MD_joins n v9 v5 μ hx0) rfl rfl (Nat.le_of_ble_eq_true rfl) (Nat.le_of_ble_eq_true rfl) dX12_howMany_96 ?_
        refine r_if_eq 120 dX12_howMany_99 (by decide) (fun hc => ?_) (fun hc => ?_)
        · replace h := kbG_t hc h
          refine r_le [some (.ref 57), some (.int v1), some (.long v2), none, some (.int v4), some (.int v5), some (.int v6), some (.long v7), none, some (.int v9)] ⟨rfl, ⟨rfl, ⟨rfl, ⟨rfl, ⟨rfl, ⟨rfl, ⟨rfl, ⟨rfl, trivial⟩⟩⟩⟩⟩⟩⟩⟩ ?_
          exact jnR_MD_howMany_120 n v1 v2 v4 v5 v6 v7 v9 x3.2 (hx := hx) (hrec := ih) h
        · replace h := kbG_f hc h
          refine r_lload dX12_howMany_102 rfl ?_
          refine r_aload_n dX12_howMany_104 rfl ?_
          refine r_getR flX12_132 sh57 rfl dX12_howMany_105 ?_
          refine r_bipush 10 dX12_howMany_108 (by decide) ?_
          refine r_iload dX12_howMany_110 rfl ?_
          refine r_imul dX12_howMany_112 ?_
          refine r_iload dX12_howMany_113 rfl ?_
          refine r_iadd dX12_howMany_115 ?_
          obtain ⟨hin, h⟩ := kbG_if h
          replace hin := kbIn_of hin
          refine q_lald (((10 * v6) + v9).toNatClampNeg) rfl sh88 hin dX12_howMany_116 ?_
          refine r_ladd dX12_howMany_117 ?_
          refine r_lstore dX12_howMany_118 (Nat.le_of_ble_eq_true rfl) rfl ?_
          refine r_le [some (.ref 57), some (.int v1), some (.long v2), none, some (.int v4), some (.int v5), some (.int v6), some (.long (v7 + (x3.2.2 88 (((10 * v6) + v9).toNatClampNeg)))), none, some (.int v9)] ⟨rfl, ⟨rfl, ⟨rfl, ⟨rfl, ⟨rfl, ⟨rfl, ⟨rfl, ⟨rfl, trivial⟩⟩⟩⟩⟩⟩⟩⟩ ?_
          exact jnR_MD_howMany_120 n v1 v2 v4 v5 v6 (v7 + (x3.2.2 88 (((10 * v6) + v9).toNatClampNeg))) v9 x3.2 (hx := hx) (hrec := ih) h
def jn_MD_howMany_154 (n : Nat) (rec : Int64 → Int32 → kbM → Option (Int64 × kbM)) (v1 : Int32) (v4 : Int32) (v5 : Int32) (w0 : Int64) (w1 : Int64) (μ : kbM) : Option (Int64 × kbM) :=
  rec (w0 + w1) (v5 + 1) μ
theorem jnR_MD_howMany_154 {l : Launch} (n : Nat)   (v1 : Int32) (v4 : Int32) (v5 : Int32) (w0 : Int64) (w1 : Int64) (μ : kbM) {Q : kbQt} {P : Int64 × kbM → Prop} (hx : ∀ z : Int64 × kbM, P (z) → kbR l MX12_howMany 4 Q 162 [some (.ref 57), some (.int v1), some (.long z.1), none, some (.int v4), none, none, none, none, none] [] z.2) {rec : Int64 → Int32 → kbM → Option (Int64 × kbM)} (hrec : ∀ (v2 : Int64) (v5 : Int32) (μ : kbM), kbG (rec v2 v5 μ) P → kbR l MX12_howMany 4 Q 38 [some (.ref 57), some (.int v1), some (.long v2), none, some (.int v4), some (.int v5), none, none, none, none] [] μ) (h : kbG (jn_MD_howMany_154 n rec v1 v4 v5 w0 w1 μ) P) : kbR l MX12_howMany 4 Q 154 [some (.ref 57), some (.int v1), none, none, some (.int v4), some (.int v5), none, none, none, none] [.long w1, .long w0] μ := by
  unfold jn_MD_howMany_154 at h
  refine r_ladd dX12_howMany_154 ?_
  refine r_lstore_n dX12_howMany_155 (Nat.le_of_ble_eq_true rfl) rfl ?_
  refine r_iinc 1 dX12_howMany_156 rfl (by decide) (Nat.le_of_ble_eq_true rfl) rfl ?_
  refine r_goto 38 dX12_howMany_159 (by decide) ?_
  refine r_le [some (.ref 57), some (.int v1), some (.long (w0 + w1)), none, some (.int v4), some (.int (v5 + 1)), none, none, none, none] ⟨rfl, ⟨rfl, ⟨rfl, ⟨rfl, ⟨rfl, trivial⟩⟩⟩⟩⟩ ?_
  exact hrec (w0 + w1) (v5 + 1) μ h
def jn_MD_howMany_126 (n : Nat) (rec : Int64 → Int32 → kbM → Option (Int64 × kbM)) (v1 : Int32) (v2 : Int64) (v4 : Int32) (v5 : Int32) (v7 : Int64) (μ : kbM) : Option (Int64 × kbM) :=
  kbIf (kbIn ((10 * v4) + v5) 130) <|
  if v4 = v1 then
    jn_MD_howMany_154 n rec v1 v4 v5 v2 v7 (kbX μ 88 (((10 * v4) + v5).toNatClampNeg) v7)
  else
    jn_MD_howMany_154 n rec v1 v4 v5 v2 0 (kbX μ 88 (((10 * v4) + v5).toNatClampNeg) v7)
theorem jnR_MD_howMany_126 {l : Launch} (n : Nat)   (v1 : Int32) (v2 : Int64) (v4 : Int32) (v5 : Int32) (v7 : Int64) (μ : kbM) {Q : kbQt} {P : Int64 × kbM → Prop} (hx : ∀ z : Int64 × kbM, P (z) → kbR l MX12_howMany 4 Q 162 [some (.ref 57), some (.int v1), some (.long z.1), none, some (.int v4), none, none, none, none, none] [] z.2) {rec : Int64 → Int32 → kbM → Option (Int64 × kbM)} (hrec : ∀ (v2 : Int64) (v5 : Int32) (μ : kbM), kbG (rec v2 v5 μ) P → kbR l MX12_howMany 4 Q 38 [some (.ref 57), some (.int v1), some (.long v2), none, some (.int v4), some (.int v5), none, none, none, none] [] μ) (h : kbG (jn_MD_howMany_126 n rec v1 v2 v4 v5 v7 μ) P) : kbR l MX12_howMany 4 Q 126 [some (.ref 57), some (.int v1), some (.long v2), none, some (.int v4), some (.int v5), none, some (.long v7), none, none] [] μ := by
  unfold jn_MD_howMany_126 at h
  refine r_aload_n dX12_howMany_126 rfl ?_
  refine r_getR flX12_132 sh57 rfl dX12_howMany_127 ?_
  refine r_bipush 10 dX12_howMany_130 (by decide) ?_
  refine r_iload dX12_howMany_132 rfl ?_
  refine r_imul dX12_howMany_134 ?_
  refine r_iload dX12_howMany_135 rfl ?_
  refine r_iadd dX12_howMany_137 ?_
  refine r_lload dX12_howMany_138 rfl ?_
  obtain ⟨hin, h⟩ := kbG_if h
  replace hin := kbIn_of hin
  refine q_last (((10 * v4) + v5).toNatClampNeg) rfl sh88 hin dX12_howMany_140 ?_
  refine r_lload_n dX12_howMany_141 rfl ?_
  refine r_iload dX12_howMany_142 rfl ?_
  refine r_iload_n dX12_howMany_144 rfl ?_
  refine r_icmp_ne 153 dX12_howMany_145 (by decide) (fun hc => ?_) (fun hc => ?_)
  · replace h := kbG_f hc h
    refine r_lconst 0 dX12_howMany_153 (by decide) ?_
    refine r_le [some (.ref 57), some (.int v1), none, none, some (.int v4), some (.int v5), none, none, none, none] ⟨rfl, ⟨rfl, ⟨rfl, ⟨rfl, trivial⟩⟩⟩⟩ ?_
    exact jnR_MD_howMany_154 n v1 v4 v5 v2 0 (kbX μ 88 (((10 * v4) + v5).toNatClampNeg) v7) (hx := hx) (hrec := hrec) h
  · replace h := kbG_t hc h
    refine r_lload dX12_howMany_148 rfl ?_
    refine r_goto 154 dX12_howMany_150 (by decide) ?_
    refine r_le [some (.ref 57), some (.int v1), none, none, some (.int v4), some (.int v5), none, none, none, none] ⟨rfl, ⟨rfl, ⟨rfl, ⟨rfl, trivial⟩⟩⟩⟩ ?_
    exact jnR_MD_howMany_154 n v1 v4 v5 v2 v7 (kbX μ 88 (((10 * v4) + v5).toNatClampNeg) v7) (hx := hx) (hrec := hrec) h
def jn_MD_howMany_72 (n : Nat) (rec : Int64 → Int32 → kbM → Option (Int64 × kbM)) (v1 : Int32) (v2 : Int64) (v4 : Int32) (v5 : Int32) (v6 : Int32) (w0 : Int64) (μ : kbM) : Option (Int64 × kbM) :=
  (lp_MD_howMany_77 n v1 v2 v4 v5 v6 n w0 0 μ).bind fun x4 =>
  jn_MD_howMany_126 n rec v1 v2 v4 v5 x4.1 x4.2
theorem jnR_MD_howMany_72 {l : Launch} (n : Nat)   (v1 : Int32) (v2 : Int64) (v4 : Int32) (v5 : Int32) (v6 : Int32) (w0 : Int64) (μ : kbM) {Q : kbQt} {P : Int64 × kbM → Prop} (hx : ∀ z : Int64 × kbM, P (z) → kbR l MX12_howMany 4 Q 162 [some (.ref 57), some (.int v1), some (.long z.1), none, some (.int v4), none, none, none, none, none] [] z.2) {rec : Int64 → Int32 → kbM → Option (Int64 × kbM)} (hrec : ∀ (v2 : Int64) (v5 : Int32) (μ : kbM), kbG (rec v2 v5 μ) P → kbR l MX12_howMany 4 Q 38 [some (.ref 57), some (.int v1), some (.long v2), none, some (.int v4), some (.int v5), none, none, none, none] [] μ) (h : kbG (jn_MD_howMany_72 n rec v1 v2 v4 v5 v6 w0 μ) P) : kbR l MX12_howMany 4 Q 72 [some (.ref 57), some (.int v1), some (.long v2), none, some (.int v4), some (.int v5), some (.int v6), none, none, none] [.long w0] μ := by
  unfold jn_MD_howMany_72 at h
  refine r_lstore dX12_howMany_72 (Nat.le_of_ble_eq_true rfl) rfl ?_
  refine r_iconst 0 dX12_howMany_74 (by decide) ?_
  refine r_istore dX12_howMany_75 (Nat.le_of_ble_eq_true rfl) rfl ?_
  refine r_le [some (.ref 57), some (.int v1), some (.long v2), none, some (.int v4), some (.int v5), some (.int v6), some (.long w0), none, some (.int 0)] ⟨rfl, ⟨rfl, ⟨rfl, ⟨rfl, ⟨rfl, ⟨rfl, ⟨rfl, ⟨rfl, trivial⟩⟩⟩⟩⟩⟩⟩⟩ ?_
  obtain ⟨x4, hx0, h⟩ := kbG_bind h
  refine lpR_MD_howMany_77 n v1 v2 v4 v5 v6 (P := fun z => x4 = z) (hx := fun z e => ?_) n _ _ _ ⟨_, hx0, rfl⟩
  subst e
  refine r_le [some (.ref 57), some (.int v1), some (.long v2), none, some (.int v4), some (.int v5), none, some (.long x4.1), none, none] ⟨rfl, ⟨rfl, ⟨rfl, ⟨rfl, ⟨rfl, ⟨rfl, trivial⟩⟩⟩⟩⟩⟩ ?_
  exact jnR_MD_howMany_126 n v1 v2 v4 v5 x4.1 x4.2 (hx := hx) (hrec := hrec) h
def lp_MD_howMany_38 (n : Nat) (v1 : Int32) (v4 : Int32) : Nat → Int64 → Int32 → kbM → Option (Int64 × kbM)
  | 0, _, _, _ => none
  | k + 1, v2, v5, μ =>
    if (μ.1 57 27) ≤ v5 then
      some ((v2, μ))
    else
      kbIf (kbIn v5 10) <|
      (f_MD_sizeOf n (μ.1 70 v5.toNatClampNeg)).bind fun x2 =>
      if (v4 - x2) = 0 then
        jn_MD_howMany_72 n (lp_MD_howMany_38 n v1 v4 k) v1 v2 v4 v5 (v4 - x2) 1 μ
      else
        jn_MD_howMany_72 n (lp_MD_howMany_38 n v1 v4 k) v1 v2 v4 v5 (v4 - x2) 0 μ
theorem lpR_MD_howMany_38 {l : Launch} (n : Nat) (v1 : Int32) (v4 : Int32)  {Q : kbQt} {P : Int64 × kbM → Prop} (hx : ∀ z : Int64 × kbM, P (z) → kbR l MX12_howMany 4 Q 162 [some (.ref 57), some (.int v1), some (.long z.1), none, some (.int v4), none, none, none, none, none] [] z.2) : ∀ (k : Nat) (v2 : Int64) (v5 : Int32) (μ : kbM), kbG (lp_MD_howMany_38 n v1 v4 k v2 v5 μ) P → kbR l MX12_howMany 4 Q 38 [some (.ref 57), some (.int v1), some (.long v2), none, some (.int v4), some (.int v5), none, none, none, none] [] μ := by
  intro k
  induction k with
  | zero => intro v2 v5 μ h; exact absurd h kbG_none
  | succ k ih =>
    intro v2 v5 μ h
    unfold lp_MD_howMany_38 at h
    refine r_iload dX12_howMany_38 rfl ?_
    refine r_aload_n dX12_howMany_40 rfl ?_
    refine r_getI flX12_162 sh57 rfl dX12_howMany_41 ?_
    refine r_icmp_ge 162 dX12_howMany_44 (by decide) (fun hc => ?_) (fun hc => ?_)
    · replace h := kbG_t hc h
      refine r_le [some (.ref 57), some (.int v1), some (.long v2), none, some (.int v4), none, none, none, none, none] ⟨rfl, ⟨rfl, ⟨rfl, ⟨rfl, trivial⟩⟩⟩⟩ ?_
      exact hx ((v2, μ)) (kbG_some h)
    · replace h := kbG_f hc h
      refine r_iload dX12_howMany_47 rfl ?_
      refine r_aload_n dX12_howMany_49 rfl ?_
      refine r_getR flX12_79 sh57 rfl dX12_howMany_50 ?_
      refine r_iload dX12_howMany_53 rfl ?_
      obtain ⟨hin, h⟩ := kbG_if h
      replace hin := kbIn_of hin
      refine q_iald v5.toNatClampNeg rfl sh70 hin dX12_howMany_55 ?_
      obtain ⟨x2, hx0, h⟩ := kbG_bind h
      refine r_inv_i csX12_322 (sp_MD_sizeOf n (μ.1 70 v5.toNatClampNeg) μ hx0) rfl rfl (Nat.le_of_ble_eq_true rfl) (Nat.le_of_ble_eq_true rfl) dX12_howMany_56 ?_
      refine r_isub dX12_howMany_59 ?_
      refine r_istore dX12_howMany_60 (Nat.le_of_ble_eq_true rfl) rfl ?_
      refine r_iload dX12_howMany_62 rfl ?_
      refine r_if_ne 71 dX12_howMany_64 (by decide) (fun hc => ?_) (fun hc => ?_)
      · replace h := kbG_f hc h
        refine r_lconst 0 dX12_howMany_71 (by decide) ?_
        refine r_le [some (.ref 57), some (.int v1), some (.long v2), none, some (.int v4), some (.int v5), some (.int (v4 - x2)), none, none, none] ⟨rfl, ⟨rfl, ⟨rfl, ⟨rfl, ⟨rfl, ⟨rfl, trivial⟩⟩⟩⟩⟩⟩ ?_
        exact jnR_MD_howMany_72 n v1 v2 v4 v5 (v4 - x2) 0 μ (hx := hx) (hrec := ih) h
      · replace h := kbG_t hc h
        refine r_lconst 1 dX12_howMany_67 (by decide) ?_
        refine r_goto 72 dX12_howMany_68 (by decide) ?_
        refine r_le [some (.ref 57), some (.int v1), some (.long v2), none, some (.int v4), some (.int v5), some (.int (v4 - x2)), none, none, none] ⟨rfl, ⟨rfl, ⟨rfl, ⟨rfl, ⟨rfl, ⟨rfl, trivial⟩⟩⟩⟩⟩⟩ ?_
        exact jnR_MD_howMany_72 n v1 v2 v4 v5 (v4 - x2) 1 μ (hx := hx) (hrec := ih) h
def lp_MD_howMany_29 (n : Nat) (v1 : Int32) : Nat → Int64 → Int32 → kbM → Option (Int64 × kbM)
  | 0, _, _, _ => none
  | k + 1, v2, v4, μ =>
    if v1 < v4 then
      some ((v2, μ))
    else
      (lp_MD_howMany_38 n v1 v4 n v2 0 μ).bind fun x5 =>
      lp_MD_howMany_29 n v1 k x5.1 (v4 + 1) x5.2
theorem lpR_MD_howMany_29 {l : Launch} (n : Nat) (v1 : Int32)  {Q : kbQt} {P : Int64 × kbM → Prop} (hx : ∀ z : Int64 × kbM, P (z) → kbR l MX12_howMany 4 Q 168 [none, none, some (.long z.1), none, none, none, none, none, none, none] [] z.2) : ∀ (k : Nat) (v2 : Int64) (v4 : Int32) (μ : kbM), kbG (lp_MD_howMany_29 n v1 k v2 v4 μ) P → kbR l MX12_howMany 4 Q 29 [some (.ref 57), some (.int v1), some (.long v2), none, some (.int v4), none, none, none, none, none] [] μ := by
  intro k
  induction k with
  | zero => intro v2 v4 μ h; exact absurd h kbG_none
  | succ k ih =>
    intro v2 v4 μ h
    unfold lp_MD_howMany_29 at h
    refine r_iload dX12_howMany_29 rfl ?_
    refine r_iload_n dX12_howMany_31 rfl ?_
    refine r_icmp_gt 168 dX12_howMany_32 (by decide) (fun hc => ?_) (fun hc => ?_)
    · replace h := kbG_t hc h
      refine r_le [none, none, some (.long v2), none, none, none, none, none, none, none] ⟨rfl, trivial⟩ ?_
      exact hx ((v2, μ)) (kbG_some h)
    · replace h := kbG_f hc h
      refine r_iconst 0 dX12_howMany_35 (by decide) ?_
      refine r_istore dX12_howMany_36 (Nat.le_of_ble_eq_true rfl) rfl ?_
      refine r_le [some (.ref 57), some (.int v1), some (.long v2), none, some (.int v4), some (.int 0), none, none, none, none] ⟨rfl, ⟨rfl, ⟨rfl, ⟨rfl, ⟨rfl, trivial⟩⟩⟩⟩⟩ ?_
      obtain ⟨x5, hx0, h⟩ := kbG_bind h
      refine lpR_MD_howMany_38 n v1 v4 (P := fun z => x5 = z) (hx := fun z e => ?_) n _ _ _ ⟨_, hx0, rfl⟩
      subst e
      refine r_iinc 1 dX12_howMany_162 rfl (by decide) (Nat.le_of_ble_eq_true rfl) rfl ?_
      refine r_goto 29 dX12_howMany_165 (by decide) ?_
      refine r_le [some (.ref 57), some (.int v1), some (.long x5.1), none, some (.int (v4 + 1)), none, none, none, none, none] ⟨rfl, ⟨rfl, ⟨rfl, ⟨rfl, trivial⟩⟩⟩⟩ ?_
      exact ih x5.1 (v4 + 1) x5.2 h
def f_MD_howMany (n : Nat) (a1 : Int32) (μ : kbM) : Option (Int64 × kbM) :=
  (f_MD_isIn a1.toInt64 1 12).bind fun x1 =>
  if x1 = 0 then
    (f_MD_fail 1 (kbW μ 57 3 0)).bind fun x7 =>
    some ((x7.1.toInt64, x7.2))
  else
    (lp_MD_howMany_29 n a1 n 0 1 (kbW μ 57 3 0)).bind fun x6 =>
    some ((x6.1, x6.2))
theorem sp_MD_howMany {l : Launch} (n : Nat) (a1 : Int32) (μ : kbM)  {x : Int64 × kbM} (h : f_MD_howMany n a1 μ = some x) : kbS l MX12_howMany 4 [.ref 57, .int a1] μ (kbQe (some (.long x.1)) x.2) := by
  refine kb_enter 8 rfl rfl ?_
  suffices H : ∀ (Q : kbQt) (P : Int64 × kbM → Prop), (∀ z : Int64 × kbM, P z → Q (some (.long z.1)) z.2) → kbG (f_MD_howMany n a1 μ) P → kbR l MX12_howMany 4 Q 0 [some (.ref 57), some (.int a1), none, none, none, none, none, none, none, none] [] μ from H _ (fun z => z = x) (fun z e => by subst e; exact ⟨rfl, rfl⟩) ⟨x, h, rfl⟩
  clear h
  intro Q P hr h
  unfold f_MD_howMany at h
  refine r_aload_n dX12_howMany_0 rfl ?_
  refine r_iconst 0 dX12_howMany_1 (by decide) ?_
  refine r_put flX12_159 sh57 rfl rfl rfl dX12_howMany_2 ?_
  refine r_iload_n dX12_howMany_5 rfl ?_
  refine r_i2l dX12_howMany_6 ?_
  refine r_lconst 1 dX12_howMany_7 (by decide) ?_
  refine r_ldc2 12 liX12_436 dX12_howMany_8 ?_
  obtain ⟨x1, hx0, h⟩ := kbG_bind h
  refine r_inv_i csX12_165 (sp_MD_isIn a1.toInt64 1 12 (kbW μ 57 3 0) hx0) rfl rfl (Nat.le_of_ble_eq_true rfl) (Nat.le_of_ble_eq_true rfl) dX12_howMany_11 ?_
  refine r_if_ne 24 dX12_howMany_14 (by decide) (fun hc => ?_) (fun hc => ?_)
  · replace h := kbG_f hc h
    refine r_lconst 0 dX12_howMany_24 (by decide) ?_
    refine r_lstore_n dX12_howMany_25 (Nat.le_of_ble_eq_true rfl) rfl ?_
    refine r_iconst 1 dX12_howMany_26 (by decide) ?_
    refine r_istore dX12_howMany_27 (Nat.le_of_ble_eq_true rfl) rfl ?_
    refine r_le [some (.ref 57), some (.int a1), some (.long 0), none, some (.int 1), none, none, none, none, none] ⟨rfl, ⟨rfl, ⟨rfl, ⟨rfl, trivial⟩⟩⟩⟩ ?_
    obtain ⟨x6, hx0, h⟩ := kbG_bind h
    refine lpR_MD_howMany_29 n a1 (P := fun z => x6 = z) (hx := fun z e => ?_) n _ _ _ ⟨_, hx0, rfl⟩
    subst e
    refine r_lload_n dX12_howMany_168 rfl ?_
    exact r_lret rfl dX12_howMany_169 (hr ((x6.1, x6.2)) (kbG_some h))
  · replace h := kbG_t hc h
    refine r_aload_n dX12_howMany_17 rfl ?_
    refine r_iconst 1 dX12_howMany_18 (by decide) ?_
    obtain ⟨x7, hx0, h⟩ := kbG_bind h
    refine r_invV_i cvX12_292 sh57 rfl (sp_MD_fail 1 (kbW μ 57 3 0) hx0) rfl rfl (Nat.le_of_ble_eq_true rfl) (Nat.le_of_ble_eq_true rfl) dX12_howMany_19 ?_
    refine r_i2l dX12_howMany_22 ?_
    exact r_lret rfl dX12_howMany_23 (hr ((x7.1.toInt64, x7.2)) (kbG_some h))
