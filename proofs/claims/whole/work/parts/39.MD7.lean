theorem dX12_hear_0 : decode cX12_hear 0 = .ok (.aload_n 0, 1) := by decide +kernel
theorem dX12_hear_1 : decode cX12_hear 1 = .ok (.iconst 0, 1) := by decide +kernel
theorem dX12_hear_2 : decode cX12_hear 2 = .ok (.putfield 159, 3) := by decide +kernel
theorem dX12_hear_5 : decode cX12_hear 5 = .ok (.aload_n 0, 1) := by decide +kernel
theorem dX12_hear_6 : decode cX12_hear 6 = .ok (.iload_n 1, 1) := by decide +kernel
theorem dX12_hear_7 : decode cX12_hear 7 = .ok (.invokevirtual 336, 3) := by decide +kernel
theorem dX12_hear_10 : decode cX12_hear 10 = .ok (.ifCond .ne 9, 3) := by decide +kernel
theorem dX12_hear_13 : decode cX12_hear 13 = .ok (.aload_n 0, 1) := by decide +kernel
theorem dX12_hear_14 : decode cX12_hear 14 = .ok (.iconst 1, 1) := by decide +kernel
theorem dX12_hear_15 : decode cX12_hear 15 = .ok (.invokevirtual 292, 3) := by decide +kernel
theorem dX12_hear_18 : decode cX12_hear 18 = .ok (.ireturn, 1) := by decide +kernel
theorem dX12_hear_19 : decode cX12_hear 19 = .ok (.aload_n 0, 1) := by decide +kernel
theorem dX12_hear_20 : decode cX12_hear 20 = .ok (.getfield 311, 3) := by decide +kernel
theorem dX12_hear_23 : decode cX12_hear 23 = .ok (.bipush 8, 2) := by decide +kernel
theorem dX12_hear_25 : decode cX12_hear 25 = .ok (.if_icmp .eq 10, 3) := by decide +kernel
theorem dX12_hear_28 : decode cX12_hear 28 = .ok (.iload_n 2, 1) := by decide +kernel
theorem dX12_hear_29 : decode cX12_hear 29 = .ok (.invokestatic 345, 3) := by decide +kernel
theorem dX12_hear_32 : decode cX12_hear 32 = .ok (.ifCond .ne 9, 3) := by decide +kernel
theorem dX12_hear_35 : decode cX12_hear 35 = .ok (.aload_n 0, 1) := by decide +kernel
theorem dX12_hear_36 : decode cX12_hear 36 = .ok (.iconst 2, 1) := by decide +kernel
theorem dX12_hear_37 : decode cX12_hear 37 = .ok (.invokevirtual 393, 3) := by decide +kernel
theorem dX12_hear_40 : decode cX12_hear 40 = .ok (.ireturn, 1) := by decide +kernel
theorem dX12_hear_41 : decode cX12_hear 41 = .ok (.aload_n 0, 1) := by decide +kernel
theorem dX12_hear_42 : decode cX12_hear 42 = .ok (.getfield 135, 3) := by decide +kernel
theorem dX12_hear_45 : decode cX12_hear 45 = .ok (.aload_n 0, 1) := by decide +kernel
theorem dX12_hear_46 : decode cX12_hear 46 = .ok (.getfield 311, 3) := by decide +kernel
theorem dX12_hear_49 : decode cX12_hear 49 = .ok (.iload_n 1, 1) := by decide +kernel
theorem dX12_hear_50 : decode cX12_hear 50 = .ok (.iastore, 1) := by decide +kernel
theorem dX12_hear_51 : decode cX12_hear 51 = .ok (.aload_n 0, 1) := by decide +kernel
theorem dX12_hear_52 : decode cX12_hear 52 = .ok (.getfield 138, 3) := by decide +kernel
theorem dX12_hear_55 : decode cX12_hear 55 = .ok (.aload_n 0, 1) := by decide +kernel
theorem dX12_hear_56 : decode cX12_hear 56 = .ok (.getfield 311, 3) := by decide +kernel
theorem dX12_hear_59 : decode cX12_hear 59 = .ok (.iload_n 2, 1) := by decide +kernel
theorem dX12_hear_60 : decode cX12_hear 60 = .ok (.iastore, 1) := by decide +kernel
theorem dX12_hear_61 : decode cX12_hear 61 = .ok (.aload_n 0, 1) := by decide +kernel
theorem dX12_hear_62 : decode cX12_hear 62 = .ok (.dup, 1) := by decide +kernel
theorem dX12_hear_63 : decode cX12_hear 63 = .ok (.getfield 311, 3) := by decide +kernel
theorem dX12_hear_66 : decode cX12_hear 66 = .ok (.iconst 1, 1) := by decide +kernel
theorem dX12_hear_67 : decode cX12_hear 67 = .ok (.iadd, 1) := by decide +kernel
theorem dX12_hear_68 : decode cX12_hear 68 = .ok (.putfield 311, 3) := by decide +kernel
theorem dX12_hear_71 : decode cX12_hear 71 = .ok (.aload_n 0, 1) := by decide +kernel
theorem dX12_hear_72 : decode cX12_hear 72 = .ok (.getfield 311, 3) := by decide +kernel
theorem dX12_hear_75 : decode cX12_hear 75 = .ok (.ireturn, 1) := by decide +kernel
theorem dX12_whichNow_0 : decode cX12_whichNow 0 = .ok (.iconst 0, 1) := by decide +kernel
theorem dX12_whichNow_1 : decode cX12_whichNow 1 = .ok (.istore_n 1, 1) := by decide +kernel
theorem dX12_whichNow_2 : decode cX12_whichNow 2 = .ok (.iconst 0, 1) := by decide +kernel
theorem dX12_whichNow_3 : decode cX12_whichNow 3 = .ok (.istore_n 2, 1) := by decide +kernel
theorem dX12_whichNow_4 : decode cX12_whichNow 4 = .ok (.iload_n 2, 1) := by decide +kernel
theorem dX12_whichNow_5 : decode cX12_whichNow 5 = .ok (.aload_n 0, 1) := by decide +kernel
theorem dX12_whichNow_6 : decode cX12_whichNow 6 = .ok (.getfield 162, 3) := by decide +kernel
theorem dX12_whichNow_9 : decode cX12_whichNow 9 = .ok (.if_icmp .ge 80, 3) := by decide +kernel
theorem dX12_whichNow_12 : decode cX12_whichNow 12 = .ok (.iconst 1, 1) := by decide +kernel
theorem dX12_whichNow_13 : decode cX12_whichNow 13 = .ok (.istore_n 3, 1) := by decide +kernel
theorem dX12_whichNow_14 : decode cX12_whichNow 14 = .ok (.iconst 0, 1) := by decide +kernel
theorem dX12_whichNow_15 : decode cX12_whichNow 15 = .ok (.istore 4, 2) := by decide +kernel
theorem dX12_whichNow_17 : decode cX12_whichNow 17 = .ok (.iload 4, 2) := by decide +kernel
theorem dX12_whichNow_19 : decode cX12_whichNow 19 = .ok (.aload_n 0, 1) := by decide +kernel
theorem dX12_whichNow_20 : decode cX12_whichNow 20 = .ok (.getfield 311, 3) := by decide +kernel
theorem dX12_whichNow_23 : decode cX12_whichNow 23 = .ok (.if_icmp .ge 46, 3) := by decide +kernel
theorem dX12_whichNow_26 : decode cX12_whichNow 26 = .ok (.iload_n 3, 1) := by decide +kernel
theorem dX12_whichNow_27 : decode cX12_whichNow 27 = .ok (.ifCond .eq 34, 3) := by decide +kernel
theorem dX12_whichNow_30 : decode cX12_whichNow 30 = .ok (.aload_n 0, 1) := by decide +kernel
theorem dX12_whichNow_31 : decode cX12_whichNow 31 = .ok (.aload_n 0, 1) := by decide +kernel
theorem dX12_whichNow_32 : decode cX12_whichNow 32 = .ok (.getfield 135, 3) := by decide +kernel
theorem dX12_whichNow_35 : decode cX12_whichNow 35 = .ok (.iload 4, 2) := by decide +kernel
theorem dX12_whichNow_37 : decode cX12_whichNow 37 = .ok (.iaload, 1) := by decide +kernel
theorem dX12_whichNow_38 : decode cX12_whichNow 38 = .ok (.aload_n 0, 1) := by decide +kernel
theorem dX12_whichNow_39 : decode cX12_whichNow 39 = .ok (.getfield 79, 3) := by decide +kernel
theorem dX12_whichNow_42 : decode cX12_whichNow 42 = .ok (.iload_n 2, 1) := by decide +kernel
theorem dX12_whichNow_43 : decode cX12_whichNow 43 = .ok (.iaload, 1) := by decide +kernel
theorem dX12_whichNow_44 : decode cX12_whichNow 44 = .ok (.invokevirtual 328, 3) := by decide +kernel
theorem dX12_whichNow_47 : decode cX12_whichNow 47 = .ok (.aload_n 0, 1) := by decide +kernel
theorem dX12_whichNow_48 : decode cX12_whichNow 48 = .ok (.getfield 138, 3) := by decide +kernel
theorem dX12_whichNow_51 : decode cX12_whichNow 51 = .ok (.iload 4, 2) := by decide +kernel
theorem dX12_whichNow_53 : decode cX12_whichNow 53 = .ok (.iaload, 1) := by decide +kernel
theorem dX12_whichNow_54 : decode cX12_whichNow 54 = .ok (.if_icmp .ne 7, 3) := by decide +kernel
theorem dX12_whichNow_57 : decode cX12_whichNow 57 = .ok (.iconst 1, 1) := by decide +kernel
theorem dX12_whichNow_58 : decode cX12_whichNow 58 = .ok (.goto 4, 3) := by decide +kernel
theorem dX12_whichNow_61 : decode cX12_whichNow 61 = .ok (.iconst 0, 1) := by decide +kernel
theorem dX12_whichNow_62 : decode cX12_whichNow 62 = .ok (.istore_n 3, 1) := by decide +kernel
theorem dX12_whichNow_63 : decode cX12_whichNow 63 = .ok (.iinc 4 1, 3) := by decide +kernel
theorem dX12_whichNow_66 : decode cX12_whichNow 66 = .ok (.goto (-49), 3) := by decide +kernel
theorem dX12_whichNow_69 : decode cX12_whichNow 69 = .ok (.iload_n 1, 1) := by decide +kernel
theorem dX12_whichNow_70 : decode cX12_whichNow 70 = .ok (.iload_n 3, 1) := by decide +kernel
theorem dX12_whichNow_71 : decode cX12_whichNow 71 = .ok (.ifCond .eq 9, 3) := by decide +kernel
theorem dX12_whichNow_74 : decode cX12_whichNow 74 = .ok (.iconst 1, 1) := by decide +kernel
theorem dX12_whichNow_75 : decode cX12_whichNow 75 = .ok (.iload_n 2, 1) := by decide +kernel
theorem dX12_whichNow_76 : decode cX12_whichNow 76 = .ok (.ishl, 1) := by decide +kernel
theorem dX12_whichNow_77 : decode cX12_whichNow 77 = .ok (.goto 4, 3) := by decide +kernel
theorem dX12_whichNow_80 : decode cX12_whichNow 80 = .ok (.iconst 0, 1) := by decide +kernel
theorem dX12_whichNow_81 : decode cX12_whichNow 81 = .ok (.ior, 1) := by decide +kernel
theorem dX12_whichNow_82 : decode cX12_whichNow 82 = .ok (.istore_n 1, 1) := by decide +kernel
theorem dX12_whichNow_83 : decode cX12_whichNow 83 = .ok (.iinc 2 1, 3) := by decide +kernel
theorem dX12_whichNow_86 : decode cX12_whichNow 86 = .ok (.goto (-82), 3) := by decide +kernel
theorem dX12_whichNow_89 : decode cX12_whichNow 89 = .ok (.iload_n 1, 1) := by decide +kernel
theorem dX12_whichNow_90 : decode cX12_whichNow 90 = .ok (.ireturn, 1) := by decide +kernel
theorem dX12_which_0 : decode cX12_which 0 = .ok (.aload_n 0, 1) := by decide +kernel
theorem dX12_which_1 : decode cX12_which 1 = .ok (.iconst 0, 1) := by decide +kernel
theorem dX12_which_2 : decode cX12_which 2 = .ok (.putfield 159, 3) := by decide +kernel
theorem dX12_which_5 : decode cX12_which 5 = .ok (.aload_n 0, 1) := by decide +kernel
theorem dX12_which_6 : decode cX12_which 6 = .ok (.invokevirtual 441, 3) := by decide +kernel
theorem dX12_which_9 : decode cX12_which 9 = .ok (.ireturn, 1) := by decide +kernel
theorem dX12_unlike_0 : decode cX12_unlike 0 = .ok (.iconst 0, 1) := by decide +kernel
theorem dX12_unlike_1 : decode cX12_unlike 1 = .ok (.istore_n 3, 1) := by decide +kernel
theorem dX12_unlike_2 : decode cX12_unlike 2 = .ok (.iconst 0, 1) := by decide +kernel
theorem dX12_unlike_3 : decode cX12_unlike 3 = .ok (.istore 4, 2) := by decide +kernel
theorem dX12_unlike_5 : decode cX12_unlike 5 = .ok (.iload 4, 2) := by decide +kernel
theorem dX12_unlike_7 : decode cX12_unlike 7 = .ok (.aload_n 0, 1) := by decide +kernel
theorem dX12_unlike_8 : decode cX12_unlike 8 = .ok (.getfield 162, 3) := by decide +kernel
theorem dX12_unlike_11 : decode cX12_unlike 11 = .ok (.if_icmp .ge 94, 3) := by decide +kernel
theorem dX12_unlike_14 : decode cX12_unlike 14 = .ok (.iload_n 2, 1) := by decide +kernel
theorem dX12_unlike_15 : decode cX12_unlike 15 = .ok (.iload 4, 2) := by decide +kernel
theorem dX12_unlike_17 : decode cX12_unlike 17 = .ok (.invokestatic 318, 3) := by decide +kernel
theorem dX12_unlike_20 : decode cX12_unlike 20 = .ok (.istore 5, 2) := by decide +kernel
theorem dX12_unlike_22 : decode cX12_unlike 22 = .ok (.iconst 0, 1) := by decide +kernel
theorem dX12_unlike_23 : decode cX12_unlike 23 = .ok (.istore 6, 2) := by decide +kernel
theorem dX12_unlike_25 : decode cX12_unlike 25 = .ok (.iload 6, 2) := by decide +kernel
theorem dX12_unlike_27 : decode cX12_unlike 27 = .ok (.iload 4, 2) := by decide +kernel
theorem dX12_unlike_29 : decode cX12_unlike 29 = .ok (.if_icmp .ge 57, 3) := by decide +kernel
theorem dX12_unlike_32 : decode cX12_unlike 32 = .ok (.iload 5, 2) := by decide +kernel
theorem dX12_unlike_34 : decode cX12_unlike 34 = .ok (.ifCond .eq 52, 3) := by decide +kernel
theorem dX12_unlike_37 : decode cX12_unlike 37 = .ok (.iload_n 2, 1) := by decide +kernel
theorem dX12_unlike_38 : decode cX12_unlike 38 = .ok (.iload 6, 2) := by decide +kernel
theorem dX12_unlike_40 : decode cX12_unlike 40 = .ok (.invokestatic 318, 3) := by decide +kernel
theorem dX12_unlike_43 : decode cX12_unlike 43 = .ok (.ifCond .eq 30, 3) := by decide +kernel
theorem dX12_unlike_46 : decode cX12_unlike 46 = .ok (.aload_n 0, 1) := by decide +kernel
theorem dX12_unlike_47 : decode cX12_unlike 47 = .ok (.iload_n 1, 1) := by decide +kernel
theorem dX12_unlike_48 : decode cX12_unlike 48 = .ok (.aload_n 0, 1) := by decide +kernel
theorem dX12_unlike_49 : decode cX12_unlike 49 = .ok (.getfield 79, 3) := by decide +kernel
theorem dX12_unlike_52 : decode cX12_unlike 52 = .ok (.iload 4, 2) := by decide +kernel
theorem dX12_unlike_54 : decode cX12_unlike 54 = .ok (.iaload, 1) := by decide +kernel
theorem dX12_unlike_55 : decode cX12_unlike 55 = .ok (.invokevirtual 328, 3) := by decide +kernel
theorem dX12_unlike_58 : decode cX12_unlike 58 = .ok (.aload_n 0, 1) := by decide +kernel
theorem dX12_unlike_59 : decode cX12_unlike 59 = .ok (.iload_n 1, 1) := by decide +kernel
theorem dX12_unlike_60 : decode cX12_unlike 60 = .ok (.aload_n 0, 1) := by decide +kernel
theorem dX12_unlike_61 : decode cX12_unlike 61 = .ok (.getfield 79, 3) := by decide +kernel
theorem dX12_unlike_64 : decode cX12_unlike 64 = .ok (.iload 6, 2) := by decide +kernel
theorem dX12_unlike_66 : decode cX12_unlike 66 = .ok (.iaload, 1) := by decide +kernel
theorem dX12_unlike_67 : decode cX12_unlike 67 = .ok (.invokevirtual 328, 3) := by decide +kernel
theorem dX12_unlike_70 : decode cX12_unlike 70 = .ok (.if_icmp .eq 7, 3) := by decide +kernel
theorem dX12_unlike_73 : decode cX12_unlike 73 = .ok (.iconst 1, 1) := by decide +kernel
theorem dX12_unlike_74 : decode cX12_unlike 74 = .ok (.goto 4, 3) := by decide +kernel
theorem dX12_unlike_77 : decode cX12_unlike 77 = .ok (.iconst 0, 1) := by decide +kernel
theorem dX12_unlike_78 : decode cX12_unlike 78 = .ok (.istore 5, 2) := by decide +kernel
theorem dX12_unlike_80 : decode cX12_unlike 80 = .ok (.iinc 6 1, 3) := by decide +kernel
theorem dX12_unlike_83 : decode cX12_unlike 83 = .ok (.goto (-58), 3) := by decide +kernel
theorem dX12_unlike_86 : decode cX12_unlike 86 = .ok (.iload_n 3, 1) := by decide +kernel
theorem dX12_unlike_87 : decode cX12_unlike 87 = .ok (.iload 5, 2) := by decide +kernel
theorem dX12_unlike_89 : decode cX12_unlike 89 = .ok (.ifCond .eq 7, 3) := by decide +kernel
theorem dX12_unlike_92 : decode cX12_unlike 92 = .ok (.iconst 1, 1) := by decide +kernel
theorem dX12_unlike_93 : decode cX12_unlike 93 = .ok (.goto 4, 3) := by decide +kernel
theorem dX12_unlike_96 : decode cX12_unlike 96 = .ok (.iconst 0, 1) := by decide +kernel
theorem dX12_unlike_97 : decode cX12_unlike 97 = .ok (.iadd, 1) := by decide +kernel
theorem dX12_unlike_98 : decode cX12_unlike 98 = .ok (.istore_n 3, 1) := by decide +kernel
theorem dX12_unlike_99 : decode cX12_unlike 99 = .ok (.iinc 4 1, 3) := by decide +kernel
theorem dX12_unlike_102 : decode cX12_unlike 102 = .ok (.goto (-97), 3) := by decide +kernel
theorem dX12_unlike_105 : decode cX12_unlike 105 = .ok (.iload_n 3, 1) := by decide +kernel
theorem dX12_unlike_106 : decode cX12_unlike 106 = .ok (.ireturn, 1) := by decide +kernel
theorem dX12_listen_0 : decode cX12_listen 0 = .ok (.aload_n 0, 1) := by decide +kernel
theorem dX12_listen_1 : decode cX12_listen 1 = .ok (.iconst 0, 1) := by decide +kernel
theorem dX12_listen_2 : decode cX12_listen 2 = .ok (.putfield 159, 3) := by decide +kernel
theorem dX12_listen_5 : decode cX12_listen 5 = .ok (.iload_n 1, 1) := by decide +kernel
theorem dX12_listen_6 : decode cX12_listen 6 = .ok (.ifCond .lt 8, 3) := by decide +kernel
theorem dX12_listen_9 : decode cX12_listen 9 = .ok (.iload_n 1, 1) := by decide +kernel
theorem dX12_listen_10 : decode cX12_listen 10 = .ok (.iconst 1, 1) := by decide +kernel
theorem dX12_listen_11 : decode cX12_listen 11 = .ok (.if_icmp .le 9, 3) := by decide +kernel
theorem dX12_listen_14 : decode cX12_listen 14 = .ok (.aload_n 0, 1) := by decide +kernel
theorem dX12_listen_15 : decode cX12_listen 15 = .ok (.iconst 1, 1) := by decide +kernel
theorem dX12_listen_16 : decode cX12_listen 16 = .ok (.invokevirtual 292, 3) := by decide +kernel
theorem dX12_listen_19 : decode cX12_listen 19 = .ok (.ireturn, 1) := by decide +kernel
theorem dX12_listen_20 : decode cX12_listen 20 = .ok (.aload_n 0, 1) := by decide +kernel
theorem dX12_listen_21 : decode cX12_listen 21 = .ok (.invokevirtual 441, 3) := by decide +kernel
theorem dX12_listen_24 : decode cX12_listen 24 = .ok (.istore_n 2, 1) := by decide +kernel
theorem dX12_listen_25 : decode cX12_listen 25 = .ok (.iconst (-1), 1) := by decide +kernel
theorem dX12_listen_26 : decode cX12_listen 26 = .ok (.istore_n 3, 1) := by decide +kernel
theorem dX12_listen_27 : decode cX12_listen 27 = .ok (.iconst 0, 1) := by decide +kernel
theorem dX12_listen_28 : decode cX12_listen 28 = .ok (.istore 4, 2) := by decide +kernel
theorem dX12_listen_30 : decode cX12_listen 30 = .ok (.iconst 0, 1) := by decide +kernel
theorem dX12_listen_31 : decode cX12_listen 31 = .ok (.istore 5, 2) := by decide +kernel
theorem dX12_listen_33 : decode cX12_listen 33 = .ok (.iload 5, 2) := by decide +kernel
theorem dX12_listen_35 : decode cX12_listen 35 = .ok (.aload_n 0, 1) := by decide +kernel
theorem dX12_listen_36 : decode cX12_listen 36 = .ok (.getfield 47, 3) := by decide +kernel
theorem dX12_listen_39 : decode cX12_listen 39 = .ok (.iconst 1, 1) := by decide +kernel
theorem dX12_listen_40 : decode cX12_listen 40 = .ok (.iaload, 1) := by decide +kernel
theorem dX12_listen_41 : decode cX12_listen 41 = .ok (.if_icmp .ge 35, 3) := by decide +kernel
theorem dX12_listen_44 : decode cX12_listen 44 = .ok (.aload_n 0, 1) := by decide +kernel
theorem dX12_listen_45 : decode cX12_listen 45 = .ok (.iload 5, 2) := by decide +kernel
theorem dX12_listen_47 : decode cX12_listen 47 = .ok (.iload_n 2, 1) := by decide +kernel
theorem dX12_listen_48 : decode cX12_listen 48 = .ok (.invokevirtual 444, 3) := by decide +kernel
theorem dX12_listen_51 : decode cX12_listen 51 = .ok (.istore 6, 2) := by decide +kernel
theorem dX12_listen_53 : decode cX12_listen 53 = .ok (.iload 6, 2) := by decide +kernel
theorem dX12_listen_55 : decode cX12_listen 55 = .ok (.iload 4, 2) := by decide +kernel
theorem dX12_listen_57 : decode cX12_listen 57 = .ok (.if_icmp .gt 6, 3) := by decide +kernel
theorem dX12_listen_60 : decode cX12_listen 60 = .ok (.goto 10, 3) := by decide +kernel
theorem dX12_listen_63 : decode cX12_listen 63 = .ok (.iload 5, 2) := by decide +kernel
theorem dX12_listen_65 : decode cX12_listen 65 = .ok (.istore_n 3, 1) := by decide +kernel
theorem dX12_listen_66 : decode cX12_listen 66 = .ok (.iload 6, 2) := by decide +kernel
theorem dX12_listen_68 : decode cX12_listen 68 = .ok (.istore 4, 2) := by decide +kernel
theorem dX12_listen_70 : decode cX12_listen 70 = .ok (.iinc 5 1, 3) := by decide +kernel
theorem dX12_listen_73 : decode cX12_listen 73 = .ok (.goto (-40), 3) := by decide +kernel
theorem dX12_listen_76 : decode cX12_listen 76 = .ok (.iload_n 1, 1) := by decide +kernel
theorem dX12_listen_77 : decode cX12_listen 77 = .ok (.ifCond .ne 7, 3) := by decide +kernel
theorem dX12_listen_80 : decode cX12_listen 80 = .ok (.iload_n 3, 1) := by decide +kernel
theorem dX12_listen_81 : decode cX12_listen 81 = .ok (.goto 5, 3) := by decide +kernel
theorem dX12_listen_84 : decode cX12_listen 84 = .ok (.iload 4, 2) := by decide +kernel
theorem dX12_listen_86 : decode cX12_listen 86 = .ok (.ireturn, 1) := by decide +kernel
theorem dX12_forget_0 : decode cX12_forget 0 = .ok (.aload_n 0, 1) := by decide +kernel
theorem dX12_forget_1 : decode cX12_forget 1 = .ok (.iconst 0, 1) := by decide +kernel
theorem dX12_forget_2 : decode cX12_forget 2 = .ok (.putfield 159, 3) := by decide +kernel
theorem dX12_forget_5 : decode cX12_forget 5 = .ok (.aload_n 0, 1) := by decide +kernel
theorem dX12_forget_6 : decode cX12_forget 6 = .ok (.iconst 0, 1) := by decide +kernel
theorem dX12_forget_7 : decode cX12_forget 7 = .ok (.putfield 311, 3) := by decide +kernel
theorem dX12_forget_10 : decode cX12_forget 10 = .ok (.return_, 1) := by decide +kernel
theorem dX12_isTold_0 : decode cX12_isTold 0 = .ok (.aload_n 0, 1) := by decide +kernel
theorem dX12_isTold_1 : decode cX12_isTold 1 = .ok (.aload_n 0, 1) := by decide +kernel
theorem dX12_isTold_2 : decode cX12_isTold 2 = .ok (.iload_n 2, 1) := by decide +kernel
theorem dX12_isTold_3 : decode cX12_isTold 3 = .ok (.aload_n 0, 1) := by decide +kernel
theorem dX12_isTold_4 : decode cX12_isTold 4 = .ok (.getfield 79, 3) := by decide +kernel
theorem dX12_isTold_7 : decode cX12_isTold 7 = .ok (.iload_n 1, 1) := by decide +kernel
theorem dX12_isTold_8 : decode cX12_isTold 8 = .ok (.iaload, 1) := by decide +kernel
theorem dX12_isTold_9 : decode cX12_isTold 9 = .ok (.invokevirtual 328, 3) := by decide +kernel
theorem dX12_isTold_12 : decode cX12_isTold 12 = .ok (.invokevirtual 379, 3) := by decide +kernel
theorem dX12_isTold_15 : decode cX12_isTold 15 = .ok (.iload_n 1, 1) := by decide +kernel
theorem dX12_isTold_16 : decode cX12_isTold 16 = .ok (.if_icmp .ne 7, 3) := by decide +kernel
theorem dX12_isTold_19 : decode cX12_isTold 19 = .ok (.iconst 1, 1) := by decide +kernel
theorem dX12_isTold_20 : decode cX12_isTold 20 = .ok (.goto 4, 3) := by decide +kernel
theorem dX12_isTold_23 : decode cX12_isTold 23 = .ok (.iconst 0, 1) := by decide +kernel
theorem dX12_isTold_24 : decode cX12_isTold 24 = .ok (.ireturn, 1) := by decide +kernel
theorem dX12_telegraph_0 : decode cX12_telegraph 0 = .ok (.aload_n 0, 1) := by decide +kernel
theorem dX12_telegraph_1 : decode cX12_telegraph 1 = .ok (.iconst 0, 1) := by decide +kernel
theorem dX12_telegraph_2 : decode cX12_telegraph 2 = .ok (.putfield 159, 3) := by decide +kernel
theorem dX12_telegraph_5 : decode cX12_telegraph 5 = .ok (.aload_n 0, 1) := by decide +kernel
theorem dX12_telegraph_6 : decode cX12_telegraph 6 = .ok (.iload_n 1, 1) := by decide +kernel
theorem dX12_telegraph_7 : decode cX12_telegraph 7 = .ok (.invokevirtual 336, 3) := by decide +kernel
theorem dX12_telegraph_10 : decode cX12_telegraph 10 = .ok (.ifCond .eq 11, 3) := by decide +kernel
theorem dX12_telegraph_13 : decode cX12_telegraph 13 = .ok (.aload_n 0, 1) := by decide +kernel
theorem dX12_telegraph_14 : decode cX12_telegraph 14 = .ok (.iload_n 2, 1) := by decide +kernel
theorem dX12_telegraph_15 : decode cX12_telegraph 15 = .ok (.invokevirtual 336, 3) := by decide +kernel
theorem dX12_telegraph_18 : decode cX12_telegraph 18 = .ok (.ifCond .ne 9, 3) := by decide +kernel
theorem dX12_telegraph_21 : decode cX12_telegraph 21 = .ok (.aload_n 0, 1) := by decide +kernel
theorem dX12_telegraph_22 : decode cX12_telegraph 22 = .ok (.iconst 1, 1) := by decide +kernel
theorem dX12_telegraph_23 : decode cX12_telegraph 23 = .ok (.invokevirtual 292, 3) := by decide +kernel
theorem dX12_telegraph_26 : decode cX12_telegraph 26 = .ok (.ireturn, 1) := by decide +kernel
theorem dX12_telegraph_27 : decode cX12_telegraph 27 = .ok (.iconst 0, 1) := by decide +kernel
theorem dX12_telegraph_28 : decode cX12_telegraph 28 = .ok (.istore_n 3, 1) := by decide +kernel
theorem dX12_telegraph_29 : decode cX12_telegraph 29 = .ok (.iconst 0, 1) := by decide +kernel
theorem dX12_telegraph_30 : decode cX12_telegraph 30 = .ok (.istore 4, 2) := by decide +kernel
theorem dX12_telegraph_32 : decode cX12_telegraph 32 = .ok (.iload 4, 2) := by decide +kernel
theorem dX12_telegraph_34 : decode cX12_telegraph 34 = .ok (.aload_n 0, 1) := by decide +kernel
theorem dX12_telegraph_35 : decode cX12_telegraph 35 = .ok (.getfield 162, 3) := by decide +kernel
theorem dX12_telegraph_38 : decode cX12_telegraph 38 = .ok (.if_icmp .ge 49, 3) := by decide +kernel
theorem dX12_telegraph_41 : decode cX12_telegraph 41 = .ok (.iload_n 3, 1) := by decide +kernel
theorem dX12_telegraph_42 : decode cX12_telegraph 42 = .ok (.aload_n 0, 1) := by decide +kernel
theorem dX12_telegraph_43 : decode cX12_telegraph 43 = .ok (.getfield 63, 3) := by decide +kernel
theorem dX12_telegraph_46 : decode cX12_telegraph 46 = .ok (.iload_n 1, 1) := by decide +kernel
theorem dX12_telegraph_47 : decode cX12_telegraph 47 = .ok (.iaload, 1) := by decide +kernel
theorem dX12_telegraph_48 : decode cX12_telegraph 48 = .ok (.aload_n 0, 1) := by decide +kernel
theorem dX12_telegraph_49 : decode cX12_telegraph 49 = .ok (.getfield 79, 3) := by decide +kernel
theorem dX12_telegraph_52 : decode cX12_telegraph 52 = .ok (.iload 4, 2) := by decide +kernel
theorem dX12_telegraph_54 : decode cX12_telegraph 54 = .ok (.iaload, 1) := by decide +kernel
theorem dX12_telegraph_55 : decode cX12_telegraph 55 = .ok (.invokestatic 325, 3) := by decide +kernel
theorem dX12_telegraph_58 : decode cX12_telegraph 58 = .ok (.ifCond .eq 20, 3) := by decide +kernel
theorem dX12_telegraph_61 : decode cX12_telegraph 61 = .ok (.aload_n 0, 1) := by decide +kernel
theorem dX12_telegraph_62 : decode cX12_telegraph 62 = .ok (.iload 4, 2) := by decide +kernel
theorem dX12_telegraph_64 : decode cX12_telegraph 64 = .ok (.iload_n 2, 1) := by decide +kernel
theorem dX12_telegraph_65 : decode cX12_telegraph 65 = .ok (.invokevirtual 447, 3) := by decide +kernel
theorem dX12_telegraph_68 : decode cX12_telegraph 68 = .ok (.ifCond .eq 10, 3) := by decide +kernel
theorem dX12_telegraph_71 : decode cX12_telegraph 71 = .ok (.iconst 1, 1) := by decide +kernel
theorem dX12_telegraph_72 : decode cX12_telegraph 72 = .ok (.iload 4, 2) := by decide +kernel
theorem dX12_telegraph_74 : decode cX12_telegraph 74 = .ok (.ishl, 1) := by decide +kernel
theorem dX12_telegraph_75 : decode cX12_telegraph 75 = .ok (.goto 4, 3) := by decide +kernel
theorem dX12_telegraph_78 : decode cX12_telegraph 78 = .ok (.iconst 0, 1) := by decide +kernel
theorem dX12_telegraph_79 : decode cX12_telegraph 79 = .ok (.ior, 1) := by decide +kernel
theorem dX12_telegraph_80 : decode cX12_telegraph 80 = .ok (.istore_n 3, 1) := by decide +kernel
theorem dX12_telegraph_81 : decode cX12_telegraph 81 = .ok (.iinc 4 1, 3) := by decide +kernel
theorem dX12_telegraph_84 : decode cX12_telegraph 84 = .ok (.goto (-52), 3) := by decide +kernel
theorem dX12_telegraph_87 : decode cX12_telegraph 87 = .ok (.iload_n 3, 1) := by decide +kernel
theorem dX12_telegraph_88 : decode cX12_telegraph 88 = .ok (.ireturn, 1) := by decide +kernel
theorem dX12_gain_0 : decode cX12_gain 0 = .ok (.aload_n 0, 1) := by decide +kernel
theorem dX12_gain_1 : decode cX12_gain 1 = .ok (.getfield 141, 3) := by decide +kernel
theorem dX12_gain_4 : decode cX12_gain 4 = .ok (.bipush 10, 2) := by decide +kernel
theorem dX12_gain_6 : decode cX12_gain 6 = .ok (.iload_n 1, 1) := by decide +kernel
theorem dX12_gain_7 : decode cX12_gain 7 = .ok (.imul, 1) := by decide +kernel
theorem dX12_gain_8 : decode cX12_gain 8 = .ok (.iload_n 2, 1) := by decide +kernel
theorem dX12_gain_9 : decode cX12_gain 9 = .ok (.iadd, 1) := by decide +kernel
theorem dX12_gain_10 : decode cX12_gain 10 = .ok (.iaload, 1) := by decide +kernel
theorem dX12_gain_11 : decode cX12_gain 11 = .ok (.iload_n 2, 1) := by decide +kernel
theorem dX12_gain_12 : decode cX12_gain 12 = .ok (.iload_n 3, 1) := by decide +kernel
theorem dX12_gain_13 : decode cX12_gain 13 = .ok (.if_icmp .ne 8, 3) := by decide +kernel
theorem dX12_gain_16 : decode cX12_gain 16 = .ok (.bipush 20, 2) := by decide +kernel
theorem dX12_gain_18 : decode cX12_gain 18 = .ok (.goto 4, 3) := by decide +kernel
theorem dX12_gain_21 : decode cX12_gain 21 = .ok (.iconst 0, 1) := by decide +kernel
theorem dX12_gain_22 : decode cX12_gain 22 = .ok (.isub, 1) := by decide +kernel
theorem dX12_gain_23 : decode cX12_gain 23 = .ok (.ireturn, 1) := by decide +kernel
theorem dX12_game_0 : decode cX12_game 0 = .ok (.aload_n 0, 1) := by decide +kernel
theorem dX12_game_1 : decode cX12_game 1 = .ok (.iconst 0, 1) := by decide +kernel
theorem dX12_game_2 : decode cX12_game 2 = .ok (.putfield 159, 3) := by decide +kernel
theorem dX12_game_5 : decode cX12_game 5 = .ok (.aload_n 0, 1) := by decide +kernel
theorem dX12_game_6 : decode cX12_game 6 = .ok (.iload_n 1, 1) := by decide +kernel
theorem dX12_game_7 : decode cX12_game 7 = .ok (.invokevirtual 336, 3) := by decide +kernel
theorem dX12_game_10 : decode cX12_game 10 = .ok (.ifCond .eq 20, 3) := by decide +kernel
theorem dX12_game_13 : decode cX12_game 13 = .ok (.aload_n 0, 1) := by decide +kernel
theorem dX12_game_14 : decode cX12_game 14 = .ok (.iload_n 2, 1) := by decide +kernel
theorem dX12_game_15 : decode cX12_game 15 = .ok (.invokevirtual 336, 3) := by decide +kernel
theorem dX12_game_18 : decode cX12_game 18 = .ok (.ifCond .eq 12, 3) := by decide +kernel
theorem dX12_game_21 : decode cX12_game 21 = .ok (.iload_n 3, 1) := by decide +kernel
theorem dX12_game_22 : decode cX12_game 22 = .ok (.ifCond .lt 8, 3) := by decide +kernel
theorem dX12_game_25 : decode cX12_game 25 = .ok (.iload_n 3, 1) := by decide +kernel
theorem dX12_game_26 : decode cX12_game 26 = .ok (.iconst 1, 1) := by decide +kernel
theorem dX12_game_27 : decode cX12_game 27 = .ok (.if_icmp .le 9, 3) := by decide +kernel
theorem dX12_game_30 : decode cX12_game 30 = .ok (.aload_n 0, 1) := by decide +kernel
theorem dX12_game_31 : decode cX12_game 31 = .ok (.iconst 1, 1) := by decide +kernel
theorem dX12_game_32 : decode cX12_game 32 = .ok (.invokevirtual 292, 3) := by decide +kernel
theorem dX12_game_35 : decode cX12_game 35 = .ok (.ireturn, 1) := by decide +kernel
theorem dX12_game_36 : decode cX12_game 36 = .ok (.iload_n 1, 1) := by decide +kernel
theorem dX12_game_37 : decode cX12_game 37 = .ok (.iload_n 2, 1) := by decide +kernel
theorem dX12_game_38 : decode cX12_game 38 = .ok (.if_icmp .ne 9, 3) := by decide +kernel
theorem dX12_game_41 : decode cX12_game 41 = .ok (.aload_n 0, 1) := by decide +kernel
theorem dX12_game_42 : decode cX12_game 42 = .ok (.iconst 2, 1) := by decide +kernel
theorem dX12_game_43 : decode cX12_game 43 = .ok (.invokevirtual 292, 3) := by decide +kernel
theorem dX12_game_46 : decode cX12_game 46 = .ok (.ireturn, 1) := by decide +kernel
theorem dX12_game_47 : decode cX12_game 47 = .ok (.aload_n 0, 1) := by decide +kernel
theorem dX12_game_48 : decode cX12_game 48 = .ok (.iload_n 1, 1) := by decide +kernel
theorem dX12_game_49 : decode cX12_game 49 = .ok (.invokevirtual 339, 3) := by decide +kernel
theorem dX12_game_52 : decode cX12_game 52 = .ok (.istore 4, 2) := by decide +kernel
theorem dX12_game_54 : decode cX12_game 54 = .ok (.aload_n 0, 1) := by decide +kernel
theorem dX12_game_55 : decode cX12_game 55 = .ok (.iload_n 2, 1) := by decide +kernel
theorem dX12_game_56 : decode cX12_game 56 = .ok (.invokevirtual 339, 3) := by decide +kernel
theorem dX12_game_59 : decode cX12_game 59 = .ok (.istore 5, 2) := by decide +kernel
theorem dX12_game_61 : decode cX12_game 61 = .ok (.iconst 0, 1) := by decide +kernel
theorem dX12_game_62 : decode cX12_game 62 = .ok (.istore 6, 2) := by decide +kernel
theorem dX12_game_64 : decode cX12_game 64 = .ok (.iload 6, 2) := by decide +kernel
theorem dX12_game_66 : decode cX12_game 66 = .ok (.aload_n 0, 1) := by decide +kernel
theorem dX12_game_67 : decode cX12_game 67 = .ok (.getfield 162, 3) := by decide +kernel
theorem dX12_game_70 : decode cX12_game 70 = .ok (.if_icmp .ge 68, 3) := by decide +kernel
theorem dX12_game_73 : decode cX12_game 73 = .ok (.aload_n 0, 1) := by decide +kernel
theorem dX12_game_74 : decode cX12_game 74 = .ok (.getfield 141, 3) := by decide +kernel
theorem dX12_game_77 : decode cX12_game 77 = .ok (.iload 6, 2) := by decide +kernel
theorem dX12_game_79 : decode cX12_game 79 = .ok (.aload_n 0, 1) := by decide +kernel
theorem dX12_game_80 : decode cX12_game 80 = .ok (.iload 6, 2) := by decide +kernel
theorem dX12_game_82 : decode cX12_game 82 = .ok (.iload_n 2, 1) := by decide +kernel
theorem dX12_game_83 : decode cX12_game 83 = .ok (.invokevirtual 447, 3) := by decide +kernel
theorem dX12_game_86 : decode cX12_game 86 = .ok (.ifCond .eq 13, 3) := by decide +kernel
theorem dX12_game_89 : decode cX12_game 89 = .ok (.aload_n 0, 1) := by decide +kernel
theorem dX12_game_90 : decode cX12_game 90 = .ok (.getfield 85, 3) := by decide +kernel
theorem dX12_game_93 : decode cX12_game 93 = .ok (.iload 6, 2) := by decide +kernel
theorem dX12_game_95 : decode cX12_game 95 = .ok (.iaload, 1) := by decide +kernel
theorem dX12_game_96 : decode cX12_game 96 = .ok (.goto 4, 3) := by decide +kernel
theorem dX12_game_99 : decode cX12_game 99 = .ok (.iconst 0, 1) := by decide +kernel
theorem dX12_game_100 : decode cX12_game 100 = .ok (.iastore, 1) := by decide +kernel
theorem dX12_game_101 : decode cX12_game 101 = .ok (.aload_n 0, 1) := by decide +kernel
theorem dX12_game_102 : decode cX12_game 102 = .ok (.getfield 141, 3) := by decide +kernel
theorem dX12_game_105 : decode cX12_game 105 = .ok (.bipush 10, 2) := by decide +kernel
theorem dX12_game_107 : decode cX12_game 107 = .ok (.iload 6, 2) := by decide +kernel
theorem dX12_game_109 : decode cX12_game 109 = .ok (.iadd, 1) := by decide +kernel
theorem dX12_game_110 : decode cX12_game 110 = .ok (.aload_n 0, 1) := by decide +kernel
theorem dX12_game_111 : decode cX12_game 111 = .ok (.iload 6, 2) := by decide +kernel
theorem dX12_game_113 : decode cX12_game 113 = .ok (.iload_n 1, 1) := by decide +kernel
theorem dX12_game_114 : decode cX12_game 114 = .ok (.invokevirtual 447, 3) := by decide +kernel
theorem dX12_game_117 : decode cX12_game 117 = .ok (.ifCond .eq 13, 3) := by decide +kernel
theorem dX12_game_120 : decode cX12_game 120 = .ok (.aload_n 0, 1) := by decide +kernel
theorem dX12_game_121 : decode cX12_game 121 = .ok (.getfield 85, 3) := by decide +kernel
theorem dX12_game_124 : decode cX12_game 124 = .ok (.iload 6, 2) := by decide +kernel
theorem dX12_game_126 : decode cX12_game 126 = .ok (.iaload, 1) := by decide +kernel
theorem dX12_game_127 : decode cX12_game 127 = .ok (.goto 4, 3) := by decide +kernel
theorem dX12_game_130 : decode cX12_game 130 = .ok (.iconst 0, 1) := by decide +kernel
theorem dX12_game_131 : decode cX12_game 131 = .ok (.iastore, 1) := by decide +kernel
theorem dX12_game_132 : decode cX12_game 132 = .ok (.iinc 6 1, 3) := by decide +kernel
theorem dX12_game_135 : decode cX12_game 135 = .ok (.goto (-71), 3) := by decide +kernel
theorem dX12_game_138 : decode cX12_game 138 = .ok (.iconst 0, 1) := by decide +kernel
theorem dX12_game_139 : decode cX12_game 139 = .ok (.istore 6, 2) := by decide +kernel
theorem dX12_game_141 : decode cX12_game 141 = .ok (.iconst (-1), 1) := by decide +kernel
theorem dX12_game_142 : decode cX12_game 142 = .ok (.istore 7, 2) := by decide +kernel
theorem dX12_game_144 : decode cX12_game 144 = .ok (.iconst 0, 1) := by decide +kernel
theorem dX12_game_145 : decode cX12_game 145 = .ok (.istore 8, 2) := by decide +kernel
theorem dX12_game_147 : decode cX12_game 147 = .ok (.iload 8, 2) := by decide +kernel
theorem dX12_game_149 : decode cX12_game 149 = .ok (.aload_n 0, 1) := by decide +kernel
theorem dX12_game_150 : decode cX12_game 150 = .ok (.getfield 162, 3) := by decide +kernel
theorem dX12_game_153 : decode cX12_game 153 = .ok (.if_icmp .ge 178, 3) := by decide +kernel
theorem dX12_game_156 : decode cX12_game 156 = .ok (.iconst 0, 1) := by decide +kernel
theorem dX12_game_157 : decode cX12_game 157 = .ok (.istore 9, 2) := by decide +kernel
theorem dX12_game_159 : decode cX12_game 159 = .ok (.iload 9, 2) := by decide +kernel
theorem dX12_game_161 : decode cX12_game 161 = .ok (.aload_n 0, 1) := by decide +kernel
theorem dX12_game_162 : decode cX12_game 162 = .ok (.getfield 162, 3) := by decide +kernel
theorem dX12_game_165 : decode cX12_game 165 = .ok (.if_icmp .ge 160, 3) := by decide +kernel
theorem dX12_game_168 : decode cX12_game 168 = .ok (.iload 4, 2) := by decide +kernel
theorem dX12_game_170 : decode cX12_game 170 = .ok (.iload 8, 2) := by decide +kernel
theorem dX12_game_172 : decode cX12_game 172 = .ok (.invokestatic 318, 3) := by decide +kernel
theorem dX12_game_175 : decode cX12_game 175 = .ok (.ifCond .eq 17, 3) := by decide +kernel
theorem dX12_game_178 : decode cX12_game 178 = .ok (.iload 5, 2) := by decide +kernel
theorem dX12_game_180 : decode cX12_game 180 = .ok (.iload 9, 2) := by decide +kernel
theorem dX12_game_182 : decode cX12_game 182 = .ok (.invokestatic 318, 3) := by decide +kernel
theorem dX12_game_185 : decode cX12_game 185 = .ok (.ifCond .eq 7, 3) := by decide +kernel
theorem dX12_game_188 : decode cX12_game 188 = .ok (.iconst 1, 1) := by decide +kernel
theorem dX12_game_189 : decode cX12_game 189 = .ok (.goto 4, 3) := by decide +kernel
theorem dX12_game_192 : decode cX12_game 192 = .ok (.iconst 0, 1) := by decide +kernel
theorem dX12_game_193 : decode cX12_game 193 = .ok (.istore 10, 2) := by decide +kernel
theorem dX12_game_195 : decode cX12_game 195 = .ok (.iconst 0, 1) := by decide +kernel
theorem dX12_game_196 : decode cX12_game 196 = .ok (.istore 11, 2) := by decide +kernel
theorem dX12_game_198 : decode cX12_game 198 = .ok (.iload 11, 2) := by decide +kernel
theorem dX12_game_200 : decode cX12_game 200 = .ok (.aload_n 0, 1) := by decide +kernel
theorem dX12_game_201 : decode cX12_game 201 = .ok (.getfield 162, 3) := by decide +kernel
theorem dX12_game_204 : decode cX12_game 204 = .ok (.if_icmp .ge 83, 3) := by decide +kernel
theorem dX12_game_207 : decode cX12_game 207 = .ok (.iload 10, 2) := by decide +kernel
theorem dX12_game_209 : decode cX12_game 209 = .ok (.ifCond .eq 78, 3) := by decide +kernel
theorem dX12_game_212 : decode cX12_game 212 = .ok (.iload 4, 2) := by decide +kernel
theorem dX12_game_214 : decode cX12_game 214 = .ok (.iload 11, 2) := by decide +kernel
theorem dX12_game_216 : decode cX12_game 216 = .ok (.invokestatic 318, 3) := by decide +kernel
theorem dX12_game_219 : decode cX12_game 219 = .ok (.ifCond .eq 24, 3) := by decide +kernel
theorem dX12_game_222 : decode cX12_game 222 = .ok (.aload_n 0, 1) := by decide +kernel
theorem dX12_game_223 : decode cX12_game 223 = .ok (.iconst 0, 1) := by decide +kernel
theorem dX12_game_224 : decode cX12_game 224 = .ok (.iload 11, 2) := by decide +kernel
theorem dX12_game_226 : decode cX12_game 226 = .ok (.iload 9, 2) := by decide +kernel
theorem dX12_game_228 : decode cX12_game 228 = .ok (.invokevirtual 450, 3) := by decide +kernel
theorem dX12_game_231 : decode cX12_game 231 = .ok (.aload_n 0, 1) := by decide +kernel
theorem dX12_game_232 : decode cX12_game 232 = .ok (.iconst 0, 1) := by decide +kernel
theorem dX12_game_233 : decode cX12_game 233 = .ok (.iload 8, 2) := by decide +kernel
theorem dX12_game_235 : decode cX12_game 235 = .ok (.iload 9, 2) := by decide +kernel
theorem dX12_game_237 : decode cX12_game 237 = .ok (.invokevirtual 450, 3) := by decide +kernel
theorem dX12_game_240 : decode cX12_game 240 = .ok (.if_icmp .gt 38, 3) := by decide +kernel
theorem dX12_game_243 : decode cX12_game 243 = .ok (.iload 5, 2) := by decide +kernel
theorem dX12_game_245 : decode cX12_game 245 = .ok (.iload 11, 2) := by decide +kernel
theorem dX12_game_247 : decode cX12_game 247 = .ok (.invokestatic 318, 3) := by decide +kernel
theorem dX12_game_250 : decode cX12_game 250 = .ok (.ifCond .eq 24, 3) := by decide +kernel
theorem dX12_game_253 : decode cX12_game 253 = .ok (.aload_n 0, 1) := by decide +kernel
theorem dX12_game_254 : decode cX12_game 254 = .ok (.iconst 1, 1) := by decide +kernel
theorem dX12_game_255 : decode cX12_game 255 = .ok (.iload 11, 2) := by decide +kernel
theorem dX12_game_257 : decode cX12_game 257 = .ok (.iload 8, 2) := by decide +kernel
theorem dX12_game_259 : decode cX12_game 259 = .ok (.invokevirtual 450, 3) := by decide +kernel
theorem dX12_game_262 : decode cX12_game 262 = .ok (.aload_n 0, 1) := by decide +kernel
theorem dX12_game_263 : decode cX12_game 263 = .ok (.iconst 1, 1) := by decide +kernel
theorem dX12_game_264 : decode cX12_game 264 = .ok (.iload 9, 2) := by decide +kernel
theorem dX12_game_266 : decode cX12_game 266 = .ok (.iload 8, 2) := by decide +kernel
theorem dX12_game_268 : decode cX12_game 268 = .ok (.invokevirtual 450, 3) := by decide +kernel
theorem dX12_game_271 : decode cX12_game 271 = .ok (.if_icmp .gt 7, 3) := by decide +kernel
theorem dX12_game_274 : decode cX12_game 274 = .ok (.iconst 1, 1) := by decide +kernel
theorem dX12_game_275 : decode cX12_game 275 = .ok (.goto 4, 3) := by decide +kernel
theorem dX12_game_278 : decode cX12_game 278 = .ok (.iconst 0, 1) := by decide +kernel
theorem dX12_game_279 : decode cX12_game 279 = .ok (.istore 10, 2) := by decide +kernel
theorem dX12_game_281 : decode cX12_game 281 = .ok (.iinc 11 1, 3) := by decide +kernel
theorem dX12_game_284 : decode cX12_game 284 = .ok (.goto (-86), 3) := by decide +kernel
theorem dX12_game_287 : decode cX12_game 287 = .ok (.iload 10, 2) := by decide +kernel
theorem dX12_game_289 : decode cX12_game 289 = .ok (.ifCond .ne 6, 3) := by decide +kernel
theorem dX12_game_292 : decode cX12_game 292 = .ok (.goto 27, 3) := by decide +kernel
theorem dX12_game_295 : decode cX12_game 295 = .ok (.iinc 6 1, 3) := by decide +kernel
theorem dX12_game_298 : decode cX12_game 298 = .ok (.iload 7, 2) := by decide +kernel
theorem dX12_game_300 : decode cX12_game 300 = .ok (.iconst (-1), 1) := by decide +kernel
theorem dX12_game_301 : decode cX12_game 301 = .ok (.if_icmp .ne 14, 3) := by decide +kernel
theorem dX12_game_304 : decode cX12_game 304 = .ok (.bipush 10, 2) := by decide +kernel
theorem dX12_game_306 : decode cX12_game 306 = .ok (.iload 8, 2) := by decide +kernel
theorem dX12_game_308 : decode cX12_game 308 = .ok (.imul, 1) := by decide +kernel
theorem dX12_game_309 : decode cX12_game 309 = .ok (.iload 9, 2) := by decide +kernel
theorem dX12_game_311 : decode cX12_game 311 = .ok (.iadd, 1) := by decide +kernel
theorem dX12_game_312 : decode cX12_game 312 = .ok (.goto 5, 3) := by decide +kernel
theorem dX12_game_315 : decode cX12_game 315 = .ok (.iload 7, 2) := by decide +kernel
theorem dX12_game_317 : decode cX12_game 317 = .ok (.istore 7, 2) := by decide +kernel
theorem dX12_game_319 : decode cX12_game 319 = .ok (.iinc 9 1, 3) := by decide +kernel
theorem dX12_game_322 : decode cX12_game 322 = .ok (.goto (-163), 3) := by decide +kernel
theorem dX12_game_325 : decode cX12_game 325 = .ok (.iinc 8 1, 3) := by decide +kernel
theorem dX12_game_328 : decode cX12_game 328 = .ok (.goto (-181), 3) := by decide +kernel
theorem dX12_game_331 : decode cX12_game 331 = .ok (.iload_n 3, 1) := by decide +kernel
theorem dX12_game_332 : decode cX12_game 332 = .ok (.ifCond .ne 8, 3) := by decide +kernel
theorem dX12_game_335 : decode cX12_game 335 = .ok (.iload 6, 2) := by decide +kernel
theorem dX12_game_337 : decode cX12_game 337 = .ok (.goto 5, 3) := by decide +kernel
theorem dX12_game_340 : decode cX12_game 340 = .ok (.iload 7, 2) := by decide +kernel
theorem dX12_game_342 : decode cX12_game 342 = .ok (.ireturn, 1) := by decide +kernel
theorem dX12_drawOf_0 : decode cX12_drawOf 0 = .ok (.aload_n 0, 1) := by decide +kernel
theorem dX12_drawOf_1 : decode cX12_drawOf 1 = .ok (.aload_n 0, 1) := by decide +kernel
theorem dX12_drawOf_2 : decode cX12_drawOf 2 = .ok (.getfield 453, 3) := by decide +kernel
theorem dX12_drawOf_5 : decode cX12_drawOf 5 = .ok (.ldc_w 456, 3) := by decide +kernel
theorem dX12_drawOf_8 : decode cX12_drawOf 8 = .ok (.imul, 1) := by decide +kernel
theorem dX12_drawOf_9 : decode cX12_drawOf 9 = .ok (.sipush 12345, 3) := by decide +kernel
theorem dX12_drawOf_12 : decode cX12_drawOf 12 = .ok (.iadd, 1) := by decide +kernel
theorem dX12_drawOf_13 : decode cX12_drawOf 13 = .ok (.putfield 453, 3) := by decide +kernel
theorem dX12_drawOf_16 : decode cX12_drawOf 16 = .ok (.aload_n 0, 1) := by decide +kernel
theorem dX12_drawOf_17 : decode cX12_drawOf 17 = .ok (.getfield 453, 3) := by decide +kernel
theorem dX12_drawOf_20 : decode cX12_drawOf 20 = .ok (.bipush 16, 2) := by decide +kernel
theorem dX12_drawOf_22 : decode cX12_drawOf 22 = .ok (.ishr, 1) := by decide +kernel
theorem dX12_drawOf_23 : decode cX12_drawOf 23 = .ok (.sipush 32767, 3) := by decide +kernel
theorem dX12_drawOf_26 : decode cX12_drawOf 26 = .ok (.iand, 1) := by decide +kernel
theorem dX12_drawOf_27 : decode cX12_drawOf 27 = .ok (.iload_n 1, 1) := by decide +kernel
theorem dX12_drawOf_28 : decode cX12_drawOf 28 = .ok (.irem, 1) := by decide +kernel
theorem dX12_drawOf_29 : decode cX12_drawOf 29 = .ok (.ireturn, 1) := by decide +kernel
theorem dX12_frozen_0 : decode cX12_frozen 0 = .ok (.iload_n 1, 1) := by decide +kernel
theorem dX12_frozen_1 : decode cX12_frozen 1 = .ok (.invokestatic 322, 3) := by decide +kernel
theorem dX12_frozen_4 : decode cX12_frozen 4 = .ok (.istore_n 3, 1) := by decide +kernel
theorem dX12_frozen_5 : decode cX12_frozen 5 = .ok (.iload_n 2, 1) := by decide +kernel
theorem dX12_frozen_6 : decode cX12_frozen 6 = .ok (.ifCond .ne 20, 3) := by decide +kernel
theorem dX12_frozen_9 : decode cX12_frozen 9 = .ok (.iload_n 3, 1) := by decide +kernel
theorem dX12_frozen_10 : decode cX12_frozen 10 = .ok (.ifCond .ne 7, 3) := by decide +kernel
theorem dX12_frozen_13 : decode cX12_frozen 13 = .ok (.iconst 0, 1) := by decide +kernel
theorem dX12_frozen_14 : decode cX12_frozen 14 = .ok (.goto 11, 3) := by decide +kernel
theorem dX12_frozen_17 : decode cX12_frozen 17 = .ok (.iload_n 1, 1) := by decide +kernel
theorem dX12_frozen_18 : decode cX12_frozen 18 = .ok (.iload_n 3, 1) := by decide +kernel
theorem dX12_frozen_19 : decode cX12_frozen 19 = .ok (.iconst 1, 1) := by decide +kernel
theorem dX12_frozen_20 : decode cX12_frozen 20 = .ok (.isub, 1) := by decide +kernel
theorem dX12_frozen_21 : decode cX12_frozen 21 = .ok (.invokestatic 408, 3) := by decide +kernel
theorem dX12_frozen_24 : decode cX12_frozen 24 = .ok (.irem, 1) := by decide +kernel
theorem dX12_frozen_25 : decode cX12_frozen 25 = .ok (.ireturn, 1) := by decide +kernel
theorem dX12_frozen_26 : decode cX12_frozen 26 = .ok (.iload_n 2, 1) := by decide +kernel
theorem dX12_frozen_27 : decode cX12_frozen 27 = .ok (.iconst 1, 1) := by decide +kernel
theorem dX12_frozen_28 : decode cX12_frozen 28 = .ok (.if_icmp .ne 9, 3) := by decide +kernel
theorem dX12_frozen_31 : decode cX12_frozen 31 = .ok (.iload_n 1, 1) := by decide +kernel
theorem dX12_frozen_32 : decode cX12_frozen 32 = .ok (.iconst 5, 1) := by decide +kernel
theorem dX12_frozen_33 : decode cX12_frozen 33 = .ok (.idiv, 1) := by decide +kernel
theorem dX12_frozen_34 : decode cX12_frozen 34 = .ok (.goto 26, 3) := by decide +kernel
theorem dX12_frozen_37 : decode cX12_frozen 37 = .ok (.iload_n 2, 1) := by decide +kernel
theorem dX12_frozen_38 : decode cX12_frozen 38 = .ok (.iconst 2, 1) := by decide +kernel
theorem dX12_frozen_39 : decode cX12_frozen 39 = .ok (.if_icmp .ne 20, 3) := by decide +kernel
theorem dX12_frozen_42 : decode cX12_frozen 42 = .ok (.iload_n 3, 1) := by decide +kernel
theorem dX12_frozen_43 : decode cX12_frozen 43 = .ok (.bipush 12, 2) := by decide +kernel
theorem dX12_frozen_45 : decode cX12_frozen 45 = .ok (.if_icmp .ge 14, 3) := by decide +kernel
theorem dX12_frozen_48 : decode cX12_frozen 48 = .ok (.iconst 4, 1) := by decide +kernel
theorem dX12_frozen_49 : decode cX12_frozen 49 = .ok (.iload_n 3, 1) := by decide +kernel
theorem dX12_frozen_50 : decode cX12_frozen 50 = .ok (.invokestatic 408, 3) := by decide +kernel
theorem dX12_frozen_53 : decode cX12_frozen 53 = .ok (.imul, 1) := by decide +kernel
theorem dX12_frozen_54 : decode cX12_frozen 54 = .ok (.iload_n 1, 1) := by decide +kernel
theorem dX12_frozen_55 : decode cX12_frozen 55 = .ok (.iadd, 1) := by decide +kernel
theorem dX12_frozen_56 : decode cX12_frozen 56 = .ok (.goto 4, 3) := by decide +kernel
theorem dX12_frozen_59 : decode cX12_frozen 59 = .ok (.iload_n 1, 1) := by decide +kernel
theorem dX12_frozen_60 : decode cX12_frozen 60 = .ok (.ireturn, 1) := by decide +kernel
theorem dX12_frost_0 : decode cX12_frost 0 = .ok (.aload_n 0, 1) := by decide +kernel
theorem dX12_frost_1 : decode cX12_frost 1 = .ok (.iconst 0, 1) := by decide +kernel
theorem dX12_frost_2 : decode cX12_frost 2 = .ok (.putfield 159, 3) := by decide +kernel
theorem dX12_frost_5 : decode cX12_frost 5 = .ok (.iload_n 3, 1) := by decide +kernel
theorem dX12_frost_6 : decode cX12_frost 6 = .ok (.i2l, 1) := by decide +kernel
theorem dX12_frost_7 : decode cX12_frost 7 = .ok (.lconst 0, 1) := by decide +kernel
theorem dX12_frost_8 : decode cX12_frost 8 = .ok (.ldc2_w 389, 3) := by decide +kernel
theorem dX12_frost_11 : decode cX12_frost 11 = .ok (.invokestatic 165, 3) := by decide +kernel
theorem dX12_frost_14 : decode cX12_frost 14 = .ok (.ifCond .ne 9, 3) := by decide +kernel
theorem dX12_frost_17 : decode cX12_frost 17 = .ok (.aload_n 0, 1) := by decide +kernel
theorem dX12_frost_18 : decode cX12_frost 18 = .ok (.iconst 1, 1) := by decide +kernel
theorem dX12_frost_19 : decode cX12_frost 19 = .ok (.invokevirtual 292, 3) := by decide +kernel
theorem dX12_frost_22 : decode cX12_frost 22 = .ok (.ireturn, 1) := by decide +kernel
theorem dX12_frost_23 : decode cX12_frost 23 = .ok (.iload_n 2, 1) := by decide +kernel
theorem dX12_frost_24 : decode cX12_frost 24 = .ok (.i2l, 1) := by decide +kernel
theorem dX12_frost_25 : decode cX12_frost 25 = .ok (.lconst 0, 1) := by decide +kernel
theorem dX12_frost_26 : decode cX12_frost 26 = .ok (.ldc2_w 457, 3) := by decide +kernel
theorem dX12_frost_29 : decode cX12_frost 29 = .ok (.invokestatic 165, 3) := by decide +kernel
theorem dX12_frost_32 : decode cX12_frost 32 = .ok (.ifCond .ne 9, 3) := by decide +kernel
theorem dX12_frost_35 : decode cX12_frost 35 = .ok (.aload_n 0, 1) := by decide +kernel
theorem dX12_frost_36 : decode cX12_frost 36 = .ok (.iconst 2, 1) := by decide +kernel
theorem dX12_frost_37 : decode cX12_frost 37 = .ok (.invokevirtual 292, 3) := by decide +kernel
theorem dX12_frost_40 : decode cX12_frost 40 = .ok (.ireturn, 1) := by decide +kernel
theorem dX12_frost_41 : decode cX12_frost 41 = .ok (.aload_n 0, 1) := by decide +kernel
theorem dX12_frost_42 : decode cX12_frost 42 = .ok (.iload_n 1, 1) := by decide +kernel
theorem dX12_frost_43 : decode cX12_frost 43 = .ok (.putfield 453, 3) := by decide +kernel
theorem dX12_frost_46 : decode cX12_frost 46 = .ok (.iconst 0, 1) := by decide +kernel
theorem dX12_frost_47 : decode cX12_frost 47 = .ok (.istore 4, 2) := by decide +kernel
theorem dX12_frost_49 : decode cX12_frost 49 = .ok (.iconst 0, 1) := by decide +kernel
theorem dX12_frost_50 : decode cX12_frost 50 = .ok (.istore 5, 2) := by decide +kernel
theorem dX12_frost_52 : decode cX12_frost 52 = .ok (.iconst 0, 1) := by decide +kernel
theorem dX12_frost_53 : decode cX12_frost 53 = .ok (.istore 6, 2) := by decide +kernel
theorem dX12_frost_55 : decode cX12_frost 55 = .ok (.iconst 0, 1) := by decide +kernel
theorem dX12_frost_56 : decode cX12_frost 56 = .ok (.istore 7, 2) := by decide +kernel
theorem dX12_frost_58 : decode cX12_frost 58 = .ok (.iload 7, 2) := by decide +kernel
theorem dX12_frost_60 : decode cX12_frost 60 = .ok (.iload_n 2, 1) := by decide +kernel
theorem dX12_frost_61 : decode cX12_frost 61 = .ok (.if_icmp .ge 115, 3) := by decide +kernel
theorem dX12_frost_64 : decode cX12_frost 64 = .ok (.aload_n 0, 1) := by decide +kernel
theorem dX12_frost_65 : decode cX12_frost 65 = .ok (.getfield 47, 3) := by decide +kernel
theorem dX12_frost_68 : decode cX12_frost 68 = .ok (.iconst 1, 1) := by decide +kernel
theorem dX12_frost_69 : decode cX12_frost 69 = .ok (.iaload, 1) := by decide +kernel
theorem dX12_frost_70 : decode cX12_frost 70 = .ok (.ifCond .le 106, 3) := by decide +kernel
theorem dX12_frost_73 : decode cX12_frost 73 = .ok (.aload_n 0, 1) := by decide +kernel
theorem dX12_frost_74 : decode cX12_frost 74 = .ok (.getfield 162, 3) := by decide +kernel
theorem dX12_frost_77 : decode cX12_frost 77 = .ok (.ifCond .le 99, 3) := by decide +kernel
theorem dX12_frost_80 : decode cX12_frost 80 = .ok (.aload_n 0, 1) := by decide +kernel
theorem dX12_frost_81 : decode cX12_frost 81 = .ok (.aload_n 0, 1) := by decide +kernel
theorem dX12_frost_82 : decode cX12_frost 82 = .ok (.getfield 47, 3) := by decide +kernel
theorem dX12_frost_85 : decode cX12_frost 85 = .ok (.iconst 1, 1) := by decide +kernel
theorem dX12_frost_86 : decode cX12_frost 86 = .ok (.iaload, 1) := by decide +kernel
theorem dX12_frost_87 : decode cX12_frost 87 = .ok (.invokevirtual 459, 3) := by decide +kernel
theorem dX12_frost_90 : decode cX12_frost 90 = .ok (.istore 8, 2) := by decide +kernel
theorem dX12_frost_92 : decode cX12_frost 92 = .ok (.aload_n 0, 1) := by decide +kernel
theorem dX12_frost_93 : decode cX12_frost 93 = .ok (.aload_n 0, 1) := by decide +kernel
theorem dX12_frost_94 : decode cX12_frost 94 = .ok (.getfield 162, 3) := by decide +kernel
theorem dX12_frost_97 : decode cX12_frost 97 = .ok (.invokevirtual 459, 3) := by decide +kernel
theorem dX12_frost_100 : decode cX12_frost 100 = .ok (.istore 9, 2) := by decide +kernel
theorem dX12_frost_102 : decode cX12_frost 102 = .ok (.aload_n 0, 1) := by decide +kernel
theorem dX12_frost_103 : decode cX12_frost 103 = .ok (.aload_n 0, 1) := by decide +kernel
theorem dX12_frost_104 : decode cX12_frost 104 = .ok (.iload 8, 2) := by decide +kernel
theorem dX12_frost_106 : decode cX12_frost 106 = .ok (.aload_n 0, 1) := by decide +kernel
theorem dX12_frost_107 : decode cX12_frost 107 = .ok (.getfield 79, 3) := by decide +kernel
theorem dX12_frost_110 : decode cX12_frost 110 = .ok (.iload 9, 2) := by decide +kernel
theorem dX12_frost_112 : decode cX12_frost 112 = .ok (.iaload, 1) := by decide +kernel
theorem dX12_frost_113 : decode cX12_frost 113 = .ok (.invokevirtual 328, 3) := by decide +kernel
theorem dX12_frost_116 : decode cX12_frost 116 = .ok (.aload_n 0, 1) := by decide +kernel
theorem dX12_frost_117 : decode cX12_frost 117 = .ok (.iconst 4, 1) := by decide +kernel
theorem dX12_frost_118 : decode cX12_frost 118 = .ok (.invokevirtual 459, 3) := by decide +kernel
theorem dX12_frost_121 : decode cX12_frost 121 = .ok (.invokevirtual 462, 3) := by decide +kernel
theorem dX12_frost_124 : decode cX12_frost 124 = .ok (.istore 10, 2) := by decide +kernel
theorem dX12_frost_126 : decode cX12_frost 126 = .ok (.iload 6, 2) := by decide +kernel
theorem dX12_frost_128 : decode cX12_frost 128 = .ok (.iload 10, 2) := by decide +kernel
theorem dX12_frost_130 : decode cX12_frost 130 = .ok (.ifCond .ne 7, 3) := by decide +kernel
theorem dX12_frost_133 : decode cX12_frost 133 = .ok (.iconst 1, 1) := by decide +kernel
theorem dX12_frost_134 : decode cX12_frost 134 = .ok (.goto 4, 3) := by decide +kernel
theorem dX12_frost_137 : decode cX12_frost 137 = .ok (.iconst 0, 1) := by decide +kernel
theorem dX12_frost_138 : decode cX12_frost 138 = .ok (.iadd, 1) := by decide +kernel
theorem dX12_frost_139 : decode cX12_frost 139 = .ok (.istore 6, 2) := by decide +kernel
theorem dX12_frost_141 : decode cX12_frost 141 = .ok (.aload_n 0, 1) := by decide +kernel
theorem dX12_frost_142 : decode cX12_frost 142 = .ok (.iload 10, 2) := by decide +kernel
theorem dX12_frost_144 : decode cX12_frost 144 = .ok (.invokevirtual 379, 3) := by decide +kernel
theorem dX12_frost_147 : decode cX12_frost 147 = .ok (.iload 9, 2) := by decide +kernel
theorem dX12_frost_149 : decode cX12_frost 149 = .ok (.if_icmp .eq 6, 3) := by decide +kernel
theorem dX12_frost_152 : decode cX12_frost 152 = .ok (.goto 18, 3) := by decide +kernel
theorem dX12_frost_155 : decode cX12_frost 155 = .ok (.iinc 4 1, 3) := by decide +kernel
theorem dX12_frost_158 : decode cX12_frost 158 = .ok (.iload 5, 2) := by decide +kernel
theorem dX12_frost_160 : decode cX12_frost 160 = .ok (.aload_n 0, 1) := by decide +kernel
theorem dX12_frost_161 : decode cX12_frost 161 = .ok (.getfield 85, 3) := by decide +kernel
theorem dX12_frost_164 : decode cX12_frost 164 = .ok (.iload 9, 2) := by decide +kernel
theorem dX12_frost_166 : decode cX12_frost 166 = .ok (.iaload, 1) := by decide +kernel
theorem dX12_frost_167 : decode cX12_frost 167 = .ok (.iadd, 1) := by decide +kernel
theorem dX12_frost_168 : decode cX12_frost 168 = .ok (.istore 5, 2) := by decide +kernel
theorem dX12_frost_170 : decode cX12_frost 170 = .ok (.iinc 7 1, 3) := by decide +kernel
theorem dX12_frost_173 : decode cX12_frost 173 = .ok (.goto (-115), 3) := by decide +kernel
theorem dX12_frost_176 : decode cX12_frost 176 = .ok (.iload_n 3, 1) := by decide +kernel
theorem dX12_frost_177 : decode cX12_frost 177 = .ok (.ifCond .ne 8, 3) := by decide +kernel
theorem dX12_frost_180 : decode cX12_frost 180 = .ok (.iload 4, 2) := by decide +kernel
theorem dX12_frost_182 : decode cX12_frost 182 = .ok (.goto 15, 3) := by decide +kernel
theorem dX12_frost_185 : decode cX12_frost 185 = .ok (.iload_n 3, 1) := by decide +kernel
theorem dX12_frost_186 : decode cX12_frost 186 = .ok (.iconst 1, 1) := by decide +kernel
theorem dX12_frost_187 : decode cX12_frost 187 = .ok (.if_icmp .ne 8, 3) := by decide +kernel
theorem dX12_frost_190 : decode cX12_frost 190 = .ok (.iload 5, 2) := by decide +kernel
theorem dX12_frost_192 : decode cX12_frost 192 = .ok (.goto 5, 3) := by decide +kernel
theorem dX12_frost_195 : decode cX12_frost 195 = .ok (.iload 6, 2) := by decide +kernel
theorem dX12_frost_197 : decode cX12_frost 197 = .ok (.ireturn, 1) := by decide +kernel
def jn_MD_hear_35 (n : Nat) (μ : kbM) : Option (Int32 × kbM) :=
  (f_MD_refuse 2 μ).bind fun x2 =>
  some ((x2.1, x2.2))
theorem jnR_MD_hear_35 {l : Launch} (n : Nat)    (μ : kbM) {Q : kbQt} {P : Int32 × kbM → Prop} (hr : ∀ z : Int32 × kbM, P z → Q (some (.int z.1)) z.2) (h : kbG (jn_MD_hear_35 n μ) P) : kbR l MX12_hear 3 Q 35 [some (.ref 57), none, none] [] μ := by
  unfold jn_MD_hear_35 at h
  refine r_aload_n dX12_hear_35 rfl ?_
  refine r_iconst 2 dX12_hear_36 (by decide) ?_
  obtain ⟨x2, hx0, h⟩ := kbG_bind h
  refine r_invV_i cvX12_393 sh57 rfl (sp_MD_refuse 2 μ hx0) rfl rfl (Nat.le_of_ble_eq_true rfl) (Nat.le_of_ble_eq_true rfl) dX12_hear_37 ?_
  exact r_iret rfl dX12_hear_40 (hr ((x2.1, x2.2)) (kbG_some h))
def f_MD_hear (n : Nat) (a1 : Int32) (a2 : Int32) (μ : kbM) : Option (Int32 × kbM) :=
  (f_MD_isDoor a1 (kbW μ 57 3 0)).bind fun x1 =>
  if x1 = 0 then
    (f_MD_fail 1 (kbW μ 57 3 0)).bind fun x4 =>
    some ((x4.1, x4.2))
  else
    if ((kbW μ 57 3 0).1 57 30) = 8 then
      jn_MD_hear_35 n (kbW μ 57 3 0)
    else
      (f_MD_isRow n a2).bind fun x3 =>
      if x3 = 0 then
        jn_MD_hear_35 n (kbW μ 57 3 0)
      else
        kbIf (kbIn ((kbW μ 57 3 0).1 57 30) 8) <|
        kbIf (kbIn ((kbW (kbW μ 57 3 0) 89 (((kbW μ 57 3 0).1 57 30).toNatClampNeg) a1).1 57 30) 8) <|
        some (((kbW (kbW (kbW (kbW μ 57 3 0) 89 (((kbW μ 57 3 0).1 57 30).toNatClampNeg) a1) 90 (((kbW (kbW μ 57 3 0) 89 (((kbW μ 57 3 0).1 57 30).toNatClampNeg) a1).1 57 30).toNatClampNeg) a2) 57 30 (((kbW (kbW (kbW μ 57 3 0) 89 (((kbW μ 57 3 0).1 57 30).toNatClampNeg) a1) 90 (((kbW (kbW μ 57 3 0) 89 (((kbW μ 57 3 0).1 57 30).toNatClampNeg) a1).1 57 30).toNatClampNeg) a2).1 57 30) + 1)).1 57 30, kbW (kbW (kbW (kbW μ 57 3 0) 89 (((kbW μ 57 3 0).1 57 30).toNatClampNeg) a1) 90 (((kbW (kbW μ 57 3 0) 89 (((kbW μ 57 3 0).1 57 30).toNatClampNeg) a1).1 57 30).toNatClampNeg) a2) 57 30 (((kbW (kbW (kbW μ 57 3 0) 89 (((kbW μ 57 3 0).1 57 30).toNatClampNeg) a1) 90 (((kbW (kbW μ 57 3 0) 89 (((kbW μ 57 3 0).1 57 30).toNatClampNeg) a1).1 57 30).toNatClampNeg) a2).1 57 30) + 1)))
theorem sp_MD_hear {l : Launch} (n : Nat) (a1 : Int32) (a2 : Int32) (μ : kbM)  {x : Int32 × kbM} (h : f_MD_hear n a1 a2 μ = some x) : kbS l MX12_hear 3 [.ref 57, .int a1, .int a2] μ (kbQe (some (.int x.1)) x.2) := by
  refine kb_enter 0 rfl rfl ?_
  suffices H : ∀ (Q : kbQt) (P : Int32 × kbM → Prop), (∀ z : Int32 × kbM, P z → Q (some (.int z.1)) z.2) → kbG (f_MD_hear n a1 a2 μ) P → kbR l MX12_hear 3 Q 0 [some (.ref 57), some (.int a1), some (.int a2)] [] μ from H _ (fun z => z = x) (fun z e => by subst e; exact ⟨rfl, rfl⟩) ⟨x, h, rfl⟩
  clear h
  intro Q P hr h
  unfold f_MD_hear at h
  refine r_aload_n dX12_hear_0 rfl ?_
  refine r_iconst 0 dX12_hear_1 (by decide) ?_
  refine r_put flX12_159 sh57 rfl rfl rfl dX12_hear_2 ?_
  refine r_aload_n dX12_hear_5 rfl ?_
  refine r_iload_n dX12_hear_6 rfl ?_
  obtain ⟨x1, hx0, h⟩ := kbG_bind h
  refine r_invV_i cvX12_336 sh57 rfl (sp_MD_isDoor a1 (kbW μ 57 3 0) hx0) rfl rfl (Nat.le_of_ble_eq_true rfl) (Nat.le_of_ble_eq_true rfl) dX12_hear_7 ?_
  refine r_if_ne 19 dX12_hear_10 (by decide) (fun hc => ?_) (fun hc => ?_)
  · replace h := kbG_f hc h
    refine r_aload_n dX12_hear_19 rfl ?_
    refine r_getI flX12_311 sh57 rfl dX12_hear_20 ?_
    refine r_bipush 8 dX12_hear_23 (by decide) ?_
    refine r_icmp_eq 35 dX12_hear_25 (by decide) (fun hc => ?_) (fun hc => ?_)
    · replace h := kbG_t hc h
      refine r_le [some (.ref 57), none, none] ⟨rfl, trivial⟩ ?_
      exact jnR_MD_hear_35 n  (kbW μ 57 3 0) (hr := hr) h
    · replace h := kbG_f hc h
      refine r_iload_n dX12_hear_28 rfl ?_
      obtain ⟨x3, hx0, h⟩ := kbG_bind h
      refine r_inv_i csX12_345 (sp_MD_isRow n a2 (kbW μ 57 3 0) hx0) rfl rfl (Nat.le_of_ble_eq_true rfl) (Nat.le_of_ble_eq_true rfl) dX12_hear_29 ?_
      refine r_if_ne 41 dX12_hear_32 (by decide) (fun hc => ?_) (fun hc => ?_)
      · replace h := kbG_f hc h
        refine r_aload_n dX12_hear_41 rfl ?_
        refine r_getR flX12_135 sh57 rfl dX12_hear_42 ?_
        refine r_aload_n dX12_hear_45 rfl ?_
        refine r_getI flX12_311 sh57 rfl dX12_hear_46 ?_
        refine r_iload_n dX12_hear_49 rfl ?_
        obtain ⟨hin, h⟩ := kbG_if h
        replace hin := kbIn_of hin
        refine q_iast (((kbW μ 57 3 0).1 57 30).toNatClampNeg) rfl sh89 hin dX12_hear_50 ?_
        refine r_aload_n dX12_hear_51 rfl ?_
        refine r_getR flX12_138 sh57 rfl dX12_hear_52 ?_
        refine r_aload_n dX12_hear_55 rfl ?_
        refine r_getI flX12_311 sh57 rfl dX12_hear_56 ?_
        refine r_iload_n dX12_hear_59 rfl ?_
        obtain ⟨hin, h⟩ := kbG_if h
        replace hin := kbIn_of hin
        refine q_iast (((kbW (kbW μ 57 3 0) 89 (((kbW μ 57 3 0).1 57 30).toNatClampNeg) a1).1 57 30).toNatClampNeg) rfl sh90 hin dX12_hear_60 ?_
        refine r_aload_n dX12_hear_61 rfl ?_
        refine r_dup dX12_hear_62 rfl ?_
        refine r_getI flX12_311 sh57 rfl dX12_hear_63 ?_
        refine r_iconst 1 dX12_hear_66 (by decide) ?_
        refine r_iadd dX12_hear_67 ?_
        refine r_put flX12_311 sh57 rfl rfl rfl dX12_hear_68 ?_
        refine r_aload_n dX12_hear_71 rfl ?_
        refine r_getI flX12_311 sh57 rfl dX12_hear_72 ?_
        exact r_iret rfl dX12_hear_75 (hr (((kbW (kbW (kbW (kbW μ 57 3 0) 89 (((kbW μ 57 3 0).1 57 30).toNatClampNeg) a1) 90 (((kbW (kbW μ 57 3 0) 89 (((kbW μ 57 3 0).1 57 30).toNatClampNeg) a1).1 57 30).toNatClampNeg) a2) 57 30 (((kbW (kbW (kbW μ 57 3 0) 89 (((kbW μ 57 3 0).1 57 30).toNatClampNeg) a1) 90 (((kbW (kbW μ 57 3 0) 89 (((kbW μ 57 3 0).1 57 30).toNatClampNeg) a1).1 57 30).toNatClampNeg) a2).1 57 30) + 1)).1 57 30, kbW (kbW (kbW (kbW μ 57 3 0) 89 (((kbW μ 57 3 0).1 57 30).toNatClampNeg) a1) 90 (((kbW (kbW μ 57 3 0) 89 (((kbW μ 57 3 0).1 57 30).toNatClampNeg) a1).1 57 30).toNatClampNeg) a2) 57 30 (((kbW (kbW (kbW μ 57 3 0) 89 (((kbW μ 57 3 0).1 57 30).toNatClampNeg) a1) 90 (((kbW (kbW μ 57 3 0) 89 (((kbW μ 57 3 0).1 57 30).toNatClampNeg) a1).1 57 30).toNatClampNeg) a2).1 57 30) + 1))) (kbG_some h))
      · replace h := kbG_t hc h
        refine r_le [some (.ref 57), none, none] ⟨rfl, trivial⟩ ?_
        exact jnR_MD_hear_35 n  (kbW μ 57 3 0) (hr := hr) h
  · replace h := kbG_t hc h
    refine r_aload_n dX12_hear_13 rfl ?_
    refine r_iconst 1 dX12_hear_14 (by decide) ?_
    obtain ⟨x4, hx0, h⟩ := kbG_bind h
    refine r_invV_i cvX12_292 sh57 rfl (sp_MD_fail 1 (kbW μ 57 3 0) hx0) rfl rfl (Nat.le_of_ble_eq_true rfl) (Nat.le_of_ble_eq_true rfl) dX12_hear_15 ?_
    exact r_iret rfl dX12_hear_18 (hr ((x4.1, x4.2)) (kbG_some h))
def jn_MD_whichNow_62 (n : Nat) (rec : Int32 → Int32 → Option (Int32)) (v1 : Int32) (v2 : Int32) (v4 : Int32) (w0 : Int32) (μ : kbM) : Option (Int32) :=
  rec w0 (v4 + 1)
theorem jnR_MD_whichNow_62 {l : Launch} (n : Nat)   (v1 : Int32) (v2 : Int32) (v4 : Int32) (w0 : Int32) (μ : kbM) {Q : kbQt} {P : Int32 → Prop} (hx : ∀ z : Int32, P (z) → kbR l MX12_whichNow 3 Q 69 [some (.ref 57), some (.int v1), some (.int v2), some (.int z), none] [] μ) {rec : Int32 → Int32 → Option (Int32)} (hrec : ∀ (v3 : Int32) (v4 : Int32), kbG (rec v3 v4) P → kbR l MX12_whichNow 3 Q 17 [some (.ref 57), some (.int v1), some (.int v2), some (.int v3), some (.int v4)] [] μ) (h : kbG (jn_MD_whichNow_62 n rec v1 v2 v4 w0 μ) P) : kbR l MX12_whichNow 3 Q 62 [some (.ref 57), some (.int v1), some (.int v2), none, some (.int v4)] [.int w0] μ := by
  unfold jn_MD_whichNow_62 at h
  refine r_istore_n dX12_whichNow_62 (Nat.le_of_ble_eq_true rfl) rfl ?_
  refine r_iinc 1 dX12_whichNow_63 rfl (by decide) (Nat.le_of_ble_eq_true rfl) rfl ?_
  refine r_goto 17 dX12_whichNow_66 (by decide) ?_
  refine r_le [some (.ref 57), some (.int v1), some (.int v2), some (.int w0), some (.int (v4 + 1))] ⟨rfl, ⟨rfl, ⟨rfl, ⟨rfl, ⟨rfl, trivial⟩⟩⟩⟩⟩ ?_
  exact hrec w0 (v4 + 1) h
def jn_MD_whichNow_61 (n : Nat) (rec : Int32 → Int32 → Option (Int32)) (v1 : Int32) (v2 : Int32) (v4 : Int32) (μ : kbM) : Option (Int32) :=
  jn_MD_whichNow_62 n rec v1 v2 v4 0 μ
theorem jnR_MD_whichNow_61 {l : Launch} (n : Nat)   (v1 : Int32) (v2 : Int32) (v4 : Int32) (μ : kbM) {Q : kbQt} {P : Int32 → Prop} (hx : ∀ z : Int32, P (z) → kbR l MX12_whichNow 3 Q 69 [some (.ref 57), some (.int v1), some (.int v2), some (.int z), none] [] μ) {rec : Int32 → Int32 → Option (Int32)} (hrec : ∀ (v3 : Int32) (v4 : Int32), kbG (rec v3 v4) P → kbR l MX12_whichNow 3 Q 17 [some (.ref 57), some (.int v1), some (.int v2), some (.int v3), some (.int v4)] [] μ) (h : kbG (jn_MD_whichNow_61 n rec v1 v2 v4 μ) P) : kbR l MX12_whichNow 3 Q 61 [some (.ref 57), some (.int v1), some (.int v2), none, some (.int v4)] [] μ := by
  unfold jn_MD_whichNow_61 at h
  refine r_iconst 0 dX12_whichNow_61 (by decide) ?_
  refine r_le [some (.ref 57), some (.int v1), some (.int v2), none, some (.int v4)] ⟨rfl, ⟨rfl, ⟨rfl, ⟨rfl, trivial⟩⟩⟩⟩ ?_
  exact jnR_MD_whichNow_62 n v1 v2 v4 0 μ (hx := hx) (hrec := hrec) h
def lp_MD_whichNow_17 (n : Nat) (v1 : Int32) (v2 : Int32) (μ : kbM) : Nat → Int32 → Int32 → Option (Int32)
  | 0, _, _ => none
  | k + 1, v3, v4 =>
    if (μ.1 57 30) ≤ v4 then
      some v3
    else
      if v3 = 0 then
        jn_MD_whichNow_61 n (lp_MD_whichNow_17 n v1 v2 μ k) v1 v2 v4 μ
      else
        kbIf (kbIn v4 8) <|
        kbIf (kbIn v2 10) <|
        (f_MD_heardAt n (μ.1 89 v4.toNatClampNeg) (μ.1 70 v2.toNatClampNeg) μ).bind fun x1 =>
        kbIf (kbIn v4 8) <|
        if x1 = (μ.1 90 v4.toNatClampNeg) then
          jn_MD_whichNow_62 n (lp_MD_whichNow_17 n v1 v2 μ k) v1 v2 v4 1 μ
        else
          jn_MD_whichNow_61 n (lp_MD_whichNow_17 n v1 v2 μ k) v1 v2 v4 μ
theorem lpR_MD_whichNow_17 {l : Launch} (n : Nat) (v1 : Int32) (v2 : Int32) (μ : kbM)  {Q : kbQt} {P : Int32 → Prop} (hx : ∀ z : Int32, P (z) → kbR l MX12_whichNow 3 Q 69 [some (.ref 57), some (.int v1), some (.int v2), some (.int z), none] [] μ) : ∀ (k : Nat) (v3 : Int32) (v4 : Int32), kbG (lp_MD_whichNow_17 n v1 v2 μ k v3 v4) P → kbR l MX12_whichNow 3 Q 17 [some (.ref 57), some (.int v1), some (.int v2), some (.int v3), some (.int v4)] [] μ := by
  intro k
  induction k with
  | zero => intro v3 v4 h; exact absurd h kbG_none
  | succ k ih =>
    intro v3 v4 h
    unfold lp_MD_whichNow_17 at h
    refine r_iload dX12_whichNow_17 rfl ?_
    refine r_aload_n dX12_whichNow_19 rfl ?_
    refine r_getI flX12_311 sh57 rfl dX12_whichNow_20 ?_
    refine r_icmp_ge 69 dX12_whichNow_23 (by decide) (fun hc => ?_) (fun hc => ?_)
    · replace h := kbG_t hc h
      refine r_le [some (.ref 57), some (.int v1), some (.int v2), some (.int v3), none] ⟨rfl, ⟨rfl, ⟨rfl, ⟨rfl, trivial⟩⟩⟩⟩ ?_
      exact hx v3 (kbG_some h)
    · replace h := kbG_f hc h
      refine r_iload_n dX12_whichNow_26 rfl ?_
      refine r_if_eq 61 dX12_whichNow_27 (by decide) (fun hc => ?_) (fun hc => ?_)
      · replace h := kbG_t hc h
        refine r_le [some (.ref 57), some (.int v1), some (.int v2), none, some (.int v4)] ⟨rfl, ⟨rfl, ⟨rfl, ⟨rfl, trivial⟩⟩⟩⟩ ?_
        exact jnR_MD_whichNow_61 n v1 v2 v4 μ (hx := hx) (hrec := ih) h
      · replace h := kbG_f hc h
        refine r_aload_n dX12_whichNow_30 rfl ?_
        refine r_aload_n dX12_whichNow_31 rfl ?_
        refine r_getR flX12_135 sh57 rfl dX12_whichNow_32 ?_
        refine r_iload dX12_whichNow_35 rfl ?_
        obtain ⟨hin, h⟩ := kbG_if h
        replace hin := kbIn_of hin
        refine q_iald v4.toNatClampNeg rfl sh89 hin dX12_whichNow_37 ?_
        refine r_aload_n dX12_whichNow_38 rfl ?_
        refine r_getR flX12_79 sh57 rfl dX12_whichNow_39 ?_
        refine r_iload_n dX12_whichNow_42 rfl ?_
        obtain ⟨hin, h⟩ := kbG_if h
        replace hin := kbIn_of hin
        refine q_iald v2.toNatClampNeg rfl sh70 hin dX12_whichNow_43 ?_
        obtain ⟨x1, hx0, h⟩ := kbG_bind h
        refine r_invV_i cvX12_328 sh57 rfl (sp_MD_heardAt n (μ.1 89 v4.toNatClampNeg) (μ.1 70 v2.toNatClampNeg) μ hx0) rfl rfl (Nat.le_of_ble_eq_true rfl) (Nat.le_of_ble_eq_true rfl) dX12_whichNow_44 ?_
        refine r_aload_n dX12_whichNow_47 rfl ?_
        refine r_getR flX12_138 sh57 rfl dX12_whichNow_48 ?_
        refine r_iload dX12_whichNow_51 rfl ?_
        obtain ⟨hin, h⟩ := kbG_if h
        replace hin := kbIn_of hin
        refine q_iald v4.toNatClampNeg rfl sh90 hin dX12_whichNow_53 ?_
        refine r_icmp_ne 61 dX12_whichNow_54 (by decide) (fun hc => ?_) (fun hc => ?_)
        · replace h := kbG_f hc h
          refine r_le [some (.ref 57), some (.int v1), some (.int v2), none, some (.int v4)] ⟨rfl, ⟨rfl, ⟨rfl, ⟨rfl, trivial⟩⟩⟩⟩ ?_
          exact jnR_MD_whichNow_61 n v1 v2 v4 μ (hx := hx) (hrec := ih) h
        · replace h := kbG_t hc h
          refine r_iconst 1 dX12_whichNow_57 (by decide) ?_
          refine r_goto 62 dX12_whichNow_58 (by decide) ?_
          refine r_le [some (.ref 57), some (.int v1), some (.int v2), none, some (.int v4)] ⟨rfl, ⟨rfl, ⟨rfl, ⟨rfl, trivial⟩⟩⟩⟩ ?_
          exact jnR_MD_whichNow_62 n v1 v2 v4 1 μ (hx := hx) (hrec := ih) h
def jn_MD_whichNow_81 (n : Nat) (rec : Int32 → Int32 → Option (Int32)) (v2 : Int32) (w0 : Int32) (w1 : Int32) (μ : kbM) : Option (Int32) :=
  rec (w0 ||| w1) (v2 + 1)
theorem jnR_MD_whichNow_81 {l : Launch} (n : Nat)   (v2 : Int32) (w0 : Int32) (w1 : Int32) (μ : kbM) {Q : kbQt} {P : Int32 → Prop} (hx : ∀ z : Int32, P (z) → kbR l MX12_whichNow 3 Q 89 [none, some (.int z), none, none, none] [] μ) {rec : Int32 → Int32 → Option (Int32)} (hrec : ∀ (v1 : Int32) (v2 : Int32), kbG (rec v1 v2) P → kbR l MX12_whichNow 3 Q 4 [some (.ref 57), some (.int v1), some (.int v2), none, none] [] μ) (h : kbG (jn_MD_whichNow_81 n rec v2 w0 w1 μ) P) : kbR l MX12_whichNow 3 Q 81 [some (.ref 57), none, some (.int v2), none, none] [.int w1, .int w0] μ := by
  unfold jn_MD_whichNow_81 at h
  refine r_ior dX12_whichNow_81 ?_
  refine r_istore_n dX12_whichNow_82 (Nat.le_of_ble_eq_true rfl) rfl ?_
  refine r_iinc 1 dX12_whichNow_83 rfl (by decide) (Nat.le_of_ble_eq_true rfl) rfl ?_
  refine r_goto 4 dX12_whichNow_86 (by decide) ?_
  refine r_le [some (.ref 57), some (.int (w0 ||| w1)), some (.int (v2 + 1)), none, none] ⟨rfl, ⟨rfl, ⟨rfl, trivial⟩⟩⟩ ?_
  exact hrec (w0 ||| w1) (v2 + 1) h
def lp_MD_whichNow_4 (n : Nat) (μ : kbM) : Nat → Int32 → Int32 → Option (Int32)
  | 0, _, _ => none
  | k + 1, v1, v2 =>
    if (μ.1 57 27) ≤ v2 then
      some v1
    else
      (lp_MD_whichNow_17 n v1 v2 μ n 1 0).bind fun x2 =>
      if x2 = 0 then
        jn_MD_whichNow_81 n (lp_MD_whichNow_4 n μ k) v2 v1 0 μ
      else
        jn_MD_whichNow_81 n (lp_MD_whichNow_4 n μ k) v2 v1 (kbShl 1 v2) μ
theorem lpR_MD_whichNow_4 {l : Launch} (n : Nat) (μ : kbM)  {Q : kbQt} {P : Int32 → Prop} (hx : ∀ z : Int32, P (z) → kbR l MX12_whichNow 3 Q 89 [none, some (.int z), none, none, none] [] μ) : ∀ (k : Nat) (v1 : Int32) (v2 : Int32), kbG (lp_MD_whichNow_4 n μ k v1 v2) P → kbR l MX12_whichNow 3 Q 4 [some (.ref 57), some (.int v1), some (.int v2), none, none] [] μ := by
  intro k
  induction k with
  | zero => intro v1 v2 h; exact absurd h kbG_none
  | succ k ih =>
    intro v1 v2 h
    unfold lp_MD_whichNow_4 at h
    refine r_iload_n dX12_whichNow_4 rfl ?_
    refine r_aload_n dX12_whichNow_5 rfl ?_
    refine r_getI flX12_162 sh57 rfl dX12_whichNow_6 ?_
    refine r_icmp_ge 89 dX12_whichNow_9 (by decide) (fun hc => ?_) (fun hc => ?_)
    · replace h := kbG_t hc h
      refine r_le [none, some (.int v1), none, none, none] ⟨rfl, trivial⟩ ?_
      exact hx v1 (kbG_some h)
    · replace h := kbG_f hc h
      refine r_iconst 1 dX12_whichNow_12 (by decide) ?_
      refine r_istore_n dX12_whichNow_13 (Nat.le_of_ble_eq_true rfl) rfl ?_
      refine r_iconst 0 dX12_whichNow_14 (by decide) ?_
      refine r_istore dX12_whichNow_15 (Nat.le_of_ble_eq_true rfl) rfl ?_
      refine r_le [some (.ref 57), some (.int v1), some (.int v2), some (.int 1), some (.int 0)] ⟨rfl, ⟨rfl, ⟨rfl, ⟨rfl, ⟨rfl, trivial⟩⟩⟩⟩⟩ ?_
      obtain ⟨x2, hx0, h⟩ := kbG_bind h
      refine lpR_MD_whichNow_17 n v1 v2 μ (P := fun z => x2 = z) (hx := fun z e => ?_) n _ _ ⟨_, hx0, rfl⟩
      subst e
      refine r_iload_n dX12_whichNow_69 rfl ?_
      refine r_iload_n dX12_whichNow_70 rfl ?_
      refine r_if_eq 80 dX12_whichNow_71 (by decide) (fun hc => ?_) (fun hc => ?_)
      · replace h := kbG_t hc h
        refine r_iconst 0 dX12_whichNow_80 (by decide) ?_
        refine r_le [some (.ref 57), none, some (.int v2), none, none] ⟨rfl, ⟨rfl, trivial⟩⟩ ?_
        exact jnR_MD_whichNow_81 n v2 v1 0 μ (hx := hx) (hrec := ih) h
      · replace h := kbG_f hc h
        refine r_iconst 1 dX12_whichNow_74 (by decide) ?_
        refine r_iload_n dX12_whichNow_75 rfl ?_
        refine r_shl dX12_whichNow_76 ?_
        refine r_goto 81 dX12_whichNow_77 (by decide) ?_
        refine r_le [some (.ref 57), none, some (.int v2), none, none] ⟨rfl, ⟨rfl, trivial⟩⟩ ?_
        exact jnR_MD_whichNow_81 n v2 v1 (kbShl 1 v2) μ (hx := hx) (hrec := ih) h
def f_MD_whichNow (n : Nat) (μ : kbM) : Option (Int32) :=
  (lp_MD_whichNow_4 n μ n 0 0).bind fun x3 =>
  some x3
theorem sp_MD_whichNow {l : Launch} (n : Nat) (μ : kbM)  {x : Int32} (h : f_MD_whichNow n μ = some x) : kbS l MX12_whichNow 3 [.ref 57] μ (kbQe (some (.int x)) μ) := by
  refine kb_enter 4 rfl rfl ?_
  suffices H : ∀ (Q : kbQt) (P : Int32 → Prop), (∀ z : Int32, P z → Q (some (.int z)) μ) → kbG (f_MD_whichNow n μ) P → kbR l MX12_whichNow 3 Q 0 [some (.ref 57), none, none, none, none] [] μ from H _ (fun z => z = x) (fun z e => by subst e; exact ⟨rfl, rfl⟩) ⟨x, h, rfl⟩
  clear h
  intro Q P hr h
  unfold f_MD_whichNow at h
  refine r_iconst 0 dX12_whichNow_0 (by decide) ?_
  refine r_istore_n dX12_whichNow_1 (Nat.le_of_ble_eq_true rfl) rfl ?_
  refine r_iconst 0 dX12_whichNow_2 (by decide) ?_
  refine r_istore_n dX12_whichNow_3 (Nat.le_of_ble_eq_true rfl) rfl ?_
  refine r_le [some (.ref 57), some (.int 0), some (.int 0), none, none] ⟨rfl, ⟨rfl, ⟨rfl, trivial⟩⟩⟩ ?_
  obtain ⟨x3, hx0, h⟩ := kbG_bind h
  refine lpR_MD_whichNow_4 n μ (P := fun z => x3 = z) (hx := fun z e => ?_) n _ _ ⟨_, hx0, rfl⟩
  subst e
  refine r_iload_n dX12_whichNow_89 rfl ?_
  exact r_iret rfl dX12_whichNow_90 (hr x3 (kbG_some h))
def f_MD_which (n : Nat) (μ : kbM) : Option (Int32 × kbM) :=
  (f_MD_whichNow n (kbW μ 57 3 0)).bind fun x1 =>
  some ((x1, kbW μ 57 3 0))
theorem sp_MD_which {l : Launch} (n : Nat) (μ : kbM)  {x : Int32 × kbM} (h : f_MD_which n μ = some x) : kbS l MX12_which 4 [.ref 57] μ (kbQe (some (.int x.1)) x.2) := by
  refine kb_enter 0 rfl rfl ?_
  suffices H : ∀ (Q : kbQt) (P : Int32 × kbM → Prop), (∀ z : Int32 × kbM, P z → Q (some (.int z.1)) z.2) → kbG (f_MD_which n μ) P → kbR l MX12_which 4 Q 0 [some (.ref 57)] [] μ from H _ (fun z => z = x) (fun z e => by subst e; exact ⟨rfl, rfl⟩) ⟨x, h, rfl⟩
  clear h
  intro Q P hr h
  unfold f_MD_which at h
  refine r_aload_n dX12_which_0 rfl ?_
  refine r_iconst 0 dX12_which_1 (by decide) ?_
  refine r_put flX12_159 sh57 rfl rfl rfl dX12_which_2 ?_
  refine r_aload_n dX12_which_5 rfl ?_
  obtain ⟨x1, hx0, h⟩ := kbG_bind h
  refine r_invV_i cvX12_441 sh57 rfl (sp_MD_whichNow n (kbW μ 57 3 0) hx0) rfl rfl (Nat.le_of_ble_eq_true rfl) (Nat.le_of_ble_eq_true rfl) dX12_which_6 ?_
  exact r_iret rfl dX12_which_9 (hr ((x1, kbW μ 57 3 0)) (kbG_some h))
def jn_MD_unlike_78 (n : Nat) (rec : Int32 → Int32 → Option (Int32)) (v1 : Int32) (v2 : Int32) (v3 : Int32) (v4 : Int32) (v6 : Int32) (w0 : Int32) (μ : kbM) : Option (Int32) :=
  rec w0 (v6 + 1)
theorem jnR_MD_unlike_78 {l : Launch} (n : Nat)   (v1 : Int32) (v2 : Int32) (v3 : Int32) (v4 : Int32) (v6 : Int32) (w0 : Int32) (μ : kbM) {Q : kbQt} {P : Int32 → Prop} (hx : ∀ z : Int32, P (z) → kbR l MX12_unlike 3 Q 86 [some (.ref 57), some (.int v1), some (.int v2), some (.int v3), some (.int v4), some (.int z), none] [] μ) {rec : Int32 → Int32 → Option (Int32)} (hrec : ∀ (v5 : Int32) (v6 : Int32), kbG (rec v5 v6) P → kbR l MX12_unlike 3 Q 25 [some (.ref 57), some (.int v1), some (.int v2), some (.int v3), some (.int v4), some (.int v5), some (.int v6)] [] μ) (h : kbG (jn_MD_unlike_78 n rec v1 v2 v3 v4 v6 w0 μ) P) : kbR l MX12_unlike 3 Q 78 [some (.ref 57), some (.int v1), some (.int v2), some (.int v3), some (.int v4), none, some (.int v6)] [.int w0] μ := by
  unfold jn_MD_unlike_78 at h
  refine r_istore dX12_unlike_78 (Nat.le_of_ble_eq_true rfl) rfl ?_
  refine r_iinc 1 dX12_unlike_80 rfl (by decide) (Nat.le_of_ble_eq_true rfl) rfl ?_
  refine r_goto 25 dX12_unlike_83 (by decide) ?_
  refine r_le [some (.ref 57), some (.int v1), some (.int v2), some (.int v3), some (.int v4), some (.int w0), some (.int (v6 + 1))] ⟨rfl, ⟨rfl, ⟨rfl, ⟨rfl, ⟨rfl, ⟨rfl, ⟨rfl, trivial⟩⟩⟩⟩⟩⟩⟩ ?_
  exact hrec w0 (v6 + 1) h
def jn_MD_unlike_73 (n : Nat) (rec : Int32 → Int32 → Option (Int32)) (v1 : Int32) (v2 : Int32) (v3 : Int32) (v4 : Int32) (v6 : Int32) (μ : kbM) : Option (Int32) :=
  jn_MD_unlike_78 n rec v1 v2 v3 v4 v6 1 μ
theorem jnR_MD_unlike_73 {l : Launch} (n : Nat)   (v1 : Int32) (v2 : Int32) (v3 : Int32) (v4 : Int32) (v6 : Int32) (μ : kbM) {Q : kbQt} {P : Int32 → Prop} (hx : ∀ z : Int32, P (z) → kbR l MX12_unlike 3 Q 86 [some (.ref 57), some (.int v1), some (.int v2), some (.int v3), some (.int v4), some (.int z), none] [] μ) {rec : Int32 → Int32 → Option (Int32)} (hrec : ∀ (v5 : Int32) (v6 : Int32), kbG (rec v5 v6) P → kbR l MX12_unlike 3 Q 25 [some (.ref 57), some (.int v1), some (.int v2), some (.int v3), some (.int v4), some (.int v5), some (.int v6)] [] μ) (h : kbG (jn_MD_unlike_73 n rec v1 v2 v3 v4 v6 μ) P) : kbR l MX12_unlike 3 Q 73 [some (.ref 57), some (.int v1), some (.int v2), some (.int v3), some (.int v4), none, some (.int v6)] [] μ := by
  unfold jn_MD_unlike_73 at h
  refine r_iconst 1 dX12_unlike_73 (by decide) ?_
  refine r_goto 78 dX12_unlike_74 (by decide) ?_
  refine r_le [some (.ref 57), some (.int v1), some (.int v2), some (.int v3), some (.int v4), none, some (.int v6)] ⟨rfl, ⟨rfl, ⟨rfl, ⟨rfl, ⟨rfl, ⟨rfl, trivial⟩⟩⟩⟩⟩⟩ ?_
  exact jnR_MD_unlike_78 n v1 v2 v3 v4 v6 1 μ (hx := hx) (hrec := hrec) h
def lp_MD_unlike_25 (n : Nat) (v1 : Int32) (v2 : Int32) (v3 : Int32) (v4 : Int32) (μ : kbM) : Nat → Int32 → Int32 → Option (Int32)
  | 0, _, _ => none
  | k + 1, v5, v6 =>
    if v4 ≤ v6 then
      some v5
    else
      if v5 = 0 then
        some v5
      else
        (f_MD_isOf v2 v6).bind fun x2 =>
        if x2 = 0 then
          jn_MD_unlike_73 n (lp_MD_unlike_25 n v1 v2 v3 v4 μ k) v1 v2 v3 v4 v6 μ
        else
          kbIf (kbIn v4 10) <|
          (f_MD_heardAt n v1 (μ.1 70 v4.toNatClampNeg) μ).bind fun x3 =>
          kbIf (kbIn v6 10) <|
          (f_MD_heardAt n v1 (μ.1 70 v6.toNatClampNeg) μ).bind fun x4 =>
          if x3 = x4 then
            jn_MD_unlike_78 n (lp_MD_unlike_25 n v1 v2 v3 v4 μ k) v1 v2 v3 v4 v6 0 μ
          else
            jn_MD_unlike_73 n (lp_MD_unlike_25 n v1 v2 v3 v4 μ k) v1 v2 v3 v4 v6 μ
theorem lpR_MD_unlike_25 {l : Launch} (n : Nat) (v1 : Int32) (v2 : Int32) (v3 : Int32) (v4 : Int32) (μ : kbM)  {Q : kbQt} {P : Int32 → Prop} (hx : ∀ z : Int32, P (z) → kbR l MX12_unlike 3 Q 86 [some (.ref 57), some (.int v1), some (.int v2), some (.int v3), some (.int v4), some (.int z), none] [] μ) : ∀ (k : Nat) (v5 : Int32) (v6 : Int32), kbG (lp_MD_unlike_25 n v1 v2 v3 v4 μ k v5 v6) P → kbR l MX12_unlike 3 Q 25 [some (.ref 57), some (.int v1), some (.int v2), some (.int v3), some (.int v4), some (.int v5), some (.int v6)] [] μ := by
  intro k
  induction k with
  | zero => intro v5 v6 h; exact absurd h kbG_none
  | succ k ih =>
    intro v5 v6 h
    unfold lp_MD_unlike_25 at h
    refine r_iload dX12_unlike_25 rfl ?_
    refine r_iload dX12_unlike_27 rfl ?_
    refine r_icmp_ge 86 dX12_unlike_29 (by decide) (fun hc => ?_) (fun hc => ?_)
    · replace h := kbG_t hc h
      refine r_le [some (.ref 57), some (.int v1), some (.int v2), some (.int v3), some (.int v4), some (.int v5), none] ⟨rfl, ⟨rfl, ⟨rfl, ⟨rfl, ⟨rfl, ⟨rfl, trivial⟩⟩⟩⟩⟩⟩ ?_
      exact hx v5 (kbG_some h)
    · replace h := kbG_f hc h
      refine r_iload dX12_unlike_32 rfl ?_
      refine r_if_eq 86 dX12_unlike_34 (by decide) (fun hc => ?_) (fun hc => ?_)
      · replace h := kbG_t hc h
        refine r_le [some (.ref 57), some (.int v1), some (.int v2), some (.int v3), some (.int v4), some (.int v5), none] ⟨rfl, ⟨rfl, ⟨rfl, ⟨rfl, ⟨rfl, ⟨rfl, trivial⟩⟩⟩⟩⟩⟩ ?_
        exact hx v5 (kbG_some h)
      · replace h := kbG_f hc h
        refine r_iload_n dX12_unlike_37 rfl ?_
        refine r_iload dX12_unlike_38 rfl ?_
        obtain ⟨x2, hx0, h⟩ := kbG_bind h
        refine r_inv_i csX12_318 (sp_MD_isOf v2 v6 μ hx0) rfl rfl (Nat.le_of_ble_eq_true rfl) (Nat.le_of_ble_eq_true rfl) dX12_unlike_40 ?_
        refine r_if_eq 73 dX12_unlike_43 (by decide) (fun hc => ?_) (fun hc => ?_)
        · replace h := kbG_t hc h
          refine r_le [some (.ref 57), some (.int v1), some (.int v2), some (.int v3), some (.int v4), none, some (.int v6)] ⟨rfl, ⟨rfl, ⟨rfl, ⟨rfl, ⟨rfl, ⟨rfl, trivial⟩⟩⟩⟩⟩⟩ ?_
          exact jnR_MD_unlike_73 n v1 v2 v3 v4 v6 μ (hx := hx) (hrec := ih) h
        · replace h := kbG_f hc h
          refine r_aload_n dX12_unlike_46 rfl ?_
          refine r_iload_n dX12_unlike_47 rfl ?_
          refine r_aload_n dX12_unlike_48 rfl ?_
          refine r_getR flX12_79 sh57 rfl dX12_unlike_49 ?_
          refine r_iload dX12_unlike_52 rfl ?_
          obtain ⟨hin, h⟩ := kbG_if h
          replace hin := kbIn_of hin
          refine q_iald v4.toNatClampNeg rfl sh70 hin dX12_unlike_54 ?_
          obtain ⟨x3, hx0, h⟩ := kbG_bind h
          refine r_invV_i cvX12_328 sh57 rfl (sp_MD_heardAt n v1 (μ.1 70 v4.toNatClampNeg) μ hx0) rfl rfl (Nat.le_of_ble_eq_true rfl) (Nat.le_of_ble_eq_true rfl) dX12_unlike_55 ?_
          refine r_aload_n dX12_unlike_58 rfl ?_
          refine r_iload_n dX12_unlike_59 rfl ?_
          refine r_aload_n dX12_unlike_60 rfl ?_
          refine r_getR flX12_79 sh57 rfl dX12_unlike_61 ?_
          refine r_iload dX12_unlike_64 rfl ?_
          obtain ⟨hin, h⟩ := kbG_if h
          replace hin := kbIn_of hin
          refine q_iald v6.toNatClampNeg rfl sh70 hin dX12_unlike_66 ?_
          obtain ⟨x4, hx0, h⟩ := kbG_bind h
          refine r_invV_i cvX12_328 sh57 rfl (sp_MD_heardAt n v1 (μ.1 70 v6.toNatClampNeg) μ hx0) rfl rfl (Nat.le_of_ble_eq_true rfl) (Nat.le_of_ble_eq_true rfl) dX12_unlike_67 ?_
          refine r_icmp_eq 77 dX12_unlike_70 (by decide) (fun hc => ?_) (fun hc => ?_)
          · replace h := kbG_t hc h
            refine r_iconst 0 dX12_unlike_77 (by decide) ?_
            refine r_le [some (.ref 57), some (.int v1), some (.int v2), some (.int v3), some (.int v4), none, some (.int v6)] ⟨rfl, ⟨rfl, ⟨rfl, ⟨rfl, ⟨rfl, ⟨rfl, trivial⟩⟩⟩⟩⟩⟩ ?_
            exact jnR_MD_unlike_78 n v1 v2 v3 v4 v6 0 μ (hx := hx) (hrec := ih) h
          · replace h := kbG_f hc h
            refine r_le [some (.ref 57), some (.int v1), some (.int v2), some (.int v3), some (.int v4), none, some (.int v6)] ⟨rfl, ⟨rfl, ⟨rfl, ⟨rfl, ⟨rfl, ⟨rfl, trivial⟩⟩⟩⟩⟩⟩ ?_
            exact jnR_MD_unlike_73 n v1 v2 v3 v4 v6 μ (hx := hx) (hrec := ih) h
def jn_MD_unlike_97 (n : Nat) (rec : Int32 → Int32 → Option (Int32)) (v1 : Int32) (v2 : Int32) (v4 : Int32) (w0 : Int32) (w1 : Int32) (μ : kbM) : Option (Int32) :=
  rec (w0 + w1) (v4 + 1)
theorem jnR_MD_unlike_97 {l : Launch} (n : Nat)   (v1 : Int32) (v2 : Int32) (v4 : Int32) (w0 : Int32) (w1 : Int32) (μ : kbM) {Q : kbQt} {P : Int32 → Prop} (hx : ∀ z : Int32, P (z) → kbR l MX12_unlike 3 Q 105 [none, none, none, some (.int z), none, none, none] [] μ) {rec : Int32 → Int32 → Option (Int32)} (hrec : ∀ (v3 : Int32) (v4 : Int32), kbG (rec v3 v4) P → kbR l MX12_unlike 3 Q 5 [some (.ref 57), some (.int v1), some (.int v2), some (.int v3), some (.int v4), none, none] [] μ) (h : kbG (jn_MD_unlike_97 n rec v1 v2 v4 w0 w1 μ) P) : kbR l MX12_unlike 3 Q 97 [some (.ref 57), some (.int v1), some (.int v2), none, some (.int v4), none, none] [.int w1, .int w0] μ := by
  unfold jn_MD_unlike_97 at h
  refine r_iadd dX12_unlike_97 ?_
  refine r_istore_n dX12_unlike_98 (Nat.le_of_ble_eq_true rfl) rfl ?_
  refine r_iinc 1 dX12_unlike_99 rfl (by decide) (Nat.le_of_ble_eq_true rfl) rfl ?_
  refine r_goto 5 dX12_unlike_102 (by decide) ?_
  refine r_le [some (.ref 57), some (.int v1), some (.int v2), some (.int (w0 + w1)), some (.int (v4 + 1)), none, none] ⟨rfl, ⟨rfl, ⟨rfl, ⟨rfl, ⟨rfl, trivial⟩⟩⟩⟩⟩ ?_
  exact hrec (w0 + w1) (v4 + 1) h
def jn_MD_unlike_86 (n : Nat) (rec : Int32 → Int32 → Option (Int32)) (v1 : Int32) (v2 : Int32) (v3 : Int32) (v4 : Int32) (v5 : Int32) (μ : kbM) : Option (Int32) :=
  if v5 = 0 then
    jn_MD_unlike_97 n rec v1 v2 v4 v3 0 μ
  else
    jn_MD_unlike_97 n rec v1 v2 v4 v3 1 μ
theorem jnR_MD_unlike_86 {l : Launch} (n : Nat)   (v1 : Int32) (v2 : Int32) (v3 : Int32) (v4 : Int32) (v5 : Int32) (μ : kbM) {Q : kbQt} {P : Int32 → Prop} (hx : ∀ z : Int32, P (z) → kbR l MX12_unlike 3 Q 105 [none, none, none, some (.int z), none, none, none] [] μ) {rec : Int32 → Int32 → Option (Int32)} (hrec : ∀ (v3 : Int32) (v4 : Int32), kbG (rec v3 v4) P → kbR l MX12_unlike 3 Q 5 [some (.ref 57), some (.int v1), some (.int v2), some (.int v3), some (.int v4), none, none] [] μ) (h : kbG (jn_MD_unlike_86 n rec v1 v2 v3 v4 v5 μ) P) : kbR l MX12_unlike 3 Q 86 [some (.ref 57), some (.int v1), some (.int v2), some (.int v3), some (.int v4), some (.int v5), none] [] μ := by
  unfold jn_MD_unlike_86 at h
  refine r_iload_n dX12_unlike_86 rfl ?_
  refine r_iload dX12_unlike_87 rfl ?_
  refine r_if_eq 96 dX12_unlike_89 (by decide) (fun hc => ?_) (fun hc => ?_)
  · replace h := kbG_t hc h
    refine r_iconst 0 dX12_unlike_96 (by decide) ?_
    refine r_le [some (.ref 57), some (.int v1), some (.int v2), none, some (.int v4), none, none] ⟨rfl, ⟨rfl, ⟨rfl, ⟨rfl, trivial⟩⟩⟩⟩ ?_
    exact jnR_MD_unlike_97 n v1 v2 v4 v3 0 μ (hx := hx) (hrec := hrec) h
  · replace h := kbG_f hc h
    refine r_iconst 1 dX12_unlike_92 (by decide) ?_
    refine r_goto 97 dX12_unlike_93 (by decide) ?_
    refine r_le [some (.ref 57), some (.int v1), some (.int v2), none, some (.int v4), none, none] ⟨rfl, ⟨rfl, ⟨rfl, ⟨rfl, trivial⟩⟩⟩⟩ ?_
    exact jnR_MD_unlike_97 n v1 v2 v4 v3 1 μ (hx := hx) (hrec := hrec) h
def lp_MD_unlike_5 (n : Nat) (v1 : Int32) (v2 : Int32) (μ : kbM) : Nat → Int32 → Int32 → Option (Int32)
  | 0, _, _ => none
  | k + 1, v3, v4 =>
    if (μ.1 57 27) ≤ v4 then
      some v3
    else
      (f_MD_isOf v2 v4).bind fun x1 =>
      (lp_MD_unlike_25 n v1 v2 v3 v4 μ n x1 0).bind fun x5 =>
      jn_MD_unlike_86 n (lp_MD_unlike_5 n v1 v2 μ k) v1 v2 v3 v4 x5 μ
theorem lpR_MD_unlike_5 {l : Launch} (n : Nat) (v1 : Int32) (v2 : Int32) (μ : kbM)  {Q : kbQt} {P : Int32 → Prop} (hx : ∀ z : Int32, P (z) → kbR l MX12_unlike 3 Q 105 [none, none, none, some (.int z), none, none, none] [] μ) : ∀ (k : Nat) (v3 : Int32) (v4 : Int32), kbG (lp_MD_unlike_5 n v1 v2 μ k v3 v4) P → kbR l MX12_unlike 3 Q 5 [some (.ref 57), some (.int v1), some (.int v2), some (.int v3), some (.int v4), none, none] [] μ := by
  intro k
  induction k with
  | zero => intro v3 v4 h; exact absurd h kbG_none
  | succ k ih =>
    intro v3 v4 h
    unfold lp_MD_unlike_5 at h
    refine r_iload dX12_unlike_5 rfl ?_
    refine r_aload_n dX12_unlike_7 rfl ?_
    refine r_getI flX12_162 sh57 rfl dX12_unlike_8 ?_
    refine r_icmp_ge 105 dX12_unlike_11 (by decide) (fun hc => ?_) (fun hc => ?_)
    · replace h := kbG_t hc h
      refine r_le [none, none, none, some (.int v3), none, none, none] ⟨rfl, trivial⟩ ?_
      exact hx v3 (kbG_some h)
    · replace h := kbG_f hc h
      refine r_iload_n dX12_unlike_14 rfl ?_
      refine r_iload dX12_unlike_15 rfl ?_
      obtain ⟨x1, hx0, h⟩ := kbG_bind h
      refine r_inv_i csX12_318 (sp_MD_isOf v2 v4 μ hx0) rfl rfl (Nat.le_of_ble_eq_true rfl) (Nat.le_of_ble_eq_true rfl) dX12_unlike_17 ?_
      refine r_istore dX12_unlike_20 (Nat.le_of_ble_eq_true rfl) rfl ?_
      refine r_iconst 0 dX12_unlike_22 (by decide) ?_
      refine r_istore dX12_unlike_23 (Nat.le_of_ble_eq_true rfl) rfl ?_
      refine r_le [some (.ref 57), some (.int v1), some (.int v2), some (.int v3), some (.int v4), some (.int x1), some (.int 0)] ⟨rfl, ⟨rfl, ⟨rfl, ⟨rfl, ⟨rfl, ⟨rfl, ⟨rfl, trivial⟩⟩⟩⟩⟩⟩⟩ ?_
      obtain ⟨x5, hx0, h⟩ := kbG_bind h
      refine lpR_MD_unlike_25 n v1 v2 v3 v4 μ (P := fun z => x5 = z) (hx := fun z e => ?_) n _ _ ⟨_, hx0, rfl⟩
      subst e
      refine r_le [some (.ref 57), some (.int v1), some (.int v2), some (.int v3), some (.int v4), some (.int x5), none] ⟨rfl, ⟨rfl, ⟨rfl, ⟨rfl, ⟨rfl, ⟨rfl, trivial⟩⟩⟩⟩⟩⟩ ?_
      exact jnR_MD_unlike_86 n v1 v2 v3 v4 x5 μ (hx := hx) (hrec := ih) h
def f_MD_unlike (n : Nat) (a1 : Int32) (a2 : Int32) (μ : kbM) : Option (Int32) :=
  (lp_MD_unlike_5 n a1 a2 μ n 0 0).bind fun x6 =>
  some x6
theorem sp_MD_unlike {l : Launch} (n : Nat) (a1 : Int32) (a2 : Int32) (μ : kbM)  {x : Int32} (h : f_MD_unlike n a1 a2 μ = some x) : kbS l MX12_unlike 3 [.ref 57, .int a1, .int a2] μ (kbQe (some (.int x)) μ) := by
  refine kb_enter 4 rfl rfl ?_
  suffices H : ∀ (Q : kbQt) (P : Int32 → Prop), (∀ z : Int32, P z → Q (some (.int z)) μ) → kbG (f_MD_unlike n a1 a2 μ) P → kbR l MX12_unlike 3 Q 0 [some (.ref 57), some (.int a1), some (.int a2), none, none, none, none] [] μ from H _ (fun z => z = x) (fun z e => by subst e; exact ⟨rfl, rfl⟩) ⟨x, h, rfl⟩
  clear h
  intro Q P hr h
  unfold f_MD_unlike at h
  refine r_iconst 0 dX12_unlike_0 (by decide) ?_
  refine r_istore_n dX12_unlike_1 (Nat.le_of_ble_eq_true rfl) rfl ?_
  refine r_iconst 0 dX12_unlike_2 (by decide) ?_
  refine r_istore dX12_unlike_3 (Nat.le_of_ble_eq_true rfl) rfl ?_
  refine r_le [some (.ref 57), some (.int a1), some (.int a2), some (.int 0), some (.int 0), none, none] ⟨rfl, ⟨rfl, ⟨rfl, ⟨rfl, ⟨rfl, trivial⟩⟩⟩⟩⟩ ?_
  obtain ⟨x6, hx0, h⟩ := kbG_bind h
  refine lpR_MD_unlike_5 n a1 a2 μ (P := fun z => x6 = z) (hx := fun z e => ?_) n _ _ ⟨_, hx0, rfl⟩
  subst e
  refine r_iload_n dX12_unlike_105 rfl ?_
  exact r_iret rfl dX12_unlike_106 (hr x6 (kbG_some h))
def jn_MD_listen_14 (n : Nat) (μ : kbM) : Option (Int32 × kbM) :=
  (f_MD_fail 1 μ).bind fun x1 =>
  some ((x1.1, x1.2))
theorem jnR_MD_listen_14 {l : Launch} (n : Nat)    (μ : kbM) {Q : kbQt} {P : Int32 × kbM → Prop} (hr : ∀ z : Int32 × kbM, P z → Q (some (.int z.1)) z.2) (h : kbG (jn_MD_listen_14 n μ) P) : kbR l MX12_listen 4 Q 14 [some (.ref 57), none, none, none, none, none, none] [] μ := by
  unfold jn_MD_listen_14 at h
  refine r_aload_n dX12_listen_14 rfl ?_
  refine r_iconst 1 dX12_listen_15 (by decide) ?_
  obtain ⟨x1, hx0, h⟩ := kbG_bind h
  refine r_invV_i cvX12_292 sh57 rfl (sp_MD_fail 1 μ hx0) rfl rfl (Nat.le_of_ble_eq_true rfl) (Nat.le_of_ble_eq_true rfl) dX12_listen_16 ?_
  exact r_iret rfl dX12_listen_19 (hr ((x1.1, x1.2)) (kbG_some h))
def jn_MD_listen_70 (n : Nat) (rec : Int32 → Int32 → Int32 → Option (Int32 × Int32)) (v1 : Int32) (v2 : Int32) (v3 : Int32) (v4 : Int32) (v5 : Int32) (μ : kbM) : Option (Int32 × Int32) :=
  rec v3 v4 (v5 + 1)
theorem jnR_MD_listen_70 {l : Launch} (n : Nat)   (v1 : Int32) (v2 : Int32) (v3 : Int32) (v4 : Int32) (v5 : Int32) (μ : kbM) {Q : kbQt} {P : Int32 × Int32 → Prop} (hx : ∀ z : Int32 × Int32, P (z) → kbR l MX12_listen 4 Q 76 [none, some (.int v1), none, some (.int z.1), some (.int z.2), none, none] [] μ) {rec : Int32 → Int32 → Int32 → Option (Int32 × Int32)} (hrec : ∀ (v3 : Int32) (v4 : Int32) (v5 : Int32), kbG (rec v3 v4 v5) P → kbR l MX12_listen 4 Q 33 [some (.ref 57), some (.int v1), some (.int v2), some (.int v3), some (.int v4), some (.int v5), none] [] μ) (h : kbG (jn_MD_listen_70 n rec v1 v2 v3 v4 v5 μ) P) : kbR l MX12_listen 4 Q 70 [some (.ref 57), some (.int v1), some (.int v2), some (.int v3), some (.int v4), some (.int v5), none] [] μ := by
  unfold jn_MD_listen_70 at h
  refine r_iinc 1 dX12_listen_70 rfl (by decide) (Nat.le_of_ble_eq_true rfl) rfl ?_
  refine r_goto 33 dX12_listen_73 (by decide) ?_
  refine r_le [some (.ref 57), some (.int v1), some (.int v2), some (.int v3), some (.int v4), some (.int (v5 + 1)), none] ⟨rfl, ⟨rfl, ⟨rfl, ⟨rfl, ⟨rfl, ⟨rfl, trivial⟩⟩⟩⟩⟩⟩ ?_
  exact hrec v3 v4 (v5 + 1) h
def lp_MD_listen_33 (n : Nat) (v1 : Int32) (v2 : Int32) (μ : kbM) : Nat → Int32 → Int32 → Int32 → Option (Int32 × Int32)
  | 0, _, _, _ => none
  | k + 1, v3, v4, v5 =>
    if (μ.1 61 1) ≤ v5 then
      some ((v3, v4))
    else
      (f_MD_unlike n v5 v2 μ).bind fun x3 =>
      if v4 < x3 then
        jn_MD_listen_70 n (lp_MD_listen_33 n v1 v2 μ k) v1 v2 v5 x3 v5 μ
      else
        jn_MD_listen_70 n (lp_MD_listen_33 n v1 v2 μ k) v1 v2 v3 v4 v5 μ
theorem lpR_MD_listen_33 {l : Launch} (n : Nat) (v1 : Int32) (v2 : Int32) (μ : kbM)  {Q : kbQt} {P : Int32 × Int32 → Prop} (hx : ∀ z : Int32 × Int32, P (z) → kbR l MX12_listen 4 Q 76 [none, some (.int v1), none, some (.int z.1), some (.int z.2), none, none] [] μ) : ∀ (k : Nat) (v3 : Int32) (v4 : Int32) (v5 : Int32), kbG (lp_MD_listen_33 n v1 v2 μ k v3 v4 v5) P → kbR l MX12_listen 4 Q 33 [some (.ref 57), some (.int v1), some (.int v2), some (.int v3), some (.int v4), some (.int v5), none] [] μ := by
  intro k
  induction k with
  | zero => intro v3 v4 v5 h; exact absurd h kbG_none
  | succ k ih =>
    intro v3 v4 v5 h
    unfold lp_MD_listen_33 at h
    refine r_iload dX12_listen_33 rfl ?_
    refine r_aload_n dX12_listen_35 rfl ?_
    refine r_getR flX12_47 sh57 rfl dX12_listen_36 ?_
    refine r_iconst 1 dX12_listen_39 (by decide) ?_
    have hin : vp_in 1 6 := kbIn_of (by decide)
    refine q_iald 1 (by decide) sh61 hin dX12_listen_40 ?_
    refine r_icmp_ge 76 dX12_listen_41 (by decide) (fun hc => ?_) (fun hc => ?_)
    · replace h := kbG_t hc h
      refine r_le [none, some (.int v1), none, some (.int v3), some (.int v4), none, none] ⟨rfl, ⟨rfl, ⟨rfl, trivial⟩⟩⟩ ?_
      exact hx ((v3, v4)) (kbG_some h)
    · replace h := kbG_f hc h
      refine r_aload_n dX12_listen_44 rfl ?_
      refine r_iload dX12_listen_45 rfl ?_
      refine r_iload_n dX12_listen_47 rfl ?_
      obtain ⟨x3, hx0, h⟩ := kbG_bind h
      refine r_invV_i cvX12_444 sh57 rfl (sp_MD_unlike n v5 v2 μ hx0) rfl rfl (Nat.le_of_ble_eq_true rfl) (Nat.le_of_ble_eq_true rfl) dX12_listen_48 ?_
      refine r_istore dX12_listen_51 (Nat.le_of_ble_eq_true rfl) rfl ?_
      refine r_iload dX12_listen_53 rfl ?_
      refine r_iload dX12_listen_55 rfl ?_
      refine r_icmp_gt 63 dX12_listen_57 (by decide) (fun hc => ?_) (fun hc => ?_)
      · replace h := kbG_t hc h
        refine r_iload dX12_listen_63 rfl ?_
        refine r_istore_n dX12_listen_65 (Nat.le_of_ble_eq_true rfl) rfl ?_
        refine r_iload dX12_listen_66 rfl ?_
        refine r_istore dX12_listen_68 (Nat.le_of_ble_eq_true rfl) rfl ?_
        refine r_le [some (.ref 57), some (.int v1), some (.int v2), some (.int v5), some (.int x3), some (.int v5), none] ⟨rfl, ⟨rfl, ⟨rfl, ⟨rfl, ⟨rfl, ⟨rfl, trivial⟩⟩⟩⟩⟩⟩ ?_
        exact jnR_MD_listen_70 n v1 v2 v5 x3 v5 μ (hx := hx) (hrec := ih) h
      · replace h := kbG_f hc h
        refine r_goto 70 dX12_listen_60 (by decide) ?_
        refine r_le [some (.ref 57), some (.int v1), some (.int v2), some (.int v3), some (.int v4), some (.int v5), none] ⟨rfl, ⟨rfl, ⟨rfl, ⟨rfl, ⟨rfl, ⟨rfl, trivial⟩⟩⟩⟩⟩⟩ ?_
        exact jnR_MD_listen_70 n v1 v2 v3 v4 v5 μ (hx := hx) (hrec := ih) h
def jn_MD_listen_86 (n : Nat) (w0 : Int32) (μ : kbM) : Option (Int32 × kbM) :=
  some ((w0, μ))
theorem jnR_MD_listen_86 {l : Launch} (n : Nat)   (w0 : Int32) (μ : kbM) {Q : kbQt} {P : Int32 × kbM → Prop} (hr : ∀ z : Int32 × kbM, P z → Q (some (.int z.1)) z.2) (h : kbG (jn_MD_listen_86 n w0 μ) P) : kbR l MX12_listen 4 Q 86 [none, none, none, none, none, none, none] [.int w0] μ := by
  unfold jn_MD_listen_86 at h
  exact r_iret rfl dX12_listen_86 (hr ((w0, μ)) (kbG_some h))
def f_MD_listen (n : Nat) (a1 : Int32) (μ : kbM) : Option (Int32 × kbM) :=
  if a1 < 0 then
    jn_MD_listen_14 n (kbW μ 57 3 0)
  else
    if a1 ≤ 1 then
      (f_MD_whichNow n (kbW μ 57 3 0)).bind fun x2 =>
      (lp_MD_listen_33 n a1 x2 (kbW μ 57 3 0) n (-1) 0 0).bind fun x4 =>
      if a1 = 0 then
        jn_MD_listen_86 n x4.1 (kbW μ 57 3 0)
      else
        jn_MD_listen_86 n x4.2 (kbW μ 57 3 0)
    else
      jn_MD_listen_14 n (kbW μ 57 3 0)
theorem sp_MD_listen {l : Launch} (n : Nat) (a1 : Int32) (μ : kbM)  {x : Int32 × kbM} (h : f_MD_listen n a1 μ = some x) : kbS l MX12_listen 4 [.ref 57, .int a1] μ (kbQe (some (.int x.1)) x.2) := by
  refine kb_enter 5 rfl rfl ?_
  suffices H : ∀ (Q : kbQt) (P : Int32 × kbM → Prop), (∀ z : Int32 × kbM, P z → Q (some (.int z.1)) z.2) → kbG (f_MD_listen n a1 μ) P → kbR l MX12_listen 4 Q 0 [some (.ref 57), some (.int a1), none, none, none, none, none] [] μ from H _ (fun z => z = x) (fun z e => by subst e; exact ⟨rfl, rfl⟩) ⟨x, h, rfl⟩
  clear h
  intro Q P hr h
  unfold f_MD_listen at h
  refine r_aload_n dX12_listen_0 rfl ?_
  refine r_iconst 0 dX12_listen_1 (by decide) ?_
  refine r_put flX12_159 sh57 rfl rfl rfl dX12_listen_2 ?_
  refine r_iload_n dX12_listen_5 rfl ?_
  refine r_if_lt 14 dX12_listen_6 (by decide) (fun hc => ?_) (fun hc => ?_)
  · replace h := kbG_t hc h
    refine r_le [some (.ref 57), none, none, none, none, none, none] ⟨rfl, trivial⟩ ?_
    exact jnR_MD_listen_14 n  (kbW μ 57 3 0) (hr := hr) h
  · replace h := kbG_f hc h
    refine r_iload_n dX12_listen_9 rfl ?_
    refine r_iconst 1 dX12_listen_10 (by decide) ?_
    refine r_icmp_le 20 dX12_listen_11 (by decide) (fun hc => ?_) (fun hc => ?_)
    · replace h := kbG_t hc h
      refine r_aload_n dX12_listen_20 rfl ?_
      obtain ⟨x2, hx0, h⟩ := kbG_bind h
      refine r_invV_i cvX12_441 sh57 rfl (sp_MD_whichNow n (kbW μ 57 3 0) hx0) rfl rfl (Nat.le_of_ble_eq_true rfl) (Nat.le_of_ble_eq_true rfl) dX12_listen_21 ?_
      refine r_istore_n dX12_listen_24 (Nat.le_of_ble_eq_true rfl) rfl ?_
      refine r_iconst (-1) dX12_listen_25 (by decide) ?_
      refine r_istore_n dX12_listen_26 (Nat.le_of_ble_eq_true rfl) rfl ?_
      refine r_iconst 0 dX12_listen_27 (by decide) ?_
      refine r_istore dX12_listen_28 (Nat.le_of_ble_eq_true rfl) rfl ?_
      refine r_iconst 0 dX12_listen_30 (by decide) ?_
      refine r_istore dX12_listen_31 (Nat.le_of_ble_eq_true rfl) rfl ?_
      refine r_le [some (.ref 57), some (.int a1), some (.int x2), some (.int (-1)), some (.int 0), some (.int 0), none] ⟨rfl, ⟨rfl, ⟨rfl, ⟨rfl, ⟨rfl, ⟨rfl, trivial⟩⟩⟩⟩⟩⟩ ?_
      obtain ⟨x4, hx0, h⟩ := kbG_bind h
      refine lpR_MD_listen_33 n a1 x2 (kbW μ 57 3 0) (P := fun z => x4 = z) (hx := fun z e => ?_) n _ _ _ ⟨_, hx0, rfl⟩
      subst e
      refine r_iload_n dX12_listen_76 rfl ?_
      refine r_if_ne 84 dX12_listen_77 (by decide) (fun hc => ?_) (fun hc => ?_)
      · replace h := kbG_f hc h
        refine r_iload dX12_listen_84 rfl ?_
        refine r_le [none, none, none, none, none, none, none] trivial ?_
        exact jnR_MD_listen_86 n x4.2 (kbW μ 57 3 0) (hr := hr) h
      · replace h := kbG_t hc h
        refine r_iload_n dX12_listen_80 rfl ?_
        refine r_goto 86 dX12_listen_81 (by decide) ?_
        refine r_le [none, none, none, none, none, none, none] trivial ?_
        exact jnR_MD_listen_86 n x4.1 (kbW μ 57 3 0) (hr := hr) h
    · replace h := kbG_f hc h
      refine r_le [some (.ref 57), none, none, none, none, none, none] ⟨rfl, trivial⟩ ?_
      exact jnR_MD_listen_14 n  (kbW μ 57 3 0) (hr := hr) h
def f_MD_forget (μ : kbM) : Option (kbM) :=
  some (kbW (kbW μ 57 3 0) 57 30 0)
theorem sp_MD_forget {l : Launch} (μ : kbM)  {x : kbM} (h : f_MD_forget μ = some x) : kbS l MX12_forget 1 [.ref 57] μ (kbQe none x) := by
  refine kb_enter 0 rfl rfl ?_
  suffices H : ∀ (Q : kbQt) (P : kbM → Prop), (∀ z : kbM, P z → Q none z) → kbG (f_MD_forget μ) P → kbR l MX12_forget 1 Q 0 [some (.ref 57)] [] μ from H _ (fun z => z = x) (fun z e => by subst e; exact ⟨rfl, rfl⟩) ⟨x, h, rfl⟩
  clear h
  intro Q P hr h
  unfold f_MD_forget at h
  refine r_aload_n dX12_forget_0 rfl ?_
  refine r_iconst 0 dX12_forget_1 (by decide) ?_
  refine r_put flX12_159 sh57 rfl rfl rfl dX12_forget_2 ?_
  refine r_aload_n dX12_forget_5 rfl ?_
  refine r_iconst 0 dX12_forget_6 (by decide) ?_
  refine r_put flX12_311 sh57 rfl rfl rfl dX12_forget_7 ?_
  exact r_vret rfl dX12_forget_10 (hr (kbW (kbW μ 57 3 0) 57 30 0) (kbG_some h))
def jn_MD_isTold_24 (n : Nat) (w0 : Int32) (μ : kbM) : Option (Int32 × kbM) :=
  kbIf (decide (w0 = 0 ∨ w0 = 1)) <|
  some ((w0, μ))
theorem jnR_MD_isTold_24 {l : Launch} (n : Nat)   (w0 : Int32) (μ : kbM) {Q : kbQt} {P : Int32 × kbM → Prop} (hr : ∀ z : Int32 × kbM, P z → Q (some (.int z.1)) z.2) (h : kbG (jn_MD_isTold_24 n w0 μ) P) : kbR l MX12_isTold 5 Q 24 [none, none, none] [.int w0] μ := by
  unfold jn_MD_isTold_24 at h
  obtain ⟨hz, h⟩ := kbG_if h
  exact r_zret rfl (kb_z01 (of_decide_eq_true hz)) dX12_isTold_24 (hr ((w0, μ)) (kbG_some h))
def f_MD_isTold (n : Nat) (a1 : Int32) (a2 : Int32) (μ : kbM) : Option (Int32 × kbM) :=
  kbIf (kbIn a1 10) <|
  (f_MD_heardAt n a2 (μ.1 70 a1.toNatClampNeg) μ).bind fun x1 =>
  (f_MD_nearestTo n x1 μ).bind fun x2 =>
  if x2.1 = a1 then
    jn_MD_isTold_24 n 1 x2.2
  else
    jn_MD_isTold_24 n 0 x2.2
theorem sp_MD_isTold {l : Launch} (n : Nat) (a1 : Int32) (a2 : Int32) (μ : kbM)  {x : Int32 × kbM} (h : f_MD_isTold n a1 a2 μ = some x) : kbS l MX12_isTold 5 [.ref 57, .int a1, .int a2] μ (kbQe (some (.int x.1)) x.2) := by
  refine kb_enter 0 rfl rfl ?_
  suffices H : ∀ (Q : kbQt) (P : Int32 × kbM → Prop), (∀ z : Int32 × kbM, P z → Q (some (.int z.1)) z.2) → kbG (f_MD_isTold n a1 a2 μ) P → kbR l MX12_isTold 5 Q 0 [some (.ref 57), some (.int a1), some (.int a2)] [] μ from H _ (fun z => z = x) (fun z e => by subst e; exact ⟨rfl, rfl⟩) ⟨x, h, rfl⟩
  clear h
  intro Q P hr h
  unfold f_MD_isTold at h
  refine r_aload_n dX12_isTold_0 rfl ?_
  refine r_aload_n dX12_isTold_1 rfl ?_
  refine r_iload_n dX12_isTold_2 rfl ?_
  refine r_aload_n dX12_isTold_3 rfl ?_
  refine r_getR flX12_79 sh57 rfl dX12_isTold_4 ?_
  refine r_iload_n dX12_isTold_7 rfl ?_
  obtain ⟨hin, h⟩ := kbG_if h
  replace hin := kbIn_of hin
  refine q_iald a1.toNatClampNeg rfl sh70 hin dX12_isTold_8 ?_
  obtain ⟨x1, hx0, h⟩ := kbG_bind h
  refine r_invV_i cvX12_328 sh57 rfl (sp_MD_heardAt n a2 (μ.1 70 a1.toNatClampNeg) μ hx0) rfl rfl (Nat.le_of_ble_eq_true rfl) (Nat.le_of_ble_eq_true rfl) dX12_isTold_9 ?_
  obtain ⟨x2, hx0, h⟩ := kbG_bind h
  refine r_invV_i cvX12_379 sh57 rfl (sp_MD_nearestTo n x1 μ hx0) rfl rfl (Nat.le_of_ble_eq_true rfl) (Nat.le_of_ble_eq_true rfl) dX12_isTold_12 ?_
  refine r_iload_n dX12_isTold_15 rfl ?_
  refine r_icmp_ne 23 dX12_isTold_16 (by decide) (fun hc => ?_) (fun hc => ?_)
  · replace h := kbG_f hc h
    refine r_iconst 0 dX12_isTold_23 (by decide) ?_
    refine r_le [none, none, none] trivial ?_
    exact jnR_MD_isTold_24 n 0 x2.2 (hr := hr) h
  · replace h := kbG_t hc h
    refine r_iconst 1 dX12_isTold_19 (by decide) ?_
    refine r_goto 24 dX12_isTold_20 (by decide) ?_
    refine r_le [none, none, none] trivial ?_
    exact jnR_MD_isTold_24 n 1 x2.2 (hr := hr) h
def jn_MD_telegraph_21 (n : Nat) (μ : kbM) : Option (Int32 × kbM) :=
  (f_MD_fail 1 μ).bind fun x2 =>
  some ((x2.1, x2.2))
theorem jnR_MD_telegraph_21 {l : Launch} (n : Nat)    (μ : kbM) {Q : kbQt} {P : Int32 × kbM → Prop} (hr : ∀ z : Int32 × kbM, P z → Q (some (.int z.1)) z.2) (h : kbG (jn_MD_telegraph_21 n μ) P) : kbR l MX12_telegraph 6 Q 21 [some (.ref 57), none, none, none, none] [] μ := by
  unfold jn_MD_telegraph_21 at h
  refine r_aload_n dX12_telegraph_21 rfl ?_
  refine r_iconst 1 dX12_telegraph_22 (by decide) ?_
  obtain ⟨x2, hx0, h⟩ := kbG_bind h
  refine r_invV_i cvX12_292 sh57 rfl (sp_MD_fail 1 μ hx0) rfl rfl (Nat.le_of_ble_eq_true rfl) (Nat.le_of_ble_eq_true rfl) dX12_telegraph_23 ?_
  exact r_iret rfl dX12_telegraph_26 (hr ((x2.1, x2.2)) (kbG_some h))
def jn_MD_telegraph_79 (n : Nat) (rec : Int32 → Int32 → kbM → Option (Int32 × kbM)) (v1 : Int32) (v2 : Int32) (v4 : Int32) (w0 : Int32) (w1 : Int32) (μ : kbM) : Option (Int32 × kbM) :=
  rec (w0 ||| w1) (v4 + 1) μ
theorem jnR_MD_telegraph_79 {l : Launch} (n : Nat)   (v1 : Int32) (v2 : Int32) (v4 : Int32) (w0 : Int32) (w1 : Int32) (μ : kbM) {Q : kbQt} {P : Int32 × kbM → Prop} (hx : ∀ z : Int32 × kbM, P (z) → kbR l MX12_telegraph 6 Q 87 [none, none, none, some (.int z.1), none] [] z.2) {rec : Int32 → Int32 → kbM → Option (Int32 × kbM)} (hrec : ∀ (v3 : Int32) (v4 : Int32) (μ : kbM), kbG (rec v3 v4 μ) P → kbR l MX12_telegraph 6 Q 32 [some (.ref 57), some (.int v1), some (.int v2), some (.int v3), some (.int v4)] [] μ) (h : kbG (jn_MD_telegraph_79 n rec v1 v2 v4 w0 w1 μ) P) : kbR l MX12_telegraph 6 Q 79 [some (.ref 57), some (.int v1), some (.int v2), none, some (.int v4)] [.int w1, .int w0] μ := by
  unfold jn_MD_telegraph_79 at h
  refine r_ior dX12_telegraph_79 ?_
  refine r_istore_n dX12_telegraph_80 (Nat.le_of_ble_eq_true rfl) rfl ?_
  refine r_iinc 1 dX12_telegraph_81 rfl (by decide) (Nat.le_of_ble_eq_true rfl) rfl ?_
  refine r_goto 32 dX12_telegraph_84 (by decide) ?_
  refine r_le [some (.ref 57), some (.int v1), some (.int v2), some (.int (w0 ||| w1)), some (.int (v4 + 1))] ⟨rfl, ⟨rfl, ⟨rfl, ⟨rfl, ⟨rfl, trivial⟩⟩⟩⟩⟩ ?_
  exact hrec (w0 ||| w1) (v4 + 1) μ h
def jn_MD_telegraph_78 (n : Nat) (rec : Int32 → Int32 → kbM → Option (Int32 × kbM)) (v1 : Int32) (v2 : Int32) (v4 : Int32) (w0 : Int32) (μ : kbM) : Option (Int32 × kbM) :=
  jn_MD_telegraph_79 n rec v1 v2 v4 w0 0 μ
theorem jnR_MD_telegraph_78 {l : Launch} (n : Nat)   (v1 : Int32) (v2 : Int32) (v4 : Int32) (w0 : Int32) (μ : kbM) {Q : kbQt} {P : Int32 × kbM → Prop} (hx : ∀ z : Int32 × kbM, P (z) → kbR l MX12_telegraph 6 Q 87 [none, none, none, some (.int z.1), none] [] z.2) {rec : Int32 → Int32 → kbM → Option (Int32 × kbM)} (hrec : ∀ (v3 : Int32) (v4 : Int32) (μ : kbM), kbG (rec v3 v4 μ) P → kbR l MX12_telegraph 6 Q 32 [some (.ref 57), some (.int v1), some (.int v2), some (.int v3), some (.int v4)] [] μ) (h : kbG (jn_MD_telegraph_78 n rec v1 v2 v4 w0 μ) P) : kbR l MX12_telegraph 6 Q 78 [some (.ref 57), some (.int v1), some (.int v2), none, some (.int v4)] [.int w0] μ := by
  unfold jn_MD_telegraph_78 at h
  refine r_iconst 0 dX12_telegraph_78 (by decide) ?_
  refine r_le [some (.ref 57), some (.int v1), some (.int v2), none, some (.int v4)] ⟨rfl, ⟨rfl, ⟨rfl, ⟨rfl, trivial⟩⟩⟩⟩ ?_
  exact jnR_MD_telegraph_79 n v1 v2 v4 w0 0 μ (hx := hx) (hrec := hrec) h
def lp_MD_telegraph_32 (n : Nat) (v1 : Int32) (v2 : Int32) : Nat → Int32 → Int32 → kbM → Option (Int32 × kbM)
  | 0, _, _, _ => none
  | k + 1, v3, v4, μ =>
    if (μ.1 57 27) ≤ v4 then
      some ((v3, μ))
    else
      kbIf (kbIn v1 12) <|
      kbIf (kbIn v4 10) <|
      (f_MD_can n (μ.1 66 v1.toNatClampNeg) (μ.1 70 v4.toNatClampNeg)).bind fun x4 =>
      if x4 = 0 then
        jn_MD_telegraph_78 n (lp_MD_telegraph_32 n v1 v2 k) v1 v2 v4 v3 μ
      else
        (f_MD_isTold n v4 v2 μ).bind fun x5 =>
        if x5.1 = 0 then
          jn_MD_telegraph_78 n (lp_MD_telegraph_32 n v1 v2 k) v1 v2 v4 v3 x5.2
        else
          jn_MD_telegraph_79 n (lp_MD_telegraph_32 n v1 v2 k) v1 v2 v4 v3 (kbShl 1 v4) x5.2
theorem lpR_MD_telegraph_32 {l : Launch} (n : Nat) (v1 : Int32) (v2 : Int32)  {Q : kbQt} {P : Int32 × kbM → Prop} (hx : ∀ z : Int32 × kbM, P (z) → kbR l MX12_telegraph 6 Q 87 [none, none, none, some (.int z.1), none] [] z.2) : ∀ (k : Nat) (v3 : Int32) (v4 : Int32) (μ : kbM), kbG (lp_MD_telegraph_32 n v1 v2 k v3 v4 μ) P → kbR l MX12_telegraph 6 Q 32 [some (.ref 57), some (.int v1), some (.int v2), some (.int v3), some (.int v4)] [] μ := by
  intro k
  induction k with
  | zero => intro v3 v4 μ h; exact absurd h kbG_none
  | succ k ih =>
    intro v3 v4 μ h
    unfold lp_MD_telegraph_32 at h
    refine r_iload dX12_telegraph_32 rfl ?_
    refine r_aload_n dX12_telegraph_34 rfl ?_
    refine r_getI flX12_162 sh57 rfl dX12_telegraph_35 ?_
    refine r_icmp_ge 87 dX12_telegraph_38 (by decide) (fun hc => ?_) (fun hc => ?_)
    · replace h := kbG_t hc h
      refine r_le [none, none, none, some (.int v3), none] ⟨rfl, trivial⟩ ?_
      exact hx ((v3, μ)) (kbG_some h)
    · replace h := kbG_f hc h
      refine r_iload_n dX12_telegraph_41 rfl ?_
      refine r_aload_n dX12_telegraph_42 rfl ?_
      refine r_getR flX12_63 sh57 rfl dX12_telegraph_43 ?_
      refine r_iload_n dX12_telegraph_46 rfl ?_
      obtain ⟨hin, h⟩ := kbG_if h
      replace hin := kbIn_of hin
      refine q_iald v1.toNatClampNeg rfl sh66 hin dX12_telegraph_47 ?_
      refine r_aload_n dX12_telegraph_48 rfl ?_
      refine r_getR flX12_79 sh57 rfl dX12_telegraph_49 ?_
      refine r_iload dX12_telegraph_52 rfl ?_
      obtain ⟨hin, h⟩ := kbG_if h
      replace hin := kbIn_of hin
      refine q_iald v4.toNatClampNeg rfl sh70 hin dX12_telegraph_54 ?_
      obtain ⟨x4, hx0, h⟩ := kbG_bind h
      refine r_inv_i csX12_325 (sp_MD_can n (μ.1 66 v1.toNatClampNeg) (μ.1 70 v4.toNatClampNeg) μ hx0) rfl rfl (Nat.le_of_ble_eq_true rfl) (Nat.le_of_ble_eq_true rfl) dX12_telegraph_55 ?_
      refine r_if_eq 78 dX12_telegraph_58 (by decide) (fun hc => ?_) (fun hc => ?_)
      · replace h := kbG_t hc h
        refine r_le [some (.ref 57), some (.int v1), some (.int v2), none, some (.int v4)] ⟨rfl, ⟨rfl, ⟨rfl, ⟨rfl, trivial⟩⟩⟩⟩ ?_
        exact jnR_MD_telegraph_78 n v1 v2 v4 v3 μ (hx := hx) (hrec := ih) h
      · replace h := kbG_f hc h
        refine r_aload_n dX12_telegraph_61 rfl ?_
        refine r_iload dX12_telegraph_62 rfl ?_
        refine r_iload_n dX12_telegraph_64 rfl ?_
        obtain ⟨x5, hx0, h⟩ := kbG_bind h
        refine r_invV_i cvX12_447 sh57 rfl (sp_MD_isTold n v4 v2 μ hx0) rfl rfl (Nat.le_of_ble_eq_true rfl) (Nat.le_of_ble_eq_true rfl) dX12_telegraph_65 ?_
        refine r_if_eq 78 dX12_telegraph_68 (by decide) (fun hc => ?_) (fun hc => ?_)
        · replace h := kbG_t hc h
          refine r_le [some (.ref 57), some (.int v1), some (.int v2), none, some (.int v4)] ⟨rfl, ⟨rfl, ⟨rfl, ⟨rfl, trivial⟩⟩⟩⟩ ?_
          exact jnR_MD_telegraph_78 n v1 v2 v4 v3 x5.2 (hx := hx) (hrec := ih) h
        · replace h := kbG_f hc h
          refine r_iconst 1 dX12_telegraph_71 (by decide) ?_
          refine r_iload dX12_telegraph_72 rfl ?_
          refine r_shl dX12_telegraph_74 ?_
          refine r_goto 79 dX12_telegraph_75 (by decide) ?_
          refine r_le [some (.ref 57), some (.int v1), some (.int v2), none, some (.int v4)] ⟨rfl, ⟨rfl, ⟨rfl, ⟨rfl, trivial⟩⟩⟩⟩ ?_
          exact jnR_MD_telegraph_79 n v1 v2 v4 v3 (kbShl 1 v4) x5.2 (hx := hx) (hrec := ih) h
def f_MD_telegraph (n : Nat) (a1 : Int32) (a2 : Int32) (μ : kbM) : Option (Int32 × kbM) :=
  (f_MD_isDoor a1 (kbW μ 57 3 0)).bind fun x1 =>
  if x1 = 0 then
    jn_MD_telegraph_21 n (kbW μ 57 3 0)
  else
    (f_MD_isDoor a2 (kbW μ 57 3 0)).bind fun x3 =>
    if x3 = 0 then
      jn_MD_telegraph_21 n (kbW μ 57 3 0)
    else
      (lp_MD_telegraph_32 n a1 a2 n 0 0 (kbW μ 57 3 0)).bind fun x6 =>
      some ((x6.1, x6.2))
theorem sp_MD_telegraph {l : Launch} (n : Nat) (a1 : Int32) (a2 : Int32) (μ : kbM)  {x : Int32 × kbM} (h : f_MD_telegraph n a1 a2 μ = some x) : kbS l MX12_telegraph 6 [.ref 57, .int a1, .int a2] μ (kbQe (some (.int x.1)) x.2) := by
  refine kb_enter 2 rfl rfl ?_
  suffices H : ∀ (Q : kbQt) (P : Int32 × kbM → Prop), (∀ z : Int32 × kbM, P z → Q (some (.int z.1)) z.2) → kbG (f_MD_telegraph n a1 a2 μ) P → kbR l MX12_telegraph 6 Q 0 [some (.ref 57), some (.int a1), some (.int a2), none, none] [] μ from H _ (fun z => z = x) (fun z e => by subst e; exact ⟨rfl, rfl⟩) ⟨x, h, rfl⟩
  clear h
  intro Q P hr h
  unfold f_MD_telegraph at h
  refine r_aload_n dX12_telegraph_0 rfl ?_
  refine r_iconst 0 dX12_telegraph_1 (by decide) ?_
  refine r_put flX12_159 sh57 rfl rfl rfl dX12_telegraph_2 ?_
  refine r_aload_n dX12_telegraph_5 rfl ?_
  refine r_iload_n dX12_telegraph_6 rfl ?_
  obtain ⟨x1, hx0, h⟩ := kbG_bind h
  refine r_invV_i cvX12_336 sh57 rfl (sp_MD_isDoor a1 (kbW μ 57 3 0) hx0) rfl rfl (Nat.le_of_ble_eq_true rfl) (Nat.le_of_ble_eq_true rfl) dX12_telegraph_7 ?_
  refine r_if_eq 21 dX12_telegraph_10 (by decide) (fun hc => ?_) (fun hc => ?_)
  · replace h := kbG_t hc h
    refine r_le [some (.ref 57), none, none, none, none] ⟨rfl, trivial⟩ ?_
    exact jnR_MD_telegraph_21 n  (kbW μ 57 3 0) (hr := hr) h
  · replace h := kbG_f hc h
    refine r_aload_n dX12_telegraph_13 rfl ?_
    refine r_iload_n dX12_telegraph_14 rfl ?_
    obtain ⟨x3, hx0, h⟩ := kbG_bind h
    refine r_invV_i cvX12_336 sh57 rfl (sp_MD_isDoor a2 (kbW μ 57 3 0) hx0) rfl rfl (Nat.le_of_ble_eq_true rfl) (Nat.le_of_ble_eq_true rfl) dX12_telegraph_15 ?_
    refine r_if_ne 27 dX12_telegraph_18 (by decide) (fun hc => ?_) (fun hc => ?_)
    · replace h := kbG_f hc h
      refine r_iconst 0 dX12_telegraph_27 (by decide) ?_
      refine r_istore_n dX12_telegraph_28 (Nat.le_of_ble_eq_true rfl) rfl ?_
      refine r_iconst 0 dX12_telegraph_29 (by decide) ?_
      refine r_istore dX12_telegraph_30 (Nat.le_of_ble_eq_true rfl) rfl ?_
      refine r_le [some (.ref 57), some (.int a1), some (.int a2), some (.int 0), some (.int 0)] ⟨rfl, ⟨rfl, ⟨rfl, ⟨rfl, ⟨rfl, trivial⟩⟩⟩⟩⟩ ?_
      obtain ⟨x6, hx0, h⟩ := kbG_bind h
      refine lpR_MD_telegraph_32 n a1 a2 (P := fun z => x6 = z) (hx := fun z e => ?_) n _ _ _ ⟨_, hx0, rfl⟩
      subst e
      refine r_iload_n dX12_telegraph_87 rfl ?_
      exact r_iret rfl dX12_telegraph_88 (hr ((x6.1, x6.2)) (kbG_some h))
    · replace h := kbG_t hc h
      refine r_le [some (.ref 57), none, none, none, none] ⟨rfl, trivial⟩ ?_
      exact jnR_MD_telegraph_21 n  (kbW μ 57 3 0) (hr := hr) h
def jn_MD_gain_22 (w0 : Int32) (w1 : Int32) (μ : kbM) : Option (Int32) :=
  some (w0 - w1)
theorem jnR_MD_gain_22 {l : Launch}   (w0 : Int32) (w1 : Int32) (μ : kbM) {Q : kbQt} {P : Int32 → Prop} (hr : ∀ z : Int32, P z → Q (some (.int z)) μ) (h : kbG (jn_MD_gain_22 w0 w1 μ) P) : kbR l MX12_gain 1 Q 22 [none, none, none, none] [.int w1, .int w0] μ := by
  unfold jn_MD_gain_22 at h
  refine r_isub dX12_gain_22 ?_
  exact r_iret rfl dX12_gain_23 (hr (w0 - w1) (kbG_some h))
def f_MD_gain (a1 : Int32) (a2 : Int32) (a3 : Int32) (μ : kbM) : Option (Int32) :=
  kbIf (kbIn ((10 * a1) + a2) 20) <|
  if a2 = a3 then
    jn_MD_gain_22 (μ.1 91 (((10 * a1) + a2).toNatClampNeg)) 20 μ
  else
    jn_MD_gain_22 (μ.1 91 (((10 * a1) + a2).toNatClampNeg)) 0 μ
theorem sp_MD_gain {l : Launch} (a1 : Int32) (a2 : Int32) (a3 : Int32) (μ : kbM)  {x : Int32} (h : f_MD_gain a1 a2 a3 μ = some x) : kbS l MX12_gain 1 [.ref 57, .int a1, .int a2, .int a3] μ (kbQe (some (.int x)) μ) := by
  refine kb_enter 0 rfl rfl ?_
  suffices H : ∀ (Q : kbQt) (P : Int32 → Prop), (∀ z : Int32, P z → Q (some (.int z)) μ) → kbG (f_MD_gain a1 a2 a3 μ) P → kbR l MX12_gain 1 Q 0 [some (.ref 57), some (.int a1), some (.int a2), some (.int a3)] [] μ from H _ (fun z => z = x) (fun z e => by subst e; exact ⟨rfl, rfl⟩) ⟨x, h, rfl⟩
  clear h
  intro Q P hr h
  unfold f_MD_gain at h
  refine r_aload_n dX12_gain_0 rfl ?_
  refine r_getR flX12_141 sh57 rfl dX12_gain_1 ?_
  refine r_bipush 10 dX12_gain_4 (by decide) ?_
  refine r_iload_n dX12_gain_6 rfl ?_
  refine r_imul dX12_gain_7 ?_
  refine r_iload_n dX12_gain_8 rfl ?_
  refine r_iadd dX12_gain_9 ?_
  obtain ⟨hin, h⟩ := kbG_if h
  replace hin := kbIn_of hin
  refine q_iald (((10 * a1) + a2).toNatClampNeg) rfl sh91 hin dX12_gain_10 ?_
  refine r_iload_n dX12_gain_11 rfl ?_
  refine r_iload_n dX12_gain_12 rfl ?_
  refine r_icmp_ne 21 dX12_gain_13 (by decide) (fun hc => ?_) (fun hc => ?_)
  · replace h := kbG_f hc h
    refine r_iconst 0 dX12_gain_21 (by decide) ?_
    refine r_le [none, none, none, none] trivial ?_
    exact jnR_MD_gain_22 (μ.1 91 (((10 * a1) + a2).toNatClampNeg)) 0 μ (hr := hr) h
  · replace h := kbG_t hc h
    refine r_bipush 20 dX12_gain_16 (by decide) ?_
    refine r_goto 22 dX12_gain_18 (by decide) ?_
    refine r_le [none, none, none, none] trivial ?_
    exact jnR_MD_gain_22 (μ.1 91 (((10 * a1) + a2).toNatClampNeg)) 20 μ (hr := hr) h
def jn_MD_game_30 (n : Nat) (μ : kbM) : Option (Int32 × kbM) :=
  (f_MD_fail 1 μ).bind fun x2 =>
  some ((x2.1, x2.2))
theorem jnR_MD_game_30 {l : Launch} (n : Nat)    (μ : kbM) {Q : kbQt} {P : Int32 × kbM → Prop} (hr : ∀ z : Int32 × kbM, P z → Q (some (.int z.1)) z.2) (h : kbG (jn_MD_game_30 n μ) P) : kbR l MX12_game 6 Q 30 [some (.ref 57), none, none, none, none, none, none, none, none, none, none, none] [] μ := by
  unfold jn_MD_game_30 at h
  refine r_aload_n dX12_game_30 rfl ?_
  refine r_iconst 1 dX12_game_31 (by decide) ?_
  obtain ⟨x2, hx0, h⟩ := kbG_bind h
  refine r_invV_i cvX12_292 sh57 rfl (sp_MD_fail 1 μ hx0) rfl rfl (Nat.le_of_ble_eq_true rfl) (Nat.le_of_ble_eq_true rfl) dX12_game_32 ?_
  exact r_iret rfl dX12_game_35 (hr ((x2.1, x2.2)) (kbG_some h))
def jn_MD_game_131 (n : Nat) (rec : Int32 → kbM → Option (kbM)) (v1 : Int32) (v2 : Int32) (v3 : Int32) (v4 : Int32) (v5 : Int32) (v6 : Int32) (w1 : Int32) (w2 : Int32) (μ : kbM) : Option (kbM) :=
  kbIf (kbIn w1 20) <|
  rec (v6 + 1) (kbW μ 91 w1.toNatClampNeg w2)
theorem jnR_MD_game_131 {l : Launch} (n : Nat)   (v1 : Int32) (v2 : Int32) (v3 : Int32) (v4 : Int32) (v5 : Int32) (v6 : Int32) (w1 : Int32) (w2 : Int32) (μ : kbM) {Q : kbQt} {P : kbM → Prop} (hx : ∀ z : kbM, P (z) → kbR l MX12_game 6 Q 138 [some (.ref 57), none, none, some (.int v3), some (.int v4), some (.int v5), none, none, none, none, none, none] [] z) {rec : Int32 → kbM → Option (kbM)} (hrec : ∀ (v6 : Int32) (μ : kbM), kbG (rec v6 μ) P → kbR l MX12_game 6 Q 64 [some (.ref 57), some (.int v1), some (.int v2), some (.int v3), some (.int v4), some (.int v5), some (.int v6), none, none, none, none, none] [] μ) (h : kbG (jn_MD_game_131 n rec v1 v2 v3 v4 v5 v6 w1 w2 μ) P) : kbR l MX12_game 6 Q 131 [some (.ref 57), some (.int v1), some (.int v2), some (.int v3), some (.int v4), some (.int v5), some (.int v6), none, none, none, none, none] [.int w2, .int w1, .ref 91] μ := by
  unfold jn_MD_game_131 at h
  obtain ⟨hin, h⟩ := kbG_if h
  replace hin := kbIn_of hin
  refine q_iast w1.toNatClampNeg rfl sh91 hin dX12_game_131 ?_
  refine r_iinc 1 dX12_game_132 rfl (by decide) (Nat.le_of_ble_eq_true rfl) rfl ?_
  refine r_goto 64 dX12_game_135 (by decide) ?_
  refine r_le [some (.ref 57), some (.int v1), some (.int v2), some (.int v3), some (.int v4), some (.int v5), some (.int (v6 + 1)), none, none, none, none, none] ⟨rfl, ⟨rfl, ⟨rfl, ⟨rfl, ⟨rfl, ⟨rfl, ⟨rfl, trivial⟩⟩⟩⟩⟩⟩⟩ ?_
  exact hrec (v6 + 1) (kbW μ 91 w1.toNatClampNeg w2) h
def jn_MD_game_100 (n : Nat) (rec : Int32 → kbM → Option (kbM)) (v1 : Int32) (v2 : Int32) (v3 : Int32) (v4 : Int32) (v5 : Int32) (v6 : Int32) (w1 : Int32) (w2 : Int32) (μ : kbM) : Option (kbM) :=
  kbIf (kbIn w1 20) <|
  (f_MD_isTold n v6 v1 (kbW μ 91 w1.toNatClampNeg w2)).bind fun x7 =>
  if x7.1 = 0 then
    jn_MD_game_131 n rec v1 v2 v3 v4 v5 v6 (10 + v6) 0 x7.2
  else
    kbIf (kbIn v6 10) <|
    jn_MD_game_131 n rec v1 v2 v3 v4 v5 v6 (10 + v6) (x7.2.1 72 v6.toNatClampNeg) x7.2
theorem jnR_MD_game_100 {l : Launch} (n : Nat)   (v1 : Int32) (v2 : Int32) (v3 : Int32) (v4 : Int32) (v5 : Int32) (v6 : Int32) (w1 : Int32) (w2 : Int32) (μ : kbM) {Q : kbQt} {P : kbM → Prop} (hx : ∀ z : kbM, P (z) → kbR l MX12_game 6 Q 138 [some (.ref 57), none, none, some (.int v3), some (.int v4), some (.int v5), none, none, none, none, none, none] [] z) {rec : Int32 → kbM → Option (kbM)} (hrec : ∀ (v6 : Int32) (μ : kbM), kbG (rec v6 μ) P → kbR l MX12_game 6 Q 64 [some (.ref 57), some (.int v1), some (.int v2), some (.int v3), some (.int v4), some (.int v5), some (.int v6), none, none, none, none, none] [] μ) (h : kbG (jn_MD_game_100 n rec v1 v2 v3 v4 v5 v6 w1 w2 μ) P) : kbR l MX12_game 6 Q 100 [some (.ref 57), some (.int v1), some (.int v2), some (.int v3), some (.int v4), some (.int v5), some (.int v6), none, none, none, none, none] [.int w2, .int w1, .ref 91] μ := by
  unfold jn_MD_game_100 at h
  obtain ⟨hin, h⟩ := kbG_if h
  replace hin := kbIn_of hin
  refine q_iast w1.toNatClampNeg rfl sh91 hin dX12_game_100 ?_
  refine r_aload_n dX12_game_101 rfl ?_
  refine r_getR flX12_141 sh57 rfl dX12_game_102 ?_
  refine r_bipush 10 dX12_game_105 (by decide) ?_
  refine r_iload dX12_game_107 rfl ?_
  refine r_iadd dX12_game_109 ?_
  refine r_aload_n dX12_game_110 rfl ?_
  refine r_iload dX12_game_111 rfl ?_
  refine r_iload_n dX12_game_113 rfl ?_
  obtain ⟨x7, hx0, h⟩ := kbG_bind h
  refine r_invV_i cvX12_447 sh57 rfl (sp_MD_isTold n v6 v1 (kbW μ 91 w1.toNatClampNeg w2) hx0) rfl rfl (Nat.le_of_ble_eq_true rfl) (Nat.le_of_ble_eq_true rfl) dX12_game_114 ?_
  refine r_if_eq 130 dX12_game_117 (by decide) (fun hc => ?_) (fun hc => ?_)
  · replace h := kbG_t hc h
    refine r_iconst 0 dX12_game_130 (by decide) ?_
    refine r_le [some (.ref 57), some (.int v1), some (.int v2), some (.int v3), some (.int v4), some (.int v5), some (.int v6), none, none, none, none, none] ⟨rfl, ⟨rfl, ⟨rfl, ⟨rfl, ⟨rfl, ⟨rfl, ⟨rfl, trivial⟩⟩⟩⟩⟩⟩⟩ ?_
    exact jnR_MD_game_131 n v1 v2 v3 v4 v5 v6 (10 + v6) 0 x7.2 (hx := hx) (hrec := hrec) h
  · replace h := kbG_f hc h
    refine r_aload_n dX12_game_120 rfl ?_
    refine r_getR flX12_85 sh57 rfl dX12_game_121 ?_
    refine r_iload dX12_game_124 rfl ?_
    obtain ⟨hin, h⟩ := kbG_if h
    replace hin := kbIn_of hin
    refine q_iald v6.toNatClampNeg rfl sh72 hin dX12_game_126 ?_
    refine r_goto 131 dX12_game_127 (by decide) ?_
    refine r_le [some (.ref 57), some (.int v1), some (.int v2), some (.int v3), some (.int v4), some (.int v5), some (.int v6), none, none, none, none, none] ⟨rfl, ⟨rfl, ⟨rfl, ⟨rfl, ⟨rfl, ⟨rfl, ⟨rfl, trivial⟩⟩⟩⟩⟩⟩⟩ ?_
    exact jnR_MD_game_131 n v1 v2 v3 v4 v5 v6 (10 + v6) (x7.2.1 72 v6.toNatClampNeg) x7.2 (hx := hx) (hrec := hrec) h
def lp_MD_game_64 (n : Nat) (v1 : Int32) (v2 : Int32) (v3 : Int32) (v4 : Int32) (v5 : Int32) : Nat → Int32 → kbM → Option (kbM)
  | 0, _, _ => none
  | k + 1, v6, μ =>
    if (μ.1 57 27) ≤ v6 then
      some μ
    else
      (f_MD_isTold n v6 v2 μ).bind fun x6 =>
      if x6.1 = 0 then
        jn_MD_game_100 n (lp_MD_game_64 n v1 v2 v3 v4 v5 k) v1 v2 v3 v4 v5 v6 v6 0 x6.2
      else
        kbIf (kbIn v6 10) <|
        jn_MD_game_100 n (lp_MD_game_64 n v1 v2 v3 v4 v5 k) v1 v2 v3 v4 v5 v6 v6 (x6.2.1 72 v6.toNatClampNeg) x6.2
theorem lpR_MD_game_64 {l : Launch} (n : Nat) (v1 : Int32) (v2 : Int32) (v3 : Int32) (v4 : Int32) (v5 : Int32)  {Q : kbQt} {P : kbM → Prop} (hx : ∀ z : kbM, P (z) → kbR l MX12_game 6 Q 138 [some (.ref 57), none, none, some (.int v3), some (.int v4), some (.int v5), none, none, none, none, none, none] [] z) : ∀ (k : Nat) (v6 : Int32) (μ : kbM), kbG (lp_MD_game_64 n v1 v2 v3 v4 v5 k v6 μ) P → kbR l MX12_game 6 Q 64 [some (.ref 57), some (.int v1), some (.int v2), some (.int v3), some (.int v4), some (.int v5), some (.int v6), none, none, none, none, none] [] μ := by
  intro k
  induction k with
  | zero => intro v6 μ h; exact absurd h kbG_none
  | succ k ih =>
    intro v6 μ h
    unfold lp_MD_game_64 at h
    refine r_iload dX12_game_64 rfl ?_
    refine r_aload_n dX12_game_66 rfl ?_
    refine r_getI flX12_162 sh57 rfl dX12_game_67 ?_
    refine r_icmp_ge 138 dX12_game_70 (by decide) (fun hc => ?_) (fun hc => ?_)
    · replace h := kbG_t hc h
      refine r_le [some (.ref 57), none, none, some (.int v3), some (.int v4), some (.int v5), none, none, none, none, none, none] ⟨rfl, ⟨rfl, ⟨rfl, ⟨rfl, trivial⟩⟩⟩⟩ ?_
      exact hx μ (kbG_some h)
    · replace h := kbG_f hc h
      refine r_aload_n dX12_game_73 rfl ?_
      refine r_getR flX12_141 sh57 rfl dX12_game_74 ?_
      refine r_iload dX12_game_77 rfl ?_
      refine r_aload_n dX12_game_79 rfl ?_
      refine r_iload dX12_game_80 rfl ?_
      refine r_iload_n dX12_game_82 rfl ?_
      obtain ⟨x6, hx0, h⟩ := kbG_bind h
      refine r_invV_i cvX12_447 sh57 rfl (sp_MD_isTold n v6 v2 μ hx0) rfl rfl (Nat.le_of_ble_eq_true rfl) (Nat.le_of_ble_eq_true rfl) dX12_game_83 ?_
      refine r_if_eq 99 dX12_game_86 (by decide) (fun hc => ?_) (fun hc => ?_)
      · replace h := kbG_t hc h
        refine r_iconst 0 dX12_game_99 (by decide) ?_
        refine r_le [some (.ref 57), some (.int v1), some (.int v2), some (.int v3), some (.int v4), some (.int v5), some (.int v6), none, none, none, none, none] ⟨rfl, ⟨rfl, ⟨rfl, ⟨rfl, ⟨rfl, ⟨rfl, ⟨rfl, trivial⟩⟩⟩⟩⟩⟩⟩ ?_
        exact jnR_MD_game_100 n v1 v2 v3 v4 v5 v6 v6 0 x6.2 (hx := hx) (hrec := ih) h
      · replace h := kbG_f hc h
        refine r_aload_n dX12_game_89 rfl ?_
        refine r_getR flX12_85 sh57 rfl dX12_game_90 ?_
        refine r_iload dX12_game_93 rfl ?_
        obtain ⟨hin, h⟩ := kbG_if h
        replace hin := kbIn_of hin
        refine q_iald v6.toNatClampNeg rfl sh72 hin dX12_game_95 ?_
        refine r_goto 100 dX12_game_96 (by decide) ?_
        refine r_le [some (.ref 57), some (.int v1), some (.int v2), some (.int v3), some (.int v4), some (.int v5), some (.int v6), none, none, none, none, none] ⟨rfl, ⟨rfl, ⟨rfl, ⟨rfl, ⟨rfl, ⟨rfl, ⟨rfl, trivial⟩⟩⟩⟩⟩⟩⟩ ?_
        exact jnR_MD_game_100 n v1 v2 v3 v4 v5 v6 v6 (x6.2.1 72 v6.toNatClampNeg) x6.2 (hx := hx) (hrec := ih) h
def jn_MD_game_279 (n : Nat) (rec : Int32 → Int32 → Option (Int32)) (v3 : Int32) (v4 : Int32) (v5 : Int32) (v6 : Int32) (v7 : Int32) (v8 : Int32) (v9 : Int32) (v11 : Int32) (w0 : Int32) (μ : kbM) : Option (Int32) :=
  rec w0 (v11 + 1)
theorem jnR_MD_game_279 {l : Launch} (n : Nat)   (v3 : Int32) (v4 : Int32) (v5 : Int32) (v6 : Int32) (v7 : Int32) (v8 : Int32) (v9 : Int32) (v11 : Int32) (w0 : Int32) (μ : kbM) {Q : kbQt} {P : Int32 → Prop} (hx : ∀ z : Int32, P (z) → kbR l MX12_game 6 Q 287 [some (.ref 57), none, none, some (.int v3), some (.int v4), some (.int v5), some (.int v6), some (.int v7), some (.int v8), some (.int v9), some (.int z), none] [] μ) {rec : Int32 → Int32 → Option (Int32)} (hrec : ∀ (v10 : Int32) (v11 : Int32), kbG (rec v10 v11) P → kbR l MX12_game 6 Q 198 [some (.ref 57), none, none, some (.int v3), some (.int v4), some (.int v5), some (.int v6), some (.int v7), some (.int v8), some (.int v9), some (.int v10), some (.int v11)] [] μ) (h : kbG (jn_MD_game_279 n rec v3 v4 v5 v6 v7 v8 v9 v11 w0 μ) P) : kbR l MX12_game 6 Q 279 [some (.ref 57), none, none, some (.int v3), some (.int v4), some (.int v5), some (.int v6), some (.int v7), some (.int v8), some (.int v9), none, some (.int v11)] [.int w0] μ := by
  unfold jn_MD_game_279 at h
  refine r_istore dX12_game_279 (Nat.le_of_ble_eq_true rfl) rfl ?_
  refine r_iinc 1 dX12_game_281 rfl (by decide) (Nat.le_of_ble_eq_true rfl) rfl ?_
  refine r_goto 198 dX12_game_284 (by decide) ?_
  refine r_le [some (.ref 57), none, none, some (.int v3), some (.int v4), some (.int v5), some (.int v6), some (.int v7), some (.int v8), some (.int v9), some (.int w0), some (.int (v11 + 1))] ⟨rfl, ⟨rfl, ⟨rfl, ⟨rfl, ⟨rfl, ⟨rfl, ⟨rfl, ⟨rfl, ⟨rfl, ⟨rfl, trivial⟩⟩⟩⟩⟩⟩⟩⟩⟩⟩ ?_
  exact hrec w0 (v11 + 1) h
def jn_MD_game_274 (n : Nat) (rec : Int32 → Int32 → Option (Int32)) (v3 : Int32) (v4 : Int32) (v5 : Int32) (v6 : Int32) (v7 : Int32) (v8 : Int32) (v9 : Int32) (v11 : Int32) (μ : kbM) : Option (Int32) :=
  jn_MD_game_279 n rec v3 v4 v5 v6 v7 v8 v9 v11 1 μ
theorem jnR_MD_game_274 {l : Launch} (n : Nat)   (v3 : Int32) (v4 : Int32) (v5 : Int32) (v6 : Int32) (v7 : Int32) (v8 : Int32) (v9 : Int32) (v11 : Int32) (μ : kbM) {Q : kbQt} {P : Int32 → Prop} (hx : ∀ z : Int32, P (z) → kbR l MX12_game 6 Q 287 [some (.ref 57), none, none, some (.int v3), some (.int v4), some (.int v5), some (.int v6), some (.int v7), some (.int v8), some (.int v9), some (.int z), none] [] μ) {rec : Int32 → Int32 → Option (Int32)} (hrec : ∀ (v10 : Int32) (v11 : Int32), kbG (rec v10 v11) P → kbR l MX12_game 6 Q 198 [some (.ref 57), none, none, some (.int v3), some (.int v4), some (.int v5), some (.int v6), some (.int v7), some (.int v8), some (.int v9), some (.int v10), some (.int v11)] [] μ) (h : kbG (jn_MD_game_274 n rec v3 v4 v5 v6 v7 v8 v9 v11 μ) P) : kbR l MX12_game 6 Q 274 [some (.ref 57), none, none, some (.int v3), some (.int v4), some (.int v5), some (.int v6), some (.int v7), some (.int v8), some (.int v9), none, some (.int v11)] [] μ := by
  unfold jn_MD_game_274 at h
  refine r_iconst 1 dX12_game_274 (by decide) ?_
  refine r_goto 279 dX12_game_275 (by decide) ?_
  refine r_le [some (.ref 57), none, none, some (.int v3), some (.int v4), some (.int v5), some (.int v6), some (.int v7), some (.int v8), some (.int v9), none, some (.int v11)] ⟨rfl, ⟨rfl, ⟨rfl, ⟨rfl, ⟨rfl, ⟨rfl, ⟨rfl, ⟨rfl, ⟨rfl, trivial⟩⟩⟩⟩⟩⟩⟩⟩⟩ ?_
  exact jnR_MD_game_279 n v3 v4 v5 v6 v7 v8 v9 v11 1 μ (hx := hx) (hrec := hrec) h
def jn_MD_game_278 (n : Nat) (rec : Int32 → Int32 → Option (Int32)) (v3 : Int32) (v4 : Int32) (v5 : Int32) (v6 : Int32) (v7 : Int32) (v8 : Int32) (v9 : Int32) (v11 : Int32) (μ : kbM) : Option (Int32) :=
  jn_MD_game_279 n rec v3 v4 v5 v6 v7 v8 v9 v11 0 μ
theorem jnR_MD_game_278 {l : Launch} (n : Nat)   (v3 : Int32) (v4 : Int32) (v5 : Int32) (v6 : Int32) (v7 : Int32) (v8 : Int32) (v9 : Int32) (v11 : Int32) (μ : kbM) {Q : kbQt} {P : Int32 → Prop} (hx : ∀ z : Int32, P (z) → kbR l MX12_game 6 Q 287 [some (.ref 57), none, none, some (.int v3), some (.int v4), some (.int v5), some (.int v6), some (.int v7), some (.int v8), some (.int v9), some (.int z), none] [] μ) {rec : Int32 → Int32 → Option (Int32)} (hrec : ∀ (v10 : Int32) (v11 : Int32), kbG (rec v10 v11) P → kbR l MX12_game 6 Q 198 [some (.ref 57), none, none, some (.int v3), some (.int v4), some (.int v5), some (.int v6), some (.int v7), some (.int v8), some (.int v9), some (.int v10), some (.int v11)] [] μ) (h : kbG (jn_MD_game_278 n rec v3 v4 v5 v6 v7 v8 v9 v11 μ) P) : kbR l MX12_game 6 Q 278 [some (.ref 57), none, none, some (.int v3), some (.int v4), some (.int v5), some (.int v6), some (.int v7), some (.int v8), some (.int v9), none, some (.int v11)] [] μ := by
  unfold jn_MD_game_278 at h
  refine r_iconst 0 dX12_game_278 (by decide) ?_
  refine r_le [some (.ref 57), none, none, some (.int v3), some (.int v4), some (.int v5), some (.int v6), some (.int v7), some (.int v8), some (.int v9), none, some (.int v11)] ⟨rfl, ⟨rfl, ⟨rfl, ⟨rfl, ⟨rfl, ⟨rfl, ⟨rfl, ⟨rfl, ⟨rfl, trivial⟩⟩⟩⟩⟩⟩⟩⟩⟩ ?_
  exact jnR_MD_game_279 n v3 v4 v5 v6 v7 v8 v9 v11 0 μ (hx := hx) (hrec := hrec) h
def jn_MD_game_243 (n : Nat) (rec : Int32 → Int32 → Option (Int32)) (v3 : Int32) (v4 : Int32) (v5 : Int32) (v6 : Int32) (v7 : Int32) (v8 : Int32) (v9 : Int32) (v11 : Int32) (μ : kbM) : Option (Int32) :=
  (f_MD_isOf v5 v11).bind fun x11 =>
  if x11 = 0 then
    jn_MD_game_274 n rec v3 v4 v5 v6 v7 v8 v9 v11 μ
  else
    (f_MD_gain 1 v11 v8 μ).bind fun x12 =>
    (f_MD_gain 1 v9 v8 μ).bind fun x13 =>
    if x13 < x12 then
      jn_MD_game_278 n rec v3 v4 v5 v6 v7 v8 v9 v11 μ
    else
      jn_MD_game_274 n rec v3 v4 v5 v6 v7 v8 v9 v11 μ
theorem jnR_MD_game_243 {l : Launch} (n : Nat)   (v3 : Int32) (v4 : Int32) (v5 : Int32) (v6 : Int32) (v7 : Int32) (v8 : Int32) (v9 : Int32) (v11 : Int32) (μ : kbM) {Q : kbQt} {P : Int32 → Prop} (hx : ∀ z : Int32, P (z) → kbR l MX12_game 6 Q 287 [some (.ref 57), none, none, some (.int v3), some (.int v4), some (.int v5), some (.int v6), some (.int v7), some (.int v8), some (.int v9), some (.int z), none] [] μ) {rec : Int32 → Int32 → Option (Int32)} (hrec : ∀ (v10 : Int32) (v11 : Int32), kbG (rec v10 v11) P → kbR l MX12_game 6 Q 198 [some (.ref 57), none, none, some (.int v3), some (.int v4), some (.int v5), some (.int v6), some (.int v7), some (.int v8), some (.int v9), some (.int v10), some (.int v11)] [] μ) (h : kbG (jn_MD_game_243 n rec v3 v4 v5 v6 v7 v8 v9 v11 μ) P) : kbR l MX12_game 6 Q 243 [some (.ref 57), none, none, some (.int v3), some (.int v4), some (.int v5), some (.int v6), some (.int v7), some (.int v8), some (.int v9), none, some (.int v11)] [] μ := by
  unfold jn_MD_game_243 at h
  refine r_iload dX12_game_243 rfl ?_
  refine r_iload dX12_game_245 rfl ?_
  obtain ⟨x11, hx0, h⟩ := kbG_bind h
  refine r_inv_i csX12_318 (sp_MD_isOf v5 v11 μ hx0) rfl rfl (Nat.le_of_ble_eq_true rfl) (Nat.le_of_ble_eq_true rfl) dX12_game_247 ?_
  refine r_if_eq 274 dX12_game_250 (by decide) (fun hc => ?_) (fun hc => ?_)
  · replace h := kbG_t hc h
    refine r_le [some (.ref 57), none, none, some (.int v3), some (.int v4), some (.int v5), some (.int v6), some (.int v7), some (.int v8), some (.int v9), none, some (.int v11)] ⟨rfl, ⟨rfl, ⟨rfl, ⟨rfl, ⟨rfl, ⟨rfl, ⟨rfl, ⟨rfl, ⟨rfl, trivial⟩⟩⟩⟩⟩⟩⟩⟩⟩ ?_
    exact jnR_MD_game_274 n v3 v4 v5 v6 v7 v8 v9 v11 μ (hx := hx) (hrec := hrec) h
  · replace h := kbG_f hc h
    refine r_aload_n dX12_game_253 rfl ?_
    refine r_iconst 1 dX12_game_254 (by decide) ?_
    refine r_iload dX12_game_255 rfl ?_
    refine r_iload dX12_game_257 rfl ?_
    obtain ⟨x12, hx0, h⟩ := kbG_bind h
    refine r_invV_i cvX12_450 sh57 rfl (sp_MD_gain 1 v11 v8 μ hx0) rfl rfl (Nat.le_of_ble_eq_true rfl) (Nat.le_of_ble_eq_true rfl) dX12_game_259 ?_
    refine r_aload_n dX12_game_262 rfl ?_
    refine r_iconst 1 dX12_game_263 (by decide) ?_
    refine r_iload dX12_game_264 rfl ?_
    refine r_iload dX12_game_266 rfl ?_
    obtain ⟨x13, hx0, h⟩ := kbG_bind h
    refine r_invV_i cvX12_450 sh57 rfl (sp_MD_gain 1 v9 v8 μ hx0) rfl rfl (Nat.le_of_ble_eq_true rfl) (Nat.le_of_ble_eq_true rfl) dX12_game_268 ?_
    refine r_icmp_gt 278 dX12_game_271 (by decide) (fun hc => ?_) (fun hc => ?_)
    · replace h := kbG_t hc h
      refine r_le [some (.ref 57), none, none, some (.int v3), some (.int v4), some (.int v5), some (.int v6), some (.int v7), some (.int v8), some (.int v9), none, some (.int v11)] ⟨rfl, ⟨rfl, ⟨rfl, ⟨rfl, ⟨rfl, ⟨rfl, ⟨rfl, ⟨rfl, ⟨rfl, trivial⟩⟩⟩⟩⟩⟩⟩⟩⟩ ?_
      exact jnR_MD_game_278 n v3 v4 v5 v6 v7 v8 v9 v11 μ (hx := hx) (hrec := hrec) h
    · replace h := kbG_f hc h
      refine r_le [some (.ref 57), none, none, some (.int v3), some (.int v4), some (.int v5), some (.int v6), some (.int v7), some (.int v8), some (.int v9), none, some (.int v11)] ⟨rfl, ⟨rfl, ⟨rfl, ⟨rfl, ⟨rfl, ⟨rfl, ⟨rfl, ⟨rfl, ⟨rfl, trivial⟩⟩⟩⟩⟩⟩⟩⟩⟩ ?_
      exact jnR_MD_game_274 n v3 v4 v5 v6 v7 v8 v9 v11 μ (hx := hx) (hrec := hrec) h
def lp_MD_game_198 (n : Nat) (v3 : Int32) (v4 : Int32) (v5 : Int32) (v6 : Int32) (v7 : Int32) (v8 : Int32) (v9 : Int32) (μ : kbM) : Nat → Int32 → Int32 → Option (Int32)
  | 0, _, _ => none
  | k + 1, v10, v11 =>
    if (μ.1 57 27) ≤ v11 then
      some v10
    else
      if v10 = 0 then
        some v10
      else
        (f_MD_isOf v4 v11).bind fun x10 =>
        if x10 = 0 then
          jn_MD_game_243 n (lp_MD_game_198 n v3 v4 v5 v6 v7 v8 v9 μ k) v3 v4 v5 v6 v7 v8 v9 v11 μ
        else
          (f_MD_gain 0 v11 v9 μ).bind fun x14 =>
          (f_MD_gain 0 v8 v9 μ).bind fun x15 =>
          if x15 < x14 then
            jn_MD_game_278 n (lp_MD_game_198 n v3 v4 v5 v6 v7 v8 v9 μ k) v3 v4 v5 v6 v7 v8 v9 v11 μ
          else
            jn_MD_game_243 n (lp_MD_game_198 n v3 v4 v5 v6 v7 v8 v9 μ k) v3 v4 v5 v6 v7 v8 v9 v11 μ
theorem lpR_MD_game_198 {l : Launch} (n : Nat) (v3 : Int32) (v4 : Int32) (v5 : Int32) (v6 : Int32) (v7 : Int32) (v8 : Int32) (v9 : Int32) (μ : kbM)  {Q : kbQt} {P : Int32 → Prop} (hx : ∀ z : Int32, P (z) → kbR l MX12_game 6 Q 287 [some (.ref 57), none, none, some (.int v3), some (.int v4), some (.int v5), some (.int v6), some (.int v7), some (.int v8), some (.int v9), some (.int z), none] [] μ) : ∀ (k : Nat) (v10 : Int32) (v11 : Int32), kbG (lp_MD_game_198 n v3 v4 v5 v6 v7 v8 v9 μ k v10 v11) P → kbR l MX12_game 6 Q 198 [some (.ref 57), none, none, some (.int v3), some (.int v4), some (.int v5), some (.int v6), some (.int v7), some (.int v8), some (.int v9), some (.int v10), some (.int v11)] [] μ := by
  intro k
  induction k with
  | zero => intro v10 v11 h; exact absurd h kbG_none
  | succ k ih =>
    intro v10 v11 h
    unfold lp_MD_game_198 at h
    refine r_iload dX12_game_198 rfl ?_
    refine r_aload_n dX12_game_200 rfl ?_
    refine r_getI flX12_162 sh57 rfl dX12_game_201 ?_
    refine r_icmp_ge 287 dX12_game_204 (by decide) (fun hc => ?_) (fun hc => ?_)
    · replace h := kbG_t hc h
      refine r_le [some (.ref 57), none, none, some (.int v3), some (.int v4), some (.int v5), some (.int v6), some (.int v7), some (.int v8), some (.int v9), some (.int v10), none] ⟨rfl, ⟨rfl, ⟨rfl, ⟨rfl, ⟨rfl, ⟨rfl, ⟨rfl, ⟨rfl, ⟨rfl, trivial⟩⟩⟩⟩⟩⟩⟩⟩⟩ ?_
      exact hx v10 (kbG_some h)
    · replace h := kbG_f hc h
      refine r_iload dX12_game_207 rfl ?_
      refine r_if_eq 287 dX12_game_209 (by decide) (fun hc => ?_) (fun hc => ?_)
      · replace h := kbG_t hc h
        refine r_le [some (.ref 57), none, none, some (.int v3), some (.int v4), some (.int v5), some (.int v6), some (.int v7), some (.int v8), some (.int v9), some (.int v10), none] ⟨rfl, ⟨rfl, ⟨rfl, ⟨rfl, ⟨rfl, ⟨rfl, ⟨rfl, ⟨rfl, ⟨rfl, trivial⟩⟩⟩⟩⟩⟩⟩⟩⟩ ?_
        exact hx v10 (kbG_some h)
      · replace h := kbG_f hc h
        refine r_iload dX12_game_212 rfl ?_
        refine r_iload dX12_game_214 rfl ?_
        obtain ⟨x10, hx0, h⟩ := kbG_bind h
        refine r_inv_i csX12_318 (sp_MD_isOf v4 v11 μ hx0) rfl rfl (Nat.le_of_ble_eq_true rfl) (Nat.le_of_ble_eq_true rfl) dX12_game_216 ?_
        refine r_if_eq 243 dX12_game_219 (by decide) (fun hc => ?_) (fun hc => ?_)
        · replace h := kbG_t hc h
          refine r_le [some (.ref 57), none, none, some (.int v3), some (.int v4), some (.int v5), some (.int v6), some (.int v7), some (.int v8), some (.int v9), none, some (.int v11)] ⟨rfl, ⟨rfl, ⟨rfl, ⟨rfl, ⟨rfl, ⟨rfl, ⟨rfl, ⟨rfl, ⟨rfl, trivial⟩⟩⟩⟩⟩⟩⟩⟩⟩ ?_
          exact jnR_MD_game_243 n v3 v4 v5 v6 v7 v8 v9 v11 μ (hx := hx) (hrec := ih) h
        · replace h := kbG_f hc h
          refine r_aload_n dX12_game_222 rfl ?_
          refine r_iconst 0 dX12_game_223 (by decide) ?_
          refine r_iload dX12_game_224 rfl ?_
          refine r_iload dX12_game_226 rfl ?_
          obtain ⟨x14, hx0, h⟩ := kbG_bind h
          refine r_invV_i cvX12_450 sh57 rfl (sp_MD_gain 0 v11 v9 μ hx0) rfl rfl (Nat.le_of_ble_eq_true rfl) (Nat.le_of_ble_eq_true rfl) dX12_game_228 ?_
          refine r_aload_n dX12_game_231 rfl ?_
          refine r_iconst 0 dX12_game_232 (by decide) ?_
          refine r_iload dX12_game_233 rfl ?_
          refine r_iload dX12_game_235 rfl ?_
          obtain ⟨x15, hx0, h⟩ := kbG_bind h
          refine r_invV_i cvX12_450 sh57 rfl (sp_MD_gain 0 v8 v9 μ hx0) rfl rfl (Nat.le_of_ble_eq_true rfl) (Nat.le_of_ble_eq_true rfl) dX12_game_237 ?_
          refine r_icmp_gt 278 dX12_game_240 (by decide) (fun hc => ?_) (fun hc => ?_)
          · replace h := kbG_t hc h
            refine r_le [some (.ref 57), none, none, some (.int v3), some (.int v4), some (.int v5), some (.int v6), some (.int v7), some (.int v8), some (.int v9), none, some (.int v11)] ⟨rfl, ⟨rfl, ⟨rfl, ⟨rfl, ⟨rfl, ⟨rfl, ⟨rfl, ⟨rfl, ⟨rfl, trivial⟩⟩⟩⟩⟩⟩⟩⟩⟩ ?_
            exact jnR_MD_game_278 n v3 v4 v5 v6 v7 v8 v9 v11 μ (hx := hx) (hrec := ih) h
          · replace h := kbG_f hc h
            refine r_le [some (.ref 57), none, none, some (.int v3), some (.int v4), some (.int v5), some (.int v6), some (.int v7), some (.int v8), some (.int v9), none, some (.int v11)] ⟨rfl, ⟨rfl, ⟨rfl, ⟨rfl, ⟨rfl, ⟨rfl, ⟨rfl, ⟨rfl, ⟨rfl, trivial⟩⟩⟩⟩⟩⟩⟩⟩⟩ ?_
            exact jnR_MD_game_243 n v3 v4 v5 v6 v7 v8 v9 v11 μ (hx := hx) (hrec := ih) h
def jn_MD_game_319 (n : Nat) (rec : Int32 → Int32 → Int32 → Option (Int32 × Int32)) (v3 : Int32) (v4 : Int32) (v5 : Int32) (v6 : Int32) (v7 : Int32) (v8 : Int32) (v9 : Int32) (μ : kbM) : Option (Int32 × Int32) :=
  rec v6 v7 (v9 + 1)
theorem jnR_MD_game_319 {l : Launch} (n : Nat)   (v3 : Int32) (v4 : Int32) (v5 : Int32) (v6 : Int32) (v7 : Int32) (v8 : Int32) (v9 : Int32) (μ : kbM) {Q : kbQt} {P : Int32 × Int32 → Prop} (hx : ∀ z : Int32 × Int32, P (z) → kbR l MX12_game 6 Q 325 [some (.ref 57), none, none, some (.int v3), some (.int v4), some (.int v5), some (.int z.1), some (.int z.2), some (.int v8), none, none, none] [] μ) {rec : Int32 → Int32 → Int32 → Option (Int32 × Int32)} (hrec : ∀ (v6 : Int32) (v7 : Int32) (v9 : Int32), kbG (rec v6 v7 v9) P → kbR l MX12_game 6 Q 159 [some (.ref 57), none, none, some (.int v3), some (.int v4), some (.int v5), some (.int v6), some (.int v7), some (.int v8), some (.int v9), none, none] [] μ) (h : kbG (jn_MD_game_319 n rec v3 v4 v5 v6 v7 v8 v9 μ) P) : kbR l MX12_game 6 Q 319 [some (.ref 57), none, none, some (.int v3), some (.int v4), some (.int v5), some (.int v6), some (.int v7), some (.int v8), some (.int v9), none, none] [] μ := by
  unfold jn_MD_game_319 at h
  refine r_iinc 1 dX12_game_319 rfl (by decide) (Nat.le_of_ble_eq_true rfl) rfl ?_
  refine r_goto 159 dX12_game_322 (by decide) ?_
  refine r_le [some (.ref 57), none, none, some (.int v3), some (.int v4), some (.int v5), some (.int v6), some (.int v7), some (.int v8), some (.int (v9 + 1)), none, none] ⟨rfl, ⟨rfl, ⟨rfl, ⟨rfl, ⟨rfl, ⟨rfl, ⟨rfl, ⟨rfl, trivial⟩⟩⟩⟩⟩⟩⟩⟩ ?_
  exact hrec v6 v7 (v9 + 1) h
def jn_MD_game_317 (n : Nat) (rec : Int32 → Int32 → Int32 → Option (Int32 × Int32)) (v3 : Int32) (v4 : Int32) (v5 : Int32) (v6 : Int32) (v8 : Int32) (v9 : Int32) (w0 : Int32) (μ : kbM) : Option (Int32 × Int32) :=
  jn_MD_game_319 n rec v3 v4 v5 v6 w0 v8 v9 μ
theorem jnR_MD_game_317 {l : Launch} (n : Nat)   (v3 : Int32) (v4 : Int32) (v5 : Int32) (v6 : Int32) (v8 : Int32) (v9 : Int32) (w0 : Int32) (μ : kbM) {Q : kbQt} {P : Int32 × Int32 → Prop} (hx : ∀ z : Int32 × Int32, P (z) → kbR l MX12_game 6 Q 325 [some (.ref 57), none, none, some (.int v3), some (.int v4), some (.int v5), some (.int z.1), some (.int z.2), some (.int v8), none, none, none] [] μ) {rec : Int32 → Int32 → Int32 → Option (Int32 × Int32)} (hrec : ∀ (v6 : Int32) (v7 : Int32) (v9 : Int32), kbG (rec v6 v7 v9) P → kbR l MX12_game 6 Q 159 [some (.ref 57), none, none, some (.int v3), some (.int v4), some (.int v5), some (.int v6), some (.int v7), some (.int v8), some (.int v9), none, none] [] μ) (h : kbG (jn_MD_game_317 n rec v3 v4 v5 v6 v8 v9 w0 μ) P) : kbR l MX12_game 6 Q 317 [some (.ref 57), none, none, some (.int v3), some (.int v4), some (.int v5), some (.int v6), none, some (.int v8), some (.int v9), none, none] [.int w0] μ := by
  unfold jn_MD_game_317 at h
  refine r_istore dX12_game_317 (Nat.le_of_ble_eq_true rfl) rfl ?_
  refine r_le [some (.ref 57), none, none, some (.int v3), some (.int v4), some (.int v5), some (.int v6), some (.int w0), some (.int v8), some (.int v9), none, none] ⟨rfl, ⟨rfl, ⟨rfl, ⟨rfl, ⟨rfl, ⟨rfl, ⟨rfl, ⟨rfl, trivial⟩⟩⟩⟩⟩⟩⟩⟩ ?_
  exact jnR_MD_game_319 n v3 v4 v5 v6 w0 v8 v9 μ (hx := hx) (hrec := hrec) h
def jn_MD_game_287 (n : Nat) (rec : Int32 → Int32 → Int32 → Option (Int32 × Int32)) (v3 : Int32) (v4 : Int32) (v5 : Int32) (v6 : Int32) (v7 : Int32) (v8 : Int32) (v9 : Int32) (v10 : Int32) (μ : kbM) : Option (Int32 × Int32) :=
  if v10 = 0 then
    jn_MD_game_319 n rec v3 v4 v5 v6 v7 v8 v9 μ
  else
    if v7 = (-1) then
      jn_MD_game_317 n rec v3 v4 v5 (v6 + 1) v8 v9 ((10 * v8) + v9) μ
    else
      jn_MD_game_317 n rec v3 v4 v5 (v6 + 1) v8 v9 v7 μ
theorem jnR_MD_game_287 {l : Launch} (n : Nat)   (v3 : Int32) (v4 : Int32) (v5 : Int32) (v6 : Int32) (v7 : Int32) (v8 : Int32) (v9 : Int32) (v10 : Int32) (μ : kbM) {Q : kbQt} {P : Int32 × Int32 → Prop} (hx : ∀ z : Int32 × Int32, P (z) → kbR l MX12_game 6 Q 325 [some (.ref 57), none, none, some (.int v3), some (.int v4), some (.int v5), some (.int z.1), some (.int z.2), some (.int v8), none, none, none] [] μ) {rec : Int32 → Int32 → Int32 → Option (Int32 × Int32)} (hrec : ∀ (v6 : Int32) (v7 : Int32) (v9 : Int32), kbG (rec v6 v7 v9) P → kbR l MX12_game 6 Q 159 [some (.ref 57), none, none, some (.int v3), some (.int v4), some (.int v5), some (.int v6), some (.int v7), some (.int v8), some (.int v9), none, none] [] μ) (h : kbG (jn_MD_game_287 n rec v3 v4 v5 v6 v7 v8 v9 v10 μ) P) : kbR l MX12_game 6 Q 287 [some (.ref 57), none, none, some (.int v3), some (.int v4), some (.int v5), some (.int v6), some (.int v7), some (.int v8), some (.int v9), some (.int v10), none] [] μ := by
  unfold jn_MD_game_287 at h
  refine r_iload dX12_game_287 rfl ?_
  refine r_if_ne 295 dX12_game_289 (by decide) (fun hc => ?_) (fun hc => ?_)
  · replace h := kbG_f hc h
    refine r_iinc 1 dX12_game_295 rfl (by decide) (Nat.le_of_ble_eq_true rfl) rfl ?_
    refine r_iload dX12_game_298 rfl ?_
    refine r_iconst (-1) dX12_game_300 (by decide) ?_
    refine r_icmp_ne 315 dX12_game_301 (by decide) (fun hc => ?_) (fun hc => ?_)
    · replace h := kbG_f hc h
      refine r_iload dX12_game_315 rfl ?_
      refine r_le [some (.ref 57), none, none, some (.int v3), some (.int v4), some (.int v5), some (.int (v6 + 1)), none, some (.int v8), some (.int v9), none, none] ⟨rfl, ⟨rfl, ⟨rfl, ⟨rfl, ⟨rfl, ⟨rfl, ⟨rfl, trivial⟩⟩⟩⟩⟩⟩⟩ ?_
      exact jnR_MD_game_317 n v3 v4 v5 (v6 + 1) v8 v9 v7 μ (hx := hx) (hrec := hrec) h
    · replace h := kbG_t hc h
      refine r_bipush 10 dX12_game_304 (by decide) ?_
      refine r_iload dX12_game_306 rfl ?_
      refine r_imul dX12_game_308 ?_
      refine r_iload dX12_game_309 rfl ?_
      refine r_iadd dX12_game_311 ?_
      refine r_goto 317 dX12_game_312 (by decide) ?_
      refine r_le [some (.ref 57), none, none, some (.int v3), some (.int v4), some (.int v5), some (.int (v6 + 1)), none, some (.int v8), some (.int v9), none, none] ⟨rfl, ⟨rfl, ⟨rfl, ⟨rfl, ⟨rfl, ⟨rfl, ⟨rfl, trivial⟩⟩⟩⟩⟩⟩⟩ ?_
      exact jnR_MD_game_317 n v3 v4 v5 (v6 + 1) v8 v9 ((10 * v8) + v9) μ (hx := hx) (hrec := hrec) h
  · replace h := kbG_t hc h
    refine r_goto 319 dX12_game_292 (by decide) ?_
    refine r_le [some (.ref 57), none, none, some (.int v3), some (.int v4), some (.int v5), some (.int v6), some (.int v7), some (.int v8), some (.int v9), none, none] ⟨rfl, ⟨rfl, ⟨rfl, ⟨rfl, ⟨rfl, ⟨rfl, ⟨rfl, ⟨rfl, trivial⟩⟩⟩⟩⟩⟩⟩⟩ ?_
    exact jnR_MD_game_319 n v3 v4 v5 v6 v7 v8 v9 μ (hx := hx) (hrec := hrec) h
def jn_MD_game_193 (n : Nat) (rec : Int32 → Int32 → Int32 → Option (Int32 × Int32)) (v3 : Int32) (v4 : Int32) (v5 : Int32) (v6 : Int32) (v7 : Int32) (v8 : Int32) (v9 : Int32) (w0 : Int32) (μ : kbM) : Option (Int32 × Int32) :=
  (lp_MD_game_198 n v3 v4 v5 v6 v7 v8 v9 μ n w0 0).bind fun x16 =>
  jn_MD_game_287 n rec v3 v4 v5 v6 v7 v8 v9 x16 μ
theorem jnR_MD_game_193 {l : Launch} (n : Nat)   (v3 : Int32) (v4 : Int32) (v5 : Int32) (v6 : Int32) (v7 : Int32) (v8 : Int32) (v9 : Int32) (w0 : Int32) (μ : kbM) {Q : kbQt} {P : Int32 × Int32 → Prop} (hx : ∀ z : Int32 × Int32, P (z) → kbR l MX12_game 6 Q 325 [some (.ref 57), none, none, some (.int v3), some (.int v4), some (.int v5), some (.int z.1), some (.int z.2), some (.int v8), none, none, none] [] μ) {rec : Int32 → Int32 → Int32 → Option (Int32 × Int32)} (hrec : ∀ (v6 : Int32) (v7 : Int32) (v9 : Int32), kbG (rec v6 v7 v9) P → kbR l MX12_game 6 Q 159 [some (.ref 57), none, none, some (.int v3), some (.int v4), some (.int v5), some (.int v6), some (.int v7), some (.int v8), some (.int v9), none, none] [] μ) (h : kbG (jn_MD_game_193 n rec v3 v4 v5 v6 v7 v8 v9 w0 μ) P) : kbR l MX12_game 6 Q 193 [some (.ref 57), none, none, some (.int v3), some (.int v4), some (.int v5), some (.int v6), some (.int v7), some (.int v8), some (.int v9), none, none] [.int w0] μ := by
  unfold jn_MD_game_193 at h
  refine r_istore dX12_game_193 (Nat.le_of_ble_eq_true rfl) rfl ?_
  refine r_iconst 0 dX12_game_195 (by decide) ?_
  refine r_istore dX12_game_196 (Nat.le_of_ble_eq_true rfl) rfl ?_
  refine r_le [some (.ref 57), none, none, some (.int v3), some (.int v4), some (.int v5), some (.int v6), some (.int v7), some (.int v8), some (.int v9), some (.int w0), some (.int 0)] ⟨rfl, ⟨rfl, ⟨rfl, ⟨rfl, ⟨rfl, ⟨rfl, ⟨rfl, ⟨rfl, ⟨rfl, ⟨rfl, trivial⟩⟩⟩⟩⟩⟩⟩⟩⟩⟩ ?_
  obtain ⟨x16, hx0, h⟩ := kbG_bind h
  refine lpR_MD_game_198 n v3 v4 v5 v6 v7 v8 v9 μ (P := fun z => x16 = z) (hx := fun z e => ?_) n _ _ ⟨_, hx0, rfl⟩
  subst e
  refine r_le [some (.ref 57), none, none, some (.int v3), some (.int v4), some (.int v5), some (.int v6), some (.int v7), some (.int v8), some (.int v9), some (.int x16), none] ⟨rfl, ⟨rfl, ⟨rfl, ⟨rfl, ⟨rfl, ⟨rfl, ⟨rfl, ⟨rfl, ⟨rfl, trivial⟩⟩⟩⟩⟩⟩⟩⟩⟩ ?_
  exact jnR_MD_game_287 n v3 v4 v5 v6 v7 v8 v9 x16 μ (hx := hx) (hrec := hrec) h
def jn_MD_game_192 (n : Nat) (rec : Int32 → Int32 → Int32 → Option (Int32 × Int32)) (v3 : Int32) (v4 : Int32) (v5 : Int32) (v6 : Int32) (v7 : Int32) (v8 : Int32) (v9 : Int32) (μ : kbM) : Option (Int32 × Int32) :=
  jn_MD_game_193 n rec v3 v4 v5 v6 v7 v8 v9 0 μ
theorem jnR_MD_game_192 {l : Launch} (n : Nat)   (v3 : Int32) (v4 : Int32) (v5 : Int32) (v6 : Int32) (v7 : Int32) (v8 : Int32) (v9 : Int32) (μ : kbM) {Q : kbQt} {P : Int32 × Int32 → Prop} (hx : ∀ z : Int32 × Int32, P (z) → kbR l MX12_game 6 Q 325 [some (.ref 57), none, none, some (.int v3), some (.int v4), some (.int v5), some (.int z.1), some (.int z.2), some (.int v8), none, none, none] [] μ) {rec : Int32 → Int32 → Int32 → Option (Int32 × Int32)} (hrec : ∀ (v6 : Int32) (v7 : Int32) (v9 : Int32), kbG (rec v6 v7 v9) P → kbR l MX12_game 6 Q 159 [some (.ref 57), none, none, some (.int v3), some (.int v4), some (.int v5), some (.int v6), some (.int v7), some (.int v8), some (.int v9), none, none] [] μ) (h : kbG (jn_MD_game_192 n rec v3 v4 v5 v6 v7 v8 v9 μ) P) : kbR l MX12_game 6 Q 192 [some (.ref 57), none, none, some (.int v3), some (.int v4), some (.int v5), some (.int v6), some (.int v7), some (.int v8), some (.int v9), none, none] [] μ := by
  unfold jn_MD_game_192 at h
  refine r_iconst 0 dX12_game_192 (by decide) ?_
  refine r_le [some (.ref 57), none, none, some (.int v3), some (.int v4), some (.int v5), some (.int v6), some (.int v7), some (.int v8), some (.int v9), none, none] ⟨rfl, ⟨rfl, ⟨rfl, ⟨rfl, ⟨rfl, ⟨rfl, ⟨rfl, ⟨rfl, trivial⟩⟩⟩⟩⟩⟩⟩⟩ ?_
  exact jnR_MD_game_193 n v3 v4 v5 v6 v7 v8 v9 0 μ (hx := hx) (hrec := hrec) h
def lp_MD_game_159 (n : Nat) (v3 : Int32) (v4 : Int32) (v5 : Int32) (v8 : Int32) (μ : kbM) : Nat → Int32 → Int32 → Int32 → Option (Int32 × Int32)
  | 0, _, _, _ => none
  | k + 1, v6, v7, v9 =>
    if (μ.1 57 27) ≤ v9 then
      some ((v6, v7))
    else
      (f_MD_isOf v4 v8).bind fun x9 =>
      if x9 = 0 then
        jn_MD_game_192 n (lp_MD_game_159 n v3 v4 v5 v8 μ k) v3 v4 v5 v6 v7 v8 v9 μ
      else
        (f_MD_isOf v5 v9).bind fun x17 =>
        if x17 = 0 then
          jn_MD_game_192 n (lp_MD_game_159 n v3 v4 v5 v8 μ k) v3 v4 v5 v6 v7 v8 v9 μ
        else
          jn_MD_game_193 n (lp_MD_game_159 n v3 v4 v5 v8 μ k) v3 v4 v5 v6 v7 v8 v9 1 μ
theorem lpR_MD_game_159 {l : Launch} (n : Nat) (v3 : Int32) (v4 : Int32) (v5 : Int32) (v8 : Int32) (μ : kbM)  {Q : kbQt} {P : Int32 × Int32 → Prop} (hx : ∀ z : Int32 × Int32, P (z) → kbR l MX12_game 6 Q 325 [some (.ref 57), none, none, some (.int v3), some (.int v4), some (.int v5), some (.int z.1), some (.int z.2), some (.int v8), none, none, none] [] μ) : ∀ (k : Nat) (v6 : Int32) (v7 : Int32) (v9 : Int32), kbG (lp_MD_game_159 n v3 v4 v5 v8 μ k v6 v7 v9) P → kbR l MX12_game 6 Q 159 [some (.ref 57), none, none, some (.int v3), some (.int v4), some (.int v5), some (.int v6), some (.int v7), some (.int v8), some (.int v9), none, none] [] μ := by
  intro k
  induction k with
  | zero => intro v6 v7 v9 h; exact absurd h kbG_none
  | succ k ih =>
    intro v6 v7 v9 h
    unfold lp_MD_game_159 at h
    refine r_iload dX12_game_159 rfl ?_
    refine r_aload_n dX12_game_161 rfl ?_
    refine r_getI flX12_162 sh57 rfl dX12_game_162 ?_
    refine r_icmp_ge 325 dX12_game_165 (by decide) (fun hc => ?_) (fun hc => ?_)
    · replace h := kbG_t hc h
      refine r_le [some (.ref 57), none, none, some (.int v3), some (.int v4), some (.int v5), some (.int v6), some (.int v7), some (.int v8), none, none, none] ⟨rfl, ⟨rfl, ⟨rfl, ⟨rfl, ⟨rfl, ⟨rfl, ⟨rfl, trivial⟩⟩⟩⟩⟩⟩⟩ ?_
      exact hx ((v6, v7)) (kbG_some h)
    · replace h := kbG_f hc h
      refine r_iload dX12_game_168 rfl ?_
      refine r_iload dX12_game_170 rfl ?_
      obtain ⟨x9, hx0, h⟩ := kbG_bind h
      refine r_inv_i csX12_318 (sp_MD_isOf v4 v8 μ hx0) rfl rfl (Nat.le_of_ble_eq_true rfl) (Nat.le_of_ble_eq_true rfl) dX12_game_172 ?_
      refine r_if_eq 192 dX12_game_175 (by decide) (fun hc => ?_) (fun hc => ?_)
      · replace h := kbG_t hc h
        refine r_le [some (.ref 57), none, none, some (.int v3), some (.int v4), some (.int v5), some (.int v6), some (.int v7), some (.int v8), some (.int v9), none, none] ⟨rfl, ⟨rfl, ⟨rfl, ⟨rfl, ⟨rfl, ⟨rfl, ⟨rfl, ⟨rfl, trivial⟩⟩⟩⟩⟩⟩⟩⟩ ?_
        exact jnR_MD_game_192 n v3 v4 v5 v6 v7 v8 v9 μ (hx := hx) (hrec := ih) h
      · replace h := kbG_f hc h
        refine r_iload dX12_game_178 rfl ?_
        refine r_iload dX12_game_180 rfl ?_
        obtain ⟨x17, hx0, h⟩ := kbG_bind h
        refine r_inv_i csX12_318 (sp_MD_isOf v5 v9 μ hx0) rfl rfl (Nat.le_of_ble_eq_true rfl) (Nat.le_of_ble_eq_true rfl) dX12_game_182 ?_
        refine r_if_eq 192 dX12_game_185 (by decide) (fun hc => ?_) (fun hc => ?_)
        · replace h := kbG_t hc h
          refine r_le [some (.ref 57), none, none, some (.int v3), some (.int v4), some (.int v5), some (.int v6), some (.int v7), some (.int v8), some (.int v9), none, none] ⟨rfl, ⟨rfl, ⟨rfl, ⟨rfl, ⟨rfl, ⟨rfl, ⟨rfl, ⟨rfl, trivial⟩⟩⟩⟩⟩⟩⟩⟩ ?_
          exact jnR_MD_game_192 n v3 v4 v5 v6 v7 v8 v9 μ (hx := hx) (hrec := ih) h
        · replace h := kbG_f hc h
          refine r_iconst 1 dX12_game_188 (by decide) ?_
          refine r_goto 193 dX12_game_189 (by decide) ?_
          refine r_le [some (.ref 57), none, none, some (.int v3), some (.int v4), some (.int v5), some (.int v6), some (.int v7), some (.int v8), some (.int v9), none, none] ⟨rfl, ⟨rfl, ⟨rfl, ⟨rfl, ⟨rfl, ⟨rfl, ⟨rfl, ⟨rfl, trivial⟩⟩⟩⟩⟩⟩⟩⟩ ?_
          exact jnR_MD_game_193 n v3 v4 v5 v6 v7 v8 v9 1 μ (hx := hx) (hrec := ih) h
def lp_MD_game_147 (n : Nat) (v3 : Int32) (v4 : Int32) (v5 : Int32) (μ : kbM) : Nat → Int32 → Int32 → Int32 → Option (Int32 × Int32)
  | 0, _, _, _ => none
  | k + 1, v6, v7, v8 =>
    if (μ.1 57 27) ≤ v8 then
      some ((v6, v7))
    else
      (lp_MD_game_159 n v3 v4 v5 v8 μ n v6 v7 0).bind fun x18 =>
      lp_MD_game_147 n v3 v4 v5 μ k x18.1 x18.2 (v8 + 1)
theorem lpR_MD_game_147 {l : Launch} (n : Nat) (v3 : Int32) (v4 : Int32) (v5 : Int32) (μ : kbM)  {Q : kbQt} {P : Int32 × Int32 → Prop} (hx : ∀ z : Int32 × Int32, P (z) → kbR l MX12_game 6 Q 331 [none, none, none, some (.int v3), none, none, some (.int z.1), some (.int z.2), none, none, none, none] [] μ) : ∀ (k : Nat) (v6 : Int32) (v7 : Int32) (v8 : Int32), kbG (lp_MD_game_147 n v3 v4 v5 μ k v6 v7 v8) P → kbR l MX12_game 6 Q 147 [some (.ref 57), none, none, some (.int v3), some (.int v4), some (.int v5), some (.int v6), some (.int v7), some (.int v8), none, none, none] [] μ := by
  intro k
  induction k with
  | zero => intro v6 v7 v8 h; exact absurd h kbG_none
  | succ k ih =>
    intro v6 v7 v8 h
    unfold lp_MD_game_147 at h
    refine r_iload dX12_game_147 rfl ?_
    refine r_aload_n dX12_game_149 rfl ?_
    refine r_getI flX12_162 sh57 rfl dX12_game_150 ?_
    refine r_icmp_ge 331 dX12_game_153 (by decide) (fun hc => ?_) (fun hc => ?_)
    · replace h := kbG_t hc h
      refine r_le [none, none, none, some (.int v3), none, none, some (.int v6), some (.int v7), none, none, none, none] ⟨rfl, ⟨rfl, ⟨rfl, trivial⟩⟩⟩ ?_
      exact hx ((v6, v7)) (kbG_some h)
    · replace h := kbG_f hc h
      refine r_iconst 0 dX12_game_156 (by decide) ?_
      refine r_istore dX12_game_157 (Nat.le_of_ble_eq_true rfl) rfl ?_
      refine r_le [some (.ref 57), none, none, some (.int v3), some (.int v4), some (.int v5), some (.int v6), some (.int v7), some (.int v8), some (.int 0), none, none] ⟨rfl, ⟨rfl, ⟨rfl, ⟨rfl, ⟨rfl, ⟨rfl, ⟨rfl, ⟨rfl, trivial⟩⟩⟩⟩⟩⟩⟩⟩ ?_
      obtain ⟨x18, hx0, h⟩ := kbG_bind h
      refine lpR_MD_game_159 n v3 v4 v5 v8 μ (P := fun z => x18 = z) (hx := fun z e => ?_) n _ _ _ ⟨_, hx0, rfl⟩
      subst e
      refine r_iinc 1 dX12_game_325 rfl (by decide) (Nat.le_of_ble_eq_true rfl) rfl ?_
      refine r_goto 147 dX12_game_328 (by decide) ?_
      refine r_le [some (.ref 57), none, none, some (.int v3), some (.int v4), some (.int v5), some (.int x18.1), some (.int x18.2), some (.int (v8 + 1)), none, none, none] ⟨rfl, ⟨rfl, ⟨rfl, ⟨rfl, ⟨rfl, ⟨rfl, ⟨rfl, trivial⟩⟩⟩⟩⟩⟩⟩ ?_
      exact ih x18.1 x18.2 (v8 + 1) h
def jn_MD_game_342 (n : Nat) (w0 : Int32) (μ : kbM) : Option (Int32 × kbM) :=
  some ((w0, μ))
theorem jnR_MD_game_342 {l : Launch} (n : Nat)   (w0 : Int32) (μ : kbM) {Q : kbQt} {P : Int32 × kbM → Prop} (hr : ∀ z : Int32 × kbM, P z → Q (some (.int z.1)) z.2) (h : kbG (jn_MD_game_342 n w0 μ) P) : kbR l MX12_game 6 Q 342 [none, none, none, none, none, none, none, none, none, none, none, none] [.int w0] μ := by
  unfold jn_MD_game_342 at h
  exact r_iret rfl dX12_game_342 (hr ((w0, μ)) (kbG_some h))
def f_MD_game (n : Nat) (a1 : Int32) (a2 : Int32) (a3 : Int32) (μ : kbM) : Option (Int32 × kbM) :=
  (f_MD_isDoor a1 (kbW μ 57 3 0)).bind fun x1 =>
  if x1 = 0 then
    jn_MD_game_30 n (kbW μ 57 3 0)
  else
    (f_MD_isDoor a2 (kbW μ 57 3 0)).bind fun x3 =>
    if x3 = 0 then
      jn_MD_game_30 n (kbW μ 57 3 0)
    else
      if a3 < 0 then
        jn_MD_game_30 n (kbW μ 57 3 0)
      else
        if a3 ≤ 1 then
          if a1 = a2 then
            (f_MD_fail 2 (kbW μ 57 3 0)).bind fun x20 =>
            some ((x20.1, x20.2))
          else
            (f_MD_wordsOf n a1 (kbW μ 57 3 0)).bind fun x4 =>
            (f_MD_wordsOf n a2 (kbW μ 57 3 0)).bind fun x5 =>
            (lp_MD_game_64 n a1 a2 a3 x4 x5 n 0 (kbW μ 57 3 0)).bind fun x8 =>
            (lp_MD_game_147 n a3 x4 x5 x8 n 0 (-1) 0).bind fun x19 =>
            if a3 = 0 then
              jn_MD_game_342 n x19.1 x8
            else
              jn_MD_game_342 n x19.2 x8
        else
          jn_MD_game_30 n (kbW μ 57 3 0)
theorem sp_MD_game {l : Launch} (n : Nat) (a1 : Int32) (a2 : Int32) (a3 : Int32) (μ : kbM)  {x : Int32 × kbM} (h : f_MD_game n a1 a2 a3 μ = some x) : kbS l MX12_game 6 [.ref 57, .int a1, .int a2, .int a3] μ (kbQe (some (.int x.1)) x.2) := by
  refine kb_enter 8 rfl rfl ?_
  suffices H : ∀ (Q : kbQt) (P : Int32 × kbM → Prop), (∀ z : Int32 × kbM, P z → Q (some (.int z.1)) z.2) → kbG (f_MD_game n a1 a2 a3 μ) P → kbR l MX12_game 6 Q 0 [some (.ref 57), some (.int a1), some (.int a2), some (.int a3), none, none, none, none, none, none, none, none] [] μ from H _ (fun z => z = x) (fun z e => by subst e; exact ⟨rfl, rfl⟩) ⟨x, h, rfl⟩
  clear h
  intro Q P hr h
  unfold f_MD_game at h
  refine r_aload_n dX12_game_0 rfl ?_
  refine r_iconst 0 dX12_game_1 (by decide) ?_
  refine r_put flX12_159 sh57 rfl rfl rfl dX12_game_2 ?_
  refine r_aload_n dX12_game_5 rfl ?_
  refine r_iload_n dX12_game_6 rfl ?_
  obtain ⟨x1, hx0, h⟩ := kbG_bind h
  refine r_invV_i cvX12_336 sh57 rfl (sp_MD_isDoor a1 (kbW μ 57 3 0) hx0) rfl rfl (Nat.le_of_ble_eq_true rfl) (Nat.le_of_ble_eq_true rfl) dX12_game_7 ?_
  refine r_if_eq 30 dX12_game_10 (by decide) (fun hc => ?_) (fun hc => ?_)
  · replace h := kbG_t hc h
    refine r_le [some (.ref 57), none, none, none, none, none, none, none, none, none, none, none] ⟨rfl, trivial⟩ ?_
    exact jnR_MD_game_30 n  (kbW μ 57 3 0) (hr := hr) h
  · replace h := kbG_f hc h
    refine r_aload_n dX12_game_13 rfl ?_
    refine r_iload_n dX12_game_14 rfl ?_
    obtain ⟨x3, hx0, h⟩ := kbG_bind h
    refine r_invV_i cvX12_336 sh57 rfl (sp_MD_isDoor a2 (kbW μ 57 3 0) hx0) rfl rfl (Nat.le_of_ble_eq_true rfl) (Nat.le_of_ble_eq_true rfl) dX12_game_15 ?_
    refine r_if_eq 30 dX12_game_18 (by decide) (fun hc => ?_) (fun hc => ?_)
    · replace h := kbG_t hc h
      refine r_le [some (.ref 57), none, none, none, none, none, none, none, none, none, none, none] ⟨rfl, trivial⟩ ?_
      exact jnR_MD_game_30 n  (kbW μ 57 3 0) (hr := hr) h
    · replace h := kbG_f hc h
      refine r_iload_n dX12_game_21 rfl ?_
      refine r_if_lt 30 dX12_game_22 (by decide) (fun hc => ?_) (fun hc => ?_)
      · replace h := kbG_t hc h
        refine r_le [some (.ref 57), none, none, none, none, none, none, none, none, none, none, none] ⟨rfl, trivial⟩ ?_
        exact jnR_MD_game_30 n  (kbW μ 57 3 0) (hr := hr) h
      · replace h := kbG_f hc h
        refine r_iload_n dX12_game_25 rfl ?_
        refine r_iconst 1 dX12_game_26 (by decide) ?_
        refine r_icmp_le 36 dX12_game_27 (by decide) (fun hc => ?_) (fun hc => ?_)
        · replace h := kbG_t hc h
          refine r_iload_n dX12_game_36 rfl ?_
          refine r_iload_n dX12_game_37 rfl ?_
          refine r_icmp_ne 47 dX12_game_38 (by decide) (fun hc => ?_) (fun hc => ?_)
          · replace h := kbG_f hc h
            refine r_aload_n dX12_game_47 rfl ?_
            refine r_iload_n dX12_game_48 rfl ?_
            obtain ⟨x4, hx0, h⟩ := kbG_bind h
            refine r_invV_i cvX12_339 sh57 rfl (sp_MD_wordsOf n a1 (kbW μ 57 3 0) hx0) rfl rfl (Nat.le_of_ble_eq_true rfl) (Nat.le_of_ble_eq_true rfl) dX12_game_49 ?_
            refine r_istore dX12_game_52 (Nat.le_of_ble_eq_true rfl) rfl ?_
            refine r_aload_n dX12_game_54 rfl ?_
            refine r_iload_n dX12_game_55 rfl ?_
            obtain ⟨x5, hx0, h⟩ := kbG_bind h
            refine r_invV_i cvX12_339 sh57 rfl (sp_MD_wordsOf n a2 (kbW μ 57 3 0) hx0) rfl rfl (Nat.le_of_ble_eq_true rfl) (Nat.le_of_ble_eq_true rfl) dX12_game_56 ?_
            refine r_istore dX12_game_59 (Nat.le_of_ble_eq_true rfl) rfl ?_
            refine r_iconst 0 dX12_game_61 (by decide) ?_
            refine r_istore dX12_game_62 (Nat.le_of_ble_eq_true rfl) rfl ?_
            refine r_le [some (.ref 57), some (.int a1), some (.int a2), some (.int a3), some (.int x4), some (.int x5), some (.int 0), none, none, none, none, none] ⟨rfl, ⟨rfl, ⟨rfl, ⟨rfl, ⟨rfl, ⟨rfl, ⟨rfl, trivial⟩⟩⟩⟩⟩⟩⟩ ?_
            obtain ⟨x8, hx0, h⟩ := kbG_bind h
            refine lpR_MD_game_64 n a1 a2 a3 x4 x5 (P := fun z => x8 = z) (hx := fun z e => ?_) n _ _ ⟨_, hx0, rfl⟩
            subst e
            refine r_iconst 0 dX12_game_138 (by decide) ?_
            refine r_istore dX12_game_139 (Nat.le_of_ble_eq_true rfl) rfl ?_
            refine r_iconst (-1) dX12_game_141 (by decide) ?_
            refine r_istore dX12_game_142 (Nat.le_of_ble_eq_true rfl) rfl ?_
            refine r_iconst 0 dX12_game_144 (by decide) ?_
            refine r_istore dX12_game_145 (Nat.le_of_ble_eq_true rfl) rfl ?_
            refine r_le [some (.ref 57), none, none, some (.int a3), some (.int x4), some (.int x5), some (.int 0), some (.int (-1)), some (.int 0), none, none, none] ⟨rfl, ⟨rfl, ⟨rfl, ⟨rfl, ⟨rfl, ⟨rfl, ⟨rfl, trivial⟩⟩⟩⟩⟩⟩⟩ ?_
            obtain ⟨x19, hx0, h⟩ := kbG_bind h
            refine lpR_MD_game_147 n a3 x4 x5 x8 (P := fun z => x19 = z) (hx := fun z e => ?_) n _ _ _ ⟨_, hx0, rfl⟩
            subst e
            refine r_iload_n dX12_game_331 rfl ?_
            refine r_if_ne 340 dX12_game_332 (by decide) (fun hc => ?_) (fun hc => ?_)
            · replace h := kbG_f hc h
              refine r_iload dX12_game_340 rfl ?_
              refine r_le [none, none, none, none, none, none, none, none, none, none, none, none] trivial ?_
              exact jnR_MD_game_342 n x19.2 x8 (hr := hr) h
            · replace h := kbG_t hc h
              refine r_iload dX12_game_335 rfl ?_
              refine r_goto 342 dX12_game_337 (by decide) ?_
              refine r_le [none, none, none, none, none, none, none, none, none, none, none, none] trivial ?_
              exact jnR_MD_game_342 n x19.1 x8 (hr := hr) h
          · replace h := kbG_t hc h
            refine r_aload_n dX12_game_41 rfl ?_
            refine r_iconst 2 dX12_game_42 (by decide) ?_
            obtain ⟨x20, hx0, h⟩ := kbG_bind h
            refine r_invV_i cvX12_292 sh57 rfl (sp_MD_fail 2 (kbW μ 57 3 0) hx0) rfl rfl (Nat.le_of_ble_eq_true rfl) (Nat.le_of_ble_eq_true rfl) dX12_game_43 ?_
            exact r_iret rfl dX12_game_46 (hr ((x20.1, x20.2)) (kbG_some h))
        · replace h := kbG_f hc h
          refine r_le [some (.ref 57), none, none, none, none, none, none, none, none, none, none, none] ⟨rfl, trivial⟩ ?_
          exact jnR_MD_game_30 n  (kbW μ 57 3 0) (hr := hr) h
def f_MD_drawOf (a1 : Int32) (μ : kbM) : Option (Int32 × kbM) :=
  kbIf (decide (¬ a1 = 0)) <|
  some ((kbRem ((kbShr ((kbW μ 57 51 (((μ.1 57 51) * 1103515245) + 12345)).1 57 51) 16) &&& 32767) a1, kbW μ 57 51 (((μ.1 57 51) * 1103515245) + 12345)))
theorem sp_MD_drawOf {l : Launch} (a1 : Int32) (μ : kbM)  {x : Int32 × kbM} (h : f_MD_drawOf a1 μ = some x) : kbS l MX12_drawOf 1 [.ref 57, .int a1] μ (kbQe (some (.int x.1)) x.2) := by
  refine kb_enter 0 rfl rfl ?_
  suffices H : ∀ (Q : kbQt) (P : Int32 × kbM → Prop), (∀ z : Int32 × kbM, P z → Q (some (.int z.1)) z.2) → kbG (f_MD_drawOf a1 μ) P → kbR l MX12_drawOf 1 Q 0 [some (.ref 57), some (.int a1)] [] μ from H _ (fun z => z = x) (fun z e => by subst e; exact ⟨rfl, rfl⟩) ⟨x, h, rfl⟩
  clear h
  intro Q P hr h
  unfold f_MD_drawOf at h
  refine r_aload_n dX12_drawOf_0 rfl ?_
  refine r_aload_n dX12_drawOf_1 rfl ?_
  refine r_getI flX12_453 sh57 rfl dX12_drawOf_2 ?_
  refine r_ldcw 1103515245 liX12_456 dX12_drawOf_5 ?_
  refine r_imul dX12_drawOf_8 ?_
  refine r_sipush 12345 dX12_drawOf_9 (by decide) ?_
  refine r_iadd dX12_drawOf_12 ?_
  refine r_put flX12_453 sh57 rfl rfl rfl dX12_drawOf_13 ?_
  refine r_aload_n dX12_drawOf_16 rfl ?_
  refine r_getI flX12_453 sh57 rfl dX12_drawOf_17 ?_
  refine r_bipush 16 dX12_drawOf_20 (by decide) ?_
  refine r_shr dX12_drawOf_22 ?_
  refine r_sipush 32767 dX12_drawOf_23 (by decide) ?_
  refine r_iand dX12_drawOf_26 ?_
  refine r_iload_n dX12_drawOf_27 rfl ?_
  obtain ⟨hz, h⟩ := kbG_if h
  refine r_rem dX12_drawOf_28 (of_decide_eq_true hz) ?_
  exact r_iret rfl dX12_drawOf_29 (hr ((kbRem ((kbShr ((kbW μ 57 51 (((μ.1 57 51) * 1103515245) + 12345)).1 57 51) 16) &&& 32767) a1, kbW μ 57 51 (((μ.1 57 51) * 1103515245) + 12345))) (kbG_some h))
def jn_MD_frozen_60 (n : Nat) (w0 : Int32) : Option (Int32) :=
  some w0
theorem jnR_MD_frozen_60 {l : Launch} (n : Nat)   (w0 : Int32) (μ : kbM) {Q : kbQt} {P : Int32 → Prop} (hr : ∀ z : Int32, P z → Q (some (.int z)) μ) (h : kbG (jn_MD_frozen_60 n w0) P) : kbR l MX12_frozen 2 Q 60 [none, none, none, none] [.int w0] μ := by
  unfold jn_MD_frozen_60 at h
  exact r_iret rfl dX12_frozen_60 (hr w0 (kbG_some h))
def jn_MD_frozen_59 (n : Nat) (v1 : Int32) : Option (Int32) :=
  jn_MD_frozen_60 n v1
theorem jnR_MD_frozen_59 {l : Launch} (n : Nat)   (v1 : Int32) (μ : kbM) {Q : kbQt} {P : Int32 → Prop} (hr : ∀ z : Int32, P z → Q (some (.int z)) μ) (h : kbG (jn_MD_frozen_59 n v1) P) : kbR l MX12_frozen 2 Q 59 [none, some (.int v1), none, none] [] μ := by
  unfold jn_MD_frozen_59 at h
  refine r_iload_n dX12_frozen_59 rfl ?_
  refine r_le [none, none, none, none] trivial ?_
  exact jnR_MD_frozen_60 n v1 μ (hr := hr) h
def jn_MD_frozen_25 (n : Nat) (w0 : Int32) : Option (Int32) :=
  some w0
theorem jnR_MD_frozen_25 {l : Launch} (n : Nat)   (w0 : Int32) (μ : kbM) {Q : kbQt} {P : Int32 → Prop} (hr : ∀ z : Int32, P z → Q (some (.int z)) μ) (h : kbG (jn_MD_frozen_25 n w0) P) : kbR l MX12_frozen 2 Q 25 [none, none, none, none] [.int w0] μ := by
  unfold jn_MD_frozen_25 at h
  exact r_iret rfl dX12_frozen_25 (hr w0 (kbG_some h))
def f_MD_frozen (n : Nat) (a1 : Int32) (a2 : Int32) : Option (Int32) :=
  (f_MD_sizeOf n a1).bind fun x1 =>
  if a2 = 0 then
    if x1 = 0 then
      jn_MD_frozen_25 n 0
    else
      (f_MD_power n (x1 - 1)).bind fun x3 =>
      kbIf (decide (¬ x3 = 0)) <|
      jn_MD_frozen_25 n (kbRem a1 x3)
  else
    if a2 = 1 then
      jn_MD_frozen_60 n (a1 / 5)
    else
      if a2 = 2 then
        if 12 ≤ x1 then
          jn_MD_frozen_59 n a1
        else
          (f_MD_power n x1).bind fun x2 =>
          jn_MD_frozen_60 n ((4 * x2) + a1)
      else
        jn_MD_frozen_59 n a1
theorem sp_MD_frozen {l : Launch} (n : Nat) (a1 : Int32) (a2 : Int32) (μ : kbM)  {x : Int32} (h : f_MD_frozen n a1 a2 = some x) : kbS l MX12_frozen 2 [.ref 57, .int a1, .int a2] μ (kbQe (some (.int x)) μ) := by
  refine kb_enter 1 rfl rfl ?_
  suffices H : ∀ (Q : kbQt) (P : Int32 → Prop), (∀ z : Int32, P z → Q (some (.int z)) μ) → kbG (f_MD_frozen n a1 a2) P → kbR l MX12_frozen 2 Q 0 [some (.ref 57), some (.int a1), some (.int a2), none] [] μ from H _ (fun z => z = x) (fun z e => by subst e; exact ⟨rfl, rfl⟩) ⟨x, h, rfl⟩
  clear h
  intro Q P hr h
  unfold f_MD_frozen at h
  refine r_iload_n dX12_frozen_0 rfl ?_
  obtain ⟨x1, hx0, h⟩ := kbG_bind h
  refine r_inv_i csX12_322 (sp_MD_sizeOf n a1 μ hx0) rfl rfl (Nat.le_of_ble_eq_true rfl) (Nat.le_of_ble_eq_true rfl) dX12_frozen_1 ?_
  refine r_istore_n dX12_frozen_4 (Nat.le_of_ble_eq_true rfl) rfl ?_
  refine r_iload_n dX12_frozen_5 rfl ?_
  refine r_if_ne 26 dX12_frozen_6 (by decide) (fun hc => ?_) (fun hc => ?_)
  · replace h := kbG_f hc h
    refine r_iload_n dX12_frozen_26 rfl ?_
    refine r_iconst 1 dX12_frozen_27 (by decide) ?_
    refine r_icmp_ne 37 dX12_frozen_28 (by decide) (fun hc => ?_) (fun hc => ?_)
    · replace h := kbG_f hc h
      refine r_iload_n dX12_frozen_37 rfl ?_
      refine r_iconst 2 dX12_frozen_38 (by decide) ?_
      refine r_icmp_ne 59 dX12_frozen_39 (by decide) (fun hc => ?_) (fun hc => ?_)
      · replace h := kbG_f hc h
        refine r_le [none, some (.int a1), none, none] ⟨rfl, trivial⟩ ?_
        exact jnR_MD_frozen_59 n a1 μ (hr := hr) h
      · replace h := kbG_t hc h
        refine r_iload_n dX12_frozen_42 rfl ?_
        refine r_bipush 12 dX12_frozen_43 (by decide) ?_
        refine r_icmp_ge 59 dX12_frozen_45 (by decide) (fun hc => ?_) (fun hc => ?_)
        · replace h := kbG_t hc h
          refine r_le [none, some (.int a1), none, none] ⟨rfl, trivial⟩ ?_
          exact jnR_MD_frozen_59 n a1 μ (hr := hr) h
        · replace h := kbG_f hc h
          refine r_iconst 4 dX12_frozen_48 (by decide) ?_
          refine r_iload_n dX12_frozen_49 rfl ?_
          obtain ⟨x2, hx0, h⟩ := kbG_bind h
          refine r_inv_i csX12_408 (sp_MD_power n x1 μ hx0) rfl rfl (Nat.le_of_ble_eq_true rfl) (Nat.le_of_ble_eq_true rfl) dX12_frozen_50 ?_
          refine r_imul dX12_frozen_53 ?_
          refine r_iload_n dX12_frozen_54 rfl ?_
          refine r_iadd dX12_frozen_55 ?_
          refine r_goto 60 dX12_frozen_56 (by decide) ?_
          refine r_le [none, none, none, none] trivial ?_
          exact jnR_MD_frozen_60 n ((4 * x2) + a1) μ (hr := hr) h
    · replace h := kbG_t hc h
      refine r_iload_n dX12_frozen_31 rfl ?_
      refine r_iconst 5 dX12_frozen_32 (by decide) ?_
      refine r_idiv dX12_frozen_33 (by decide) ?_
      refine r_goto 60 dX12_frozen_34 (by decide) ?_
      refine r_le [none, none, none, none] trivial ?_
      exact jnR_MD_frozen_60 n (a1 / 5) μ (hr := hr) h
  · replace h := kbG_t hc h
    refine r_iload_n dX12_frozen_9 rfl ?_
    refine r_if_ne 17 dX12_frozen_10 (by decide) (fun hc => ?_) (fun hc => ?_)
    · replace h := kbG_f hc h
      refine r_iload_n dX12_frozen_17 rfl ?_
      refine r_iload_n dX12_frozen_18 rfl ?_
      refine r_iconst 1 dX12_frozen_19 (by decide) ?_
      refine r_isub dX12_frozen_20 ?_
      obtain ⟨x3, hx0, h⟩ := kbG_bind h
      refine r_inv_i csX12_408 (sp_MD_power n (x1 - 1) μ hx0) rfl rfl (Nat.le_of_ble_eq_true rfl) (Nat.le_of_ble_eq_true rfl) dX12_frozen_21 ?_
      obtain ⟨hz, h⟩ := kbG_if h
      refine r_rem dX12_frozen_24 (of_decide_eq_true hz) ?_
      refine r_le [none, none, none, none] trivial ?_
      exact jnR_MD_frozen_25 n (kbRem a1 x3) μ (hr := hr) h
    · replace h := kbG_t hc h
      refine r_iconst 0 dX12_frozen_13 (by decide) ?_
      refine r_goto 25 dX12_frozen_14 (by decide) ?_
      refine r_le [none, none, none, none] trivial ?_
      exact jnR_MD_frozen_25 n 0 μ (hr := hr) h
def jn_MD_frost_170 (n : Nat) (rec : Int32 → Int32 → Int32 → Int32 → kbM → Option (Int32 × Int32 × Int32 × kbM)) (v2 : Int32) (v3 : Int32) (v4 : Int32) (v5 : Int32) (v6 : Int32) (v7 : Int32) (μ : kbM) : Option (Int32 × Int32 × Int32 × kbM) :=
  rec v4 v5 v6 (v7 + 1) μ
theorem jnR_MD_frost_170 {l : Launch} (n : Nat)   (v2 : Int32) (v3 : Int32) (v4 : Int32) (v5 : Int32) (v6 : Int32) (v7 : Int32) (μ : kbM) {Q : kbQt} {P : Int32 × Int32 × Int32 × kbM → Prop} (hx : ∀ z : Int32 × Int32 × Int32 × kbM, P (z) → kbR l MX12_frost 5 Q 176 [none, none, none, some (.int v3), some (.int z.1), some (.int z.2.1), some (.int z.2.2.1), none, none, none, none] [] z.2.2.2) {rec : Int32 → Int32 → Int32 → Int32 → kbM → Option (Int32 × Int32 × Int32 × kbM)} (hrec : ∀ (v4 : Int32) (v5 : Int32) (v6 : Int32) (v7 : Int32) (μ : kbM), kbG (rec v4 v5 v6 v7 μ) P → kbR l MX12_frost 5 Q 58 [some (.ref 57), none, some (.int v2), some (.int v3), some (.int v4), some (.int v5), some (.int v6), some (.int v7), none, none, none] [] μ) (h : kbG (jn_MD_frost_170 n rec v2 v3 v4 v5 v6 v7 μ) P) : kbR l MX12_frost 5 Q 170 [some (.ref 57), none, some (.int v2), some (.int v3), some (.int v4), some (.int v5), some (.int v6), some (.int v7), none, none, none] [] μ := by
  unfold jn_MD_frost_170 at h
  refine r_iinc 1 dX12_frost_170 rfl (by decide) (Nat.le_of_ble_eq_true rfl) rfl ?_
  refine r_goto 58 dX12_frost_173 (by decide) ?_
  refine r_le [some (.ref 57), none, some (.int v2), some (.int v3), some (.int v4), some (.int v5), some (.int v6), some (.int (v7 + 1)), none, none, none] ⟨rfl, ⟨rfl, ⟨rfl, ⟨rfl, ⟨rfl, ⟨rfl, ⟨rfl, trivial⟩⟩⟩⟩⟩⟩⟩ ?_
  exact hrec v4 v5 v6 (v7 + 1) μ h
def jn_MD_frost_138 (n : Nat) (rec : Int32 → Int32 → Int32 → Int32 → kbM → Option (Int32 × Int32 × Int32 × kbM)) (v2 : Int32) (v3 : Int32) (v4 : Int32) (v5 : Int32) (v7 : Int32) (v9 : Int32) (v10 : Int32) (w0 : Int32) (w1 : Int32) (μ : kbM) : Option (Int32 × Int32 × Int32 × kbM) :=
  (f_MD_nearestTo n v10 μ).bind fun x8 =>
  if x8.1 = v9 then
    kbIf (kbIn v9 10) <|
    jn_MD_frost_170 n rec v2 v3 (v4 + 1) (v5 + (x8.2.1 72 v9.toNatClampNeg)) (w0 + w1) v7 x8.2
  else
    jn_MD_frost_170 n rec v2 v3 v4 v5 (w0 + w1) v7 x8.2
theorem jnR_MD_frost_138 {l : Launch} (n : Nat)   (v2 : Int32) (v3 : Int32) (v4 : Int32) (v5 : Int32) (v7 : Int32) (v9 : Int32) (v10 : Int32) (w0 : Int32) (w1 : Int32) (μ : kbM) {Q : kbQt} {P : Int32 × Int32 × Int32 × kbM → Prop} (hx : ∀ z : Int32 × Int32 × Int32 × kbM, P (z) → kbR l MX12_frost 5 Q 176 [none, none, none, some (.int v3), some (.int z.1), some (.int z.2.1), some (.int z.2.2.1), none, none, none, none] [] z.2.2.2) {rec : Int32 → Int32 → Int32 → Int32 → kbM → Option (Int32 × Int32 × Int32 × kbM)} (hrec : ∀ (v4 : Int32) (v5 : Int32) (v6 : Int32) (v7 : Int32) (μ : kbM), kbG (rec v4 v5 v6 v7 μ) P → kbR l MX12_frost 5 Q 58 [some (.ref 57), none, some (.int v2), some (.int v3), some (.int v4), some (.int v5), some (.int v6), some (.int v7), none, none, none] [] μ) (h : kbG (jn_MD_frost_138 n rec v2 v3 v4 v5 v7 v9 v10 w0 w1 μ) P) : kbR l MX12_frost 5 Q 138 [some (.ref 57), none, some (.int v2), some (.int v3), some (.int v4), some (.int v5), none, some (.int v7), none, some (.int v9), some (.int v10)] [.int w1, .int w0] μ := by
  unfold jn_MD_frost_138 at h
  refine r_iadd dX12_frost_138 ?_
  refine r_istore dX12_frost_139 (Nat.le_of_ble_eq_true rfl) rfl ?_
  refine r_aload_n dX12_frost_141 rfl ?_
  refine r_iload dX12_frost_142 rfl ?_
  obtain ⟨x8, hx0, h⟩ := kbG_bind h
  refine r_invV_i cvX12_379 sh57 rfl (sp_MD_nearestTo n v10 μ hx0) rfl rfl (Nat.le_of_ble_eq_true rfl) (Nat.le_of_ble_eq_true rfl) dX12_frost_144 ?_
  refine r_iload dX12_frost_147 rfl ?_
  refine r_icmp_eq 155 dX12_frost_149 (by decide) (fun hc => ?_) (fun hc => ?_)
  · replace h := kbG_t hc h
    refine r_iinc 1 dX12_frost_155 rfl (by decide) (Nat.le_of_ble_eq_true rfl) rfl ?_
    refine r_iload dX12_frost_158 rfl ?_
    refine r_aload_n dX12_frost_160 rfl ?_
    refine r_getR flX12_85 sh57 rfl dX12_frost_161 ?_
    refine r_iload dX12_frost_164 rfl ?_
    obtain ⟨hin, h⟩ := kbG_if h
    replace hin := kbIn_of hin
    refine q_iald v9.toNatClampNeg rfl sh72 hin dX12_frost_166 ?_
    refine r_iadd dX12_frost_167 ?_
    refine r_istore dX12_frost_168 (Nat.le_of_ble_eq_true rfl) rfl ?_
    refine r_le [some (.ref 57), none, some (.int v2), some (.int v3), some (.int (v4 + 1)), some (.int (v5 + (x8.2.1 72 v9.toNatClampNeg))), some (.int (w0 + w1)), some (.int v7), none, none, none] ⟨rfl, ⟨rfl, ⟨rfl, ⟨rfl, ⟨rfl, ⟨rfl, ⟨rfl, trivial⟩⟩⟩⟩⟩⟩⟩ ?_
    exact jnR_MD_frost_170 n v2 v3 (v4 + 1) (v5 + (x8.2.1 72 v9.toNatClampNeg)) (w0 + w1) v7 x8.2 (hx := hx) (hrec := hrec) h
  · replace h := kbG_f hc h
    refine r_goto 170 dX12_frost_152 (by decide) ?_
    refine r_le [some (.ref 57), none, some (.int v2), some (.int v3), some (.int v4), some (.int v5), some (.int (w0 + w1)), some (.int v7), none, none, none] ⟨rfl, ⟨rfl, ⟨rfl, ⟨rfl, ⟨rfl, ⟨rfl, ⟨rfl, trivial⟩⟩⟩⟩⟩⟩⟩ ?_
    exact jnR_MD_frost_170 n v2 v3 v4 v5 (w0 + w1) v7 x8.2 (hx := hx) (hrec := hrec) h
def lp_MD_frost_58 (n : Nat) (v2 : Int32) (v3 : Int32) : Nat → Int32 → Int32 → Int32 → Int32 → kbM → Option (Int32 × Int32 × Int32 × kbM)
  | 0, _, _, _, _, _ => none
  | k + 1, v4, v5, v6, v7, μ =>
    if v2 ≤ v7 then
      some ((v4, v5, v6, μ))
    else
      if (μ.1 61 1) ≤ 0 then
        some ((v4, v5, v6, μ))
      else
        if (μ.1 57 27) ≤ 0 then
          some ((v4, v5, v6, μ))
        else
          (f_MD_drawOf (μ.1 61 1) μ).bind fun x3 =>
          (f_MD_drawOf (x3.2.1 57 27) x3.2).bind fun x4 =>
          kbIf (kbIn x4.1 10) <|
          (f_MD_heardAt n x3.1 (x4.2.1 70 x4.1.toNatClampNeg) x4.2).bind fun x5 =>
          (f_MD_drawOf 4 x4.2).bind fun x6 =>
          (f_MD_frozen n x5 x6.1).bind fun x7 =>
          if x7 = 0 then
            jn_MD_frost_138 n (lp_MD_frost_58 n v2 v3 k) v2 v3 v4 v5 v7 x4.1 x7 v6 1 x6.2
          else
            jn_MD_frost_138 n (lp_MD_frost_58 n v2 v3 k) v2 v3 v4 v5 v7 x4.1 x7 v6 0 x6.2
theorem lpR_MD_frost_58 {l : Launch} (n : Nat) (v2 : Int32) (v3 : Int32)  {Q : kbQt} {P : Int32 × Int32 × Int32 × kbM → Prop} (hx : ∀ z : Int32 × Int32 × Int32 × kbM, P (z) → kbR l MX12_frost 5 Q 176 [none, none, none, some (.int v3), some (.int z.1), some (.int z.2.1), some (.int z.2.2.1), none, none, none, none] [] z.2.2.2) : ∀ (k : Nat) (v4 : Int32) (v5 : Int32) (v6 : Int32) (v7 : Int32) (μ : kbM), kbG (lp_MD_frost_58 n v2 v3 k v4 v5 v6 v7 μ) P → kbR l MX12_frost 5 Q 58 [some (.ref 57), none, some (.int v2), some (.int v3), some (.int v4), some (.int v5), some (.int v6), some (.int v7), none, none, none] [] μ := by
  intro k
  induction k with
  | zero => intro v4 v5 v6 v7 μ h; exact absurd h kbG_none
  | succ k ih =>
    intro v4 v5 v6 v7 μ h
    unfold lp_MD_frost_58 at h
    refine r_iload dX12_frost_58 rfl ?_
    refine r_iload_n dX12_frost_60 rfl ?_
    refine r_icmp_ge 176 dX12_frost_61 (by decide) (fun hc => ?_) (fun hc => ?_)
    · replace h := kbG_t hc h
      refine r_le [none, none, none, some (.int v3), some (.int v4), some (.int v5), some (.int v6), none, none, none, none] ⟨rfl, ⟨rfl, ⟨rfl, ⟨rfl, trivial⟩⟩⟩⟩ ?_
      exact hx ((v4, v5, v6, μ)) (kbG_some h)
    · replace h := kbG_f hc h
      refine r_aload_n dX12_frost_64 rfl ?_
      refine r_getR flX12_47 sh57 rfl dX12_frost_65 ?_
      refine r_iconst 1 dX12_frost_68 (by decide) ?_
      have hin : vp_in 1 6 := kbIn_of (by decide)
      refine q_iald 1 (by decide) sh61 hin dX12_frost_69 ?_
      refine r_if_le 176 dX12_frost_70 (by decide) (fun hc => ?_) (fun hc => ?_)
      · replace h := kbG_t hc h
        refine r_le [none, none, none, some (.int v3), some (.int v4), some (.int v5), some (.int v6), none, none, none, none] ⟨rfl, ⟨rfl, ⟨rfl, ⟨rfl, trivial⟩⟩⟩⟩ ?_
        exact hx ((v4, v5, v6, μ)) (kbG_some h)
      · replace h := kbG_f hc h
        refine r_aload_n dX12_frost_73 rfl ?_
        refine r_getI flX12_162 sh57 rfl dX12_frost_74 ?_
        refine r_if_le 176 dX12_frost_77 (by decide) (fun hc => ?_) (fun hc => ?_)
        · replace h := kbG_t hc h
          refine r_le [none, none, none, some (.int v3), some (.int v4), some (.int v5), some (.int v6), none, none, none, none] ⟨rfl, ⟨rfl, ⟨rfl, ⟨rfl, trivial⟩⟩⟩⟩ ?_
          exact hx ((v4, v5, v6, μ)) (kbG_some h)
        · replace h := kbG_f hc h
          refine r_aload_n dX12_frost_80 rfl ?_
          refine r_aload_n dX12_frost_81 rfl ?_
          refine r_getR flX12_47 sh57 rfl dX12_frost_82 ?_
          refine r_iconst 1 dX12_frost_85 (by decide) ?_
          have hin : vp_in 1 6 := kbIn_of (by decide)
          refine q_iald 1 (by decide) sh61 hin dX12_frost_86 ?_
          obtain ⟨x3, hx0, h⟩ := kbG_bind h
          refine r_invV_i cvX12_459 sh57 rfl (sp_MD_drawOf (μ.1 61 1) μ hx0) rfl rfl (Nat.le_of_ble_eq_true rfl) (Nat.le_of_ble_eq_true rfl) dX12_frost_87 ?_
          refine r_istore dX12_frost_90 (Nat.le_of_ble_eq_true rfl) rfl ?_
          refine r_aload_n dX12_frost_92 rfl ?_
          refine r_aload_n dX12_frost_93 rfl ?_
          refine r_getI flX12_162 sh57 rfl dX12_frost_94 ?_
          obtain ⟨x4, hx0, h⟩ := kbG_bind h
          refine r_invV_i cvX12_459 sh57 rfl (sp_MD_drawOf (x3.2.1 57 27) x3.2 hx0) rfl rfl (Nat.le_of_ble_eq_true rfl) (Nat.le_of_ble_eq_true rfl) dX12_frost_97 ?_
          refine r_istore dX12_frost_100 (Nat.le_of_ble_eq_true rfl) rfl ?_
          refine r_aload_n dX12_frost_102 rfl ?_
          refine r_aload_n dX12_frost_103 rfl ?_
          refine r_iload dX12_frost_104 rfl ?_
          refine r_aload_n dX12_frost_106 rfl ?_
          refine r_getR flX12_79 sh57 rfl dX12_frost_107 ?_
          refine r_iload dX12_frost_110 rfl ?_
          obtain ⟨hin, h⟩ := kbG_if h
          replace hin := kbIn_of hin
          refine q_iald x4.1.toNatClampNeg rfl sh70 hin dX12_frost_112 ?_
          obtain ⟨x5, hx0, h⟩ := kbG_bind h
          refine r_invV_i cvX12_328 sh57 rfl (sp_MD_heardAt n x3.1 (x4.2.1 70 x4.1.toNatClampNeg) x4.2 hx0) rfl rfl (Nat.le_of_ble_eq_true rfl) (Nat.le_of_ble_eq_true rfl) dX12_frost_113 ?_
          refine r_aload_n dX12_frost_116 rfl ?_
          refine r_iconst 4 dX12_frost_117 (by decide) ?_
          obtain ⟨x6, hx0, h⟩ := kbG_bind h
          refine r_invV_i cvX12_459 sh57 rfl (sp_MD_drawOf 4 x4.2 hx0) rfl rfl (Nat.le_of_ble_eq_true rfl) (Nat.le_of_ble_eq_true rfl) dX12_frost_118 ?_
          obtain ⟨x7, hx0, h⟩ := kbG_bind h
          refine r_invV_i cvX12_462 sh57 rfl (sp_MD_frozen n x5 x6.1 x6.2 hx0) rfl rfl (Nat.le_of_ble_eq_true rfl) (Nat.le_of_ble_eq_true rfl) dX12_frost_121 ?_
          refine r_istore dX12_frost_124 (Nat.le_of_ble_eq_true rfl) rfl ?_
          refine r_iload dX12_frost_126 rfl ?_
          refine r_iload dX12_frost_128 rfl ?_
          refine r_if_ne 137 dX12_frost_130 (by decide) (fun hc => ?_) (fun hc => ?_)
          · replace h := kbG_f hc h
            refine r_iconst 0 dX12_frost_137 (by decide) ?_
            refine r_le [some (.ref 57), none, some (.int v2), some (.int v3), some (.int v4), some (.int v5), none, some (.int v7), none, some (.int x4.1), some (.int x7)] ⟨rfl, ⟨rfl, ⟨rfl, ⟨rfl, ⟨rfl, ⟨rfl, ⟨rfl, ⟨rfl, trivial⟩⟩⟩⟩⟩⟩⟩⟩ ?_
            exact jnR_MD_frost_138 n v2 v3 v4 v5 v7 x4.1 x7 v6 0 x6.2 (hx := hx) (hrec := ih) h
          · replace h := kbG_t hc h
            refine r_iconst 1 dX12_frost_133 (by decide) ?_
            refine r_goto 138 dX12_frost_134 (by decide) ?_
            refine r_le [some (.ref 57), none, some (.int v2), some (.int v3), some (.int v4), some (.int v5), none, some (.int v7), none, some (.int x4.1), some (.int x7)] ⟨rfl, ⟨rfl, ⟨rfl, ⟨rfl, ⟨rfl, ⟨rfl, ⟨rfl, ⟨rfl, trivial⟩⟩⟩⟩⟩⟩⟩⟩ ?_
            exact jnR_MD_frost_138 n v2 v3 v4 v5 v7 x4.1 x7 v6 1 x6.2 (hx := hx) (hrec := ih) h
def jn_MD_frost_197 (n : Nat) (w0 : Int32) (μ : kbM) : Option (Int32 × kbM) :=
  some ((w0, μ))
theorem jnR_MD_frost_197 {l : Launch} (n : Nat)   (w0 : Int32) (μ : kbM) {Q : kbQt} {P : Int32 × kbM → Prop} (hr : ∀ z : Int32 × kbM, P z → Q (some (.int z.1)) z.2) (h : kbG (jn_MD_frost_197 n w0 μ) P) : kbR l MX12_frost 5 Q 197 [none, none, none, none, none, none, none, none, none, none, none] [.int w0] μ := by
  unfold jn_MD_frost_197 at h
  exact r_iret rfl dX12_frost_197 (hr ((w0, μ)) (kbG_some h))
def jn_MD_frost_176 (n : Nat) (v3 : Int32) (v4 : Int32) (v5 : Int32) (v6 : Int32) (μ : kbM) : Option (Int32 × kbM) :=
  if v3 = 0 then
    jn_MD_frost_197 n v4 μ
  else
    if v3 = 1 then
      jn_MD_frost_197 n v5 μ
    else
      jn_MD_frost_197 n v6 μ
theorem jnR_MD_frost_176 {l : Launch} (n : Nat)   (v3 : Int32) (v4 : Int32) (v5 : Int32) (v6 : Int32) (μ : kbM) {Q : kbQt} {P : Int32 × kbM → Prop} (hr : ∀ z : Int32 × kbM, P z → Q (some (.int z.1)) z.2) (h : kbG (jn_MD_frost_176 n v3 v4 v5 v6 μ) P) : kbR l MX12_frost 5 Q 176 [none, none, none, some (.int v3), some (.int v4), some (.int v5), some (.int v6), none, none, none, none] [] μ := by
  unfold jn_MD_frost_176 at h
  refine r_iload_n dX12_frost_176 rfl ?_
  refine r_if_ne 185 dX12_frost_177 (by decide) (fun hc => ?_) (fun hc => ?_)
  · replace h := kbG_f hc h
    refine r_iload_n dX12_frost_185 rfl ?_
    refine r_iconst 1 dX12_frost_186 (by decide) ?_
    refine r_icmp_ne 195 dX12_frost_187 (by decide) (fun hc => ?_) (fun hc => ?_)
    · replace h := kbG_f hc h
      refine r_iload dX12_frost_195 rfl ?_
      refine r_le [none, none, none, none, none, none, none, none, none, none, none] trivial ?_
      exact jnR_MD_frost_197 n v6 μ (hr := hr) h
    · replace h := kbG_t hc h
      refine r_iload dX12_frost_190 rfl ?_
      refine r_goto 197 dX12_frost_192 (by decide) ?_
      refine r_le [none, none, none, none, none, none, none, none, none, none, none] trivial ?_
      exact jnR_MD_frost_197 n v5 μ (hr := hr) h
  · replace h := kbG_t hc h
    refine r_iload dX12_frost_180 rfl ?_
    refine r_goto 197 dX12_frost_182 (by decide) ?_
    refine r_le [none, none, none, none, none, none, none, none, none, none, none] trivial ?_
    exact jnR_MD_frost_197 n v4 μ (hr := hr) h
def f_MD_frost (n : Nat) (a1 : Int32) (a2 : Int32) (a3 : Int32) (μ : kbM) : Option (Int32 × kbM) :=
  (f_MD_isIn a3.toInt64 0 2).bind fun x1 =>
  if x1 = 0 then
    (f_MD_fail 1 (kbW μ 57 3 0)).bind fun x11 =>
    some ((x11.1, x11.2))
  else
    (f_MD_isIn a2.toInt64 0 60).bind fun x2 =>
    if x2 = 0 then
      (f_MD_fail 2 (kbW μ 57 3 0)).bind fun x10 =>
      some ((x10.1, x10.2))
    else
      (lp_MD_frost_58 n a2 a3 n 0 0 0 0 (kbW (kbW μ 57 3 0) 57 51 a1)).bind fun x9 =>
      jn_MD_frost_176 n a3 x9.1 x9.2.1 x9.2.2.1 x9.2.2.2
theorem sp_MD_frost {l : Launch} (n : Nat) (a1 : Int32) (a2 : Int32) (a3 : Int32) (μ : kbM)  {x : Int32 × kbM} (h : f_MD_frost n a1 a2 a3 μ = some x) : kbS l MX12_frost 5 [.ref 57, .int a1, .int a2, .int a3] μ (kbQe (some (.int x.1)) x.2) := by
  refine kb_enter 7 rfl rfl ?_
  suffices H : ∀ (Q : kbQt) (P : Int32 × kbM → Prop), (∀ z : Int32 × kbM, P z → Q (some (.int z.1)) z.2) → kbG (f_MD_frost n a1 a2 a3 μ) P → kbR l MX12_frost 5 Q 0 [some (.ref 57), some (.int a1), some (.int a2), some (.int a3), none, none, none, none, none, none, none] [] μ from H _ (fun z => z = x) (fun z e => by subst e; exact ⟨rfl, rfl⟩) ⟨x, h, rfl⟩
  clear h
  intro Q P hr h
  unfold f_MD_frost at h
  refine r_aload_n dX12_frost_0 rfl ?_
  refine r_iconst 0 dX12_frost_1 (by decide) ?_
  refine r_put flX12_159 sh57 rfl rfl rfl dX12_frost_2 ?_
  refine r_iload_n dX12_frost_5 rfl ?_
  refine r_i2l dX12_frost_6 ?_
  refine r_lconst 0 dX12_frost_7 (by decide) ?_
  refine r_ldc2 2 liX12_389 dX12_frost_8 ?_
  obtain ⟨x1, hx0, h⟩ := kbG_bind h
  refine r_inv_i csX12_165 (sp_MD_isIn a3.toInt64 0 2 (kbW μ 57 3 0) hx0) rfl rfl (Nat.le_of_ble_eq_true rfl) (Nat.le_of_ble_eq_true rfl) dX12_frost_11 ?_
  refine r_if_ne 23 dX12_frost_14 (by decide) (fun hc => ?_) (fun hc => ?_)
  · replace h := kbG_f hc h
    refine r_iload_n dX12_frost_23 rfl ?_
    refine r_i2l dX12_frost_24 ?_
    refine r_lconst 0 dX12_frost_25 (by decide) ?_
    refine r_ldc2 60 liX12_457 dX12_frost_26 ?_
    obtain ⟨x2, hx0, h⟩ := kbG_bind h
    refine r_inv_i csX12_165 (sp_MD_isIn a2.toInt64 0 60 (kbW μ 57 3 0) hx0) rfl rfl (Nat.le_of_ble_eq_true rfl) (Nat.le_of_ble_eq_true rfl) dX12_frost_29 ?_
    refine r_if_ne 41 dX12_frost_32 (by decide) (fun hc => ?_) (fun hc => ?_)
    · replace h := kbG_f hc h
      refine r_aload_n dX12_frost_41 rfl ?_
      refine r_iload_n dX12_frost_42 rfl ?_
      refine r_put flX12_453 sh57 rfl rfl rfl dX12_frost_43 ?_
      refine r_iconst 0 dX12_frost_46 (by decide) ?_
      refine r_istore dX12_frost_47 (Nat.le_of_ble_eq_true rfl) rfl ?_
      refine r_iconst 0 dX12_frost_49 (by decide) ?_
      refine r_istore dX12_frost_50 (Nat.le_of_ble_eq_true rfl) rfl ?_
      refine r_iconst 0 dX12_frost_52 (by decide) ?_
      refine r_istore dX12_frost_53 (Nat.le_of_ble_eq_true rfl) rfl ?_
      refine r_iconst 0 dX12_frost_55 (by decide) ?_
      refine r_istore dX12_frost_56 (Nat.le_of_ble_eq_true rfl) rfl ?_
      refine r_le [some (.ref 57), none, some (.int a2), some (.int a3), some (.int 0), some (.int 0), some (.int 0), some (.int 0), none, none, none] ⟨rfl, ⟨rfl, ⟨rfl, ⟨rfl, ⟨rfl, ⟨rfl, ⟨rfl, trivial⟩⟩⟩⟩⟩⟩⟩ ?_
      obtain ⟨x9, hx0, h⟩ := kbG_bind h
      refine lpR_MD_frost_58 n a2 a3 (P := fun z => x9 = z) (hx := fun z e => ?_) n _ _ _ _ _ ⟨_, hx0, rfl⟩
      subst e
      refine r_le [none, none, none, some (.int a3), some (.int x9.1), some (.int x9.2.1), some (.int x9.2.2.1), none, none, none, none] ⟨rfl, ⟨rfl, ⟨rfl, ⟨rfl, trivial⟩⟩⟩⟩ ?_
      exact jnR_MD_frost_176 n a3 x9.1 x9.2.1 x9.2.2.1 x9.2.2.2 (hr := hr) h
    · replace h := kbG_t hc h
      refine r_aload_n dX12_frost_35 rfl ?_
      refine r_iconst 2 dX12_frost_36 (by decide) ?_
      obtain ⟨x10, hx0, h⟩ := kbG_bind h
      refine r_invV_i cvX12_292 sh57 rfl (sp_MD_fail 2 (kbW μ 57 3 0) hx0) rfl rfl (Nat.le_of_ble_eq_true rfl) (Nat.le_of_ble_eq_true rfl) dX12_frost_37 ?_
      exact r_iret rfl dX12_frost_40 (hr ((x10.1, x10.2)) (kbG_some h))
  · replace h := kbG_t hc h
    refine r_aload_n dX12_frost_17 rfl ?_
    refine r_iconst 1 dX12_frost_18 (by decide) ?_
    obtain ⟨x11, hx0, h⟩ := kbG_bind h
    refine r_invV_i cvX12_292 sh57 rfl (sp_MD_fail 1 (kbW μ 57 3 0) hx0) rfl rfl (Nat.le_of_ble_eq_true rfl) (Nat.le_of_ble_eq_true rfl) dX12_frost_19 ?_
    exact r_iret rfl dX12_frost_22 (hr ((x11.1, x11.2)) (kbG_some h))
