theorem dX3_can_0 : decode cX3_can 0 = .ok (.aload_n 0, 1) := by decide +kernel
theorem dX3_can_1 : decode cX3_can 1 = .ok (.getfield 18, 3) := by decide +kernel
theorem dX3_can_4 : decode cX3_can 4 = .ok (.iload_n 1, 1) := by decide +kernel
theorem dX3_can_5 : decode cX3_can 5 = .ok (.aload_n 0, 1) := by decide +kernel
theorem dX3_can_6 : decode cX3_can 6 = .ok (.getfield 32, 3) := by decide +kernel
theorem dX3_can_9 : decode cX3_can 9 = .ok (.getfield 48, 3) := by decide +kernel
theorem dX3_can_12 : decode cX3_can 12 = .ok (.iload_n 2, 1) := by decide +kernel
theorem dX3_can_13 : decode cX3_can 13 = .ok (.iaload, 1) := by decide +kernel
theorem dX3_can_14 : decode cX3_can 14 = .ok (.invokevirtual 53, 3) := by decide +kernel
theorem dX3_can_17 : decode cX3_can 17 = .ok (.ireturn, 1) := by decide +kernel
theorem dX3_doorsThatCan_0 : decode cX3_doorsThatCan 0 = .ok (.iconst 0, 1) := by decide +kernel
theorem dX3_doorsThatCan_1 : decode cX3_doorsThatCan 1 = .ok (.istore_n 2, 1) := by decide +kernel
theorem dX3_doorsThatCan_2 : decode cX3_doorsThatCan 2 = .ok (.iconst 0, 1) := by decide +kernel
theorem dX3_doorsThatCan_3 : decode cX3_doorsThatCan 3 = .ok (.istore_n 3, 1) := by decide +kernel
theorem dX3_doorsThatCan_4 : decode cX3_doorsThatCan 4 = .ok (.iload_n 3, 1) := by decide +kernel
theorem dX3_doorsThatCan_5 : decode cX3_doorsThatCan 5 = .ok (.aload_n 0, 1) := by decide +kernel
theorem dX3_doorsThatCan_6 : decode cX3_doorsThatCan 6 = .ok (.getfield 18, 3) := by decide +kernel
theorem dX3_doorsThatCan_9 : decode cX3_doorsThatCan 9 = .ok (.getfield 57, 3) := by decide +kernel
theorem dX3_doorsThatCan_12 : decode cX3_doorsThatCan 12 = .ok (.if_icmp .ge 28, 3) := by decide +kernel
theorem dX3_doorsThatCan_15 : decode cX3_doorsThatCan 15 = .ok (.iload_n 2, 1) := by decide +kernel
theorem dX3_doorsThatCan_16 : decode cX3_doorsThatCan 16 = .ok (.aload_n 0, 1) := by decide +kernel
theorem dX3_doorsThatCan_17 : decode cX3_doorsThatCan 17 = .ok (.iload_n 3, 1) := by decide +kernel
theorem dX3_doorsThatCan_18 : decode cX3_doorsThatCan 18 = .ok (.iload_n 1, 1) := by decide +kernel
theorem dX3_doorsThatCan_19 : decode cX3_doorsThatCan 19 = .ok (.invokevirtual 61, 3) := by decide +kernel
theorem dX3_doorsThatCan_22 : decode cX3_doorsThatCan 22 = .ok (.ifCond .eq 9, 3) := by decide +kernel
theorem dX3_doorsThatCan_25 : decode cX3_doorsThatCan 25 = .ok (.iconst 1, 1) := by decide +kernel
theorem dX3_doorsThatCan_26 : decode cX3_doorsThatCan 26 = .ok (.iload_n 3, 1) := by decide +kernel
theorem dX3_doorsThatCan_27 : decode cX3_doorsThatCan 27 = .ok (.ishl, 1) := by decide +kernel
theorem dX3_doorsThatCan_28 : decode cX3_doorsThatCan 28 = .ok (.goto 4, 3) := by decide +kernel
theorem dX3_doorsThatCan_31 : decode cX3_doorsThatCan 31 = .ok (.iconst 0, 1) := by decide +kernel
theorem dX3_doorsThatCan_32 : decode cX3_doorsThatCan 32 = .ok (.ior, 1) := by decide +kernel
theorem dX3_doorsThatCan_33 : decode cX3_doorsThatCan 33 = .ok (.istore_n 2, 1) := by decide +kernel
theorem dX3_doorsThatCan_34 : decode cX3_doorsThatCan 34 = .ok (.iinc 3 1, 3) := by decide +kernel
theorem dX3_doorsThatCan_37 : decode cX3_doorsThatCan 37 = .ok (.goto (-33), 3) := by decide +kernel
theorem dX3_doorsThatCan_40 : decode cX3_doorsThatCan 40 = .ok (.iload_n 2, 1) := by decide +kernel
theorem dX3_doorsThatCan_41 : decode cX3_doorsThatCan 41 = .ok (.ireturn, 1) := by decide +kernel
theorem dX3_wordsOfHand_0 : decode cX3_wordsOfHand 0 = .ok (.iconst 0, 1) := by decide +kernel
theorem dX3_wordsOfHand_1 : decode cX3_wordsOfHand 1 = .ok (.istore_n 2, 1) := by decide +kernel
theorem dX3_wordsOfHand_2 : decode cX3_wordsOfHand 2 = .ok (.iconst 0, 1) := by decide +kernel
theorem dX3_wordsOfHand_3 : decode cX3_wordsOfHand 3 = .ok (.istore_n 3, 1) := by decide +kernel
theorem dX3_wordsOfHand_4 : decode cX3_wordsOfHand 4 = .ok (.iload_n 3, 1) := by decide +kernel
theorem dX3_wordsOfHand_5 : decode cX3_wordsOfHand 5 = .ok (.aload_n 0, 1) := by decide +kernel
theorem dX3_wordsOfHand_6 : decode cX3_wordsOfHand 6 = .ok (.getfield 32, 3) := by decide +kernel
theorem dX3_wordsOfHand_9 : decode cX3_wordsOfHand 9 = .ok (.getfield 62, 3) := by decide +kernel
theorem dX3_wordsOfHand_12 : decode cX3_wordsOfHand 12 = .ok (.if_icmp .ge 28, 3) := by decide +kernel
theorem dX3_wordsOfHand_15 : decode cX3_wordsOfHand 15 = .ok (.iload_n 2, 1) := by decide +kernel
theorem dX3_wordsOfHand_16 : decode cX3_wordsOfHand 16 = .ok (.aload_n 0, 1) := by decide +kernel
theorem dX3_wordsOfHand_17 : decode cX3_wordsOfHand 17 = .ok (.iload_n 1, 1) := by decide +kernel
theorem dX3_wordsOfHand_18 : decode cX3_wordsOfHand 18 = .ok (.iload_n 3, 1) := by decide +kernel
theorem dX3_wordsOfHand_19 : decode cX3_wordsOfHand 19 = .ok (.invokevirtual 61, 3) := by decide +kernel
theorem dX3_wordsOfHand_22 : decode cX3_wordsOfHand 22 = .ok (.ifCond .eq 9, 3) := by decide +kernel
theorem dX3_wordsOfHand_25 : decode cX3_wordsOfHand 25 = .ok (.iconst 1, 1) := by decide +kernel
theorem dX3_wordsOfHand_26 : decode cX3_wordsOfHand 26 = .ok (.iload_n 3, 1) := by decide +kernel
theorem dX3_wordsOfHand_27 : decode cX3_wordsOfHand 27 = .ok (.ishl, 1) := by decide +kernel
theorem dX3_wordsOfHand_28 : decode cX3_wordsOfHand 28 = .ok (.goto 4, 3) := by decide +kernel
theorem dX3_wordsOfHand_31 : decode cX3_wordsOfHand 31 = .ok (.iconst 0, 1) := by decide +kernel
theorem dX3_wordsOfHand_32 : decode cX3_wordsOfHand 32 = .ok (.ior, 1) := by decide +kernel
theorem dX3_wordsOfHand_33 : decode cX3_wordsOfHand 33 = .ok (.istore_n 2, 1) := by decide +kernel
theorem dX3_wordsOfHand_34 : decode cX3_wordsOfHand 34 = .ok (.iinc 3 1, 3) := by decide +kernel
theorem dX3_wordsOfHand_37 : decode cX3_wordsOfHand 37 = .ok (.goto (-33), 3) := by decide +kernel
theorem dX3_wordsOfHand_40 : decode cX3_wordsOfHand 40 = .ok (.iload_n 2, 1) := by decide +kernel
theorem dX3_wordsOfHand_41 : decode cX3_wordsOfHand 41 = .ok (.ireturn, 1) := by decide +kernel
theorem dX3_hearing_0 : decode cX3_hearing 0 = .ok (.aload_n 0, 1) := by decide +kernel
theorem dX3_hearing_1 : decode cX3_hearing 1 = .ok (.getfield 18, 3) := by decide +kernel
theorem dX3_hearing_4 : decode cX3_hearing 4 = .ok (.iload_n 1, 1) := by decide +kernel
theorem dX3_hearing_5 : decode cX3_hearing 5 = .ok (.iload_n 2, 1) := by decide +kernel
theorem dX3_hearing_6 : decode cX3_hearing 6 = .ok (.invokevirtual 33, 3) := by decide +kernel
theorem dX3_hearing_9 : decode cX3_hearing 9 = .ok (.istore_n 3, 1) := by decide +kernel
theorem dX3_hearing_10 : decode cX3_hearing 10 = .ok (.aload_n 0, 1) := by decide +kernel
theorem dX3_hearing_11 : decode cX3_hearing 11 = .ok (.getfield 22, 3) := by decide +kernel
theorem dX3_hearing_14 : decode cX3_hearing 14 = .ok (.iload_n 1, 1) := by decide +kernel
theorem dX3_hearing_15 : decode cX3_hearing 15 = .ok (.invokevirtual 39, 3) := by decide +kernel
theorem dX3_hearing_18 : decode cX3_hearing 18 = .ok (.ifCond .eq 11, 3) := by decide +kernel
theorem dX3_hearing_21 : decode cX3_hearing 21 = .ok (.iload_n 3, 1) := by decide +kernel
theorem dX3_hearing_22 : decode cX3_hearing 22 = .ok (.iconst 1, 1) := by decide +kernel
theorem dX3_hearing_23 : decode cX3_hearing 23 = .ok (.invokestatic 45, 3) := by decide +kernel
theorem dX3_hearing_26 : decode cX3_hearing 26 = .ok (.goto 4, 3) := by decide +kernel
theorem dX3_hearing_29 : decode cX3_hearing 29 = .ok (.iload_n 3, 1) := by decide +kernel
theorem dX3_hearing_30 : decode cX3_hearing 30 = .ok (.ireturn, 1) := by decide +kernel
theorem dX3_hearWords_0 : decode cX3_hearWords 0 = .ok (.iconst 0, 1) := by decide +kernel
theorem dX3_hearWords_1 : decode cX3_hearWords 1 = .ok (.istore_n 2, 1) := by decide +kernel
theorem dX3_hearWords_2 : decode cX3_hearWords 2 = .ok (.iload_n 2, 1) := by decide +kernel
theorem dX3_hearWords_3 : decode cX3_hearWords 3 = .ok (.aload_n 0, 1) := by decide +kernel
theorem dX3_hearWords_4 : decode cX3_hearWords 4 = .ok (.getfield 32, 3) := by decide +kernel
theorem dX3_hearWords_7 : decode cX3_hearWords 7 = .ok (.getfield 62, 3) := by decide +kernel
theorem dX3_hearWords_10 : decode cX3_hearWords 10 = .ok (.if_icmp .ge 34, 3) := by decide +kernel
theorem dX3_hearWords_13 : decode cX3_hearWords 13 = .ok (.aload_n 0, 1) := by decide +kernel
theorem dX3_hearWords_14 : decode cX3_hearWords 14 = .ok (.getfield 9, 3) := by decide +kernel
theorem dX3_hearWords_17 : decode cX3_hearWords 17 = .ok (.iload_n 1, 1) := by decide +kernel
theorem dX3_hearWords_18 : decode cX3_hearWords 18 = .ok (.bipush 10, 2) := by decide +kernel
theorem dX3_hearWords_20 : decode cX3_hearWords 20 = .ok (.imul, 1) := by decide +kernel
theorem dX3_hearWords_21 : decode cX3_hearWords 21 = .ok (.iload_n 2, 1) := by decide +kernel
theorem dX3_hearWords_22 : decode cX3_hearWords 22 = .ok (.iadd, 1) := by decide +kernel
theorem dX3_hearWords_23 : decode cX3_hearWords 23 = .ok (.aload_n 0, 1) := by decide +kernel
theorem dX3_hearWords_24 : decode cX3_hearWords 24 = .ok (.iload_n 1, 1) := by decide +kernel
theorem dX3_hearWords_25 : decode cX3_hearWords 25 = .ok (.aload_n 0, 1) := by decide +kernel
theorem dX3_hearWords_26 : decode cX3_hearWords 26 = .ok (.getfield 32, 3) := by decide +kernel
theorem dX3_hearWords_29 : decode cX3_hearWords 29 = .ok (.getfield 48, 3) := by decide +kernel
theorem dX3_hearWords_32 : decode cX3_hearWords 32 = .ok (.iload_n 2, 1) := by decide +kernel
theorem dX3_hearWords_33 : decode cX3_hearWords 33 = .ok (.iaload, 1) := by decide +kernel
theorem dX3_hearWords_34 : decode cX3_hearWords 34 = .ok (.invokevirtual 71, 3) := by decide +kernel
theorem dX3_hearWords_37 : decode cX3_hearWords 37 = .ok (.iastore, 1) := by decide +kernel
theorem dX3_hearWords_38 : decode cX3_hearWords 38 = .ok (.iinc 2 1, 3) := by decide +kernel
theorem dX3_hearWords_41 : decode cX3_hearWords 41 = .ok (.goto (-39), 3) := by decide +kernel
theorem dX3_hearWords_44 : decode cX3_hearWords 44 = .ok (.return_, 1) := by decide +kernel
theorem dX3_soundsAlike_0 : decode cX3_soundsAlike 0 = .ok (.aload_n 0, 1) := by decide +kernel
theorem dX3_soundsAlike_1 : decode cX3_soundsAlike 1 = .ok (.getfield 9, 3) := by decide +kernel
theorem dX3_soundsAlike_4 : decode cX3_soundsAlike 4 = .ok (.iload_n 1, 1) := by decide +kernel
theorem dX3_soundsAlike_5 : decode cX3_soundsAlike 5 = .ok (.bipush 10, 2) := by decide +kernel
theorem dX3_soundsAlike_7 : decode cX3_soundsAlike 7 = .ok (.imul, 1) := by decide +kernel
theorem dX3_soundsAlike_8 : decode cX3_soundsAlike 8 = .ok (.iload_n 2, 1) := by decide +kernel
theorem dX3_soundsAlike_9 : decode cX3_soundsAlike 9 = .ok (.iadd, 1) := by decide +kernel
theorem dX3_soundsAlike_10 : decode cX3_soundsAlike 10 = .ok (.iaload, 1) := by decide +kernel
theorem dX3_soundsAlike_11 : decode cX3_soundsAlike 11 = .ok (.aload_n 0, 1) := by decide +kernel
theorem dX3_soundsAlike_12 : decode cX3_soundsAlike 12 = .ok (.getfield 9, 3) := by decide +kernel
theorem dX3_soundsAlike_15 : decode cX3_soundsAlike 15 = .ok (.iload_n 1, 1) := by decide +kernel
theorem dX3_soundsAlike_16 : decode cX3_soundsAlike 16 = .ok (.bipush 10, 2) := by decide +kernel
theorem dX3_soundsAlike_18 : decode cX3_soundsAlike 18 = .ok (.imul, 1) := by decide +kernel
theorem dX3_soundsAlike_19 : decode cX3_soundsAlike 19 = .ok (.iload_n 3, 1) := by decide +kernel
theorem dX3_soundsAlike_20 : decode cX3_soundsAlike 20 = .ok (.iadd, 1) := by decide +kernel
theorem dX3_soundsAlike_21 : decode cX3_soundsAlike 21 = .ok (.iaload, 1) := by decide +kernel
theorem dX3_soundsAlike_22 : decode cX3_soundsAlike 22 = .ok (.if_icmp .ne 7, 3) := by decide +kernel
theorem dX3_soundsAlike_25 : decode cX3_soundsAlike 25 = .ok (.iconst 1, 1) := by decide +kernel
theorem dX3_soundsAlike_26 : decode cX3_soundsAlike 26 = .ok (.goto 4, 3) := by decide +kernel
theorem dX3_soundsAlike_29 : decode cX3_soundsAlike 29 = .ok (.iconst 0, 1) := by decide +kernel
theorem dX3_soundsAlike_30 : decode cX3_soundsAlike 30 = .ok (.ireturn, 1) := by decide +kernel
theorem dX3_confounded_0 : decode cX3_confounded 0 = .ok (.aload_n 0, 1) := by decide +kernel
theorem dX3_confounded_1 : decode cX3_confounded 1 = .ok (.iload_n 1, 1) := by decide +kernel
theorem dX3_confounded_2 : decode cX3_confounded 2 = .ok (.invokevirtual 63, 3) := by decide +kernel
theorem dX3_confounded_5 : decode cX3_confounded 5 = .ok (.iconst 0, 1) := by decide +kernel
theorem dX3_confounded_6 : decode cX3_confounded 6 = .ok (.istore_n 2, 1) := by decide +kernel
theorem dX3_confounded_7 : decode cX3_confounded 7 = .ok (.iconst 0, 1) := by decide +kernel
theorem dX3_confounded_8 : decode cX3_confounded 8 = .ok (.istore_n 3, 1) := by decide +kernel
theorem dX3_confounded_9 : decode cX3_confounded 9 = .ok (.iload_n 3, 1) := by decide +kernel
theorem dX3_confounded_10 : decode cX3_confounded 10 = .ok (.aload_n 0, 1) := by decide +kernel
theorem dX3_confounded_11 : decode cX3_confounded 11 = .ok (.getfield 32, 3) := by decide +kernel
theorem dX3_confounded_14 : decode cX3_confounded 14 = .ok (.getfield 62, 3) := by decide +kernel
theorem dX3_confounded_17 : decode cX3_confounded 17 = .ok (.if_icmp .ge 51, 3) := by decide +kernel
theorem dX3_confounded_20 : decode cX3_confounded 20 = .ok (.iload_n 3, 1) := by decide +kernel
theorem dX3_confounded_21 : decode cX3_confounded 21 = .ok (.iconst 1, 1) := by decide +kernel
theorem dX3_confounded_22 : decode cX3_confounded 22 = .ok (.iadd, 1) := by decide +kernel
theorem dX3_confounded_23 : decode cX3_confounded 23 = .ok (.istore 4, 2) := by decide +kernel
theorem dX3_confounded_25 : decode cX3_confounded 25 = .ok (.iload 4, 2) := by decide +kernel
theorem dX3_confounded_27 : decode cX3_confounded 27 = .ok (.aload_n 0, 1) := by decide +kernel
theorem dX3_confounded_28 : decode cX3_confounded 28 = .ok (.getfield 32, 3) := by decide +kernel
theorem dX3_confounded_31 : decode cX3_confounded 31 = .ok (.getfield 62, 3) := by decide +kernel
theorem dX3_confounded_34 : decode cX3_confounded 34 = .ok (.if_icmp .ge 28, 3) := by decide +kernel
theorem dX3_confounded_37 : decode cX3_confounded 37 = .ok (.iload_n 2, 1) := by decide +kernel
theorem dX3_confounded_38 : decode cX3_confounded 38 = .ok (.aload_n 0, 1) := by decide +kernel
theorem dX3_confounded_39 : decode cX3_confounded 39 = .ok (.iload_n 1, 1) := by decide +kernel
theorem dX3_confounded_40 : decode cX3_confounded 40 = .ok (.iload_n 3, 1) := by decide +kernel
theorem dX3_confounded_41 : decode cX3_confounded 41 = .ok (.iload 4, 2) := by decide +kernel
theorem dX3_confounded_43 : decode cX3_confounded 43 = .ok (.invokevirtual 67, 3) := by decide +kernel
theorem dX3_confounded_46 : decode cX3_confounded 46 = .ok (.ifCond .eq 7, 3) := by decide +kernel
theorem dX3_confounded_49 : decode cX3_confounded 49 = .ok (.iconst 1, 1) := by decide +kernel
theorem dX3_confounded_50 : decode cX3_confounded 50 = .ok (.goto 4, 3) := by decide +kernel
theorem dX3_confounded_53 : decode cX3_confounded 53 = .ok (.iconst 0, 1) := by decide +kernel
theorem dX3_confounded_54 : decode cX3_confounded 54 = .ok (.iadd, 1) := by decide +kernel
theorem dX3_confounded_55 : decode cX3_confounded 55 = .ok (.istore_n 2, 1) := by decide +kernel
theorem dX3_confounded_56 : decode cX3_confounded 56 = .ok (.iinc 4 1, 3) := by decide +kernel
theorem dX3_confounded_59 : decode cX3_confounded 59 = .ok (.goto (-34), 3) := by decide +kernel
theorem dX3_confounded_62 : decode cX3_confounded 62 = .ok (.iinc 3 1, 3) := by decide +kernel
theorem dX3_confounded_65 : decode cX3_confounded 65 = .ok (.goto (-56), 3) := by decide +kernel
theorem dX3_confounded_68 : decode cX3_confounded 68 = .ok (.iload_n 2, 1) := by decide +kernel
theorem dX3_confounded_69 : decode cX3_confounded 69 = .ok (.ireturn, 1) := by decide +kernel
theorem dX3_hearAll_0 : decode cX3_hearAll 0 = .ok (.iconst 0, 1) := by decide +kernel
theorem dX3_hearAll_1 : decode cX3_hearAll 1 = .ok (.istore_n 1, 1) := by decide +kernel
theorem dX3_hearAll_2 : decode cX3_hearAll 2 = .ok (.iload_n 1, 1) := by decide +kernel
theorem dX3_hearAll_3 : decode cX3_hearAll 3 = .ok (.aload_n 0, 1) := by decide +kernel
theorem dX3_hearAll_4 : decode cX3_hearAll 4 = .ok (.getfield 18, 3) := by decide +kernel
theorem dX3_hearAll_7 : decode cX3_hearAll 7 = .ok (.getfield 57, 3) := by decide +kernel
theorem dX3_hearAll_10 : decode cX3_hearAll 10 = .ok (.if_icmp .ge 14, 3) := by decide +kernel
theorem dX3_hearAll_13 : decode cX3_hearAll 13 = .ok (.aload_n 0, 1) := by decide +kernel
theorem dX3_hearAll_14 : decode cX3_hearAll 14 = .ok (.iload_n 1, 1) := by decide +kernel
theorem dX3_hearAll_15 : decode cX3_hearAll 15 = .ok (.invokevirtual 63, 3) := by decide +kernel
theorem dX3_hearAll_18 : decode cX3_hearAll 18 = .ok (.iinc 1 1, 3) := by decide +kernel
theorem dX3_hearAll_21 : decode cX3_hearAll 21 = .ok (.goto (-19), 3) := by decide +kernel
theorem dX3_hearAll_24 : decode cX3_hearAll 24 = .ok (.return_, 1) := by decide +kernel
theorem dX3_layTelling_0 : decode cX3_layTelling 0 = .ok (.iconst 0, 1) := by decide +kernel
theorem dX3_layTelling_1 : decode cX3_layTelling 1 = .ok (.istore_n 1, 1) := by decide +kernel
theorem dX3_layTelling_2 : decode cX3_layTelling 2 = .ok (.iconst 0, 1) := by decide +kernel
theorem dX3_layTelling_3 : decode cX3_layTelling 3 = .ok (.istore_n 2, 1) := by decide +kernel
theorem dX3_layTelling_4 : decode cX3_layTelling 4 = .ok (.iload_n 2, 1) := by decide +kernel
theorem dX3_layTelling_5 : decode cX3_layTelling 5 = .ok (.aload_n 0, 1) := by decide +kernel
theorem dX3_layTelling_6 : decode cX3_layTelling 6 = .ok (.getfield 32, 3) := by decide +kernel
theorem dX3_layTelling_9 : decode cX3_layTelling 9 = .ok (.getfield 62, 3) := by decide +kernel
theorem dX3_layTelling_12 : decode cX3_layTelling 12 = .ok (.if_icmp .ge 89, 3) := by decide +kernel
theorem dX3_layTelling_15 : decode cX3_layTelling 15 = .ok (.iload_n 2, 1) := by decide +kernel
theorem dX3_layTelling_16 : decode cX3_layTelling 16 = .ok (.iconst 1, 1) := by decide +kernel
theorem dX3_layTelling_17 : decode cX3_layTelling 17 = .ok (.iadd, 1) := by decide +kernel
theorem dX3_layTelling_18 : decode cX3_layTelling 18 = .ok (.istore_n 3, 1) := by decide +kernel
theorem dX3_layTelling_19 : decode cX3_layTelling 19 = .ok (.iload_n 3, 1) := by decide +kernel
theorem dX3_layTelling_20 : decode cX3_layTelling 20 = .ok (.aload_n 0, 1) := by decide +kernel
theorem dX3_layTelling_21 : decode cX3_layTelling 21 = .ok (.getfield 32, 3) := by decide +kernel
theorem dX3_layTelling_24 : decode cX3_layTelling 24 = .ok (.getfield 62, 3) := by decide +kernel
theorem dX3_layTelling_27 : decode cX3_layTelling 27 = .ok (.if_icmp .ge 68, 3) := by decide +kernel
theorem dX3_layTelling_30 : decode cX3_layTelling 30 = .ok (.iconst 0, 1) := by decide +kernel
theorem dX3_layTelling_31 : decode cX3_layTelling 31 = .ok (.istore 4, 2) := by decide +kernel
theorem dX3_layTelling_33 : decode cX3_layTelling 33 = .ok (.iconst 0, 1) := by decide +kernel
theorem dX3_layTelling_34 : decode cX3_layTelling 34 = .ok (.istore 5, 2) := by decide +kernel
theorem dX3_layTelling_36 : decode cX3_layTelling 36 = .ok (.iload 5, 2) := by decide +kernel
theorem dX3_layTelling_38 : decode cX3_layTelling 38 = .ok (.aload_n 0, 1) := by decide +kernel
theorem dX3_layTelling_39 : decode cX3_layTelling 39 = .ok (.getfield 18, 3) := by decide +kernel
theorem dX3_layTelling_42 : decode cX3_layTelling 42 = .ok (.getfield 57, 3) := by decide +kernel
theorem dX3_layTelling_45 : decode cX3_layTelling 45 = .ok (.if_icmp .ge 33, 3) := by decide +kernel
theorem dX3_layTelling_48 : decode cX3_layTelling 48 = .ok (.iload 4, 2) := by decide +kernel
theorem dX3_layTelling_50 : decode cX3_layTelling 50 = .ok (.aload_n 0, 1) := by decide +kernel
theorem dX3_layTelling_51 : decode cX3_layTelling 51 = .ok (.iload 5, 2) := by decide +kernel
theorem dX3_layTelling_53 : decode cX3_layTelling 53 = .ok (.iload_n 2, 1) := by decide +kernel
theorem dX3_layTelling_54 : decode cX3_layTelling 54 = .ok (.iload_n 3, 1) := by decide +kernel
theorem dX3_layTelling_55 : decode cX3_layTelling 55 = .ok (.invokevirtual 67, 3) := by decide +kernel
theorem dX3_layTelling_58 : decode cX3_layTelling 58 = .ok (.ifCond .eq 7, 3) := by decide +kernel
theorem dX3_layTelling_61 : decode cX3_layTelling 61 = .ok (.iconst 0, 1) := by decide +kernel
theorem dX3_layTelling_62 : decode cX3_layTelling 62 = .ok (.goto 7, 3) := by decide +kernel
theorem dX3_layTelling_65 : decode cX3_layTelling 65 = .ok (.iconst 1, 1) := by decide +kernel
theorem dX3_layTelling_66 : decode cX3_layTelling 66 = .ok (.iload 5, 2) := by decide +kernel
theorem dX3_layTelling_68 : decode cX3_layTelling 68 = .ok (.ishl, 1) := by decide +kernel
theorem dX3_layTelling_69 : decode cX3_layTelling 69 = .ok (.ior, 1) := by decide +kernel
theorem dX3_layTelling_70 : decode cX3_layTelling 70 = .ok (.istore 4, 2) := by decide +kernel
theorem dX3_layTelling_72 : decode cX3_layTelling 72 = .ok (.iinc 5 1, 3) := by decide +kernel
theorem dX3_layTelling_75 : decode cX3_layTelling 75 = .ok (.goto (-39), 3) := by decide +kernel
theorem dX3_layTelling_78 : decode cX3_layTelling 78 = .ok (.aload_n 0, 1) := by decide +kernel
theorem dX3_layTelling_79 : decode cX3_layTelling 79 = .ok (.getfield 15, 3) := by decide +kernel
theorem dX3_layTelling_82 : decode cX3_layTelling 82 = .ok (.iload_n 1, 1) := by decide +kernel
theorem dX3_layTelling_83 : decode cX3_layTelling 83 = .ok (.iload 4, 2) := by decide +kernel
theorem dX3_layTelling_85 : decode cX3_layTelling 85 = .ok (.iastore, 1) := by decide +kernel
theorem dX3_layTelling_86 : decode cX3_layTelling 86 = .ok (.iinc 1 1, 3) := by decide +kernel
theorem dX3_layTelling_89 : decode cX3_layTelling 89 = .ok (.iinc 3 1, 3) := by decide +kernel
theorem dX3_layTelling_92 : decode cX3_layTelling 92 = .ok (.goto (-73), 3) := by decide +kernel
theorem dX3_layTelling_95 : decode cX3_layTelling 95 = .ok (.iinc 2 1, 3) := by decide +kernel
theorem dX3_layTelling_98 : decode cX3_layTelling 98 = .ok (.goto (-94), 3) := by decide +kernel
theorem dX3_layTelling_101 : decode cX3_layTelling 101 = .ok (.iload_n 1, 1) := by decide +kernel
theorem dX3_layTelling_102 : decode cX3_layTelling 102 = .ok (.ireturn, 1) := by decide +kernel
theorem dX3_tellsAll_0 : decode cX3_tellsAll 0 = .ok (.iconst 0, 1) := by decide +kernel
theorem dX3_tellsAll_1 : decode cX3_tellsAll 1 = .ok (.istore_n 3, 1) := by decide +kernel
theorem dX3_tellsAll_2 : decode cX3_tellsAll 2 = .ok (.iload_n 3, 1) := by decide +kernel
theorem dX3_tellsAll_3 : decode cX3_tellsAll 3 = .ok (.iload_n 2, 1) := by decide +kernel
theorem dX3_tellsAll_4 : decode cX3_tellsAll 4 = .ok (.if_icmp .ge 22, 3) := by decide +kernel
theorem dX3_tellsAll_7 : decode cX3_tellsAll 7 = .ok (.aload_n 0, 1) := by decide +kernel
theorem dX3_tellsAll_8 : decode cX3_tellsAll 8 = .ok (.getfield 15, 3) := by decide +kernel
theorem dX3_tellsAll_11 : decode cX3_tellsAll 11 = .ok (.iload_n 3, 1) := by decide +kernel
theorem dX3_tellsAll_12 : decode cX3_tellsAll 12 = .ok (.iaload, 1) := by decide +kernel
theorem dX3_tellsAll_13 : decode cX3_tellsAll 13 = .ok (.iload_n 1, 1) := by decide +kernel
theorem dX3_tellsAll_14 : decode cX3_tellsAll 14 = .ok (.iand, 1) := by decide +kernel
theorem dX3_tellsAll_15 : decode cX3_tellsAll 15 = .ok (.ifCond .ne 5, 3) := by decide +kernel
theorem dX3_tellsAll_18 : decode cX3_tellsAll 18 = .ok (.iconst 0, 1) := by decide +kernel
theorem dX3_tellsAll_19 : decode cX3_tellsAll 19 = .ok (.ireturn, 1) := by decide +kernel
theorem dX3_tellsAll_20 : decode cX3_tellsAll 20 = .ok (.iinc 3 1, 3) := by decide +kernel
theorem dX3_tellsAll_23 : decode cX3_tellsAll 23 = .ok (.goto (-21), 3) := by decide +kernel
theorem dX3_tellsAll_26 : decode cX3_tellsAll 26 = .ok (.iconst 1, 1) := by decide +kernel
theorem dX3_tellsAll_27 : decode cX3_tellsAll 27 = .ok (.ireturn, 1) := by decide +kernel
theorem dX3_fewestDoors_0 : decode cX3_fewestDoors 0 = .ok (.aload_n 0, 1) := by decide +kernel
theorem dX3_fewestDoors_1 : decode cX3_fewestDoors 1 = .ok (.invokevirtual 74, 3) := by decide +kernel
theorem dX3_fewestDoors_4 : decode cX3_fewestDoors 4 = .ok (.aload_n 0, 1) := by decide +kernel
theorem dX3_fewestDoors_5 : decode cX3_fewestDoors 5 = .ok (.invokevirtual 77, 3) := by decide +kernel
theorem dX3_fewestDoors_8 : decode cX3_fewestDoors 8 = .ok (.istore_n 1, 1) := by decide +kernel
theorem dX3_fewestDoors_9 : decode cX3_fewestDoors 9 = .ok (.iconst (-1), 1) := by decide +kernel
theorem dX3_fewestDoors_10 : decode cX3_fewestDoors 10 = .ok (.istore_n 2, 1) := by decide +kernel
theorem dX3_fewestDoors_11 : decode cX3_fewestDoors 11 = .ok (.iconst 0, 1) := by decide +kernel
theorem dX3_fewestDoors_12 : decode cX3_fewestDoors 12 = .ok (.istore_n 3, 1) := by decide +kernel
theorem dX3_fewestDoors_13 : decode cX3_fewestDoors 13 = .ok (.iload_n 3, 1) := by decide +kernel
theorem dX3_fewestDoors_14 : decode cX3_fewestDoors 14 = .ok (.iconst 1, 1) := by decide +kernel
theorem dX3_fewestDoors_15 : decode cX3_fewestDoors 15 = .ok (.aload_n 0, 1) := by decide +kernel
theorem dX3_fewestDoors_16 : decode cX3_fewestDoors 16 = .ok (.getfield 18, 3) := by decide +kernel
theorem dX3_fewestDoors_19 : decode cX3_fewestDoors 19 = .ok (.getfield 57, 3) := by decide +kernel
theorem dX3_fewestDoors_22 : decode cX3_fewestDoors 22 = .ok (.ishl, 1) := by decide +kernel
theorem dX3_fewestDoors_23 : decode cX3_fewestDoors 23 = .ok (.if_icmp .ge 48, 3) := by decide +kernel
theorem dX3_fewestDoors_26 : decode cX3_fewestDoors 26 = .ok (.iload_n 2, 1) := by decide +kernel
theorem dX3_fewestDoors_27 : decode cX3_fewestDoors 27 = .ok (.iconst (-1), 1) := by decide +kernel
theorem dX3_fewestDoors_28 : decode cX3_fewestDoors 28 = .ok (.if_icmp .eq 14, 3) := by decide +kernel
theorem dX3_fewestDoors_31 : decode cX3_fewestDoors 31 = .ok (.iload_n 3, 1) := by decide +kernel
theorem dX3_fewestDoors_32 : decode cX3_fewestDoors 32 = .ok (.invokestatic 81, 3) := by decide +kernel
theorem dX3_fewestDoors_35 : decode cX3_fewestDoors 35 = .ok (.iload_n 2, 1) := by decide +kernel
theorem dX3_fewestDoors_36 : decode cX3_fewestDoors 36 = .ok (.invokestatic 81, 3) := by decide +kernel
theorem dX3_fewestDoors_39 : decode cX3_fewestDoors 39 = .ok (.if_icmp .ge 7, 3) := by decide +kernel
theorem dX3_fewestDoors_42 : decode cX3_fewestDoors 42 = .ok (.iconst 1, 1) := by decide +kernel
theorem dX3_fewestDoors_43 : decode cX3_fewestDoors 43 = .ok (.goto 4, 3) := by decide +kernel
theorem dX3_fewestDoors_46 : decode cX3_fewestDoors 46 = .ok (.iconst 0, 1) := by decide +kernel
theorem dX3_fewestDoors_47 : decode cX3_fewestDoors 47 = .ok (.istore 4, 2) := by decide +kernel
theorem dX3_fewestDoors_49 : decode cX3_fewestDoors 49 = .ok (.iload 4, 2) := by decide +kernel
theorem dX3_fewestDoors_51 : decode cX3_fewestDoors 51 = .ok (.ifCond .eq 14, 3) := by decide +kernel
theorem dX3_fewestDoors_54 : decode cX3_fewestDoors 54 = .ok (.aload_n 0, 1) := by decide +kernel
theorem dX3_fewestDoors_55 : decode cX3_fewestDoors 55 = .ok (.iload_n 3, 1) := by decide +kernel
theorem dX3_fewestDoors_56 : decode cX3_fewestDoors 56 = .ok (.iload_n 1, 1) := by decide +kernel
theorem dX3_fewestDoors_57 : decode cX3_fewestDoors 57 = .ok (.invokevirtual 87, 3) := by decide +kernel
theorem dX3_fewestDoors_60 : decode cX3_fewestDoors 60 = .ok (.ifCond .eq 5, 3) := by decide +kernel
theorem dX3_fewestDoors_63 : decode cX3_fewestDoors 63 = .ok (.iload_n 3, 1) := by decide +kernel
theorem dX3_fewestDoors_64 : decode cX3_fewestDoors 64 = .ok (.istore_n 2, 1) := by decide +kernel
theorem dX3_fewestDoors_65 : decode cX3_fewestDoors 65 = .ok (.iinc 3 1, 3) := by decide +kernel
theorem dX3_fewestDoors_68 : decode cX3_fewestDoors 68 = .ok (.goto (-55), 3) := by decide +kernel
theorem dX3_fewestDoors_71 : decode cX3_fewestDoors 71 = .ok (.iload_n 2, 1) := by decide +kernel
theorem dX3_fewestDoors_72 : decode cX3_fewestDoors 72 = .ok (.ireturn, 1) := by decide +kernel
theorem dX3_commonHand_0 : decode cX3_commonHand 0 = .ok (.bipush 15, 2) := by decide +kernel
theorem dX3_commonHand_2 : decode cX3_commonHand 2 = .ok (.istore_n 2, 1) := by decide +kernel
theorem dX3_commonHand_3 : decode cX3_commonHand 3 = .ok (.iconst 0, 1) := by decide +kernel
theorem dX3_commonHand_4 : decode cX3_commonHand 4 = .ok (.istore_n 3, 1) := by decide +kernel
theorem dX3_commonHand_5 : decode cX3_commonHand 5 = .ok (.iload_n 3, 1) := by decide +kernel
theorem dX3_commonHand_6 : decode cX3_commonHand 6 = .ok (.aload_n 0, 1) := by decide +kernel
theorem dX3_commonHand_7 : decode cX3_commonHand 7 = .ok (.getfield 18, 3) := by decide +kernel
theorem dX3_commonHand_10 : decode cX3_commonHand 10 = .ok (.getfield 57, 3) := by decide +kernel
theorem dX3_commonHand_13 : decode cX3_commonHand 13 = .ok (.if_icmp .ge 34, 3) := by decide +kernel
theorem dX3_commonHand_16 : decode cX3_commonHand 16 = .ok (.iload_n 2, 1) := by decide +kernel
theorem dX3_commonHand_17 : decode cX3_commonHand 17 = .ok (.iload_n 1, 1) := by decide +kernel
theorem dX3_commonHand_18 : decode cX3_commonHand 18 = .ok (.iload_n 3, 1) := by decide +kernel
theorem dX3_commonHand_19 : decode cX3_commonHand 19 = .ok (.ishr, 1) := by decide +kernel
theorem dX3_commonHand_20 : decode cX3_commonHand 20 = .ok (.iconst 1, 1) := by decide +kernel
theorem dX3_commonHand_21 : decode cX3_commonHand 21 = .ok (.iand, 1) := by decide +kernel
theorem dX3_commonHand_22 : decode cX3_commonHand 22 = .ok (.ifCond .eq 15, 3) := by decide +kernel
theorem dX3_commonHand_25 : decode cX3_commonHand 25 = .ok (.aload_n 0, 1) := by decide +kernel
theorem dX3_commonHand_26 : decode cX3_commonHand 26 = .ok (.getfield 18, 3) := by decide +kernel
theorem dX3_commonHand_29 : decode cX3_commonHand 29 = .ok (.getfield 108, 3) := by decide +kernel
theorem dX3_commonHand_32 : decode cX3_commonHand 32 = .ok (.iload_n 3, 1) := by decide +kernel
theorem dX3_commonHand_33 : decode cX3_commonHand 33 = .ok (.iaload, 1) := by decide +kernel
theorem dX3_commonHand_34 : decode cX3_commonHand 34 = .ok (.goto 5, 3) := by decide +kernel
theorem dX3_commonHand_37 : decode cX3_commonHand 37 = .ok (.bipush 15, 2) := by decide +kernel
theorem dX3_commonHand_39 : decode cX3_commonHand 39 = .ok (.iand, 1) := by decide +kernel
theorem dX3_commonHand_40 : decode cX3_commonHand 40 = .ok (.istore_n 2, 1) := by decide +kernel
theorem dX3_commonHand_41 : decode cX3_commonHand 41 = .ok (.iinc 3 1, 3) := by decide +kernel
theorem dX3_commonHand_44 : decode cX3_commonHand 44 = .ok (.goto (-39), 3) := by decide +kernel
theorem dX3_commonHand_47 : decode cX3_commonHand 47 = .ok (.iload_n 2, 1) := by decide +kernel
theorem dX3_commonHand_48 : decode cX3_commonHand 48 = .ok (.ireturn, 1) := by decide +kernel
theorem dX3_isHeardAnew_0 : decode cX3_isHeardAnew 0 = .ok (.iconst 0, 1) := by decide +kernel
theorem dX3_isHeardAnew_1 : decode cX3_isHeardAnew 1 = .ok (.istore_n 2, 1) := by decide +kernel
theorem dX3_isHeardAnew_2 : decode cX3_isHeardAnew 2 = .ok (.iload_n 2, 1) := by decide +kernel
theorem dX3_isHeardAnew_3 : decode cX3_isHeardAnew 3 = .ok (.aload_n 0, 1) := by decide +kernel
theorem dX3_isHeardAnew_4 : decode cX3_isHeardAnew 4 = .ok (.getfield 18, 3) := by decide +kernel
theorem dX3_isHeardAnew_7 : decode cX3_isHeardAnew 7 = .ok (.getfield 57, 3) := by decide +kernel
theorem dX3_isHeardAnew_10 : decode cX3_isHeardAnew 10 = .ok (.if_icmp .ge 55, 3) := by decide +kernel
theorem dX3_isHeardAnew_13 : decode cX3_isHeardAnew 13 = .ok (.aload_n 0, 1) := by decide +kernel
theorem dX3_isHeardAnew_14 : decode cX3_isHeardAnew 14 = .ok (.iload_n 2, 1) := by decide +kernel
theorem dX3_isHeardAnew_15 : decode cX3_isHeardAnew 15 = .ok (.iload_n 1, 1) := by decide +kernel
theorem dX3_isHeardAnew_16 : decode cX3_isHeardAnew 16 = .ok (.invokevirtual 71, 3) := by decide +kernel
theorem dX3_isHeardAnew_19 : decode cX3_isHeardAnew 19 = .ok (.istore_n 3, 1) := by decide +kernel
theorem dX3_isHeardAnew_20 : decode cX3_isHeardAnew 20 = .ok (.iconst 0, 1) := by decide +kernel
theorem dX3_isHeardAnew_21 : decode cX3_isHeardAnew 21 = .ok (.istore 4, 2) := by decide +kernel
theorem dX3_isHeardAnew_23 : decode cX3_isHeardAnew 23 = .ok (.iload 4, 2) := by decide +kernel
theorem dX3_isHeardAnew_25 : decode cX3_isHeardAnew 25 = .ok (.aload_n 0, 1) := by decide +kernel
theorem dX3_isHeardAnew_26 : decode cX3_isHeardAnew 26 = .ok (.getfield 32, 3) := by decide +kernel
theorem dX3_isHeardAnew_29 : decode cX3_isHeardAnew 29 = .ok (.getfield 62, 3) := by decide +kernel
theorem dX3_isHeardAnew_32 : decode cX3_isHeardAnew 32 = .ok (.if_icmp .ge 27, 3) := by decide +kernel
theorem dX3_isHeardAnew_35 : decode cX3_isHeardAnew 35 = .ok (.aload_n 0, 1) := by decide +kernel
theorem dX3_isHeardAnew_36 : decode cX3_isHeardAnew 36 = .ok (.getfield 9, 3) := by decide +kernel
theorem dX3_isHeardAnew_39 : decode cX3_isHeardAnew 39 = .ok (.iload_n 2, 1) := by decide +kernel
theorem dX3_isHeardAnew_40 : decode cX3_isHeardAnew 40 = .ok (.bipush 10, 2) := by decide +kernel
theorem dX3_isHeardAnew_42 : decode cX3_isHeardAnew 42 = .ok (.imul, 1) := by decide +kernel
theorem dX3_isHeardAnew_43 : decode cX3_isHeardAnew 43 = .ok (.iload 4, 2) := by decide +kernel
theorem dX3_isHeardAnew_45 : decode cX3_isHeardAnew 45 = .ok (.iadd, 1) := by decide +kernel
theorem dX3_isHeardAnew_46 : decode cX3_isHeardAnew 46 = .ok (.iaload, 1) := by decide +kernel
theorem dX3_isHeardAnew_47 : decode cX3_isHeardAnew 47 = .ok (.iload_n 3, 1) := by decide +kernel
theorem dX3_isHeardAnew_48 : decode cX3_isHeardAnew 48 = .ok (.if_icmp .ne 5, 3) := by decide +kernel
theorem dX3_isHeardAnew_51 : decode cX3_isHeardAnew 51 = .ok (.iconst 0, 1) := by decide +kernel
theorem dX3_isHeardAnew_52 : decode cX3_isHeardAnew 52 = .ok (.ireturn, 1) := by decide +kernel
theorem dX3_isHeardAnew_53 : decode cX3_isHeardAnew 53 = .ok (.iinc 4 1, 3) := by decide +kernel
theorem dX3_isHeardAnew_56 : decode cX3_isHeardAnew 56 = .ok (.goto (-33), 3) := by decide +kernel
theorem dX3_isHeardAnew_59 : decode cX3_isHeardAnew 59 = .ok (.iinc 2 1, 3) := by decide +kernel
theorem dX3_isHeardAnew_62 : decode cX3_isHeardAnew 62 = .ok (.goto (-60), 3) := by decide +kernel
theorem dX3_isHeardAnew_65 : decode cX3_isHeardAnew 65 = .ok (.iconst 1, 1) := by decide +kernel
theorem dX3_isHeardAnew_66 : decode cX3_isHeardAnew 66 = .ok (.ireturn, 1) := by decide +kernel
theorem dX3_freshRow_0 : decode cX3_freshRow 0 = .ok (.aload_n 0, 1) := by decide +kernel
theorem dX3_freshRow_1 : decode cX3_freshRow 1 = .ok (.invokevirtual 74, 3) := by decide +kernel
theorem dX3_freshRow_4 : decode cX3_freshRow 4 = .ok (.aload_n 0, 1) := by decide +kernel
theorem dX3_freshRow_5 : decode cX3_freshRow 5 = .ok (.iload_n 1, 1) := by decide +kernel
theorem dX3_freshRow_6 : decode cX3_freshRow 6 = .ok (.invokevirtual 90, 3) := by decide +kernel
theorem dX3_freshRow_9 : decode cX3_freshRow 9 = .ok (.istore_n 2, 1) := by decide +kernel
theorem dX3_freshRow_10 : decode cX3_freshRow 10 = .ok (.iconst 1, 1) := by decide +kernel
theorem dX3_freshRow_11 : decode cX3_freshRow 11 = .ok (.istore_n 3, 1) := by decide +kernel
theorem dX3_freshRow_12 : decode cX3_freshRow 12 = .ok (.iload_n 3, 1) := by decide +kernel
theorem dX3_freshRow_13 : decode cX3_freshRow 13 = .ok (.getstatic 93, 3) := by decide +kernel
theorem dX3_freshRow_16 : decode cX3_freshRow 16 = .ok (.iconst 4, 1) := by decide +kernel
theorem dX3_freshRow_17 : decode cX3_freshRow 17 = .ok (.iaload, 1) := by decide +kernel
theorem dX3_freshRow_18 : decode cX3_freshRow 18 = .ok (.if_icmp .ge 61, 3) := by decide +kernel
theorem dX3_freshRow_21 : decode cX3_freshRow 21 = .ok (.iload_n 3, 1) := by decide +kernel
theorem dX3_freshRow_22 : decode cX3_freshRow 22 = .ok (.invokestatic 96, 3) := by decide +kernel
theorem dX3_freshRow_25 : decode cX3_freshRow 25 = .ok (.ifCond .eq 30, 3) := by decide +kernel
theorem dX3_freshRow_28 : decode cX3_freshRow 28 = .ok (.iload_n 3, 1) := by decide +kernel
theorem dX3_freshRow_29 : decode cX3_freshRow 29 = .ok (.invokestatic 99, 3) := by decide +kernel
theorem dX3_freshRow_32 : decode cX3_freshRow 32 = .ok (.iload_n 2, 1) := by decide +kernel
theorem dX3_freshRow_33 : decode cX3_freshRow 33 = .ok (.iconst (-1), 1) := by decide +kernel
theorem dX3_freshRow_34 : decode cX3_freshRow 34 = .ok (.ixor, 1) := by decide +kernel
theorem dX3_freshRow_35 : decode cX3_freshRow 35 = .ok (.iand, 1) := by decide +kernel
theorem dX3_freshRow_36 : decode cX3_freshRow 36 = .ok (.ifCond .ne 19, 3) := by decide +kernel
theorem dX3_freshRow_39 : decode cX3_freshRow 39 = .ok (.aload_n 0, 1) := by decide +kernel
theorem dX3_freshRow_40 : decode cX3_freshRow 40 = .ok (.getfield 32, 3) := by decide +kernel
theorem dX3_freshRow_43 : decode cX3_freshRow 43 = .ok (.iload_n 3, 1) := by decide +kernel
theorem dX3_freshRow_44 : decode cX3_freshRow 44 = .ok (.invokevirtual 102, 3) := by decide +kernel
theorem dX3_freshRow_47 : decode cX3_freshRow 47 = .ok (.iconst (-1), 1) := by decide +kernel
theorem dX3_freshRow_48 : decode cX3_freshRow 48 = .ok (.if_icmp .ne 7, 3) := by decide +kernel
theorem dX3_freshRow_51 : decode cX3_freshRow 51 = .ok (.iconst 1, 1) := by decide +kernel
theorem dX3_freshRow_52 : decode cX3_freshRow 52 = .ok (.goto 4, 3) := by decide +kernel
theorem dX3_freshRow_55 : decode cX3_freshRow 55 = .ok (.iconst 0, 1) := by decide +kernel
theorem dX3_freshRow_56 : decode cX3_freshRow 56 = .ok (.istore 4, 2) := by decide +kernel
theorem dX3_freshRow_58 : decode cX3_freshRow 58 = .ok (.iload 4, 2) := by decide +kernel
theorem dX3_freshRow_60 : decode cX3_freshRow 60 = .ok (.ifCond .eq 13, 3) := by decide +kernel
theorem dX3_freshRow_63 : decode cX3_freshRow 63 = .ok (.aload_n 0, 1) := by decide +kernel
theorem dX3_freshRow_64 : decode cX3_freshRow 64 = .ok (.iload_n 3, 1) := by decide +kernel
theorem dX3_freshRow_65 : decode cX3_freshRow 65 = .ok (.invokevirtual 105, 3) := by decide +kernel
theorem dX3_freshRow_68 : decode cX3_freshRow 68 = .ok (.ifCond .eq 5, 3) := by decide +kernel
theorem dX3_freshRow_71 : decode cX3_freshRow 71 = .ok (.iload_n 3, 1) := by decide +kernel
theorem dX3_freshRow_72 : decode cX3_freshRow 72 = .ok (.ireturn, 1) := by decide +kernel
theorem dX3_freshRow_73 : decode cX3_freshRow 73 = .ok (.iinc 3 1, 3) := by decide +kernel
theorem dX3_freshRow_76 : decode cX3_freshRow 76 = .ok (.goto (-64), 3) := by decide +kernel
theorem dX3_freshRow_79 : decode cX3_freshRow 79 = .ok (.iconst (-1), 1) := by decide +kernel
theorem dX3_freshRow_80 : decode cX3_freshRow 80 = .ok (.ireturn, 1) := by decide +kernel
theorem dX3_agreesWithHeard_0 : decode cX3_agreesWithHeard 0 = .ok (.iconst 0, 1) := by decide +kernel
theorem dX3_agreesWithHeard_1 : decode cX3_agreesWithHeard 1 = .ok (.istore_n 2, 1) := by decide +kernel
theorem dX3_agreesWithHeard_2 : decode cX3_agreesWithHeard 2 = .ok (.iload_n 2, 1) := by decide +kernel
theorem dX3_agreesWithHeard_3 : decode cX3_agreesWithHeard 3 = .ok (.aload_n 0, 1) := by decide +kernel
theorem dX3_agreesWithHeard_4 : decode cX3_agreesWithHeard 4 = .ok (.getfield 22, 3) := by decide +kernel
theorem dX3_agreesWithHeard_7 : decode cX3_agreesWithHeard 7 = .ok (.getfield 114, 3) := by decide +kernel
theorem dX3_agreesWithHeard_10 : decode cX3_agreesWithHeard 10 = .ok (.if_icmp .ge 45, 3) := by decide +kernel
theorem dX3_agreesWithHeard_13 : decode cX3_agreesWithHeard 13 = .ok (.aload_n 0, 1) := by decide +kernel
theorem dX3_agreesWithHeard_14 : decode cX3_agreesWithHeard 14 = .ok (.aload_n 0, 1) := by decide +kernel
theorem dX3_agreesWithHeard_15 : decode cX3_agreesWithHeard 15 = .ok (.getfield 22, 3) := by decide +kernel
theorem dX3_agreesWithHeard_18 : decode cX3_agreesWithHeard 18 = .ok (.getfield 117, 3) := by decide +kernel
theorem dX3_agreesWithHeard_21 : decode cX3_agreesWithHeard 21 = .ok (.iload_n 2, 1) := by decide +kernel
theorem dX3_agreesWithHeard_22 : decode cX3_agreesWithHeard 22 = .ok (.iaload, 1) := by decide +kernel
theorem dX3_agreesWithHeard_23 : decode cX3_agreesWithHeard 23 = .ok (.aload_n 0, 1) := by decide +kernel
theorem dX3_agreesWithHeard_24 : decode cX3_agreesWithHeard 24 = .ok (.getfield 32, 3) := by decide +kernel
theorem dX3_agreesWithHeard_27 : decode cX3_agreesWithHeard 27 = .ok (.getfield 48, 3) := by decide +kernel
theorem dX3_agreesWithHeard_30 : decode cX3_agreesWithHeard 30 = .ok (.iload_n 1, 1) := by decide +kernel
theorem dX3_agreesWithHeard_31 : decode cX3_agreesWithHeard 31 = .ok (.iaload, 1) := by decide +kernel
theorem dX3_agreesWithHeard_32 : decode cX3_agreesWithHeard 32 = .ok (.invokevirtual 71, 3) := by decide +kernel
theorem dX3_agreesWithHeard_35 : decode cX3_agreesWithHeard 35 = .ok (.aload_n 0, 1) := by decide +kernel
theorem dX3_agreesWithHeard_36 : decode cX3_agreesWithHeard 36 = .ok (.getfield 22, 3) := by decide +kernel
theorem dX3_agreesWithHeard_39 : decode cX3_agreesWithHeard 39 = .ok (.getfield 120, 3) := by decide +kernel
theorem dX3_agreesWithHeard_42 : decode cX3_agreesWithHeard 42 = .ok (.iload_n 2, 1) := by decide +kernel
theorem dX3_agreesWithHeard_43 : decode cX3_agreesWithHeard 43 = .ok (.iaload, 1) := by decide +kernel
theorem dX3_agreesWithHeard_44 : decode cX3_agreesWithHeard 44 = .ok (.if_icmp .eq 5, 3) := by decide +kernel
theorem dX3_agreesWithHeard_47 : decode cX3_agreesWithHeard 47 = .ok (.iconst 0, 1) := by decide +kernel
theorem dX3_agreesWithHeard_48 : decode cX3_agreesWithHeard 48 = .ok (.ireturn, 1) := by decide +kernel
theorem dX3_agreesWithHeard_49 : decode cX3_agreesWithHeard 49 = .ok (.iinc 2 1, 3) := by decide +kernel
theorem dX3_agreesWithHeard_52 : decode cX3_agreesWithHeard 52 = .ok (.goto (-50), 3) := by decide +kernel
theorem dX3_agreesWithHeard_55 : decode cX3_agreesWithHeard 55 = .ok (.iconst 1, 1) := by decide +kernel
theorem dX3_agreesWithHeard_56 : decode cX3_agreesWithHeard 56 = .ok (.ireturn, 1) := by decide +kernel
theorem dX3_wordsHeard_0 : decode cX3_wordsHeard 0 = .ok (.iconst 0, 1) := by decide +kernel
theorem dX3_wordsHeard_1 : decode cX3_wordsHeard 1 = .ok (.istore_n 1, 1) := by decide +kernel
theorem dX3_wordsHeard_2 : decode cX3_wordsHeard 2 = .ok (.iconst 0, 1) := by decide +kernel
theorem dX3_wordsHeard_3 : decode cX3_wordsHeard 3 = .ok (.istore_n 2, 1) := by decide +kernel
theorem dX3_wordsHeard_4 : decode cX3_wordsHeard 4 = .ok (.iload_n 2, 1) := by decide +kernel
theorem dX3_wordsHeard_5 : decode cX3_wordsHeard 5 = .ok (.aload_n 0, 1) := by decide +kernel
theorem dX3_wordsHeard_6 : decode cX3_wordsHeard 6 = .ok (.getfield 32, 3) := by decide +kernel
theorem dX3_wordsHeard_9 : decode cX3_wordsHeard 9 = .ok (.getfield 62, 3) := by decide +kernel
theorem dX3_wordsHeard_12 : decode cX3_wordsHeard 12 = .ok (.if_icmp .ge 27, 3) := by decide +kernel
theorem dX3_wordsHeard_15 : decode cX3_wordsHeard 15 = .ok (.iload_n 1, 1) := by decide +kernel
theorem dX3_wordsHeard_16 : decode cX3_wordsHeard 16 = .ok (.aload_n 0, 1) := by decide +kernel
theorem dX3_wordsHeard_17 : decode cX3_wordsHeard 17 = .ok (.iload_n 2, 1) := by decide +kernel
theorem dX3_wordsHeard_18 : decode cX3_wordsHeard 18 = .ok (.invokevirtual 111, 3) := by decide +kernel
theorem dX3_wordsHeard_21 : decode cX3_wordsHeard 21 = .ok (.ifCond .eq 9, 3) := by decide +kernel
theorem dX3_wordsHeard_24 : decode cX3_wordsHeard 24 = .ok (.iconst 1, 1) := by decide +kernel
theorem dX3_wordsHeard_25 : decode cX3_wordsHeard 25 = .ok (.iload_n 2, 1) := by decide +kernel
theorem dX3_wordsHeard_26 : decode cX3_wordsHeard 26 = .ok (.ishl, 1) := by decide +kernel
theorem dX3_wordsHeard_27 : decode cX3_wordsHeard 27 = .ok (.goto 4, 3) := by decide +kernel
theorem dX3_wordsHeard_30 : decode cX3_wordsHeard 30 = .ok (.iconst 0, 1) := by decide +kernel
theorem dX3_wordsHeard_31 : decode cX3_wordsHeard 31 = .ok (.ior, 1) := by decide +kernel
theorem dX3_wordsHeard_32 : decode cX3_wordsHeard 32 = .ok (.istore_n 1, 1) := by decide +kernel
theorem dX3_wordsHeard_33 : decode cX3_wordsHeard 33 = .ok (.iinc 2 1, 3) := by decide +kernel
theorem dX3_wordsHeard_36 : decode cX3_wordsHeard 36 = .ok (.goto (-32), 3) := by decide +kernel
theorem dX3_wordsHeard_39 : decode cX3_wordsHeard 39 = .ok (.iload_n 1, 1) := by decide +kernel
theorem dX3_wordsHeard_40 : decode cX3_wordsHeard 40 = .ok (.ireturn, 1) := by decide +kernel
theorem dX3_unlike_0 : decode cX3_unlike 0 = .ok (.aload_n 0, 1) := by decide +kernel
theorem dX3_unlike_1 : decode cX3_unlike 1 = .ok (.iload_n 1, 1) := by decide +kernel
theorem dX3_unlike_2 : decode cX3_unlike 2 = .ok (.invokevirtual 63, 3) := by decide +kernel
theorem dX3_unlike_5 : decode cX3_unlike 5 = .ok (.iconst 0, 1) := by decide +kernel
theorem dX3_unlike_6 : decode cX3_unlike 6 = .ok (.istore_n 3, 1) := by decide +kernel
theorem dX3_unlike_7 : decode cX3_unlike 7 = .ok (.iconst 0, 1) := by decide +kernel
theorem dX3_unlike_8 : decode cX3_unlike 8 = .ok (.istore 4, 2) := by decide +kernel
theorem dX3_unlike_10 : decode cX3_unlike 10 = .ok (.iload 4, 2) := by decide +kernel
theorem dX3_unlike_12 : decode cX3_unlike 12 = .ok (.aload_n 0, 1) := by decide +kernel
theorem dX3_unlike_13 : decode cX3_unlike 13 = .ok (.getfield 32, 3) := by decide +kernel
theorem dX3_unlike_16 : decode cX3_unlike 16 = .ok (.getfield 62, 3) := by decide +kernel
theorem dX3_unlike_19 : decode cX3_unlike 19 = .ok (.if_icmp .ge 87, 3) := by decide +kernel
theorem dX3_unlike_22 : decode cX3_unlike 22 = .ok (.iload_n 2, 1) := by decide +kernel
theorem dX3_unlike_23 : decode cX3_unlike 23 = .ok (.iload 4, 2) := by decide +kernel
theorem dX3_unlike_25 : decode cX3_unlike 25 = .ok (.ishr, 1) := by decide +kernel
theorem dX3_unlike_26 : decode cX3_unlike 26 = .ok (.iconst 1, 1) := by decide +kernel
theorem dX3_unlike_27 : decode cX3_unlike 27 = .ok (.iand, 1) := by decide +kernel
theorem dX3_unlike_28 : decode cX3_unlike 28 = .ok (.ifCond .eq 7, 3) := by decide +kernel
theorem dX3_unlike_31 : decode cX3_unlike 31 = .ok (.iconst 1, 1) := by decide +kernel
theorem dX3_unlike_32 : decode cX3_unlike 32 = .ok (.goto 4, 3) := by decide +kernel
theorem dX3_unlike_35 : decode cX3_unlike 35 = .ok (.iconst 0, 1) := by decide +kernel
theorem dX3_unlike_36 : decode cX3_unlike 36 = .ok (.istore 5, 2) := by decide +kernel
theorem dX3_unlike_38 : decode cX3_unlike 38 = .ok (.iconst 0, 1) := by decide +kernel
theorem dX3_unlike_39 : decode cX3_unlike 39 = .ok (.istore 6, 2) := by decide +kernel
theorem dX3_unlike_41 : decode cX3_unlike 41 = .ok (.iload 5, 2) := by decide +kernel
theorem dX3_unlike_43 : decode cX3_unlike 43 = .ok (.ifCond .eq 44, 3) := by decide +kernel
theorem dX3_unlike_46 : decode cX3_unlike 46 = .ok (.iload 6, 2) := by decide +kernel
theorem dX3_unlike_48 : decode cX3_unlike 48 = .ok (.iload 4, 2) := by decide +kernel
theorem dX3_unlike_50 : decode cX3_unlike 50 = .ok (.if_icmp .ge 37, 3) := by decide +kernel
theorem dX3_unlike_53 : decode cX3_unlike 53 = .ok (.iload_n 2, 1) := by decide +kernel
theorem dX3_unlike_54 : decode cX3_unlike 54 = .ok (.iload 6, 2) := by decide +kernel
theorem dX3_unlike_56 : decode cX3_unlike 56 = .ok (.ishr, 1) := by decide +kernel
theorem dX3_unlike_57 : decode cX3_unlike 57 = .ok (.iconst 1, 1) := by decide +kernel
theorem dX3_unlike_58 : decode cX3_unlike 58 = .ok (.iand, 1) := by decide +kernel
theorem dX3_unlike_59 : decode cX3_unlike 59 = .ok (.ifCond .eq 15, 3) := by decide +kernel
theorem dX3_unlike_62 : decode cX3_unlike 62 = .ok (.aload_n 0, 1) := by decide +kernel
theorem dX3_unlike_63 : decode cX3_unlike 63 = .ok (.iload_n 1, 1) := by decide +kernel
theorem dX3_unlike_64 : decode cX3_unlike 64 = .ok (.iload 4, 2) := by decide +kernel
theorem dX3_unlike_66 : decode cX3_unlike 66 = .ok (.iload 6, 2) := by decide +kernel
theorem dX3_unlike_68 : decode cX3_unlike 68 = .ok (.invokevirtual 67, 3) := by decide +kernel
theorem dX3_unlike_71 : decode cX3_unlike 71 = .ok (.ifCond .ne 7, 3) := by decide +kernel
theorem dX3_unlike_74 : decode cX3_unlike 74 = .ok (.iconst 1, 1) := by decide +kernel
theorem dX3_unlike_75 : decode cX3_unlike 75 = .ok (.goto 4, 3) := by decide +kernel
theorem dX3_unlike_78 : decode cX3_unlike 78 = .ok (.iconst 0, 1) := by decide +kernel
theorem dX3_unlike_79 : decode cX3_unlike 79 = .ok (.istore 5, 2) := by decide +kernel
theorem dX3_unlike_81 : decode cX3_unlike 81 = .ok (.iinc 6 1, 3) := by decide +kernel
theorem dX3_unlike_84 : decode cX3_unlike 84 = .ok (.goto (-43), 3) := by decide +kernel
theorem dX3_unlike_87 : decode cX3_unlike 87 = .ok (.iload_n 3, 1) := by decide +kernel
theorem dX3_unlike_88 : decode cX3_unlike 88 = .ok (.iload 5, 2) := by decide +kernel
theorem dX3_unlike_90 : decode cX3_unlike 90 = .ok (.ifCond .eq 7, 3) := by decide +kernel
theorem dX3_unlike_93 : decode cX3_unlike 93 = .ok (.iconst 1, 1) := by decide +kernel
theorem dX3_unlike_94 : decode cX3_unlike 94 = .ok (.goto 4, 3) := by decide +kernel
theorem dX3_unlike_97 : decode cX3_unlike 97 = .ok (.iconst 0, 1) := by decide +kernel
theorem dX3_unlike_98 : decode cX3_unlike 98 = .ok (.iadd, 1) := by decide +kernel
theorem dX3_unlike_99 : decode cX3_unlike 99 = .ok (.istore_n 3, 1) := by decide +kernel
theorem dX3_unlike_100 : decode cX3_unlike 100 = .ok (.iinc 4 1, 3) := by decide +kernel
theorem dX3_unlike_103 : decode cX3_unlike 103 = .ok (.goto (-93), 3) := by decide +kernel
theorem dX3_unlike_106 : decode cX3_unlike 106 = .ok (.iload_n 3, 1) := by decide +kernel
theorem dX3_unlike_107 : decode cX3_unlike 107 = .ok (.ireturn, 1) := by decide +kernel
theorem dX3_tellingDoor_0 : decode cX3_tellingDoor 0 = .ok (.iconst (-1), 1) := by decide +kernel
theorem dX3_tellingDoor_1 : decode cX3_tellingDoor 1 = .ok (.istore_n 2, 1) := by decide +kernel
theorem dX3_tellingDoor_2 : decode cX3_tellingDoor 2 = .ok (.iconst 0, 1) := by decide +kernel
theorem dX3_tellingDoor_3 : decode cX3_tellingDoor 3 = .ok (.istore_n 3, 1) := by decide +kernel
theorem dX3_tellingDoor_4 : decode cX3_tellingDoor 4 = .ok (.iconst 0, 1) := by decide +kernel
theorem dX3_tellingDoor_5 : decode cX3_tellingDoor 5 = .ok (.istore 4, 2) := by decide +kernel
theorem dX3_tellingDoor_7 : decode cX3_tellingDoor 7 = .ok (.iload 4, 2) := by decide +kernel
theorem dX3_tellingDoor_9 : decode cX3_tellingDoor 9 = .ok (.aload_n 0, 1) := by decide +kernel
theorem dX3_tellingDoor_10 : decode cX3_tellingDoor 10 = .ok (.getfield 18, 3) := by decide +kernel
theorem dX3_tellingDoor_13 : decode cX3_tellingDoor 13 = .ok (.getfield 57, 3) := by decide +kernel
theorem dX3_tellingDoor_16 : decode cX3_tellingDoor 16 = .ok (.if_icmp .ge 30, 3) := by decide +kernel
theorem dX3_tellingDoor_19 : decode cX3_tellingDoor 19 = .ok (.aload_n 0, 1) := by decide +kernel
theorem dX3_tellingDoor_20 : decode cX3_tellingDoor 20 = .ok (.iload 4, 2) := by decide +kernel
theorem dX3_tellingDoor_22 : decode cX3_tellingDoor 22 = .ok (.iload_n 1, 1) := by decide +kernel
theorem dX3_tellingDoor_23 : decode cX3_tellingDoor 23 = .ok (.invokevirtual 123, 3) := by decide +kernel
theorem dX3_tellingDoor_26 : decode cX3_tellingDoor 26 = .ok (.istore 5, 2) := by decide +kernel
theorem dX3_tellingDoor_28 : decode cX3_tellingDoor 28 = .ok (.iload 5, 2) := by decide +kernel
theorem dX3_tellingDoor_30 : decode cX3_tellingDoor 30 = .ok (.iload_n 3, 1) := by decide +kernel
theorem dX3_tellingDoor_31 : decode cX3_tellingDoor 31 = .ok (.if_icmp .le 9, 3) := by decide +kernel
theorem dX3_tellingDoor_34 : decode cX3_tellingDoor 34 = .ok (.iload 5, 2) := by decide +kernel
theorem dX3_tellingDoor_36 : decode cX3_tellingDoor 36 = .ok (.istore_n 3, 1) := by decide +kernel
theorem dX3_tellingDoor_37 : decode cX3_tellingDoor 37 = .ok (.iload 4, 2) := by decide +kernel
theorem dX3_tellingDoor_39 : decode cX3_tellingDoor 39 = .ok (.istore_n 2, 1) := by decide +kernel
theorem dX3_tellingDoor_40 : decode cX3_tellingDoor 40 = .ok (.iinc 4 1, 3) := by decide +kernel
theorem dX3_tellingDoor_43 : decode cX3_tellingDoor 43 = .ok (.goto (-36), 3) := by decide +kernel
theorem dX3_tellingDoor_46 : decode cX3_tellingDoor 46 = .ok (.iload_n 2, 1) := by decide +kernel
theorem dX3_tellingDoor_47 : decode cX3_tellingDoor 47 = .ok (.ireturn, 1) := by decide +kernel
def f_HO_can (n : Nat) (a1 : Int32) (a2 : Int32) (μ : kbM) : Option (Int32) :=
  kbIf (kbIn a2 10) <|
  (f_DO_can_32 n a1 (μ.1 14 a2.toNatClampNeg) μ).bind fun x1 =>
  kbIf (decide (x1 = 0 ∨ x1 = 1)) <|
  some x1
theorem sp_HO_can {l : Launch} (n : Nat) (a1 : Int32) (a2 : Int32) (μ : kbM)  {x : Int32} (h : f_HO_can n a1 a2 μ = some x) : kbS l MX3_can 4 [.ref 51, .int a1, .int a2] μ (kbQe (some (.int x)) μ) := by
  refine kb_enter 0 rfl rfl ?_
  suffices H : ∀ (Q : kbQt) (P : Int32 → Prop), (∀ z : Int32, P z → Q (some (.int z)) μ) → kbG (f_HO_can n a1 a2 μ) P → kbR l MX3_can 4 Q 0 [some (.ref 51), some (.int a1), some (.int a2)] [] μ from H _ (fun z => z = x) (fun z e => by subst e; exact ⟨rfl, rfl⟩) ⟨x, h, rfl⟩
  clear h
  intro Q P hr h
  unfold f_HO_can at h
  refine r_aload_n dX3_can_0 rfl ?_
  refine r_getR flX3_18 sh51 rfl dX3_can_1 ?_
  refine r_iload_n dX3_can_4 rfl ?_
  refine r_aload_n dX3_can_5 rfl ?_
  refine r_getR flX3_32 sh51 rfl dX3_can_6 ?_
  refine r_getR flX3_48 sh13 rfl dX3_can_9 ?_
  refine r_iload_n dX3_can_12 rfl ?_
  obtain ⟨hin, h⟩ := kbG_if h
  replace hin := kbIn_of hin
  refine q_iald a2.toNatClampNeg rfl sh14 hin dX3_can_13 ?_
  obtain ⟨x1, hx0, h⟩ := kbG_bind h
  refine r_invV_i cvX3_53 sh32 rfl (sp_DO_can_32 n a1 (μ.1 14 a2.toNatClampNeg) μ hx0) rfl rfl (Nat.le_of_ble_eq_true rfl) (Nat.le_of_ble_eq_true rfl) dX3_can_14 ?_
  obtain ⟨hz, h⟩ := kbG_if h
  exact r_zret rfl (kb_z01 (of_decide_eq_true hz)) dX3_can_17 (hr x1 (kbG_some h))
def jn_HO_doorsThatCan_32 (n : Nat) (rec : Int32 → Int32 → Option (Int32)) (v1 : Int32) (v3 : Int32) (w0 : Int32) (w1 : Int32) (μ : kbM) : Option (Int32) :=
  rec (w0 ||| w1) (v3 + 1)
theorem jnR_HO_doorsThatCan_32 {l : Launch} (n : Nat)   (v1 : Int32) (v3 : Int32) (w0 : Int32) (w1 : Int32) (μ : kbM) {Q : kbQt} {P : Int32 → Prop} (hx : ∀ z : Int32, P (z) → kbR l MX3_doorsThatCan 5 Q 40 [none, none, some (.int z), none] [] μ) {rec : Int32 → Int32 → Option (Int32)} (hrec : ∀ (v2 : Int32) (v3 : Int32), kbG (rec v2 v3) P → kbR l MX3_doorsThatCan 5 Q 4 [some (.ref 51), some (.int v1), some (.int v2), some (.int v3)] [] μ) (h : kbG (jn_HO_doorsThatCan_32 n rec v1 v3 w0 w1 μ) P) : kbR l MX3_doorsThatCan 5 Q 32 [some (.ref 51), some (.int v1), none, some (.int v3)] [.int w1, .int w0] μ := by
  unfold jn_HO_doorsThatCan_32 at h
  refine r_ior dX3_doorsThatCan_32 ?_
  refine r_istore_n dX3_doorsThatCan_33 (Nat.le_of_ble_eq_true rfl) rfl ?_
  refine r_iinc 1 dX3_doorsThatCan_34 rfl (by decide) (Nat.le_of_ble_eq_true rfl) rfl ?_
  refine r_goto 4 dX3_doorsThatCan_37 (by decide) ?_
  refine r_le [some (.ref 51), some (.int v1), some (.int (w0 ||| w1)), some (.int (v3 + 1))] ⟨rfl, ⟨rfl, ⟨rfl, ⟨rfl, trivial⟩⟩⟩⟩ ?_
  exact hrec (w0 ||| w1) (v3 + 1) h
def lp_HO_doorsThatCan_4 (n : Nat) (v1 : Int32) (μ : kbM) : Nat → Int32 → Int32 → Option (Int32)
  | 0, _, _ => none
  | k + 1, v2, v3 =>
    if (μ.1 32 2) ≤ v3 then
      some v2
    else
      (f_HO_can n v3 v1 μ).bind fun x1 =>
      if x1 = 0 then
        jn_HO_doorsThatCan_32 n (lp_HO_doorsThatCan_4 n v1 μ k) v1 v3 v2 0 μ
      else
        jn_HO_doorsThatCan_32 n (lp_HO_doorsThatCan_4 n v1 μ k) v1 v3 v2 (kbShl 1 v3) μ
theorem lpR_HO_doorsThatCan_4 {l : Launch} (n : Nat) (v1 : Int32) (μ : kbM)  {Q : kbQt} {P : Int32 → Prop} (hx : ∀ z : Int32, P (z) → kbR l MX3_doorsThatCan 5 Q 40 [none, none, some (.int z), none] [] μ) : ∀ (k : Nat) (v2 : Int32) (v3 : Int32), kbG (lp_HO_doorsThatCan_4 n v1 μ k v2 v3) P → kbR l MX3_doorsThatCan 5 Q 4 [some (.ref 51), some (.int v1), some (.int v2), some (.int v3)] [] μ := by
  intro k
  induction k with
  | zero => intro v2 v3 h; exact absurd h kbG_none
  | succ k ih =>
    intro v2 v3 h
    unfold lp_HO_doorsThatCan_4 at h
    refine r_iload_n dX3_doorsThatCan_4 rfl ?_
    refine r_aload_n dX3_doorsThatCan_5 rfl ?_
    refine r_getR flX3_18 sh51 rfl dX3_doorsThatCan_6 ?_
    refine r_getI flX3_57 sh32 rfl dX3_doorsThatCan_9 ?_
    refine r_icmp_ge 40 dX3_doorsThatCan_12 (by decide) (fun hc => ?_) (fun hc => ?_)
    · replace h := kbG_t hc h
      refine r_le [none, none, some (.int v2), none] ⟨rfl, trivial⟩ ?_
      exact hx v2 (kbG_some h)
    · replace h := kbG_f hc h
      refine r_iload_n dX3_doorsThatCan_15 rfl ?_
      refine r_aload_n dX3_doorsThatCan_16 rfl ?_
      refine r_iload_n dX3_doorsThatCan_17 rfl ?_
      refine r_iload_n dX3_doorsThatCan_18 rfl ?_
      obtain ⟨x1, hx0, h⟩ := kbG_bind h
      refine r_invV_i cvX3_61 sh51 rfl (sp_HO_can n v3 v1 μ hx0) rfl rfl (Nat.le_of_ble_eq_true rfl) (Nat.le_of_ble_eq_true rfl) dX3_doorsThatCan_19 ?_
      refine r_if_eq 31 dX3_doorsThatCan_22 (by decide) (fun hc => ?_) (fun hc => ?_)
      · replace h := kbG_t hc h
        refine r_iconst 0 dX3_doorsThatCan_31 (by decide) ?_
        refine r_le [some (.ref 51), some (.int v1), none, some (.int v3)] ⟨rfl, ⟨rfl, ⟨rfl, trivial⟩⟩⟩ ?_
        exact jnR_HO_doorsThatCan_32 n v1 v3 v2 0 μ (hx := hx) (hrec := ih) h
      · replace h := kbG_f hc h
        refine r_iconst 1 dX3_doorsThatCan_25 (by decide) ?_
        refine r_iload_n dX3_doorsThatCan_26 rfl ?_
        refine r_shl dX3_doorsThatCan_27 ?_
        refine r_goto 32 dX3_doorsThatCan_28 (by decide) ?_
        refine r_le [some (.ref 51), some (.int v1), none, some (.int v3)] ⟨rfl, ⟨rfl, ⟨rfl, trivial⟩⟩⟩ ?_
        exact jnR_HO_doorsThatCan_32 n v1 v3 v2 (kbShl 1 v3) μ (hx := hx) (hrec := ih) h
def f_HO_doorsThatCan (n : Nat) (a1 : Int32) (μ : kbM) : Option (Int32) :=
  (lp_HO_doorsThatCan_4 n a1 μ n 0 0).bind fun x2 =>
  some x2
theorem sp_HO_doorsThatCan {l : Launch} (n : Nat) (a1 : Int32) (μ : kbM)  {x : Int32} (h : f_HO_doorsThatCan n a1 μ = some x) : kbS l MX3_doorsThatCan 5 [.ref 51, .int a1] μ (kbQe (some (.int x)) μ) := by
  refine kb_enter 2 rfl rfl ?_
  suffices H : ∀ (Q : kbQt) (P : Int32 → Prop), (∀ z : Int32, P z → Q (some (.int z)) μ) → kbG (f_HO_doorsThatCan n a1 μ) P → kbR l MX3_doorsThatCan 5 Q 0 [some (.ref 51), some (.int a1), none, none] [] μ from H _ (fun z => z = x) (fun z e => by subst e; exact ⟨rfl, rfl⟩) ⟨x, h, rfl⟩
  clear h
  intro Q P hr h
  unfold f_HO_doorsThatCan at h
  refine r_iconst 0 dX3_doorsThatCan_0 (by decide) ?_
  refine r_istore_n dX3_doorsThatCan_1 (Nat.le_of_ble_eq_true rfl) rfl ?_
  refine r_iconst 0 dX3_doorsThatCan_2 (by decide) ?_
  refine r_istore_n dX3_doorsThatCan_3 (Nat.le_of_ble_eq_true rfl) rfl ?_
  refine r_le [some (.ref 51), some (.int a1), some (.int 0), some (.int 0)] ⟨rfl, ⟨rfl, ⟨rfl, ⟨rfl, trivial⟩⟩⟩⟩ ?_
  obtain ⟨x2, hx0, h⟩ := kbG_bind h
  refine lpR_HO_doorsThatCan_4 n a1 μ (P := fun z => x2 = z) (hx := fun z e => ?_) n _ _ ⟨_, hx0, rfl⟩
  subst e
  refine r_iload_n dX3_doorsThatCan_40 rfl ?_
  exact r_iret rfl dX3_doorsThatCan_41 (hr x2 (kbG_some h))
def jn_HO_wordsOfHand_32 (n : Nat) (rec : Int32 → Int32 → Option (Int32)) (v1 : Int32) (v3 : Int32) (w0 : Int32) (w1 : Int32) (μ : kbM) : Option (Int32) :=
  rec (w0 ||| w1) (v3 + 1)
theorem jnR_HO_wordsOfHand_32 {l : Launch} (n : Nat)   (v1 : Int32) (v3 : Int32) (w0 : Int32) (w1 : Int32) (μ : kbM) {Q : kbQt} {P : Int32 → Prop} (hx : ∀ z : Int32, P (z) → kbR l MX3_wordsOfHand 5 Q 40 [none, none, some (.int z), none] [] μ) {rec : Int32 → Int32 → Option (Int32)} (hrec : ∀ (v2 : Int32) (v3 : Int32), kbG (rec v2 v3) P → kbR l MX3_wordsOfHand 5 Q 4 [some (.ref 51), some (.int v1), some (.int v2), some (.int v3)] [] μ) (h : kbG (jn_HO_wordsOfHand_32 n rec v1 v3 w0 w1 μ) P) : kbR l MX3_wordsOfHand 5 Q 32 [some (.ref 51), some (.int v1), none, some (.int v3)] [.int w1, .int w0] μ := by
  unfold jn_HO_wordsOfHand_32 at h
  refine r_ior dX3_wordsOfHand_32 ?_
  refine r_istore_n dX3_wordsOfHand_33 (Nat.le_of_ble_eq_true rfl) rfl ?_
  refine r_iinc 1 dX3_wordsOfHand_34 rfl (by decide) (Nat.le_of_ble_eq_true rfl) rfl ?_
  refine r_goto 4 dX3_wordsOfHand_37 (by decide) ?_
  refine r_le [some (.ref 51), some (.int v1), some (.int (w0 ||| w1)), some (.int (v3 + 1))] ⟨rfl, ⟨rfl, ⟨rfl, ⟨rfl, trivial⟩⟩⟩⟩ ?_
  exact hrec (w0 ||| w1) (v3 + 1) h
def lp_HO_wordsOfHand_4 (n : Nat) (v1 : Int32) (μ : kbM) : Nat → Int32 → Int32 → Option (Int32)
  | 0, _, _ => none
  | k + 1, v2, v3 =>
    if (μ.1 13 4) ≤ v3 then
      some v2
    else
      (f_HO_can n v1 v3 μ).bind fun x1 =>
      if x1 = 0 then
        jn_HO_wordsOfHand_32 n (lp_HO_wordsOfHand_4 n v1 μ k) v1 v3 v2 0 μ
      else
        jn_HO_wordsOfHand_32 n (lp_HO_wordsOfHand_4 n v1 μ k) v1 v3 v2 (kbShl 1 v3) μ
theorem lpR_HO_wordsOfHand_4 {l : Launch} (n : Nat) (v1 : Int32) (μ : kbM)  {Q : kbQt} {P : Int32 → Prop} (hx : ∀ z : Int32, P (z) → kbR l MX3_wordsOfHand 5 Q 40 [none, none, some (.int z), none] [] μ) : ∀ (k : Nat) (v2 : Int32) (v3 : Int32), kbG (lp_HO_wordsOfHand_4 n v1 μ k v2 v3) P → kbR l MX3_wordsOfHand 5 Q 4 [some (.ref 51), some (.int v1), some (.int v2), some (.int v3)] [] μ := by
  intro k
  induction k with
  | zero => intro v2 v3 h; exact absurd h kbG_none
  | succ k ih =>
    intro v2 v3 h
    unfold lp_HO_wordsOfHand_4 at h
    refine r_iload_n dX3_wordsOfHand_4 rfl ?_
    refine r_aload_n dX3_wordsOfHand_5 rfl ?_
    refine r_getR flX3_32 sh51 rfl dX3_wordsOfHand_6 ?_
    refine r_getI flX3_62 sh13 rfl dX3_wordsOfHand_9 ?_
    refine r_icmp_ge 40 dX3_wordsOfHand_12 (by decide) (fun hc => ?_) (fun hc => ?_)
    · replace h := kbG_t hc h
      refine r_le [none, none, some (.int v2), none] ⟨rfl, trivial⟩ ?_
      exact hx v2 (kbG_some h)
    · replace h := kbG_f hc h
      refine r_iload_n dX3_wordsOfHand_15 rfl ?_
      refine r_aload_n dX3_wordsOfHand_16 rfl ?_
      refine r_iload_n dX3_wordsOfHand_17 rfl ?_
      refine r_iload_n dX3_wordsOfHand_18 rfl ?_
      obtain ⟨x1, hx0, h⟩ := kbG_bind h
      refine r_invV_i cvX3_61 sh51 rfl (sp_HO_can n v1 v3 μ hx0) rfl rfl (Nat.le_of_ble_eq_true rfl) (Nat.le_of_ble_eq_true rfl) dX3_wordsOfHand_19 ?_
      refine r_if_eq 31 dX3_wordsOfHand_22 (by decide) (fun hc => ?_) (fun hc => ?_)
      · replace h := kbG_t hc h
        refine r_iconst 0 dX3_wordsOfHand_31 (by decide) ?_
        refine r_le [some (.ref 51), some (.int v1), none, some (.int v3)] ⟨rfl, ⟨rfl, ⟨rfl, trivial⟩⟩⟩ ?_
        exact jnR_HO_wordsOfHand_32 n v1 v3 v2 0 μ (hx := hx) (hrec := ih) h
      · replace h := kbG_f hc h
        refine r_iconst 1 dX3_wordsOfHand_25 (by decide) ?_
        refine r_iload_n dX3_wordsOfHand_26 rfl ?_
        refine r_shl dX3_wordsOfHand_27 ?_
        refine r_goto 32 dX3_wordsOfHand_28 (by decide) ?_
        refine r_le [some (.ref 51), some (.int v1), none, some (.int v3)] ⟨rfl, ⟨rfl, ⟨rfl, trivial⟩⟩⟩ ?_
        exact jnR_HO_wordsOfHand_32 n v1 v3 v2 (kbShl 1 v3) μ (hx := hx) (hrec := ih) h
def f_HO_wordsOfHand (n : Nat) (a1 : Int32) (μ : kbM) : Option (Int32) :=
  (lp_HO_wordsOfHand_4 n a1 μ n 0 0).bind fun x2 =>
  some x2
theorem sp_HO_wordsOfHand {l : Launch} (n : Nat) (a1 : Int32) (μ : kbM)  {x : Int32} (h : f_HO_wordsOfHand n a1 μ = some x) : kbS l MX3_wordsOfHand 5 [.ref 51, .int a1] μ (kbQe (some (.int x)) μ) := by
  refine kb_enter 2 rfl rfl ?_
  suffices H : ∀ (Q : kbQt) (P : Int32 → Prop), (∀ z : Int32, P z → Q (some (.int z)) μ) → kbG (f_HO_wordsOfHand n a1 μ) P → kbR l MX3_wordsOfHand 5 Q 0 [some (.ref 51), some (.int a1), none, none] [] μ from H _ (fun z => z = x) (fun z e => by subst e; exact ⟨rfl, rfl⟩) ⟨x, h, rfl⟩
  clear h
  intro Q P hr h
  unfold f_HO_wordsOfHand at h
  refine r_iconst 0 dX3_wordsOfHand_0 (by decide) ?_
  refine r_istore_n dX3_wordsOfHand_1 (Nat.le_of_ble_eq_true rfl) rfl ?_
  refine r_iconst 0 dX3_wordsOfHand_2 (by decide) ?_
  refine r_istore_n dX3_wordsOfHand_3 (Nat.le_of_ble_eq_true rfl) rfl ?_
  refine r_le [some (.ref 51), some (.int a1), some (.int 0), some (.int 0)] ⟨rfl, ⟨rfl, ⟨rfl, ⟨rfl, trivial⟩⟩⟩⟩ ?_
  obtain ⟨x2, hx0, h⟩ := kbG_bind h
  refine lpR_HO_wordsOfHand_4 n a1 μ (P := fun z => x2 = z) (hx := fun z e => ?_) n _ _ ⟨_, hx0, rfl⟩
  subst e
  refine r_iload_n dX3_wordsOfHand_40 rfl ?_
  exact r_iret rfl dX3_wordsOfHand_41 (hr x2 (kbG_some h))
def jn_HO_hearing_30 (n : Nat) (w0 : Int32) (μ : kbM) : Option (Int32) :=
  some w0
theorem jnR_HO_hearing_30 {l : Launch} (n : Nat)   (w0 : Int32) (μ : kbM) {Q : kbQt} {P : Int32 → Prop} (hr : ∀ z : Int32, P z → Q (some (.int z)) μ) (h : kbG (jn_HO_hearing_30 n w0 μ) P) : kbR l MX3_hearing 3 Q 30 [none, none, none, none] [.int w0] μ := by
  unfold jn_HO_hearing_30 at h
  exact r_iret rfl dX3_hearing_30 (hr w0 (kbG_some h))
def f_HO_hearing (n : Nat) (a1 : Int32) (a2 : Int32) (μ : kbM) : Option (Int32) :=
  (f_DO_throughWood_32 n a1 a2 μ).bind fun x1 =>
  (f_ST_isWet_12 a1 μ).bind fun x2 =>
  if x2 = 0 then
    jn_HO_hearing_30 n x1 μ
  else
    (f_RO_withLast n x1 1).bind fun x3 =>
    jn_HO_hearing_30 n x3 μ
theorem sp_HO_hearing {l : Launch} (n : Nat) (a1 : Int32) (a2 : Int32) (μ : kbM)  {x : Int32} (h : f_HO_hearing n a1 a2 μ = some x) : kbS l MX3_hearing 3 [.ref 51, .int a1, .int a2] μ (kbQe (some (.int x)) μ) := by
  refine kb_enter 1 rfl rfl ?_
  suffices H : ∀ (Q : kbQt) (P : Int32 → Prop), (∀ z : Int32, P z → Q (some (.int z)) μ) → kbG (f_HO_hearing n a1 a2 μ) P → kbR l MX3_hearing 3 Q 0 [some (.ref 51), some (.int a1), some (.int a2), none] [] μ from H _ (fun z => z = x) (fun z e => by subst e; exact ⟨rfl, rfl⟩) ⟨x, h, rfl⟩
  clear h
  intro Q P hr h
  unfold f_HO_hearing at h
  refine r_aload_n dX3_hearing_0 rfl ?_
  refine r_getR flX3_18 sh51 rfl dX3_hearing_1 ?_
  refine r_iload_n dX3_hearing_4 rfl ?_
  refine r_iload_n dX3_hearing_5 rfl ?_
  obtain ⟨x1, hx0, h⟩ := kbG_bind h
  refine r_invV_i cvX3_33 sh32 rfl (sp_DO_throughWood_32 n a1 a2 μ hx0) rfl rfl (Nat.le_of_ble_eq_true rfl) (Nat.le_of_ble_eq_true rfl) dX3_hearing_6 ?_
  refine r_istore_n dX3_hearing_9 (Nat.le_of_ble_eq_true rfl) rfl ?_
  refine r_aload_n dX3_hearing_10 rfl ?_
  refine r_getR flX3_22 sh51 rfl dX3_hearing_11 ?_
  refine r_iload_n dX3_hearing_14 rfl ?_
  obtain ⟨x2, hx0, h⟩ := kbG_bind h
  refine r_invV_i cvX3_39 sh12 rfl (sp_ST_isWet_12 a1 μ hx0) rfl rfl (Nat.le_of_ble_eq_true rfl) (Nat.le_of_ble_eq_true rfl) dX3_hearing_15 ?_
  refine r_if_eq 29 dX3_hearing_18 (by decide) (fun hc => ?_) (fun hc => ?_)
  · replace h := kbG_t hc h
    refine r_iload_n dX3_hearing_29 rfl ?_
    refine r_le [none, none, none, none] trivial ?_
    exact jnR_HO_hearing_30 n x1 μ (hr := hr) h
  · replace h := kbG_f hc h
    refine r_iload_n dX3_hearing_21 rfl ?_
    refine r_iconst 1 dX3_hearing_22 (by decide) ?_
    obtain ⟨x3, hx0, h⟩ := kbG_bind h
    refine r_inv_i csX3_45 (sp_RO_withLast n x1 1 μ hx0) rfl rfl (Nat.le_of_ble_eq_true rfl) (Nat.le_of_ble_eq_true rfl) dX3_hearing_23 ?_
    refine r_goto 30 dX3_hearing_26 (by decide) ?_
    refine r_le [none, none, none, none] trivial ?_
    exact jnR_HO_hearing_30 n x3 μ (hr := hr) h
def lp_HO_hearWords_2 (n : Nat) (v1 : Int32) : Nat → Int32 → kbM → Option (kbM)
  | 0, _, _ => none
  | k + 1, v2, μ =>
    if (μ.1 13 4) ≤ v2 then
      some μ
    else
      kbIf (kbIn v2 10) <|
      (f_HO_hearing n v1 (μ.1 14 v2.toNatClampNeg) μ).bind fun x1 =>
      kbIf (kbIn ((v1 * 10) + v2) 60) <|
      lp_HO_hearWords_2 n v1 k (v2 + 1) (kbW μ 52 (((v1 * 10) + v2).toNatClampNeg) x1)
theorem lpR_HO_hearWords_2 {l : Launch} (n : Nat) (v1 : Int32)  {Q : kbQt} {P : kbM → Prop} (hx : ∀ z : kbM, P (z) → kbR l MX3_hearWords 4 Q 44 [none, none, none] [] z) : ∀ (k : Nat) (v2 : Int32) (μ : kbM), kbG (lp_HO_hearWords_2 n v1 k v2 μ) P → kbR l MX3_hearWords 4 Q 2 [some (.ref 51), some (.int v1), some (.int v2)] [] μ := by
  intro k
  induction k with
  | zero => intro v2 μ h; exact absurd h kbG_none
  | succ k ih =>
    intro v2 μ h
    unfold lp_HO_hearWords_2 at h
    refine r_iload_n dX3_hearWords_2 rfl ?_
    refine r_aload_n dX3_hearWords_3 rfl ?_
    refine r_getR flX3_32 sh51 rfl dX3_hearWords_4 ?_
    refine r_getI flX3_62 sh13 rfl dX3_hearWords_7 ?_
    refine r_icmp_ge 44 dX3_hearWords_10 (by decide) (fun hc => ?_) (fun hc => ?_)
    · replace h := kbG_t hc h
      refine r_le [none, none, none] trivial ?_
      exact hx μ (kbG_some h)
    · replace h := kbG_f hc h
      refine r_aload_n dX3_hearWords_13 rfl ?_
      refine r_getR flX3_9 sh51 rfl dX3_hearWords_14 ?_
      refine r_iload_n dX3_hearWords_17 rfl ?_
      refine r_bipush 10 dX3_hearWords_18 (by decide) ?_
      refine r_imul dX3_hearWords_20 ?_
      refine r_iload_n dX3_hearWords_21 rfl ?_
      refine r_iadd dX3_hearWords_22 ?_
      refine r_aload_n dX3_hearWords_23 rfl ?_
      refine r_iload_n dX3_hearWords_24 rfl ?_
      refine r_aload_n dX3_hearWords_25 rfl ?_
      refine r_getR flX3_32 sh51 rfl dX3_hearWords_26 ?_
      refine r_getR flX3_48 sh13 rfl dX3_hearWords_29 ?_
      refine r_iload_n dX3_hearWords_32 rfl ?_
      obtain ⟨hin, h⟩ := kbG_if h
      replace hin := kbIn_of hin
      refine q_iald v2.toNatClampNeg rfl sh14 hin dX3_hearWords_33 ?_
      obtain ⟨x1, hx0, h⟩ := kbG_bind h
      refine r_invV_i cvX3_71 sh51 rfl (sp_HO_hearing n v1 (μ.1 14 v2.toNatClampNeg) μ hx0) rfl rfl (Nat.le_of_ble_eq_true rfl) (Nat.le_of_ble_eq_true rfl) dX3_hearWords_34 ?_
      obtain ⟨hin, h⟩ := kbG_if h
      replace hin := kbIn_of hin
      refine q_iast (((v1 * 10) + v2).toNatClampNeg) rfl sh52 hin dX3_hearWords_37 ?_
      refine r_iinc 1 dX3_hearWords_38 rfl (by decide) (Nat.le_of_ble_eq_true rfl) rfl ?_
      refine r_goto 2 dX3_hearWords_41 (by decide) ?_
      refine r_le [some (.ref 51), some (.int v1), some (.int (v2 + 1))] ⟨rfl, ⟨rfl, ⟨rfl, trivial⟩⟩⟩ ?_
      exact ih (v2 + 1) (kbW μ 52 (((v1 * 10) + v2).toNatClampNeg) x1) h
def f_HO_hearWords (n : Nat) (a1 : Int32) (μ : kbM) : Option (kbM) :=
  (lp_HO_hearWords_2 n a1 n 0 μ).bind fun x2 =>
  some x2
theorem sp_HO_hearWords {l : Launch} (n : Nat) (a1 : Int32) (μ : kbM)  {x : kbM} (h : f_HO_hearWords n a1 μ = some x) : kbS l MX3_hearWords 4 [.ref 51, .int a1] μ (kbQe none x) := by
  refine kb_enter 1 rfl rfl ?_
  suffices H : ∀ (Q : kbQt) (P : kbM → Prop), (∀ z : kbM, P z → Q none z) → kbG (f_HO_hearWords n a1 μ) P → kbR l MX3_hearWords 4 Q 0 [some (.ref 51), some (.int a1), none] [] μ from H _ (fun z => z = x) (fun z e => by subst e; exact ⟨rfl, rfl⟩) ⟨x, h, rfl⟩
  clear h
  intro Q P hr h
  unfold f_HO_hearWords at h
  refine r_iconst 0 dX3_hearWords_0 (by decide) ?_
  refine r_istore_n dX3_hearWords_1 (Nat.le_of_ble_eq_true rfl) rfl ?_
  refine r_le [some (.ref 51), some (.int a1), some (.int 0)] ⟨rfl, ⟨rfl, ⟨rfl, trivial⟩⟩⟩ ?_
  obtain ⟨x2, hx0, h⟩ := kbG_bind h
  refine lpR_HO_hearWords_2 n a1 (P := fun z => x2 = z) (hx := fun z e => ?_) n _ _ ⟨_, hx0, rfl⟩
  subst e
  exact r_vret rfl dX3_hearWords_44 (hr x2 (kbG_some h))
def jn_HO_soundsAlike_30 (w0 : Int32) (μ : kbM) : Option (Int32) :=
  kbIf (decide (w0 = 0 ∨ w0 = 1)) <|
  some w0
theorem jnR_HO_soundsAlike_30 {l : Launch}   (w0 : Int32) (μ : kbM) {Q : kbQt} {P : Int32 → Prop} (hr : ∀ z : Int32, P z → Q (some (.int z)) μ) (h : kbG (jn_HO_soundsAlike_30 w0 μ) P) : kbR l MX3_soundsAlike 1 Q 30 [none, none, none, none] [.int w0] μ := by
  unfold jn_HO_soundsAlike_30 at h
  obtain ⟨hz, h⟩ := kbG_if h
  exact r_zret rfl (kb_z01 (of_decide_eq_true hz)) dX3_soundsAlike_30 (hr w0 (kbG_some h))
def f_HO_soundsAlike (a1 : Int32) (a2 : Int32) (a3 : Int32) (μ : kbM) : Option (Int32) :=
  kbIf (kbIn ((a1 * 10) + a2) 60) <|
  kbIf (kbIn ((a1 * 10) + a3) 60) <|
  if (μ.1 52 (((a1 * 10) + a2).toNatClampNeg)) = (μ.1 52 (((a1 * 10) + a3).toNatClampNeg)) then
    jn_HO_soundsAlike_30 1 μ
  else
    jn_HO_soundsAlike_30 0 μ
theorem sp_HO_soundsAlike {l : Launch} (a1 : Int32) (a2 : Int32) (a3 : Int32) (μ : kbM)  {x : Int32} (h : f_HO_soundsAlike a1 a2 a3 μ = some x) : kbS l MX3_soundsAlike 1 [.ref 51, .int a1, .int a2, .int a3] μ (kbQe (some (.int x)) μ) := by
  refine kb_enter 0 rfl rfl ?_
  suffices H : ∀ (Q : kbQt) (P : Int32 → Prop), (∀ z : Int32, P z → Q (some (.int z)) μ) → kbG (f_HO_soundsAlike a1 a2 a3 μ) P → kbR l MX3_soundsAlike 1 Q 0 [some (.ref 51), some (.int a1), some (.int a2), some (.int a3)] [] μ from H _ (fun z => z = x) (fun z e => by subst e; exact ⟨rfl, rfl⟩) ⟨x, h, rfl⟩
  clear h
  intro Q P hr h
  unfold f_HO_soundsAlike at h
  refine r_aload_n dX3_soundsAlike_0 rfl ?_
  refine r_getR flX3_9 sh51 rfl dX3_soundsAlike_1 ?_
  refine r_iload_n dX3_soundsAlike_4 rfl ?_
  refine r_bipush 10 dX3_soundsAlike_5 (by decide) ?_
  refine r_imul dX3_soundsAlike_7 ?_
  refine r_iload_n dX3_soundsAlike_8 rfl ?_
  refine r_iadd dX3_soundsAlike_9 ?_
  obtain ⟨hin, h⟩ := kbG_if h
  replace hin := kbIn_of hin
  refine q_iald (((a1 * 10) + a2).toNatClampNeg) rfl sh52 hin dX3_soundsAlike_10 ?_
  refine r_aload_n dX3_soundsAlike_11 rfl ?_
  refine r_getR flX3_9 sh51 rfl dX3_soundsAlike_12 ?_
  refine r_iload_n dX3_soundsAlike_15 rfl ?_
  refine r_bipush 10 dX3_soundsAlike_16 (by decide) ?_
  refine r_imul dX3_soundsAlike_18 ?_
  refine r_iload_n dX3_soundsAlike_19 rfl ?_
  refine r_iadd dX3_soundsAlike_20 ?_
  obtain ⟨hin, h⟩ := kbG_if h
  replace hin := kbIn_of hin
  refine q_iald (((a1 * 10) + a3).toNatClampNeg) rfl sh52 hin dX3_soundsAlike_21 ?_
  refine r_icmp_ne 29 dX3_soundsAlike_22 (by decide) (fun hc => ?_) (fun hc => ?_)
  · replace h := kbG_f hc h
    refine r_iconst 0 dX3_soundsAlike_29 (by decide) ?_
    refine r_le [none, none, none, none] trivial ?_
    exact jnR_HO_soundsAlike_30 0 μ (hr := hr) h
  · replace h := kbG_t hc h
    refine r_iconst 1 dX3_soundsAlike_25 (by decide) ?_
    refine r_goto 30 dX3_soundsAlike_26 (by decide) ?_
    refine r_le [none, none, none, none] trivial ?_
    exact jnR_HO_soundsAlike_30 1 μ (hr := hr) h
def jn_HO_confounded_54 (n : Nat) (rec : Int32 → Int32 → Option (Int32)) (v1 : Int32) (v3 : Int32) (v4 : Int32) (w0 : Int32) (w1 : Int32) (μ : kbM) : Option (Int32) :=
  rec (w0 + w1) (v4 + 1)
theorem jnR_HO_confounded_54 {l : Launch} (n : Nat)   (v1 : Int32) (v3 : Int32) (v4 : Int32) (w0 : Int32) (w1 : Int32) (μ : kbM) {Q : kbQt} {P : Int32 → Prop} (hx : ∀ z : Int32, P (z) → kbR l MX3_confounded 5 Q 62 [some (.ref 51), some (.int v1), some (.int z), some (.int v3), none] [] μ) {rec : Int32 → Int32 → Option (Int32)} (hrec : ∀ (v2 : Int32) (v4 : Int32), kbG (rec v2 v4) P → kbR l MX3_confounded 5 Q 25 [some (.ref 51), some (.int v1), some (.int v2), some (.int v3), some (.int v4)] [] μ) (h : kbG (jn_HO_confounded_54 n rec v1 v3 v4 w0 w1 μ) P) : kbR l MX3_confounded 5 Q 54 [some (.ref 51), some (.int v1), none, some (.int v3), some (.int v4)] [.int w1, .int w0] μ := by
  unfold jn_HO_confounded_54 at h
  refine r_iadd dX3_confounded_54 ?_
  refine r_istore_n dX3_confounded_55 (Nat.le_of_ble_eq_true rfl) rfl ?_
  refine r_iinc 1 dX3_confounded_56 rfl (by decide) (Nat.le_of_ble_eq_true rfl) rfl ?_
  refine r_goto 25 dX3_confounded_59 (by decide) ?_
  refine r_le [some (.ref 51), some (.int v1), some (.int (w0 + w1)), some (.int v3), some (.int (v4 + 1))] ⟨rfl, ⟨rfl, ⟨rfl, ⟨rfl, ⟨rfl, trivial⟩⟩⟩⟩⟩ ?_
  exact hrec (w0 + w1) (v4 + 1) h
def lp_HO_confounded_25 (n : Nat) (v1 : Int32) (v3 : Int32) (μ : kbM) : Nat → Int32 → Int32 → Option (Int32)
  | 0, _, _ => none
  | k + 1, v2, v4 =>
    if (μ.1 13 4) ≤ v4 then
      some v2
    else
      (f_HO_soundsAlike v1 v3 v4 μ).bind fun x2 =>
      if x2 = 0 then
        jn_HO_confounded_54 n (lp_HO_confounded_25 n v1 v3 μ k) v1 v3 v4 v2 0 μ
      else
        jn_HO_confounded_54 n (lp_HO_confounded_25 n v1 v3 μ k) v1 v3 v4 v2 1 μ
theorem lpR_HO_confounded_25 {l : Launch} (n : Nat) (v1 : Int32) (v3 : Int32) (μ : kbM)  {Q : kbQt} {P : Int32 → Prop} (hx : ∀ z : Int32, P (z) → kbR l MX3_confounded 5 Q 62 [some (.ref 51), some (.int v1), some (.int z), some (.int v3), none] [] μ) : ∀ (k : Nat) (v2 : Int32) (v4 : Int32), kbG (lp_HO_confounded_25 n v1 v3 μ k v2 v4) P → kbR l MX3_confounded 5 Q 25 [some (.ref 51), some (.int v1), some (.int v2), some (.int v3), some (.int v4)] [] μ := by
  intro k
  induction k with
  | zero => intro v2 v4 h; exact absurd h kbG_none
  | succ k ih =>
    intro v2 v4 h
    unfold lp_HO_confounded_25 at h
    refine r_iload dX3_confounded_25 rfl ?_
    refine r_aload_n dX3_confounded_27 rfl ?_
    refine r_getR flX3_32 sh51 rfl dX3_confounded_28 ?_
    refine r_getI flX3_62 sh13 rfl dX3_confounded_31 ?_
    refine r_icmp_ge 62 dX3_confounded_34 (by decide) (fun hc => ?_) (fun hc => ?_)
    · replace h := kbG_t hc h
      refine r_le [some (.ref 51), some (.int v1), some (.int v2), some (.int v3), none] ⟨rfl, ⟨rfl, ⟨rfl, ⟨rfl, trivial⟩⟩⟩⟩ ?_
      exact hx v2 (kbG_some h)
    · replace h := kbG_f hc h
      refine r_iload_n dX3_confounded_37 rfl ?_
      refine r_aload_n dX3_confounded_38 rfl ?_
      refine r_iload_n dX3_confounded_39 rfl ?_
      refine r_iload_n dX3_confounded_40 rfl ?_
      refine r_iload dX3_confounded_41 rfl ?_
      obtain ⟨x2, hx0, h⟩ := kbG_bind h
      refine r_invV_i cvX3_67 sh51 rfl (sp_HO_soundsAlike v1 v3 v4 μ hx0) rfl rfl (Nat.le_of_ble_eq_true rfl) (Nat.le_of_ble_eq_true rfl) dX3_confounded_43 ?_
      refine r_if_eq 53 dX3_confounded_46 (by decide) (fun hc => ?_) (fun hc => ?_)
      · replace h := kbG_t hc h
        refine r_iconst 0 dX3_confounded_53 (by decide) ?_
        refine r_le [some (.ref 51), some (.int v1), none, some (.int v3), some (.int v4)] ⟨rfl, ⟨rfl, ⟨rfl, ⟨rfl, trivial⟩⟩⟩⟩ ?_
        exact jnR_HO_confounded_54 n v1 v3 v4 v2 0 μ (hx := hx) (hrec := ih) h
      · replace h := kbG_f hc h
        refine r_iconst 1 dX3_confounded_49 (by decide) ?_
        refine r_goto 54 dX3_confounded_50 (by decide) ?_
        refine r_le [some (.ref 51), some (.int v1), none, some (.int v3), some (.int v4)] ⟨rfl, ⟨rfl, ⟨rfl, ⟨rfl, trivial⟩⟩⟩⟩ ?_
        exact jnR_HO_confounded_54 n v1 v3 v4 v2 1 μ (hx := hx) (hrec := ih) h
def lp_HO_confounded_9 (n : Nat) (v1 : Int32) (μ : kbM) : Nat → Int32 → Int32 → Option (Int32)
  | 0, _, _ => none
  | k + 1, v2, v3 =>
    if (μ.1 13 4) ≤ v3 then
      some v2
    else
      (lp_HO_confounded_25 n v1 v3 μ n v2 (v3 + 1)).bind fun x3 =>
      lp_HO_confounded_9 n v1 μ k x3 (v3 + 1)
theorem lpR_HO_confounded_9 {l : Launch} (n : Nat) (v1 : Int32) (μ : kbM)  {Q : kbQt} {P : Int32 → Prop} (hx : ∀ z : Int32, P (z) → kbR l MX3_confounded 5 Q 68 [none, none, some (.int z), none, none] [] μ) : ∀ (k : Nat) (v2 : Int32) (v3 : Int32), kbG (lp_HO_confounded_9 n v1 μ k v2 v3) P → kbR l MX3_confounded 5 Q 9 [some (.ref 51), some (.int v1), some (.int v2), some (.int v3), none] [] μ := by
  intro k
  induction k with
  | zero => intro v2 v3 h; exact absurd h kbG_none
  | succ k ih =>
    intro v2 v3 h
    unfold lp_HO_confounded_9 at h
    refine r_iload_n dX3_confounded_9 rfl ?_
    refine r_aload_n dX3_confounded_10 rfl ?_
    refine r_getR flX3_32 sh51 rfl dX3_confounded_11 ?_
    refine r_getI flX3_62 sh13 rfl dX3_confounded_14 ?_
    refine r_icmp_ge 68 dX3_confounded_17 (by decide) (fun hc => ?_) (fun hc => ?_)
    · replace h := kbG_t hc h
      refine r_le [none, none, some (.int v2), none, none] ⟨rfl, trivial⟩ ?_
      exact hx v2 (kbG_some h)
    · replace h := kbG_f hc h
      refine r_iload_n dX3_confounded_20 rfl ?_
      refine r_iconst 1 dX3_confounded_21 (by decide) ?_
      refine r_iadd dX3_confounded_22 ?_
      refine r_istore dX3_confounded_23 (Nat.le_of_ble_eq_true rfl) rfl ?_
      refine r_le [some (.ref 51), some (.int v1), some (.int v2), some (.int v3), some (.int (v3 + 1))] ⟨rfl, ⟨rfl, ⟨rfl, ⟨rfl, ⟨rfl, trivial⟩⟩⟩⟩⟩ ?_
      obtain ⟨x3, hx0, h⟩ := kbG_bind h
      refine lpR_HO_confounded_25 n v1 v3 μ (P := fun z => x3 = z) (hx := fun z e => ?_) n _ _ ⟨_, hx0, rfl⟩
      subst e
      refine r_iinc 1 dX3_confounded_62 rfl (by decide) (Nat.le_of_ble_eq_true rfl) rfl ?_
      refine r_goto 9 dX3_confounded_65 (by decide) ?_
      refine r_le [some (.ref 51), some (.int v1), some (.int x3), some (.int (v3 + 1)), none] ⟨rfl, ⟨rfl, ⟨rfl, ⟨rfl, trivial⟩⟩⟩⟩ ?_
      exact ih x3 (v3 + 1) h
def f_HO_confounded (n : Nat) (a1 : Int32) (μ : kbM) : Option (Int32 × kbM) :=
  (f_HO_hearWords n a1 μ).bind fun x1 =>
  (lp_HO_confounded_9 n a1 x1 n 0 0).bind fun x4 =>
  some ((x4, x1))
theorem sp_HO_confounded {l : Launch} (n : Nat) (a1 : Int32) (μ : kbM)  {x : Int32 × kbM} (h : f_HO_confounded n a1 μ = some x) : kbS l MX3_confounded 5 [.ref 51, .int a1] μ (kbQe (some (.int x.1)) x.2) := by
  refine kb_enter 3 rfl rfl ?_
  suffices H : ∀ (Q : kbQt) (P : Int32 × kbM → Prop), (∀ z : Int32 × kbM, P z → Q (some (.int z.1)) z.2) → kbG (f_HO_confounded n a1 μ) P → kbR l MX3_confounded 5 Q 0 [some (.ref 51), some (.int a1), none, none, none] [] μ from H _ (fun z => z = x) (fun z e => by subst e; exact ⟨rfl, rfl⟩) ⟨x, h, rfl⟩
  clear h
  intro Q P hr h
  unfold f_HO_confounded at h
  refine r_aload_n dX3_confounded_0 rfl ?_
  refine r_iload_n dX3_confounded_1 rfl ?_
  obtain ⟨x1, hx0, h⟩ := kbG_bind h
  refine r_invV_v cvX3_63 sh51 rfl (sp_HO_hearWords n a1 μ hx0) rfl rfl (Nat.le_of_ble_eq_true rfl) (Nat.le_of_ble_eq_true rfl) dX3_confounded_2 ?_
  refine r_iconst 0 dX3_confounded_5 (by decide) ?_
  refine r_istore_n dX3_confounded_6 (Nat.le_of_ble_eq_true rfl) rfl ?_
  refine r_iconst 0 dX3_confounded_7 (by decide) ?_
  refine r_istore_n dX3_confounded_8 (Nat.le_of_ble_eq_true rfl) rfl ?_
  refine r_le [some (.ref 51), some (.int a1), some (.int 0), some (.int 0), none] ⟨rfl, ⟨rfl, ⟨rfl, ⟨rfl, trivial⟩⟩⟩⟩ ?_
  obtain ⟨x4, hx0, h⟩ := kbG_bind h
  refine lpR_HO_confounded_9 n a1 x1 (P := fun z => x4 = z) (hx := fun z e => ?_) n _ _ ⟨_, hx0, rfl⟩
  subst e
  refine r_iload_n dX3_confounded_68 rfl ?_
  exact r_iret rfl dX3_confounded_69 (hr ((x4, x1)) (kbG_some h))
def lp_HO_hearAll_2 (n : Nat) : Nat → Int32 → kbM → Option (kbM)
  | 0, _, _ => none
  | k + 1, v1, μ =>
    if (μ.1 32 2) ≤ v1 then
      some μ
    else
      (f_HO_hearWords n v1 μ).bind fun x1 =>
      lp_HO_hearAll_2 n k (v1 + 1) x1
theorem lpR_HO_hearAll_2 {l : Launch} (n : Nat)   {Q : kbQt} {P : kbM → Prop} (hx : ∀ z : kbM, P (z) → kbR l MX3_hearAll 5 Q 24 [none, none] [] z) : ∀ (k : Nat) (v1 : Int32) (μ : kbM), kbG (lp_HO_hearAll_2 n k v1 μ) P → kbR l MX3_hearAll 5 Q 2 [some (.ref 51), some (.int v1)] [] μ := by
  intro k
  induction k with
  | zero => intro v1 μ h; exact absurd h kbG_none
  | succ k ih =>
    intro v1 μ h
    unfold lp_HO_hearAll_2 at h
    refine r_iload_n dX3_hearAll_2 rfl ?_
    refine r_aload_n dX3_hearAll_3 rfl ?_
    refine r_getR flX3_18 sh51 rfl dX3_hearAll_4 ?_
    refine r_getI flX3_57 sh32 rfl dX3_hearAll_7 ?_
    refine r_icmp_ge 24 dX3_hearAll_10 (by decide) (fun hc => ?_) (fun hc => ?_)
    · replace h := kbG_t hc h
      refine r_le [none, none] trivial ?_
      exact hx μ (kbG_some h)
    · replace h := kbG_f hc h
      refine r_aload_n dX3_hearAll_13 rfl ?_
      refine r_iload_n dX3_hearAll_14 rfl ?_
      obtain ⟨x1, hx0, h⟩ := kbG_bind h
      refine r_invV_v cvX3_63 sh51 rfl (sp_HO_hearWords n v1 μ hx0) rfl rfl (Nat.le_of_ble_eq_true rfl) (Nat.le_of_ble_eq_true rfl) dX3_hearAll_15 ?_
      refine r_iinc 1 dX3_hearAll_18 rfl (by decide) (Nat.le_of_ble_eq_true rfl) rfl ?_
      refine r_goto 2 dX3_hearAll_21 (by decide) ?_
      refine r_le [some (.ref 51), some (.int (v1 + 1))] ⟨rfl, ⟨rfl, trivial⟩⟩ ?_
      exact ih (v1 + 1) x1 h
def f_HO_hearAll (n : Nat) (μ : kbM) : Option (kbM) :=
  (lp_HO_hearAll_2 n n 0 μ).bind fun x2 =>
  some x2
theorem sp_HO_hearAll {l : Launch} (n : Nat) (μ : kbM)  {x : kbM} (h : f_HO_hearAll n μ = some x) : kbS l MX3_hearAll 5 [.ref 51] μ (kbQe none x) := by
  refine kb_enter 1 rfl rfl ?_
  suffices H : ∀ (Q : kbQt) (P : kbM → Prop), (∀ z : kbM, P z → Q none z) → kbG (f_HO_hearAll n μ) P → kbR l MX3_hearAll 5 Q 0 [some (.ref 51), none] [] μ from H _ (fun z => z = x) (fun z e => by subst e; exact ⟨rfl, rfl⟩) ⟨x, h, rfl⟩
  clear h
  intro Q P hr h
  unfold f_HO_hearAll at h
  refine r_iconst 0 dX3_hearAll_0 (by decide) ?_
  refine r_istore_n dX3_hearAll_1 (Nat.le_of_ble_eq_true rfl) rfl ?_
  refine r_le [some (.ref 51), some (.int 0)] ⟨rfl, ⟨rfl, trivial⟩⟩ ?_
  obtain ⟨x2, hx0, h⟩ := kbG_bind h
  refine lpR_HO_hearAll_2 n (P := fun z => x2 = z) (hx := fun z e => ?_) n _ _ ⟨_, hx0, rfl⟩
  subst e
  exact r_vret rfl dX3_hearAll_24 (hr x2 (kbG_some h))
def jn_HO_layTelling_69 (n : Nat) (rec : Int32 → Int32 → Option (Int32)) (v1 : Int32) (v2 : Int32) (v3 : Int32) (v5 : Int32) (w0 : Int32) (w1 : Int32) (μ : kbM) : Option (Int32) :=
  rec (w0 ||| w1) (v5 + 1)
theorem jnR_HO_layTelling_69 {l : Launch} (n : Nat)   (v1 : Int32) (v2 : Int32) (v3 : Int32) (v5 : Int32) (w0 : Int32) (w1 : Int32) (μ : kbM) {Q : kbQt} {P : Int32 → Prop} (hx : ∀ z : Int32, P (z) → kbR l MX3_layTelling 2 Q 78 [some (.ref 51), some (.int v1), some (.int v2), some (.int v3), some (.int z), none] [] μ) {rec : Int32 → Int32 → Option (Int32)} (hrec : ∀ (v4 : Int32) (v5 : Int32), kbG (rec v4 v5) P → kbR l MX3_layTelling 2 Q 36 [some (.ref 51), some (.int v1), some (.int v2), some (.int v3), some (.int v4), some (.int v5)] [] μ) (h : kbG (jn_HO_layTelling_69 n rec v1 v2 v3 v5 w0 w1 μ) P) : kbR l MX3_layTelling 2 Q 69 [some (.ref 51), some (.int v1), some (.int v2), some (.int v3), none, some (.int v5)] [.int w1, .int w0] μ := by
  unfold jn_HO_layTelling_69 at h
  refine r_ior dX3_layTelling_69 ?_
  refine r_istore dX3_layTelling_70 (Nat.le_of_ble_eq_true rfl) rfl ?_
  refine r_iinc 1 dX3_layTelling_72 rfl (by decide) (Nat.le_of_ble_eq_true rfl) rfl ?_
  refine r_goto 36 dX3_layTelling_75 (by decide) ?_
  refine r_le [some (.ref 51), some (.int v1), some (.int v2), some (.int v3), some (.int (w0 ||| w1)), some (.int (v5 + 1))] ⟨rfl, ⟨rfl, ⟨rfl, ⟨rfl, ⟨rfl, ⟨rfl, trivial⟩⟩⟩⟩⟩⟩ ?_
  exact hrec (w0 ||| w1) (v5 + 1) h
def lp_HO_layTelling_36 (n : Nat) (v1 : Int32) (v2 : Int32) (v3 : Int32) (μ : kbM) : Nat → Int32 → Int32 → Option (Int32)
  | 0, _, _ => none
  | k + 1, v4, v5 =>
    if (μ.1 32 2) ≤ v5 then
      some v4
    else
      (f_HO_soundsAlike v5 v2 v3 μ).bind fun x1 =>
      if x1 = 0 then
        jn_HO_layTelling_69 n (lp_HO_layTelling_36 n v1 v2 v3 μ k) v1 v2 v3 v5 v4 (kbShl 1 v5) μ
      else
        jn_HO_layTelling_69 n (lp_HO_layTelling_36 n v1 v2 v3 μ k) v1 v2 v3 v5 v4 0 μ
theorem lpR_HO_layTelling_36 {l : Launch} (n : Nat) (v1 : Int32) (v2 : Int32) (v3 : Int32) (μ : kbM)  {Q : kbQt} {P : Int32 → Prop} (hx : ∀ z : Int32, P (z) → kbR l MX3_layTelling 2 Q 78 [some (.ref 51), some (.int v1), some (.int v2), some (.int v3), some (.int z), none] [] μ) : ∀ (k : Nat) (v4 : Int32) (v5 : Int32), kbG (lp_HO_layTelling_36 n v1 v2 v3 μ k v4 v5) P → kbR l MX3_layTelling 2 Q 36 [some (.ref 51), some (.int v1), some (.int v2), some (.int v3), some (.int v4), some (.int v5)] [] μ := by
  intro k
  induction k with
  | zero => intro v4 v5 h; exact absurd h kbG_none
  | succ k ih =>
    intro v4 v5 h
    unfold lp_HO_layTelling_36 at h
    refine r_iload dX3_layTelling_36 rfl ?_
    refine r_aload_n dX3_layTelling_38 rfl ?_
    refine r_getR flX3_18 sh51 rfl dX3_layTelling_39 ?_
    refine r_getI flX3_57 sh32 rfl dX3_layTelling_42 ?_
    refine r_icmp_ge 78 dX3_layTelling_45 (by decide) (fun hc => ?_) (fun hc => ?_)
    · replace h := kbG_t hc h
      refine r_le [some (.ref 51), some (.int v1), some (.int v2), some (.int v3), some (.int v4), none] ⟨rfl, ⟨rfl, ⟨rfl, ⟨rfl, ⟨rfl, trivial⟩⟩⟩⟩⟩ ?_
      exact hx v4 (kbG_some h)
    · replace h := kbG_f hc h
      refine r_iload dX3_layTelling_48 rfl ?_
      refine r_aload_n dX3_layTelling_50 rfl ?_
      refine r_iload dX3_layTelling_51 rfl ?_
      refine r_iload_n dX3_layTelling_53 rfl ?_
      refine r_iload_n dX3_layTelling_54 rfl ?_
      obtain ⟨x1, hx0, h⟩ := kbG_bind h
      refine r_invV_i cvX3_67 sh51 rfl (sp_HO_soundsAlike v5 v2 v3 μ hx0) rfl rfl (Nat.le_of_ble_eq_true rfl) (Nat.le_of_ble_eq_true rfl) dX3_layTelling_55 ?_
      refine r_if_eq 65 dX3_layTelling_58 (by decide) (fun hc => ?_) (fun hc => ?_)
      · replace h := kbG_t hc h
        refine r_iconst 1 dX3_layTelling_65 (by decide) ?_
        refine r_iload dX3_layTelling_66 rfl ?_
        refine r_shl dX3_layTelling_68 ?_
        refine r_le [some (.ref 51), some (.int v1), some (.int v2), some (.int v3), none, some (.int v5)] ⟨rfl, ⟨rfl, ⟨rfl, ⟨rfl, ⟨rfl, trivial⟩⟩⟩⟩⟩ ?_
        exact jnR_HO_layTelling_69 n v1 v2 v3 v5 v4 (kbShl 1 v5) μ (hx := hx) (hrec := ih) h
      · replace h := kbG_f hc h
        refine r_iconst 0 dX3_layTelling_61 (by decide) ?_
        refine r_goto 69 dX3_layTelling_62 (by decide) ?_
        refine r_le [some (.ref 51), some (.int v1), some (.int v2), some (.int v3), none, some (.int v5)] ⟨rfl, ⟨rfl, ⟨rfl, ⟨rfl, ⟨rfl, trivial⟩⟩⟩⟩⟩ ?_
        exact jnR_HO_layTelling_69 n v1 v2 v3 v5 v4 0 μ (hx := hx) (hrec := ih) h
def lp_HO_layTelling_19 (n : Nat) (v2 : Int32) : Nat → Int32 → Int32 → kbM → Option (Int32 × kbM)
  | 0, _, _, _ => none
  | k + 1, v1, v3, μ =>
    if (μ.1 13 4) ≤ v3 then
      some ((v1, μ))
    else
      (lp_HO_layTelling_36 n v1 v2 v3 μ n 0 0).bind fun x2 =>
      kbIf (kbIn v1 100) <|
      lp_HO_layTelling_19 n v2 k (v1 + 1) (v3 + 1) (kbW μ 53 v1.toNatClampNeg x2)
theorem lpR_HO_layTelling_19 {l : Launch} (n : Nat) (v2 : Int32)  {Q : kbQt} {P : Int32 × kbM → Prop} (hx : ∀ z : Int32 × kbM, P (z) → kbR l MX3_layTelling 2 Q 95 [some (.ref 51), some (.int z.1), some (.int v2), none, none, none] [] z.2) : ∀ (k : Nat) (v1 : Int32) (v3 : Int32) (μ : kbM), kbG (lp_HO_layTelling_19 n v2 k v1 v3 μ) P → kbR l MX3_layTelling 2 Q 19 [some (.ref 51), some (.int v1), some (.int v2), some (.int v3), none, none] [] μ := by
  intro k
  induction k with
  | zero => intro v1 v3 μ h; exact absurd h kbG_none
  | succ k ih =>
    intro v1 v3 μ h
    unfold lp_HO_layTelling_19 at h
    refine r_iload_n dX3_layTelling_19 rfl ?_
    refine r_aload_n dX3_layTelling_20 rfl ?_
    refine r_getR flX3_32 sh51 rfl dX3_layTelling_21 ?_
    refine r_getI flX3_62 sh13 rfl dX3_layTelling_24 ?_
    refine r_icmp_ge 95 dX3_layTelling_27 (by decide) (fun hc => ?_) (fun hc => ?_)
    · replace h := kbG_t hc h
      refine r_le [some (.ref 51), some (.int v1), some (.int v2), none, none, none] ⟨rfl, ⟨rfl, ⟨rfl, trivial⟩⟩⟩ ?_
      exact hx ((v1, μ)) (kbG_some h)
    · replace h := kbG_f hc h
      refine r_iconst 0 dX3_layTelling_30 (by decide) ?_
      refine r_istore dX3_layTelling_31 (Nat.le_of_ble_eq_true rfl) rfl ?_
      refine r_iconst 0 dX3_layTelling_33 (by decide) ?_
      refine r_istore dX3_layTelling_34 (Nat.le_of_ble_eq_true rfl) rfl ?_
      refine r_le [some (.ref 51), some (.int v1), some (.int v2), some (.int v3), some (.int 0), some (.int 0)] ⟨rfl, ⟨rfl, ⟨rfl, ⟨rfl, ⟨rfl, ⟨rfl, trivial⟩⟩⟩⟩⟩⟩ ?_
      obtain ⟨x2, hx0, h⟩ := kbG_bind h
      refine lpR_HO_layTelling_36 n v1 v2 v3 μ (P := fun z => x2 = z) (hx := fun z e => ?_) n _ _ ⟨_, hx0, rfl⟩
      subst e
      refine r_aload_n dX3_layTelling_78 rfl ?_
      refine r_getR flX3_15 sh51 rfl dX3_layTelling_79 ?_
      refine r_iload_n dX3_layTelling_82 rfl ?_
      refine r_iload dX3_layTelling_83 rfl ?_
      obtain ⟨hin, h⟩ := kbG_if h
      replace hin := kbIn_of hin
      refine q_iast v1.toNatClampNeg rfl sh53 hin dX3_layTelling_85 ?_
      refine r_iinc 1 dX3_layTelling_86 rfl (by decide) (Nat.le_of_ble_eq_true rfl) rfl ?_
      refine r_iinc 1 dX3_layTelling_89 rfl (by decide) (Nat.le_of_ble_eq_true rfl) rfl ?_
      refine r_goto 19 dX3_layTelling_92 (by decide) ?_
      refine r_le [some (.ref 51), some (.int (v1 + 1)), some (.int v2), some (.int (v3 + 1)), none, none] ⟨rfl, ⟨rfl, ⟨rfl, ⟨rfl, trivial⟩⟩⟩⟩ ?_
      exact ih (v1 + 1) (v3 + 1) (kbW μ 53 v1.toNatClampNeg x2) h
def lp_HO_layTelling_4 (n : Nat) : Nat → Int32 → Int32 → kbM → Option (Int32 × kbM)
  | 0, _, _, _ => none
  | k + 1, v1, v2, μ =>
    if (μ.1 13 4) ≤ v2 then
      some ((v1, μ))
    else
      (lp_HO_layTelling_19 n v2 n v1 (v2 + 1) μ).bind fun x3 =>
      lp_HO_layTelling_4 n k x3.1 (v2 + 1) x3.2
theorem lpR_HO_layTelling_4 {l : Launch} (n : Nat)   {Q : kbQt} {P : Int32 × kbM → Prop} (hx : ∀ z : Int32 × kbM, P (z) → kbR l MX3_layTelling 2 Q 101 [none, some (.int z.1), none, none, none, none] [] z.2) : ∀ (k : Nat) (v1 : Int32) (v2 : Int32) (μ : kbM), kbG (lp_HO_layTelling_4 n k v1 v2 μ) P → kbR l MX3_layTelling 2 Q 4 [some (.ref 51), some (.int v1), some (.int v2), none, none, none] [] μ := by
  intro k
  induction k with
  | zero => intro v1 v2 μ h; exact absurd h kbG_none
  | succ k ih =>
    intro v1 v2 μ h
    unfold lp_HO_layTelling_4 at h
    refine r_iload_n dX3_layTelling_4 rfl ?_
    refine r_aload_n dX3_layTelling_5 rfl ?_
    refine r_getR flX3_32 sh51 rfl dX3_layTelling_6 ?_
    refine r_getI flX3_62 sh13 rfl dX3_layTelling_9 ?_
    refine r_icmp_ge 101 dX3_layTelling_12 (by decide) (fun hc => ?_) (fun hc => ?_)
    · replace h := kbG_t hc h
      refine r_le [none, some (.int v1), none, none, none, none] ⟨rfl, trivial⟩ ?_
      exact hx ((v1, μ)) (kbG_some h)
    · replace h := kbG_f hc h
      refine r_iload_n dX3_layTelling_15 rfl ?_
      refine r_iconst 1 dX3_layTelling_16 (by decide) ?_
      refine r_iadd dX3_layTelling_17 ?_
      refine r_istore_n dX3_layTelling_18 (Nat.le_of_ble_eq_true rfl) rfl ?_
      refine r_le [some (.ref 51), some (.int v1), some (.int v2), some (.int (v2 + 1)), none, none] ⟨rfl, ⟨rfl, ⟨rfl, ⟨rfl, trivial⟩⟩⟩⟩ ?_
      obtain ⟨x3, hx0, h⟩ := kbG_bind h
      refine lpR_HO_layTelling_19 n v2 (P := fun z => x3 = z) (hx := fun z e => ?_) n _ _ _ ⟨_, hx0, rfl⟩
      subst e
      refine r_iinc 1 dX3_layTelling_95 rfl (by decide) (Nat.le_of_ble_eq_true rfl) rfl ?_
      refine r_goto 4 dX3_layTelling_98 (by decide) ?_
      refine r_le [some (.ref 51), some (.int x3.1), some (.int (v2 + 1)), none, none, none] ⟨rfl, ⟨rfl, ⟨rfl, trivial⟩⟩⟩ ?_
      exact ih x3.1 (v2 + 1) x3.2 h
def f_HO_layTelling (n : Nat) (μ : kbM) : Option (Int32 × kbM) :=
  (lp_HO_layTelling_4 n n 0 0 μ).bind fun x4 =>
  some ((x4.1, x4.2))
theorem sp_HO_layTelling {l : Launch} (n : Nat) (μ : kbM)  {x : Int32 × kbM} (h : f_HO_layTelling n μ = some x) : kbS l MX3_layTelling 2 [.ref 51] μ (kbQe (some (.int x.1)) x.2) := by
  refine kb_enter 5 rfl rfl ?_
  suffices H : ∀ (Q : kbQt) (P : Int32 × kbM → Prop), (∀ z : Int32 × kbM, P z → Q (some (.int z.1)) z.2) → kbG (f_HO_layTelling n μ) P → kbR l MX3_layTelling 2 Q 0 [some (.ref 51), none, none, none, none, none] [] μ from H _ (fun z => z = x) (fun z e => by subst e; exact ⟨rfl, rfl⟩) ⟨x, h, rfl⟩
  clear h
  intro Q P hr h
  unfold f_HO_layTelling at h
  refine r_iconst 0 dX3_layTelling_0 (by decide) ?_
  refine r_istore_n dX3_layTelling_1 (Nat.le_of_ble_eq_true rfl) rfl ?_
  refine r_iconst 0 dX3_layTelling_2 (by decide) ?_
  refine r_istore_n dX3_layTelling_3 (Nat.le_of_ble_eq_true rfl) rfl ?_
  refine r_le [some (.ref 51), some (.int 0), some (.int 0), none, none, none] ⟨rfl, ⟨rfl, ⟨rfl, trivial⟩⟩⟩ ?_
  obtain ⟨x4, hx0, h⟩ := kbG_bind h
  refine lpR_HO_layTelling_4 n (P := fun z => x4 = z) (hx := fun z e => ?_) n _ _ _ ⟨_, hx0, rfl⟩
  subst e
  refine r_iload_n dX3_layTelling_101 rfl ?_
  exact r_iret rfl dX3_layTelling_102 (hr ((x4.1, x4.2)) (kbG_some h))
def lp_HO_tellsAll_2 (n : Nat) (v1 : Int32) (v2 : Int32) (μ : kbM) : Nat → Int32 → Option ((Int32) ⊕ (Unit))
  | 0, _ => none
  | k + 1, v3 =>
    if v2 ≤ v3 then
      some (.inr (()))
    else
      kbIf (kbIn v3 100) <|
      if ((μ.1 53 v3.toNatClampNeg) &&& v1) = 0 then
        some (.inl 0)
      else
        lp_HO_tellsAll_2 n v1 v2 μ k (v3 + 1)
theorem lpR_HO_tellsAll_2 {l : Launch} (n : Nat) (v1 : Int32) (v2 : Int32) (μ : kbM)  {Q : kbQt} {P : (Int32) ⊕ (Unit) → Prop} (hr : ∀ z : Int32, P (.inl z) → Q (some (.int z)) μ) (hx : ∀ z : Unit, P (.inr z) → kbR l MX3_tellsAll 1 Q 26 [none, none, none, none] [] μ) : ∀ (k : Nat) (v3 : Int32), kbG (lp_HO_tellsAll_2 n v1 v2 μ k v3) P → kbR l MX3_tellsAll 1 Q 2 [some (.ref 51), some (.int v1), some (.int v2), some (.int v3)] [] μ := by
  intro k
  induction k with
  | zero => intro v3 h; exact absurd h kbG_none
  | succ k ih =>
    intro v3 h
    unfold lp_HO_tellsAll_2 at h
    refine r_iload_n dX3_tellsAll_2 rfl ?_
    refine r_iload_n dX3_tellsAll_3 rfl ?_
    refine r_icmp_ge 26 dX3_tellsAll_4 (by decide) (fun hc => ?_) (fun hc => ?_)
    · replace h := kbG_t hc h
      refine r_le [none, none, none, none] trivial ?_
      exact hx (()) (kbG_some h)
    · replace h := kbG_f hc h
      refine r_aload_n dX3_tellsAll_7 rfl ?_
      refine r_getR flX3_15 sh51 rfl dX3_tellsAll_8 ?_
      refine r_iload_n dX3_tellsAll_11 rfl ?_
      obtain ⟨hin, h⟩ := kbG_if h
      replace hin := kbIn_of hin
      refine q_iald v3.toNatClampNeg rfl sh53 hin dX3_tellsAll_12 ?_
      refine r_iload_n dX3_tellsAll_13 rfl ?_
      refine r_iand dX3_tellsAll_14 ?_
      refine r_if_ne 20 dX3_tellsAll_15 (by decide) (fun hc => ?_) (fun hc => ?_)
      · replace h := kbG_f hc h
        refine r_iinc 1 dX3_tellsAll_20 rfl (by decide) (Nat.le_of_ble_eq_true rfl) rfl ?_
        refine r_goto 2 dX3_tellsAll_23 (by decide) ?_
        refine r_le [some (.ref 51), some (.int v1), some (.int v2), some (.int (v3 + 1))] ⟨rfl, ⟨rfl, ⟨rfl, ⟨rfl, trivial⟩⟩⟩⟩ ?_
        exact ih (v3 + 1) h
      · replace h := kbG_t hc h
        refine r_iconst 0 dX3_tellsAll_18 (by decide) ?_
        exact r_zret rfl rfl dX3_tellsAll_19 (hr 0 (kbG_some h))
def f_HO_tellsAll (n : Nat) (a1 : Int32) (a2 : Int32) (μ : kbM) : Option (Int32) :=
  kbOr (lp_HO_tellsAll_2 n a1 a2 μ n 0) (fun r2 => some r2) fun x1 =>
  some 1
theorem sp_HO_tellsAll {l : Launch} (n : Nat) (a1 : Int32) (a2 : Int32) (μ : kbM)  {x : Int32} (h : f_HO_tellsAll n a1 a2 μ = some x) : kbS l MX3_tellsAll 1 [.ref 51, .int a1, .int a2] μ (kbQe (some (.int x)) μ) := by
  refine kb_enter 1 rfl rfl ?_
  suffices H : ∀ (Q : kbQt) (P : Int32 → Prop), (∀ z : Int32, P z → Q (some (.int z)) μ) → kbG (f_HO_tellsAll n a1 a2 μ) P → kbR l MX3_tellsAll 1 Q 0 [some (.ref 51), some (.int a1), some (.int a2), none] [] μ from H _ (fun z => z = x) (fun z e => by subst e; exact ⟨rfl, rfl⟩) ⟨x, h, rfl⟩
  clear h
  intro Q P hr h
  unfold f_HO_tellsAll at h
  refine r_iconst 0 dX3_tellsAll_0 (by decide) ?_
  refine r_istore_n dX3_tellsAll_1 (Nat.le_of_ble_eq_true rfl) rfl ?_
  refine r_le [some (.ref 51), some (.int a1), some (.int a2), some (.int 0)] ⟨rfl, ⟨rfl, ⟨rfl, ⟨rfl, trivial⟩⟩⟩⟩ ?_
  rcases kbG_or h with ⟨r2, hx0, h⟩ | ⟨x1, hx0, h⟩
  · exact lpR_HO_tellsAll_2 n a1 a2 μ (P := fun z => .inl r2 = z) (hr := fun z e => by cases e; exact hr _ (kbG_some h)) (hx := fun z e => by cases e) n _ ⟨_, hx0, rfl⟩
  · refine lpR_HO_tellsAll_2 n a1 a2 μ (P := fun z => .inr x1 = z) (hr := fun z e => by cases e) (hx := fun z e => ?_) n _ ⟨_, hx0, rfl⟩
    cases e
    refine r_iconst 1 dX3_tellsAll_26 (by decide) ?_
    exact r_zret rfl rfl dX3_tellsAll_27 (hr 1 (kbG_some h))
def jn_HO_fewestDoors_65 (n : Nat) (rec : Int32 → Int32 → Option (Int32)) (v1 : Int32) (v2 : Int32) (v3 : Int32) (μ : kbM) : Option (Int32) :=
  rec v2 (v3 + 1)
theorem jnR_HO_fewestDoors_65 {l : Launch} (n : Nat)   (v1 : Int32) (v2 : Int32) (v3 : Int32) (μ : kbM) {Q : kbQt} {P : Int32 → Prop} (hx : ∀ z : Int32, P (z) → kbR l MX3_fewestDoors 6 Q 71 [none, none, some (.int z), none, none] [] μ) {rec : Int32 → Int32 → Option (Int32)} (hrec : ∀ (v2 : Int32) (v3 : Int32), kbG (rec v2 v3) P → kbR l MX3_fewestDoors 6 Q 13 [some (.ref 51), some (.int v1), some (.int v2), some (.int v3), none] [] μ) (h : kbG (jn_HO_fewestDoors_65 n rec v1 v2 v3 μ) P) : kbR l MX3_fewestDoors 6 Q 65 [some (.ref 51), some (.int v1), some (.int v2), some (.int v3), none] [] μ := by
  unfold jn_HO_fewestDoors_65 at h
  refine r_iinc 1 dX3_fewestDoors_65 rfl (by decide) (Nat.le_of_ble_eq_true rfl) rfl ?_
  refine r_goto 13 dX3_fewestDoors_68 (by decide) ?_
  refine r_le [some (.ref 51), some (.int v1), some (.int v2), some (.int (v3 + 1)), none] ⟨rfl, ⟨rfl, ⟨rfl, ⟨rfl, trivial⟩⟩⟩⟩ ?_
  exact hrec v2 (v3 + 1) h
def jn_HO_fewestDoors_47 (n : Nat) (rec : Int32 → Int32 → Option (Int32)) (v1 : Int32) (v2 : Int32) (v3 : Int32) (w0 : Int32) (μ : kbM) : Option (Int32) :=
  if w0 = 0 then
    jn_HO_fewestDoors_65 n rec v1 v2 v3 μ
  else
    (f_HO_tellsAll n v3 v1 μ).bind fun x3 =>
    if x3 = 0 then
      jn_HO_fewestDoors_65 n rec v1 v2 v3 μ
    else
      jn_HO_fewestDoors_65 n rec v1 v3 v3 μ
theorem jnR_HO_fewestDoors_47 {l : Launch} (n : Nat)   (v1 : Int32) (v2 : Int32) (v3 : Int32) (w0 : Int32) (μ : kbM) {Q : kbQt} {P : Int32 → Prop} (hx : ∀ z : Int32, P (z) → kbR l MX3_fewestDoors 6 Q 71 [none, none, some (.int z), none, none] [] μ) {rec : Int32 → Int32 → Option (Int32)} (hrec : ∀ (v2 : Int32) (v3 : Int32), kbG (rec v2 v3) P → kbR l MX3_fewestDoors 6 Q 13 [some (.ref 51), some (.int v1), some (.int v2), some (.int v3), none] [] μ) (h : kbG (jn_HO_fewestDoors_47 n rec v1 v2 v3 w0 μ) P) : kbR l MX3_fewestDoors 6 Q 47 [some (.ref 51), some (.int v1), some (.int v2), some (.int v3), none] [.int w0] μ := by
  unfold jn_HO_fewestDoors_47 at h
  refine r_istore dX3_fewestDoors_47 (Nat.le_of_ble_eq_true rfl) rfl ?_
  refine r_iload dX3_fewestDoors_49 rfl ?_
  refine r_if_eq 65 dX3_fewestDoors_51 (by decide) (fun hc => ?_) (fun hc => ?_)
  · replace h := kbG_t hc h
    refine r_le [some (.ref 51), some (.int v1), some (.int v2), some (.int v3), none] ⟨rfl, ⟨rfl, ⟨rfl, ⟨rfl, trivial⟩⟩⟩⟩ ?_
    exact jnR_HO_fewestDoors_65 n v1 v2 v3 μ (hx := hx) (hrec := hrec) h
  · replace h := kbG_f hc h
    refine r_aload_n dX3_fewestDoors_54 rfl ?_
    refine r_iload_n dX3_fewestDoors_55 rfl ?_
    refine r_iload_n dX3_fewestDoors_56 rfl ?_
    obtain ⟨x3, hx0, h⟩ := kbG_bind h
    refine r_invV_i cvX3_87 sh51 rfl (sp_HO_tellsAll n v3 v1 μ hx0) rfl rfl (Nat.le_of_ble_eq_true rfl) (Nat.le_of_ble_eq_true rfl) dX3_fewestDoors_57 ?_
    refine r_if_eq 65 dX3_fewestDoors_60 (by decide) (fun hc => ?_) (fun hc => ?_)
    · replace h := kbG_t hc h
      refine r_le [some (.ref 51), some (.int v1), some (.int v2), some (.int v3), none] ⟨rfl, ⟨rfl, ⟨rfl, ⟨rfl, trivial⟩⟩⟩⟩ ?_
      exact jnR_HO_fewestDoors_65 n v1 v2 v3 μ (hx := hx) (hrec := hrec) h
    · replace h := kbG_f hc h
      refine r_iload_n dX3_fewestDoors_63 rfl ?_
      refine r_istore_n dX3_fewestDoors_64 (Nat.le_of_ble_eq_true rfl) rfl ?_
      refine r_le [some (.ref 51), some (.int v1), some (.int v3), some (.int v3), none] ⟨rfl, ⟨rfl, ⟨rfl, ⟨rfl, trivial⟩⟩⟩⟩ ?_
      exact jnR_HO_fewestDoors_65 n v1 v3 v3 μ (hx := hx) (hrec := hrec) h
def jn_HO_fewestDoors_42 (n : Nat) (rec : Int32 → Int32 → Option (Int32)) (v1 : Int32) (v2 : Int32) (v3 : Int32) (μ : kbM) : Option (Int32) :=
  jn_HO_fewestDoors_47 n rec v1 v2 v3 1 μ
theorem jnR_HO_fewestDoors_42 {l : Launch} (n : Nat)   (v1 : Int32) (v2 : Int32) (v3 : Int32) (μ : kbM) {Q : kbQt} {P : Int32 → Prop} (hx : ∀ z : Int32, P (z) → kbR l MX3_fewestDoors 6 Q 71 [none, none, some (.int z), none, none] [] μ) {rec : Int32 → Int32 → Option (Int32)} (hrec : ∀ (v2 : Int32) (v3 : Int32), kbG (rec v2 v3) P → kbR l MX3_fewestDoors 6 Q 13 [some (.ref 51), some (.int v1), some (.int v2), some (.int v3), none] [] μ) (h : kbG (jn_HO_fewestDoors_42 n rec v1 v2 v3 μ) P) : kbR l MX3_fewestDoors 6 Q 42 [some (.ref 51), some (.int v1), some (.int v2), some (.int v3), none] [] μ := by
  unfold jn_HO_fewestDoors_42 at h
  refine r_iconst 1 dX3_fewestDoors_42 (by decide) ?_
  refine r_goto 47 dX3_fewestDoors_43 (by decide) ?_
  refine r_le [some (.ref 51), some (.int v1), some (.int v2), some (.int v3), none] ⟨rfl, ⟨rfl, ⟨rfl, ⟨rfl, trivial⟩⟩⟩⟩ ?_
  exact jnR_HO_fewestDoors_47 n v1 v2 v3 1 μ (hx := hx) (hrec := hrec) h
def lp_HO_fewestDoors_13 (n : Nat) (v1 : Int32) (μ : kbM) : Nat → Int32 → Int32 → Option (Int32)
  | 0, _, _ => none
  | k + 1, v2, v3 =>
    if (kbShl 1 (μ.1 32 2)) ≤ v3 then
      some v2
    else
      if v2 = (-1) then
        jn_HO_fewestDoors_42 n (lp_HO_fewestDoors_13 n v1 μ k) v1 v2 v3 μ
      else
        if (kbBits v2) ≤ (kbBits v3) then
          jn_HO_fewestDoors_47 n (lp_HO_fewestDoors_13 n v1 μ k) v1 v2 v3 0 μ
        else
          jn_HO_fewestDoors_42 n (lp_HO_fewestDoors_13 n v1 μ k) v1 v2 v3 μ
theorem lpR_HO_fewestDoors_13 {l : Launch} (n : Nat) (v1 : Int32) (μ : kbM)  {Q : kbQt} {P : Int32 → Prop} (hx : ∀ z : Int32, P (z) → kbR l MX3_fewestDoors 6 Q 71 [none, none, some (.int z), none, none] [] μ) : ∀ (k : Nat) (v2 : Int32) (v3 : Int32), kbG (lp_HO_fewestDoors_13 n v1 μ k v2 v3) P → kbR l MX3_fewestDoors 6 Q 13 [some (.ref 51), some (.int v1), some (.int v2), some (.int v3), none] [] μ := by
  intro k
  induction k with
  | zero => intro v2 v3 h; exact absurd h kbG_none
  | succ k ih =>
    intro v2 v3 h
    unfold lp_HO_fewestDoors_13 at h
    refine r_iload_n dX3_fewestDoors_13 rfl ?_
    refine r_iconst 1 dX3_fewestDoors_14 (by decide) ?_
    refine r_aload_n dX3_fewestDoors_15 rfl ?_
    refine r_getR flX3_18 sh51 rfl dX3_fewestDoors_16 ?_
    refine r_getI flX3_57 sh32 rfl dX3_fewestDoors_19 ?_
    refine r_shl dX3_fewestDoors_22 ?_
    refine r_icmp_ge 71 dX3_fewestDoors_23 (by decide) (fun hc => ?_) (fun hc => ?_)
    · replace h := kbG_t hc h
      refine r_le [none, none, some (.int v2), none, none] ⟨rfl, trivial⟩ ?_
      exact hx v2 (kbG_some h)
    · replace h := kbG_f hc h
      refine r_iload_n dX3_fewestDoors_26 rfl ?_
      refine r_iconst (-1) dX3_fewestDoors_27 (by decide) ?_
      refine r_icmp_eq 42 dX3_fewestDoors_28 (by decide) (fun hc => ?_) (fun hc => ?_)
      · replace h := kbG_t hc h
        refine r_le [some (.ref 51), some (.int v1), some (.int v2), some (.int v3), none] ⟨rfl, ⟨rfl, ⟨rfl, ⟨rfl, trivial⟩⟩⟩⟩ ?_
        exact jnR_HO_fewestDoors_42 n v1 v2 v3 μ (hx := hx) (hrec := ih) h
      · replace h := kbG_f hc h
        refine r_iload_n dX3_fewestDoors_31 rfl ?_
        refine r_inv_i csX3_81 (sp_bitCount v3 _) rfl rfl (Nat.le_of_ble_eq_true rfl) (Nat.le_of_ble_eq_true rfl) dX3_fewestDoors_32 ?_
        refine r_iload_n dX3_fewestDoors_35 rfl ?_
        refine r_inv_i csX3_81 (sp_bitCount v2 _) rfl rfl (Nat.le_of_ble_eq_true rfl) (Nat.le_of_ble_eq_true rfl) dX3_fewestDoors_36 ?_
        refine r_icmp_ge 46 dX3_fewestDoors_39 (by decide) (fun hc => ?_) (fun hc => ?_)
        · replace h := kbG_t hc h
          refine r_iconst 0 dX3_fewestDoors_46 (by decide) ?_
          refine r_le [some (.ref 51), some (.int v1), some (.int v2), some (.int v3), none] ⟨rfl, ⟨rfl, ⟨rfl, ⟨rfl, trivial⟩⟩⟩⟩ ?_
          exact jnR_HO_fewestDoors_47 n v1 v2 v3 0 μ (hx := hx) (hrec := ih) h
        · replace h := kbG_f hc h
          refine r_le [some (.ref 51), some (.int v1), some (.int v2), some (.int v3), none] ⟨rfl, ⟨rfl, ⟨rfl, ⟨rfl, trivial⟩⟩⟩⟩ ?_
          exact jnR_HO_fewestDoors_42 n v1 v2 v3 μ (hx := hx) (hrec := ih) h
def f_HO_fewestDoors (n : Nat) (μ : kbM) : Option (Int32 × kbM) :=
  (f_HO_hearAll n μ).bind fun x1 =>
  (f_HO_layTelling n x1).bind fun x2 =>
  (lp_HO_fewestDoors_13 n x2.1 x2.2 n (-1) 0).bind fun x4 =>
  some ((x4, x2.2))
theorem sp_HO_fewestDoors {l : Launch} (n : Nat) (μ : kbM)  {x : Int32 × kbM} (h : f_HO_fewestDoors n μ = some x) : kbS l MX3_fewestDoors 6 [.ref 51] μ (kbQe (some (.int x.1)) x.2) := by
  refine kb_enter 4 rfl rfl ?_
  suffices H : ∀ (Q : kbQt) (P : Int32 × kbM → Prop), (∀ z : Int32 × kbM, P z → Q (some (.int z.1)) z.2) → kbG (f_HO_fewestDoors n μ) P → kbR l MX3_fewestDoors 6 Q 0 [some (.ref 51), none, none, none, none] [] μ from H _ (fun z => z = x) (fun z e => by subst e; exact ⟨rfl, rfl⟩) ⟨x, h, rfl⟩
  clear h
  intro Q P hr h
  unfold f_HO_fewestDoors at h
  refine r_aload_n dX3_fewestDoors_0 rfl ?_
  obtain ⟨x1, hx0, h⟩ := kbG_bind h
  refine r_invV_v cvX3_74 sh51 rfl (sp_HO_hearAll n μ hx0) rfl rfl (Nat.le_of_ble_eq_true rfl) (Nat.le_of_ble_eq_true rfl) dX3_fewestDoors_1 ?_
  refine r_aload_n dX3_fewestDoors_4 rfl ?_
  obtain ⟨x2, hx0, h⟩ := kbG_bind h
  refine r_invV_i cvX3_77 sh51 rfl (sp_HO_layTelling n x1 hx0) rfl rfl (Nat.le_of_ble_eq_true rfl) (Nat.le_of_ble_eq_true rfl) dX3_fewestDoors_5 ?_
  refine r_istore_n dX3_fewestDoors_8 (Nat.le_of_ble_eq_true rfl) rfl ?_
  refine r_iconst (-1) dX3_fewestDoors_9 (by decide) ?_
  refine r_istore_n dX3_fewestDoors_10 (Nat.le_of_ble_eq_true rfl) rfl ?_
  refine r_iconst 0 dX3_fewestDoors_11 (by decide) ?_
  refine r_istore_n dX3_fewestDoors_12 (Nat.le_of_ble_eq_true rfl) rfl ?_
  refine r_le [some (.ref 51), some (.int x2.1), some (.int (-1)), some (.int 0), none] ⟨rfl, ⟨rfl, ⟨rfl, ⟨rfl, trivial⟩⟩⟩⟩ ?_
  obtain ⟨x4, hx0, h⟩ := kbG_bind h
  refine lpR_HO_fewestDoors_13 n x2.1 x2.2 (P := fun z => x4 = z) (hx := fun z e => ?_) n _ _ ⟨_, hx0, rfl⟩
  subst e
  refine r_iload_n dX3_fewestDoors_71 rfl ?_
  exact r_iret rfl dX3_fewestDoors_72 (hr ((x4, x2.2)) (kbG_some h))
def jn_HO_commonHand_39 (n : Nat) (rec : Int32 → Int32 → Option (Int32)) (v1 : Int32) (v3 : Int32) (w0 : Int32) (w1 : Int32) (μ : kbM) : Option (Int32) :=
  rec (w0 &&& w1) (v3 + 1)
theorem jnR_HO_commonHand_39 {l : Launch} (n : Nat)   (v1 : Int32) (v3 : Int32) (w0 : Int32) (w1 : Int32) (μ : kbM) {Q : kbQt} {P : Int32 → Prop} (hx : ∀ z : Int32, P (z) → kbR l MX3_commonHand 1 Q 47 [none, none, some (.int z), none] [] μ) {rec : Int32 → Int32 → Option (Int32)} (hrec : ∀ (v2 : Int32) (v3 : Int32), kbG (rec v2 v3) P → kbR l MX3_commonHand 1 Q 5 [some (.ref 51), some (.int v1), some (.int v2), some (.int v3)] [] μ) (h : kbG (jn_HO_commonHand_39 n rec v1 v3 w0 w1 μ) P) : kbR l MX3_commonHand 1 Q 39 [some (.ref 51), some (.int v1), none, some (.int v3)] [.int w1, .int w0] μ := by
  unfold jn_HO_commonHand_39 at h
  refine r_iand dX3_commonHand_39 ?_
  refine r_istore_n dX3_commonHand_40 (Nat.le_of_ble_eq_true rfl) rfl ?_
  refine r_iinc 1 dX3_commonHand_41 rfl (by decide) (Nat.le_of_ble_eq_true rfl) rfl ?_
  refine r_goto 5 dX3_commonHand_44 (by decide) ?_
  refine r_le [some (.ref 51), some (.int v1), some (.int (w0 &&& w1)), some (.int (v3 + 1))] ⟨rfl, ⟨rfl, ⟨rfl, ⟨rfl, trivial⟩⟩⟩⟩ ?_
  exact hrec (w0 &&& w1) (v3 + 1) h
def lp_HO_commonHand_5 (n : Nat) (v1 : Int32) (μ : kbM) : Nat → Int32 → Int32 → Option (Int32)
  | 0, _, _ => none
  | k + 1, v2, v3 =>
    if (μ.1 32 2) ≤ v3 then
      some v2
    else
      if ((kbShr v1 v3) &&& 1) = 0 then
        jn_HO_commonHand_39 n (lp_HO_commonHand_5 n v1 μ k) v1 v3 v2 15 μ
      else
        kbIf (kbIn v3 6) <|
        jn_HO_commonHand_39 n (lp_HO_commonHand_5 n v1 μ k) v1 v3 v2 (μ.1 34 v3.toNatClampNeg) μ
theorem lpR_HO_commonHand_5 {l : Launch} (n : Nat) (v1 : Int32) (μ : kbM)  {Q : kbQt} {P : Int32 → Prop} (hx : ∀ z : Int32, P (z) → kbR l MX3_commonHand 1 Q 47 [none, none, some (.int z), none] [] μ) : ∀ (k : Nat) (v2 : Int32) (v3 : Int32), kbG (lp_HO_commonHand_5 n v1 μ k v2 v3) P → kbR l MX3_commonHand 1 Q 5 [some (.ref 51), some (.int v1), some (.int v2), some (.int v3)] [] μ := by
  intro k
  induction k with
  | zero => intro v2 v3 h; exact absurd h kbG_none
  | succ k ih =>
    intro v2 v3 h
    unfold lp_HO_commonHand_5 at h
    refine r_iload_n dX3_commonHand_5 rfl ?_
    refine r_aload_n dX3_commonHand_6 rfl ?_
    refine r_getR flX3_18 sh51 rfl dX3_commonHand_7 ?_
    refine r_getI flX3_57 sh32 rfl dX3_commonHand_10 ?_
    refine r_icmp_ge 47 dX3_commonHand_13 (by decide) (fun hc => ?_) (fun hc => ?_)
    · replace h := kbG_t hc h
      refine r_le [none, none, some (.int v2), none] ⟨rfl, trivial⟩ ?_
      exact hx v2 (kbG_some h)
    · replace h := kbG_f hc h
      refine r_iload_n dX3_commonHand_16 rfl ?_
      refine r_iload_n dX3_commonHand_17 rfl ?_
      refine r_iload_n dX3_commonHand_18 rfl ?_
      refine r_shr dX3_commonHand_19 ?_
      refine r_iconst 1 dX3_commonHand_20 (by decide) ?_
      refine r_iand dX3_commonHand_21 ?_
      refine r_if_eq 37 dX3_commonHand_22 (by decide) (fun hc => ?_) (fun hc => ?_)
      · replace h := kbG_t hc h
        refine r_bipush 15 dX3_commonHand_37 (by decide) ?_
        refine r_le [some (.ref 51), some (.int v1), none, some (.int v3)] ⟨rfl, ⟨rfl, ⟨rfl, trivial⟩⟩⟩ ?_
        exact jnR_HO_commonHand_39 n v1 v3 v2 15 μ (hx := hx) (hrec := ih) h
      · replace h := kbG_f hc h
        refine r_aload_n dX3_commonHand_25 rfl ?_
        refine r_getR flX3_18 sh51 rfl dX3_commonHand_26 ?_
        refine r_getR flX3_108 sh32 rfl dX3_commonHand_29 ?_
        refine r_iload_n dX3_commonHand_32 rfl ?_
        obtain ⟨hin, h⟩ := kbG_if h
        replace hin := kbIn_of hin
        refine q_iald v3.toNatClampNeg rfl sh34 hin dX3_commonHand_33 ?_
        refine r_goto 39 dX3_commonHand_34 (by decide) ?_
        refine r_le [some (.ref 51), some (.int v1), none, some (.int v3)] ⟨rfl, ⟨rfl, ⟨rfl, trivial⟩⟩⟩ ?_
        exact jnR_HO_commonHand_39 n v1 v3 v2 (μ.1 34 v3.toNatClampNeg) μ (hx := hx) (hrec := ih) h
def f_HO_commonHand (n : Nat) (a1 : Int32) (μ : kbM) : Option (Int32) :=
  (lp_HO_commonHand_5 n a1 μ n 15 0).bind fun x1 =>
  some x1
theorem sp_HO_commonHand {l : Launch} (n : Nat) (a1 : Int32) (μ : kbM)  {x : Int32} (h : f_HO_commonHand n a1 μ = some x) : kbS l MX3_commonHand 1 [.ref 51, .int a1] μ (kbQe (some (.int x)) μ) := by
  refine kb_enter 2 rfl rfl ?_
  suffices H : ∀ (Q : kbQt) (P : Int32 → Prop), (∀ z : Int32, P z → Q (some (.int z)) μ) → kbG (f_HO_commonHand n a1 μ) P → kbR l MX3_commonHand 1 Q 0 [some (.ref 51), some (.int a1), none, none] [] μ from H _ (fun z => z = x) (fun z e => by subst e; exact ⟨rfl, rfl⟩) ⟨x, h, rfl⟩
  clear h
  intro Q P hr h
  unfold f_HO_commonHand at h
  refine r_bipush 15 dX3_commonHand_0 (by decide) ?_
  refine r_istore_n dX3_commonHand_2 (Nat.le_of_ble_eq_true rfl) rfl ?_
  refine r_iconst 0 dX3_commonHand_3 (by decide) ?_
  refine r_istore_n dX3_commonHand_4 (Nat.le_of_ble_eq_true rfl) rfl ?_
  refine r_le [some (.ref 51), some (.int a1), some (.int 15), some (.int 0)] ⟨rfl, ⟨rfl, ⟨rfl, ⟨rfl, trivial⟩⟩⟩⟩ ?_
  obtain ⟨x1, hx0, h⟩ := kbG_bind h
  refine lpR_HO_commonHand_5 n a1 μ (P := fun z => x1 = z) (hx := fun z e => ?_) n _ _ ⟨_, hx0, rfl⟩
  subst e
  refine r_iload_n dX3_commonHand_47 rfl ?_
  exact r_iret rfl dX3_commonHand_48 (hr x1 (kbG_some h))
def lp_HO_isHeardAnew_23 (n : Nat) (v1 : Int32) (v2 : Int32) (v3 : Int32) (μ : kbM) : Nat → Int32 → Option ((Int32) ⊕ (Unit))
  | 0, _ => none
  | k + 1, v4 =>
    if (μ.1 13 4) ≤ v4 then
      some (.inr (()))
    else
      kbIf (kbIn ((v2 * 10) + v4) 60) <|
      if (μ.1 52 (((v2 * 10) + v4).toNatClampNeg)) = v3 then
        some (.inl 0)
      else
        lp_HO_isHeardAnew_23 n v1 v2 v3 μ k (v4 + 1)
theorem lpR_HO_isHeardAnew_23 {l : Launch} (n : Nat) (v1 : Int32) (v2 : Int32) (v3 : Int32) (μ : kbM)  {Q : kbQt} {P : (Int32) ⊕ (Unit) → Prop} (hr : ∀ z : Int32, P (.inl z) → Q (some (.int z)) μ) (hx : ∀ z : Unit, P (.inr z) → kbR l MX3_isHeardAnew 4 Q 59 [some (.ref 51), some (.int v1), some (.int v2), none, none] [] μ) : ∀ (k : Nat) (v4 : Int32), kbG (lp_HO_isHeardAnew_23 n v1 v2 v3 μ k v4) P → kbR l MX3_isHeardAnew 4 Q 23 [some (.ref 51), some (.int v1), some (.int v2), some (.int v3), some (.int v4)] [] μ := by
  intro k
  induction k with
  | zero => intro v4 h; exact absurd h kbG_none
  | succ k ih =>
    intro v4 h
    unfold lp_HO_isHeardAnew_23 at h
    refine r_iload dX3_isHeardAnew_23 rfl ?_
    refine r_aload_n dX3_isHeardAnew_25 rfl ?_
    refine r_getR flX3_32 sh51 rfl dX3_isHeardAnew_26 ?_
    refine r_getI flX3_62 sh13 rfl dX3_isHeardAnew_29 ?_
    refine r_icmp_ge 59 dX3_isHeardAnew_32 (by decide) (fun hc => ?_) (fun hc => ?_)
    · replace h := kbG_t hc h
      refine r_le [some (.ref 51), some (.int v1), some (.int v2), none, none] ⟨rfl, ⟨rfl, ⟨rfl, trivial⟩⟩⟩ ?_
      exact hx (()) (kbG_some h)
    · replace h := kbG_f hc h
      refine r_aload_n dX3_isHeardAnew_35 rfl ?_
      refine r_getR flX3_9 sh51 rfl dX3_isHeardAnew_36 ?_
      refine r_iload_n dX3_isHeardAnew_39 rfl ?_
      refine r_bipush 10 dX3_isHeardAnew_40 (by decide) ?_
      refine r_imul dX3_isHeardAnew_42 ?_
      refine r_iload dX3_isHeardAnew_43 rfl ?_
      refine r_iadd dX3_isHeardAnew_45 ?_
      obtain ⟨hin, h⟩ := kbG_if h
      replace hin := kbIn_of hin
      refine q_iald (((v2 * 10) + v4).toNatClampNeg) rfl sh52 hin dX3_isHeardAnew_46 ?_
      refine r_iload_n dX3_isHeardAnew_47 rfl ?_
      refine r_icmp_ne 53 dX3_isHeardAnew_48 (by decide) (fun hc => ?_) (fun hc => ?_)
      · replace h := kbG_f hc h
        refine r_iinc 1 dX3_isHeardAnew_53 rfl (by decide) (Nat.le_of_ble_eq_true rfl) rfl ?_
        refine r_goto 23 dX3_isHeardAnew_56 (by decide) ?_
        refine r_le [some (.ref 51), some (.int v1), some (.int v2), some (.int v3), some (.int (v4 + 1))] ⟨rfl, ⟨rfl, ⟨rfl, ⟨rfl, ⟨rfl, trivial⟩⟩⟩⟩⟩ ?_
        exact ih (v4 + 1) h
      · replace h := kbG_t hc h
        refine r_iconst 0 dX3_isHeardAnew_51 (by decide) ?_
        exact r_zret rfl rfl dX3_isHeardAnew_52 (hr 0 (kbG_some h))
def lp_HO_isHeardAnew_2 (n : Nat) (v1 : Int32) (μ : kbM) : Nat → Int32 → Option ((Int32) ⊕ (Unit))
  | 0, _ => none
  | k + 1, v2 =>
    if (μ.1 32 2) ≤ v2 then
      some (.inr (()))
    else
      (f_HO_hearing n v2 v1 μ).bind fun x1 =>
      kbOr (lp_HO_isHeardAnew_23 n v1 v2 x1 μ n 0) (fun r3 => some (.inl r3)) fun x2 =>
      lp_HO_isHeardAnew_2 n v1 μ k (v2 + 1)
theorem lpR_HO_isHeardAnew_2 {l : Launch} (n : Nat) (v1 : Int32) (μ : kbM)  {Q : kbQt} {P : (Int32) ⊕ (Unit) → Prop} (hr : ∀ z : Int32, P (.inl z) → Q (some (.int z)) μ) (hx : ∀ z : Unit, P (.inr z) → kbR l MX3_isHeardAnew 4 Q 65 [none, none, none, none, none] [] μ) : ∀ (k : Nat) (v2 : Int32), kbG (lp_HO_isHeardAnew_2 n v1 μ k v2) P → kbR l MX3_isHeardAnew 4 Q 2 [some (.ref 51), some (.int v1), some (.int v2), none, none] [] μ := by
  intro k
  induction k with
  | zero => intro v2 h; exact absurd h kbG_none
  | succ k ih =>
    intro v2 h
    unfold lp_HO_isHeardAnew_2 at h
    refine r_iload_n dX3_isHeardAnew_2 rfl ?_
    refine r_aload_n dX3_isHeardAnew_3 rfl ?_
    refine r_getR flX3_18 sh51 rfl dX3_isHeardAnew_4 ?_
    refine r_getI flX3_57 sh32 rfl dX3_isHeardAnew_7 ?_
    refine r_icmp_ge 65 dX3_isHeardAnew_10 (by decide) (fun hc => ?_) (fun hc => ?_)
    · replace h := kbG_t hc h
      refine r_le [none, none, none, none, none] trivial ?_
      exact hx (()) (kbG_some h)
    · replace h := kbG_f hc h
      refine r_aload_n dX3_isHeardAnew_13 rfl ?_
      refine r_iload_n dX3_isHeardAnew_14 rfl ?_
      refine r_iload_n dX3_isHeardAnew_15 rfl ?_
      obtain ⟨x1, hx0, h⟩ := kbG_bind h
      refine r_invV_i cvX3_71 sh51 rfl (sp_HO_hearing n v2 v1 μ hx0) rfl rfl (Nat.le_of_ble_eq_true rfl) (Nat.le_of_ble_eq_true rfl) dX3_isHeardAnew_16 ?_
      refine r_istore_n dX3_isHeardAnew_19 (Nat.le_of_ble_eq_true rfl) rfl ?_
      refine r_iconst 0 dX3_isHeardAnew_20 (by decide) ?_
      refine r_istore dX3_isHeardAnew_21 (Nat.le_of_ble_eq_true rfl) rfl ?_
      refine r_le [some (.ref 51), some (.int v1), some (.int v2), some (.int x1), some (.int 0)] ⟨rfl, ⟨rfl, ⟨rfl, ⟨rfl, ⟨rfl, trivial⟩⟩⟩⟩⟩ ?_
      rcases kbG_or h with ⟨r3, hx0, h⟩ | ⟨x2, hx0, h⟩
      · exact lpR_HO_isHeardAnew_23 n v1 v2 x1 μ (P := fun z => .inl r3 = z) (hr := fun z e => by cases e; exact hr _ (kbG_some h)) (hx := fun z e => by cases e) n _ ⟨_, hx0, rfl⟩
      · refine lpR_HO_isHeardAnew_23 n v1 v2 x1 μ (P := fun z => .inr x2 = z) (hr := fun z e => by cases e) (hx := fun z e => ?_) n _ ⟨_, hx0, rfl⟩
        cases e
        refine r_iinc 1 dX3_isHeardAnew_59 rfl (by decide) (Nat.le_of_ble_eq_true rfl) rfl ?_
        refine r_goto 2 dX3_isHeardAnew_62 (by decide) ?_
        refine r_le [some (.ref 51), some (.int v1), some (.int (v2 + 1)), none, none] ⟨rfl, ⟨rfl, ⟨rfl, trivial⟩⟩⟩ ?_
        exact ih (v2 + 1) h
def f_HO_isHeardAnew (n : Nat) (a1 : Int32) (μ : kbM) : Option (Int32) :=
  kbOr (lp_HO_isHeardAnew_2 n a1 μ n 0) (fun r5 => some r5) fun x4 =>
  some 1
theorem sp_HO_isHeardAnew {l : Launch} (n : Nat) (a1 : Int32) (μ : kbM)  {x : Int32} (h : f_HO_isHeardAnew n a1 μ = some x) : kbS l MX3_isHeardAnew 4 [.ref 51, .int a1] μ (kbQe (some (.int x)) μ) := by
  refine kb_enter 3 rfl rfl ?_
  suffices H : ∀ (Q : kbQt) (P : Int32 → Prop), (∀ z : Int32, P z → Q (some (.int z)) μ) → kbG (f_HO_isHeardAnew n a1 μ) P → kbR l MX3_isHeardAnew 4 Q 0 [some (.ref 51), some (.int a1), none, none, none] [] μ from H _ (fun z => z = x) (fun z e => by subst e; exact ⟨rfl, rfl⟩) ⟨x, h, rfl⟩
  clear h
  intro Q P hr h
  unfold f_HO_isHeardAnew at h
  refine r_iconst 0 dX3_isHeardAnew_0 (by decide) ?_
  refine r_istore_n dX3_isHeardAnew_1 (Nat.le_of_ble_eq_true rfl) rfl ?_
  refine r_le [some (.ref 51), some (.int a1), some (.int 0), none, none] ⟨rfl, ⟨rfl, ⟨rfl, trivial⟩⟩⟩ ?_
  rcases kbG_or h with ⟨r5, hx0, h⟩ | ⟨x4, hx0, h⟩
  · exact lpR_HO_isHeardAnew_2 n a1 μ (P := fun z => .inl r5 = z) (hr := fun z e => by cases e; exact hr _ (kbG_some h)) (hx := fun z e => by cases e) n _ ⟨_, hx0, rfl⟩
  · refine lpR_HO_isHeardAnew_2 n a1 μ (P := fun z => .inr x4 = z) (hr := fun z e => by cases e) (hx := fun z e => ?_) n _ ⟨_, hx0, rfl⟩
    cases e
    refine r_iconst 1 dX3_isHeardAnew_65 (by decide) ?_
    exact r_zret rfl rfl dX3_isHeardAnew_66 (hr 1 (kbG_some h))
def jn_HO_freshRow_73 (n : Nat) (rec : Int32 → Option ((Int32 × kbM) ⊕ (Unit))) (v2 : Int32) (v3 : Int32) (μ : kbM) : Option ((Int32 × kbM) ⊕ (Unit)) :=
  rec (v3 + 1)
theorem jnR_HO_freshRow_73 {l : Launch} (n : Nat)   (v2 : Int32) (v3 : Int32) (μ : kbM) {Q : kbQt} {P : (Int32 × kbM) ⊕ (Unit) → Prop} (hr : ∀ z : Int32 × kbM, P (.inl z) → Q (some (.int z.1)) z.2) (hx : ∀ z : Unit, P (.inr z) → kbR l MX3_freshRow 6 Q 79 [none, none, none, none, none] [] μ) {rec : Int32 → Option ((Int32 × kbM) ⊕ (Unit))} (hrec : ∀ (v3 : Int32), kbG (rec v3) P → kbR l MX3_freshRow 6 Q 12 [some (.ref 51), none, some (.int v2), some (.int v3), none] [] μ) (h : kbG (jn_HO_freshRow_73 n rec v2 v3 μ) P) : kbR l MX3_freshRow 6 Q 73 [some (.ref 51), none, some (.int v2), some (.int v3), none] [] μ := by
  unfold jn_HO_freshRow_73 at h
  refine r_iinc 1 dX3_freshRow_73 rfl (by decide) (Nat.le_of_ble_eq_true rfl) rfl ?_
  refine r_goto 12 dX3_freshRow_76 (by decide) ?_
  refine r_le [some (.ref 51), none, some (.int v2), some (.int (v3 + 1)), none] ⟨rfl, ⟨rfl, ⟨rfl, trivial⟩⟩⟩ ?_
  exact hrec (v3 + 1) h
def jn_HO_freshRow_56 (n : Nat) (rec : Int32 → Option ((Int32 × kbM) ⊕ (Unit))) (v2 : Int32) (v3 : Int32) (w0 : Int32) (μ : kbM) : Option ((Int32 × kbM) ⊕ (Unit)) :=
  if w0 = 0 then
    jn_HO_freshRow_73 n rec v2 v3 μ
  else
    (f_HO_isHeardAnew n v3 μ).bind fun x4 =>
    if x4 = 0 then
      jn_HO_freshRow_73 n rec v2 v3 μ
    else
      some (.inl ((v3, μ)))
theorem jnR_HO_freshRow_56 {l : Launch} (n : Nat)   (v2 : Int32) (v3 : Int32) (w0 : Int32) (μ : kbM) {Q : kbQt} {P : (Int32 × kbM) ⊕ (Unit) → Prop} (hr : ∀ z : Int32 × kbM, P (.inl z) → Q (some (.int z.1)) z.2) (hx : ∀ z : Unit, P (.inr z) → kbR l MX3_freshRow 6 Q 79 [none, none, none, none, none] [] μ) {rec : Int32 → Option ((Int32 × kbM) ⊕ (Unit))} (hrec : ∀ (v3 : Int32), kbG (rec v3) P → kbR l MX3_freshRow 6 Q 12 [some (.ref 51), none, some (.int v2), some (.int v3), none] [] μ) (h : kbG (jn_HO_freshRow_56 n rec v2 v3 w0 μ) P) : kbR l MX3_freshRow 6 Q 56 [some (.ref 51), none, some (.int v2), some (.int v3), none] [.int w0] μ := by
  unfold jn_HO_freshRow_56 at h
  refine r_istore dX3_freshRow_56 (Nat.le_of_ble_eq_true rfl) rfl ?_
  refine r_iload dX3_freshRow_58 rfl ?_
  refine r_if_eq 73 dX3_freshRow_60 (by decide) (fun hc => ?_) (fun hc => ?_)
  · replace h := kbG_t hc h
    refine r_le [some (.ref 51), none, some (.int v2), some (.int v3), none] ⟨rfl, ⟨rfl, ⟨rfl, trivial⟩⟩⟩ ?_
    exact jnR_HO_freshRow_73 n v2 v3 μ (hr := hr) (hx := hx) (hrec := hrec) h
  · replace h := kbG_f hc h
    refine r_aload_n dX3_freshRow_63 rfl ?_
    refine r_iload_n dX3_freshRow_64 rfl ?_
    obtain ⟨x4, hx0, h⟩ := kbG_bind h
    refine r_invV_i cvX3_105 sh51 rfl (sp_HO_isHeardAnew n v3 μ hx0) rfl rfl (Nat.le_of_ble_eq_true rfl) (Nat.le_of_ble_eq_true rfl) dX3_freshRow_65 ?_
    refine r_if_eq 73 dX3_freshRow_68 (by decide) (fun hc => ?_) (fun hc => ?_)
    · replace h := kbG_t hc h
      refine r_le [some (.ref 51), none, some (.int v2), some (.int v3), none] ⟨rfl, ⟨rfl, ⟨rfl, trivial⟩⟩⟩ ?_
      exact jnR_HO_freshRow_73 n v2 v3 μ (hr := hr) (hx := hx) (hrec := hrec) h
    · replace h := kbG_f hc h
      refine r_iload_n dX3_freshRow_71 rfl ?_
      exact r_iret rfl dX3_freshRow_72 (hr ((v3, μ)) (kbG_some h))
def jn_HO_freshRow_55 (n : Nat) (rec : Int32 → Option ((Int32 × kbM) ⊕ (Unit))) (v2 : Int32) (v3 : Int32) (μ : kbM) : Option ((Int32 × kbM) ⊕ (Unit)) :=
  jn_HO_freshRow_56 n rec v2 v3 0 μ
theorem jnR_HO_freshRow_55 {l : Launch} (n : Nat)   (v2 : Int32) (v3 : Int32) (μ : kbM) {Q : kbQt} {P : (Int32 × kbM) ⊕ (Unit) → Prop} (hr : ∀ z : Int32 × kbM, P (.inl z) → Q (some (.int z.1)) z.2) (hx : ∀ z : Unit, P (.inr z) → kbR l MX3_freshRow 6 Q 79 [none, none, none, none, none] [] μ) {rec : Int32 → Option ((Int32 × kbM) ⊕ (Unit))} (hrec : ∀ (v3 : Int32), kbG (rec v3) P → kbR l MX3_freshRow 6 Q 12 [some (.ref 51), none, some (.int v2), some (.int v3), none] [] μ) (h : kbG (jn_HO_freshRow_55 n rec v2 v3 μ) P) : kbR l MX3_freshRow 6 Q 55 [some (.ref 51), none, some (.int v2), some (.int v3), none] [] μ := by
  unfold jn_HO_freshRow_55 at h
  refine r_iconst 0 dX3_freshRow_55 (by decide) ?_
  refine r_le [some (.ref 51), none, some (.int v2), some (.int v3), none] ⟨rfl, ⟨rfl, ⟨rfl, trivial⟩⟩⟩ ?_
  exact jnR_HO_freshRow_56 n v2 v3 0 μ (hr := hr) (hx := hx) (hrec := hrec) h
def lp_HO_freshRow_12 (n : Nat) (v2 : Int32) (μ : kbM) : Nat → Int32 → Option ((Int32 × kbM) ⊕ (Unit))
  | 0, _ => none
  | k + 1, v3 =>
    if (kbFv.getD 4 0) ≤ v3 then
      some (.inr (()))
    else
      (f_RO_isRow n v3).bind fun x3 =>
      if x3 = 0 then
        jn_HO_freshRow_55 n (lp_HO_freshRow_12 n v2 μ k) v2 v3 μ
      else
        (f_RO_soundsIn n v3).bind fun x5 =>
        if (x5 &&& (v2 ^^^ (-1))) = 0 then
          (f_WO_find_13 n v3 μ).bind fun x6 =>
          if x6 = (-1) then
            jn_HO_freshRow_56 n (lp_HO_freshRow_12 n v2 μ k) v2 v3 1 μ
          else
            jn_HO_freshRow_55 n (lp_HO_freshRow_12 n v2 μ k) v2 v3 μ
        else
          jn_HO_freshRow_55 n (lp_HO_freshRow_12 n v2 μ k) v2 v3 μ
theorem lpR_HO_freshRow_12 {l : Launch} (n : Nat) (v2 : Int32) (μ : kbM)  {Q : kbQt} {P : (Int32 × kbM) ⊕ (Unit) → Prop} (hr : ∀ z : Int32 × kbM, P (.inl z) → Q (some (.int z.1)) z.2) (hx : ∀ z : Unit, P (.inr z) → kbR l MX3_freshRow 6 Q 79 [none, none, none, none, none] [] μ) : ∀ (k : Nat) (v3 : Int32), kbG (lp_HO_freshRow_12 n v2 μ k v3) P → kbR l MX3_freshRow 6 Q 12 [some (.ref 51), none, some (.int v2), some (.int v3), none] [] μ := by
  intro k
  induction k with
  | zero => intro v3 h; exact absurd h kbG_none
  | succ k ih =>
    intro v3 h
    unfold lp_HO_freshRow_12 at h
    refine r_iload_n dX3_freshRow_12 rfl ?_
    refine r_fivesN stX3_93 dX3_freshRow_13 ?_
    refine r_iconst 4 dX3_freshRow_16 (by decide) ?_
    have hin : vp_in 4 13 := kbIn_of (by decide)
    refine q_fald 4 (by decide) hin dX3_freshRow_17 ?_
    refine r_icmp_ge 79 dX3_freshRow_18 (by decide) (fun hc => ?_) (fun hc => ?_)
    · replace h := kbG_t hc h
      refine r_le [none, none, none, none, none] trivial ?_
      exact hx (()) (kbG_some h)
    · replace h := kbG_f hc h
      refine r_iload_n dX3_freshRow_21 rfl ?_
      obtain ⟨x3, hx0, h⟩ := kbG_bind h
      refine r_inv_i csX3_96 (sp_RO_isRow n v3 μ hx0) rfl rfl (Nat.le_of_ble_eq_true rfl) (Nat.le_of_ble_eq_true rfl) dX3_freshRow_22 ?_
      refine r_if_eq 55 dX3_freshRow_25 (by decide) (fun hc => ?_) (fun hc => ?_)
      · replace h := kbG_t hc h
        refine r_le [some (.ref 51), none, some (.int v2), some (.int v3), none] ⟨rfl, ⟨rfl, ⟨rfl, trivial⟩⟩⟩ ?_
        exact jnR_HO_freshRow_55 n v2 v3 μ (hr := hr) (hx := hx) (hrec := ih) h
      · replace h := kbG_f hc h
        refine r_iload_n dX3_freshRow_28 rfl ?_
        obtain ⟨x5, hx0, h⟩ := kbG_bind h
        refine r_inv_i csX3_99 (sp_RO_soundsIn n v3 μ hx0) rfl rfl (Nat.le_of_ble_eq_true rfl) (Nat.le_of_ble_eq_true rfl) dX3_freshRow_29 ?_
        refine r_iload_n dX3_freshRow_32 rfl ?_
        refine r_iconst (-1) dX3_freshRow_33 (by decide) ?_
        refine r_ixor dX3_freshRow_34 ?_
        refine r_iand dX3_freshRow_35 ?_
        refine r_if_ne 55 dX3_freshRow_36 (by decide) (fun hc => ?_) (fun hc => ?_)
        · replace h := kbG_f hc h
          refine r_le [some (.ref 51), none, some (.int v2), some (.int v3), none] ⟨rfl, ⟨rfl, ⟨rfl, trivial⟩⟩⟩ ?_
          exact jnR_HO_freshRow_55 n v2 v3 μ (hr := hr) (hx := hx) (hrec := ih) h
        · replace h := kbG_t hc h
          refine r_aload_n dX3_freshRow_39 rfl ?_
          refine r_getR flX3_32 sh51 rfl dX3_freshRow_40 ?_
          refine r_iload_n dX3_freshRow_43 rfl ?_
          obtain ⟨x6, hx0, h⟩ := kbG_bind h
          refine r_invV_i cvX3_102 sh13 rfl (sp_WO_find_13 n v3 μ hx0) rfl rfl (Nat.le_of_ble_eq_true rfl) (Nat.le_of_ble_eq_true rfl) dX3_freshRow_44 ?_
          refine r_iconst (-1) dX3_freshRow_47 (by decide) ?_
          refine r_icmp_ne 55 dX3_freshRow_48 (by decide) (fun hc => ?_) (fun hc => ?_)
          · replace h := kbG_f hc h
            refine r_le [some (.ref 51), none, some (.int v2), some (.int v3), none] ⟨rfl, ⟨rfl, ⟨rfl, trivial⟩⟩⟩ ?_
            exact jnR_HO_freshRow_55 n v2 v3 μ (hr := hr) (hx := hx) (hrec := ih) h
          · replace h := kbG_t hc h
            refine r_iconst 1 dX3_freshRow_51 (by decide) ?_
            refine r_goto 56 dX3_freshRow_52 (by decide) ?_
            refine r_le [some (.ref 51), none, some (.int v2), some (.int v3), none] ⟨rfl, ⟨rfl, ⟨rfl, trivial⟩⟩⟩ ?_
            exact jnR_HO_freshRow_56 n v2 v3 1 μ (hr := hr) (hx := hx) (hrec := ih) h
def f_HO_freshRow (n : Nat) (a1 : Int32) (μ : kbM) : Option (Int32 × kbM) :=
  (f_HO_hearAll n μ).bind fun x1 =>
  (f_HO_commonHand n a1 x1).bind fun x2 =>
  kbOr (lp_HO_freshRow_12 n x2 x1 n 1) (fun r8 => some r8) fun x7 =>
  some (((-1), x1))
theorem sp_HO_freshRow {l : Launch} (n : Nat) (a1 : Int32) (μ : kbM)  {x : Int32 × kbM} (h : f_HO_freshRow n a1 μ = some x) : kbS l MX3_freshRow 6 [.ref 51, .int a1] μ (kbQe (some (.int x.1)) x.2) := by
  refine kb_enter 3 rfl rfl ?_
  suffices H : ∀ (Q : kbQt) (P : Int32 × kbM → Prop), (∀ z : Int32 × kbM, P z → Q (some (.int z.1)) z.2) → kbG (f_HO_freshRow n a1 μ) P → kbR l MX3_freshRow 6 Q 0 [some (.ref 51), some (.int a1), none, none, none] [] μ from H _ (fun z => z = x) (fun z e => by subst e; exact ⟨rfl, rfl⟩) ⟨x, h, rfl⟩
  clear h
  intro Q P hr h
  unfold f_HO_freshRow at h
  refine r_aload_n dX3_freshRow_0 rfl ?_
  obtain ⟨x1, hx0, h⟩ := kbG_bind h
  refine r_invV_v cvX3_74 sh51 rfl (sp_HO_hearAll n μ hx0) rfl rfl (Nat.le_of_ble_eq_true rfl) (Nat.le_of_ble_eq_true rfl) dX3_freshRow_1 ?_
  refine r_aload_n dX3_freshRow_4 rfl ?_
  refine r_iload_n dX3_freshRow_5 rfl ?_
  obtain ⟨x2, hx0, h⟩ := kbG_bind h
  refine r_invV_i cvX3_90 sh51 rfl (sp_HO_commonHand n a1 x1 hx0) rfl rfl (Nat.le_of_ble_eq_true rfl) (Nat.le_of_ble_eq_true rfl) dX3_freshRow_6 ?_
  refine r_istore_n dX3_freshRow_9 (Nat.le_of_ble_eq_true rfl) rfl ?_
  refine r_iconst 1 dX3_freshRow_10 (by decide) ?_
  refine r_istore_n dX3_freshRow_11 (Nat.le_of_ble_eq_true rfl) rfl ?_
  refine r_le [some (.ref 51), none, some (.int x2), some (.int 1), none] ⟨rfl, ⟨rfl, ⟨rfl, trivial⟩⟩⟩ ?_
  rcases kbG_or h with ⟨r8, hx0, h⟩ | ⟨x7, hx0, h⟩
  · exact lpR_HO_freshRow_12 n x2 x1 (P := fun z => .inl r8 = z) (hr := fun z e => by cases e; exact hr _ (kbG_some h)) (hx := fun z e => by cases e) n _ ⟨_, hx0, rfl⟩
  · refine lpR_HO_freshRow_12 n x2 x1 (P := fun z => .inr x7 = z) (hr := fun z e => by cases e) (hx := fun z e => ?_) n _ ⟨_, hx0, rfl⟩
    cases e
    refine r_iconst (-1) dX3_freshRow_79 (by decide) ?_
    exact r_iret rfl dX3_freshRow_80 (hr (((-1), x1)) (kbG_some h))
def lp_HO_agreesWithHeard_2 (n : Nat) (v1 : Int32) (μ : kbM) : Nat → Int32 → Option ((Int32) ⊕ (Unit))
  | 0, _ => none
  | k + 1, v2 =>
    if (μ.1 12 6) ≤ v2 then
      some (.inr (()))
    else
      kbIf (kbIn v2 8) <|
      kbIf (kbIn v1 10) <|
      (f_HO_hearing n (μ.1 19 v2.toNatClampNeg) (μ.1 14 v1.toNatClampNeg) μ).bind fun x1 =>
      kbIf (kbIn v2 8) <|
      if x1 = (μ.1 20 v2.toNatClampNeg) then
        lp_HO_agreesWithHeard_2 n v1 μ k (v2 + 1)
      else
        some (.inl 0)
theorem lpR_HO_agreesWithHeard_2 {l : Launch} (n : Nat) (v1 : Int32) (μ : kbM)  {Q : kbQt} {P : (Int32) ⊕ (Unit) → Prop} (hr : ∀ z : Int32, P (.inl z) → Q (some (.int z)) μ) (hx : ∀ z : Unit, P (.inr z) → kbR l MX3_agreesWithHeard 4 Q 55 [none, none, none] [] μ) : ∀ (k : Nat) (v2 : Int32), kbG (lp_HO_agreesWithHeard_2 n v1 μ k v2) P → kbR l MX3_agreesWithHeard 4 Q 2 [some (.ref 51), some (.int v1), some (.int v2)] [] μ := by
  intro k
  induction k with
  | zero => intro v2 h; exact absurd h kbG_none
  | succ k ih =>
    intro v2 h
    unfold lp_HO_agreesWithHeard_2 at h
    refine r_iload_n dX3_agreesWithHeard_2 rfl ?_
    refine r_aload_n dX3_agreesWithHeard_3 rfl ?_
    refine r_getR flX3_22 sh51 rfl dX3_agreesWithHeard_4 ?_
    refine r_getI flX3_114 sh12 rfl dX3_agreesWithHeard_7 ?_
    refine r_icmp_ge 55 dX3_agreesWithHeard_10 (by decide) (fun hc => ?_) (fun hc => ?_)
    · replace h := kbG_t hc h
      refine r_le [none, none, none] trivial ?_
      exact hx (()) (kbG_some h)
    · replace h := kbG_f hc h
      refine r_aload_n dX3_agreesWithHeard_13 rfl ?_
      refine r_aload_n dX3_agreesWithHeard_14 rfl ?_
      refine r_getR flX3_22 sh51 rfl dX3_agreesWithHeard_15 ?_
      refine r_getR flX3_117 sh12 rfl dX3_agreesWithHeard_18 ?_
      refine r_iload_n dX3_agreesWithHeard_21 rfl ?_
      obtain ⟨hin, h⟩ := kbG_if h
      replace hin := kbIn_of hin
      refine q_iald v2.toNatClampNeg rfl sh19 hin dX3_agreesWithHeard_22 ?_
      refine r_aload_n dX3_agreesWithHeard_23 rfl ?_
      refine r_getR flX3_32 sh51 rfl dX3_agreesWithHeard_24 ?_
      refine r_getR flX3_48 sh13 rfl dX3_agreesWithHeard_27 ?_
      refine r_iload_n dX3_agreesWithHeard_30 rfl ?_
      obtain ⟨hin, h⟩ := kbG_if h
      replace hin := kbIn_of hin
      refine q_iald v1.toNatClampNeg rfl sh14 hin dX3_agreesWithHeard_31 ?_
      obtain ⟨x1, hx0, h⟩ := kbG_bind h
      refine r_invV_i cvX3_71 sh51 rfl (sp_HO_hearing n (μ.1 19 v2.toNatClampNeg) (μ.1 14 v1.toNatClampNeg) μ hx0) rfl rfl (Nat.le_of_ble_eq_true rfl) (Nat.le_of_ble_eq_true rfl) dX3_agreesWithHeard_32 ?_
      refine r_aload_n dX3_agreesWithHeard_35 rfl ?_
      refine r_getR flX3_22 sh51 rfl dX3_agreesWithHeard_36 ?_
      refine r_getR flX3_120 sh12 rfl dX3_agreesWithHeard_39 ?_
      refine r_iload_n dX3_agreesWithHeard_42 rfl ?_
      obtain ⟨hin, h⟩ := kbG_if h
      replace hin := kbIn_of hin
      refine q_iald v2.toNatClampNeg rfl sh20 hin dX3_agreesWithHeard_43 ?_
      refine r_icmp_eq 49 dX3_agreesWithHeard_44 (by decide) (fun hc => ?_) (fun hc => ?_)
      · replace h := kbG_t hc h
        refine r_iinc 1 dX3_agreesWithHeard_49 rfl (by decide) (Nat.le_of_ble_eq_true rfl) rfl ?_
        refine r_goto 2 dX3_agreesWithHeard_52 (by decide) ?_
        refine r_le [some (.ref 51), some (.int v1), some (.int (v2 + 1))] ⟨rfl, ⟨rfl, ⟨rfl, trivial⟩⟩⟩ ?_
        exact ih (v2 + 1) h
      · replace h := kbG_f hc h
        refine r_iconst 0 dX3_agreesWithHeard_47 (by decide) ?_
        exact r_zret rfl rfl dX3_agreesWithHeard_48 (hr 0 (kbG_some h))
def f_HO_agreesWithHeard (n : Nat) (a1 : Int32) (μ : kbM) : Option (Int32) :=
  kbOr (lp_HO_agreesWithHeard_2 n a1 μ n 0) (fun r3 => some r3) fun x2 =>
  some 1
theorem sp_HO_agreesWithHeard {l : Launch} (n : Nat) (a1 : Int32) (μ : kbM)  {x : Int32} (h : f_HO_agreesWithHeard n a1 μ = some x) : kbS l MX3_agreesWithHeard 4 [.ref 51, .int a1] μ (kbQe (some (.int x)) μ) := by
  refine kb_enter 1 rfl rfl ?_
  suffices H : ∀ (Q : kbQt) (P : Int32 → Prop), (∀ z : Int32, P z → Q (some (.int z)) μ) → kbG (f_HO_agreesWithHeard n a1 μ) P → kbR l MX3_agreesWithHeard 4 Q 0 [some (.ref 51), some (.int a1), none] [] μ from H _ (fun z => z = x) (fun z e => by subst e; exact ⟨rfl, rfl⟩) ⟨x, h, rfl⟩
  clear h
  intro Q P hr h
  unfold f_HO_agreesWithHeard at h
  refine r_iconst 0 dX3_agreesWithHeard_0 (by decide) ?_
  refine r_istore_n dX3_agreesWithHeard_1 (Nat.le_of_ble_eq_true rfl) rfl ?_
  refine r_le [some (.ref 51), some (.int a1), some (.int 0)] ⟨rfl, ⟨rfl, ⟨rfl, trivial⟩⟩⟩ ?_
  rcases kbG_or h with ⟨r3, hx0, h⟩ | ⟨x2, hx0, h⟩
  · exact lpR_HO_agreesWithHeard_2 n a1 μ (P := fun z => .inl r3 = z) (hr := fun z e => by cases e; exact hr _ (kbG_some h)) (hx := fun z e => by cases e) n _ ⟨_, hx0, rfl⟩
  · refine lpR_HO_agreesWithHeard_2 n a1 μ (P := fun z => .inr x2 = z) (hr := fun z e => by cases e) (hx := fun z e => ?_) n _ ⟨_, hx0, rfl⟩
    cases e
    refine r_iconst 1 dX3_agreesWithHeard_55 (by decide) ?_
    exact r_zret rfl rfl dX3_agreesWithHeard_56 (hr 1 (kbG_some h))
def jn_HO_wordsHeard_31 (n : Nat) (rec : Int32 → Int32 → Option (Int32)) (v2 : Int32) (w0 : Int32) (w1 : Int32) (μ : kbM) : Option (Int32) :=
  rec (w0 ||| w1) (v2 + 1)
theorem jnR_HO_wordsHeard_31 {l : Launch} (n : Nat)   (v2 : Int32) (w0 : Int32) (w1 : Int32) (μ : kbM) {Q : kbQt} {P : Int32 → Prop} (hx : ∀ z : Int32, P (z) → kbR l MX3_wordsHeard 5 Q 39 [none, some (.int z), none] [] μ) {rec : Int32 → Int32 → Option (Int32)} (hrec : ∀ (v1 : Int32) (v2 : Int32), kbG (rec v1 v2) P → kbR l MX3_wordsHeard 5 Q 4 [some (.ref 51), some (.int v1), some (.int v2)] [] μ) (h : kbG (jn_HO_wordsHeard_31 n rec v2 w0 w1 μ) P) : kbR l MX3_wordsHeard 5 Q 31 [some (.ref 51), none, some (.int v2)] [.int w1, .int w0] μ := by
  unfold jn_HO_wordsHeard_31 at h
  refine r_ior dX3_wordsHeard_31 ?_
  refine r_istore_n dX3_wordsHeard_32 (Nat.le_of_ble_eq_true rfl) rfl ?_
  refine r_iinc 1 dX3_wordsHeard_33 rfl (by decide) (Nat.le_of_ble_eq_true rfl) rfl ?_
  refine r_goto 4 dX3_wordsHeard_36 (by decide) ?_
  refine r_le [some (.ref 51), some (.int (w0 ||| w1)), some (.int (v2 + 1))] ⟨rfl, ⟨rfl, ⟨rfl, trivial⟩⟩⟩ ?_
  exact hrec (w0 ||| w1) (v2 + 1) h
def lp_HO_wordsHeard_4 (n : Nat) (μ : kbM) : Nat → Int32 → Int32 → Option (Int32)
  | 0, _, _ => none
  | k + 1, v1, v2 =>
    if (μ.1 13 4) ≤ v2 then
      some v1
    else
      (f_HO_agreesWithHeard n v2 μ).bind fun x1 =>
      if x1 = 0 then
        jn_HO_wordsHeard_31 n (lp_HO_wordsHeard_4 n μ k) v2 v1 0 μ
      else
        jn_HO_wordsHeard_31 n (lp_HO_wordsHeard_4 n μ k) v2 v1 (kbShl 1 v2) μ
theorem lpR_HO_wordsHeard_4 {l : Launch} (n : Nat) (μ : kbM)  {Q : kbQt} {P : Int32 → Prop} (hx : ∀ z : Int32, P (z) → kbR l MX3_wordsHeard 5 Q 39 [none, some (.int z), none] [] μ) : ∀ (k : Nat) (v1 : Int32) (v2 : Int32), kbG (lp_HO_wordsHeard_4 n μ k v1 v2) P → kbR l MX3_wordsHeard 5 Q 4 [some (.ref 51), some (.int v1), some (.int v2)] [] μ := by
  intro k
  induction k with
  | zero => intro v1 v2 h; exact absurd h kbG_none
  | succ k ih =>
    intro v1 v2 h
    unfold lp_HO_wordsHeard_4 at h
    refine r_iload_n dX3_wordsHeard_4 rfl ?_
    refine r_aload_n dX3_wordsHeard_5 rfl ?_
    refine r_getR flX3_32 sh51 rfl dX3_wordsHeard_6 ?_
    refine r_getI flX3_62 sh13 rfl dX3_wordsHeard_9 ?_
    refine r_icmp_ge 39 dX3_wordsHeard_12 (by decide) (fun hc => ?_) (fun hc => ?_)
    · replace h := kbG_t hc h
      refine r_le [none, some (.int v1), none] ⟨rfl, trivial⟩ ?_
      exact hx v1 (kbG_some h)
    · replace h := kbG_f hc h
      refine r_iload_n dX3_wordsHeard_15 rfl ?_
      refine r_aload_n dX3_wordsHeard_16 rfl ?_
      refine r_iload_n dX3_wordsHeard_17 rfl ?_
      obtain ⟨x1, hx0, h⟩ := kbG_bind h
      refine r_invV_i cvX3_111 sh51 rfl (sp_HO_agreesWithHeard n v2 μ hx0) rfl rfl (Nat.le_of_ble_eq_true rfl) (Nat.le_of_ble_eq_true rfl) dX3_wordsHeard_18 ?_
      refine r_if_eq 30 dX3_wordsHeard_21 (by decide) (fun hc => ?_) (fun hc => ?_)
      · replace h := kbG_t hc h
        refine r_iconst 0 dX3_wordsHeard_30 (by decide) ?_
        refine r_le [some (.ref 51), none, some (.int v2)] ⟨rfl, ⟨rfl, trivial⟩⟩ ?_
        exact jnR_HO_wordsHeard_31 n v2 v1 0 μ (hx := hx) (hrec := ih) h
      · replace h := kbG_f hc h
        refine r_iconst 1 dX3_wordsHeard_24 (by decide) ?_
        refine r_iload_n dX3_wordsHeard_25 rfl ?_
        refine r_shl dX3_wordsHeard_26 ?_
        refine r_goto 31 dX3_wordsHeard_27 (by decide) ?_
        refine r_le [some (.ref 51), none, some (.int v2)] ⟨rfl, ⟨rfl, trivial⟩⟩ ?_
        exact jnR_HO_wordsHeard_31 n v2 v1 (kbShl 1 v2) μ (hx := hx) (hrec := ih) h
def f_HO_wordsHeard (n : Nat) (μ : kbM) : Option (Int32) :=
  (lp_HO_wordsHeard_4 n μ n 0 0).bind fun x2 =>
  some x2
theorem sp_HO_wordsHeard {l : Launch} (n : Nat) (μ : kbM)  {x : Int32} (h : f_HO_wordsHeard n μ = some x) : kbS l MX3_wordsHeard 5 [.ref 51] μ (kbQe (some (.int x)) μ) := by
  refine kb_enter 2 rfl rfl ?_
  suffices H : ∀ (Q : kbQt) (P : Int32 → Prop), (∀ z : Int32, P z → Q (some (.int z)) μ) → kbG (f_HO_wordsHeard n μ) P → kbR l MX3_wordsHeard 5 Q 0 [some (.ref 51), none, none] [] μ from H _ (fun z => z = x) (fun z e => by subst e; exact ⟨rfl, rfl⟩) ⟨x, h, rfl⟩
  clear h
  intro Q P hr h
  unfold f_HO_wordsHeard at h
  refine r_iconst 0 dX3_wordsHeard_0 (by decide) ?_
  refine r_istore_n dX3_wordsHeard_1 (Nat.le_of_ble_eq_true rfl) rfl ?_
  refine r_iconst 0 dX3_wordsHeard_2 (by decide) ?_
  refine r_istore_n dX3_wordsHeard_3 (Nat.le_of_ble_eq_true rfl) rfl ?_
  refine r_le [some (.ref 51), some (.int 0), some (.int 0)] ⟨rfl, ⟨rfl, ⟨rfl, trivial⟩⟩⟩ ?_
  obtain ⟨x2, hx0, h⟩ := kbG_bind h
  refine lpR_HO_wordsHeard_4 n μ (P := fun z => x2 = z) (hx := fun z e => ?_) n _ _ ⟨_, hx0, rfl⟩
  subst e
  refine r_iload_n dX3_wordsHeard_39 rfl ?_
  exact r_iret rfl dX3_wordsHeard_40 (hr x2 (kbG_some h))
def jn_HO_unlike_79 (n : Nat) (rec : Int32 → Int32 → Option (Int32)) (v1 : Int32) (v2 : Int32) (v3 : Int32) (v4 : Int32) (v6 : Int32) (w0 : Int32) (μ : kbM) : Option (Int32) :=
  rec w0 (v6 + 1)
theorem jnR_HO_unlike_79 {l : Launch} (n : Nat)   (v1 : Int32) (v2 : Int32) (v3 : Int32) (v4 : Int32) (v6 : Int32) (w0 : Int32) (μ : kbM) {Q : kbQt} {P : Int32 → Prop} (hx : ∀ z : Int32, P (z) → kbR l MX3_unlike 5 Q 87 [some (.ref 51), some (.int v1), some (.int v2), some (.int v3), some (.int v4), some (.int z), none] [] μ) {rec : Int32 → Int32 → Option (Int32)} (hrec : ∀ (v5 : Int32) (v6 : Int32), kbG (rec v5 v6) P → kbR l MX3_unlike 5 Q 41 [some (.ref 51), some (.int v1), some (.int v2), some (.int v3), some (.int v4), some (.int v5), some (.int v6)] [] μ) (h : kbG (jn_HO_unlike_79 n rec v1 v2 v3 v4 v6 w0 μ) P) : kbR l MX3_unlike 5 Q 79 [some (.ref 51), some (.int v1), some (.int v2), some (.int v3), some (.int v4), none, some (.int v6)] [.int w0] μ := by
  unfold jn_HO_unlike_79 at h
  refine r_istore dX3_unlike_79 (Nat.le_of_ble_eq_true rfl) rfl ?_
  refine r_iinc 1 dX3_unlike_81 rfl (by decide) (Nat.le_of_ble_eq_true rfl) rfl ?_
  refine r_goto 41 dX3_unlike_84 (by decide) ?_
  refine r_le [some (.ref 51), some (.int v1), some (.int v2), some (.int v3), some (.int v4), some (.int w0), some (.int (v6 + 1))] ⟨rfl, ⟨rfl, ⟨rfl, ⟨rfl, ⟨rfl, ⟨rfl, ⟨rfl, trivial⟩⟩⟩⟩⟩⟩⟩ ?_
  exact hrec w0 (v6 + 1) h
def jn_HO_unlike_74 (n : Nat) (rec : Int32 → Int32 → Option (Int32)) (v1 : Int32) (v2 : Int32) (v3 : Int32) (v4 : Int32) (v6 : Int32) (μ : kbM) : Option (Int32) :=
  jn_HO_unlike_79 n rec v1 v2 v3 v4 v6 1 μ
theorem jnR_HO_unlike_74 {l : Launch} (n : Nat)   (v1 : Int32) (v2 : Int32) (v3 : Int32) (v4 : Int32) (v6 : Int32) (μ : kbM) {Q : kbQt} {P : Int32 → Prop} (hx : ∀ z : Int32, P (z) → kbR l MX3_unlike 5 Q 87 [some (.ref 51), some (.int v1), some (.int v2), some (.int v3), some (.int v4), some (.int z), none] [] μ) {rec : Int32 → Int32 → Option (Int32)} (hrec : ∀ (v5 : Int32) (v6 : Int32), kbG (rec v5 v6) P → kbR l MX3_unlike 5 Q 41 [some (.ref 51), some (.int v1), some (.int v2), some (.int v3), some (.int v4), some (.int v5), some (.int v6)] [] μ) (h : kbG (jn_HO_unlike_74 n rec v1 v2 v3 v4 v6 μ) P) : kbR l MX3_unlike 5 Q 74 [some (.ref 51), some (.int v1), some (.int v2), some (.int v3), some (.int v4), none, some (.int v6)] [] μ := by
  unfold jn_HO_unlike_74 at h
  refine r_iconst 1 dX3_unlike_74 (by decide) ?_
  refine r_goto 79 dX3_unlike_75 (by decide) ?_
  refine r_le [some (.ref 51), some (.int v1), some (.int v2), some (.int v3), some (.int v4), none, some (.int v6)] ⟨rfl, ⟨rfl, ⟨rfl, ⟨rfl, ⟨rfl, ⟨rfl, trivial⟩⟩⟩⟩⟩⟩ ?_
  exact jnR_HO_unlike_79 n v1 v2 v3 v4 v6 1 μ (hx := hx) (hrec := hrec) h
def lp_HO_unlike_41 (n : Nat) (v1 : Int32) (v2 : Int32) (v3 : Int32) (v4 : Int32) (μ : kbM) : Nat → Int32 → Int32 → Option (Int32)
  | 0, _, _ => none
  | k + 1, v5, v6 =>
    if v5 = 0 then
      some v5
    else
      if v4 ≤ v6 then
        some v5
      else
        if ((kbShr v2 v6) &&& 1) = 0 then
          jn_HO_unlike_74 n (lp_HO_unlike_41 n v1 v2 v3 v4 μ k) v1 v2 v3 v4 v6 μ
        else
          (f_HO_soundsAlike v1 v4 v6 μ).bind fun x2 =>
          if x2 = 0 then
            jn_HO_unlike_74 n (lp_HO_unlike_41 n v1 v2 v3 v4 μ k) v1 v2 v3 v4 v6 μ
          else
            jn_HO_unlike_79 n (lp_HO_unlike_41 n v1 v2 v3 v4 μ k) v1 v2 v3 v4 v6 0 μ
theorem lpR_HO_unlike_41 {l : Launch} (n : Nat) (v1 : Int32) (v2 : Int32) (v3 : Int32) (v4 : Int32) (μ : kbM)  {Q : kbQt} {P : Int32 → Prop} (hx : ∀ z : Int32, P (z) → kbR l MX3_unlike 5 Q 87 [some (.ref 51), some (.int v1), some (.int v2), some (.int v3), some (.int v4), some (.int z), none] [] μ) : ∀ (k : Nat) (v5 : Int32) (v6 : Int32), kbG (lp_HO_unlike_41 n v1 v2 v3 v4 μ k v5 v6) P → kbR l MX3_unlike 5 Q 41 [some (.ref 51), some (.int v1), some (.int v2), some (.int v3), some (.int v4), some (.int v5), some (.int v6)] [] μ := by
  intro k
  induction k with
  | zero => intro v5 v6 h; exact absurd h kbG_none
  | succ k ih =>
    intro v5 v6 h
    unfold lp_HO_unlike_41 at h
    refine r_iload dX3_unlike_41 rfl ?_
    refine r_if_eq 87 dX3_unlike_43 (by decide) (fun hc => ?_) (fun hc => ?_)
    · replace h := kbG_t hc h
      refine r_le [some (.ref 51), some (.int v1), some (.int v2), some (.int v3), some (.int v4), some (.int v5), none] ⟨rfl, ⟨rfl, ⟨rfl, ⟨rfl, ⟨rfl, ⟨rfl, trivial⟩⟩⟩⟩⟩⟩ ?_
      exact hx v5 (kbG_some h)
    · replace h := kbG_f hc h
      refine r_iload dX3_unlike_46 rfl ?_
      refine r_iload dX3_unlike_48 rfl ?_
      refine r_icmp_ge 87 dX3_unlike_50 (by decide) (fun hc => ?_) (fun hc => ?_)
      · replace h := kbG_t hc h
        refine r_le [some (.ref 51), some (.int v1), some (.int v2), some (.int v3), some (.int v4), some (.int v5), none] ⟨rfl, ⟨rfl, ⟨rfl, ⟨rfl, ⟨rfl, ⟨rfl, trivial⟩⟩⟩⟩⟩⟩ ?_
        exact hx v5 (kbG_some h)
      · replace h := kbG_f hc h
        refine r_iload_n dX3_unlike_53 rfl ?_
        refine r_iload dX3_unlike_54 rfl ?_
        refine r_shr dX3_unlike_56 ?_
        refine r_iconst 1 dX3_unlike_57 (by decide) ?_
        refine r_iand dX3_unlike_58 ?_
        refine r_if_eq 74 dX3_unlike_59 (by decide) (fun hc => ?_) (fun hc => ?_)
        · replace h := kbG_t hc h
          refine r_le [some (.ref 51), some (.int v1), some (.int v2), some (.int v3), some (.int v4), none, some (.int v6)] ⟨rfl, ⟨rfl, ⟨rfl, ⟨rfl, ⟨rfl, ⟨rfl, trivial⟩⟩⟩⟩⟩⟩ ?_
          exact jnR_HO_unlike_74 n v1 v2 v3 v4 v6 μ (hx := hx) (hrec := ih) h
        · replace h := kbG_f hc h
          refine r_aload_n dX3_unlike_62 rfl ?_
          refine r_iload_n dX3_unlike_63 rfl ?_
          refine r_iload dX3_unlike_64 rfl ?_
          refine r_iload dX3_unlike_66 rfl ?_
          obtain ⟨x2, hx0, h⟩ := kbG_bind h
          refine r_invV_i cvX3_67 sh51 rfl (sp_HO_soundsAlike v1 v4 v6 μ hx0) rfl rfl (Nat.le_of_ble_eq_true rfl) (Nat.le_of_ble_eq_true rfl) dX3_unlike_68 ?_
          refine r_if_ne 78 dX3_unlike_71 (by decide) (fun hc => ?_) (fun hc => ?_)
          · replace h := kbG_f hc h
            refine r_iconst 0 dX3_unlike_78 (by decide) ?_
            refine r_le [some (.ref 51), some (.int v1), some (.int v2), some (.int v3), some (.int v4), none, some (.int v6)] ⟨rfl, ⟨rfl, ⟨rfl, ⟨rfl, ⟨rfl, ⟨rfl, trivial⟩⟩⟩⟩⟩⟩ ?_
            exact jnR_HO_unlike_79 n v1 v2 v3 v4 v6 0 μ (hx := hx) (hrec := ih) h
          · replace h := kbG_t hc h
            refine r_le [some (.ref 51), some (.int v1), some (.int v2), some (.int v3), some (.int v4), none, some (.int v6)] ⟨rfl, ⟨rfl, ⟨rfl, ⟨rfl, ⟨rfl, ⟨rfl, trivial⟩⟩⟩⟩⟩⟩ ?_
            exact jnR_HO_unlike_74 n v1 v2 v3 v4 v6 μ (hx := hx) (hrec := ih) h
def jn_HO_unlike_98 (n : Nat) (rec : Int32 → Int32 → Option (Int32)) (v1 : Int32) (v2 : Int32) (v4 : Int32) (w0 : Int32) (w1 : Int32) (μ : kbM) : Option (Int32) :=
  rec (w0 + w1) (v4 + 1)
theorem jnR_HO_unlike_98 {l : Launch} (n : Nat)   (v1 : Int32) (v2 : Int32) (v4 : Int32) (w0 : Int32) (w1 : Int32) (μ : kbM) {Q : kbQt} {P : Int32 → Prop} (hx : ∀ z : Int32, P (z) → kbR l MX3_unlike 5 Q 106 [none, none, none, some (.int z), none, none, none] [] μ) {rec : Int32 → Int32 → Option (Int32)} (hrec : ∀ (v3 : Int32) (v4 : Int32), kbG (rec v3 v4) P → kbR l MX3_unlike 5 Q 10 [some (.ref 51), some (.int v1), some (.int v2), some (.int v3), some (.int v4), none, none] [] μ) (h : kbG (jn_HO_unlike_98 n rec v1 v2 v4 w0 w1 μ) P) : kbR l MX3_unlike 5 Q 98 [some (.ref 51), some (.int v1), some (.int v2), none, some (.int v4), none, none] [.int w1, .int w0] μ := by
  unfold jn_HO_unlike_98 at h
  refine r_iadd dX3_unlike_98 ?_
  refine r_istore_n dX3_unlike_99 (Nat.le_of_ble_eq_true rfl) rfl ?_
  refine r_iinc 1 dX3_unlike_100 rfl (by decide) (Nat.le_of_ble_eq_true rfl) rfl ?_
  refine r_goto 10 dX3_unlike_103 (by decide) ?_
  refine r_le [some (.ref 51), some (.int v1), some (.int v2), some (.int (w0 + w1)), some (.int (v4 + 1)), none, none] ⟨rfl, ⟨rfl, ⟨rfl, ⟨rfl, ⟨rfl, trivial⟩⟩⟩⟩⟩ ?_
  exact hrec (w0 + w1) (v4 + 1) h
def jn_HO_unlike_87 (n : Nat) (rec : Int32 → Int32 → Option (Int32)) (v1 : Int32) (v2 : Int32) (v3 : Int32) (v4 : Int32) (v5 : Int32) (μ : kbM) : Option (Int32) :=
  if v5 = 0 then
    jn_HO_unlike_98 n rec v1 v2 v4 v3 0 μ
  else
    jn_HO_unlike_98 n rec v1 v2 v4 v3 1 μ
theorem jnR_HO_unlike_87 {l : Launch} (n : Nat)   (v1 : Int32) (v2 : Int32) (v3 : Int32) (v4 : Int32) (v5 : Int32) (μ : kbM) {Q : kbQt} {P : Int32 → Prop} (hx : ∀ z : Int32, P (z) → kbR l MX3_unlike 5 Q 106 [none, none, none, some (.int z), none, none, none] [] μ) {rec : Int32 → Int32 → Option (Int32)} (hrec : ∀ (v3 : Int32) (v4 : Int32), kbG (rec v3 v4) P → kbR l MX3_unlike 5 Q 10 [some (.ref 51), some (.int v1), some (.int v2), some (.int v3), some (.int v4), none, none] [] μ) (h : kbG (jn_HO_unlike_87 n rec v1 v2 v3 v4 v5 μ) P) : kbR l MX3_unlike 5 Q 87 [some (.ref 51), some (.int v1), some (.int v2), some (.int v3), some (.int v4), some (.int v5), none] [] μ := by
  unfold jn_HO_unlike_87 at h
  refine r_iload_n dX3_unlike_87 rfl ?_
  refine r_iload dX3_unlike_88 rfl ?_
  refine r_if_eq 97 dX3_unlike_90 (by decide) (fun hc => ?_) (fun hc => ?_)
  · replace h := kbG_t hc h
    refine r_iconst 0 dX3_unlike_97 (by decide) ?_
    refine r_le [some (.ref 51), some (.int v1), some (.int v2), none, some (.int v4), none, none] ⟨rfl, ⟨rfl, ⟨rfl, ⟨rfl, trivial⟩⟩⟩⟩ ?_
    exact jnR_HO_unlike_98 n v1 v2 v4 v3 0 μ (hx := hx) (hrec := hrec) h
  · replace h := kbG_f hc h
    refine r_iconst 1 dX3_unlike_93 (by decide) ?_
    refine r_goto 98 dX3_unlike_94 (by decide) ?_
    refine r_le [some (.ref 51), some (.int v1), some (.int v2), none, some (.int v4), none, none] ⟨rfl, ⟨rfl, ⟨rfl, ⟨rfl, trivial⟩⟩⟩⟩ ?_
    exact jnR_HO_unlike_98 n v1 v2 v4 v3 1 μ (hx := hx) (hrec := hrec) h
def jn_HO_unlike_36 (n : Nat) (rec : Int32 → Int32 → Option (Int32)) (v1 : Int32) (v2 : Int32) (v3 : Int32) (v4 : Int32) (w0 : Int32) (μ : kbM) : Option (Int32) :=
  (lp_HO_unlike_41 n v1 v2 v3 v4 μ n w0 0).bind fun x3 =>
  jn_HO_unlike_87 n rec v1 v2 v3 v4 x3 μ
theorem jnR_HO_unlike_36 {l : Launch} (n : Nat)   (v1 : Int32) (v2 : Int32) (v3 : Int32) (v4 : Int32) (w0 : Int32) (μ : kbM) {Q : kbQt} {P : Int32 → Prop} (hx : ∀ z : Int32, P (z) → kbR l MX3_unlike 5 Q 106 [none, none, none, some (.int z), none, none, none] [] μ) {rec : Int32 → Int32 → Option (Int32)} (hrec : ∀ (v3 : Int32) (v4 : Int32), kbG (rec v3 v4) P → kbR l MX3_unlike 5 Q 10 [some (.ref 51), some (.int v1), some (.int v2), some (.int v3), some (.int v4), none, none] [] μ) (h : kbG (jn_HO_unlike_36 n rec v1 v2 v3 v4 w0 μ) P) : kbR l MX3_unlike 5 Q 36 [some (.ref 51), some (.int v1), some (.int v2), some (.int v3), some (.int v4), none, none] [.int w0] μ := by
  unfold jn_HO_unlike_36 at h
  refine r_istore dX3_unlike_36 (Nat.le_of_ble_eq_true rfl) rfl ?_
  refine r_iconst 0 dX3_unlike_38 (by decide) ?_
  refine r_istore dX3_unlike_39 (Nat.le_of_ble_eq_true rfl) rfl ?_
  refine r_le [some (.ref 51), some (.int v1), some (.int v2), some (.int v3), some (.int v4), some (.int w0), some (.int 0)] ⟨rfl, ⟨rfl, ⟨rfl, ⟨rfl, ⟨rfl, ⟨rfl, ⟨rfl, trivial⟩⟩⟩⟩⟩⟩⟩ ?_
  obtain ⟨x3, hx0, h⟩ := kbG_bind h
  refine lpR_HO_unlike_41 n v1 v2 v3 v4 μ (P := fun z => x3 = z) (hx := fun z e => ?_) n _ _ ⟨_, hx0, rfl⟩
  subst e
  refine r_le [some (.ref 51), some (.int v1), some (.int v2), some (.int v3), some (.int v4), some (.int x3), none] ⟨rfl, ⟨rfl, ⟨rfl, ⟨rfl, ⟨rfl, ⟨rfl, trivial⟩⟩⟩⟩⟩⟩ ?_
  exact jnR_HO_unlike_87 n v1 v2 v3 v4 x3 μ (hx := hx) (hrec := hrec) h
def lp_HO_unlike_10 (n : Nat) (v1 : Int32) (v2 : Int32) (μ : kbM) : Nat → Int32 → Int32 → Option (Int32)
  | 0, _, _ => none
  | k + 1, v3, v4 =>
    if (μ.1 13 4) ≤ v4 then
      some v3
    else
      if ((kbShr v2 v4) &&& 1) = 0 then
        jn_HO_unlike_36 n (lp_HO_unlike_10 n v1 v2 μ k) v1 v2 v3 v4 0 μ
      else
        jn_HO_unlike_36 n (lp_HO_unlike_10 n v1 v2 μ k) v1 v2 v3 v4 1 μ
theorem lpR_HO_unlike_10 {l : Launch} (n : Nat) (v1 : Int32) (v2 : Int32) (μ : kbM)  {Q : kbQt} {P : Int32 → Prop} (hx : ∀ z : Int32, P (z) → kbR l MX3_unlike 5 Q 106 [none, none, none, some (.int z), none, none, none] [] μ) : ∀ (k : Nat) (v3 : Int32) (v4 : Int32), kbG (lp_HO_unlike_10 n v1 v2 μ k v3 v4) P → kbR l MX3_unlike 5 Q 10 [some (.ref 51), some (.int v1), some (.int v2), some (.int v3), some (.int v4), none, none] [] μ := by
  intro k
  induction k with
  | zero => intro v3 v4 h; exact absurd h kbG_none
  | succ k ih =>
    intro v3 v4 h
    unfold lp_HO_unlike_10 at h
    refine r_iload dX3_unlike_10 rfl ?_
    refine r_aload_n dX3_unlike_12 rfl ?_
    refine r_getR flX3_32 sh51 rfl dX3_unlike_13 ?_
    refine r_getI flX3_62 sh13 rfl dX3_unlike_16 ?_
    refine r_icmp_ge 106 dX3_unlike_19 (by decide) (fun hc => ?_) (fun hc => ?_)
    · replace h := kbG_t hc h
      refine r_le [none, none, none, some (.int v3), none, none, none] ⟨rfl, trivial⟩ ?_
      exact hx v3 (kbG_some h)
    · replace h := kbG_f hc h
      refine r_iload_n dX3_unlike_22 rfl ?_
      refine r_iload dX3_unlike_23 rfl ?_
      refine r_shr dX3_unlike_25 ?_
      refine r_iconst 1 dX3_unlike_26 (by decide) ?_
      refine r_iand dX3_unlike_27 ?_
      refine r_if_eq 35 dX3_unlike_28 (by decide) (fun hc => ?_) (fun hc => ?_)
      · replace h := kbG_t hc h
        refine r_iconst 0 dX3_unlike_35 (by decide) ?_
        refine r_le [some (.ref 51), some (.int v1), some (.int v2), some (.int v3), some (.int v4), none, none] ⟨rfl, ⟨rfl, ⟨rfl, ⟨rfl, ⟨rfl, trivial⟩⟩⟩⟩⟩ ?_
        exact jnR_HO_unlike_36 n v1 v2 v3 v4 0 μ (hx := hx) (hrec := ih) h
      · replace h := kbG_f hc h
        refine r_iconst 1 dX3_unlike_31 (by decide) ?_
        refine r_goto 36 dX3_unlike_32 (by decide) ?_
        refine r_le [some (.ref 51), some (.int v1), some (.int v2), some (.int v3), some (.int v4), none, none] ⟨rfl, ⟨rfl, ⟨rfl, ⟨rfl, ⟨rfl, trivial⟩⟩⟩⟩⟩ ?_
        exact jnR_HO_unlike_36 n v1 v2 v3 v4 1 μ (hx := hx) (hrec := ih) h
def f_HO_unlike (n : Nat) (a1 : Int32) (a2 : Int32) (μ : kbM) : Option (Int32 × kbM) :=
  (f_HO_hearWords n a1 μ).bind fun x1 =>
  (lp_HO_unlike_10 n a1 a2 x1 n 0 0).bind fun x4 =>
  some ((x4, x1))
theorem sp_HO_unlike {l : Launch} (n : Nat) (a1 : Int32) (a2 : Int32) (μ : kbM)  {x : Int32 × kbM} (h : f_HO_unlike n a1 a2 μ = some x) : kbS l MX3_unlike 5 [.ref 51, .int a1, .int a2] μ (kbQe (some (.int x.1)) x.2) := by
  refine kb_enter 4 rfl rfl ?_
  suffices H : ∀ (Q : kbQt) (P : Int32 × kbM → Prop), (∀ z : Int32 × kbM, P z → Q (some (.int z.1)) z.2) → kbG (f_HO_unlike n a1 a2 μ) P → kbR l MX3_unlike 5 Q 0 [some (.ref 51), some (.int a1), some (.int a2), none, none, none, none] [] μ from H _ (fun z => z = x) (fun z e => by subst e; exact ⟨rfl, rfl⟩) ⟨x, h, rfl⟩
  clear h
  intro Q P hr h
  unfold f_HO_unlike at h
  refine r_aload_n dX3_unlike_0 rfl ?_
  refine r_iload_n dX3_unlike_1 rfl ?_
  obtain ⟨x1, hx0, h⟩ := kbG_bind h
  refine r_invV_v cvX3_63 sh51 rfl (sp_HO_hearWords n a1 μ hx0) rfl rfl (Nat.le_of_ble_eq_true rfl) (Nat.le_of_ble_eq_true rfl) dX3_unlike_2 ?_
  refine r_iconst 0 dX3_unlike_5 (by decide) ?_
  refine r_istore_n dX3_unlike_6 (Nat.le_of_ble_eq_true rfl) rfl ?_
  refine r_iconst 0 dX3_unlike_7 (by decide) ?_
  refine r_istore dX3_unlike_8 (Nat.le_of_ble_eq_true rfl) rfl ?_
  refine r_le [some (.ref 51), some (.int a1), some (.int a2), some (.int 0), some (.int 0), none, none] ⟨rfl, ⟨rfl, ⟨rfl, ⟨rfl, ⟨rfl, trivial⟩⟩⟩⟩⟩ ?_
  obtain ⟨x4, hx0, h⟩ := kbG_bind h
  refine lpR_HO_unlike_10 n a1 a2 x1 (P := fun z => x4 = z) (hx := fun z e => ?_) n _ _ ⟨_, hx0, rfl⟩
  subst e
  refine r_iload_n dX3_unlike_106 rfl ?_
  exact r_iret rfl dX3_unlike_107 (hr ((x4, x1)) (kbG_some h))
def jn_HO_tellingDoor_40 (n : Nat) (rec : Int32 → Int32 → Int32 → kbM → Option (Int32 × kbM)) (v1 : Int32) (v2 : Int32) (v3 : Int32) (v4 : Int32) (μ : kbM) : Option (Int32 × kbM) :=
  rec v2 v3 (v4 + 1) μ
theorem jnR_HO_tellingDoor_40 {l : Launch} (n : Nat)   (v1 : Int32) (v2 : Int32) (v3 : Int32) (v4 : Int32) (μ : kbM) {Q : kbQt} {P : Int32 × kbM → Prop} (hx : ∀ z : Int32 × kbM, P (z) → kbR l MX3_tellingDoor 6 Q 46 [none, none, some (.int z.1), none, none, none] [] z.2) {rec : Int32 → Int32 → Int32 → kbM → Option (Int32 × kbM)} (hrec : ∀ (v2 : Int32) (v3 : Int32) (v4 : Int32) (μ : kbM), kbG (rec v2 v3 v4 μ) P → kbR l MX3_tellingDoor 6 Q 7 [some (.ref 51), some (.int v1), some (.int v2), some (.int v3), some (.int v4), none] [] μ) (h : kbG (jn_HO_tellingDoor_40 n rec v1 v2 v3 v4 μ) P) : kbR l MX3_tellingDoor 6 Q 40 [some (.ref 51), some (.int v1), some (.int v2), some (.int v3), some (.int v4), none] [] μ := by
  unfold jn_HO_tellingDoor_40 at h
  refine r_iinc 1 dX3_tellingDoor_40 rfl (by decide) (Nat.le_of_ble_eq_true rfl) rfl ?_
  refine r_goto 7 dX3_tellingDoor_43 (by decide) ?_
  refine r_le [some (.ref 51), some (.int v1), some (.int v2), some (.int v3), some (.int (v4 + 1)), none] ⟨rfl, ⟨rfl, ⟨rfl, ⟨rfl, ⟨rfl, trivial⟩⟩⟩⟩⟩ ?_
  exact hrec v2 v3 (v4 + 1) μ h
def lp_HO_tellingDoor_7 (n : Nat) (v1 : Int32) : Nat → Int32 → Int32 → Int32 → kbM → Option (Int32 × kbM)
  | 0, _, _, _, _ => none
  | k + 1, v2, v3, v4, μ =>
    if (μ.1 32 2) ≤ v4 then
      some ((v2, μ))
    else
      (f_HO_unlike n v4 v1 μ).bind fun x1 =>
      if x1.1 ≤ v3 then
        jn_HO_tellingDoor_40 n (lp_HO_tellingDoor_7 n v1 k) v1 v2 v3 v4 x1.2
      else
        jn_HO_tellingDoor_40 n (lp_HO_tellingDoor_7 n v1 k) v1 v4 x1.1 v4 x1.2
theorem lpR_HO_tellingDoor_7 {l : Launch} (n : Nat) (v1 : Int32)  {Q : kbQt} {P : Int32 × kbM → Prop} (hx : ∀ z : Int32 × kbM, P (z) → kbR l MX3_tellingDoor 6 Q 46 [none, none, some (.int z.1), none, none, none] [] z.2) : ∀ (k : Nat) (v2 : Int32) (v3 : Int32) (v4 : Int32) (μ : kbM), kbG (lp_HO_tellingDoor_7 n v1 k v2 v3 v4 μ) P → kbR l MX3_tellingDoor 6 Q 7 [some (.ref 51), some (.int v1), some (.int v2), some (.int v3), some (.int v4), none] [] μ := by
  intro k
  induction k with
  | zero => intro v2 v3 v4 μ h; exact absurd h kbG_none
  | succ k ih =>
    intro v2 v3 v4 μ h
    unfold lp_HO_tellingDoor_7 at h
    refine r_iload dX3_tellingDoor_7 rfl ?_
    refine r_aload_n dX3_tellingDoor_9 rfl ?_
    refine r_getR flX3_18 sh51 rfl dX3_tellingDoor_10 ?_
    refine r_getI flX3_57 sh32 rfl dX3_tellingDoor_13 ?_
    refine r_icmp_ge 46 dX3_tellingDoor_16 (by decide) (fun hc => ?_) (fun hc => ?_)
    · replace h := kbG_t hc h
      refine r_le [none, none, some (.int v2), none, none, none] ⟨rfl, trivial⟩ ?_
      exact hx ((v2, μ)) (kbG_some h)
    · replace h := kbG_f hc h
      refine r_aload_n dX3_tellingDoor_19 rfl ?_
      refine r_iload dX3_tellingDoor_20 rfl ?_
      refine r_iload_n dX3_tellingDoor_22 rfl ?_
      obtain ⟨x1, hx0, h⟩ := kbG_bind h
      refine r_invV_i cvX3_123 sh51 rfl (sp_HO_unlike n v4 v1 μ hx0) rfl rfl (Nat.le_of_ble_eq_true rfl) (Nat.le_of_ble_eq_true rfl) dX3_tellingDoor_23 ?_
      refine r_istore dX3_tellingDoor_26 (Nat.le_of_ble_eq_true rfl) rfl ?_
      refine r_iload dX3_tellingDoor_28 rfl ?_
      refine r_iload_n dX3_tellingDoor_30 rfl ?_
      refine r_icmp_le 40 dX3_tellingDoor_31 (by decide) (fun hc => ?_) (fun hc => ?_)
      · replace h := kbG_t hc h
        refine r_le [some (.ref 51), some (.int v1), some (.int v2), some (.int v3), some (.int v4), none] ⟨rfl, ⟨rfl, ⟨rfl, ⟨rfl, ⟨rfl, trivial⟩⟩⟩⟩⟩ ?_
        exact jnR_HO_tellingDoor_40 n v1 v2 v3 v4 x1.2 (hx := hx) (hrec := ih) h
      · replace h := kbG_f hc h
        refine r_iload dX3_tellingDoor_34 rfl ?_
        refine r_istore_n dX3_tellingDoor_36 (Nat.le_of_ble_eq_true rfl) rfl ?_
        refine r_iload dX3_tellingDoor_37 rfl ?_
        refine r_istore_n dX3_tellingDoor_39 (Nat.le_of_ble_eq_true rfl) rfl ?_
        refine r_le [some (.ref 51), some (.int v1), some (.int v4), some (.int x1.1), some (.int v4), none] ⟨rfl, ⟨rfl, ⟨rfl, ⟨rfl, ⟨rfl, trivial⟩⟩⟩⟩⟩ ?_
        exact jnR_HO_tellingDoor_40 n v1 v4 x1.1 v4 x1.2 (hx := hx) (hrec := ih) h
def f_HO_tellingDoor (n : Nat) (a1 : Int32) (μ : kbM) : Option (Int32 × kbM) :=
  (lp_HO_tellingDoor_7 n a1 n (-1) 0 0 μ).bind fun x2 =>
  some ((x2.1, x2.2))
theorem sp_HO_tellingDoor {l : Launch} (n : Nat) (a1 : Int32) (μ : kbM)  {x : Int32 × kbM} (h : f_HO_tellingDoor n a1 μ = some x) : kbS l MX3_tellingDoor 6 [.ref 51, .int a1] μ (kbQe (some (.int x.1)) x.2) := by
  refine kb_enter 4 rfl rfl ?_
  suffices H : ∀ (Q : kbQt) (P : Int32 × kbM → Prop), (∀ z : Int32 × kbM, P z → Q (some (.int z.1)) z.2) → kbG (f_HO_tellingDoor n a1 μ) P → kbR l MX3_tellingDoor 6 Q 0 [some (.ref 51), some (.int a1), none, none, none, none] [] μ from H _ (fun z => z = x) (fun z e => by subst e; exact ⟨rfl, rfl⟩) ⟨x, h, rfl⟩
  clear h
  intro Q P hr h
  unfold f_HO_tellingDoor at h
  refine r_iconst (-1) dX3_tellingDoor_0 (by decide) ?_
  refine r_istore_n dX3_tellingDoor_1 (Nat.le_of_ble_eq_true rfl) rfl ?_
  refine r_iconst 0 dX3_tellingDoor_2 (by decide) ?_
  refine r_istore_n dX3_tellingDoor_3 (Nat.le_of_ble_eq_true rfl) rfl ?_
  refine r_iconst 0 dX3_tellingDoor_4 (by decide) ?_
  refine r_istore dX3_tellingDoor_5 (Nat.le_of_ble_eq_true rfl) rfl ?_
  refine r_le [some (.ref 51), some (.int a1), some (.int (-1)), some (.int 0), some (.int 0), none] ⟨rfl, ⟨rfl, ⟨rfl, ⟨rfl, ⟨rfl, trivial⟩⟩⟩⟩⟩ ?_
  obtain ⟨x2, hx0, h⟩ := kbG_bind h
  refine lpR_HO_tellingDoor_7 n a1 (P := fun z => x2 = z) (hx := fun z e => ?_) n _ _ _ _ ⟨_, hx0, rfl⟩
  subst e
  refine r_iload_n dX3_tellingDoor_46 rfl ?_
  exact r_iret rfl dX3_tellingDoor_47 (hr ((x2.1, x2.2)) (kbG_some h))
