/-! the JDK's own methods that are called: Arrays.fill, Integer.bitCount, String.length, charAt, indexOf -/
theorem dJ6_bitCount_0f7a4_0 : decode cJ6_bitCount_0f7a4 0 = .ok (.iload_n 0, 1) := by decide +kernel
theorem dJ6_bitCount_0f7a4_1 : decode cJ6_bitCount_0f7a4 1 = .ok (.iload_n 0, 1) := by decide +kernel
theorem dJ6_bitCount_0f7a4_2 : decode cJ6_bitCount_0f7a4 2 = .ok (.iconst 1, 1) := by decide +kernel
theorem dJ6_bitCount_0f7a4_3 : decode cJ6_bitCount_0f7a4 3 = .ok (.iushr, 1) := by decide +kernel
theorem dJ6_bitCount_0f7a4_4 : decode cJ6_bitCount_0f7a4 4 = .ok (.ldc_w 265, 3) := by decide +kernel
theorem dJ6_bitCount_0f7a4_7 : decode cJ6_bitCount_0f7a4 7 = .ok (.iand, 1) := by decide +kernel
theorem dJ6_bitCount_0f7a4_8 : decode cJ6_bitCount_0f7a4 8 = .ok (.isub, 1) := by decide +kernel
theorem dJ6_bitCount_0f7a4_9 : decode cJ6_bitCount_0f7a4 9 = .ok (.istore_n 0, 1) := by decide +kernel
theorem dJ6_bitCount_0f7a4_10 : decode cJ6_bitCount_0f7a4 10 = .ok (.iload_n 0, 1) := by decide +kernel
theorem dJ6_bitCount_0f7a4_11 : decode cJ6_bitCount_0f7a4 11 = .ok (.ldc_w 266, 3) := by decide +kernel
theorem dJ6_bitCount_0f7a4_14 : decode cJ6_bitCount_0f7a4 14 = .ok (.iand, 1) := by decide +kernel
theorem dJ6_bitCount_0f7a4_15 : decode cJ6_bitCount_0f7a4 15 = .ok (.iload_n 0, 1) := by decide +kernel
theorem dJ6_bitCount_0f7a4_16 : decode cJ6_bitCount_0f7a4 16 = .ok (.iconst 2, 1) := by decide +kernel
theorem dJ6_bitCount_0f7a4_17 : decode cJ6_bitCount_0f7a4 17 = .ok (.iushr, 1) := by decide +kernel
theorem dJ6_bitCount_0f7a4_18 : decode cJ6_bitCount_0f7a4 18 = .ok (.ldc_w 266, 3) := by decide +kernel
theorem dJ6_bitCount_0f7a4_21 : decode cJ6_bitCount_0f7a4 21 = .ok (.iand, 1) := by decide +kernel
theorem dJ6_bitCount_0f7a4_22 : decode cJ6_bitCount_0f7a4 22 = .ok (.iadd, 1) := by decide +kernel
theorem dJ6_bitCount_0f7a4_23 : decode cJ6_bitCount_0f7a4 23 = .ok (.istore_n 0, 1) := by decide +kernel
theorem dJ6_bitCount_0f7a4_24 : decode cJ6_bitCount_0f7a4 24 = .ok (.iload_n 0, 1) := by decide +kernel
theorem dJ6_bitCount_0f7a4_25 : decode cJ6_bitCount_0f7a4 25 = .ok (.iload_n 0, 1) := by decide +kernel
theorem dJ6_bitCount_0f7a4_26 : decode cJ6_bitCount_0f7a4 26 = .ok (.iconst 4, 1) := by decide +kernel
theorem dJ6_bitCount_0f7a4_27 : decode cJ6_bitCount_0f7a4 27 = .ok (.iushr, 1) := by decide +kernel
theorem dJ6_bitCount_0f7a4_28 : decode cJ6_bitCount_0f7a4 28 = .ok (.iadd, 1) := by decide +kernel
theorem dJ6_bitCount_0f7a4_29 : decode cJ6_bitCount_0f7a4 29 = .ok (.ldc_w 267, 3) := by decide +kernel
theorem dJ6_bitCount_0f7a4_32 : decode cJ6_bitCount_0f7a4 32 = .ok (.iand, 1) := by decide +kernel
theorem dJ6_bitCount_0f7a4_33 : decode cJ6_bitCount_0f7a4 33 = .ok (.istore_n 0, 1) := by decide +kernel
theorem dJ6_bitCount_0f7a4_34 : decode cJ6_bitCount_0f7a4 34 = .ok (.iload_n 0, 1) := by decide +kernel
theorem dJ6_bitCount_0f7a4_35 : decode cJ6_bitCount_0f7a4 35 = .ok (.iload_n 0, 1) := by decide +kernel
theorem dJ6_bitCount_0f7a4_36 : decode cJ6_bitCount_0f7a4 36 = .ok (.bipush 8, 2) := by decide +kernel
theorem dJ6_bitCount_0f7a4_38 : decode cJ6_bitCount_0f7a4 38 = .ok (.iushr, 1) := by decide +kernel
theorem dJ6_bitCount_0f7a4_39 : decode cJ6_bitCount_0f7a4 39 = .ok (.iadd, 1) := by decide +kernel
theorem dJ6_bitCount_0f7a4_40 : decode cJ6_bitCount_0f7a4 40 = .ok (.istore_n 0, 1) := by decide +kernel
theorem dJ6_bitCount_0f7a4_41 : decode cJ6_bitCount_0f7a4 41 = .ok (.iload_n 0, 1) := by decide +kernel
theorem dJ6_bitCount_0f7a4_42 : decode cJ6_bitCount_0f7a4 42 = .ok (.iload_n 0, 1) := by decide +kernel
theorem dJ6_bitCount_0f7a4_43 : decode cJ6_bitCount_0f7a4 43 = .ok (.bipush 16, 2) := by decide +kernel
theorem dJ6_bitCount_0f7a4_45 : decode cJ6_bitCount_0f7a4 45 = .ok (.iushr, 1) := by decide +kernel
theorem dJ6_bitCount_0f7a4_46 : decode cJ6_bitCount_0f7a4 46 = .ok (.iadd, 1) := by decide +kernel
theorem dJ6_bitCount_0f7a4_47 : decode cJ6_bitCount_0f7a4 47 = .ok (.istore_n 0, 1) := by decide +kernel
theorem dJ6_bitCount_0f7a4_48 : decode cJ6_bitCount_0f7a4 48 = .ok (.iload_n 0, 1) := by decide +kernel
theorem dJ6_bitCount_0f7a4_49 : decode cJ6_bitCount_0f7a4 49 = .ok (.bipush 63, 2) := by decide +kernel
theorem dJ6_bitCount_0f7a4_51 : decode cJ6_bitCount_0f7a4 51 = .ok (.iand, 1) := by decide +kernel
theorem dJ6_bitCount_0f7a4_52 : decode cJ6_bitCount_0f7a4 52 = .ok (.ireturn, 1) := by decide +kernel
theorem dJ0_length_8abf5_0 : decode cJ0_length_8abf5 0 = .ok (.aload_n 0, 1) := by decide +kernel
theorem dJ0_length_8abf5_1 : decode cJ0_length_8abf5 1 = .ok (.getfield 9, 3) := by decide +kernel
theorem dJ0_length_8abf5_4 : decode cJ0_length_8abf5 4 = .ok (.arraylength, 1) := by decide +kernel
theorem dJ0_length_8abf5_5 : decode cJ0_length_8abf5 5 = .ok (.aload_n 0, 1) := by decide +kernel
theorem dJ0_length_8abf5_6 : decode cJ0_length_8abf5 6 = .ok (.invokevirtual 335, 3) := by decide +kernel
theorem dJ0_length_8abf5_9 : decode cJ0_length_8abf5 9 = .ok (.ishr, 1) := by decide +kernel
theorem dJ0_length_8abf5_10 : decode cJ0_length_8abf5 10 = .ok (.ireturn, 1) := by decide +kernel
theorem dJ0_charAt_5068e_0 : decode cJ0_charAt_5068e 0 = .ok (.aload_n 0, 1) := by decide +kernel
theorem dJ0_charAt_5068e_1 : decode cJ0_charAt_5068e 1 = .ok (.invokevirtual 492, 3) := by decide +kernel
theorem dJ0_charAt_5068e_4 : decode cJ0_charAt_5068e 4 = .ok (.ifCond .eq 12, 3) := by decide +kernel
theorem dJ0_charAt_5068e_7 : decode cJ0_charAt_5068e 7 = .ok (.aload_n 0, 1) := by decide +kernel
theorem dJ0_charAt_5068e_8 : decode cJ0_charAt_5068e 8 = .ok (.getfield 9, 3) := by decide +kernel
theorem dJ0_charAt_5068e_11 : decode cJ0_charAt_5068e 11 = .ok (.iload_n 1, 1) := by decide +kernel
theorem dJ0_charAt_5068e_12 : decode cJ0_charAt_5068e 12 = .ok (.invokestatic 495, 3) := by decide +kernel
theorem dJ0_charAt_5068e_15 : decode cJ0_charAt_5068e 15 = .ok (.ireturn, 1) := by decide +kernel
theorem dJ0_charAt_5068e_16 : decode cJ0_charAt_5068e 16 = .ok (.aload_n 0, 1) := by decide +kernel
theorem dJ0_charAt_5068e_17 : decode cJ0_charAt_5068e 17 = .ok (.getfield 9, 3) := by decide +kernel
theorem dJ0_charAt_5068e_20 : decode cJ0_charAt_5068e 20 = .ok (.iload_n 1, 1) := by decide +kernel
theorem dJ0_charAt_5068e_21 : decode cJ0_charAt_5068e 21 = .ok (.invokestatic 498, 3) := by decide +kernel
theorem dJ0_charAt_5068e_24 : decode cJ0_charAt_5068e 24 = .ok (.ireturn, 1) := by decide +kernel
theorem dJ0_indexOf_0f7a4_0 : decode cJ0_indexOf_0f7a4 0 = .ok (.aload_n 0, 1) := by decide +kernel
theorem dJ0_indexOf_0f7a4_1 : decode cJ0_indexOf_0f7a4 1 = .ok (.iload_n 1, 1) := by decide +kernel
theorem dJ0_indexOf_0f7a4_2 : decode cJ0_indexOf_0f7a4 2 = .ok (.iconst 0, 1) := by decide +kernel
theorem dJ0_indexOf_0f7a4_3 : decode cJ0_indexOf_0f7a4 3 = .ok (.invokevirtual 633, 3) := by decide +kernel
theorem dJ0_indexOf_0f7a4_6 : decode cJ0_indexOf_0f7a4 6 = .ok (.ireturn, 1) := by decide +kernel
theorem dJ0_indexOf_7cf53_0 : decode cJ0_indexOf_7cf53 0 = .ok (.aload_n 0, 1) := by decide +kernel
theorem dJ0_indexOf_7cf53_1 : decode cJ0_indexOf_7cf53 1 = .ok (.invokevirtual 492, 3) := by decide +kernel
theorem dJ0_indexOf_7cf53_4 : decode cJ0_indexOf_7cf53 4 = .ok (.ifCond .eq 19, 3) := by decide +kernel
theorem dJ0_indexOf_7cf53_7 : decode cJ0_indexOf_7cf53 7 = .ok (.aload_n 0, 1) := by decide +kernel
theorem dJ0_indexOf_7cf53_8 : decode cJ0_indexOf_7cf53 8 = .ok (.getfield 9, 3) := by decide +kernel
theorem dJ0_indexOf_7cf53_11 : decode cJ0_indexOf_7cf53 11 = .ok (.iload_n 1, 1) := by decide +kernel
theorem dJ0_indexOf_7cf53_12 : decode cJ0_indexOf_7cf53 12 = .ok (.iload_n 2, 1) := by decide +kernel
theorem dJ0_indexOf_7cf53_13 : decode cJ0_indexOf_7cf53 13 = .ok (.aload_n 0, 1) := by decide +kernel
theorem dJ0_indexOf_7cf53_14 : decode cJ0_indexOf_7cf53 14 = .ok (.invokevirtual 505, 3) := by decide +kernel
theorem dJ0_indexOf_7cf53_17 : decode cJ0_indexOf_7cf53 17 = .ok (.invokestatic 637, 3) := by decide +kernel
theorem dJ0_indexOf_7cf53_20 : decode cJ0_indexOf_7cf53 20 = .ok (.goto 16, 3) := by decide +kernel
theorem dJ0_indexOf_7cf53_23 : decode cJ0_indexOf_7cf53 23 = .ok (.aload_n 0, 1) := by decide +kernel
theorem dJ0_indexOf_7cf53_24 : decode cJ0_indexOf_7cf53 24 = .ok (.getfield 9, 3) := by decide +kernel
theorem dJ0_indexOf_7cf53_27 : decode cJ0_indexOf_7cf53 27 = .ok (.iload_n 1, 1) := by decide +kernel
theorem dJ0_indexOf_7cf53_28 : decode cJ0_indexOf_7cf53 28 = .ok (.iload_n 2, 1) := by decide +kernel
theorem dJ0_indexOf_7cf53_29 : decode cJ0_indexOf_7cf53 29 = .ok (.aload_n 0, 1) := by decide +kernel
theorem dJ0_indexOf_7cf53_30 : decode cJ0_indexOf_7cf53 30 = .ok (.invokevirtual 505, 3) := by decide +kernel
theorem dJ0_indexOf_7cf53_33 : decode cJ0_indexOf_7cf53 33 = .ok (.invokestatic 640, 3) := by decide +kernel
theorem dJ0_indexOf_7cf53_36 : decode cJ0_indexOf_7cf53 36 = .ok (.ireturn, 1) := by decide +kernel
theorem dJ0_coder_7d493_0 : decode cJ0_coder_7d493 0 = .ok (.getstatic 38, 3) := by decide +kernel
theorem dJ0_coder_7d493_3 : decode cJ0_coder_7d493 3 = .ok (.ifCond .eq 10, 3) := by decide +kernel
theorem dJ0_coder_7d493_6 : decode cJ0_coder_7d493 6 = .ok (.aload_n 0, 1) := by decide +kernel
theorem dJ0_coder_7d493_7 : decode cJ0_coder_7d493 7 = .ok (.getfield 15, 3) := by decide +kernel
theorem dJ0_coder_7d493_10 : decode cJ0_coder_7d493 10 = .ok (.goto 4, 3) := by decide +kernel
theorem dJ0_coder_7d493_13 : decode cJ0_coder_7d493 13 = .ok (.iconst 1, 1) := by decide +kernel
theorem dJ0_coder_7d493_14 : decode cJ0_coder_7d493 14 = .ok (.ireturn, 1) := by decide +kernel
theorem dJ0_isLatin1_aae02_0 : decode cJ0_isLatin1_aae02 0 = .ok (.getstatic 38, 3) := by decide +kernel
theorem dJ0_isLatin1_aae02_3 : decode cJ0_isLatin1_aae02 3 = .ok (.ifCond .eq 14, 3) := by decide +kernel
theorem dJ0_isLatin1_aae02_6 : decode cJ0_isLatin1_aae02 6 = .ok (.aload_n 0, 1) := by decide +kernel
theorem dJ0_isLatin1_aae02_7 : decode cJ0_isLatin1_aae02 7 = .ok (.getfield 15, 3) := by decide +kernel
theorem dJ0_isLatin1_aae02_10 : decode cJ0_isLatin1_aae02 10 = .ok (.ifCond .ne 7, 3) := by decide +kernel
theorem dJ0_isLatin1_aae02_13 : decode cJ0_isLatin1_aae02 13 = .ok (.iconst 1, 1) := by decide +kernel
theorem dJ0_isLatin1_aae02_14 : decode cJ0_isLatin1_aae02 14 = .ok (.goto 4, 3) := by decide +kernel
theorem dJ0_isLatin1_aae02_17 : decode cJ0_isLatin1_aae02 17 = .ok (.iconst 0, 1) := by decide +kernel
theorem dJ0_isLatin1_aae02_18 : decode cJ0_isLatin1_aae02 18 = .ok (.ireturn, 1) := by decide +kernel
theorem dJ0_checkIndex_df160_0 : decode cJ0_checkIndex_df160 0 = .ok (.iload_n 0, 1) := by decide +kernel
theorem dJ0_checkIndex_df160_1 : decode cJ0_checkIndex_df160 1 = .ok (.iload_n 1, 1) := by decide +kernel
theorem dJ0_checkIndex_df160_2 : decode cJ0_checkIndex_df160 2 = .ok (.getstatic 1053, 3) := by decide +kernel
theorem dJ0_checkIndex_df160_5 : decode cJ0_checkIndex_df160 5 = .ok (.invokestatic 1059, 3) := by decide +kernel
theorem dJ0_checkIndex_df160_8 : decode cJ0_checkIndex_df160 8 = .ok (.pop, 1) := by decide +kernel
theorem dJ0_checkIndex_df160_9 : decode cJ0_checkIndex_df160 9 = .ok (.return_, 1) := by decide +kernel
theorem dJ1_charAt_3b067_0 : decode cJ1_charAt_3b067 0 = .ok (.iload_n 1, 1) := by decide +kernel
theorem dJ1_charAt_3b067_1 : decode cJ1_charAt_3b067 1 = .ok (.aload_n 0, 1) := by decide +kernel
theorem dJ1_charAt_3b067_2 : decode cJ1_charAt_3b067 2 = .ok (.arraylength, 1) := by decide +kernel
theorem dJ1_charAt_3b067_3 : decode cJ1_charAt_3b067 3 = .ok (.invokestatic 9, 3) := by decide +kernel
theorem dJ1_charAt_3b067_6 : decode cJ1_charAt_3b067 6 = .ok (.aload_n 0, 1) := by decide +kernel
theorem dJ1_charAt_3b067_7 : decode cJ1_charAt_3b067 7 = .ok (.iload_n 1, 1) := by decide +kernel
theorem dJ1_charAt_3b067_8 : decode cJ1_charAt_3b067 8 = .ok (.baload, 1) := by decide +kernel
theorem dJ1_charAt_3b067_9 : decode cJ1_charAt_3b067 9 = .ok (.sipush 255, 3) := by decide +kernel
theorem dJ1_charAt_3b067_12 : decode cJ1_charAt_3b067 12 = .ok (.iand, 1) := by decide +kernel
theorem dJ1_charAt_3b067_13 : decode cJ1_charAt_3b067 13 = .ok (.i2c, 1) := by decide +kernel
theorem dJ1_charAt_3b067_14 : decode cJ1_charAt_3b067 14 = .ok (.ireturn, 1) := by decide +kernel
theorem dJ1_canEncode_9a6ad_0 : decode cJ1_canEncode_9a6ad 0 = .ok (.iload_n 0, 1) := by decide +kernel
theorem dJ1_canEncode_9a6ad_1 : decode cJ1_canEncode_9a6ad 1 = .ok (.ifCond .lt 14, 3) := by decide +kernel
theorem dJ1_canEncode_9a6ad_4 : decode cJ1_canEncode_9a6ad 4 = .ok (.iload_n 0, 1) := by decide +kernel
theorem dJ1_canEncode_9a6ad_5 : decode cJ1_canEncode_9a6ad 5 = .ok (.sipush 255, 3) := by decide +kernel
theorem dJ1_canEncode_9a6ad_8 : decode cJ1_canEncode_9a6ad 8 = .ok (.if_icmp .gt 7, 3) := by decide +kernel
theorem dJ1_canEncode_9a6ad_11 : decode cJ1_canEncode_9a6ad 11 = .ok (.iconst 1, 1) := by decide +kernel
theorem dJ1_canEncode_9a6ad_12 : decode cJ1_canEncode_9a6ad 12 = .ok (.goto 4, 3) := by decide +kernel
theorem dJ1_canEncode_9a6ad_15 : decode cJ1_canEncode_9a6ad 15 = .ok (.iconst 0, 1) := by decide +kernel
theorem dJ1_canEncode_9a6ad_16 : decode cJ1_canEncode_9a6ad 16 = .ok (.ireturn, 1) := by decide +kernel
theorem dJ1_indexOf_4cfef_0 : decode cJ1_indexOf_4cfef 0 = .ok (.iload_n 1, 1) := by decide +kernel
theorem dJ1_indexOf_4cfef_1 : decode cJ1_indexOf_4cfef 1 = .ok (.invokestatic 88, 3) := by decide +kernel
theorem dJ1_indexOf_4cfef_4 : decode cJ1_indexOf_4cfef 4 = .ok (.ifCond .ne 5, 3) := by decide +kernel
theorem dJ1_indexOf_4cfef_7 : decode cJ1_indexOf_4cfef 7 = .ok (.iconst (-1), 1) := by decide +kernel
theorem dJ1_indexOf_4cfef_8 : decode cJ1_indexOf_4cfef 8 = .ok (.ireturn, 1) := by decide +kernel
theorem dJ1_indexOf_4cfef_9 : decode cJ1_indexOf_4cfef 9 = .ok (.iload_n 2, 1) := by decide +kernel
theorem dJ1_indexOf_4cfef_10 : decode cJ1_indexOf_4cfef 10 = .ok (.iconst 0, 1) := by decide +kernel
theorem dJ1_indexOf_4cfef_11 : decode cJ1_indexOf_4cfef 11 = .ok (.invokestatic 92, 3) := by decide +kernel
theorem dJ1_indexOf_4cfef_14 : decode cJ1_indexOf_4cfef 14 = .ok (.istore_n 2, 1) := by decide +kernel
theorem dJ1_indexOf_4cfef_15 : decode cJ1_indexOf_4cfef 15 = .ok (.iload_n 3, 1) := by decide +kernel
theorem dJ1_indexOf_4cfef_16 : decode cJ1_indexOf_4cfef 16 = .ok (.aload_n 0, 1) := by decide +kernel
theorem dJ1_indexOf_4cfef_17 : decode cJ1_indexOf_4cfef 17 = .ok (.arraylength, 1) := by decide +kernel
theorem dJ1_indexOf_4cfef_18 : decode cJ1_indexOf_4cfef 18 = .ok (.invokestatic 38, 3) := by decide +kernel
theorem dJ1_indexOf_4cfef_21 : decode cJ1_indexOf_4cfef 21 = .ok (.istore_n 3, 1) := by decide +kernel
theorem dJ1_indexOf_4cfef_22 : decode cJ1_indexOf_4cfef 22 = .ok (.iload_n 2, 1) := by decide +kernel
theorem dJ1_indexOf_4cfef_23 : decode cJ1_indexOf_4cfef 23 = .ok (.iload_n 3, 1) := by decide +kernel
theorem dJ1_indexOf_4cfef_24 : decode cJ1_indexOf_4cfef 24 = .ok (.if_icmp .lt 5, 3) := by decide +kernel
theorem dJ1_indexOf_4cfef_27 : decode cJ1_indexOf_4cfef 27 = .ok (.iconst (-1), 1) := by decide +kernel
theorem dJ1_indexOf_4cfef_28 : decode cJ1_indexOf_4cfef 28 = .ok (.ireturn, 1) := by decide +kernel
theorem dJ1_indexOf_4cfef_29 : decode cJ1_indexOf_4cfef 29 = .ok (.aload_n 0, 1) := by decide +kernel
theorem dJ1_indexOf_4cfef_30 : decode cJ1_indexOf_4cfef 30 = .ok (.iload_n 1, 1) := by decide +kernel
theorem dJ1_indexOf_4cfef_31 : decode cJ1_indexOf_4cfef 31 = .ok (.iload_n 2, 1) := by decide +kernel
theorem dJ1_indexOf_4cfef_32 : decode cJ1_indexOf_4cfef 32 = .ok (.iload_n 3, 1) := by decide +kernel
theorem dJ1_indexOf_4cfef_33 : decode cJ1_indexOf_4cfef 33 = .ok (.invokestatic 95, 3) := by decide +kernel
theorem dJ1_indexOf_4cfef_36 : decode cJ1_indexOf_4cfef 36 = .ok (.ireturn, 1) := by decide +kernel
theorem dJ1_indexOfChar_4cfef_0 : decode cJ1_indexOfChar_4cfef 0 = .ok (.iload_n 1, 1) := by decide +kernel
theorem dJ1_indexOfChar_4cfef_1 : decode cJ1_indexOfChar_4cfef 1 = .ok (.i2b, 1) := by decide +kernel
theorem dJ1_indexOfChar_4cfef_2 : decode cJ1_indexOfChar_4cfef 2 = .ok (.istore 4, 2) := by decide +kernel
theorem dJ1_indexOfChar_4cfef_4 : decode cJ1_indexOfChar_4cfef 4 = .ok (.iload_n 2, 1) := by decide +kernel
theorem dJ1_indexOfChar_4cfef_5 : decode cJ1_indexOfChar_4cfef 5 = .ok (.istore 5, 2) := by decide +kernel
theorem dJ1_indexOfChar_4cfef_7 : decode cJ1_indexOfChar_4cfef 7 = .ok (.iload 5, 2) := by decide +kernel
theorem dJ1_indexOfChar_4cfef_9 : decode cJ1_indexOfChar_4cfef 9 = .ok (.iload_n 3, 1) := by decide +kernel
theorem dJ1_indexOfChar_4cfef_10 : decode cJ1_indexOfChar_4cfef 10 = .ok (.if_icmp .ge 21, 3) := by decide +kernel
theorem dJ1_indexOfChar_4cfef_13 : decode cJ1_indexOfChar_4cfef 13 = .ok (.aload_n 0, 1) := by decide +kernel
theorem dJ1_indexOfChar_4cfef_14 : decode cJ1_indexOfChar_4cfef 14 = .ok (.iload 5, 2) := by decide +kernel
theorem dJ1_indexOfChar_4cfef_16 : decode cJ1_indexOfChar_4cfef 16 = .ok (.baload, 1) := by decide +kernel
theorem dJ1_indexOfChar_4cfef_17 : decode cJ1_indexOfChar_4cfef 17 = .ok (.iload 4, 2) := by decide +kernel
theorem dJ1_indexOfChar_4cfef_19 : decode cJ1_indexOfChar_4cfef 19 = .ok (.if_icmp .ne 6, 3) := by decide +kernel
theorem dJ1_indexOfChar_4cfef_22 : decode cJ1_indexOfChar_4cfef 22 = .ok (.iload 5, 2) := by decide +kernel
theorem dJ1_indexOfChar_4cfef_24 : decode cJ1_indexOfChar_4cfef 24 = .ok (.ireturn, 1) := by decide +kernel
theorem dJ1_indexOfChar_4cfef_25 : decode cJ1_indexOfChar_4cfef 25 = .ok (.iinc 5 1, 3) := by decide +kernel
theorem dJ1_indexOfChar_4cfef_28 : decode cJ1_indexOfChar_4cfef 28 = .ok (.goto (-21), 3) := by decide +kernel
theorem dJ1_indexOfChar_4cfef_31 : decode cJ1_indexOfChar_4cfef 31 = .ok (.iconst (-1), 1) := by decide +kernel
theorem dJ1_indexOfChar_4cfef_32 : decode cJ1_indexOfChar_4cfef 32 = .ok (.ireturn, 1) := by decide +kernel
theorem dJ7_fill_53178_0 : decode cJ7_fill_53178 0 = .ok (.iconst 0, 1) := by decide +kernel
theorem dJ7_fill_53178_1 : decode cJ7_fill_53178 1 = .ok (.istore_n 2, 1) := by decide +kernel
theorem dJ7_fill_53178_2 : decode cJ7_fill_53178 2 = .ok (.aload_n 0, 1) := by decide +kernel
theorem dJ7_fill_53178_3 : decode cJ7_fill_53178 3 = .ok (.arraylength, 1) := by decide +kernel
theorem dJ7_fill_53178_4 : decode cJ7_fill_53178 4 = .ok (.istore_n 3, 1) := by decide +kernel
theorem dJ7_fill_53178_5 : decode cJ7_fill_53178 5 = .ok (.iload_n 2, 1) := by decide +kernel
theorem dJ7_fill_53178_6 : decode cJ7_fill_53178 6 = .ok (.iload_n 3, 1) := by decide +kernel
theorem dJ7_fill_53178_7 : decode cJ7_fill_53178 7 = .ok (.if_icmp .ge 13, 3) := by decide +kernel
theorem dJ7_fill_53178_10 : decode cJ7_fill_53178 10 = .ok (.aload_n 0, 1) := by decide +kernel
theorem dJ7_fill_53178_11 : decode cJ7_fill_53178 11 = .ok (.iload_n 2, 1) := by decide +kernel
theorem dJ7_fill_53178_12 : decode cJ7_fill_53178 12 = .ok (.iload_n 1, 1) := by decide +kernel
theorem dJ7_fill_53178_13 : decode cJ7_fill_53178 13 = .ok (.iastore, 1) := by decide +kernel
theorem dJ7_fill_53178_14 : decode cJ7_fill_53178 14 = .ok (.iinc 2 1, 3) := by decide +kernel
theorem dJ7_fill_53178_17 : decode cJ7_fill_53178 17 = .ok (.goto (-12), 3) := by decide +kernel
theorem dJ7_fill_53178_20 : decode cJ7_fill_53178 20 = .ok (.return_, 1) := by decide +kernel
theorem dJ3_checkIndex_8e157_0 : decode cJ3_checkIndex_8e157 0 = .ok (.iload_n 0, 1) := by decide +kernel
theorem dJ3_checkIndex_8e157_1 : decode cJ3_checkIndex_8e157 1 = .ok (.ifCond .lt 8, 3) := by decide +kernel
theorem dJ3_checkIndex_8e157_4 : decode cJ3_checkIndex_8e157 4 = .ok (.iload_n 0, 1) := by decide +kernel
theorem dJ3_checkIndex_8e157_5 : decode cJ3_checkIndex_8e157 5 = .ok (.iload_n 1, 1) := by decide +kernel
theorem dJ3_checkIndex_8e157_6 : decode cJ3_checkIndex_8e157 6 = .ok (.if_icmp .lt 10, 3) := by decide +kernel
theorem dJ3_checkIndex_8e157_9 : decode cJ3_checkIndex_8e157 9 = .ok (.aload_n 2, 1) := by decide +kernel
theorem dJ3_checkIndex_8e157_10 : decode cJ3_checkIndex_8e157 10 = .ok (.iload_n 0, 1) := by decide +kernel
theorem dJ3_checkIndex_8e157_11 : decode cJ3_checkIndex_8e157 11 = .ok (.iload_n 1, 1) := by decide +kernel
theorem dJ3_checkIndex_8e157_12 : decode cJ3_checkIndex_8e157 12 = .ok (.invokestatic 95, 3) := by decide +kernel
theorem dJ3_checkIndex_8e157_15 : decode cJ3_checkIndex_8e157 15 = .ok (.athrow, 1) := by decide +kernel
theorem dJ3_checkIndex_8e157_16 : decode cJ3_checkIndex_8e157 16 = .ok (.iload_n 0, 1) := by decide +kernel
theorem dJ3_checkIndex_8e157_17 : decode cJ3_checkIndex_8e157 17 = .ok (.ireturn, 1) := by decide +kernel
abbrev MJ_coder : kbMt := (yJ0_coder_7d493, cJ0_coder_7d493, 1, (some .byte))
theorem mfJ_coder : MJ_coder.1.cls ≠ "java/lang/invoke/MethodHandle" ∧ MJ_coder.1.cls ≠ "java/lang/invoke/VarHandle" ∧ (parseMethodDescriptor MJ_coder.1.desc).map (fun d => d.parameters.length) = some 0 ∧ MJ_coder.2.2.1 ≤ 29 := by decide +kernel
theorem wcJ_coder : Cond.code MJ_coder.1 MJ_coder.2.1 MJ_coder.2.2.1 MJ_coder.2.2.2 ∈ kbT := kt4 (i := 9) rfl rfl
theorem wzJ_coder : Cond.initialized MJ_coder.1.cls ∈ kbT := kt1 (i := 18) rfl rfl
theorem wiJ_coder : Cond.instanceMethod MJ_coder.1 ∈ kbT := kt4 (i := 7) rfl rfl
theorem wsJ_coder : Cond.selects MJ_coder.1.cls MJ_coder.1 MJ_coder.1 ∈ kbT := kt4 (i := 8) rfl rfl
abbrev MJ_lat : kbMt := (yJ0_isLatin1_aae02, cJ0_isLatin1_aae02, 1, (some .boolean))
theorem mfJ_lat : MJ_lat.1.cls ≠ "java/lang/invoke/MethodHandle" ∧ MJ_lat.1.cls ≠ "java/lang/invoke/VarHandle" ∧ (parseMethodDescriptor MJ_lat.1.desc).map (fun d => d.parameters.length) = some 0 ∧ MJ_lat.2.2.1 ≤ 29 := by decide +kernel
theorem wcJ_lat : Cond.code MJ_lat.1 MJ_lat.2.1 MJ_lat.2.2.1 MJ_lat.2.2.2 ∈ kbT := kt3 (i := 239) rfl rfl
theorem wzJ_lat : Cond.initialized MJ_lat.1.cls ∈ kbT := kt1 (i := 18) rfl rfl
theorem wiJ_lat : Cond.instanceMethod MJ_lat.1 ∈ kbT := kt3 (i := 237) rfl rfl
theorem wsJ_lat : Cond.selects MJ_lat.1.cls MJ_lat.1 MJ_lat.1 ∈ kbT := kt3 (i := 238) rfl rfl
abbrev MJ_slen : kbMt := (yJ0_length_8abf5, cJ0_length_8abf5, 1, (some .int))
theorem mfJ_slen : MJ_slen.1.cls ≠ "java/lang/invoke/MethodHandle" ∧ MJ_slen.1.cls ≠ "java/lang/invoke/VarHandle" ∧ (parseMethodDescriptor MJ_slen.1.desc).map (fun d => d.parameters.length) = some 0 ∧ MJ_slen.2.2.1 ≤ 29 := by decide +kernel
theorem wcJ_slen : Cond.code MJ_slen.1 MJ_slen.2.1 MJ_slen.2.2.1 MJ_slen.2.2.2 ∈ kbT := kt4 (i := 5) rfl rfl
theorem wzJ_slen : Cond.initialized MJ_slen.1.cls ∈ kbT := kt1 (i := 18) rfl rfl
theorem wiJ_slen : Cond.instanceMethod MJ_slen.1 ∈ kbT := kt4 (i := 3) rfl rfl
theorem wsJ_slen : Cond.selects MJ_slen.1.cls MJ_slen.1 MJ_slen.1 ∈ kbT := kt4 (i := 4) rfl rfl
abbrev MJ_l1char : kbMt := (yJ1_charAt_3b067, cJ1_charAt_3b067, 2, (some .char))
theorem mfJ_l1char : MJ_l1char.1.cls ≠ "java/lang/invoke/MethodHandle" ∧ MJ_l1char.1.cls ≠ "java/lang/invoke/VarHandle" ∧ (parseMethodDescriptor MJ_l1char.1.desc).map (fun d => d.parameters.length) = some 2 ∧ MJ_l1char.2.2.1 ≤ 29 := by decide +kernel
theorem wcJ_l1char : Cond.code MJ_l1char.1 MJ_l1char.2.1 MJ_l1char.2.2.1 MJ_l1char.2.2.2 ∈ kbT := kt4 (i := 92) rfl rfl
theorem wzJ_l1char : Cond.initialized MJ_l1char.1.cls ∈ kbT := kt1 (i := 19) rfl rfl
theorem wtJ_l1char : Cond.static MJ_l1char.1 ∈ kbT := kt4 (i := 91) rfl rfl
abbrev MJ_schar : kbMt := (yJ0_charAt_5068e, cJ0_charAt_5068e, 2, (some .char))
theorem mfJ_schar : MJ_schar.1.cls ≠ "java/lang/invoke/MethodHandle" ∧ MJ_schar.1.cls ≠ "java/lang/invoke/VarHandle" ∧ (parseMethodDescriptor MJ_schar.1.desc).map (fun d => d.parameters.length) = some 1 ∧ MJ_schar.2.2.1 ≤ 29 := by decide +kernel
theorem wcJ_schar : Cond.code MJ_schar.1 MJ_schar.2.1 MJ_schar.2.2.1 MJ_schar.2.2.2 ∈ kbT := kt4 (i := 89) rfl rfl
theorem wzJ_schar : Cond.initialized MJ_schar.1.cls ∈ kbT := kt1 (i := 18) rfl rfl
theorem wiJ_schar : Cond.instanceMethod MJ_schar.1 ∈ kbT := kt4 (i := 87) rfl rfl
theorem wsJ_schar : Cond.selects MJ_schar.1.cls MJ_schar.1 MJ_schar.1 ∈ kbT := kt4 (i := 88) rfl rfl
abbrev MJ_ck0 : kbMt := (yJ0_checkIndex_df160, cJ0_checkIndex_df160, 2, none)
theorem mfJ_ck0 : MJ_ck0.1.cls ≠ "java/lang/invoke/MethodHandle" ∧ MJ_ck0.1.cls ≠ "java/lang/invoke/VarHandle" ∧ (parseMethodDescriptor MJ_ck0.1.desc).map (fun d => d.parameters.length) = some 2 ∧ MJ_ck0.2.2.1 ≤ 29 := by decide +kernel
theorem wcJ_ck0 : Cond.code MJ_ck0.1 MJ_ck0.2.1 MJ_ck0.2.2.1 MJ_ck0.2.2.2 ∈ kbT := kt4 (i := 95) rfl rfl
theorem wzJ_ck0 : Cond.initialized MJ_ck0.1.cls ∈ kbT := kt1 (i := 18) rfl rfl
theorem wtJ_ck0 : Cond.static MJ_ck0.1 ∈ kbT := kt4 (i := 94) rfl rfl
abbrev MJ_ck3 : kbMt := (yJ3_checkIndex_8e157, cJ3_checkIndex_8e157, 3, (some .int))
theorem mfJ_ck3 : MJ_ck3.1.cls ≠ "java/lang/invoke/MethodHandle" ∧ MJ_ck3.1.cls ≠ "java/lang/invoke/VarHandle" ∧ (parseMethodDescriptor MJ_ck3.1.desc).map (fun d => d.parameters.length) = some 3 ∧ MJ_ck3.2.2.1 ≤ 29 := by decide +kernel
theorem wcJ_ck3 : Cond.code MJ_ck3.1 MJ_ck3.2.1 MJ_ck3.2.2.1 MJ_ck3.2.2.2 ∈ kbT := kt4 (i := 98) rfl rfl
theorem wzJ_ck3 : Cond.initialized MJ_ck3.1.cls ∈ kbT := kt1 (i := 21) rfl rfl
theorem wtJ_ck3 : Cond.static MJ_ck3.1 ∈ kbT := kt4 (i := 97) rfl rfl
abbrev MJ_canEnc : kbMt := (yJ1_canEncode_9a6ad, cJ1_canEncode_9a6ad, 1, (some .boolean))
theorem mfJ_canEnc : MJ_canEnc.1.cls ≠ "java/lang/invoke/MethodHandle" ∧ MJ_canEnc.1.cls ≠ "java/lang/invoke/VarHandle" ∧ (parseMethodDescriptor MJ_canEnc.1.desc).map (fun d => d.parameters.length) = some 1 ∧ MJ_canEnc.2.2.1 ≤ 29 := by decide +kernel
theorem wcJ_canEnc : Cond.code MJ_canEnc.1 MJ_canEnc.2.1 MJ_canEnc.2.2.1 MJ_canEnc.2.2.2 ∈ kbT := kt4 (i := 15) rfl rfl
theorem wzJ_canEnc : Cond.initialized MJ_canEnc.1.cls ∈ kbT := kt1 (i := 19) rfl rfl
theorem wtJ_canEnc : Cond.static MJ_canEnc.1 ∈ kbT := kt4 (i := 14) rfl rfl
abbrev MJ_ixc : kbMt := (yJ1_indexOfChar_4cfef, cJ1_indexOfChar_4cfef, 6, (some .int))
theorem mfJ_ixc : MJ_ixc.1.cls ≠ "java/lang/invoke/MethodHandle" ∧ MJ_ixc.1.cls ≠ "java/lang/invoke/VarHandle" ∧ (parseMethodDescriptor MJ_ixc.1.desc).map (fun d => d.parameters.length) = some 4 ∧ MJ_ixc.2.2.1 ≤ 29 := by decide +kernel
theorem wcJ_ixc : Cond.code MJ_ixc.1 MJ_ixc.2.1 MJ_ixc.2.2.1 MJ_ixc.2.2.2 ∈ kbT := kt4 (i := 22) rfl rfl
theorem wzJ_ixc : Cond.initialized MJ_ixc.1.cls ∈ kbT := kt1 (i := 19) rfl rfl
theorem wtJ_ixc : Cond.static MJ_ixc.1 ∈ kbT := kt4 (i := 21) rfl rfl
abbrev MJ_ix1 : kbMt := (yJ1_indexOf_4cfef, cJ1_indexOf_4cfef, 4, (some .int))
theorem mfJ_ix1 : MJ_ix1.1.cls ≠ "java/lang/invoke/MethodHandle" ∧ MJ_ix1.1.cls ≠ "java/lang/invoke/VarHandle" ∧ (parseMethodDescriptor MJ_ix1.1.desc).map (fun d => d.parameters.length) = some 4 ∧ MJ_ix1.2.2.1 ≤ 29 := by decide +kernel
theorem wcJ_ix1 : Cond.code MJ_ix1.1 MJ_ix1.2.1 MJ_ix1.2.2.1 MJ_ix1.2.2.2 ∈ kbT := kt4 (i := 12) rfl rfl
theorem wzJ_ix1 : Cond.initialized MJ_ix1.1.cls ∈ kbT := kt1 (i := 19) rfl rfl
theorem wtJ_ix1 : Cond.static MJ_ix1.1 ∈ kbT := kt4 (i := 11) rfl rfl
abbrev MJ_sindex2 : kbMt := (yJ0_indexOf_7cf53, cJ0_indexOf_7cf53, 3, (some .int))
theorem mfJ_sindex2 : MJ_sindex2.1.cls ≠ "java/lang/invoke/MethodHandle" ∧ MJ_sindex2.1.cls ≠ "java/lang/invoke/VarHandle" ∧ (parseMethodDescriptor MJ_sindex2.1.desc).map (fun d => d.parameters.length) = some 2 ∧ MJ_sindex2.2.2.1 ≤ 29 := by decide +kernel
theorem wcJ_sindex2 : Cond.code MJ_sindex2.1 MJ_sindex2.2.1 MJ_sindex2.2.2.1 MJ_sindex2.2.2.2 ∈ kbT := kt3 (i := 235) rfl rfl
theorem wzJ_sindex2 : Cond.initialized MJ_sindex2.1.cls ∈ kbT := kt1 (i := 18) rfl rfl
theorem wiJ_sindex2 : Cond.instanceMethod MJ_sindex2.1 ∈ kbT := kt3 (i := 233) rfl rfl
theorem wsJ_sindex2 : Cond.selects MJ_sindex2.1.cls MJ_sindex2.1 MJ_sindex2.1 ∈ kbT := kt3 (i := 234) rfl rfl
abbrev MJ_sindex : kbMt := (yJ0_indexOf_0f7a4, cJ0_indexOf_0f7a4, 2, (some .int))
theorem mfJ_sindex : MJ_sindex.1.cls ≠ "java/lang/invoke/MethodHandle" ∧ MJ_sindex.1.cls ≠ "java/lang/invoke/VarHandle" ∧ (parseMethodDescriptor MJ_sindex.1.desc).map (fun d => d.parameters.length) = some 1 ∧ MJ_sindex.2.2.1 ≤ 29 := by decide +kernel
theorem wcJ_sindex : Cond.code MJ_sindex.1 MJ_sindex.2.1 MJ_sindex.2.2.1 MJ_sindex.2.2.2 ∈ kbT := kt3 (i := 231) rfl rfl
theorem wzJ_sindex : Cond.initialized MJ_sindex.1.cls ∈ kbT := kt1 (i := 18) rfl rfl
theorem wiJ_sindex : Cond.instanceMethod MJ_sindex.1 ∈ kbT := kt3 (i := 229) rfl rfl
theorem wsJ_sindex : Cond.selects MJ_sindex.1.cls MJ_sindex.1 MJ_sindex.1 ∈ kbT := kt3 (i := 230) rfl rfl
theorem mfJ_fill : MJ_fill.1.cls ≠ "java/lang/invoke/MethodHandle" ∧ MJ_fill.1.cls ≠ "java/lang/invoke/VarHandle" ∧ (parseMethodDescriptor MJ_fill.1.desc).map (fun d => d.parameters.length) = some 2 ∧ MJ_fill.2.2.1 ≤ 29 := by decide +kernel
theorem wcJ_fill : Cond.code MJ_fill.1 MJ_fill.2.1 MJ_fill.2.2.1 MJ_fill.2.2.2 ∈ kbT := kt2 (i := 212) rfl rfl
theorem wzJ_fill : Cond.initialized MJ_fill.1.cls ∈ kbT := kt1 (i := 25) rfl rfl
theorem wtJ_fill : Cond.static MJ_fill.1 ∈ kbT := kt2 (i := 211) rfl rfl
abbrev MJ_bitCount : kbMt := (yJ6_bitCount_0f7a4, cJ6_bitCount_0f7a4, 1, (some .int))
theorem mfJ_bitCount : MJ_bitCount.1.cls ≠ "java/lang/invoke/MethodHandle" ∧ MJ_bitCount.1.cls ≠ "java/lang/invoke/VarHandle" ∧ (parseMethodDescriptor MJ_bitCount.1.desc).map (fun d => d.parameters.length) = some 1 ∧ MJ_bitCount.2.2.1 ≤ 29 := by decide +kernel
theorem wcJ_bitCount : Cond.code MJ_bitCount.1 MJ_bitCount.2.1 MJ_bitCount.2.2.1 MJ_bitCount.2.2.2 ∈ kbT := kt3 (i := 89) rfl rfl
theorem wzJ_bitCount : Cond.initialized MJ_bitCount.1.cls ∈ kbT := kt1 (i := 27) rfl rfl
theorem wtJ_bitCount : Cond.static MJ_bitCount.1 ∈ kbT := kt3 (i := 88) rfl rfl
theorem csX4_44 : kbCS "KnockBook$Joins" 44 MJ_fill 2 := ⟨kb_all4 (kt2 (i := 210) rfl rfl) wtJ_fill wzJ_fill wcJ_fill, mfJ_fill⟩
theorem csX1_57 : kbCS "KnockBook$Codes" 57 MJ_fill 2 := ⟨kb_all4 (kt3 (i := 7) rfl rfl) wtJ_fill wzJ_fill wcJ_fill, mfJ_fill⟩
theorem csX3_81 : kbCS "KnockBook$House" 81 MJ_bitCount 1 := ⟨kb_all4 (kt3 (i := 87) rfl rfl) wtJ_bitCount wzJ_bitCount wcJ_bitCount, mfJ_bitCount⟩
theorem cvX0_223 : kbCV "KnockBook$BookText" 223 MJ_sindex 1 := ⟨kb_all5 (kt3 (i := 228) rfl rfl) wiJ_sindex wsJ_sindex wzJ_sindex wcJ_sindex, mfJ_sindex⟩
theorem cvJ0_633 : kbCV "java/lang/String" 633 MJ_sindex2 2 := ⟨kb_all5 (kt3 (i := 232) rfl rfl) wiJ_sindex2 wsJ_sindex2 wzJ_sindex2 wcJ_sindex2, mfJ_sindex2⟩
theorem cvJ0_492 : kbCV "java/lang/String" 492 MJ_lat 0 := ⟨kb_all5 (kt3 (i := 236) rfl rfl) wiJ_lat wsJ_lat wzJ_lat wcJ_lat, mfJ_lat⟩
theorem cvJ0_505 : kbCV "java/lang/String" 505 MJ_slen 0 := ⟨kb_all5 (kt4 (i := 2) rfl rfl) wiJ_slen wsJ_slen wzJ_slen wcJ_slen, mfJ_slen⟩
theorem cvJ0_335 : kbCV "java/lang/String" 335 MJ_coder 0 := ⟨kb_all5 (kt4 (i := 6) rfl rfl) wiJ_coder wsJ_coder wzJ_coder wcJ_coder, mfJ_coder⟩
theorem csJ0_637 : kbCS "java/lang/String" 637 MJ_ix1 4 := ⟨kb_all4 (kt4 (i := 10) rfl rfl) wtJ_ix1 wzJ_ix1 wcJ_ix1, mfJ_ix1⟩
theorem csJ1_88 : kbCS "java/lang/StringLatin1" 88 MJ_canEnc 1 := ⟨kb_all4 (kt4 (i := 13) rfl rfl) wtJ_canEnc wzJ_canEnc wcJ_canEnc, mfJ_canEnc⟩
theorem csJ1_95 : kbCS "java/lang/StringLatin1" 95 MJ_ixc 4 := ⟨kb_all4 (kt4 (i := 20) rfl rfl) wtJ_ixc wzJ_ixc wcJ_ixc, mfJ_ixc⟩
theorem cvX0_197 : kbCV "KnockBook$BookText" 197 MJ_slen 0 := ⟨kb_all5 (kt4 (i := 85) rfl rfl) wiJ_slen wsJ_slen wzJ_slen wcJ_slen, mfJ_slen⟩
theorem cvX0_201 : kbCV "KnockBook$BookText" 201 MJ_schar 1 := ⟨kb_all5 (kt4 (i := 86) rfl rfl) wiJ_schar wsJ_schar wzJ_schar wcJ_schar, mfJ_schar⟩
theorem csJ0_495 : kbCS "java/lang/String" 495 MJ_l1char 2 := ⟨kb_all4 (kt4 (i := 90) rfl rfl) wtJ_l1char wzJ_l1char wcJ_l1char, mfJ_l1char⟩
theorem csJ1_9 : kbCS "java/lang/StringLatin1" 9 MJ_ck0 2 := ⟨kb_all4 (kt4 (i := 93) rfl rfl) wtJ_ck0 wzJ_ck0 wcJ_ck0, mfJ_ck0⟩
theorem csJ0_1059 : kbCS "java/lang/String" 1059 MJ_ck3 3 := ⟨kb_all4 (kt4 (i := 96) rfl rfl) wtJ_ck3 wzJ_ck3 wcJ_ck3, mfJ_ck3⟩
theorem csX8_96 : kbCS "KnockBook$Speech" 96 MJ_fill 2 := ⟨kb_all4 (kt5 (i := 229) rfl rfl) wtJ_fill wzJ_fill wcJ_fill, mfJ_fill⟩
theorem cvX12_218 : kbCV "KnockBookModel" 218 MJ_slen 0 := ⟨kb_all5 (kt7 (i := 185) rfl rfl) wiJ_slen wsJ_slen wzJ_slen wcJ_slen, mfJ_slen⟩
theorem cvX12_222 : kbCV "KnockBookModel" 222 MJ_schar 1 := ⟨kb_all5 (kt7 (i := 186) rfl rfl) wiJ_schar wsJ_schar wzJ_schar wcJ_schar, mfJ_schar⟩
theorem wJ0_9 : Cond.fieldLink "java/lang/String" 9 "java/lang/String" "value" "[B" ∈ kbT := kt9 (i := 92) rfl rfl
theorem wJ0_15 : Cond.fieldLink "java/lang/String" 15 "java/lang/String" "coder" "B" ∈ kbT := kt9 (i := 91) rfl rfl
theorem wJ0_38 : Cond.fieldLink "java/lang/String" 38 "java/lang/String" "COMPACT_STRINGS" "Z" ∈ kbT := kt4 (i := 0) rfl rfl
theorem wJ0_1053 : Cond.fieldLink "java/lang/String" 1053 "jdk/internal/util/Preconditions" "SIOOBE_FORMATTER" "Ljava/util/function/BiFunction;" ∈ kbT := kt4 (i := 41) rfl rfl
theorem mlJ1_92 : Cond.methodLink "java/lang/StringLatin1" 92 Lib.Math.max.name ∈ kbT := kt4 (i := 16) rfl rfl
theorem mlJ1_38 : Cond.methodLink "java/lang/StringLatin1" 38 Lib.Math.min.name ∈ kbT := kt4 (i := 19) rfl rfl
theorem liJ6_265 : Cond.constant "java/lang/Integer" 265 1431655765 ∈ kbT := kt3 (i := 90) rfl rfl
theorem liJ6_266 : Cond.constant "java/lang/Integer" 266 858993459 ∈ kbT := kt3 (i := 91) rfl rfl
theorem liJ6_267 : Cond.constant "java/lang/Integer" 267 252645135 ∈ kbT := kt3 (i := 92) rfl rfl

theorem kbShr0 (x : Int32) : kbShr x 0 = x := sb_shr0 x
theorem r_fmt {l : Launch} {M : kbMt} {d : Nat} {Q : kbQt} {pc : Nat} {L : List (Option Value)} {st : List Value} {μ : kbM} {idx : Nat} (hw : Cond.fieldLink M.1.cls idx "jdk/internal/util/Preconditions" "SIOOBE_FORMATTER" "Ljava/util/function/BiFunction;" ∈ kbT) (hd : decode M.2.1 pc = .ok (.getstatic idx, 3)) (k1 : kbR l M d Q (pc + 3) L (.null :: st) μ) (k2 : kbR l M d Q (pc + 3) L (.ref 3001 :: st) μ) : kbR l M d Q pc L st μ := by
  intro E p e s m args below meth c C H locs ls hP hS hL
  rcases C.2.2.2.2.2.2.2.2.2.2.2.2.2.2.2.2 with h | h
  · exact va_gets C.1 C.2.1 h hS C.2.2.2.2.2.1 (C.2.2.2.2.2.2.1 _ (kbT_mem hw)) (fun _ h => h) hd (k1 E p e s m args below meth c C H locs ls hP hS hL)
  · exact va_gets C.1 C.2.1 h hS C.2.2.2.2.2.1 (C.2.2.2.2.2.2.1 _ (kbT_mem hw)) (fun _ h => h) hd (k2 E p e s m args below meth c C H locs ls hP hS hL)
def kbFill (f : Nat → Int32) (n : Nat) (v : Int32) : Nat → Int32 := fun j => if j < n then v else f j
theorem kbFill_0 (f : Nat → Int32) (v : Int32) : kbFill f 0 v = f := by funext j; simp [kbFill]
theorem kbFill_s (f : Nat → Int32) (j : Nat) (v : Int32) : upd (kbFill f j v) j v = kbFill f (j + 1) v := by
  funext q
  by_cases h : q = j
  · subst h; simp [upd, kbFill]
  · by_cases h2 : q < j
    · have : q < j + 1 := by omega
      simp [upd, kbFill, h, h2, this]
    · have : ¬ q < j + 1 := by omega
      simp [upd, kbFill, h, h2, this]
theorem kbA_A (μ : kbM) (i : Nat) (f g : Nat → Int32) : kbA (kbA μ i f) i g = kbA μ i g := by
  unfold kbA
  congr 1
  funext a
  by_cases h : a = i <;> simp [h]
theorem kbA_id (μ : kbM) (i : Nat) : kbA μ i (μ.1 i) = μ := by
  unfold kbA
  have : (fun a => if a = i then μ.1 i else μ.1 a) = μ.1 := by
    funext a
    by_cases h : a = i <;> simp [h]
  rw [this]
theorem fill_loop {l : Launch} {Q : kbQt} {i n : Nat} {rs : List Nat} (hs : kbSh[i]? = some (.inl (0, n, rs))) (hn : n < 2 ^ 31) (v : Int32) (μ : kbM) (hq : Q none (kbA μ i (kbFill (μ.1 i) n v))) :
    ∀ (k j : Nat), j + k = n → kbR l MJ_fill 1 Q 5 [some (.ref i), some (.int v), some (.int (nI j)), some (.int (nI n))] [] (kbA μ i (kbFill (μ.1 i) j v)) := by
  intro k
  induction k with
  | zero =>
    intro j hj
    refine r_iload_n dJ7_fill_53178_5 rfl ?_
    refine r_iload_n dJ7_fill_53178_6 rfl ?_
    refine r_icmp_ge 20 dJ7_fill_53178_7 (by decide) (fun hc => ?_) (fun hc => ?_)
    · have e : j = n := by omega
      subst e
      exact r_vret rfl dJ7_fill_53178_20 hq
    · exact absurd (nI_le (by omega) (by omega)) hc
  | succ k ih =>
    intro j hj
    refine r_iload_n dJ7_fill_53178_5 rfl ?_
    refine r_iload_n dJ7_fill_53178_6 rfl ?_
    refine r_icmp_ge 20 dJ7_fill_53178_7 (by decide) (fun hc => ?_) (fun hc => ?_)
    · exact absurd hc (nI_ge (by omega) (by omega))
    · refine r_aload_n dJ7_fill_53178_10 rfl ?_
      refine r_iload_n dJ7_fill_53178_11 rfl ?_
      refine r_iload_n dJ7_fill_53178_12 rfl ?_
      refine r_iast hs (vp_in_nI (by omega) (by omega)) dJ7_fill_53178_13 ?_
      refine r_iinc 1 dJ7_fill_53178_14 rfl (by decide) (Nat.le_of_ble_eq_true rfl) rfl ?_
      refine r_goto 5 dJ7_fill_53178_17 (by decide) ?_
      have e1 : kbW (kbA μ i (kbFill (μ.1 i) j v)) i (nI j).toNatClampNeg v = kbA μ i (kbFill (μ.1 i) (j + 1) v) := by
        unfold kbW
        rw [kbA_self, nI_clamp (by omega), kbFill_s, kbA_A]
      have e2 : nI j + 1 = nI (j + 1) := nI_1 j
      rw [e1]
      show kbR l MJ_fill 1 Q 5 [some (.ref i), some (.int v), some (.int (nI j + 1)), some (.int (nI n))] [] _
      rw [e2]
      exact ih (j + 1) (by omega)
theorem sp_fill {l : Launch} {i n : Nat} {rs : List Nat} (hs : kbSh[i]? = some (.inl (0, n, rs))) (hn : n < 2 ^ 31) (v : Int32) (μ : kbM) : kbS l MJ_fill 1 [.ref i, .int v] μ (kbQe none (kbA μ i (kbFill (μ.1 i) n v))) := by
  refine kb_enter 2 rfl rfl ?_
  refine r_iconst 0 dJ7_fill_53178_0 (by decide) ?_
  refine r_istore_n dJ7_fill_53178_1 (Nat.le_of_ble_eq_true rfl) rfl ?_
  refine r_aload_n dJ7_fill_53178_2 rfl ?_
  refine r_alen (nI n) hs (by decide) rfl dJ7_fill_53178_3 ?_
  refine r_istore_n dJ7_fill_53178_4 (Nat.le_of_ble_eq_true rfl) rfl ?_
  have h := fill_loop (l := l) hs hn v μ (Q := kbQe none (kbA μ i (kbFill (μ.1 i) n v))) ⟨rfl, rfl⟩ n 0 (by omega)
  rw [kbFill_0, kbA_id] at h
  exact h
/-! String -/
theorem sp_coder {l : Launch} (id : Nat) (hi : id < kbTx.length) (μ : kbM) : kbS l MJ_coder 1 [.ref (1000 + id)] μ (kbQe (some (.int 0)) μ) := by
  refine kb_enter 0 rfl rfl ?_
  refine r_compact wJ0_38 dJ0_coder_7d493_0 ?_
  refine r_if_eq 13 dJ0_coder_7d493_3 (by decide) (fun hc => absurd hc (by decide)) (fun _ => ?_)
  refine r_aload_n dJ0_coder_7d493_6 rfl ?_
  refine r_scod hi wJ0_15 dJ0_coder_7d493_7 ?_
  refine r_goto 14 dJ0_coder_7d493_10 (by decide) ?_
  exact r_zret rfl rfl dJ0_coder_7d493_14 ⟨rfl, rfl⟩
theorem sp_lat {l : Launch} (id : Nat) (hi : id < kbTx.length) (μ : kbM) : kbS l MJ_lat 1 [.ref (1000 + id)] μ (kbQe (some (.int 1)) μ) := by
  refine kb_enter 0 rfl rfl ?_
  refine r_compact wJ0_38 dJ0_isLatin1_aae02_0 ?_
  refine r_if_eq 17 dJ0_isLatin1_aae02_3 (by decide) (fun hc => absurd hc (by decide)) (fun _ => ?_)
  refine r_aload_n dJ0_isLatin1_aae02_6 rfl ?_
  refine r_scod hi wJ0_15 dJ0_isLatin1_aae02_7 ?_
  refine r_if_ne 17 dJ0_isLatin1_aae02_10 (by decide) (fun hc => absurd rfl hc) (fun _ => ?_)
  refine r_iconst 1 dJ0_isLatin1_aae02_13 (by decide) ?_
  refine r_goto 18 dJ0_isLatin1_aae02_14 (by decide) ?_
  exact r_zret rfl rfl dJ0_isLatin1_aae02_18 ⟨rfl, rfl⟩
def kbSlen (id : Nat) : Int32 := Int32.ofNat (kbTx.getD id []).length
theorem sp_slen {l : Launch} (id : Nat) (hi : id < kbTx.length) (μ : kbM) : kbS l MJ_slen 2 [.ref (1000 + id)] μ (kbQe (some (.int (kbSlen id))) μ) := by
  refine kb_enter 0 rfl rfl ?_
  refine r_aload_n dJ0_length_8abf5_0 rfl ?_
  refine r_sval hi wJ0_9 dJ0_length_8abf5_1 ?_
  refine r_slen hi dJ0_length_8abf5_4 ?_
  refine r_aload_n dJ0_length_8abf5_5 rfl ?_
  refine r_invS_i cvJ0_335 hi rfl (sp_coder id hi μ) rfl rfl (Nat.le_of_ble_eq_true rfl) (Nat.le_of_ble_eq_true rfl) dJ0_length_8abf5_6 ?_
  refine r_shr dJ0_length_8abf5_9 ?_
  rw [kbShr0]
  exact r_iret rfl dJ0_length_8abf5_10 ⟨rfl, rfl⟩
theorem ck3_body {l : Launch} {Q : kbQt} (i n : Int32) (v : Value) (h1 : ¬ i < 0) (h2 : i < n) (μ : kbM) (hq : Q (some (.int i)) μ) : kbR l MJ_ck3 1 Q 0 [some (.int i), some (.int n), some v] [] μ := by
  refine r_iload_n dJ3_checkIndex_8e157_0 rfl ?_
  refine r_if_lt 9 dJ3_checkIndex_8e157_1 (by decide) (fun hc => absurd hc h1) (fun _ => ?_)
  refine r_iload_n dJ3_checkIndex_8e157_4 rfl ?_
  refine r_iload_n dJ3_checkIndex_8e157_5 rfl ?_
  refine r_icmp_lt 16 dJ3_checkIndex_8e157_6 (by decide) (fun _ => ?_) (fun hc => absurd h2 hc)
  refine r_iload_n dJ3_checkIndex_8e157_16 rfl ?_
  exact r_iret rfl dJ3_checkIndex_8e157_17 hq
theorem sp_ck3n {l : Launch} (i n : Int32) (h1 : ¬ i < 0) (h2 : i < n) (μ : kbM) : kbS l MJ_ck3 1 [.int i, .int n, .null] μ (kbQe (some (.int i)) μ) := by
  refine kb_enter 0 rfl rfl ?_
  exact ck3_body i n _ h1 h2 μ ⟨rfl, rfl⟩
theorem sp_ck3r {l : Launch} (i n : Int32) (h1 : ¬ i < 0) (h2 : i < n) (μ : kbM) : kbS l MJ_ck3 1 [.int i, .int n, .ref 3001] μ (kbQe (some (.int i)) μ) := by
  refine kb_enter 0 rfl rfl ?_
  exact ck3_body i n _ h1 h2 μ ⟨rfl, rfl⟩
theorem sp_ck0 {l : Launch} (i n : Int32) (h1 : ¬ i < 0) (h2 : i < n) (μ : kbM) : kbS l MJ_ck0 2 [.int i, .int n] μ (kbQe none μ) := by
  refine kb_enter 0 rfl rfl ?_
  refine r_iload_n dJ0_checkIndex_df160_0 rfl ?_
  refine r_iload_n dJ0_checkIndex_df160_1 rfl ?_
  refine r_fmt wJ0_1053 dJ0_checkIndex_df160_2 ?_ ?_
  · refine r_inv_i csJ0_1059 (sp_ck3n i n h1 h2 μ) rfl rfl (Nat.le_of_ble_eq_true rfl) (Nat.le_of_ble_eq_true rfl) dJ0_checkIndex_df160_5 ?_
    refine r_pop dJ0_checkIndex_df160_8 rfl ?_
    exact r_vret rfl dJ0_checkIndex_df160_9 ⟨rfl, rfl⟩
  · refine r_inv_i csJ0_1059 (sp_ck3r i n h1 h2 μ) rfl rfl (Nat.le_of_ble_eq_true rfl) (Nat.le_of_ble_eq_true rfl) dJ0_checkIndex_df160_5 ?_
    refine r_pop dJ0_checkIndex_df160_8 rfl ?_
    exact r_vret rfl dJ0_checkIndex_df160_9 ⟨rfl, rfl⟩
def kbSchar (id : Nat) (j : Int32) : Int32 := kbI2c ((kbTx.getD id []).getD j.toNatClampNeg 0 &&& 255)
theorem kbTx_small : ∀ id, id < kbTx.length → (kbTx.getD id []).length < 2 ^ 31 := by decide +kernel
theorem kb_in_lt {j : Int32} {n : Nat} (hn : n < 2 ^ 31) (h : vp_in j n) : ¬ j < 0 ∧ j < Int32.ofNat n := by
  obtain ⟨q, h1, rfl⟩ := vp_in_of h hn
  exact ⟨nI_pos (by omega), nI_lt h1 hn⟩
theorem sp_l1char {l : Launch} (id : Nat) (hi : id < kbTx.length) (j : Int32) (hin : vp_in j (kbTx.getD id []).length) (μ : kbM) : kbS l MJ_l1char 3 [.ref (2000 + id), .int j] μ (kbQe (some (.int (kbSchar id j))) μ) := by
  obtain ⟨h1, h2⟩ := kb_in_lt (kbTx_small id hi) hin
  refine kb_enter 0 rfl rfl ?_
  refine r_iload_n dJ1_charAt_3b067_0 rfl ?_
  refine r_aload_n dJ1_charAt_3b067_1 rfl ?_
  refine r_slen hi dJ1_charAt_3b067_2 ?_
  refine r_inv_v csJ1_9 (sp_ck0 j _ h1 h2 μ) rfl rfl (Nat.le_of_ble_eq_true rfl) (Nat.le_of_ble_eq_true rfl) dJ1_charAt_3b067_3 ?_
  refine r_aload_n dJ1_charAt_3b067_6 rfl ?_
  refine r_iload_n dJ1_charAt_3b067_7 rfl ?_
  refine r_sald hi hin dJ1_charAt_3b067_8 ?_
  refine r_sipush 255 dJ1_charAt_3b067_9 (by decide) ?_
  refine r_iand dJ1_charAt_3b067_12 ?_
  refine r_tochar dJ1_charAt_3b067_13 ?_
  exact r_zret rfl (pk_nc _) dJ1_charAt_3b067_14 ⟨rfl, rfl⟩
theorem sp_schar {l : Launch} (id : Nat) (hi : id < kbTx.length) (j : Int32) (hin : vp_in j (kbTx.getD id []).length) (μ : kbM) : kbS l MJ_schar 4 [.ref (1000 + id), .int j] μ (kbQe (some (.int (kbSchar id j))) μ) := by
  refine kb_enter 0 rfl rfl ?_
  refine r_aload_n dJ0_charAt_5068e_0 rfl ?_
  refine r_invS_i cvJ0_492 hi rfl (sp_lat id hi μ) rfl rfl (Nat.le_of_ble_eq_true rfl) (Nat.le_of_ble_eq_true rfl) dJ0_charAt_5068e_1 ?_
  refine r_if_eq 16 dJ0_charAt_5068e_4 (by decide) (fun hc => absurd hc (by decide)) (fun _ => ?_)
  refine r_aload_n dJ0_charAt_5068e_7 rfl ?_
  refine r_sval hi wJ0_9 dJ0_charAt_5068e_8 ?_
  refine r_iload_n dJ0_charAt_5068e_11 rfl ?_
  refine r_inv_i csJ0_495 (sp_l1char id hi j hin μ) rfl rfl (Nat.le_of_ble_eq_true rfl) (Nat.le_of_ble_eq_true rfl) dJ0_charAt_5068e_12 ?_
  exact r_zret rfl (pk_nc _) dJ0_charAt_5068e_15 ⟨rfl, rfl⟩
/-! indexOf -/
def kbIx (c : Int32) (tx : List Int32) : Nat → Nat → Int32
  | 0, _ => -1
  | k + 1, j => if tx.getD j 0 = c then nI j else kbIx c tx k (j + 1)
def kbSindex (id : Nat) (c : Int32) : Int32 := if c < 0 then -1 else if 255 < c then -1 else kbIx c.toInt8.toInt32 (kbTx.getD id []) (kbTx.getD id []).length 0
theorem ixc_loop {l : Launch} {Q : kbQt} (id : Nat) (hi : id < kbTx.length) (c a1 a2 : Int32) (μ : kbM) : ∀ (k j : Nat), j + k = (kbTx.getD id []).length → Q (some (.int (kbIx c (kbTx.getD id []) k j))) μ →
    kbR l MJ_ixc 1 Q 7 [some (.ref (2000 + id)), some (.int a1), some (.int a2), some (.int (nI (kbTx.getD id []).length)), some (.int c), some (.int (nI j))] [] μ := by
  have hn := kbTx_small id hi
  intro k
  induction k with
  | zero =>
    intro j hj hq
    refine r_iload dJ1_indexOfChar_4cfef_7 rfl ?_
    refine r_iload_n dJ1_indexOfChar_4cfef_9 rfl ?_
    refine r_icmp_ge 31 dJ1_indexOfChar_4cfef_10 (by decide) (fun hc => ?_) (fun hc => ?_)
    · refine r_iconst (-1) dJ1_indexOfChar_4cfef_31 (by decide) ?_
      exact r_iret rfl dJ1_indexOfChar_4cfef_32 hq
    · exact absurd (nI_le (by omega) (by omega)) hc
  | succ k ih =>
    intro j hj hq
    refine r_iload dJ1_indexOfChar_4cfef_7 rfl ?_
    refine r_iload_n dJ1_indexOfChar_4cfef_9 rfl ?_
    refine r_icmp_ge 31 dJ1_indexOfChar_4cfef_10 (by decide) (fun hc => ?_) (fun hc => ?_)
    · exact absurd hc (nI_ge (by omega) (by omega))
    · refine r_aload_n dJ1_indexOfChar_4cfef_13 rfl ?_
      refine r_iload dJ1_indexOfChar_4cfef_14 rfl ?_
      refine r_sald hi (vp_in_nI (by omega) (by omega)) dJ1_indexOfChar_4cfef_16 ?_
      refine r_iload dJ1_indexOfChar_4cfef_17 rfl ?_
      rw [nI_clamp (by omega)]
      refine r_icmp_ne 25 dJ1_indexOfChar_4cfef_19 (by decide) (fun hc => ?_) (fun hc => ?_)
      · rw [kbIx, if_neg hc] at hq
        refine r_iinc 1 dJ1_indexOfChar_4cfef_25 rfl (by decide) (Nat.le_of_ble_eq_true rfl) rfl ?_
        refine r_goto 7 dJ1_indexOfChar_4cfef_28 (by decide) ?_
        rw [nI_1]
        exact ih (j + 1) (by omega) hq
      · rw [kbIx, if_pos hc] at hq
        refine r_iload dJ1_indexOfChar_4cfef_22 rfl ?_
        exact r_iret rfl dJ1_indexOfChar_4cfef_24 hq
theorem sp_ixc {l : Launch} (id : Nat) (hi : id < kbTx.length) (c : Int32) (μ : kbM) : kbS l MJ_ixc 1 [.ref (2000 + id), .int c, .int 0, .int (nI (kbTx.getD id []).length)] μ (kbQe (some (.int (kbIx c.toInt8.toInt32 (kbTx.getD id []) (kbTx.getD id []).length 0))) μ) := by
  refine kb_enter 2 rfl rfl ?_
  refine r_iload_n dJ1_indexOfChar_4cfef_0 rfl ?_
  refine r_i2b dJ1_indexOfChar_4cfef_1 ?_
  refine r_istore dJ1_indexOfChar_4cfef_2 (Nat.le_of_ble_eq_true rfl) rfl ?_
  refine r_iload_n dJ1_indexOfChar_4cfef_4 rfl ?_
  refine r_istore dJ1_indexOfChar_4cfef_5 (Nat.le_of_ble_eq_true rfl) rfl ?_
  exact ixc_loop id hi c.toInt8.toInt32 c 0 μ _ 0 (by omega) ⟨rfl, rfl⟩
theorem sp_canEnc {l : Launch} (c : Int32) (μ : kbM) : kbS l MJ_canEnc 1 [.int c] μ (kbQe (some (.int (if c < 0 then 0 else if 255 < c then 0 else 1))) μ) := by
  refine kb_enter 0 rfl rfl ?_
  refine r_iload_n dJ1_canEncode_9a6ad_0 rfl ?_
  refine r_if_lt 15 dJ1_canEncode_9a6ad_1 (by decide) (fun hc => ?_) (fun hc => ?_)
  · refine r_iconst 0 dJ1_canEncode_9a6ad_15 (by decide) ?_
    refine r_zret rfl rfl dJ1_canEncode_9a6ad_16 ⟨?_, rfl⟩
    rw [if_pos hc]
  · refine r_iload_n dJ1_canEncode_9a6ad_4 rfl ?_
    refine r_sipush 255 dJ1_canEncode_9a6ad_5 (by decide) ?_
    refine r_icmp_gt 15 dJ1_canEncode_9a6ad_8 (by decide) (fun hd => ?_) (fun hd => ?_)
    · refine r_iconst 0 dJ1_canEncode_9a6ad_15 (by decide) ?_
      refine r_zret rfl rfl dJ1_canEncode_9a6ad_16 ⟨?_, rfl⟩
      rw [if_neg hc, if_pos hd]
    · refine r_iconst 1 dJ1_canEncode_9a6ad_11 (by decide) ?_
      refine r_goto 16 dJ1_canEncode_9a6ad_12 (by decide) ?_
      refine r_zret rfl rfl dJ1_canEncode_9a6ad_16 ⟨?_, rfl⟩
      rw [if_neg hc, if_neg hd]
theorem kbTx_pos : ∀ id, id < kbTx.length → 0 < (kbTx.getD id []).length := by decide +kernel
theorem sp_ix1 {l : Launch} (id : Nat) (hi : id < kbTx.length) (c : Int32) (μ : kbM) : kbS l MJ_ix1 2 [.ref (2000 + id), .int c, .int 0, .int (kbSlen id)] μ (kbQe (some (.int (kbSindex id c))) μ) := by
  have hn := kbTx_small id hi
  have hp := kbTx_pos id hi
  refine kb_enter 0 rfl rfl ?_
  refine r_iload_n dJ1_indexOf_4cfef_0 rfl ?_
  refine r_inv_i csJ1_88 (sp_canEnc c μ) rfl rfl (Nat.le_of_ble_eq_true rfl) (Nat.le_of_ble_eq_true rfl) dJ1_indexOf_4cfef_1 ?_
  refine r_if_ne 9 dJ1_indexOf_4cfef_4 (by decide) (fun hc => ?_) (fun hc => ?_)
  · have h1 : ¬ c < 0 := fun h => hc (by rw [if_pos h])
    have h2 : ¬ 255 < c := fun h => hc (by rw [if_neg h1, if_pos h])
    refine r_iload_n dJ1_indexOf_4cfef_9 rfl ?_
    refine r_iconst 0 dJ1_indexOf_4cfef_10 (by decide) ?_
    refine r_max mlJ1_92 (Nat.le_of_ble_eq_true rfl) (Nat.le_of_ble_eq_true rfl) dJ1_indexOf_4cfef_11 ?_
    refine r_istore_n dJ1_indexOf_4cfef_14 (Nat.le_of_ble_eq_true rfl) rfl ?_
    refine r_iload_n dJ1_indexOf_4cfef_15 rfl ?_
    refine r_aload_n dJ1_indexOf_4cfef_16 rfl ?_
    refine r_slen hi dJ1_indexOf_4cfef_17 ?_
    refine r_min mlJ1_38 (Nat.le_of_ble_eq_true rfl) (Nat.le_of_ble_eq_true rfl) dJ1_indexOf_4cfef_18 ?_
    refine r_istore_n dJ1_indexOf_4cfef_21 (Nat.le_of_ble_eq_true rfl) rfl ?_
    have e1 : kbMax 0 0 = 0 := by decide
    have e2 : kbMin (kbSlen id) (Int32.ofNat (kbTx.getD id []).length) = nI (kbTx.getD id []).length := by
      unfold kbMin kbSlen
      split <;> rfl
    rw [e1, e2]
    refine r_iload_n dJ1_indexOf_4cfef_22 rfl ?_
    refine r_iload_n dJ1_indexOf_4cfef_23 rfl ?_
    refine r_icmp_lt 29 dJ1_indexOf_4cfef_24 (by decide) (fun _ => ?_) (fun hd => ?_)
    · refine r_aload_n dJ1_indexOf_4cfef_29 rfl ?_
      refine r_iload_n dJ1_indexOf_4cfef_30 rfl ?_
      refine r_iload_n dJ1_indexOf_4cfef_31 rfl ?_
      refine r_iload_n dJ1_indexOf_4cfef_32 rfl ?_
      refine r_inv_i csJ1_95 (sp_ixc id hi c μ) rfl rfl (Nat.le_of_ble_eq_true rfl) (Nat.le_of_ble_eq_true rfl) dJ1_indexOf_4cfef_33 ?_
      refine r_iret rfl dJ1_indexOf_4cfef_36 ⟨?_, rfl⟩
      unfold kbSindex
      rw [if_neg h1, if_neg h2]
    · exact absurd (nI_lt hp hn) hd
  · refine r_iconst (-1) dJ1_indexOf_4cfef_7 (by decide) ?_
    refine r_iret rfl dJ1_indexOf_4cfef_8 ⟨?_, rfl⟩
    unfold kbSindex
    by_cases h1 : c < 0
    · rw [if_pos h1]
    · rw [if_neg h1] at hc ⊢
      by_cases h2 : 255 < c
      · rw [if_pos h2]
      · rw [if_neg h2] at hc
        exact absurd hc (by decide)
theorem sp_sindex2 {l : Launch} (id : Nat) (hi : id < kbTx.length) (c : Int32) (μ : kbM) : kbS l MJ_sindex2 3 [.ref (1000 + id), .int c, .int 0] μ (kbQe (some (.int (kbSindex id c))) μ) := by
  refine kb_enter 0 rfl rfl ?_
  refine r_aload_n dJ0_indexOf_7cf53_0 rfl ?_
  refine r_invS_i cvJ0_492 hi rfl (sp_lat id hi μ) rfl rfl (Nat.le_of_ble_eq_true rfl) (Nat.le_of_ble_eq_true rfl) dJ0_indexOf_7cf53_1 ?_
  refine r_if_eq 23 dJ0_indexOf_7cf53_4 (by decide) (fun hc => absurd hc (by decide)) (fun _ => ?_)
  refine r_aload_n dJ0_indexOf_7cf53_7 rfl ?_
  refine r_sval hi wJ0_9 dJ0_indexOf_7cf53_8 ?_
  refine r_iload_n dJ0_indexOf_7cf53_11 rfl ?_
  refine r_iload_n dJ0_indexOf_7cf53_12 rfl ?_
  refine r_aload_n dJ0_indexOf_7cf53_13 rfl ?_
  refine r_invS_i cvJ0_505 hi rfl (sp_slen id hi μ) rfl rfl (Nat.le_of_ble_eq_true rfl) (Nat.le_of_ble_eq_true rfl) dJ0_indexOf_7cf53_14 ?_
  refine r_inv_i csJ0_637 (sp_ix1 id hi c μ) rfl rfl (Nat.le_of_ble_eq_true rfl) (Nat.le_of_ble_eq_true rfl) dJ0_indexOf_7cf53_17 ?_
  refine r_goto 36 dJ0_indexOf_7cf53_20 (by decide) ?_
  exact r_iret rfl dJ0_indexOf_7cf53_36 ⟨rfl, rfl⟩
theorem sp_sindex {l : Launch} (id : Nat) (hi : id < kbTx.length) (c : Int32) (μ : kbM) : kbS l MJ_sindex 4 [.ref (1000 + id), .int c] μ (kbQe (some (.int (kbSindex id c))) μ) := by
  refine kb_enter 0 rfl rfl ?_
  refine r_aload_n dJ0_indexOf_0f7a4_0 rfl ?_
  refine r_iload_n dJ0_indexOf_0f7a4_1 rfl ?_
  refine r_iconst 0 dJ0_indexOf_0f7a4_2 (by decide) ?_
  refine r_invS_i cvJ0_633 hi rfl (sp_sindex2 id hi c μ) rfl rfl (Nat.le_of_ble_eq_true rfl) (Nat.le_of_ble_eq_true rfl) dJ0_indexOf_0f7a4_3 ?_
  exact r_iret rfl dJ0_indexOf_0f7a4_6 ⟨rfl, rfl⟩
/-! bitCount -/
def kbBc1 (x : Int32) : Int32 := x - (kbUsh x 1 &&& 1431655765)
def kbBc2 (x : Int32) : Int32 := (x &&& 858993459) + (kbUsh x 2 &&& 858993459)
def kbBc3 (x : Int32) : Int32 := (x + kbUsh x 4) &&& 252645135
def kbBits (x : Int32) : Int32 := (kbBc3 (kbBc2 (kbBc1 x)) + kbUsh (kbBc3 (kbBc2 (kbBc1 x))) 8 + kbUsh (kbBc3 (kbBc2 (kbBc1 x)) + kbUsh (kbBc3 (kbBc2 (kbBc1 x))) 8) 16) &&& 63

theorem sp_bitCount {l : Launch} (x : Int32) (μ : kbM) : kbS l MJ_bitCount 1 [.int x] μ (kbQe (some (.int (kbBits x))) μ) := by
  refine kb_enter 0 rfl rfl ?_
  refine r_iload_n dJ6_bitCount_0f7a4_0 rfl ?_
  refine r_iload_n dJ6_bitCount_0f7a4_1 rfl ?_
  refine r_iconst 1 dJ6_bitCount_0f7a4_2 (by decide) ?_
  refine r_ush dJ6_bitCount_0f7a4_3 ?_
  refine r_ldcw 1431655765 liJ6_265 dJ6_bitCount_0f7a4_4 ?_
  refine r_iand dJ6_bitCount_0f7a4_7 ?_
  refine r_isub dJ6_bitCount_0f7a4_8 ?_
  refine r_istore_n dJ6_bitCount_0f7a4_9 (Nat.le_of_ble_eq_true rfl) rfl ?_
  refine r_iload_n dJ6_bitCount_0f7a4_10 rfl ?_
  refine r_ldcw 858993459 liJ6_266 dJ6_bitCount_0f7a4_11 ?_
  refine r_iand dJ6_bitCount_0f7a4_14 ?_
  refine r_iload_n dJ6_bitCount_0f7a4_15 rfl ?_
  refine r_iconst 2 dJ6_bitCount_0f7a4_16 (by decide) ?_
  refine r_ush dJ6_bitCount_0f7a4_17 ?_
  refine r_ldcw 858993459 liJ6_266 dJ6_bitCount_0f7a4_18 ?_
  refine r_iand dJ6_bitCount_0f7a4_21 ?_
  refine r_iadd dJ6_bitCount_0f7a4_22 ?_
  refine r_istore_n dJ6_bitCount_0f7a4_23 (Nat.le_of_ble_eq_true rfl) rfl ?_
  refine r_iload_n dJ6_bitCount_0f7a4_24 rfl ?_
  refine r_iload_n dJ6_bitCount_0f7a4_25 rfl ?_
  refine r_iconst 4 dJ6_bitCount_0f7a4_26 (by decide) ?_
  refine r_ush dJ6_bitCount_0f7a4_27 ?_
  refine r_iadd dJ6_bitCount_0f7a4_28 ?_
  refine r_ldcw 252645135 liJ6_267 dJ6_bitCount_0f7a4_29 ?_
  refine r_iand dJ6_bitCount_0f7a4_32 ?_
  refine r_istore_n dJ6_bitCount_0f7a4_33 (Nat.le_of_ble_eq_true rfl) rfl ?_
  refine r_iload_n dJ6_bitCount_0f7a4_34 rfl ?_
  refine r_iload_n dJ6_bitCount_0f7a4_35 rfl ?_
  refine r_bipush 8 dJ6_bitCount_0f7a4_36 (by decide) ?_
  refine r_ush dJ6_bitCount_0f7a4_38 ?_
  refine r_iadd dJ6_bitCount_0f7a4_39 ?_
  refine r_istore_n dJ6_bitCount_0f7a4_40 (Nat.le_of_ble_eq_true rfl) rfl ?_
  refine r_iload_n dJ6_bitCount_0f7a4_41 rfl ?_
  refine r_iload_n dJ6_bitCount_0f7a4_42 rfl ?_
  refine r_bipush 16 dJ6_bitCount_0f7a4_43 (by decide) ?_
  refine r_ush dJ6_bitCount_0f7a4_45 ?_
  refine r_iadd dJ6_bitCount_0f7a4_46 ?_
  refine r_istore_n dJ6_bitCount_0f7a4_47 (Nat.le_of_ble_eq_true rfl) rfl ?_
  refine r_iload_n dJ6_bitCount_0f7a4_48 rfl ?_
  refine r_bipush 63 dJ6_bitCount_0f7a4_49 (by decide) ?_
  refine r_iand dJ6_bitCount_0f7a4_51 ?_
  exact r_iret rfl dJ6_bitCount_0f7a4_52 ⟨rfl, rfl⟩
theorem r_ldcSw {l : Launch} {M : kbMt} {d : Nat} {Q : kbQt} {pc : Nat} {L : List (Option Value)} {st : List Value} {μ : kbM} {idx id : Nat} {tx : String} (hw : (M.1.cls, idx, tx, id) ∈ kbSR) (hd : decode M.2.1 pc = .ok (.ldc_w idx, 3)) (kk : kbR l M d Q (pc + 3) L (.ref (1000 + id) :: st) μ) : kbR l M d Q pc L st μ := by
  intro E p e s m args below meth c C H locs ls hP hS hL
  have hZ := C.2.2.2.2.2.2.2.2.2.1.2.2 _ hw
  have k := kk E p e s m args below meth c C H locs ls hP hS hL
  intro T hT X
  obtain ⟨t, a1, b1⟩ := k T hT X
  exact ⟨t, X.ldcStringW C.1 C.2.2.2.2.2.1 (text := tx) (a := E.1 (1000 + id)) hZ.1 hZ.2 (g := F0 m pc ls (st.map (kbV E))) rfl (by rw [C.2.1]; exact hd) t a1, b1⟩
